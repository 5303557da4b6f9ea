/-! SOUNDNESS, the first half: what a state of the abstract machine is in the machine's heap -/
def tv (base b : Nat) : Value → Value
  | .ref k => if k = scr then .ref b else .ref (base + k)
  | v => v
def xA (base : Nat) : Nat → Prop := fun q => base ≤ q
def fv (base : Nat) (δ : DL) (σ : SG) (k j : Nat) : Value := match (tb k).2.2.getD j none with
  | none => .int (σ k j)
  | some t => if δ k j = true then .ref (base + t) else .null
def cel (base : Nat) (cI cG : ClassId) (δ : DL) (σ : SG) (k : Nat) : va_E := match (tb k).1 with
  | 0 => .inl (cI, (tb k).2.1, .inl (σ k))
  | 1 => .inl (cG, (tb k).2.1, .inr (.inr (.inr (.inr (fun j => some (base + (k + 1 + j)))))))
  | ci + 2 => .inr (ci, (List.range (tb k).2.1).map (fv base δ σ k))
def wl (base : Nat) (cI cG : ClassId) (n : Nat) (δ : DL) (σ : SG) : va_W := (List.range n).map fun k => (base + k, cel base cI cG δ σ k)
def tys2 (cI cG : ClassId) : List (ClassId × FieldType) := [(cI, .int), (cG, .array .int)]
def LH (base b nL : Nat) (ls : Array Slot) (L : List Value) : Prop := ls.size = nL ∧ lv_wf ls ∧ L.length = nL ∧ ∀ (i : Nat) (v : Value), L[i]? = some v → v ≠ dum → ls[i]? = some (.val (tv base b v))
def RP (D : va_G) (cI cG : ClassId) (base n : Nat) (δ : DL) (σ : SG) (H : Heap) : Prop := va_P D vwCl (wl base cI cG n δ σ) H
def NEST : List (String × Nat × MethodName × String) := [("TurnedInSix", 11, ⟨"TurnedInSix$Tape", "<init>", "()V"⟩, "TurnedInSix"), ("TurnedInSix", 68, ⟨"TurnedInSix$Try", "<init>", "()V"⟩, "TurnedInSix"), ("TurnedInSix", 75, ⟨"TurnedInSix$Times", "<init>", "()V"⟩, "TurnedInSix"), ("TurnedInSix", 91, ⟨"TurnedInSix$Image", "<init>", "()V"⟩, "TurnedInSix"), ("TurnedInSix$Tape", 21, ⟨"TurnedInSix", "isPlace", "(I)Z"⟩, "TurnedInSix")]
def AOI (U : State) : Prop := ∃ (comp c : ClassId) (k : Class), U.vm.findClass (FieldType.array .int).toString = some comp ∧ (U.vm.classes.findIdx? fun (x : Class) => match x.kind with | .array component _ => component == comp | _ => false) = some c ∧ U.vm.classes[c]? = some k ∧ k.kind = .array comp (.array .int) ∧ U.vm.findClass ("[" ++ (FieldType.array .int).toString) = some c
theorem AOI.of {A : Array Value} {U : State} (h : (Cond.arrayOver (.array .int)).before A U = true) : AOI U := by
  have h : (Cond.arrayOver (.array .int)).holds A U none U [] = true := h
  simp only [Cond.holds, Cond.value, beq_iff_eq] at h
  cases hc : U.vm.findClass (FieldType.array .int).toString with
  | none => simp [hc] at h
  | some comp =>
    simp only [hc, Option.bind_some, Option.bind_eq_some_iff, Option.map_eq_some_iff] at h
    obtain ⟨c, hi, k, hk, hb⟩ := h
    obtain ⟨hlt, hp, -⟩ := Array.findIdx?_eq_some_iff_getElem.mp hi
    have hkk : U.vm.classes[c] = k := (Array.getElem?_eq_some_iff.mp hk).2
    rw [hkk] at hp
    cases hkind : k.kind with
    | array component ty =>
      rw [hkind] at hb hp
      simp at hb hp
      exact ⟨comp, c, k, hc, hi, hk, by rw [hkind, hp, hb.1], hb.2⟩
    | _ => rw [hkind] at hb; simp at hb
theorem AOI.use {A : Array Value} {U : State} (h : AOI U) : (Cond.arrayOver (.array .int)).before A U = true := by
  obtain ⟨comp, c, k, f1, hi, hk, hkind, f2⟩ := h
  unfold Cond.before Cond.holds
  simp only [Cond.value]
  rw [f1, Option.bind_some]
  refine (congrArg (fun o : Option Nat => (o.bind (fun c => (U.vm.classes[c]?).map fun (k : Class) => match k.kind with | .array _ ty => decide (ty = FieldType.array .int) && decide (U.vm.findClass ("[" ++ (FieldType.array .int).toString) = some c) | _ => false) == some true)) hi).trans ?_
  simp [hk, hkind, f2]
theorem AOI.moved {u U : State} (hvm : u.vm.Alike U.vm) (h : AOI u) : AOI U := by
  obtain ⟨comp, c, k, h1, h2, h3, h4, h5⟩ := h
  obtain ⟨k', hk', he⟩ := hvm.2.2 _ _ h3
  refine ⟨comp, c, k', by rw [hvm.findClass]; exact h1, ?_, hk', by rw [he]; exact h4, by rw [hvm.findClass]; exact h5⟩
  have e1 := va_idx_bare U.vm comp
  have e2 := va_idx_bare u.vm comp
  have e3 : U.vm.bare = u.vm.bare := by first | exact hvm.bare_eq | exact hvm.bare_eq.symm
  rw [e3] at e1
  exact (e1.symm.trans e2).trans h2
def NW2 (U : State) : Prop := (∀ q ∈ NEST, va_Nw (.methodLinkNest q.1 q.2.1 q.2.2.1 q.2.2.2) U) ∧ AOI U
theorem NW2.warm {s U : State} (h : NW2 s) (hW : s.WarmedH U.vm) : NW2 U := ⟨fun q hq => va_Nw.warmM hW (h.1 q hq), h.2.moved hW.alike⟩
theorem NW2.same {s U : State} (h : NW2 s) (hW : s.vm = U.vm) : NW2 U := ⟨fun q hq => va_Nw.same rfl hW (h.1 q hq), h.2.moved (by rw [hW]; exact Vm.Alike.refl _)⟩
def CX (p : Program) (R : Room) (s : State) (m : MethodId) (args : Array Value) (meth : Method) (c : Code) (D : va_G) (cI cG : ClassId) (base b : Nat) (own : String) (cc : ByteArray) (nL : Nat) (init : Bool) (sc : Option (Nat × (Nat → Int32))) : Prop :=
  p.tables.exec = Jvm.exec ∧ c.code = cc ∧ c.maxLocals = nL ∧ s.vm.findClass own = some m.cls ∧ (∀ w ∈ BIG, w.before args s = true) ∧ va_K D vwCl (tys2 cI cG) s ∧ (init = true → meth.name = "<init>") ∧
  (∀ (Ln : Nat) (xs : Nat → Int32), sc = some (Ln, xs) → va_X b Ln xs s s.heap ∧ b < s.heap.size ∧ ¬ xA base b) ∧ 1 ≤ R.frames ∧ 100 ≤ R.locals ∧ NW2 s
def WM (p : Program) (l : Launch) (e : Env) (R : Room) (s : State) (m : MethodId) (args : Array Value) (below : List Frame) (meth : Method) (c : Code) (D : va_G) (cI cG : ClassId) (base b nL n0 u0 : Nat) (Q : State → Prop) : PX := fun pc L S A σ =>
  ∀ (H : Heap) (locs : List Loc) (ls : Array Slot), n0 ≤ A.1 → u0 ≤ A.2.1 → RP D cI cG base A.1 A.2.2 σ H → va_S (xA base) s.heap H locs → LH base b nL ls L →
    W p l e R s m args below meth c H locs (A.1 - n0) (A.2.1 - u0) Q (F0 m pc ls (S.map (tv base b)))
theorem tv_def (base b k : Nat) : tv base b (.ref k) = if k = scr then .ref b else .ref (base + k) := rfl
theorem tv_k {base b k : Nat} (h : k < nObj) : tv base b (.ref k) = .ref (base + k) := by
  rw [tv_def, if_neg (by intro q; rw [q] at h; exact absurd h (by decide))]
theorem tv_ref (base b x : Nat) : ∃ y, tv base b (.ref x) = .ref y := by
  rw [tv_def]
  by_cases h : x = scr
  · exact ⟨b, if_pos h⟩
  · exact ⟨base + x, if_neg h⟩
theorem tv_cat (base b : Nat) (v : Value) : (tv base b v).category = v.category := by
  cases v <;> first | rfl | (rename_i x; obtain ⟨y, hy⟩ := tv_ref base b x; rw [hy]; rfl)
theorem cats_tv (base b : Nat) (S : List Value) : ((S.map (tv base b)).map fun v => v.category).sum = cats S := by
  unfold cats
  rw [List.map_map]
  congr 1
  apply List.map_congr_left
  intro v _
  exact tv_cat base b v
theorem LH.at {base b nL : Nat} {ls : Array Slot} {L : List Value} (h : LH base b nL ls L) {i : Nat} {v : Value} (hi : L[i]? = some v) (hv : v ≠ dum) : ls[i]? = some (.val (tv base b v)) := h.2.2.2 i v hi hv
def lvL (base b : Nat) (L : List Value) : List (Nat × Value) := (List.range L.length).filterMap fun j => match L[j]? with
  | some v => if v = dum then none else some (j, tv base b v)
  | none => none
theorem lvL_mem {base b : Nat} {L : List Value} {j : Nat} {w : Value} : (j, w) ∈ lvL base b L ↔ ∃ v, L[j]? = some v ∧ v ≠ dum ∧ w = tv base b v := by
  unfold lvL
  rw [List.mem_filterMap]
  constructor
  · rintro ⟨a, -, ha⟩
    split at ha
    next v hv =>
      split at ha
      · cases ha
      next hd => cases ha; exact ⟨v, hv, hd, rfl⟩
    next => cases ha
  · rintro ⟨v, h1, h2, rfl⟩
    refine ⟨j, List.mem_range.mpr (List.getElem?_eq_some_iff.mp h1).1, ?_⟩
    simp [h1, h2]
theorem LH.has {base b nL : Nat} {ls : Array Slot} {L : List Value} (h : LH base b nL ls L) : lv_has ls nL (lvL base b L) := by
  refine ⟨h.1, h.2.1, ?_⟩
  rintro ⟨j, w⟩ hq
  obtain ⟨v, h1, h2, rfl⟩ := lvL_mem.mp hq
  exact h.2.2.2 j v h1 h2
theorem LH.stored {base b nL : Nat} {ls : Array Slot} {L : List Value} {i : Nat} {x : Value} (h : LH base b nL ls L) (hi : i < L.length) (ok : stOK L i) {ls' : Array Slot}
    (k : lv_has ls' nL ((i, tv base b x) :: (lvL base b L).filter (fun q => !(q.1 == i) && !(q.1 + 1 == i && q.2.category == 2)))) : LH base b nL ls' (L.set i x) := by
  refine ⟨k.1, k.2.1, by rw [List.length_set]; exact h.2.2.1, fun j v hj hv => ?_⟩
  by_cases e : j = i
  · subst e
    rw [List.getElem?_set_self hi] at hj
    cases hj
    exact k.2.2 _ List.mem_cons_self
  · rw [List.getElem?_set_ne (Ne.symm e)] at hj
    refine k.2.2 (j, tv base b v) (List.mem_cons_of_mem _ (List.mem_filter.mpr ⟨lvL_mem.mpr ⟨v, hj, hv, rfl⟩, ?_⟩))
    have h2 : ¬ (j + 1 = i ∧ (tv base b v).category = 2) := fun q => by
      rw [tv_cat, ok j v q.1 hj] at q
      exact absurd q.2 (by decide)
    simp [e]
    exact Classical.not_and_iff_not_or_not.mp h2
theorem wl_at (base : Nat) (cI cG : ClassId) {n k : Nat} (δ : DL) (σ : SG) (h : k < n) : (wl base cI cG n δ σ)[k]? = some (base + k, cel base cI cG δ σ k) := by
  simp [wl, h]
theorem wl_of {base : Nat} {cI cG : ClassId} {n k : Nat} {δ : DL} {σ : SG} {q : Nat × va_E} (h : (wl base cI cG n δ σ)[k]? = some q) : k < n ∧ q = (base + k, cel base cI cG δ σ k) := by
  have hk : k < n := by
    have := (List.getElem?_eq_some_iff.mp h).1
    simpa [wl] using this
  rw [wl_at base cI cG δ σ hk] at h
  exact ⟨hk, (Option.some.inj h).symm⟩
theorem wl_D (base : Nat) (cI cG : ClassId) (n : Nat) (δ : DL) (σ : SG) : va_D (xA base) (wl base cI cG n δ σ) := by
  refine ⟨fun i j p q hi hj h => ?_, fun k q h => ?_⟩
  · obtain ⟨-, rfl⟩ := wl_of hi
    obtain ⟨-, rfl⟩ := wl_of hj
    have h2 : base + i = base + j := h
    omega
  · obtain ⟨-, rfl⟩ := wl_of h
    exact Nat.le_add_right _ _
theorem wl_set (base : Nat) (cI cG : ClassId) {n k : Nat} {δ δ' : DL} {σ σ' : SG} (h : ∀ j, j < n → j ≠ k → cel base cI cG δ σ j = cel base cI cG δ' σ' j) {e : va_E} (he : e = cel base cI cG δ' σ' k) : (wl base cI cG n δ σ).set k (base + k, e) = wl base cI cG n δ' σ' := by
  apply List.ext_getElem?
  intro j
  by_cases hj : j < n
  · by_cases e2 : j = k
    · subst e2
      rw [List.getElem?_set_self (by simpa [wl] using hj), wl_at base cI cG δ' σ' hj, he]
    · rw [List.getElem?_set_ne (Ne.symm e2), wl_at base cI cG δ σ hj, wl_at base cI cG δ' σ' hj, h j hj e2]
  · rw [List.getElem?_eq_none (by simp [wl]; omega), List.getElem?_eq_none (by simp [wl]; omega)]
theorem cel_obj {base : Nat} {cI cG : ClassId} {δ : DL} {σ : SG} {k ci : Nat} (h : (tb k).1 = ci + 2) : cel base cI cG δ σ k = .inr (ci, (List.range (tb k).2.1).map (fv base δ σ k)) := by
  unfold cel
  rw [h]
theorem cel_arr {base : Nat} {cI cG : ClassId} {δ : DL} {σ : SG} {k n : Nat} (h : IA k n) : cel base cI cG δ σ k = .inl (cI, n, .inl (σ k)) := by
  unfold cel
  rw [h.1, h.2.1]
theorem cel_grid {base : Nat} {cI cG : ClassId} {δ : DL} {σ : SG} {k n : Nat} (h : IG k n) : cel base cI cG δ σ k = .inl (cG, n, .inr (.inr (.inr (.inr (fun j => some (base + (k + 1 + j))))))) := by
  unfold cel
  rw [h.1, h.2.1]
theorem fv_int {base : Nat} {δ : DL} {σ : SG} {k ci j : Nat} (h : OI k ci j) : fv base δ σ k j = .int (σ k j) := by
  unfold fv
  rw [h.2.2.1]
theorem fv_ref {base : Nat} {δ : DL} {σ : SG} {k ci j t : Nat} (h : OR k ci j t) (hd : δ k j = true) : fv base δ σ k j = .ref (base + t) := by
  unfold fv
  rw [h.2.2.1]
  show (if δ k j = true then _ else _) = _
  rw [if_pos hd]
/-- a cell's contents depend on its own slots alone -/
theorem cel_cong {base : Nat} {cI cG : ClassId} {δ δ' : DL} {σ σ' : SG} {k : Nat} (h1 : δ k = δ' k) (h2 : σ k = σ' k) : cel base cI cG δ σ k = cel base cI cG δ' σ' k := by
  have hf : fv base δ σ k = fv base δ' σ' k := by
    funext j
    unfold fv
    rw [h1, h2]
  unfold cel
  rw [h2, hf]
theorem tb_small (k : Nat) : (tb k).2.1 < 5000 := by
  unfold tb
  have h : TB.all (fun e => decide (e.2.1 < 5000)) = true := by decide +kernel
  rw [List.getD_eq_getElem?_getD]
  cases hk : TB[k]? with
  | none => exact Nat.le_of_ble_eq_true rfl
  | some e => exact of_decide_eq_true (List.all_eq_true.mp h e (List.mem_of_getElem? hk))
theorem IA.lt {k n : Nat} (h : IA k n) : n < 2 ^ 31 := by
  have := tb_small k
  rw [h.2.1] at this
  omega
theorem IG.lt {k n : Nat} (h : IG k n) : n < 2 ^ 31 := by
  have := tb_small k
  rw [h.2.1] at this
  omega
theorem vw_in {ci : Nat} {q : vw_C} (h : vwCl[ci]? = some q) : ∀ w ∈ u_ws q.1 q.2.1 q.2.2, w ∈ BIG := by
  match ci, h with
  | 0, h => cases h; exact inX0
  | 1, h => cases h; exact inX1
  | 2, h => cases h; exact inX2
  | 3, h => cases h; exact inX3
  | 4, h => cases h; exact inX4
  | 5, h => cases h; exact inX5
  | 6, h => cases h; exact inX6
  | 7, h => cases h; exact inX7
  | 8, h => cases h; exact inX8
  | 9, h => cases h; exact inX9
  | 10, h => cases h; exact inX10
  | 11, h => cases h; exact inX11
  | 12, h => cases h; exact inX12
  | k + 13, h => simp [vwCl] at h
def vwTy (ci : Nat) : Nat → FieldType := match ci with
  | 0 => tyX0 | 1 => tyX1 | 2 => tyX2 | 3 => tyX3 | 4 => tyX4 | 5 => tyX5 | 6 => tyX6 | 7 => tyX7 | 8 => tyX8 | 9 => tyX9 | 10 => tyX10 | 11 => tyX11 | _ => tyX12
theorem vw_ok {ci : Nat} {q : vw_C} (h : vwCl[ci]? = some q) : (∀ k, k < q.2.2 → parseFieldDescriptor (q.2.1 k).2.2.1 = some (vwTy ci k)) ∧ ∀ a, a < q.2.2 → ∀ b, b < q.2.2 → a ≠ b → (q.2.1 a).2.1 ≠ (q.2.1 b).2.1 := by
  match ci, h with
  | 0, h => cases h; exact ⟨tyX0_ok, nmX0⟩
  | 1, h => cases h; exact ⟨tyX1_ok, nmX1⟩
  | 2, h => cases h; exact ⟨tyX2_ok, nmX2⟩
  | 3, h => cases h; exact ⟨tyX3_ok, nmX3⟩
  | 4, h => cases h; exact ⟨tyX4_ok, nmX4⟩
  | 5, h => cases h; exact ⟨tyX5_ok, nmX5⟩
  | 6, h => cases h; exact ⟨tyX6_ok, nmX6⟩
  | 7, h => cases h; exact ⟨tyX7_ok, nmX7⟩
  | 8, h => cases h; exact ⟨tyX8_ok, nmX8⟩
  | 9, h => cases h; exact ⟨tyX9_ok, nmX9⟩
  | 10, h => cases h; exact ⟨tyX10_ok, nmX10⟩
  | 11, h => cases h; exact ⟨tyX11_ok, nmX11⟩
  | 12, h => cases h; exact ⟨tyX12_ok, nmX12⟩
  | k + 13, h => simp [vwCl] at h
