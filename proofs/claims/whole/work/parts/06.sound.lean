/-! SOUNDNESS, rule by rule -/
theorem nd_i (x : Int32) : Value.int x ≠ dum := fun h => by unfold dum at h; cases h
theorem nd_l (x : Int64) : Value.long x ≠ dum := fun h => by unfold dum at h; cases h
theorem nd_r (x : Nat) : Value.ref x ≠ dum := fun h => by unfold dum at h; cases h
def AOK (R : Room) (n0 u0 : Nat) (A : AL) : Prop := n0 ≤ A.1 ∧ u0 ≤ A.2.1 ∧ A.1 - n0 ≤ R.cells ∧ A.2.1 - u0 ≤ R.slots
def WN (p : Program) (l : Launch) (e : Env) (R : Room) (s : State) (m : MethodId) (args : Array Value) (below : List Frame) (meth : Method) (c : Code) (D : va_G) (cI cG : ClassId) (base b nL n0 u0 : Nat) (Q : State → Prop) : PX := fun pc L S A σ =>
  ∀ (H : Heap) (locs : List Loc) (ls : Array Slot), AOK R n0 u0 A → RP D cI cG base A.1 A.2.2 σ H → va_S (xA base) s.heap H locs → LH base b nL ls L →
    W p l e R s m args below meth c H locs (A.1 - n0) (A.2.1 - u0) Q (F0 m pc ls (S.map (tv base b)))
theorem good_BIG {y : MethodName} {bytes : ByteArray} {maxL : Nat} {ret : Option FieldType} (h : Cond.code y bytes maxL ret ∈ BIG) : GoodIn BIG (Cond.code y bytes maxL ret :: BIG) := by
  intro w hw
  have hb : w ∈ BIG := by
    rcases List.mem_cons.mp hw with rfl | hw
    · exact h
    · exact hw
  exact ⟨hb, good_of_word (List.mem_filter.mp hb).2⟩
set_option maxRecDepth 100000 in
theorem bw_max : Cond.static Lib.Math.max.name ∈ BIG ∧ Cond.initialized "java/lang/Math" ∈ BIG ∧ Cond.code Lib.Math.max.name Lib.Math.max.code 2 (some .int) ∈ BIG := by decide +kernel
set_option maxRecDepth 100000 in
theorem bw_min : Cond.static Lib.Math.min.name ∈ BIG ∧ Cond.code Lib.Math.min.name Lib.Math.min.code 2 (some .int) ∈ BIG := by decide +kernel
set_option maxRecDepth 100000 in
theorem bw_copy : Cond.native arraycopyName ∈ BIG ∧ Cond.static arraycopyName ∈ BIG ∧ Cond.initialized "java/lang/System" ∈ BIG := by decide +kernel
set_option maxRecDepth 100000 in
theorem bw_obj : Cond.instanceMethod Lib.objectInit ∈ BIG ∧ Cond.code Lib.objectInit ⟨#[0xb1]⟩ 1 none ∈ BIG := by decide +kernel
theorem WK_spec : ∀ {L L2 : List Value}, WK L L2 → L2.length = L.length ∧ ∀ (i : Nat) (v : Value), L2[i]? = some v → v ≠ dum → L[i]? = some v
  | [], [], _ => ⟨rfl, fun i v h => by simp at h⟩
  | a :: l, c :: l2, h => by
    obtain ⟨h1, h2⟩ := h
    obtain ⟨e1, e2⟩ := WK_spec h2
    refine ⟨by rw [List.length_cons, List.length_cons, e1], fun i v hi hv => ?_⟩
    match i, hi with
    | 0, hi =>
      cases hi
      rcases h1 with h1 | h1
      · rw [h1]; rfl
      · exact absurd h1 hv
    | j + 1, hi => exact e2 j v hi hv
  | [], _ :: _, h => h.elim
  | _ :: _, [], h => h.elim
theorem LH_wk {base b nL : Nat} {ls : Array Slot} {L L2 : List Value} (h : WK L L2) (hL : LH base b nL ls L) : LH base b nL ls L2 := by
  obtain ⟨e1, e2⟩ := WK_spec h
  exact ⟨hL.1, hL.2.1, e1.trans hL.2.2.1, fun i v hi hv => hL.2.2.2 i v (e2 i v hi hv) hv⟩
theorem up_ne {σ : SG} {k j j2 : Nat} {v : Int32} (h : j2 ≠ k) : σ j2 = up σ k j v j2 := by
  funext q
  unfold up
  rw [if_neg (fun z => h z.1)]
theorem up_upd {σ : SG} {k j : Nat} {v : Int32} : upd (σ k) j v = up σ k j v k := by
  funext q
  unfold up upd
  by_cases h : q = j
  · rw [if_pos h, if_pos ⟨rfl, h⟩]
  · rw [if_neg h, if_neg (fun z => h z.2)]
theorem dOn_ne {δ : DL} {k j j2 : Nat} (h : j2 ≠ k) : δ j2 = dOn δ k j j2 := by
  funext q
  unfold dOn
  rw [if_neg (fun z => h z.1)]
theorem cpy_ne {σ : SG} {k0 a k1 c t j2 : Nat} (h : j2 ≠ k1) : σ j2 = cpy σ k0 a k1 c t j2 := by
  funext q
  unfold cpy
  rw [if_neg (fun z => h z.1)]
theorem cpy_cpy {σ : SG} {k0 a k1 c t : Nat} : va_cpy (σ k0) (σ k1) a c t = cpy σ k0 a k1 c t k1 := by
  funext q
  unfold cpy va_cpy
  by_cases h : c ≤ q ∧ q < c + t
  · rw [if_pos h, if_pos ⟨rfl, h⟩]
  · rw [if_neg h, if_neg (fun z => h z.2)]
theorem put_fs {base : Nat} {δ : DL} {σ : SG} {k ci j : Nat} {v : Int32} (h : OI k ci j) : ((List.range (tb k).2.1).map (fv base δ σ k)).set j (.int v) = (List.range (tb k).2.1).map (fv base δ (up σ k j v) k) := by
  apply List.ext_getElem?
  intro q
  by_cases hq : q < (tb k).2.1
  · by_cases e : q = j
    · subst e
      rw [List.getElem?_set_self (by simpa using hq), List.getElem?_map, List.getElem?_range hq, Option.map_some, fv_int h]
      unfold up
      rw [if_pos ⟨rfl, rfl⟩]
    · rw [List.getElem?_set_ne (Ne.symm e), List.getElem?_map, List.getElem?_map, List.getElem?_range hq, Option.map_some, Option.map_some]
      unfold fv up
      rw [if_neg (fun z => e z.2)]
  · rw [List.getElem?_eq_none (by simp; omega), List.getElem?_eq_none (by simp; omega)]
theorem put_fsR {base : Nat} {δ : DL} {σ : SG} {k ci j t : Nat} (h : OR k ci j t) : ((List.range (tb k).2.1).map (fv base δ σ k)).set j (.ref (base + t)) = (List.range (tb k).2.1).map (fv base (dOn δ k j) σ k) := by
  apply List.ext_getElem?
  intro q
  by_cases hq : q < (tb k).2.1
  · by_cases e : q = j
    · subst e
      rw [List.getElem?_set_self (by simpa using hq), List.getElem?_map, List.getElem?_range hq, Option.map_some, fv_ref h (by unfold dOn; rw [if_pos ⟨rfl, rfl⟩])]
    · rw [List.getElem?_set_ne (Ne.symm e), List.getElem?_map, List.getElem?_map, List.getElem?_range hq, Option.map_some, Option.map_some]
      unfold fv dOn
      rw [if_neg (fun z => e z.2)]
  · rw [List.getElem?_eq_none (by simp; omega), List.getElem?_eq_none (by simp; omega)]
theorem OR_lt {k ci j t : Nat} (h : OR k ci j t) : t < nObj := by
  have h0 : TB.all (fun e => e.2.2.all (fun r => decide (r.getD 0 < nObj))) = true := by decide +kernel
  have h1 := h.2.2.1
  have hk : k < TB.length := h.2.2.2
  have he : tb k = TB[k] := by
    unfold tb
    rw [List.getD_eq_getElem?_getD, List.getElem?_eq_getElem hk]
    rfl
  rw [he] at h1
  have h2 := List.all_eq_true.mp h0 _ (List.getElem_mem hk)
  rw [List.getD_eq_getElem?_getD] at h1
  cases hr : (TB[k]).2.2[j]? with
  | none => rw [hr] at h1; cases h1
  | some r =>
    rw [hr] at h1
    have h3 := of_decide_eq_true (List.all_eq_true.mp h2 r (List.mem_of_getElem? hr))
    have h4 : r = some t := h1
    rw [h4] at h3
    exact h3
section SND
variable {p : Program} {l : Launch} {e : Env} {R : Room} {s : State} {m : MethodId} {args : Array Value} {below : List Frame} {meth : Method} {c : Code} {D : va_G} {cI cG : ClassId} {base b : Nat} {own : String} {cc : ByteArray} {nL : Nat} {init : Bool} {sc : Option (Nat × (Nat → Int32))} {n0 u0 : Nat} {Q : State → Prop}
theorem s_iconst (C : CX p R s m args meth c D cI cG base b own cc nL init sc) : R_iconst cc  (WN p l e R s m args below meth c D cI cG base b nL n0 u0 Q) := by
  intro pc q L S A σ n v d hv hq hX H locs ls zA hP hS hL
  subst hq
  exact lv_iconst C.1 C.2.1 d hv (hX H locs ls zA hP hS hL)
theorem s_bipush (C : CX p R s m args meth c D cI cG base b own cc nL init sc) : R_bipush cc  (WN p l e R s m args below meth c D cI cG base b nL n0 u0 Q) := by
  intro pc q L S A σ n v d hv hq hX H locs ls zA hP hS hL
  subst hq
  exact lv_bipush C.1 C.2.1 d hv (hX H locs ls zA hP hS hL)
theorem s_sipush (C : CX p R s m args meth c D cI cG base b own cc nL init sc) : R_sipush cc  (WN p l e R s m args below meth c D cI cG base b nL n0 u0 Q) := by
  intro pc q L S A σ n v d hv hq hX H locs ls zA hP hS hL
  subst hq
  exact lv_sipush C.1 C.2.1 d hv (hX H locs ls zA hP hS hL)
theorem s_ldc (C : CX p R s m args meth c D cI cG base b own cc nL init sc) : R_ldc cc own (WN p l e R s m args below meth c D cI cG base b nL n0 u0 Q) := by
  intro pc q L S A σ idx v d hv hq hX H locs ls zA hP hS hL
  subst hq
  exact lv_ldc C.1 C.2.1 C.2.2.2.1 (C.2.2.2.2.1 _ hv) d (hX H locs ls zA hP hS hL)
theorem s_ldc2 (C : CX p R s m args meth c D cI cG base b own cc nL init sc) : R_ldc2 cc own (WN p l e R s m args below meth c D cI cG base b nL n0 u0 Q) := by
  intro pc q L S A σ idx v d hv hq hX H locs ls zA hP hS hL
  subst hq
  exact lv_ldc2 C.1 C.2.1 C.2.2.2.1 (C.2.2.2.2.1 _ hv) d (hX H locs ls zA hP hS hL)
theorem s_ldcw (C : CX p R s m args meth c D cI cG base b own cc nL init sc) : R_ldcw cc own (WN p l e R s m args below meth c D cI cG base b nL n0 u0 Q) := by
  intro pc q L S A σ idx v d hv hq hX H locs ls zA hP hS hL
  subst hq
  exact lv_ldcw C.1 C.2.1 C.2.2.2.1 (C.2.2.2.2.1 _ hv) d (hX H locs ls zA hP hS hL)
theorem s_iload_n (C : CX p R s m args meth c D cI cG base b own cc nL init sc) : R_iload_n cc  (WN p l e R s m args below meth c D cI cG base b nL n0 u0 Q) := by
  intro pc q L S A σ k x d hv hq hX H locs ls zA hP hS hL
  subst hq
  exact lv_iload_n C.1 C.2.1 d rfl (hL.at hv (nd_i _)) (hX H locs ls zA hP hS hL)
theorem s_iload (C : CX p R s m args meth c D cI cG base b own cc nL init sc) : R_iload cc  (WN p l e R s m args below meth c D cI cG base b nL n0 u0 Q) := by
  intro pc q L S A σ k x d hv hq hX H locs ls zA hP hS hL
  subst hq
  exact lv_iload C.1 C.2.1 d (hL.at hv (nd_i _)) (hX H locs ls zA hP hS hL)
theorem s_lload_n (C : CX p R s m args meth c D cI cG base b own cc nL init sc) : R_lload_n cc  (WN p l e R s m args below meth c D cI cG base b nL n0 u0 Q) := by
  intro pc q L S A σ k x d hv hq hX H locs ls zA hP hS hL
  subst hq
  exact lv_lload_n C.1 C.2.1 d rfl (hL.at hv (nd_l _)) (hX H locs ls zA hP hS hL)
theorem s_aload_n (C : CX p R s m args meth c D cI cG base b own cc nL init sc) : R_aload_n cc  (WN p l e R s m args below meth c D cI cG base b nL n0 u0 Q) := by
  intro pc q L S A σ k x d hv hq hX H locs ls zA hP hS hL
  subst hq
  obtain ⟨y, hy⟩ := tv_ref base b x
  have h1 := hL.at hv (nd_r _)
  have h2 := hX H locs ls zA hP hS hL
  rw [hy] at h1
  rw [List.map_cons, hy] at h2
  exact lv_aload_n C.1 C.2.1 d rfl h1 h2
theorem s_aload (C : CX p R s m args meth c D cI cG base b own cc nL init sc) : R_aload cc  (WN p l e R s m args below meth c D cI cG base b nL n0 u0 Q) := by
  intro pc q L S A σ k x d hv hq hX H locs ls zA hP hS hL
  subst hq
  obtain ⟨y, hy⟩ := tv_ref base b x
  have h1 := hL.at hv (nd_r _)
  have h2 := hX H locs ls zA hP hS hL
  rw [hy] at h1
  rw [List.map_cons, hy] at h2
  exact lv_aload C.1 C.2.1 d h1 h2
theorem s_iadd (C : CX p R s m args meth c D cI cG base b own cc nL init sc) : R_iadd cc  (WN p l e R s m args below meth c D cI cG base b nL n0 u0 Q) := by
  intro pc q L S A σ x y d  hq hX H locs ls zA hP hS hL
  subst hq
  exact lv_iadd C.1 C.2.1 d  (hX H locs ls zA hP hS hL)
theorem s_isub (C : CX p R s m args meth c D cI cG base b own cc nL init sc) : R_isub cc  (WN p l e R s m args below meth c D cI cG base b nL n0 u0 Q) := by
  intro pc q L S A σ x y d  hq hX H locs ls zA hP hS hL
  subst hq
  exact lv_isub C.1 C.2.1 d  (hX H locs ls zA hP hS hL)
theorem s_imul (C : CX p R s m args meth c D cI cG base b own cc nL init sc) : R_imul cc  (WN p l e R s m args below meth c D cI cG base b nL n0 u0 Q) := by
  intro pc q L S A σ x y d  hq hX H locs ls zA hP hS hL
  subst hq
  exact lv_imul C.1 C.2.1 d  (hX H locs ls zA hP hS hL)
theorem s_iand (C : CX p R s m args meth c D cI cG base b own cc nL init sc) : R_iand cc  (WN p l e R s m args below meth c D cI cG base b nL n0 u0 Q) := by
  intro pc q L S A σ x y d  hq hX H locs ls zA hP hS hL
  subst hq
  exact lv_iand C.1 C.2.1 d  (hX H locs ls zA hP hS hL)
theorem s_ior (C : CX p R s m args meth c D cI cG base b own cc nL init sc) : R_ior cc  (WN p l e R s m args below meth c D cI cG base b nL n0 u0 Q) := by
  intro pc q L S A σ x y d  hq hX H locs ls zA hP hS hL
  subst hq
  exact lv_ior C.1 C.2.1 d  (hX H locs ls zA hP hS hL)
theorem s_ixor (C : CX p R s m args meth c D cI cG base b own cc nL init sc) : R_ixor cc  (WN p l e R s m args below meth c D cI cG base b nL n0 u0 Q) := by
  intro pc q L S A σ x y d  hq hX H locs ls zA hP hS hL
  subst hq
  exact lv_ixor C.1 C.2.1 d  (hX H locs ls zA hP hS hL)
theorem s_ishl (C : CX p R s m args meth c D cI cG base b own cc nL init sc) : R_ishl cc  (WN p l e R s m args below meth c D cI cG base b nL n0 u0 Q) := by
  intro pc q L S A σ x y d  hq hX H locs ls zA hP hS hL
  subst hq
  exact lv_ishl C.1 C.2.1 d  (hX H locs ls zA hP hS hL)
theorem s_ishr (C : CX p R s m args meth c D cI cG base b own cc nL init sc) : R_ishr cc  (WN p l e R s m args below meth c D cI cG base b nL n0 u0 Q) := by
  intro pc q L S A σ x y d  hq hX H locs ls zA hP hS hL
  subst hq
  exact lv_ishr C.1 C.2.1 d  (hX H locs ls zA hP hS hL)
theorem s_ineg (C : CX p R s m args meth c D cI cG base b own cc nL init sc) : R_ineg cc  (WN p l e R s m args below meth c D cI cG base b nL n0 u0 Q) := by
  intro pc q L S A σ x d  hq hX H locs ls zA hP hS hL
  subst hq
  exact lv_ineg C.1 C.2.1 d  (hX H locs ls zA hP hS hL)
theorem s_land (C : CX p R s m args meth c D cI cG base b own cc nL init sc) : R_land cc  (WN p l e R s m args below meth c D cI cG base b nL n0 u0 Q) := by
  intro pc q L S A σ x y d  hq hX H locs ls zA hP hS hL
  subst hq
  exact lv_land C.1 C.2.1 d  (hX H locs ls zA hP hS hL)
theorem s_lor (C : CX p R s m args meth c D cI cG base b own cc nL init sc) : R_lor cc  (WN p l e R s m args below meth c D cI cG base b nL n0 u0 Q) := by
  intro pc q L S A σ x y d  hq hX H locs ls zA hP hS hL
  subst hq
  exact lv_lor C.1 C.2.1 d  (hX H locs ls zA hP hS hL)
theorem s_iushr (C : CX p R s m args meth c D cI cG base b own cc nL init sc) : R_iushr cc  (WN p l e R s m args below meth c D cI cG base b nL n0 u0 Q) := by
  intro pc q L S A σ x y d  hq hX H locs ls zA hP hS hL
  subst hq
  exact lv_iushr C.1 C.2.1 d rfl (hX H locs ls zA hP hS hL)
theorem s_idiv (C : CX p R s m args meth c D cI cG base b own cc nL init sc) : R_idiv cc  (WN p l e R s m args below meth c D cI cG base b nL n0 u0 Q) := by
  intro pc q L S A σ x y d hn hq hX H locs ls zA hP hS hL
  subst hq
  exact lv_idiv C.1 C.2.1 d hn (hX H locs ls zA hP hS hL)
theorem s_irem (C : CX p R s m args meth c D cI cG base b own cc nL init sc) : R_irem cc  (WN p l e R s m args below meth c D cI cG base b nL n0 u0 Q) := by
  intro pc q L S A σ x y d hn hq hX H locs ls zA hP hS hL
  subst hq
  exact lv_irem C.1 C.2.1 d hn (hX H locs ls zA hP hS hL)
theorem s_lshl (C : CX p R s m args meth c D cI cG base b own cc nL init sc) : R_lshl cc  (WN p l e R s m args below meth c D cI cG base b nL n0 u0 Q) := by
  intro pc q L S A σ x y d  hq hX H locs ls zA hP hS hL
  subst hq
  exact lv_lshl C.1 C.2.1 d rfl (hX H locs ls zA hP hS hL)
theorem s_lshr (C : CX p R s m args meth c D cI cG base b own cc nL init sc) : R_lshr cc  (WN p l e R s m args below meth c D cI cG base b nL n0 u0 Q) := by
  intro pc q L S A σ x y d  hq hX H locs ls zA hP hS hL
  subst hq
  exact lv_lshr C.1 C.2.1 d rfl (hX H locs ls zA hP hS hL)
theorem s_i2l (C : CX p R s m args meth c D cI cG base b own cc nL init sc) : R_i2l cc  (WN p l e R s m args below meth c D cI cG base b nL n0 u0 Q) := by
  intro pc q L S A σ x d  hq hX H locs ls zA hP hS hL
  subst hq
  exact lv_i2l C.1 C.2.1 d rfl (hX H locs ls zA hP hS hL)
theorem s_l2i (C : CX p R s m args meth c D cI cG base b own cc nL init sc) : R_l2i cc  (WN p l e R s m args below meth c D cI cG base b nL n0 u0 Q) := by
  intro pc q L S A σ x d  hq hX H locs ls zA hP hS hL
  subst hq
  exact lv_l2i C.1 C.2.1 d rfl (hX H locs ls zA hP hS hL)
theorem s_dup (C : CX p R s m args meth c D cI cG base b own cc nL init sc) : R_dup cc  (WN p l e R s m args below meth c D cI cG base b nL n0 u0 Q) := by
  intro pc q L S A σ v d hv hq hX H locs ls zA hP hS hL
  subst hq
  exact lv_dup C.1 C.2.1 d (by rw [tv_cat]; exact hv) (hX H locs ls zA hP hS hL)
theorem s_dup2 (C : CX p R s m args meth c D cI cG base b own cc nL init sc) : R_dup2 cc  (WN p l e R s m args below meth c D cI cG base b nL n0 u0 Q) := by
  intro pc q L S A σ v w d hv hw hq hX H locs ls zA hP hS hL
  subst hq
  exact lv_dup2_11 C.1 C.2.1 d (by rw [tv_cat]; exact hv) (by rw [tv_cat]; exact hw) (hX H locs ls zA hP hS hL)
theorem s_istore_n (C : CX p R s m args meth c D cI cG base b own cc nL init sc) : R_istore_n cc  (WN p l e R s m args below meth c D cI cG base b nL n0 u0 Q) := by
  intro pc q L S A σ k i x d hk hi ok hq hX H locs ls zA hP hS hL
  subst hq
  exact lv_istore_n C.1 C.2.1 d hk hL.has (by rw [← hL.2.2.1]; exact hi) rfl (fun ls' kk => hX H locs ls' zA hP hS (hL.stored hi ok kk))
theorem s_istore (C : CX p R s m args meth c D cI cG base b own cc nL init sc) : R_istore cc  (WN p l e R s m args below meth c D cI cG base b nL n0 u0 Q) := by
  intro pc q L S A σ i x d hi ok hq hX H locs ls zA hP hS hL
  subst hq
  exact lv_istore C.1 C.2.1 d hL.has (by rw [← hL.2.2.1]; exact hi) rfl (fun ls' kk => hX H locs ls' zA hP hS (hL.stored hi ok kk))
theorem s_astore_n (C : CX p R s m args meth c D cI cG base b own cc nL init sc) : R_astore_n cc  (WN p l e R s m args below meth c D cI cG base b nL n0 u0 Q) := by
  intro pc q L S A σ k i x d hk hi ok hq hX H locs ls zA hP hS hL
  subst hq
  obtain ⟨y, hy⟩ := tv_ref base b x
  rw [List.map_cons, hy]
  exact lv_astore_n C.1 C.2.1 d hk hL.has (by rw [← hL.2.2.1]; exact hi) rfl (fun ls' kk => hX H locs ls' zA hP hS (hL.stored hi ok (by rw [hy]; exact kk)))
theorem s_astore (C : CX p R s m args meth c D cI cG base b own cc nL init sc) : R_astore cc  (WN p l e R s m args below meth c D cI cG base b nL n0 u0 Q) := by
  intro pc q L S A σ i x d hi ok hq hX H locs ls zA hP hS hL
  subst hq
  obtain ⟨y, hy⟩ := tv_ref base b x
  rw [List.map_cons, hy]
  exact lv_astore C.1 C.2.1 d hL.has (by rw [← hL.2.2.1]; exact hi) rfl (fun ls' kk => hX H locs ls' zA hP hS (hL.stored hi ok (by rw [hy]; exact kk)))
theorem s_iinc (C : CX p R s m args meth c D cI cG base b own cc nL init sc) : R_iinc cc  (WN p l e R s m args below meth c D cI cG base b nL n0 u0 Q) := by
  intro pc q L S A σ i n x v d hx hv ok hq hX H locs ls zA hP hS hL
  subst hq
  have hi : i < L.length := (List.getElem?_eq_some_iff.mp hx).1
  obtain ⟨k0, hk0⟩ := List.getElem?_of_mem ((lvL_mem (base := base) (b := b)).mpr ⟨_, hx, nd_i _, rfl⟩)
  exact lv_iinc C.1 C.2.1 d hL.has hk0 hv (by rw [← hL.2.2.1]; exact hi) rfl (fun ls' kk => hX H locs ls' zA hP hS (hL.stored hi ok kk))
theorem s_icmp_eq (C : CX p R s m args meth c D cI cG base b own cc nL init sc) : R_icmp_eq cc  (WN p l e R s m args below meth c D cI cG base b nL n0 u0 Q) := by
  intro pc q t L S A σ off x y d ht hq kt kf H locs ls zA hP hS hL
  subst hq
  exact lv_icmp_eq C.1 C.2.1 d ht (fun z => kt z H locs ls zA hP hS hL) (fun z => kf z H locs ls zA hP hS hL)
theorem s_if_eq (C : CX p R s m args meth c D cI cG base b own cc nL init sc) : R_if_eq cc  (WN p l e R s m args below meth c D cI cG base b nL n0 u0 Q) := by
  intro pc q t L S A σ off x d ht hq kt kf H locs ls zA hP hS hL
  subst hq
  exact lv_if_eq C.1 C.2.1 d ht (fun z => kt z H locs ls zA hP hS hL) (fun z => kf z H locs ls zA hP hS hL)
theorem s_icmp_ne (C : CX p R s m args meth c D cI cG base b own cc nL init sc) : R_icmp_ne cc  (WN p l e R s m args below meth c D cI cG base b nL n0 u0 Q) := by
  intro pc q t L S A σ off x y d ht hq kt kf H locs ls zA hP hS hL
  subst hq
  exact lv_icmp_ne C.1 C.2.1 d ht (fun z => kt z H locs ls zA hP hS hL) (fun z => kf z H locs ls zA hP hS hL)
theorem s_if_ne (C : CX p R s m args meth c D cI cG base b own cc nL init sc) : R_if_ne cc  (WN p l e R s m args below meth c D cI cG base b nL n0 u0 Q) := by
  intro pc q t L S A σ off x d ht hq kt kf H locs ls zA hP hS hL
  subst hq
  exact lv_if_ne C.1 C.2.1 d ht (fun z => kt z H locs ls zA hP hS hL) (fun z => kf z H locs ls zA hP hS hL)
theorem s_icmp_lt (C : CX p R s m args meth c D cI cG base b own cc nL init sc) : R_icmp_lt cc  (WN p l e R s m args below meth c D cI cG base b nL n0 u0 Q) := by
  intro pc q t L S A σ off x y d ht hq kt kf H locs ls zA hP hS hL
  subst hq
  exact lv_icmp_lt C.1 C.2.1 d ht (fun z => kt z H locs ls zA hP hS hL) (fun z => kf z H locs ls zA hP hS hL)
theorem s_if_lt (C : CX p R s m args meth c D cI cG base b own cc nL init sc) : R_if_lt cc  (WN p l e R s m args below meth c D cI cG base b nL n0 u0 Q) := by
  intro pc q t L S A σ off x d ht hq kt kf H locs ls zA hP hS hL
  subst hq
  exact lv_if_lt C.1 C.2.1 d ht (fun z => kt z H locs ls zA hP hS hL) (fun z => kf z H locs ls zA hP hS hL)
theorem s_icmp_ge (C : CX p R s m args meth c D cI cG base b own cc nL init sc) : R_icmp_ge cc  (WN p l e R s m args below meth c D cI cG base b nL n0 u0 Q) := by
  intro pc q t L S A σ off x y d ht hq kt kf H locs ls zA hP hS hL
  subst hq
  exact lv_icmp_ge C.1 C.2.1 d ht (fun z => kt z H locs ls zA hP hS hL) (fun z => kf z H locs ls zA hP hS hL)
theorem s_if_ge (C : CX p R s m args meth c D cI cG base b own cc nL init sc) : R_if_ge cc  (WN p l e R s m args below meth c D cI cG base b nL n0 u0 Q) := by
  intro pc q t L S A σ off x d ht hq kt kf H locs ls zA hP hS hL
  subst hq
  exact lv_if_ge C.1 C.2.1 d ht (fun z => kt z H locs ls zA hP hS hL) (fun z => kf z H locs ls zA hP hS hL)
theorem s_icmp_gt (C : CX p R s m args meth c D cI cG base b own cc nL init sc) : R_icmp_gt cc  (WN p l e R s m args below meth c D cI cG base b nL n0 u0 Q) := by
  intro pc q t L S A σ off x y d ht hq kt kf H locs ls zA hP hS hL
  subst hq
  exact lv_icmp_gt C.1 C.2.1 d ht (fun z => kt z H locs ls zA hP hS hL) (fun z => kf z H locs ls zA hP hS hL)
theorem s_if_gt (C : CX p R s m args meth c D cI cG base b own cc nL init sc) : R_if_gt cc  (WN p l e R s m args below meth c D cI cG base b nL n0 u0 Q) := by
  intro pc q t L S A σ off x d ht hq kt kf H locs ls zA hP hS hL
  subst hq
  exact lv_if_gt C.1 C.2.1 d ht (fun z => kt z H locs ls zA hP hS hL) (fun z => kf z H locs ls zA hP hS hL)
theorem s_icmp_le (C : CX p R s m args meth c D cI cG base b own cc nL init sc) : R_icmp_le cc  (WN p l e R s m args below meth c D cI cG base b nL n0 u0 Q) := by
  intro pc q t L S A σ off x y d ht hq kt kf H locs ls zA hP hS hL
  subst hq
  exact lv_icmp_le C.1 C.2.1 d ht (fun z => kt z H locs ls zA hP hS hL) (fun z => kf z H locs ls zA hP hS hL)
theorem s_if_le (C : CX p R s m args meth c D cI cG base b own cc nL init sc) : R_if_le cc  (WN p l e R s m args below meth c D cI cG base b nL n0 u0 Q) := by
  intro pc q t L S A σ off x d ht hq kt kf H locs ls zA hP hS hL
  subst hq
  exact lv_if_le C.1 C.2.1 d ht (fun z => kt z H locs ls zA hP hS hL) (fun z => kf z H locs ls zA hP hS hL)
theorem s_goto (C : CX p R s m args meth c D cI cG base b own cc nL init sc) : R_goto cc  (WN p l e R s m args below meth c D cI cG base b nL n0 u0 Q) := by
  intro pc t L S A σ off d ht hX H locs ls zA hP hS hL
  exact lv_goto C.1 C.2.1 d ht (hX H locs ls zA hP hS hL)
theorem s_tswI (C : CX p R s m args meth c D cI cG base b own cc nL init sc) : R_tswI cc  (WN p l e R s m args below meth c D cI cG base b nL n0 u0 Q) := by
  intro pc t L S A σ dflt lo hi off offs len x d h1 h2 h3 ht hX H locs ls zA hP hS hL
  exact lv_tableIn C.1 C.2.1 d h1 h2 h3 ht (hX H locs ls zA hP hS hL)
theorem s_tswO (C : CX p R s m args meth c D cI cG base b own cc nL init sc) : R_tswO cc  (WN p l e R s m args below meth c D cI cG base b nL n0 u0 Q) := by
  intro pc t L S A σ dflt lo hi offs len x d h1 ht hX H locs ls zA hP hS hL
  exact lv_tableOut C.1 C.2.1 d h1 ht (hX H locs ls zA hP hS hL)
theorem s_getI (C : CX p R s m args meth c D cI cG base b own cc nL init sc) : R_getI cc own (WN p l e R s m args below meth c D cI cG base b nL n0 u0 Q) := by
  intro pc q L S A σ idx ci j k d ⟨C0, T, N, hcl, hj, hd, hlk⟩ hO hk hq hX H locs ls zA hP hS hL
  subst hq
  rw [List.map_cons, tv_k hO.2.2.2]
  refine va_get (fs := (List.range (tb k).2.1).map (fv base A.2.2 σ k)) (v := .int (σ k j)) C.1 C.2.1 C.2.2.2.2.1 (vw_in hcl) C.2.2.2.1 C.2.2.2.2.2.1 hP k ?_ hcl j hj (C.2.2.2.2.1 _ hlk) (fun x h => by rw [hd] at h; exact h) ?_ d (hX H locs ls zA hP hS hL)
  · rw [wl_at base cI cG A.2.2 σ hk, cel_obj hO.1]
  · rw [List.getElem?_map, List.getElem?_range hO.2.1, Option.map_some, fv_int hO]
theorem s_getR (C : CX p R s m args meth c D cI cG base b own cc nL init sc) : R_getR cc own (WN p l e R s m args below meth c D cI cG base b nL n0 u0 Q) := by
  intro pc q L S A σ idx ci j k t d ⟨C0, T, N, hcl, hj, hd, hlk⟩ hO hk hδ hq hX H locs ls zA hP hS hL
  subst hq
  rw [List.map_cons, tv_k hO.2.2.2]
  have h2 := hX H locs ls zA hP hS hL
  have ht : t < nObj := OR_lt hO
  rw [List.map_cons, tv_k ht] at h2
  refine va_get (fs := (List.range (tb k).2.1).map (fv base A.2.2 σ k)) (v := .ref (base + t)) C.1 C.2.1 C.2.2.2.2.1 (vw_in hcl) C.2.2.2.1 C.2.2.2.2.2.1 hP k ?_ hcl j hj (C.2.2.2.2.1 _ hlk) (fun x h => by rw [hd] at h; exact h) ?_ d h2
  · rw [wl_at base cI cG A.2.2 σ hk, cel_obj hO.1]
  · rw [List.getElem?_map, List.getElem?_range hO.2.1, Option.map_some, fv_ref hO hδ]
theorem s_putI (C : CX p R s m args meth c D cI cG base b own cc nL init sc) : R_putI cc own (WN p l e R s m args below meth c D cI cG base b nL n0 u0 Q) := by
  intro pc q L S A σ idx ci j k v d ⟨C0, T, N, hcl, hj, hd, hlk⟩ hO ⟨C1, T1, N1, ty, hcl1, hfin, hpd, hnr, hft⟩ hk hq hX H locs ls zA hP hS hL
  subst hq
  cases hcl.symm.trans hcl1
  rw [List.map_cons, List.map_cons, tv_k hO.2.2.2]
  refine va_put (fs := (List.range (tb k).2.1).map (fv base A.2.2 σ k)) (v := .int v) C.1 C.2.1 C.2.2.2.2.1 (vw_in hcl) (vwTy ci) (vw_ok hcl).1 (vw_ok hcl).2 C.2.2.2.1 C.2.2.2.2.2.1 hP (wl_D _ _ _ _ _ _) hS k ?_ hcl j hj (C.2.2.2.2.1 _ hlk) (fun x h => by rw [hd] at h; exact h) hfin hpd hnr hft ?_ d (fun H1 locs1 hP1 hD1 hS1 => ?_)
  · rw [wl_at base cI cG A.2.2 σ hk, cel_obj hO.1]
  · rw [List.length_map, List.length_range]; exact hO.2.1
  · refine hX H1 locs1 ls zA ?_ hS1 hL
    rw [wl_set base cI cG (δ' := A.2.2) (σ' := up σ k j v) (fun j2 _ h2 => cel_cong rfl (up_ne h2)) (by rw [cel_obj hO.1, put_fs hO])] at hP1
    exact hP1
theorem s_putR (C : CX p R s m args meth c D cI cG base b own cc nL init sc) : R_putR cc own init (WN p l e R s m args below meth c D cI cG base b nL n0 u0 Q) := by
  intro pc q L S A σ idx ci j k t hi d ⟨C0, T, N, hcl, hj, hd, hlk⟩ hO ⟨C1, T1, N1, ty, hcl1, hfin, hown2, hpd, hnf⟩ hk hq hX H locs ls zA hP hS hL
  subst hq
  cases hcl.symm.trans hcl1
  rw [List.map_cons, List.map_cons, tv_k hO.2.2.2, tv_k (OR_lt hO)]
  refine va_putF (fs := (List.range (tb k).2.1).map (fv base A.2.2 σ k)) (v := .ref (base + t)) C.1 C.2.1 C.2.2.2.2.1 (vw_in hcl) (vwTy ci) (vw_ok hcl).1 (vw_ok hcl).2 C.2.2.2.1 C.2.2.2.2.2.1 hP (wl_D _ _ _ _ _ _) hS k ?_ hcl j hj (C.2.2.2.2.1 _ hlk) (fun x h => by rw [hd] at h; exact h) hfin (C.2.2.2.2.2.2.1 hi) hown2 hpd (hnf _).1 (hnf _).2 ?_ d (fun H1 locs1 hP1 hD1 hS1 => ?_)
  · rw [wl_at base cI cG A.2.2 σ hk, cel_obj hO.1]
  · rw [List.length_map, List.length_range]; exact hO.2.1
  · refine hX H1 locs1 ls zA ?_ hS1 hL
    rw [wl_set base cI cG (δ' := dOn A.2.2 k j) (σ' := σ) (fun j2 _ h2 => cel_cong (dOn_ne h2) rfl) (by rw [cel_obj hO.1, put_fsR hO])] at hP1
    exact hP1
theorem s_iald (C : CX p R s m args meth c D cI cG base b own cc nL init sc) : R_iald cc  (WN p l e R s m args below meth c D cI cG base b nL n0 u0 Q) := by
  intro pc q L S A σ k n j i d hA hk hi hj hq hX H locs ls zA hP hS hL
  subst hq; subst hi
  have e9 := nI_clamp (n := j) (Nat.lt_trans hj hA.lt)
  have h2 := hX H locs ls zA hP hS hL
  rw [List.map_cons, List.map_cons, tv_k hA.2.2]
  refine va_iald (f := σ k) (n := n) C.1 C.2.1 C.2.2.2.2.2.1 hP k 0 ?_ rfl (vp_in_nI hj hA.lt) d ?_
  · rw [wl_at base cI cG A.2.2 σ hk, cel_arr hA]
  · rw [e9]; exact h2
theorem s_iast (C : CX p R s m args meth c D cI cG base b own cc nL init sc) : R_iast cc  (WN p l e R s m args below meth c D cI cG base b nL n0 u0 Q) := by
  intro pc q L S A σ k n j i v d hA hk hi hj hq hX H locs ls zA hP hS hL
  subst hq; subst hi
  have e9 := nI_clamp (n := j) (Nat.lt_trans hj hA.lt)
  rw [List.map_cons, List.map_cons, List.map_cons, tv_k hA.2.2]
  refine va_iast (f := σ k) (n := n) C.1 C.2.1 C.2.2.2.2.2.1 hP (wl_D _ _ _ _ _ _) hS k 0 ?_ rfl (vp_in_nI hj hA.lt) d (fun H1 locs1 hP1 hD1 hS1 => ?_)
  · rw [wl_at base cI cG A.2.2 σ hk, cel_arr hA]
  · refine hX H1 locs1 ls zA ?_ hS1 hL
    rw [wl_set base cI cG (δ' := A.2.2) (σ' := up σ k j v) (fun j2 _ h2 => cel_cong rfl (up_ne h2)) (by rw [cel_arr hA, e9, up_upd])] at hP1
    exact hP1
theorem s_aald (C : CX p R s m args meth c D cI cG base b own cc nL init sc) : R_aald cc  (WN p l e R s m args below meth c D cI cG base b nL n0 u0 Q) := by
  intro pc q L S A σ k n j i d hA hk hi hj hq hX H locs ls zA hP hS hL
  subst hq; subst hi
  have e9 := nI_clamp (n := j) (Nat.lt_trans hj hA.lt)
  have h2 := hX H locs ls zA hP hS hL
  have hs1 := tb_small k
  have hs2 : n < 5000 := by rw [hA.2.1] at hs1; exact hs1
  have hs3 : k < 120 := hA.2.2
  rw [List.map_cons, tv_def, if_neg (show ¬ k + 1 + j = scr by show ¬ k + 1 + j = 1000000; omega)] at h2
  rw [List.map_cons, List.map_cons, tv_k hA.2.2]
  have he : (wl base cI cG A.1 A.2.2 σ)[k]? = some (base + k, .inl (cG, n, .inr (.inr (.inr (.inr (fun j => some (base + (k + 1 + j)))))))) := by rw [wl_at base cI cG A.2.2 σ hk, cel_grid hA]
  exact W.aald (v := .ref (base + (k + 1 + j))) (ty := .array .int) C.1 C.2.1 (hP k _ he) ((C.2.2.2.2.2.1.2 1 _ rfl).1 n (fun j => va_rf (some (base + (k + 1 + j))))) rfl (fun q => by cases q) (by show ¬ (_ ∨ (arrV _ _ _).slots.size ≤ _); rw [arrV_size]; exact vp_in_nI hj hA.lt) (by show (arrV _ _ _).slots[_]? = _; rw [e9, arrV_read _ _ hj]; rfl) rfl rfl d h2
theorem s_sld (C : CX p R s m args meth c D cI cG base b own cc nL init sc) : R_sld cc sc (WN p l e R s m args below meth c D cI cG base b nL n0 u0 Q) := by
  intro pc q L S A σ Ln xs j i d hsc hi hj hn hq hX H locs ls zA hP hS hL
  subst hq; subst hi
  have e9 := nI_clamp (n := j) (Nat.lt_trans hj hn)
  obtain ⟨hx1, hx2, hx3⟩ := C.2.2.2.2.2.2.2.1 Ln xs hsc
  rw [List.map_cons, List.map_cons, tv_def, if_pos rfl]
  refine va_sld C.1 C.2.1 hx1 hx2 hx3 hS (vp_in_nI hj hn) d ?_
  rw [e9]
  exact hX H locs ls zA hP hS hL
theorem s_slen (C : CX p R s m args meth c D cI cG base b own cc nL init sc) : R_slen cc sc (WN p l e R s m args below meth c D cI cG base b nL n0 u0 Q) := by
  intro pc q L S A σ Ln xs d hsc hq hX H locs ls zA hP hS hL
  subst hq
  obtain ⟨hx1, hx2, hx3⟩ := C.2.2.2.2.2.2.2.1 Ln xs hsc
  rw [List.map_cons, tv_def, if_pos rfl]
  exact va_slen C.1 C.2.1 hx1 hx2 hx3 hS d (hX H locs ls zA hP hS hL)
theorem s_oinit (C : CX p R s m args meth c D cI cG base b own cc nL init sc) : R_oinit cc own (WN p l e R s m args below meth c D cI cG base b nL n0 u0 Q) := by
  intro pc q L S A σ idx k d hlk hc hq hX H locs ls zA hP hS hL
  subst hq
  obtain ⟨y, hy⟩ := tv_ref base b k
  rw [List.map_cons, hy]
  exact W.objInit C.1 C.2.1 C.2.2.2.1 (C.2.2.2.2.1 _ hlk) (C.2.2.2.2.1 _ bw_obj.1) (C.2.2.2.2.1 _ bw_obj.2) rfl (by rw [C.2.2.1]; exact hL.1) rfl d C.2.2.2.2.2.2.2.2.1 (by rw [cats_tv]; have := C.2.2.2.2.2.2.2.2.2.1; show 2 * 0 + _ + 12 ≤ _; omega) (hX H locs ls zA hP hS hL)
theorem s_mmax (C : CX p R s m args meth c D cI cG base b own cc nL init sc) : R_mmax cc own (WN p l e R s m args below meth c D cI cG base b nL n0 u0 Q) := by
  intro pc q L S A σ idx x y d hlk hc hq hX H locs ls zA hP hS hL
  subst hq
  exact va_mmax C.1 C.2.1 (by rw [C.2.2.1]; exact hL.1.symm) C.2.2.2.1 (C.2.2.2.2.1 _ hlk) (C.2.2.2.2.1 _ bw_max.1) (C.2.2.2.2.1 _ bw_max.2.1) (C.2.2.2.2.1 _ bw_max.2.2) C.2.2.2.2.2.2.2.2.1 (by rw [cats_tv]; have := C.2.2.2.2.2.2.2.2.2.1; omega) zA.2.2.1 zA.2.2.2 d (hX H locs ls zA hP hS hL)
theorem s_mmin (C : CX p R s m args meth c D cI cG base b own cc nL init sc) : R_mmin cc own (WN p l e R s m args below meth c D cI cG base b nL n0 u0 Q) := by
  intro pc q L S A σ idx x y d hlk hc hq hX H locs ls zA hP hS hL
  subst hq
  exact va_mmin C.1 C.2.1 (by rw [C.2.2.1]; exact hL.1.symm) C.2.2.2.1 (C.2.2.2.2.1 _ hlk) (C.2.2.2.2.1 _ bw_min.1) (C.2.2.2.2.1 _ bw_max.2.1) (C.2.2.2.2.1 _ bw_min.2) C.2.2.2.2.2.2.2.2.1 (by rw [cats_tv]; have := C.2.2.2.2.2.2.2.2.2.1; omega) zA.2.2.1 zA.2.2.2 d (hX H locs ls zA hP hS hL)
theorem s_copy (C : CX p R s m args meth c D cI cG base b own cc nL init sc) : R_copy cc own (WN p l e R s m args below meth c D cI cG base b nL n0 u0 Q) := by
  intro pc q L S A σ idx k0 k1 n0_1 n1 a c_1 t sp dp n d hlk hA0 hA1 hk0 hk1 hi1 hi2 hi3 hb0 hb1 hc hq hX H locs ls zA hP hS hL
  subst hq; subst hi1; subst hi2; subst hi3
  have g0 := hA0.lt
  have g1 := hA1.lt
  have e1 := nI_clamp (n := a) (by omega)
  have e2 := nI_clamp (n := c_1) (by omega)
  have e3 := nI_clamp (n := t) (by omega)
  rw [List.map_cons, List.map_cons, List.map_cons, List.map_cons, List.map_cons, tv_k hA0.2.2, tv_k hA1.2.2]
  refine va_copyi (f := σ k0) (g := σ k1) (n0 := n0_1) (n1 := n1) (ty := .int) C.1 C.2.1 (by rw [C.2.2.1]; exact hL.1.symm) C.2.2.2.1 (C.2.2.2.2.1 _ hlk) (C.2.2.2.2.1 _ bw_copy.1) (C.2.2.2.2.1 _ bw_copy.2.1) (C.2.2.2.2.1 _ bw_copy.2.2) C.2.2.2.2.2.1 hP (wl_D _ _ _ _ _ _) hS k0 k1 0 0 ?_ ?_ rfl rfl rfl (nI_pos (by omega)) (nI_pos (by omega)) (nI_pos (by omega)) (by rw [e1, e3]; exact hb0) (by rw [e2, e3]; exact hb1) (fun _ _ => rfl) C.2.2.2.2.2.2.2.2.1 ?_ d (fun H1 locs1 hP1 hD1 hS1 => ?_)
  · rw [wl_at base cI cG A.2.2 σ hk0, cel_arr hA0]
  · rw [wl_at base cI cG A.2.2 σ hk1, cel_arr hA1]
  · rw [cats_tv]
    have := C.2.2.2.2.2.2.2.2.2.1
    have h9 : nativeFrameWords "java/lang/System" "arraycopy" 5 ≤ 60 := by decide +kernel
    omega
  · refine hX H1 locs1 ls zA ?_ hS1 hL
    rw [wl_set base cI cG (δ' := A.2.2) (σ' := cpy σ k0 a k1 c_1 t) (fun j2 _ h2 => cel_cong rfl (cpy_ne h2)) (by rw [cel_arr hA1, e1, e2, e3, cpy_cpy])] at hP1
    exact hP1
theorem s_wk (C : CX p R s m args meth c D cI cG base b own cc nL init sc) : R_wk cc  (WN p l e R s m args below meth c D cI cG base b nL n0 u0 Q) := by
  intro pc L L2 S A σ hw hX H locs ls zA hP hS hL
  exact hX H locs ls zA hP hS (LH_wk hw hL)
theorem s_dl (C : CX p R s m args meth c D cI cG base b own cc nL init sc) : R_dl cc  (WN p l e R s m args below meth c D cI cG base b nL n0 u0 Q) := by
  intro pc L S A σ η hd hX H locs ls zA hP hS hL
  refine hX H locs ls zA ?_ hS hL
  intro k q hq
  obtain ⟨hk, rfl⟩ := wl_of hq
  have e : cel base cI cG η σ k = cel base cI cG A.2.2 σ k := by
    have hf : fv base η σ k = fv base A.2.2 σ k := by
      funext j
      unfold fv
      cases hr : (tb k).2.2.getD j none with
      | none => rfl
      | some t => rw [hd k j t hk hr]
    unfold cel
    rw [hf]
  rw [e]
  exact hP k _ (wl_at base cI cG A.2.2 σ hk)
end SND
