/-! a method's contract out of TT -/
def ent0 (as : List Value) : List Value := as.flatMap fun v => if v.category = 2 then [v, dum] else [v]
def ent (nL : Nat) (as : List Value) : List Value := ent0 as ++ List.replicate (nL - (ent0 as).length) dum
theorem ent0_len (base b : Nat) (as : List Value) : (lg_sl (as.map (tv base b))).length = (ent0 as).length := by
  induction as with
  | nil => rfl
  | cons v vs ih =>
    unfold lg_sl ent0 at ih ⊢
    rw [List.map_cons, List.flatMap_cons, List.flatMap_cons, List.length_append, List.length_append, ih]
    congr 1
    rw [tv_cat]
    by_cases h : v.category = 2
    · rw [if_pos h, if_pos h]; rfl
    · rw [if_neg h, if_neg h]; rfl
theorem ent0_at (base b : Nat) (as : List Value) : ∀ (o i : Nat) (v : Value), (ent0 as)[i]? = some v → v ≠ dum → (o + i, tv base b v) ∈ lv_args o (as.map (tv base b)) := by
  induction as with
  | nil => intro o i v h; simp [ent0] at h
  | cons w ws ih =>
    intro o i v h hv
    have e : ent0 (w :: ws) = (if w.category = 2 then [w, dum] else [w]) ++ ent0 ws := rfl
    rw [e] at h
    show _ ∈ (o, tv base b w) :: lv_args (if (tv base b w).category = 2 then o + 2 else o + 1) (ws.map (tv base b))
    rw [tv_cat]
    by_cases hc : w.category = 2
    · rw [if_pos hc] at h ⊢
      match i, h with
      | 0, h => cases h; exact List.mem_cons_self
      | 1, h => cases h; exact absurd rfl hv
      | j + 2, h =>
        refine List.mem_cons_of_mem _ ?_
        have := ih (o + 2) j v h hv
        rwa [show o + 2 + j = o + (j + 2) by omega] at this
    · rw [if_neg hc] at h ⊢
      match i, h with
      | 0, h => cases h; exact List.mem_cons_self
      | j + 1, h =>
        refine List.mem_cons_of_mem _ ?_
        have := ih (o + 1) j v h hv
        rwa [show o + 1 + j = o + (j + 1) by omega] at this
theorem LH_entry (base b : Nat) {nL : Nat} {as : List Value} (h : (ent0 as).length ≤ nL) : LH base b nL ((lg_sl (as.map (tv base b)) ++ List.replicate (nL - (lg_sl (as.map (tv base b))).length) Slot.unset).toArray) (ent nL as) := by
  have h0 := lv_entry (as.map (tv base b)) (n := nL) (by rw [ent0_len]; exact h)
  refine ⟨h0.1, h0.2.1, ?_, fun i v hi hv => ?_⟩
  · unfold ent
    rw [List.length_append, List.length_replicate]
    omega
  · unfold ent at hi
    by_cases hl : i < (ent0 as).length
    · rw [List.getElem?_append_left hl] at hi
      have := ent0_at base b as 0 i v hi hv
      rw [Nat.zero_add] at this
      exact h0.2.2 _ this
    · rw [List.getElem?_append_right (Nat.le_of_not_lt hl)] at hi
      exact absurd (List.eq_of_mem_replicate (List.mem_of_getElem? hi)) hv
def QRi (A : AL) (post : SG → Int32 → Prop) : AL → SG → Option Int32 → Prop := fun A' τ r => A' = A ∧ ∃ v, r = some v ∧ post τ v
def QRz (A : AL) (post : SG → Int32 → Prop) : AL → SG → Option Int32 → Prop := fun A' τ r => A' = A ∧ ∃ v, r = some v ∧ (v = 0 ∨ v = 1) ∧ post τ v
def QRv (A : AL) (post : SG → Int32 → Prop) : AL → SG → Option Int32 → Prop := fun A' τ r => A' = A ∧ r = none ∧ post τ 0
def CN0 : CNT := fun _ _ _ _ _ _ _ => False
def CT0 : CTT := fun _ _ _ _ _ _ => False
theorem CTOK0 {l : Launch} {R : Room} {D : va_G} {cI cG : ClassId} {base b : Nat} {own : String} : CTOK l R D cI cG base b own CT0 := ⟨fun _ _ _ _ _ h => h.elim, fun _ _ _ _ _ h => h.elim, fun _ _ _ _ _ _ h => h.elim, fun _ _ _ _ _ _ h => h.elim⟩
section MTH
variable {p : Program} {l : Launch} {e : Env} {R : Room} {s : State} {m : MethodId} {args : Array Value} {below : List Frame} {meth : Method} {c : Code} {D : va_G} {cI cG : ClassId} {base b : Nat} {own : String} {cc : ByteArray} {nL : Nat} {init : Bool} {sc : Option (Nat × (Nat → Int32))} {n0 u0 : Nat} {Q : State → Prop} {CT : CTT} {CN : CNT} {N1 U1 : Nat} {QR : AL → SG → Option Int32 → Prop}
theorem rul_all (C : CX p R s m args meth c D cI cG base b own cc nL init sc) (hsz : base ≤ s.heap.size) (hCT : CTOK l R D cI cG base b own CT)
    (h1 : R_callN cc CN N1 U1 (WN p l e R s m args below meth c D cI cG base b nL n0 u0 Q)) (h2 : R_new cc own N1 U1 (WN p l e R s m args below meth c D cI cG base b nL n0 u0 Q)) (h3 : R_newa cc N1 U1 (WN p l e R s m args below meth c D cI cG base b nL n0 u0 Q)) (h4 : R_mna cc own N1 U1 (WN p l e R s m args below meth c D cI cG base b nL n0 u0 Q))
    (h5 : R_iret cc QR (WN p l e R s m args below meth c D cI cG base b nL n0 u0 Q)) (h6 : R_vret cc QR (WN p l e R s m args below meth c D cI cG base b nL n0 u0 Q)) : RUL cc own init CT CN N1 U1 QR sc (WN p l e R s m args below meth c D cI cG base b nL n0 u0 Q) :=
  ⟨s_iconst C, s_bipush C, s_sipush C, s_ldc C, s_ldc2 C, s_ldcw C, s_iload_n C, s_iload C, s_lload_n C, s_aload_n C, s_aload C, s_iadd C, s_isub C, s_imul C, s_iand C, s_ior C, s_ixor C, s_ishl C, s_ishr C, s_iushr C, s_idiv C, s_irem C, s_ineg C, s_land C, s_lor C, s_lshl C, s_lshr C, s_i2l C, s_l2i C, s_dup C, s_dup2 C, s_istore_n C, s_astore_n C, s_istore C, s_astore C, s_iinc C, s_icmp_eq C, s_if_eq C, s_icmp_ne C, s_if_ne C, s_icmp_lt C, s_if_lt C, s_icmp_ge C, s_if_ge C, s_icmp_gt C, s_if_gt C, s_icmp_le C, s_if_le C, s_goto C, s_tswI C, s_tswO C, s_getI C, s_getR C, s_putI C, s_putR C, s_iald C, s_iast C, s_aald C, s_sld C, s_slen C, s_callSi C hsz hCT, s_callSv C hsz hCT, s_callVi C hsz hCT, s_callVv C hsz hCT, h1, s_oinit C, s_mmax C, s_mmin C, s_copy C, h2, h3, h4, s_wk C, s_dl C, h5, h6⟩
theorem no_callN : R_callN cc CN0 N1 U1 (WN p l e R s m args below meth c D cI cG base b nL n0 u0 Q) := by
  intro pc q L S A σ idx k mc ms as post d hct
  exact hct.elim
theorem no_new : R_new cc own n0 U1 (WN p l e R s m args below meth c D cI cG base b nL n0 u0 Q) := by
  intro pc q L S A σ idx ci n d hw hn hu hq hX H locs ls zA
  have := zA.1
  omega
theorem no_newa : R_newa cc n0 U1 (WN p l e R s m args below meth c D cI cG base b nL n0 u0 Q) := by
  intro pc q L S A σ n i d hw hi hn hu hq hX H locs ls zA
  have := zA.1
  omega
theorem no_mna : R_mna cc own n0 U1 (WN p l e R s m args below meth c D cI cG base b nL n0 u0 Q) := by
  intro pc q L S A σ idx n k i i2 d h1 h2 h3 h35 h4 h5 hn hu hq hX H locs ls zA
  have := zA.1
  omega
end MTH
section MT2
variable {l : Launch} {D : va_G} {cI cG : ClassId} {base b : Nat} {y : MethodName} {bytes : ByteArray} {maxL : Nat} {rm : Room} {A : AL} {σ : SG} {as : List Value} {post : SG → Int32 → Prop} {CT : CTT}
theorem MI_of {ty : FieldType} (hty : ty = .int) (hy : plainName y.cls = true) (he : (ent0 as).length ≤ maxL) (hrm : rm.cells = 0 ∧ rm.slots = 0 ∧ 1 ≤ rm.frames ∧ 100 ≤ rm.locals) (hCT : CTOK l rm D cI cG base b y.cls CT)
    (hT : TT bytes y.cls false CT CN0 A.1 A.2.1 (QRi A post) none 0 (ent maxL as) [] A σ) : MI l D cI cG base b y bytes maxL (some ty) rm A σ as post := by
  subst hty
  refine Met.ofW (cc := bytes) (maxL := maxL) (ret := some .int) hy rfl ?_
  intro p e s m args below meth c s₁ B hml hv
  obtain ⟨rfl, hsz, hP, hK, hN⟩ := hv
  have hts := atoms_spec (ws := Cond.code y bytes maxL (some .int) :: BIG) B.pre
  have C : CX p rm s m ((as.map (tv base b)).toArray) meth c D cI cG base b y.cls bytes maxL false none := ⟨B.exec, B.bytes, hml, findClass_of_methodNamed B.named, fun w hw => hts w (List.mem_cons_of_mem _ hw), hK, (fun h => by cases h), (fun _ _ h => by cases h), hrm.2.2.1, hrm.2.2.2, hN⟩
  rw [lg_entry_eq]
  have hL := LH_entry base b he
  have hlocks := B.notSynchronized
  have hr := B.returns
  have key := hT (WN p l e rm s m ((as.map (tv base b)).toArray) below meth c D cI cG base b maxL A.1 A.2.1 (MQ below (va_Qi (fun r τ => post τ r) (fun τ t => RU D cI cG base A τ t) (xA base)) ((as.map (tv base b)).toArray) s 0 0 (xA base)))
    (rul_all C hsz hCT no_callN no_new no_newa no_mna (fun pc L A' τ v d hq H locs ls zA hP1 hS1 hL1 => by
      obtain ⟨rfl, v', hv, hp⟩ := hq
      cases hv
      rw [Nat.sub_self, Nat.sub_self]
      exact W.iret (v := v) B.exec B.bytes hr (fun t ht hW => ⟨⟨v, τ, rfl, hp, ⟨(by rw [ht]; exact hP1), va_K.moved hW.alike hK, hN.warm hW⟩⟩, hS1.F ht⟩) hS1.2.2 d) (fun pc L A' τ d hq => by obtain ⟨-, v', hv, -⟩ := hq; cases hv))
    s.heap [] _ ⟨Nat.le_refl _, Nat.le_refl _, by rw [Nat.sub_self]; exact Nat.zero_le _, by rw [Nat.sub_self]; exact Nat.zero_le _⟩ hP va_S.rf hL
  rw [Nat.sub_self, Nat.sub_self] at key
  exact key
theorem MZ_of (hy : plainName y.cls = true) (he : (ent0 as).length ≤ maxL) (hrm : rm.cells = 0 ∧ rm.slots = 0 ∧ 1 ≤ rm.frames ∧ 100 ≤ rm.locals) (hCT : CTOK l rm D cI cG base b y.cls CT)
    (hT : TT bytes y.cls false CT CN0 A.1 A.2.1 (QRz A post) none 0 (ent maxL as) [] A σ) : MI l D cI cG base b y bytes maxL (some .boolean) rm A σ as post := by
  refine Met.ofW (cc := bytes) (maxL := maxL) (ret := some .boolean) hy rfl ?_
  intro p e s m args below meth c s₁ B hml hv
  obtain ⟨rfl, hsz, hP, hK, hN⟩ := hv
  have hts := atoms_spec (ws := Cond.code y bytes maxL (some .boolean) :: BIG) B.pre
  have C : CX p rm s m ((as.map (tv base b)).toArray) meth c D cI cG base b y.cls bytes maxL false none := ⟨B.exec, B.bytes, hml, findClass_of_methodNamed B.named, fun w hw => hts w (List.mem_cons_of_mem _ hw), hK, (fun h => by cases h), (fun _ _ h => by cases h), hrm.2.2.1, hrm.2.2.2, hN⟩
  rw [lg_entry_eq]
  have hL := LH_entry base b he
  have hlocks := B.notSynchronized
  have hr := B.returns
  have key := hT (WN p l e rm s m ((as.map (tv base b)).toArray) below meth c D cI cG base b maxL A.1 A.2.1 (MQ below (va_Qi (fun r τ => post τ r) (fun τ t => RU D cI cG base A τ t) (xA base)) ((as.map (tv base b)).toArray) s 0 0 (xA base)))
    (rul_all C hsz hCT no_callN no_new no_newa no_mna (fun pc L A' τ v d hq H locs ls zA hP1 hS1 hL1 => by
      obtain ⟨rfl, v', hv, h01, hp⟩ := hq
      cases hv
      rw [Nat.sub_self, Nat.sub_self]
      exact W.zret (v := v) (ty := .boolean) B.exec B.bytes hr (by rcases h01 with rfl | rfl <;> decide) (fun t ht hW => ⟨⟨v, τ, rfl, hp, ⟨(by rw [ht]; exact hP1), va_K.moved hW.alike hK, hN.warm hW⟩⟩, hS1.F ht⟩) hS1.2.2 d) (fun pc L A' τ d hq => by obtain ⟨-, v', hv, -⟩ := hq; cases hv))
    s.heap [] _ ⟨Nat.le_refl _, Nat.le_refl _, by rw [Nat.sub_self]; exact Nat.zero_le _, by rw [Nat.sub_self]; exact Nat.zero_le _⟩ hP va_S.rf hL
  rw [Nat.sub_self, Nat.sub_self] at key
  exact key
theorem MV_of (hy : plainName y.cls = true) (he : (ent0 as).length ≤ maxL) (hrm : rm.cells = 0 ∧ rm.slots = 0 ∧ 1 ≤ rm.frames ∧ 100 ≤ rm.locals) (hCT : CTOK l rm D cI cG base b y.cls CT)
    (hT : TT bytes y.cls false CT CN0 A.1 A.2.1 (QRv A post) none 0 (ent maxL as) [] A σ) : MV l D cI cG base b y bytes maxL rm A σ as post := by
  refine Met.ofW (cc := bytes) (maxL := maxL) (ret := none) hy rfl ?_
  intro p e s m args below meth c s₁ B hml hv
  obtain ⟨rfl, hsz, hP, hK, hN⟩ := hv
  have hts := atoms_spec (ws := Cond.code y bytes maxL none :: BIG) B.pre
  have C : CX p rm s m ((as.map (tv base b)).toArray) meth c D cI cG base b y.cls bytes maxL false none := ⟨B.exec, B.bytes, hml, findClass_of_methodNamed B.named, fun w hw => hts w (List.mem_cons_of_mem _ hw), hK, (fun h => by cases h), (fun _ _ h => by cases h), hrm.2.2.1, hrm.2.2.2, hN⟩
  rw [lg_entry_eq]
  have hL := LH_entry base b he
  have hlocks := B.notSynchronized
  have hr := B.returns
  have key := hT (WN p l e rm s m ((as.map (tv base b)).toArray) below meth c D cI cG base b maxL A.1 A.2.1 (MQ below (va_Qv (fun τ => post τ 0) (fun τ t => RU D cI cG base A τ t) (xA base)) ((as.map (tv base b)).toArray) s 0 0 (xA base)))
    (rul_all C hsz hCT no_callN no_new no_newa no_mna (fun pc L A' τ v d hq => by obtain ⟨-, hv, -⟩ := hq; cases hv) (fun pc L A' τ d hq H locs ls zA hP1 hS1 hL1 => by
      obtain ⟨rfl, -, hp⟩ := hq
      rw [Nat.sub_self, Nat.sub_self]
      exact W.vret B.exec B.bytes hr (fun t ht hW => ⟨⟨τ, rfl, hp, ⟨(by rw [ht]; exact hP1), va_K.moved hW.alike hK, hN.warm hW⟩⟩, hS1.F ht⟩) hS1.2.2 d))
    s.heap [] _ ⟨Nat.le_refl _, Nat.le_refl _, by rw [Nat.sub_self]; exact Nat.zero_le _, by rw [Nat.sub_self]; exact Nat.zero_le _⟩ hP va_S.rf hL
  rw [Nat.sub_self, Nat.sub_self] at key
  exact key
end MT2
