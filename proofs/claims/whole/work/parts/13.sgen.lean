/-! segments of the methods that run in constructors too -/
theorem g_X4_layOut_0 {post : SG → Int32 → Prop} {σ : SG} {o : Nat} {A : AL} (hn : 6 < A.1) (hd_3_0 : A.2.2 3 0 = true) (hd_3_1 : A.2.2 3 1 = true) (h : T_X4_layOut A post 13 [.ref 3, .int (nI o), .int (nI 63), .int (nI o), .int (nI 720), .int (nI 0), dum] [] σ) : T_X4_layOut A post 0 [.ref 3, .int (nI o), dum, dum, dum, dum, dum] [] σ := by
  refine tt_bipush (q := 2) dX4_layOut_0 bi_63 rfl ?_
  refine sti_n_2 (q := 3) dX4_layOut_2 rfl rfl rfl ?_
  refine tt_iload_n (q := 4) dX4_layOut_3 rfl rfl ?_
  refine sti_n_3 (q := 5) dX4_layOut_4 rfl rfl rfl ?_
  refine tt_sipush (q := 8) dX4_layOut_5 si_720 rfl ?_
  refine sti_4 (q := 10) dX4_layOut_8 rfl rfl ?_
  refine tt_iconst (q := 11) dX4_layOut_10 ki_0 rfl ?_
  refine sti_5 (q := 13) dX4_layOut_11 rfl rfl ?_
  exact h
theorem g_X4_layOut_13 {post : SG → Int32 → Prop} {σ : SG} {o : Nat} {left : Int32} {rs : Nat} {w : Nat} {p : Nat} {A : AL} (hn : 6 < A.1) (hd_3_0 : A.2.2 3 0 = true) (hd_3_1 : A.2.2 3 1 = true) (h : (p < 2 ^ 31 ∧ ((6 ≤ p → post σ 0) ∧ (p < 6 → (p ≤ 6 ∧ (w < 2 ^ 31 ∧ 0 < 6 - p ∧ 6 - p < 2 ^ 31 ∧ (1 < 2 ^ 31 ∧ w / (6 - p) < 2 ^ 31 ∧ (rs < 2 ^ 31 ∧ 0 < max 1 (w / (6 - p)) ∧ max 1 (w / (6 - p)) < 2 ^ 31 ∧ (∃ p14 : SG → Int32 → Prop, IN_X4_nthOf A σ [.int left, .int (nI (rs / (max 1 (w / (6 - p)))))] p14 ∧ ∀ (t13 : SG) (r12 : Int32), p14 t13 r12 → (rs < 2 ^ 31 ∧ 0 < max 1 (w / (6 - p)) ∧ max 1 (w / (6 - p)) < 2 ^ 31 ∧ (o * 6 + p < 4320 ∧ (∀ s21 : SG, s21 = up t13 4 (o * 6 + p) r12 → ((¬ r12 = (nI p) → T_X4_layOut A post 13 [.ref 3, .int (nI o), .int (left &&& (((nI 1) <<< (r12 &&& 31)) ^^^ (-1 : Int32))), .int (nI (rs % (max 1 (w / (6 - p))))), .int (nI (max 1 (w / (6 - p)))), .int (nI (p + 1)), dum] [] s21) ∧ (r12 = (nI p) → (o < 720 ∧ (o < 720 ∧ (∀ s25 : SG, s25 = up s21 5 o ((s21 5 o) ||| ((nI 1) <<< ((nI p) &&& 31))) → T_X4_layOut A post 13 [.ref 3, .int (nI o), .int (left &&& (((nI 1) <<< (r12 &&& 31)) ^^^ (-1 : Int32))), .int (nI (rs % (max 1 (w / (6 - p))))), .int (nI (max 1 (w / (6 - p)))), .int (nI (p + 1)), dum] [] s25))))))))))))))))) : T_X4_layOut A post 13 [.ref 3, .int (nI o), .int left, .int (nI rs), .int (nI w), .int (nI p), dum] [] σ := by
  refine tt_iload (q := 15) dX4_layOut_13 rfl rfl ?_
  refine tt_bipush (q := 17) dX4_layOut_15 bi_6 rfl ?_
  obtain ⟨l2, h⟩ := h
  refine tt_icmp_ge (q := 20) (t := 98) dX4_layOut_17 rfl rfl (fun c => ?_) (fun c => ?_)
  · replace h := h.1 ((nI_leI (by decide) l2).1 c)
    exact tt_vret dX4_layOut_98 ⟨rfl, rfl, h⟩
  · replace h := h.2 (Nat.lt_of_not_le (fun z => c ((nI_leI (by decide) l2).2 z)))
    refine tt_iconst (q := 21) dX4_layOut_20 ki_1 rfl ?_
    refine tt_iload (q := 23) dX4_layOut_21 rfl rfl ?_
    refine tt_bipush (q := 25) dX4_layOut_23 bi_6 rfl ?_
    refine tt_iload (q := 27) dX4_layOut_25 rfl rfl ?_
    obtain ⟨l3, h⟩ := h
    refine tt_isubN (q := 28) dX4_layOut_27 l3 rfl ?_
    obtain ⟨l4, l5, l6, h⟩ := h
    refine tt_idivN (q := 29) dX4_layOut_28 l4 l5 l6 rfl ?_
    obtain ⟨l7, l8, h⟩ := h
    refine tt_mmaxN (q := 32) dX4_layOut_29 lmm_X4_25 l7 l8 (Nat.le_of_ble_eq_true rfl) rfl ?_
    refine sti_4 (q := 34) dX4_layOut_32 rfl rfl ?_
    refine tt_iload_n (q := 35) dX4_layOut_34 rfl rfl ?_
    refine tt_iload_n (q := 36) dX4_layOut_35 rfl rfl ?_
    refine tt_iload (q := 38) dX4_layOut_36 rfl rfl ?_
    obtain ⟨l9, l10, l11, h⟩ := h
    refine tt_idivN (q := 39) dX4_layOut_38 l9 l10 l11 rfl ?_
    obtain ⟨p14, hp15, h⟩ := h
    refine callSi_2 (q := 42) dX4_layOut_39 (⟨rfl, rfl, hp15⟩) (Nat.le_of_ble_eq_true rfl) rfl (fun t13 r12 hr16 => ?_)
    replace h := h t13 r12 hr16
    refine sti_6 (q := 44) dX4_layOut_42 rfl rfl ?_
    refine tt_iload_n (q := 45) dX4_layOut_44 rfl rfl ?_
    refine tt_iload (q := 47) dX4_layOut_45 rfl rfl ?_
    obtain ⟨l17, l18, l19, h⟩ := h
    refine tt_iremN (q := 48) dX4_layOut_47 l17 l18 l19 rfl ?_
    refine sti_n_3 (q := 49) dX4_layOut_48 rfl rfl rfl ?_
    refine tt_iload_n (q := 50) dX4_layOut_49 rfl rfl ?_
    refine tt_iconst (q := 51) dX4_layOut_50 ki_1 rfl ?_
    refine tt_iload (q := 53) dX4_layOut_51 rfl rfl ?_
    refine tt_ishl (q := 54) dX4_layOut_53 rfl ?_
    refine tt_iconst (q := 55) dX4_layOut_54 ki_m1 rfl ?_
    refine tt_ixor (q := 56) dX4_layOut_55 rfl ?_
    refine tt_iand (q := 57) dX4_layOut_56 rfl ?_
    refine sti_n_2 (q := 58) dX4_layOut_57 rfl rfl rfl ?_
    refine tt_aload_n (q := 59) dX4_layOut_58 rfl rfl ?_
    refine tt_getR (q := 62) dX4_layOut_59 fl_X4_9 or_3_0 (Nat.lt_of_le_of_lt (Nat.le_of_ble_eq_true rfl : 3 ≤ 6) hn) hd_3_0 rfl ?_
    refine tt_iload_n (q := 63) dX4_layOut_62 rfl rfl ?_
    refine tt_bipush (q := 65) dX4_layOut_63 bi_6 rfl ?_
    refine tt_imulN (q := 66) dX4_layOut_65 rfl ?_
    refine tt_iload (q := 68) dX4_layOut_66 rfl rfl ?_
    refine tt_iaddN (q := 69) dX4_layOut_68 rfl ?_
    refine tt_iload (q := 71) dX4_layOut_69 rfl rfl ?_
    obtain ⟨l20, h⟩ := h
    refine tt_iast (q := 72) dX4_layOut_71 ia_4 (Nat.lt_of_le_of_lt (Nat.le_of_ble_eq_true rfl : 4 ≤ 6) hn) rfl l20 rfl ?_
    replace h := h _ rfl
    refine tt_iload (q := 74) dX4_layOut_72 rfl rfl ?_
    refine tt_iload (q := 76) dX4_layOut_74 rfl rfl ?_
    refine tt_icmp_ne (q := 79) (t := 92) dX4_layOut_76 rfl rfl (fun c => ?_) (fun c => ?_)
    · replace h := h.1 c
      refine inc_5 (q := 95) dX4_layOut_92 (nI_inc1 _) rfl rfl ?_
      refine tt_goto (t := 13) dX4_layOut_95 rfl ?_
      refine tt_wk (L2 := [_, _, _, _, _, _, dum]) ⟨Or.inl rfl, Or.inl rfl, Or.inl rfl, Or.inl rfl, Or.inl rfl, Or.inl rfl, Or.inr rfl, trivial⟩ ?_
      exact h
    · replace h := h.2 c
      refine tt_aload_n (q := 80) dX4_layOut_79 rfl rfl ?_
      refine tt_getR (q := 83) dX4_layOut_80 fl_X4_15 or_3_1 (Nat.lt_of_le_of_lt (Nat.le_of_ble_eq_true rfl : 3 ≤ 6) hn) hd_3_1 rfl ?_
      refine tt_iload_n (q := 84) dX4_layOut_83 rfl rfl ?_
      refine tt_dup2 (q := 85) dX4_layOut_84 rfl rfl rfl ?_
      obtain ⟨l23, h⟩ := h
      refine tt_iald (q := 86) dX4_layOut_85 ia_5 (Nat.lt_of_le_of_lt (Nat.le_of_ble_eq_true rfl : 5 ≤ 6) hn) rfl l23 rfl ?_
      refine tt_iconst (q := 87) dX4_layOut_86 ki_1 rfl ?_
      refine tt_iload (q := 89) dX4_layOut_87 rfl rfl ?_
      refine tt_ishl (q := 90) dX4_layOut_89 rfl ?_
      refine tt_ior (q := 91) dX4_layOut_90 rfl ?_
      obtain ⟨l24, h⟩ := h
      refine tt_iast (q := 92) dX4_layOut_91 ia_5 (Nat.lt_of_le_of_lt (Nat.le_of_ble_eq_true rfl : 5 ≤ 6) hn) rfl l24 rfl ?_
      replace h := h _ rfl
      refine inc_5 (q := 95) dX4_layOut_92 (nI_inc1 _) rfl rfl ?_
      refine tt_goto (t := 13) dX4_layOut_95 rfl ?_
      refine tt_wk (L2 := [_, _, _, _, _, _, dum]) ⟨Or.inl rfl, Or.inl rfl, Or.inl rfl, Or.inl rfl, Or.inl rfl, Or.inl rfl, Or.inr rfl, trivial⟩ ?_
      exact h

theorem g_X4_nthOf_0 {post : SG → Int32 → Prop} {σ : SG} {st : Int32} {n : Nat} {A : AL} (hn : 0 < A.1) (h : T_X4_nthOf A post 4 [.int st, .int (nI n), .int (nI 0), .int (nI 0)] [] σ) : T_X4_nthOf A post 0 [.int st, .int (nI n), dum, dum] [] σ := by
  refine tt_iconst (q := 1) dX4_nthOf_0 ki_0 rfl ?_
  refine sti_n_2 (q := 2) dX4_nthOf_1 rfl rfl rfl ?_
  refine tt_iconst (q := 3) dX4_nthOf_2 ki_0 rfl ?_
  refine sti_n_3 (q := 4) dX4_nthOf_3 rfl rfl rfl ?_
  exact h
theorem g_X4_nthOf_4 {post : SG → Int32 → Prop} {σ : SG} {st : Int32} {n : Nat} {sm : Nat} {pc : Nat} {A : AL} (hn : 0 < A.1) (h : (pc < 2 ^ 31 ∧ ((6 ≤ pc → post σ (nI 0)) ∧ (pc < 6 → ((¬ ((st >>> ((nI pc) &&& 31)) &&& (nI 1)) = (nI 1) → T_X4_nthOf A post 4 [.int st, .int (nI n), .int (nI sm), .int (nI (pc + 1))] [] σ) ∧ (((st >>> ((nI pc) &&& 31)) &&& (nI 1)) = (nI 1) → (sm < 2 ^ 31 ∧ (n < 2 ^ 31 ∧ ((¬ sm = n → T_X4_nthOf A post 4 [.int st, .int (nI n), .int (nI (sm + 1)), .int (nI (pc + 1))] [] σ) ∧ (sm = n → post σ (nI pc))))))))))) : T_X4_nthOf A post 4 [.int st, .int (nI n), .int (nI sm), .int (nI pc)] [] σ := by
  refine tt_iload_n (q := 5) dX4_nthOf_4 rfl rfl ?_
  refine tt_bipush (q := 7) dX4_nthOf_5 bi_6 rfl ?_
  obtain ⟨l2, h⟩ := h
  refine tt_icmp_ge (q := 10) (t := 35) dX4_nthOf_7 rfl rfl (fun c => ?_) (fun c => ?_)
  · replace h := h.1 ((nI_leI (by decide) l2).1 c)
    refine tt_iconst (q := 36) dX4_nthOf_35 ki_0 rfl ?_
    exact tt_iret dX4_nthOf_36 ⟨rfl, _, rfl, h⟩
  · replace h := h.2 (Nat.lt_of_not_le (fun z => c ((nI_leI (by decide) l2).2 z)))
    refine tt_iload_n (q := 11) dX4_nthOf_10 rfl rfl ?_
    refine tt_iload_n (q := 12) dX4_nthOf_11 rfl rfl ?_
    refine tt_ishr (q := 13) dX4_nthOf_12 rfl ?_
    refine tt_iconst (q := 14) dX4_nthOf_13 ki_1 rfl ?_
    refine tt_iand (q := 15) dX4_nthOf_14 rfl ?_
    refine tt_iconst (q := 16) dX4_nthOf_15 ki_1 rfl ?_
    refine tt_icmp_ne (q := 19) (t := 29) dX4_nthOf_16 rfl rfl (fun c => ?_) (fun c => ?_)
    · replace h := h.1 c
      refine inc_3 (q := 32) dX4_nthOf_29 (nI_inc1 _) rfl rfl ?_
      refine tt_goto (t := 4) dX4_nthOf_32 rfl ?_
      exact h
    · replace h := h.2 c
      refine tt_iload_n (q := 20) dX4_nthOf_19 rfl rfl ?_
      refine tt_iload_n (q := 21) dX4_nthOf_20 rfl rfl ?_
      obtain ⟨l5, h⟩ := h
      obtain ⟨l6, h⟩ := h
      refine tt_icmp_ne (q := 24) (t := 26) dX4_nthOf_21 rfl rfl (fun c => ?_) (fun c => ?_)
      · replace h := h.1 (fun z => c ((nI_eq l5 l6).2 z))
        refine inc_2 (q := 29) dX4_nthOf_26 (nI_inc1 _) rfl rfl ?_
        refine inc_3 (q := 32) dX4_nthOf_29 (nI_inc1 _) rfl rfl ?_
        refine tt_goto (t := 4) dX4_nthOf_32 rfl ?_
        exact h
      · replace h := h.2 ((nI_eq l5 l6).1 c)
        refine tt_iload_n (q := 25) dX4_nthOf_24 rfl rfl ?_
        exact tt_iret dX4_nthOf_25 ⟨rfl, _, rfl, h⟩

theorem g_X9_measure_0 {post : SG → Int32 → Prop} {σ : SG} {A : AL} (hn : 35 < A.1) (hd_7_2 : A.2.2 7 2 = true) (hd_7_3 : A.2.2 7 3 = true) (hd_7_4 : A.2.2 7 4 = true) (h : T_X9_measure A post 2 [.ref 7, .int (nI 0), dum, dum, dum, dum] [] σ) : T_X9_measure A post 0 [.ref 7, dum, dum, dum, dum, dum] [] σ := by
  refine tt_iconst (q := 1) dX9_measure_0 ki_0 rfl ?_
  refine sti_n_1 (q := 2) dX9_measure_1 rfl rfl rfl ?_
  exact h
theorem g_X9_measure_2 {post : SG → Int32 → Prop} {σ : SG} {o : Nat} {A : AL} (hn : 35 < A.1) (hd_7_2 : A.2.2 7 2 = true) (hd_7_3 : A.2.2 7 3 = true) (hd_7_4 : A.2.2 7 4 = true) (h : (o < 2 ^ 31 ∧ ((720 ≤ o → (∀ s3 : SG, s3 = up σ 34 0 (nI 0) → (∀ s4 : SG, s4 = up s3 35 0 (nI 0) → T_X9_measure A post 41 [.ref 7, .int (nI 1), .int (nI 0), dum, dum, dum] [] s4))) ∧ (o < 720 → (o < 720 ∧ (∀ s6 : SG, s6 = up σ 34 o (-9 : Int32) → T_X9_measure A post 2 [.ref 7, .int (nI (o + 1)), dum, dum, dum, dum] [] s6)))))) : T_X9_measure A post 2 [.ref 7, .int (nI o), dum, dum, dum, dum] [] σ := by
  refine tt_iload_n (q := 3) dX9_measure_2 rfl rfl ?_
  refine tt_sipush (q := 6) dX9_measure_3 si_720 rfl ?_
  obtain ⟨l2, h⟩ := h
  refine tt_icmp_ge (q := 9) (t := 23) dX9_measure_6 rfl rfl (fun c => ?_) (fun c => ?_)
  · replace h := h.1 ((nI_leI (by decide) l2).1 c)
    refine tt_aload_n (q := 24) dX9_measure_23 rfl rfl ?_
    refine tt_getR (q := 27) dX9_measure_24 fl_X9_19 or_7_3 (Nat.lt_of_le_of_lt (Nat.le_of_ble_eq_true rfl : 7 ≤ 35) hn) hd_7_3 rfl ?_
    refine tt_iconst (q := 28) dX9_measure_27 ki_0 rfl ?_
    refine tt_iconst (q := 29) dX9_measure_28 ki_0 rfl ?_
    refine tt_iast (q := 30) dX9_measure_29 ia_34 (Nat.lt_of_le_of_lt (Nat.le_of_ble_eq_true rfl : 34 ≤ 35) hn) rfl (Nat.le_of_ble_eq_true rfl : 0 < 720) rfl ?_
    replace h := h _ rfl
    refine tt_aload_n (q := 31) dX9_measure_30 rfl rfl ?_
    refine tt_getR (q := 34) dX9_measure_31 fl_X9_23 or_7_4 (Nat.lt_of_le_of_lt (Nat.le_of_ble_eq_true rfl : 7 ≤ 35) hn) hd_7_4 rfl ?_
    refine tt_iconst (q := 35) dX9_measure_34 ki_0 rfl ?_
    refine tt_iconst (q := 36) dX9_measure_35 ki_0 rfl ?_
    refine tt_iast (q := 37) dX9_measure_36 ia_35 (Nat.lt_of_le_of_lt (Nat.le_of_ble_eq_true rfl : 35 ≤ 35) hn) rfl (Nat.le_of_ble_eq_true rfl : 0 < 720) rfl ?_
    replace h := h _ rfl
    refine tt_iconst (q := 38) dX9_measure_37 ki_1 rfl ?_
    refine sti_n_1 (q := 39) dX9_measure_38 rfl rfl rfl ?_
    refine tt_iconst (q := 40) dX9_measure_39 ki_0 rfl ?_
    refine sti_n_2 (q := 41) dX9_measure_40 rfl rfl rfl ?_
    exact h
  · replace h := h.2 (Nat.lt_of_not_le (fun z => c ((nI_leI (by decide) l2).2 z)))
    refine tt_aload_n (q := 10) dX9_measure_9 rfl rfl ?_
    refine tt_getR (q := 13) dX9_measure_10 fl_X9_19 or_7_3 (Nat.lt_of_le_of_lt (Nat.le_of_ble_eq_true rfl : 7 ≤ 35) hn) hd_7_3 rfl ?_
    refine tt_iload_n (q := 14) dX9_measure_13 rfl rfl ?_
    refine tt_bipush (q := 16) dX9_measure_14 bi_m9 rfl ?_
    obtain ⟨l5, h⟩ := h
    refine tt_iast (q := 17) dX9_measure_16 ia_34 (Nat.lt_of_le_of_lt (Nat.le_of_ble_eq_true rfl : 34 ≤ 35) hn) rfl l5 rfl ?_
    replace h := h _ rfl
    refine inc_1 (q := 20) dX9_measure_17 (nI_inc1 _) rfl rfl ?_
    refine tt_goto (t := 2) dX9_measure_20 rfl ?_
    exact h
theorem g_X9_measure_41 {post : SG → Int32 → Prop} {σ : SG} {kn : Nat} {i : Nat} {A : AL} (hn : 35 < A.1) (hd_7_2 : A.2.2 7 2 = true) (hd_7_3 : A.2.2 7 3 = true) (hd_7_4 : A.2.2 7 4 = true) (h : (i < 2 ^ 31 ∧ (kn < 2 ^ 31 ∧ ((kn ≤ i → post σ 0) ∧ (i < kn → (i < 2 ^ 31 ∧ ((720 ≤ i → post σ 0) ∧ (i < 720 → (i < 720 ∧ T_X9_measure A post 63 [.ref 7, .int (nI kn), .int (nI i), .int (σ 35 i), .int (nI 0), dum] [] σ))))))))) : T_X9_measure A post 41 [.ref 7, .int (nI kn), .int (nI i), dum, dum, dum] [] σ := by
  refine tt_iload_n (q := 42) dX9_measure_41 rfl rfl ?_
  refine tt_iload_n (q := 43) dX9_measure_42 rfl rfl ?_
  obtain ⟨l2, h⟩ := h
  obtain ⟨l3, h⟩ := h
  refine tt_icmp_ge (q := 46) (t := 142) dX9_measure_43 rfl rfl (fun c => ?_) (fun c => ?_)
  · replace h := h.1 ((nI_leI l3 l2).1 c)
    exact tt_vret dX9_measure_142 ⟨rfl, rfl, h⟩
  · replace h := h.2 (Nat.lt_of_not_le (fun z => c ((nI_leI l3 l2).2 z)))
    refine tt_iload_n (q := 47) dX9_measure_46 rfl rfl ?_
    refine tt_sipush (q := 50) dX9_measure_47 si_720 rfl ?_
    obtain ⟨l5, h⟩ := h
    refine tt_icmp_ge (q := 53) (t := 142) dX9_measure_50 rfl rfl (fun c => ?_) (fun c => ?_)
    · replace h := h.1 ((nI_leI (by decide) l5).1 c)
      exact tt_vret dX9_measure_142 ⟨rfl, rfl, h⟩
    · replace h := h.2 (Nat.lt_of_not_le (fun z => c ((nI_leI (by decide) l5).2 z)))
      refine tt_aload_n (q := 54) dX9_measure_53 rfl rfl ?_
      refine tt_getR (q := 57) dX9_measure_54 fl_X9_23 or_7_4 (Nat.lt_of_le_of_lt (Nat.le_of_ble_eq_true rfl : 7 ≤ 35) hn) hd_7_4 rfl ?_
      refine tt_iload_n (q := 58) dX9_measure_57 rfl rfl ?_
      obtain ⟨l6, h⟩ := h
      refine tt_iald (q := 59) dX9_measure_58 ia_35 (Nat.lt_of_le_of_lt (Nat.le_of_ble_eq_true rfl : 35 ≤ 35) hn) rfl l6 rfl ?_
      refine sti_n_3 (q := 60) dX9_measure_59 rfl rfl rfl ?_
      refine tt_iconst (q := 61) dX9_measure_60 ki_0 rfl ?_
      refine sti_4 (q := 63) dX9_measure_61 rfl rfl ?_
      exact h
theorem g_X9_measure_63 {post : SG → Int32 → Prop} {σ : SG} {kn : Nat} {i : Nat} {fr : Nat} {m : Nat} {A : AL} (hn : 35 < A.1) (hd_7_2 : A.2.2 7 2 = true) (hd_7_3 : A.2.2 7 3 = true) (hd_7_4 : A.2.2 7 4 = true) (h : ((((nI 2) * (σ 7 0)) ≤ (nI m) → T_X9_measure A post 41 [.ref 7, .int (nI kn), .int (nI (i + 1)), dum, dum, dum] [] σ) ∧ (¬ ((nI 2) * (σ 7 0)) ≤ (nI m) → (m < 12 ∧ (fr < 720 ∧ (∃ j5 : Nat, (σ (21 + 1 + m) fr) = nI j5 ∧ j5 < 720 ∧ ((¬ (σ 34 j5) = (-9 : Int32) → T_X9_measure A post 63 [.ref 7, .int (nI kn), .int (nI i), .int (nI fr), .int (nI (m + 1)), dum] [] σ) ∧ ((σ 34 j5) = (-9 : Int32) → (kn < 2 ^ 31 ∧ ((720 ≤ kn → T_X9_measure A post 63 [.ref 7, .int (nI kn), .int (nI i), .int (nI fr), .int (nI (m + 1)), dum] [] σ) ∧ (kn < 720 → (fr < 720 ∧ (∃ j12 : Nat, (σ (21 + 1 + m) fr) = nI j12 ∧ j12 < 720 ∧ (∀ s14 : SG, s14 = up σ 34 j12 ((σ 34 fr) + (nI 1)) → (kn < 720 ∧ (∀ s16 : SG, s16 = up s14 35 kn (σ (21 + 1 + m) fr) → T_X9_measure A post 63 [.ref 7, .int (nI (kn + 1)), .int (nI i), .int (nI fr), .int (nI (m + 1)), dum] [] s16)))))))))))))))) : T_X9_measure A post 63 [.ref 7, .int (nI kn), .int (nI i), .int (nI fr), .int (nI m), dum] [] σ := by
  refine tt_iload (q := 65) dX9_measure_63 rfl rfl ?_
  refine tt_iconst (q := 66) dX9_measure_65 ki_2 rfl ?_
  refine tt_aload_n (q := 67) dX9_measure_66 rfl rfl ?_
  refine tt_getI (q := 70) dX9_measure_67 fl_X9_33 oi_7_0 (Nat.lt_of_le_of_lt (Nat.le_of_ble_eq_true rfl : 7 ≤ 35) hn) rfl ?_
  refine tt_imul (q := 71) dX9_measure_70 rfl ?_
  refine tt_icmp_ge (q := 74) (t := 136) dX9_measure_71 rfl rfl (fun c => ?_) (fun c => ?_)
  · replace h := h.1 c
    refine inc_2 (q := 139) dX9_measure_136 (nI_inc1 _) rfl rfl ?_
    refine tt_goto (t := 41) dX9_measure_139 rfl ?_
    refine tt_wk (L2 := [_, _, _, dum, dum, dum]) ⟨Or.inl rfl, Or.inl rfl, Or.inl rfl, Or.inr rfl, Or.inr rfl, Or.inl rfl, trivial⟩ ?_
    exact h
  · replace h := h.2 c
    refine tt_aload_n (q := 75) dX9_measure_74 rfl rfl ?_
    refine tt_getR (q := 78) dX9_measure_75 fl_X9_16 or_7_2 (Nat.lt_of_le_of_lt (Nat.le_of_ble_eq_true rfl : 7 ≤ 35) hn) hd_7_2 rfl ?_
    refine tt_iload (q := 80) dX9_measure_78 rfl rfl ?_
    obtain ⟨l2, h⟩ := h
    refine tt_aald (q := 81) dX9_measure_80 ig_21 (Nat.lt_of_le_of_lt (Nat.le_of_ble_eq_true rfl : 21 ≤ 35) hn) rfl l2 rfl ?_
    refine tt_iload_n (q := 82) dX9_measure_81 rfl rfl ?_
    obtain ⟨l3, h⟩ := h
    refine tt_iald (q := 83) dX9_measure_82 (gi_21 _ l2) (Nat.lt_of_le_of_lt (show 21 + 1 + m ≤ 35 by have := l2; omega) hn) rfl l3 rfl ?_
    refine sti_5 (q := 85) dX9_measure_83 rfl rfl ?_
    refine tt_aload_n (q := 86) dX9_measure_85 rfl rfl ?_
    refine tt_getR (q := 89) dX9_measure_86 fl_X9_19 or_7_3 (Nat.lt_of_le_of_lt (Nat.le_of_ble_eq_true rfl : 7 ≤ 35) hn) hd_7_3 rfl ?_
    refine tt_iload (q := 91) dX9_measure_89 rfl rfl ?_
    obtain ⟨j5, e6, l4, h⟩ := h
    refine tt_iald (q := 92) dX9_measure_91 ia_34 (Nat.lt_of_le_of_lt (Nat.le_of_ble_eq_true rfl : 34 ≤ 35) hn) e6 l4 rfl ?_
    refine tt_bipush (q := 94) dX9_measure_92 bi_m9 rfl ?_
    refine tt_icmp_ne (q := 97) (t := 130) dX9_measure_94 rfl rfl (fun c => ?_) (fun c => ?_)
    · replace h := h.1 c
      refine inc_4 (q := 133) dX9_measure_130 (nI_inc1 _) rfl rfl ?_
      refine tt_goto (t := 63) dX9_measure_133 rfl ?_
      refine tt_wk (L2 := [_, _, _, _, _, dum]) ⟨Or.inl rfl, Or.inl rfl, Or.inl rfl, Or.inl rfl, Or.inl rfl, Or.inr rfl, trivial⟩ ?_
      exact h
    · replace h := h.2 c
      refine tt_iload_n (q := 98) dX9_measure_97 rfl rfl ?_
      refine tt_sipush (q := 101) dX9_measure_98 si_720 rfl ?_
      obtain ⟨l9, h⟩ := h
      refine tt_icmp_ge (q := 104) (t := 130) dX9_measure_101 rfl rfl (fun c => ?_) (fun c => ?_)
      · replace h := h.1 ((nI_leI (by decide) l9).1 c)
        refine inc_4 (q := 133) dX9_measure_130 (nI_inc1 _) rfl rfl ?_
        refine tt_goto (t := 63) dX9_measure_133 rfl ?_
        refine tt_wk (L2 := [_, _, _, _, _, dum]) ⟨Or.inl rfl, Or.inl rfl, Or.inl rfl, Or.inl rfl, Or.inl rfl, Or.inr rfl, trivial⟩ ?_
        exact h
      · replace h := h.2 (Nat.lt_of_not_le (fun z => c ((nI_leI (by decide) l9).2 z)))
        refine tt_aload_n (q := 105) dX9_measure_104 rfl rfl ?_
        refine tt_getR (q := 108) dX9_measure_105 fl_X9_19 or_7_3 (Nat.lt_of_le_of_lt (Nat.le_of_ble_eq_true rfl : 7 ≤ 35) hn) hd_7_3 rfl ?_
        refine tt_iload (q := 110) dX9_measure_108 rfl rfl ?_
        refine tt_aload_n (q := 111) dX9_measure_110 rfl rfl ?_
        refine tt_getR (q := 114) dX9_measure_111 fl_X9_19 or_7_3 (Nat.lt_of_le_of_lt (Nat.le_of_ble_eq_true rfl : 7 ≤ 35) hn) hd_7_3 rfl ?_
        refine tt_iload_n (q := 115) dX9_measure_114 rfl rfl ?_
        obtain ⟨l10, h⟩ := h
        refine tt_iald (q := 116) dX9_measure_115 ia_34 (Nat.lt_of_le_of_lt (Nat.le_of_ble_eq_true rfl : 34 ≤ 35) hn) rfl l10 rfl ?_
        refine tt_iconst (q := 117) dX9_measure_116 ki_1 rfl ?_
        refine tt_iadd (q := 118) dX9_measure_117 rfl ?_
        obtain ⟨j12, e13, l11, h⟩ := h
        refine tt_iast (q := 119) dX9_measure_118 ia_34 (Nat.lt_of_le_of_lt (Nat.le_of_ble_eq_true rfl : 34 ≤ 35) hn) e13 l11 rfl ?_
        replace h := h _ rfl
        refine tt_aload_n (q := 120) dX9_measure_119 rfl rfl ?_
        refine tt_getR (q := 123) dX9_measure_120 fl_X9_23 or_7_4 (Nat.lt_of_le_of_lt (Nat.le_of_ble_eq_true rfl : 7 ≤ 35) hn) hd_7_4 rfl ?_
        refine tt_iload_n (q := 124) dX9_measure_123 rfl rfl ?_
        refine tt_iload (q := 126) dX9_measure_124 rfl rfl ?_
        obtain ⟨l15, h⟩ := h
        refine tt_iast (q := 127) dX9_measure_126 ia_35 (Nat.lt_of_le_of_lt (Nat.le_of_ble_eq_true rfl : 35 ≤ 35) hn) rfl l15 rfl ?_
        replace h := h _ rfl
        refine inc_1 (q := 130) dX9_measure_127 (nI_inc1 _) rfl rfl ?_
        refine inc_4 (q := 133) dX9_measure_130 (nI_inc1 _) rfl rfl ?_
        refine tt_goto (t := 63) dX9_measure_133 rfl ?_
        refine tt_wk (L2 := [_, _, _, _, _, dum]) ⟨Or.inl rfl, Or.inl rfl, Or.inl rfl, Or.inl rfl, Or.inl rfl, Or.inr rfl, trivial⟩ ?_
        exact h

theorem g_X2_forget_0_61 {post : SG → Int32 → Prop} {σ : SG} {t : Nat} {A : AL} (hn : 72 < A.1) (hd_61_0 : A.2.2 61 0 = true) (hd_61_1 : A.2.2 61 1 = true) (h : (t < 6 ∧ (∀ s2 : SG, s2 = up σ 63 t (nI 10) → (t < 6 ∧ (∀ s4 : SG, s4 = up s2 64 t (nI 0) → T_X2_forget A post 21 [.ref 61, .int (nI t), .int (nI 0)] [] s4))))) : T_X2_forget A post 0 [.ref 61, .int (nI t), dum] [] σ := by
  refine tt_aload_n (q := 1) dX2_forget_0 rfl rfl ?_
  refine tt_getR (q := 4) dX2_forget_1 fl_X2_11 or_61_0 (Nat.lt_of_le_of_lt (Nat.le_of_ble_eq_true rfl : 61 ≤ 72) hn) hd_61_0 rfl ?_
  refine tt_iconst (q := 5) dX2_forget_4 ki_0 rfl ?_
  refine tt_aald (q := 6) dX2_forget_5 ig_62 (Nat.lt_of_le_of_lt (Nat.le_of_ble_eq_true rfl : 62 ≤ 72) hn) rfl (Nat.le_of_ble_eq_true rfl : 0 < 2) rfl ?_
  refine tt_iload_n (q := 7) dX2_forget_6 rfl rfl ?_
  refine tt_bipush (q := 9) dX2_forget_7 bi_10 rfl ?_
  obtain ⟨l1, h⟩ := h
  refine tt_iast (q := 10) dX2_forget_9 (gi_62 _ (Nat.le_of_ble_eq_true rfl : 0 < 2)) (Nat.lt_of_le_of_lt (show 62 + 1 + 0 ≤ 72 by have := (Nat.le_of_ble_eq_true rfl : 0 < 2); omega) hn) rfl l1 rfl ?_
  replace h := h _ rfl
  refine tt_aload_n (q := 11) dX2_forget_10 rfl rfl ?_
  refine tt_getR (q := 14) dX2_forget_11 fl_X2_11 or_61_0 (Nat.lt_of_le_of_lt (Nat.le_of_ble_eq_true rfl : 61 ≤ 72) hn) hd_61_0 rfl ?_
  refine tt_iconst (q := 15) dX2_forget_14 ki_1 rfl ?_
  refine tt_aald (q := 16) dX2_forget_15 ig_62 (Nat.lt_of_le_of_lt (Nat.le_of_ble_eq_true rfl : 62 ≤ 72) hn) rfl (Nat.le_of_ble_eq_true rfl : 1 < 2) rfl ?_
  refine tt_iload_n (q := 17) dX2_forget_16 rfl rfl ?_
  refine tt_iconst (q := 18) dX2_forget_17 ki_0 rfl ?_
  obtain ⟨l3, h⟩ := h
  refine tt_iast (q := 19) dX2_forget_18 (gi_62 _ (Nat.le_of_ble_eq_true rfl : 1 < 2)) (Nat.lt_of_le_of_lt (show 62 + 1 + 1 ≤ 72 by have := (Nat.le_of_ble_eq_true rfl : 1 < 2); omega) hn) rfl l3 rfl ?_
  replace h := h _ rfl
  refine tt_iconst (q := 20) dX2_forget_19 ki_0 rfl ?_
  refine sti_n_2 (q := 21) dX2_forget_20 rfl rfl rfl ?_
  exact h
theorem g_X2_forget_21_61 {post : SG → Int32 → Prop} {σ : SG} {t : Nat} {i : Nat} {A : AL} (hn : 72 < A.1) (hd_61_0 : A.2.2 61 0 = true) (hd_61_1 : A.2.2 61 1 = true) (h : (i < 2 ^ 31 ∧ ((6 ≤ i → post σ 0) ∧ (i < 6 → (t < 6 ∧ (i < 6 ∧ (∀ s5 : SG, s5 = up σ (65 + 1 + t) i (nI 0) → (i < 6 ∧ (t < 6 ∧ (∀ s8 : SG, s8 = up s5 (65 + 1 + i) t (nI 0) → T_X2_forget A post 21 [.ref 61, .int (nI t), .int (nI (i + 1))] [] s8)))))))))) : T_X2_forget A post 21 [.ref 61, .int (nI t), .int (nI i)] [] σ := by
  refine tt_iload_n (q := 22) dX2_forget_21 rfl rfl ?_
  refine tt_bipush (q := 24) dX2_forget_22 bi_6 rfl ?_
  obtain ⟨l2, h⟩ := h
  refine tt_icmp_ge (q := 27) (t := 51) dX2_forget_24 rfl rfl (fun c => ?_) (fun c => ?_)
  · replace h := h.1 ((nI_leI (by decide) l2).1 c)
    exact tt_vret dX2_forget_51 ⟨rfl, rfl, h⟩
  · replace h := h.2 (Nat.lt_of_not_le (fun z => c ((nI_leI (by decide) l2).2 z)))
    refine tt_aload_n (q := 28) dX2_forget_27 rfl rfl ?_
    refine tt_getR (q := 31) dX2_forget_28 fl_X2_16 or_61_1 (Nat.lt_of_le_of_lt (Nat.le_of_ble_eq_true rfl : 61 ≤ 72) hn) hd_61_1 rfl ?_
    refine tt_iload_n (q := 32) dX2_forget_31 rfl rfl ?_
    obtain ⟨l3, h⟩ := h
    refine tt_aald (q := 33) dX2_forget_32 ig_65 (Nat.lt_of_le_of_lt (Nat.le_of_ble_eq_true rfl : 65 ≤ 72) hn) rfl l3 rfl ?_
    refine tt_iload_n (q := 34) dX2_forget_33 rfl rfl ?_
    refine tt_iconst (q := 35) dX2_forget_34 ki_0 rfl ?_
    obtain ⟨l4, h⟩ := h
    refine tt_iast (q := 36) dX2_forget_35 (gi_65 _ l3) (Nat.lt_of_le_of_lt (show 65 + 1 + t ≤ 72 by have := l3; omega) hn) rfl l4 rfl ?_
    replace h := h _ rfl
    refine tt_aload_n (q := 37) dX2_forget_36 rfl rfl ?_
    refine tt_getR (q := 40) dX2_forget_37 fl_X2_16 or_61_1 (Nat.lt_of_le_of_lt (Nat.le_of_ble_eq_true rfl : 61 ≤ 72) hn) hd_61_1 rfl ?_
    refine tt_iload_n (q := 41) dX2_forget_40 rfl rfl ?_
    obtain ⟨l6, h⟩ := h
    refine tt_aald (q := 42) dX2_forget_41 ig_65 (Nat.lt_of_le_of_lt (Nat.le_of_ble_eq_true rfl : 65 ≤ 72) hn) rfl l6 rfl ?_
    refine tt_iload_n (q := 43) dX2_forget_42 rfl rfl ?_
    refine tt_iconst (q := 44) dX2_forget_43 ki_0 rfl ?_
    obtain ⟨l7, h⟩ := h
    refine tt_iast (q := 45) dX2_forget_44 (gi_65 _ l6) (Nat.lt_of_le_of_lt (show 65 + 1 + i ≤ 72 by have := l6; omega) hn) rfl l7 rfl ?_
    replace h := h _ rfl
    refine inc_2 (q := 48) dX2_forget_45 (nI_inc1 _) rfl rfl ?_
    refine tt_goto (t := 21) dX2_forget_48 rfl ?_
    exact h

theorem g_X2_forget_0_88 {post : SG → Int32 → Prop} {σ : SG} {t : Nat} {A : AL} (hn : 99 < A.1) (hd_88_0 : A.2.2 88 0 = true) (hd_88_1 : A.2.2 88 1 = true) (h : (t < 6 ∧ (∀ s2 : SG, s2 = up σ 90 t (nI 10) → (t < 6 ∧ (∀ s4 : SG, s4 = up s2 91 t (nI 0) → T_X2_forget A post 21 [.ref 88, .int (nI t), .int (nI 0)] [] s4))))) : T_X2_forget A post 0 [.ref 88, .int (nI t), dum] [] σ := by
  refine tt_aload_n (q := 1) dX2_forget_0 rfl rfl ?_
  refine tt_getR (q := 4) dX2_forget_1 fl_X2_11 or_88_0 (Nat.lt_of_le_of_lt (Nat.le_of_ble_eq_true rfl : 88 ≤ 99) hn) hd_88_0 rfl ?_
  refine tt_iconst (q := 5) dX2_forget_4 ki_0 rfl ?_
  refine tt_aald (q := 6) dX2_forget_5 ig_89 (Nat.lt_of_le_of_lt (Nat.le_of_ble_eq_true rfl : 89 ≤ 99) hn) rfl (Nat.le_of_ble_eq_true rfl : 0 < 2) rfl ?_
  refine tt_iload_n (q := 7) dX2_forget_6 rfl rfl ?_
  refine tt_bipush (q := 9) dX2_forget_7 bi_10 rfl ?_
  obtain ⟨l1, h⟩ := h
  refine tt_iast (q := 10) dX2_forget_9 (gi_89 _ (Nat.le_of_ble_eq_true rfl : 0 < 2)) (Nat.lt_of_le_of_lt (show 89 + 1 + 0 ≤ 99 by have := (Nat.le_of_ble_eq_true rfl : 0 < 2); omega) hn) rfl l1 rfl ?_
  replace h := h _ rfl
  refine tt_aload_n (q := 11) dX2_forget_10 rfl rfl ?_
  refine tt_getR (q := 14) dX2_forget_11 fl_X2_11 or_88_0 (Nat.lt_of_le_of_lt (Nat.le_of_ble_eq_true rfl : 88 ≤ 99) hn) hd_88_0 rfl ?_
  refine tt_iconst (q := 15) dX2_forget_14 ki_1 rfl ?_
  refine tt_aald (q := 16) dX2_forget_15 ig_89 (Nat.lt_of_le_of_lt (Nat.le_of_ble_eq_true rfl : 89 ≤ 99) hn) rfl (Nat.le_of_ble_eq_true rfl : 1 < 2) rfl ?_
  refine tt_iload_n (q := 17) dX2_forget_16 rfl rfl ?_
  refine tt_iconst (q := 18) dX2_forget_17 ki_0 rfl ?_
  obtain ⟨l3, h⟩ := h
  refine tt_iast (q := 19) dX2_forget_18 (gi_89 _ (Nat.le_of_ble_eq_true rfl : 1 < 2)) (Nat.lt_of_le_of_lt (show 89 + 1 + 1 ≤ 99 by have := (Nat.le_of_ble_eq_true rfl : 1 < 2); omega) hn) rfl l3 rfl ?_
  replace h := h _ rfl
  refine tt_iconst (q := 20) dX2_forget_19 ki_0 rfl ?_
  refine sti_n_2 (q := 21) dX2_forget_20 rfl rfl rfl ?_
  exact h
theorem g_X2_forget_21_88 {post : SG → Int32 → Prop} {σ : SG} {t : Nat} {i : Nat} {A : AL} (hn : 99 < A.1) (hd_88_0 : A.2.2 88 0 = true) (hd_88_1 : A.2.2 88 1 = true) (h : (i < 2 ^ 31 ∧ ((6 ≤ i → post σ 0) ∧ (i < 6 → (t < 6 ∧ (i < 6 ∧ (∀ s5 : SG, s5 = up σ (92 + 1 + t) i (nI 0) → (i < 6 ∧ (t < 6 ∧ (∀ s8 : SG, s8 = up s5 (92 + 1 + i) t (nI 0) → T_X2_forget A post 21 [.ref 88, .int (nI t), .int (nI (i + 1))] [] s8)))))))))) : T_X2_forget A post 21 [.ref 88, .int (nI t), .int (nI i)] [] σ := by
  refine tt_iload_n (q := 22) dX2_forget_21 rfl rfl ?_
  refine tt_bipush (q := 24) dX2_forget_22 bi_6 rfl ?_
  obtain ⟨l2, h⟩ := h
  refine tt_icmp_ge (q := 27) (t := 51) dX2_forget_24 rfl rfl (fun c => ?_) (fun c => ?_)
  · replace h := h.1 ((nI_leI (by decide) l2).1 c)
    exact tt_vret dX2_forget_51 ⟨rfl, rfl, h⟩
  · replace h := h.2 (Nat.lt_of_not_le (fun z => c ((nI_leI (by decide) l2).2 z)))
    refine tt_aload_n (q := 28) dX2_forget_27 rfl rfl ?_
    refine tt_getR (q := 31) dX2_forget_28 fl_X2_16 or_88_1 (Nat.lt_of_le_of_lt (Nat.le_of_ble_eq_true rfl : 88 ≤ 99) hn) hd_88_1 rfl ?_
    refine tt_iload_n (q := 32) dX2_forget_31 rfl rfl ?_
    obtain ⟨l3, h⟩ := h
    refine tt_aald (q := 33) dX2_forget_32 ig_92 (Nat.lt_of_le_of_lt (Nat.le_of_ble_eq_true rfl : 92 ≤ 99) hn) rfl l3 rfl ?_
    refine tt_iload_n (q := 34) dX2_forget_33 rfl rfl ?_
    refine tt_iconst (q := 35) dX2_forget_34 ki_0 rfl ?_
    obtain ⟨l4, h⟩ := h
    refine tt_iast (q := 36) dX2_forget_35 (gi_92 _ l3) (Nat.lt_of_le_of_lt (show 92 + 1 + t ≤ 99 by have := l3; omega) hn) rfl l4 rfl ?_
    replace h := h _ rfl
    refine tt_aload_n (q := 37) dX2_forget_36 rfl rfl ?_
    refine tt_getR (q := 40) dX2_forget_37 fl_X2_16 or_88_1 (Nat.lt_of_le_of_lt (Nat.le_of_ble_eq_true rfl : 88 ≤ 99) hn) hd_88_1 rfl ?_
    refine tt_iload_n (q := 41) dX2_forget_40 rfl rfl ?_
    obtain ⟨l6, h⟩ := h
    refine tt_aald (q := 42) dX2_forget_41 ig_92 (Nat.lt_of_le_of_lt (Nat.le_of_ble_eq_true rfl : 92 ≤ 99) hn) rfl l6 rfl ?_
    refine tt_iload_n (q := 43) dX2_forget_42 rfl rfl ?_
    refine tt_iconst (q := 44) dX2_forget_43 ki_0 rfl ?_
    obtain ⟨l7, h⟩ := h
    refine tt_iast (q := 45) dX2_forget_44 (gi_92 _ l6) (Nat.lt_of_le_of_lt (show 92 + 1 + i ≤ 99 by have := l6; omega) hn) rfl l7 rfl ?_
    replace h := h _ rfl
    refine inc_2 (q := 48) dX2_forget_45 (nI_inc1 _) rfl rfl ?_
    refine tt_goto (t := 21) dX2_forget_48 rfl ?_
    exact h

theorem g_J6_bitCount_0f7a4_0 {post : SG → Int32 → Prop} {σ : SG} {v : Nat} {A : AL} (hn : 0 < A.1) (h : post σ (((((((((nI v) - ((((nI v).toUInt32 >>> ((nI 1).toUInt32 &&& Int32.toUInt32 31)).toInt32) &&& (1431655765 : Int32))) &&& (858993459 : Int32)) + (((((nI v) - ((((nI v).toUInt32 >>> ((nI 1).toUInt32 &&& Int32.toUInt32 31)).toInt32) &&& (1431655765 : Int32))).toUInt32 >>> ((nI 2).toUInt32 &&& Int32.toUInt32 31)).toInt32) &&& (858993459 : Int32))) + ((((((nI v) - ((((nI v).toUInt32 >>> ((nI 1).toUInt32 &&& Int32.toUInt32 31)).toInt32) &&& (1431655765 : Int32))) &&& (858993459 : Int32)) + (((((nI v) - ((((nI v).toUInt32 >>> ((nI 1).toUInt32 &&& Int32.toUInt32 31)).toInt32) &&& (1431655765 : Int32))).toUInt32 >>> ((nI 2).toUInt32 &&& Int32.toUInt32 31)).toInt32) &&& (858993459 : Int32))).toUInt32 >>> ((nI 4).toUInt32 &&& Int32.toUInt32 31)).toInt32)) &&& (252645135 : Int32)) + ((((((((nI v) - ((((nI v).toUInt32 >>> ((nI 1).toUInt32 &&& Int32.toUInt32 31)).toInt32) &&& (1431655765 : Int32))) &&& (858993459 : Int32)) + (((((nI v) - ((((nI v).toUInt32 >>> ((nI 1).toUInt32 &&& Int32.toUInt32 31)).toInt32) &&& (1431655765 : Int32))).toUInt32 >>> ((nI 2).toUInt32 &&& Int32.toUInt32 31)).toInt32) &&& (858993459 : Int32))) + ((((((nI v) - ((((nI v).toUInt32 >>> ((nI 1).toUInt32 &&& Int32.toUInt32 31)).toInt32) &&& (1431655765 : Int32))) &&& (858993459 : Int32)) + (((((nI v) - ((((nI v).toUInt32 >>> ((nI 1).toUInt32 &&& Int32.toUInt32 31)).toInt32) &&& (1431655765 : Int32))).toUInt32 >>> ((nI 2).toUInt32 &&& Int32.toUInt32 31)).toInt32) &&& (858993459 : Int32))).toUInt32 >>> ((nI 4).toUInt32 &&& Int32.toUInt32 31)).toInt32)) &&& (252645135 : Int32)).toUInt32 >>> ((nI 8).toUInt32 &&& Int32.toUInt32 31)).toInt32)) + (((((((((nI v) - ((((nI v).toUInt32 >>> ((nI 1).toUInt32 &&& Int32.toUInt32 31)).toInt32) &&& (1431655765 : Int32))) &&& (858993459 : Int32)) + (((((nI v) - ((((nI v).toUInt32 >>> ((nI 1).toUInt32 &&& Int32.toUInt32 31)).toInt32) &&& (1431655765 : Int32))).toUInt32 >>> ((nI 2).toUInt32 &&& Int32.toUInt32 31)).toInt32) &&& (858993459 : Int32))) + ((((((nI v) - ((((nI v).toUInt32 >>> ((nI 1).toUInt32 &&& Int32.toUInt32 31)).toInt32) &&& (1431655765 : Int32))) &&& (858993459 : Int32)) + (((((nI v) - ((((nI v).toUInt32 >>> ((nI 1).toUInt32 &&& Int32.toUInt32 31)).toInt32) &&& (1431655765 : Int32))).toUInt32 >>> ((nI 2).toUInt32 &&& Int32.toUInt32 31)).toInt32) &&& (858993459 : Int32))).toUInt32 >>> ((nI 4).toUInt32 &&& Int32.toUInt32 31)).toInt32)) &&& (252645135 : Int32)) + ((((((((nI v) - ((((nI v).toUInt32 >>> ((nI 1).toUInt32 &&& Int32.toUInt32 31)).toInt32) &&& (1431655765 : Int32))) &&& (858993459 : Int32)) + (((((nI v) - ((((nI v).toUInt32 >>> ((nI 1).toUInt32 &&& Int32.toUInt32 31)).toInt32) &&& (1431655765 : Int32))).toUInt32 >>> ((nI 2).toUInt32 &&& Int32.toUInt32 31)).toInt32) &&& (858993459 : Int32))) + ((((((nI v) - ((((nI v).toUInt32 >>> ((nI 1).toUInt32 &&& Int32.toUInt32 31)).toInt32) &&& (1431655765 : Int32))) &&& (858993459 : Int32)) + (((((nI v) - ((((nI v).toUInt32 >>> ((nI 1).toUInt32 &&& Int32.toUInt32 31)).toInt32) &&& (1431655765 : Int32))).toUInt32 >>> ((nI 2).toUInt32 &&& Int32.toUInt32 31)).toInt32) &&& (858993459 : Int32))).toUInt32 >>> ((nI 4).toUInt32 &&& Int32.toUInt32 31)).toInt32)) &&& (252645135 : Int32)).toUInt32 >>> ((nI 8).toUInt32 &&& Int32.toUInt32 31)).toInt32)).toUInt32 >>> ((nI 16).toUInt32 &&& Int32.toUInt32 31)).toInt32)) &&& (nI 63))) : T_J6_bitCount_0f7a4 A post 0 [.int (nI v)] [] σ := by
  refine tt_iload_n (q := 1) dJ6_bitCount_0f7a4_0 rfl rfl ?_
  refine tt_iload_n (q := 2) dJ6_bitCount_0f7a4_1 rfl rfl ?_
  refine tt_iconst (q := 3) dJ6_bitCount_0f7a4_2 ki_1 rfl ?_
  refine tt_iushr (q := 4) dJ6_bitCount_0f7a4_3 rfl ?_
  refine tt_ldcw (q := 7) dJ6_bitCount_0f7a4_4 lct_J6_265 rfl ?_
  refine tt_iand (q := 8) dJ6_bitCount_0f7a4_7 rfl ?_
  refine tt_isub (q := 9) dJ6_bitCount_0f7a4_8 rfl ?_
  refine sti_n_0 (q := 10) dJ6_bitCount_0f7a4_9 rfl rfl ?_
  refine tt_iload_n (q := 11) dJ6_bitCount_0f7a4_10 rfl rfl ?_
  refine tt_ldcw (q := 14) dJ6_bitCount_0f7a4_11 lct_J6_266 rfl ?_
  refine tt_iand (q := 15) dJ6_bitCount_0f7a4_14 rfl ?_
  refine tt_iload_n (q := 16) dJ6_bitCount_0f7a4_15 rfl rfl ?_
  refine tt_iconst (q := 17) dJ6_bitCount_0f7a4_16 ki_2 rfl ?_
  refine tt_iushr (q := 18) dJ6_bitCount_0f7a4_17 rfl ?_
  refine tt_ldcw (q := 21) dJ6_bitCount_0f7a4_18 lct_J6_266 rfl ?_
  refine tt_iand (q := 22) dJ6_bitCount_0f7a4_21 rfl ?_
  refine tt_iadd (q := 23) dJ6_bitCount_0f7a4_22 rfl ?_
  refine sti_n_0 (q := 24) dJ6_bitCount_0f7a4_23 rfl rfl ?_
  refine tt_iload_n (q := 25) dJ6_bitCount_0f7a4_24 rfl rfl ?_
  refine tt_iload_n (q := 26) dJ6_bitCount_0f7a4_25 rfl rfl ?_
  refine tt_iconst (q := 27) dJ6_bitCount_0f7a4_26 ki_4 rfl ?_
  refine tt_iushr (q := 28) dJ6_bitCount_0f7a4_27 rfl ?_
  refine tt_iadd (q := 29) dJ6_bitCount_0f7a4_28 rfl ?_
  refine tt_ldcw (q := 32) dJ6_bitCount_0f7a4_29 lct_J6_267 rfl ?_
  refine tt_iand (q := 33) dJ6_bitCount_0f7a4_32 rfl ?_
  refine sti_n_0 (q := 34) dJ6_bitCount_0f7a4_33 rfl rfl ?_
  refine tt_iload_n (q := 35) dJ6_bitCount_0f7a4_34 rfl rfl ?_
  refine tt_iload_n (q := 36) dJ6_bitCount_0f7a4_35 rfl rfl ?_
  refine tt_bipush (q := 38) dJ6_bitCount_0f7a4_36 bi_8 rfl ?_
  refine tt_iushr (q := 39) dJ6_bitCount_0f7a4_38 rfl ?_
  refine tt_iadd (q := 40) dJ6_bitCount_0f7a4_39 rfl ?_
  refine sti_n_0 (q := 41) dJ6_bitCount_0f7a4_40 rfl rfl ?_
  refine tt_iload_n (q := 42) dJ6_bitCount_0f7a4_41 rfl rfl ?_
  refine tt_iload_n (q := 43) dJ6_bitCount_0f7a4_42 rfl rfl ?_
  refine tt_bipush (q := 45) dJ6_bitCount_0f7a4_43 bi_16 rfl ?_
  refine tt_iushr (q := 46) dJ6_bitCount_0f7a4_45 rfl ?_
  refine tt_iadd (q := 47) dJ6_bitCount_0f7a4_46 rfl ?_
  refine sti_n_0 (q := 48) dJ6_bitCount_0f7a4_47 rfl rfl ?_
  refine tt_iload_n (q := 49) dJ6_bitCount_0f7a4_48 rfl rfl ?_
  refine tt_bipush (q := 51) dJ6_bitCount_0f7a4_49 bi_63 rfl ?_
  refine tt_iand (q := 52) dJ6_bitCount_0f7a4_51 rfl ?_
  exact tt_iret dJ6_bitCount_0f7a4_52 ⟨rfl, _, rfl, h⟩
