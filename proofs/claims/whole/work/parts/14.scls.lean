/-! segments, by program -/
theorem g_X0_firstAbove_0 {post : SG → Int32 → Prop} {σ : SG} {r : Nat} {more : Int32} (h : (r < 10 ∧ T_X0_firstAbove AF post 13 [.ref 85, .int (nI r), .int more, .int (σ 37 r), .int (nI 0)] [] σ)) : T_X0_firstAbove AF post 0 [.ref 85, .int (nI r), .int more, dum, dum] [] σ := by
  refine tt_aload_n (q := 1) dX0_firstAbove_0 rfl rfl ?_
  refine tt_getR (q := 4) dX0_firstAbove_1 fl_X0_15 or_85_2 (Nat.le_of_ble_eq_true rfl) rfl rfl ?_
  refine tt_getR (q := 7) dX0_firstAbove_4 fl_X0_27 or_36_1 (Nat.le_of_ble_eq_true rfl) rfl rfl ?_
  refine tt_iload_n (q := 8) dX0_firstAbove_7 rfl rfl ?_
  obtain ⟨l1, h⟩ := h
  refine tt_iald (q := 9) dX0_firstAbove_8 ia_37 (Nat.le_of_ble_eq_true rfl) rfl l1 rfl ?_
  refine sti_n_3 (q := 10) dX0_firstAbove_9 rfl rfl rfl ?_
  refine tt_iconst (q := 11) dX0_firstAbove_10 ki_0 rfl ?_
  refine sti_4 (q := 13) dX0_firstAbove_11 rfl rfl ?_
  exact h
theorem g_X0_firstAbove_13 {post : SG → Int32 → Prop} {σ : SG} {r : Nat} {more : Int32} {k : Nat} {i : Nat} (h : (((σ 85 0) ≤ (nI i) → (((nI k) ≤ (σ 85 0) → (((σ 85 0) ≤ (nI k) → post σ (-9 : Int32)) ∧ (¬ (σ 85 0) ≤ (nI k) → post σ (nI 99)))) ∧ (¬ (nI k) ≤ (σ 85 0) → post σ (σ 85 0)))) ∧ (¬ (σ 85 0) ≤ (nI i) → (i < 2 ^ 31 ∧ (k < 2 ^ 31 ∧ ((k ≤ i → (((nI k) ≤ (σ 85 0) → (((σ 85 0) ≤ (nI k) → post σ (-9 : Int32)) ∧ (¬ (σ 85 0) ≤ (nI k) → post σ (nI 99)))) ∧ (¬ (nI k) ≤ (σ 85 0) → post σ (σ 85 0)))) ∧ (i < k → (i < 8 ∧ (r < 10 ∧ (i < 8 ∧ (((nI i) ≤ 0 → (∃ p17 : SG → Int32 → Prop, IN_X2_takes AF σ [.ref 61, .int (σ (38 + 1 + r) i), .int (-9 : Int32)] p17 ∧ ∀ (t16 : SG) (r15 : Int32), p17 t16 r15 → (((σ 86 i) ≤ (r15 + more) → T_X0_firstAbove AF post 13 [.ref 85, .int (nI r), .int more, .int (nI k), .int (nI (i + 1))] [] t16) ∧ (¬ (σ 86 i) ≤ (r15 + more) → post t16 (nI i))))) ∧ (¬ (nI i) ≤ 0 → (r < 10 ∧ (1 ≤ i ∧ (i - 1 < 8 ∧ (∃ p26 : SG → Int32 → Prop, IN_X2_takes AF σ [.ref 61, .int (σ (38 + 1 + r) i), .int (σ (38 + 1 + r) (i - 1))] p26 ∧ ∀ (t25 : SG) (r24 : Int32), p26 t25 r24 → (((σ 86 i) ≤ (r24 + more) → T_X0_firstAbove AF post 13 [.ref 85, .int (nI r), .int more, .int (nI k), .int (nI (i + 1))] [] t25) ∧ (¬ (σ 86 i) ≤ (r24 + more) → post t25 (nI i))))))))))))))))))) : T_X0_firstAbove AF post 13 [.ref 85, .int (nI r), .int more, .int (nI k), .int (nI i)] [] σ := by
  refine tt_iload (q := 15) dX0_firstAbove_13 rfl rfl ?_
  refine tt_aload_n (q := 16) dX0_firstAbove_15 rfl rfl ?_
  refine tt_getI (q := 19) dX0_firstAbove_16 fl_X0_23 oi_85_0 (Nat.le_of_ble_eq_true rfl) rfl ?_
  refine tt_icmp_ge (q := 22) (t := 78) dX0_firstAbove_19 rfl rfl (fun c => ?_) (fun c => ?_)
  · replace h := h.1 c
    refine tt_aload_n (q := 79) dX0_firstAbove_78 rfl rfl ?_
    refine tt_getI (q := 82) dX0_firstAbove_79 fl_X0_23 oi_85_0 (Nat.le_of_ble_eq_true rfl) rfl ?_
    refine tt_iload_n (q := 83) dX0_firstAbove_82 rfl rfl ?_
    refine tt_icmp_ge (q := 86) (t := 91) dX0_firstAbove_83 rfl rfl (fun c => ?_) (fun c => ?_)
    · replace h := h.1 c
      refine tt_aload_n (q := 92) dX0_firstAbove_91 rfl rfl ?_
      refine tt_getI (q := 95) dX0_firstAbove_92 fl_X0_23 oi_85_0 (Nat.le_of_ble_eq_true rfl) rfl ?_
      refine tt_iload_n (q := 96) dX0_firstAbove_95 rfl rfl ?_
      refine tt_icmp_le (q := 99) (t := 104) dX0_firstAbove_96 rfl rfl (fun c => ?_) (fun c => ?_)
      · replace h := h.1 c
        refine tt_bipush (q := 106) dX0_firstAbove_104 bi_m9 rfl ?_
        exact tt_iret dX0_firstAbove_106 ⟨rfl, _, rfl, h⟩
      · replace h := h.2 c
        refine tt_bipush (q := 101) dX0_firstAbove_99 bi_99 rfl ?_
        refine tt_goto (t := 106) dX0_firstAbove_101 rfl ?_
        exact tt_iret dX0_firstAbove_106 ⟨rfl, _, rfl, h⟩
    · replace h := h.2 c
      refine tt_aload_n (q := 87) dX0_firstAbove_86 rfl rfl ?_
      refine tt_getI (q := 90) dX0_firstAbove_87 fl_X0_23 oi_85_0 (Nat.le_of_ble_eq_true rfl) rfl ?_
      exact tt_iret dX0_firstAbove_90 ⟨rfl, _, rfl, h⟩
  · replace h := h.2 c
    refine tt_iload (q := 24) dX0_firstAbove_22 rfl rfl ?_
    refine tt_iload_n (q := 25) dX0_firstAbove_24 rfl rfl ?_
    obtain ⟨l5, h⟩ := h
    obtain ⟨l6, h⟩ := h
    refine tt_icmp_ge (q := 28) (t := 78) dX0_firstAbove_25 rfl rfl (fun c => ?_) (fun c => ?_)
    · replace h := h.1 ((nI_leI l6 l5).1 c)
      refine tt_aload_n (q := 79) dX0_firstAbove_78 rfl rfl ?_
      refine tt_getI (q := 82) dX0_firstAbove_79 fl_X0_23 oi_85_0 (Nat.le_of_ble_eq_true rfl) rfl ?_
      refine tt_iload_n (q := 83) dX0_firstAbove_82 rfl rfl ?_
      refine tt_icmp_ge (q := 86) (t := 91) dX0_firstAbove_83 rfl rfl (fun c => ?_) (fun c => ?_)
      · replace h := h.1 c
        refine tt_aload_n (q := 92) dX0_firstAbove_91 rfl rfl ?_
        refine tt_getI (q := 95) dX0_firstAbove_92 fl_X0_23 oi_85_0 (Nat.le_of_ble_eq_true rfl) rfl ?_
        refine tt_iload_n (q := 96) dX0_firstAbove_95 rfl rfl ?_
        refine tt_icmp_le (q := 99) (t := 104) dX0_firstAbove_96 rfl rfl (fun c => ?_) (fun c => ?_)
        · replace h := h.1 c
          refine tt_bipush (q := 106) dX0_firstAbove_104 bi_m9 rfl ?_
          exact tt_iret dX0_firstAbove_106 ⟨rfl, _, rfl, h⟩
        · replace h := h.2 c
          refine tt_bipush (q := 101) dX0_firstAbove_99 bi_99 rfl ?_
          refine tt_goto (t := 106) dX0_firstAbove_101 rfl ?_
          exact tt_iret dX0_firstAbove_106 ⟨rfl, _, rfl, h⟩
      · replace h := h.2 c
        refine tt_aload_n (q := 87) dX0_firstAbove_86 rfl rfl ?_
        refine tt_getI (q := 90) dX0_firstAbove_87 fl_X0_23 oi_85_0 (Nat.le_of_ble_eq_true rfl) rfl ?_
        exact tt_iret dX0_firstAbove_90 ⟨rfl, _, rfl, h⟩
    · replace h := h.2 (Nat.lt_of_not_le (fun z => c ((nI_leI l6 l5).2 z)))
      refine tt_aload_n (q := 29) dX0_firstAbove_28 rfl rfl ?_
      refine tt_getR (q := 32) dX0_firstAbove_29 fl_X0_9 or_85_1 (Nat.le_of_ble_eq_true rfl) rfl rfl ?_
      refine tt_iload (q := 34) dX0_firstAbove_32 rfl rfl ?_
      obtain ⟨l9, h⟩ := h
      refine tt_iald (q := 35) dX0_firstAbove_34 ia_86 (Nat.le_of_ble_eq_true rfl) rfl l9 rfl ?_
      refine tt_aload_n (q := 36) dX0_firstAbove_35 rfl rfl ?_
      refine tt_getR (q := 39) dX0_firstAbove_36 fl_X0_19 or_85_3 (Nat.le_of_ble_eq_true rfl) rfl rfl ?_
      refine tt_aload_n (q := 40) dX0_firstAbove_39 rfl rfl ?_
      refine tt_getR (q := 43) dX0_firstAbove_40 fl_X0_15 or_85_2 (Nat.le_of_ble_eq_true rfl) rfl rfl ?_
      refine tt_getR (q := 46) dX0_firstAbove_43 fl_X0_32 or_36_2 (Nat.le_of_ble_eq_true rfl) rfl rfl ?_
      refine tt_iload_n (q := 47) dX0_firstAbove_46 rfl rfl ?_
      obtain ⟨l10, h⟩ := h
      refine tt_aald (q := 48) dX0_firstAbove_47 ig_38 (Nat.le_of_ble_eq_true rfl) rfl l10 rfl ?_
      refine tt_iload (q := 50) dX0_firstAbove_48 rfl rfl ?_
      obtain ⟨l11, h⟩ := h
      refine tt_iald (q := 51) dX0_firstAbove_50 (gi_38 _ l10) (gl_38 _ l10) rfl l11 rfl ?_
      refine tt_aload_n (q := 52) dX0_firstAbove_51 rfl rfl ?_
      refine tt_getR (q := 55) dX0_firstAbove_52 fl_X0_15 or_85_2 (Nat.le_of_ble_eq_true rfl) rfl rfl ?_
      refine tt_iload_n (q := 56) dX0_firstAbove_55 rfl rfl ?_
      refine tt_iload (q := 58) dX0_firstAbove_56 rfl rfl ?_
      refine callVi_2 (q := 61) dX0_firstAbove_58 (Or.inl ⟨rfl, rfl, ⟨⟨_, _, rfl, rfl, (Nat.le_of_ble_eq_true rfl), rc_36⟩, Nat.le_of_ble_eq_true rfl, ?_⟩⟩) (Nat.le_of_ble_eq_true rfl) rfl (fun t13 r12 ht13 => ht13)
      refine (show TT cX5_ahead RX5 false CT0 CN0 _ _ _ none 0 [_, _, _] [] _ _ from ?_)
      refine tt_iload_n (q := 1) dX5_ahead_0 rfl rfl ?_
      refine tt_if_le (q := 4) (t := 17) dX5_ahead_1 rfl rfl (fun c => ?_) (fun c => ?_)
      · replace h := h.1 c
        refine tt_bipush (q := 19) dX5_ahead_17 bi_m9 rfl ?_
        refine tt_iret dX5_ahead_19 ⟨rfl, _, rfl, ?_⟩
        obtain ⟨p17, hp18, h⟩ := h
        refine callVi_2 (q := 64) dX0_firstAbove_61 (Or.inr (⟨rfl, rfl, hp18⟩)) (Nat.le_of_ble_eq_true rfl) rfl (fun t16 r15 hr19 => ?_)
        replace h := h t16 r15 hr19
        refine tt_iload_n (q := 65) dX0_firstAbove_64 rfl rfl ?_
        refine tt_iadd (q := 66) dX0_firstAbove_65 rfl ?_
        refine tt_icmp_le (q := 69) (t := 72) dX0_firstAbove_66 rfl rfl (fun c => ?_) (fun c => ?_)
        · replace h := h.1 c
          refine inc_4 (q := 75) dX0_firstAbove_72 (nI_inc1 _) rfl rfl ?_
          refine tt_goto (t := 13) dX0_firstAbove_75 rfl ?_
          exact h
        · replace h := h.2 c
          refine tt_iload (q := 71) dX0_firstAbove_69 rfl rfl ?_
          exact tt_iret dX0_firstAbove_71 ⟨rfl, _, rfl, h⟩
      · replace h := h.2 c
        refine tt_aload_n (q := 5) dX5_ahead_4 rfl rfl ?_
        refine tt_getR (q := 8) dX5_ahead_5 fl_X5_17 or_36_2 (Nat.le_of_ble_eq_true rfl) rfl rfl ?_
        refine tt_iload_n (q := 9) dX5_ahead_8 rfl rfl ?_
        obtain ⟨l21, h⟩ := h
        refine tt_aald (q := 10) dX5_ahead_9 ig_38 (Nat.le_of_ble_eq_true rfl) rfl l21 rfl ?_
        refine tt_iload_n (q := 11) dX5_ahead_10 rfl rfl ?_
        refine tt_iconst (q := 12) dX5_ahead_11 ki_1 rfl ?_
        obtain ⟨l22, h⟩ := h
        refine tt_isubN (q := 13) dX5_ahead_12 l22 rfl ?_
        obtain ⟨l23, h⟩ := h
        refine tt_iald (q := 14) dX5_ahead_13 (gi_38 _ l21) (gl_38 _ l21) rfl l23 rfl ?_
        refine tt_goto (t := 19) dX5_ahead_14 rfl ?_
        refine tt_iret dX5_ahead_19 ⟨rfl, _, rfl, ?_⟩
        obtain ⟨p26, hp27, h⟩ := h
        refine callVi_2 (q := 64) dX0_firstAbove_61 (Or.inr (⟨rfl, rfl, hp27⟩)) (Nat.le_of_ble_eq_true rfl) rfl (fun t25 r24 hr28 => ?_)
        replace h := h t25 r24 hr28
        refine tt_iload_n (q := 65) dX0_firstAbove_64 rfl rfl ?_
        refine tt_iadd (q := 66) dX0_firstAbove_65 rfl ?_
        refine tt_icmp_le (q := 69) (t := 72) dX0_firstAbove_66 rfl rfl (fun c => ?_) (fun c => ?_)
        · replace h := h.1 c
          refine inc_4 (q := 75) dX0_firstAbove_72 (nI_inc1 _) rfl rfl ?_
          refine tt_goto (t := 13) dX0_firstAbove_75 rfl ?_
          exact h
        · replace h := h.2 c
          refine tt_iload (q := 71) dX0_firstAbove_69 rfl rfl ?_
          exact tt_iret dX0_firstAbove_71 ⟨rfl, _, rfl, h⟩

theorem g_X0_allAbove_0 {post : SG → Int32 → Prop} {σ : SG} {r : Nat} (h : T_X0_allAbove AF post 4 [.ref 85, .int (nI r), .int (nI 0), .int (nI 0), dum] [] σ) : T_X0_allAbove AF post 0 [.ref 85, .int (nI r), dum, dum, dum] [] σ := by
  refine tt_iconst (q := 1) dX0_allAbove_0 ki_0 rfl ?_
  refine sti_n_2 (q := 2) dX0_allAbove_1 rfl rfl rfl ?_
  refine tt_iconst (q := 3) dX0_allAbove_2 ki_0 rfl ?_
  refine sti_n_3 (q := 4) dX0_allAbove_3 rfl rfl rfl ?_
  exact h
theorem g_X0_allAbove_4 {post : SG → Int32 → Prop} {σ : SG} {r : Nat} {all : Int32} {i : Nat} (h : (((σ 85 0) ≤ (nI i) → post σ all) ∧ (¬ (σ 85 0) ≤ (nI i) → (((nI i) < 0 → (i < 8 ∧ T_X0_allAbove AF post 4 [.ref 85, .int (nI r), .int (all + (if (nI 0) < ((σ 86 i) - (nI 0)) then ((σ 86 i) - (nI 0)) else (nI 0))), .int (nI (i + 1)), dum] [] σ)) ∧ (¬ (nI i) < 0 → (r < 10 ∧ (((σ 37 r) ≤ (nI i) → (i < 8 ∧ T_X0_allAbove AF post 4 [.ref 85, .int (nI r), .int (all + (if (nI 0) < ((σ 86 i) - (nI 0)) then ((σ 86 i) - (nI 0)) else (nI 0))), .int (nI (i + 1)), dum] [] σ)) ∧ (¬ (σ 37 r) ≤ (nI i) → (r < 10 ∧ (i < 8 ∧ (((nI i) ≤ 0 → (∃ p16 : SG → Int32 → Prop, IN_X2_takes AF σ [.ref 61, .int (σ (38 + 1 + r) i), .int (-9 : Int32)] p16 ∧ ∀ (t15 : SG) (r14 : Int32), p16 t15 r14 → (i < 8 ∧ T_X0_allAbove AF post 4 [.ref 85, .int (nI r), .int (all + (if (nI 0) < ((t15 86 i) - r14) then ((t15 86 i) - r14) else (nI 0))), .int (nI (i + 1)), dum] [] t15))) ∧ (¬ (nI i) ≤ 0 → (r < 10 ∧ (1 ≤ i ∧ (i - 1 < 8 ∧ (∃ p25 : SG → Int32 → Prop, IN_X2_takes AF σ [.ref 61, .int (σ (38 + 1 + r) i), .int (σ (38 + 1 + r) (i - 1))] p25 ∧ ∀ (t24 : SG) (r23 : Int32), p25 t24 r23 → (i < 8 ∧ T_X0_allAbove AF post 4 [.ref 85, .int (nI r), .int (all + (if (nI 0) < ((t24 86 i) - r23) then ((t24 86 i) - r23) else (nI 0))), .int (nI (i + 1)), dum] [] t24))))))))))))))))) : T_X0_allAbove AF post 4 [.ref 85, .int (nI r), .int all, .int (nI i), dum] [] σ := by
  refine tt_iload_n (q := 5) dX0_allAbove_4 rfl rfl ?_
  refine tt_aload_n (q := 6) dX0_allAbove_5 rfl rfl ?_
  refine tt_getI (q := 9) dX0_allAbove_6 fl_X0_23 oi_85_0 (Nat.le_of_ble_eq_true rfl) rfl ?_
  refine tt_icmp_ge (q := 12) (t := 79) dX0_allAbove_9 rfl rfl (fun c => ?_) (fun c => ?_)
  · replace h := h.1 c
    refine tt_iload_n (q := 80) dX0_allAbove_79 rfl rfl ?_
    exact tt_iret dX0_allAbove_80 ⟨rfl, _, rfl, h⟩
  · replace h := h.2 c
    refine tt_aload_n (q := 13) dX0_allAbove_12 rfl rfl ?_
    refine tt_getR (q := 16) dX0_allAbove_13 fl_X0_15 or_85_2 (Nat.le_of_ble_eq_true rfl) rfl rfl ?_
    refine tt_iload_n (q := 17) dX0_allAbove_16 rfl rfl ?_
    refine tt_iload_n (q := 18) dX0_allAbove_17 rfl rfl ?_
    refine callVi_2 (q := 21) dX0_allAbove_18 (Or.inl ⟨rfl, rfl, ⟨⟨_, _, rfl, rfl, (Nat.le_of_ble_eq_true rfl), rc_36⟩, Nat.le_of_ble_eq_true rfl, ?_⟩⟩) (Nat.le_of_ble_eq_true rfl) rfl (fun t3 r2 ht3 => ht3)
    refine (show TT cX5_hasMove RX5 false CT0 CN0 _ _ _ none 0 [_, _, _] [] _ _ from ?_)
    refine tt_iload_n (q := 1) dX5_hasMove_0 rfl rfl ?_
    refine tt_if_lt (q := 4) (t := 18) dX5_hasMove_1 rfl rfl (fun c => ?_) (fun c => ?_)
    · replace h := h.1 c
      refine tt_iconst (q := 19) dX5_hasMove_18 ki_0 rfl ?_
      refine tt_iret dX5_hasMove_19 ⟨rfl, _, rfl, Or.inl nI_0, ?_⟩
      refine tt_if_eq (q := 24) (t := 54) dX0_allAbove_21 rfl rfl (fun c => ?_) (fun c => absurd c (by decide))
      clear c
      refine tt_iconst (q := 55) dX0_allAbove_54 ki_0 rfl ?_
      refine sti_4 (q := 57) dX0_allAbove_55 rfl rfl ?_
      refine tt_iload_n (q := 58) dX0_allAbove_57 rfl rfl ?_
      refine tt_iconst (q := 59) dX0_allAbove_58 ki_0 rfl ?_
      refine tt_aload_n (q := 60) dX0_allAbove_59 rfl rfl ?_
      refine tt_getR (q := 63) dX0_allAbove_60 fl_X0_9 or_85_1 (Nat.le_of_ble_eq_true rfl) rfl rfl ?_
      refine tt_iload_n (q := 64) dX0_allAbove_63 rfl rfl ?_
      obtain ⟨l5, h⟩ := h
      refine tt_iald (q := 65) dX0_allAbove_64 ia_86 (Nat.le_of_ble_eq_true rfl) rfl l5 rfl ?_
      refine tt_iload (q := 67) dX0_allAbove_65 rfl rfl ?_
      refine tt_isub (q := 68) dX0_allAbove_67 rfl ?_
      refine tt_mmax (q := 71) dX0_allAbove_68 lmm_X0_49 (Nat.le_of_ble_eq_true rfl) rfl ?_
      refine tt_iadd (q := 72) dX0_allAbove_71 rfl ?_
      refine sti_n_2 (q := 73) dX0_allAbove_72 rfl rfl rfl ?_
      refine inc_3 (q := 76) dX0_allAbove_73 (nI_inc1 _) rfl rfl ?_
      refine tt_goto (t := 4) dX0_allAbove_76 rfl ?_
      refine tt_wk (L2 := [_, _, _, _, dum]) ⟨Or.inl rfl, Or.inl rfl, Or.inl rfl, Or.inl rfl, Or.inr rfl, trivial⟩ ?_
      exact h
    · replace h := h.2 c
      refine tt_iload_n (q := 5) dX5_hasMove_4 rfl rfl ?_
      refine tt_aload_n (q := 6) dX5_hasMove_5 rfl rfl ?_
      refine tt_getR (q := 9) dX5_hasMove_6 fl_X5_9 or_36_1 (Nat.le_of_ble_eq_true rfl) rfl rfl ?_
      refine tt_iload_n (q := 10) dX5_hasMove_9 rfl rfl ?_
      obtain ⟨l6, h⟩ := h
      refine tt_iald (q := 11) dX5_hasMove_10 ia_37 (Nat.le_of_ble_eq_true rfl) rfl l6 rfl ?_
      refine tt_icmp_ge (q := 14) (t := 18) dX5_hasMove_11 rfl rfl (fun c => ?_) (fun c => ?_)
      · replace h := h.1 c
        refine tt_iconst (q := 19) dX5_hasMove_18 ki_0 rfl ?_
        refine tt_iret dX5_hasMove_19 ⟨rfl, _, rfl, Or.inl nI_0, ?_⟩
        refine tt_if_eq (q := 24) (t := 54) dX0_allAbove_21 rfl rfl (fun c => ?_) (fun c => absurd c (by decide))
        clear c
        refine tt_iconst (q := 55) dX0_allAbove_54 ki_0 rfl ?_
        refine sti_4 (q := 57) dX0_allAbove_55 rfl rfl ?_
        refine tt_iload_n (q := 58) dX0_allAbove_57 rfl rfl ?_
        refine tt_iconst (q := 59) dX0_allAbove_58 ki_0 rfl ?_
        refine tt_aload_n (q := 60) dX0_allAbove_59 rfl rfl ?_
        refine tt_getR (q := 63) dX0_allAbove_60 fl_X0_9 or_85_1 (Nat.le_of_ble_eq_true rfl) rfl rfl ?_
        refine tt_iload_n (q := 64) dX0_allAbove_63 rfl rfl ?_
        obtain ⟨l8, h⟩ := h
        refine tt_iald (q := 65) dX0_allAbove_64 ia_86 (Nat.le_of_ble_eq_true rfl) rfl l8 rfl ?_
        refine tt_iload (q := 67) dX0_allAbove_65 rfl rfl ?_
        refine tt_isub (q := 68) dX0_allAbove_67 rfl ?_
        refine tt_mmax (q := 71) dX0_allAbove_68 lmm_X0_49 (Nat.le_of_ble_eq_true rfl) rfl ?_
        refine tt_iadd (q := 72) dX0_allAbove_71 rfl ?_
        refine sti_n_2 (q := 73) dX0_allAbove_72 rfl rfl rfl ?_
        refine inc_3 (q := 76) dX0_allAbove_73 (nI_inc1 _) rfl rfl ?_
        refine tt_goto (t := 4) dX0_allAbove_76 rfl ?_
        refine tt_wk (L2 := [_, _, _, _, dum]) ⟨Or.inl rfl, Or.inl rfl, Or.inl rfl, Or.inl rfl, Or.inr rfl, trivial⟩ ?_
        exact h
      · replace h := h.2 c
        refine tt_iconst (q := 15) dX5_hasMove_14 ki_1 rfl ?_
        refine tt_goto (t := 19) dX5_hasMove_15 rfl ?_
        refine tt_iret dX5_hasMove_19 ⟨rfl, _, rfl, Or.inr rfl, ?_⟩
        refine tt_if_eq (q := 24) (t := 54) dX0_allAbove_21 rfl rfl (fun c => absurd c (by decide)) (fun c => ?_)
        clear c
        refine tt_aload_n (q := 25) dX0_allAbove_24 rfl rfl ?_
        refine tt_getR (q := 28) dX0_allAbove_25 fl_X0_19 or_85_3 (Nat.le_of_ble_eq_true rfl) rfl rfl ?_
        refine tt_aload_n (q := 29) dX0_allAbove_28 rfl rfl ?_
        refine tt_getR (q := 32) dX0_allAbove_29 fl_X0_15 or_85_2 (Nat.le_of_ble_eq_true rfl) rfl rfl ?_
        refine tt_getR (q := 35) dX0_allAbove_32 fl_X0_32 or_36_2 (Nat.le_of_ble_eq_true rfl) rfl rfl ?_
        refine tt_iload_n (q := 36) dX0_allAbove_35 rfl rfl ?_
        obtain ⟨l9, h⟩ := h
        refine tt_aald (q := 37) dX0_allAbove_36 ig_38 (Nat.le_of_ble_eq_true rfl) rfl l9 rfl ?_
        refine tt_iload_n (q := 38) dX0_allAbove_37 rfl rfl ?_
        obtain ⟨l10, h⟩ := h
        refine tt_iald (q := 39) dX0_allAbove_38 (gi_38 _ l9) (gl_38 _ l9) rfl l10 rfl ?_
        refine tt_aload_n (q := 40) dX0_allAbove_39 rfl rfl ?_
        refine tt_getR (q := 43) dX0_allAbove_40 fl_X0_15 or_85_2 (Nat.le_of_ble_eq_true rfl) rfl rfl ?_
        refine tt_iload_n (q := 44) dX0_allAbove_43 rfl rfl ?_
        refine tt_iload_n (q := 45) dX0_allAbove_44 rfl rfl ?_
        refine callVi_2 (q := 48) dX0_allAbove_45 (Or.inr (Or.inl ⟨rfl, rfl, ⟨⟨_, _, rfl, rfl, (Nat.le_of_ble_eq_true rfl), rc_36⟩, Nat.le_of_ble_eq_true rfl, ?_⟩⟩)) (Nat.le_of_ble_eq_true rfl) rfl (fun t12 r11 ht12 => ht12)
        refine (show TT cX5_ahead RX5 false CT0 CN0 _ _ _ none 0 [_, _, _] [] _ _ from ?_)
        refine tt_iload_n (q := 1) dX5_ahead_0 rfl rfl ?_
        refine tt_if_le (q := 4) (t := 17) dX5_ahead_1 rfl rfl (fun c => ?_) (fun c => ?_)
        · replace h := h.1 c
          refine tt_bipush (q := 19) dX5_ahead_17 bi_m9 rfl ?_
          refine tt_iret dX5_ahead_19 ⟨rfl, _, rfl, ?_⟩
          obtain ⟨p16, hp17, h⟩ := h
          refine callVi_2 (q := 51) dX0_allAbove_48 (Or.inr (Or.inr (⟨rfl, rfl, hp17⟩))) (Nat.le_of_ble_eq_true rfl) rfl (fun t15 r14 hr18 => ?_)
          replace h := h t15 r14 hr18
          refine tt_goto (t := 55) dX0_allAbove_51 rfl ?_
          refine sti_4 (q := 57) dX0_allAbove_55 rfl rfl ?_
          refine tt_iload_n (q := 58) dX0_allAbove_57 rfl rfl ?_
          refine tt_iconst (q := 59) dX0_allAbove_58 ki_0 rfl ?_
          refine tt_aload_n (q := 60) dX0_allAbove_59 rfl rfl ?_
          refine tt_getR (q := 63) dX0_allAbove_60 fl_X0_9 or_85_1 (Nat.le_of_ble_eq_true rfl) rfl rfl ?_
          refine tt_iload_n (q := 64) dX0_allAbove_63 rfl rfl ?_
          obtain ⟨l19, h⟩ := h
          refine tt_iald (q := 65) dX0_allAbove_64 ia_86 (Nat.le_of_ble_eq_true rfl) rfl l19 rfl ?_
          refine tt_iload (q := 67) dX0_allAbove_65 rfl rfl ?_
          refine tt_isub (q := 68) dX0_allAbove_67 rfl ?_
          refine tt_mmax (q := 71) dX0_allAbove_68 lmm_X0_49 (Nat.le_of_ble_eq_true rfl) rfl ?_
          refine tt_iadd (q := 72) dX0_allAbove_71 rfl ?_
          refine sti_n_2 (q := 73) dX0_allAbove_72 rfl rfl rfl ?_
          refine inc_3 (q := 76) dX0_allAbove_73 (nI_inc1 _) rfl rfl ?_
          refine tt_goto (t := 4) dX0_allAbove_76 rfl ?_
          refine tt_wk (L2 := [_, _, _, _, dum]) ⟨Or.inl rfl, Or.inl rfl, Or.inl rfl, Or.inl rfl, Or.inr rfl, trivial⟩ ?_
          exact h
        · replace h := h.2 c
          refine tt_aload_n (q := 5) dX5_ahead_4 rfl rfl ?_
          refine tt_getR (q := 8) dX5_ahead_5 fl_X5_17 or_36_2 (Nat.le_of_ble_eq_true rfl) rfl rfl ?_
          refine tt_iload_n (q := 9) dX5_ahead_8 rfl rfl ?_
          obtain ⟨l20, h⟩ := h
          refine tt_aald (q := 10) dX5_ahead_9 ig_38 (Nat.le_of_ble_eq_true rfl) rfl l20 rfl ?_
          refine tt_iload_n (q := 11) dX5_ahead_10 rfl rfl ?_
          refine tt_iconst (q := 12) dX5_ahead_11 ki_1 rfl ?_
          obtain ⟨l21, h⟩ := h
          refine tt_isubN (q := 13) dX5_ahead_12 l21 rfl ?_
          obtain ⟨l22, h⟩ := h
          refine tt_iald (q := 14) dX5_ahead_13 (gi_38 _ l20) (gl_38 _ l20) rfl l22 rfl ?_
          refine tt_goto (t := 19) dX5_ahead_14 rfl ?_
          refine tt_iret dX5_ahead_19 ⟨rfl, _, rfl, ?_⟩
          obtain ⟨p25, hp26, h⟩ := h
          refine callVi_2 (q := 51) dX0_allAbove_48 (Or.inr (Or.inr (⟨rfl, rfl, hp26⟩))) (Nat.le_of_ble_eq_true rfl) rfl (fun t24 r23 hr27 => ?_)
          replace h := h t24 r23 hr27
          refine tt_goto (t := 55) dX0_allAbove_51 rfl ?_
          refine sti_4 (q := 57) dX0_allAbove_55 rfl rfl ?_
          refine tt_iload_n (q := 58) dX0_allAbove_57 rfl rfl ?_
          refine tt_iconst (q := 59) dX0_allAbove_58 ki_0 rfl ?_
          refine tt_aload_n (q := 60) dX0_allAbove_59 rfl rfl ?_
          refine tt_getR (q := 63) dX0_allAbove_60 fl_X0_9 or_85_1 (Nat.le_of_ble_eq_true rfl) rfl rfl ?_
          refine tt_iload_n (q := 64) dX0_allAbove_63 rfl rfl ?_
          obtain ⟨l28, h⟩ := h
          refine tt_iald (q := 65) dX0_allAbove_64 ia_86 (Nat.le_of_ble_eq_true rfl) rfl l28 rfl ?_
          refine tt_iload (q := 67) dX0_allAbove_65 rfl rfl ?_
          refine tt_isub (q := 68) dX0_allAbove_67 rfl ?_
          refine tt_mmax (q := 71) dX0_allAbove_68 lmm_X0_49 (Nat.le_of_ble_eq_true rfl) rfl ?_
          refine tt_iadd (q := 72) dX0_allAbove_71 rfl ?_
          refine sti_n_2 (q := 73) dX0_allAbove_72 rfl rfl rfl ?_
          refine inc_3 (q := 76) dX0_allAbove_73 (nI_inc1 _) rfl rfl ?_
          refine tt_goto (t := 4) dX0_allAbove_76 rfl ?_
          refine tt_wk (L2 := [_, _, _, _, dum]) ⟨Or.inl rfl, Or.inl rfl, Or.inl rfl, Or.inl rfl, Or.inr rfl, trivial⟩ ?_
          exact h

theorem g_X1_leastTime_0 {post : SG → Int32 → Prop} {σ : SG} {o : Nat} {n : Nat} (h : (n < 2 ^ 31 ∧ 5 < 2 ^ 31 ∧ (∀ s3 : SG, s3 = up σ 73 6 (nI (min n 5)) → (∀ s4 : SG, s4 = up s3 73 4 (nI 0) → (∀ s5 : SG, s5 = up s4 73 5 (nI 1486) → (∃ p8 : SG → Int32 → Prop, IN_X1_search 7 AF s5 [.ref 73, .int (nI 0), .int (nI o), .int (nI 0)] p8 ∧ ∀ t7 : SG, p8 t7 0 → ((¬ (t7 73 4) = 0 → (∀ s12 : SG, s12 = up t7 73 1 (t7 73 4) → (∃ j13 : Nat, (s12 73 4) = nI j13 ∧ (0 + j13 ≤ 5 ∧ 0 + j13 ≤ 5 ∧ (∀ s17 : SG, s17 = cpy s12 76 0 74 0 j13 → post s17 (s17 73 5)))))) ∧ ((t7 73 4) = 0 → post t7 (-9 : Int32))))))))) : T_X1_leastTime AF post 0 [.ref 73, .int (nI o), .int (nI n)] [] σ := by
  refine tt_aload_n (q := 1) dX1_leastTime_0 rfl rfl ?_
  refine tt_iload_n (q := 2) dX1_leastTime_1 rfl rfl ?_
  refine tt_iconst (q := 3) dX1_leastTime_2 ki_5 rfl ?_
  obtain ⟨l1, l2, h⟩ := h
  refine tt_mminN (q := 6) dX1_leastTime_3 lmm_X1_29 l1 l2 (Nat.le_of_ble_eq_true rfl) rfl ?_
  refine tt_putI (q := 9) dX1_leastTime_6 fl_X1_35 oi_73_6 (fp_1_6 _) (Nat.le_of_ble_eq_true rfl) rfl ?_
  replace h := h _ rfl
  refine tt_aload_n (q := 10) dX1_leastTime_9 rfl rfl ?_
  refine tt_iconst (q := 11) dX1_leastTime_10 ki_0 rfl ?_
  refine tt_putI (q := 14) dX1_leastTime_11 fl_X1_39 oi_73_4 (fp_1_4 _) (Nat.le_of_ble_eq_true rfl) rfl ?_
  replace h := h _ rfl
  refine tt_aload_n (q := 15) dX1_leastTime_14 rfl rfl ?_
  refine tt_sipush (q := 18) dX1_leastTime_15 si_1486 rfl ?_
  refine tt_putI (q := 21) dX1_leastTime_18 fl_X1_42 oi_73_5 (fp_1_5 _) (Nat.le_of_ble_eq_true rfl) rfl ?_
  replace h := h _ rfl
  refine tt_aload_n (q := 22) dX1_leastTime_21 rfl rfl ?_
  refine tt_iconst (q := 23) dX1_leastTime_22 ki_0 rfl ?_
  refine tt_iload_n (q := 24) dX1_leastTime_23 rfl rfl ?_
  refine tt_iconst (q := 25) dX1_leastTime_24 ki_0 rfl ?_
  obtain ⟨p8, hp9, h⟩ := h
  refine callSv_4 (q := 28) dX1_leastTime_25 (⟨rfl, rfl, hp9⟩) (Nat.le_of_ble_eq_true rfl) rfl (fun t7 hr10 => ?_)
  replace h := h t7 hr10
  refine tt_aload_n (q := 29) dX1_leastTime_28 rfl rfl ?_
  refine tt_getI (q := 32) dX1_leastTime_29 fl_X1_39 oi_73_4 (Nat.le_of_ble_eq_true rfl) rfl ?_
  refine tt_if_ne (q := 35) (t := 38) dX1_leastTime_32 rfl rfl (fun c => ?_) (fun c => ?_)
  · replace h := h.1 c
    refine tt_aload_n (q := 39) dX1_leastTime_38 rfl rfl ?_
    refine tt_aload_n (q := 40) dX1_leastTime_39 rfl rfl ?_
    refine tt_getI (q := 43) dX1_leastTime_40 fl_X1_39 oi_73_4 (Nat.le_of_ble_eq_true rfl) rfl ?_
    refine tt_putI (q := 46) dX1_leastTime_43 fl_X1_49 oi_73_1 (fp_1_1 _) (Nat.le_of_ble_eq_true rfl) rfl ?_
    replace h := h _ rfl
    refine tt_aload_n (q := 47) dX1_leastTime_46 rfl rfl ?_
    refine tt_getR (q := 50) dX1_leastTime_47 fl_X1_18 or_73_3 (Nat.le_of_ble_eq_true rfl) rfl rfl ?_
    refine tt_iconst (q := 51) dX1_leastTime_50 ki_0 rfl ?_
    refine tt_aload_n (q := 52) dX1_leastTime_51 rfl rfl ?_
    refine tt_getR (q := 55) dX1_leastTime_52 fl_X1_9 or_73_0 (Nat.le_of_ble_eq_true rfl) rfl rfl ?_
    refine tt_iconst (q := 56) dX1_leastTime_55 ki_0 rfl ?_
    refine tt_aload_n (q := 57) dX1_leastTime_56 rfl rfl ?_
    refine tt_getI (q := 60) dX1_leastTime_57 fl_X1_39 oi_73_4 (Nat.le_of_ble_eq_true rfl) rfl ?_
    obtain ⟨j13, e14, h⟩ := h
    obtain ⟨b15, b16, h⟩ := h
    refine tt_copy (q := 63) dX1_leastTime_60 lcp_X1_52 ia_76 ia_74 (Nat.le_of_ble_eq_true rfl) (Nat.le_of_ble_eq_true rfl) rfl rfl e14 b15 b16 (Nat.le_of_ble_eq_true rfl) rfl ?_
    replace h := h _ rfl
    refine tt_aload_n (q := 64) dX1_leastTime_63 rfl rfl ?_
    refine tt_getI (q := 67) dX1_leastTime_64 fl_X1_42 oi_73_5 (Nat.le_of_ble_eq_true rfl) rfl ?_
    exact tt_iret dX1_leastTime_67 ⟨rfl, _, rfl, h⟩
  · replace h := h.2 c
    refine tt_bipush (q := 37) dX1_leastTime_35 bi_m9 rfl ?_
    exact tt_iret dX1_leastTime_37 ⟨rfl, _, rfl, h⟩

theorem g_X1_search_0 {post : SG → Int32 → Prop} {σ : SG} {dp : Nat} {o : Nat} {tk : Nat} {d : Nat} (h : (((nI dp) ≤ 0 → (((σ 73 6) ≤ (nI dp) → post σ 0) ∧ (¬ (σ 73 6) ≤ (nI dp) → (((nI tk) < (σ 73 5) → T_X1_search d AF post 34 [.ref 73, .int (nI dp), .int (nI o), .int (nI tk), .int (nI 0), dum, dum] [] σ) ∧ (¬ (nI tk) < (σ 73 5) → post σ 0))))) ∧ (¬ (nI dp) ≤ 0 → (o < 2 ^ 31 ∧ ((¬ o = 0 → (((σ 73 6) ≤ (nI dp) → post σ 0) ∧ (¬ (σ 73 6) ≤ (nI dp) → (((nI tk) < (σ 73 5) → T_X1_search d AF post 34 [.ref 73, .int (nI dp), .int (nI o), .int (nI tk), .int (nI 0), dum, dum] [] σ) ∧ (¬ (nI tk) < (σ 73 5) → post σ 0))))) ∧ (o = 0 → (((nI tk) < (σ 73 5) → (∀ s11 : SG, s11 = up σ 73 5 (nI tk) → (∀ s12 : SG, s12 = up s11 73 4 (nI dp) → (0 + dp ≤ 5 ∧ 0 + dp ≤ 5 ∧ (∀ s15 : SG, s15 = cpy s12 75 0 76 0 dp → (((s15 73 6) ≤ (nI dp) → post s15 0) ∧ (¬ (s15 73 6) ≤ (nI dp) → (((nI tk) < (s15 73 5) → T_X1_search d AF post 34 [.ref 73, .int (nI dp), .int (nI o), .int (nI tk), .int (nI 0), dum, dum] [] s15) ∧ (¬ (nI tk) < (s15 73 5) → post s15 0))))))))) ∧ (¬ (nI tk) < (σ 73 5) → ((¬ (nI tk) = (σ 73 5) → (((σ 73 6) ≤ (nI dp) → post σ 0) ∧ (¬ (σ 73 6) ≤ (nI dp) → (((nI tk) < (σ 73 5) → T_X1_search d AF post 34 [.ref 73, .int (nI dp), .int (nI o), .int (nI tk), .int (nI 0), dum, dum] [] σ) ∧ (¬ (nI tk) < (σ 73 5) → post σ 0))))) ∧ ((nI tk) = (σ 73 5) → (((σ 73 4) ≤ (nI dp) → (((σ 73 6) ≤ (nI dp) → post σ 0) ∧ (¬ (σ 73 6) ≤ (nI dp) → (((nI tk) < (σ 73 5) → T_X1_search d AF post 34 [.ref 73, .int (nI dp), .int (nI o), .int (nI tk), .int (nI 0), dum, dum] [] σ) ∧ (¬ (nI tk) < (σ 73 5) → post σ 0))))) ∧ (¬ (σ 73 4) ≤ (nI dp) → (∀ s24 : SG, s24 = up σ 73 5 (nI tk) → (∀ s25 : SG, s25 = up s24 73 4 (nI dp) → (0 + dp ≤ 5 ∧ 0 + dp ≤ 5 ∧ (∀ s28 : SG, s28 = cpy s25 75 0 76 0 dp → (((s28 73 6) ≤ (nI dp) → post s28 0) ∧ (¬ (s28 73 6) ≤ (nI dp) → (((nI tk) < (s28 73 5) → T_X1_search d AF post 34 [.ref 73, .int (nI dp), .int (nI o), .int (nI tk), .int (nI 0), dum, dum] [] s28) ∧ (¬ (nI tk) < (s28 73 5) → post s28 0)))))))))))))))))))) : T_X1_search d AF post 0 [.ref 73, .int (nI dp), .int (nI o), .int (nI tk), dum, dum, dum] [] σ := by
  refine tt_iload_n (q := 1) dX1_search_0 rfl rfl ?_
  refine tt_if_le (q := 4) (t := 14) dX1_search_1 rfl rfl (fun c => ?_) (fun c => ?_)
  · replace h := h.1 c
    refine tt_iload_n (q := 15) dX1_search_14 rfl rfl ?_
    refine tt_aload_n (q := 16) dX1_search_15 rfl rfl ?_
    refine tt_getI (q := 19) dX1_search_16 fl_X1_35 oi_73_6 (Nat.le_of_ble_eq_true rfl) rfl ?_
    refine tt_icmp_ge (q := 22) (t := 30) dX1_search_19 rfl rfl (fun c => ?_) (fun c => ?_)
    · replace h := h.1 c
      exact tt_vret dX1_search_30 ⟨rfl, rfl, h⟩
    · replace h := h.2 c
      refine tt_iload_n (q := 23) dX1_search_22 rfl rfl ?_
      refine tt_aload_n (q := 24) dX1_search_23 rfl rfl ?_
      refine tt_getI (q := 27) dX1_search_24 fl_X1_42 oi_73_5 (Nat.le_of_ble_eq_true rfl) rfl ?_
      refine tt_icmp_lt (q := 30) (t := 31) dX1_search_27 rfl rfl (fun c => ?_) (fun c => ?_)
      · replace h := h.1 c
        refine tt_iconst (q := 32) dX1_search_31 ki_0 rfl ?_
        refine sti_4 (q := 34) dX1_search_32 rfl rfl ?_
        exact h
      · replace h := h.2 c
        exact tt_vret dX1_search_30 ⟨rfl, rfl, h⟩
  · replace h := h.2 c
    refine tt_iload_n (q := 5) dX1_search_4 rfl rfl ?_
    obtain ⟨l5, h⟩ := h
    refine tt_if_ne (q := 8) (t := 14) dX1_search_5 rfl rfl (fun c => ?_) (fun c => ?_)
    · replace h := h.1 (fun z => c ((nI_eq l5 (by decide)).2 z))
      refine tt_iload_n (q := 15) dX1_search_14 rfl rfl ?_
      refine tt_aload_n (q := 16) dX1_search_15 rfl rfl ?_
      refine tt_getI (q := 19) dX1_search_16 fl_X1_35 oi_73_6 (Nat.le_of_ble_eq_true rfl) rfl ?_
      refine tt_icmp_ge (q := 22) (t := 30) dX1_search_19 rfl rfl (fun c => ?_) (fun c => ?_)
      · replace h := h.1 c
        exact tt_vret dX1_search_30 ⟨rfl, rfl, h⟩
      · replace h := h.2 c
        refine tt_iload_n (q := 23) dX1_search_22 rfl rfl ?_
        refine tt_aload_n (q := 24) dX1_search_23 rfl rfl ?_
        refine tt_getI (q := 27) dX1_search_24 fl_X1_42 oi_73_5 (Nat.le_of_ble_eq_true rfl) rfl ?_
        refine tt_icmp_lt (q := 30) (t := 31) dX1_search_27 rfl rfl (fun c => ?_) (fun c => ?_)
        · replace h := h.1 c
          refine tt_iconst (q := 32) dX1_search_31 ki_0 rfl ?_
          refine sti_4 (q := 34) dX1_search_32 rfl rfl ?_
          exact h
        · replace h := h.2 c
          exact tt_vret dX1_search_30 ⟨rfl, rfl, h⟩
    · replace h := h.2 ((nI_eq l5 (by decide)).1 c)
      refine tt_aload_n (q := 9) dX1_search_8 rfl rfl ?_
      refine tt_iload_n (q := 10) dX1_search_9 rfl rfl ?_
      refine tt_iload_n (q := 11) dX1_search_10 rfl rfl ?_
      refine callVvI_2 (q := 14) dX1_search_11 (Or.inl ⟨rfl, rfl, ⟨⟨_, _, rfl, rfl, (Nat.le_of_ble_eq_true rfl), rc_73⟩, Nat.le_of_ble_eq_true rfl, ?_⟩⟩) (Nat.le_of_ble_eq_true rfl) rfl (fun t9 ht9 => ht9)
      refine (show TT cX1_look RX1 false CT0 CN0 _ _ _ none 0 [_, _, _] [] _ _ from ?_)
      refine tt_iload_n (q := 1) dX1_look_0 rfl rfl ?_
      refine tt_aload_n (q := 2) dX1_look_1 rfl rfl ?_
      refine tt_getI (q := 5) dX1_look_2 fl_X1_42 oi_73_5 (Nat.le_of_ble_eq_true rfl) rfl ?_
      refine tt_icmp_lt (q := 8) (t := 24) dX1_look_5 rfl rfl (fun c => ?_) (fun c => ?_)
      · replace h := h.1 c
        refine tt_aload_n (q := 25) dX1_look_24 rfl rfl ?_
        refine tt_iload_n (q := 26) dX1_look_25 rfl rfl ?_
        refine tt_putI (q := 29) dX1_look_26 fl_X1_42 oi_73_5 (fp_1_5 _) (Nat.le_of_ble_eq_true rfl) rfl ?_
        replace h := h _ rfl
        refine tt_aload_n (q := 30) dX1_look_29 rfl rfl ?_
        refine tt_iload_n (q := 31) dX1_look_30 rfl rfl ?_
        refine tt_putI (q := 34) dX1_look_31 fl_X1_39 oi_73_4 (fp_1_4 _) (Nat.le_of_ble_eq_true rfl) rfl ?_
        replace h := h _ rfl
        refine tt_aload_n (q := 35) dX1_look_34 rfl rfl ?_
        refine tt_getR (q := 38) dX1_look_35 fl_X1_15 or_73_2 (Nat.le_of_ble_eq_true rfl) rfl rfl ?_
        refine tt_iconst (q := 39) dX1_look_38 ki_0 rfl ?_
        refine tt_aload_n (q := 40) dX1_look_39 rfl rfl ?_
        refine tt_getR (q := 43) dX1_look_40 fl_X1_18 or_73_3 (Nat.le_of_ble_eq_true rfl) rfl rfl ?_
        refine tt_iconst (q := 44) dX1_look_43 ki_0 rfl ?_
        refine tt_iload_n (q := 45) dX1_look_44 rfl rfl ?_
        obtain ⟨b13, b14, h⟩ := h
        refine tt_copy (q := 48) dX1_look_45 lcp_X1_52 ia_75 ia_76 (Nat.le_of_ble_eq_true rfl) (Nat.le_of_ble_eq_true rfl) rfl rfl rfl b13 b14 (Nat.le_of_ble_eq_true rfl) rfl ?_
        replace h := h _ rfl
        refine tt_vret dX1_look_48 ⟨rfl, rfl, ?_⟩
        refine tt_iload_n (q := 15) dX1_search_14 rfl rfl ?_
        refine tt_aload_n (q := 16) dX1_search_15 rfl rfl ?_
        refine tt_getI (q := 19) dX1_search_16 fl_X1_35 oi_73_6 (Nat.le_of_ble_eq_true rfl) rfl ?_
        refine tt_icmp_ge (q := 22) (t := 30) dX1_search_19 rfl rfl (fun c => ?_) (fun c => ?_)
        · replace h := h.1 c
          exact tt_vret dX1_search_30 ⟨rfl, rfl, h⟩
        · replace h := h.2 c
          refine tt_iload_n (q := 23) dX1_search_22 rfl rfl ?_
          refine tt_aload_n (q := 24) dX1_search_23 rfl rfl ?_
          refine tt_getI (q := 27) dX1_search_24 fl_X1_42 oi_73_5 (Nat.le_of_ble_eq_true rfl) rfl ?_
          refine tt_icmp_lt (q := 30) (t := 31) dX1_search_27 rfl rfl (fun c => ?_) (fun c => ?_)
          · replace h := h.1 c
            refine tt_iconst (q := 32) dX1_search_31 ki_0 rfl ?_
            refine sti_4 (q := 34) dX1_search_32 rfl rfl ?_
            exact h
          · replace h := h.2 c
            exact tt_vret dX1_search_30 ⟨rfl, rfl, h⟩
      · replace h := h.2 c
        refine tt_iload_n (q := 9) dX1_look_8 rfl rfl ?_
        refine tt_aload_n (q := 10) dX1_look_9 rfl rfl ?_
        refine tt_getI (q := 13) dX1_look_10 fl_X1_42 oi_73_5 (Nat.le_of_ble_eq_true rfl) rfl ?_
        refine tt_icmp_ne (q := 16) (t := 48) dX1_look_13 rfl rfl (fun c => ?_) (fun c => ?_)
        · replace h := h.1 c
          refine tt_vret dX1_look_48 ⟨rfl, rfl, ?_⟩
          refine tt_iload_n (q := 15) dX1_search_14 rfl rfl ?_
          refine tt_aload_n (q := 16) dX1_search_15 rfl rfl ?_
          refine tt_getI (q := 19) dX1_search_16 fl_X1_35 oi_73_6 (Nat.le_of_ble_eq_true rfl) rfl ?_
          refine tt_icmp_ge (q := 22) (t := 30) dX1_search_19 rfl rfl (fun c => ?_) (fun c => ?_)
          · replace h := h.1 c
            exact tt_vret dX1_search_30 ⟨rfl, rfl, h⟩
          · replace h := h.2 c
            refine tt_iload_n (q := 23) dX1_search_22 rfl rfl ?_
            refine tt_aload_n (q := 24) dX1_search_23 rfl rfl ?_
            refine tt_getI (q := 27) dX1_search_24 fl_X1_42 oi_73_5 (Nat.le_of_ble_eq_true rfl) rfl ?_
            refine tt_icmp_lt (q := 30) (t := 31) dX1_search_27 rfl rfl (fun c => ?_) (fun c => ?_)
            · replace h := h.1 c
              refine tt_iconst (q := 32) dX1_search_31 ki_0 rfl ?_
              refine sti_4 (q := 34) dX1_search_32 rfl rfl ?_
              exact h
            · replace h := h.2 c
              exact tt_vret dX1_search_30 ⟨rfl, rfl, h⟩
        · replace h := h.2 c
          refine tt_iload_n (q := 17) dX1_look_16 rfl rfl ?_
          refine tt_aload_n (q := 18) dX1_look_17 rfl rfl ?_
          refine tt_getI (q := 21) dX1_look_18 fl_X1_39 oi_73_4 (Nat.le_of_ble_eq_true rfl) rfl ?_
          refine tt_icmp_ge (q := 24) (t := 48) dX1_look_21 rfl rfl (fun c => ?_) (fun c => ?_)
          · replace h := h.1 c
            refine tt_vret dX1_look_48 ⟨rfl, rfl, ?_⟩
            refine tt_iload_n (q := 15) dX1_search_14 rfl rfl ?_
            refine tt_aload_n (q := 16) dX1_search_15 rfl rfl ?_
            refine tt_getI (q := 19) dX1_search_16 fl_X1_35 oi_73_6 (Nat.le_of_ble_eq_true rfl) rfl ?_
            refine tt_icmp_ge (q := 22) (t := 30) dX1_search_19 rfl rfl (fun c => ?_) (fun c => ?_)
            · replace h := h.1 c
              exact tt_vret dX1_search_30 ⟨rfl, rfl, h⟩
            · replace h := h.2 c
              refine tt_iload_n (q := 23) dX1_search_22 rfl rfl ?_
              refine tt_aload_n (q := 24) dX1_search_23 rfl rfl ?_
              refine tt_getI (q := 27) dX1_search_24 fl_X1_42 oi_73_5 (Nat.le_of_ble_eq_true rfl) rfl ?_
              refine tt_icmp_lt (q := 30) (t := 31) dX1_search_27 rfl rfl (fun c => ?_) (fun c => ?_)
              · replace h := h.1 c
                refine tt_iconst (q := 32) dX1_search_31 ki_0 rfl ?_
                refine sti_4 (q := 34) dX1_search_32 rfl rfl ?_
                exact h
              · replace h := h.2 c
                exact tt_vret dX1_search_30 ⟨rfl, rfl, h⟩
          · replace h := h.2 c
            refine tt_aload_n (q := 25) dX1_look_24 rfl rfl ?_
            refine tt_iload_n (q := 26) dX1_look_25 rfl rfl ?_
            refine tt_putI (q := 29) dX1_look_26 fl_X1_42 oi_73_5 (fp_1_5 _) (Nat.le_of_ble_eq_true rfl) rfl ?_
            replace h := h _ rfl
            refine tt_aload_n (q := 30) dX1_look_29 rfl rfl ?_
            refine tt_iload_n (q := 31) dX1_look_30 rfl rfl ?_
            refine tt_putI (q := 34) dX1_look_31 fl_X1_39 oi_73_4 (fp_1_4 _) (Nat.le_of_ble_eq_true rfl) rfl ?_
            replace h := h _ rfl
            refine tt_aload_n (q := 35) dX1_look_34 rfl rfl ?_
            refine tt_getR (q := 38) dX1_look_35 fl_X1_15 or_73_2 (Nat.le_of_ble_eq_true rfl) rfl rfl ?_
            refine tt_iconst (q := 39) dX1_look_38 ki_0 rfl ?_
            refine tt_aload_n (q := 40) dX1_look_39 rfl rfl ?_
            refine tt_getR (q := 43) dX1_look_40 fl_X1_18 or_73_3 (Nat.le_of_ble_eq_true rfl) rfl rfl ?_
            refine tt_iconst (q := 44) dX1_look_43 ki_0 rfl ?_
            refine tt_iload_n (q := 45) dX1_look_44 rfl rfl ?_
            obtain ⟨b26, b27, h⟩ := h
            refine tt_copy (q := 48) dX1_look_45 lcp_X1_52 ia_75 ia_76 (Nat.le_of_ble_eq_true rfl) (Nat.le_of_ble_eq_true rfl) rfl rfl rfl b26 b27 (Nat.le_of_ble_eq_true rfl) rfl ?_
            replace h := h _ rfl
            refine tt_vret dX1_look_48 ⟨rfl, rfl, ?_⟩
            refine tt_iload_n (q := 15) dX1_search_14 rfl rfl ?_
            refine tt_aload_n (q := 16) dX1_search_15 rfl rfl ?_
            refine tt_getI (q := 19) dX1_search_16 fl_X1_35 oi_73_6 (Nat.le_of_ble_eq_true rfl) rfl ?_
            refine tt_icmp_ge (q := 22) (t := 30) dX1_search_19 rfl rfl (fun c => ?_) (fun c => ?_)
            · replace h := h.1 c
              exact tt_vret dX1_search_30 ⟨rfl, rfl, h⟩
            · replace h := h.2 c
              refine tt_iload_n (q := 23) dX1_search_22 rfl rfl ?_
              refine tt_aload_n (q := 24) dX1_search_23 rfl rfl ?_
              refine tt_getI (q := 27) dX1_search_24 fl_X1_42 oi_73_5 (Nat.le_of_ble_eq_true rfl) rfl ?_
              refine tt_icmp_lt (q := 30) (t := 31) dX1_search_27 rfl rfl (fun c => ?_) (fun c => ?_)
              · replace h := h.1 c
                refine tt_iconst (q := 32) dX1_search_31 ki_0 rfl ?_
                refine sti_4 (q := 34) dX1_search_32 rfl rfl ?_
                exact h
              · replace h := h.2 c
                exact tt_vret dX1_search_30 ⟨rfl, rfl, h⟩
theorem g_X1_search_34 {post : SG → Int32 → Prop} {σ : SG} {dp : Nat} {o : Nat} {tk : Nat} {m : Nat} {d : Nat} (h : ((((nI 2) * (σ 7 0)) ≤ (nI m) → post σ 0) ∧ (¬ ((nI 2) * (σ 7 0)) ≤ (nI m) → (m < 12 ∧ (o < 720 ∧ (∃ j5 : Nat, (σ (21 + 1 + m) o) = nI j5 ∧ j5 < 720 ∧ ((((σ 73 6) - (nI dp)) ≤ (σ 34 j5) → T_X1_search d AF post 34 [.ref 73, .int (nI dp), .int (nI o), .int (nI tk), .int (nI (m + 1)), dum, dum] [] σ) ∧ (¬ ((σ 73 6) - (nI dp)) ≤ (σ 34 j5) → (dp < 5 ∧ (∀ s9 : SG, s9 = up σ 75 dp (nI m) → (((nI dp) ≤ 0 → (∃ p13 : SG → Int32 → Prop, IN_X2_takes AF s9 [.ref 61, .int (nI m), .int (-9 : Int32)] p13 ∧ ∀ (t12 : SG) (r11 : Int32), p13 t12 r11 → (∃ p18 : SG → Int32 → Prop, IN_X1_search d AF t12 [.ref 73, .int (nI (dp + 1)), .int (σ (21 + 1 + m) o), .int ((nI tk) + r11)] p18 ∧ ∀ t17 : SG, p18 t17 0 → T_X1_search d AF post 34 [.ref 73, .int (nI dp), .int (nI o), .int (nI tk), .int (nI (m + 1)), dum, dum] [] t17))) ∧ (¬ (nI dp) ≤ 0 → (1 ≤ dp ∧ (dp - 1 < 5 ∧ (∃ p25 : SG → Int32 → Prop, IN_X2_takes AF s9 [.ref 61, .int (nI m), .int (s9 75 (dp - 1))] p25 ∧ ∀ (t24 : SG) (r23 : Int32), p25 t24 r23 → (∃ p30 : SG → Int32 → Prop, IN_X1_search d AF t24 [.ref 73, .int (nI (dp + 1)), .int (σ (21 + 1 + m) o), .int ((nI tk) + r23)] p30 ∧ ∀ t29 : SG, p30 t29 0 → T_X1_search d AF post 34 [.ref 73, .int (nI dp), .int (nI o), .int (nI tk), .int (nI (m + 1)), dum, dum] [] t29)))))))))))))))) : T_X1_search d AF post 34 [.ref 73, .int (nI dp), .int (nI o), .int (nI tk), .int (nI m), dum, dum] [] σ := by
  refine tt_iload (q := 36) dX1_search_34 rfl rfl ?_
  refine tt_iconst (q := 37) dX1_search_36 ki_2 rfl ?_
  refine tt_aload_n (q := 38) dX1_search_37 rfl rfl ?_
  refine tt_getR (q := 41) dX1_search_38 fl_X1_21 or_73_7 (Nat.le_of_ble_eq_true rfl) rfl rfl ?_
  refine tt_getI (q := 44) dX1_search_41 fl_X1_62 oi_7_0 (Nat.le_of_ble_eq_true rfl) rfl ?_
  refine tt_imul (q := 45) dX1_search_44 rfl ?_
  refine tt_icmp_ge (q := 48) (t := 136) dX1_search_45 rfl rfl (fun c => ?_) (fun c => ?_)
  · replace h := h.1 c
    exact tt_vret dX1_search_136 ⟨rfl, rfl, h⟩
  · replace h := h.2 c
    refine tt_aload_n (q := 49) dX1_search_48 rfl rfl ?_
    refine tt_getR (q := 52) dX1_search_49 fl_X1_21 or_73_7 (Nat.le_of_ble_eq_true rfl) rfl rfl ?_
    refine tt_getR (q := 55) dX1_search_52 fl_X1_67 or_7_2 (Nat.le_of_ble_eq_true rfl) rfl rfl ?_
    refine tt_iload (q := 57) dX1_search_55 rfl rfl ?_
    obtain ⟨l2, h⟩ := h
    refine tt_aald (q := 58) dX1_search_57 ig_21 (Nat.le_of_ble_eq_true rfl) rfl l2 rfl ?_
    refine tt_iload_n (q := 59) dX1_search_58 rfl rfl ?_
    obtain ⟨l3, h⟩ := h
    refine tt_iald (q := 60) dX1_search_59 (gi_21 _ l2) (gl_21 _ l2) rfl l3 rfl ?_
    refine sti_5 (q := 62) dX1_search_60 rfl rfl ?_
    refine tt_aload_n (q := 63) dX1_search_62 rfl rfl ?_
    refine tt_getR (q := 66) dX1_search_63 fl_X1_21 or_73_7 (Nat.le_of_ble_eq_true rfl) rfl rfl ?_
    refine tt_getR (q := 69) dX1_search_66 fl_X1_71 or_7_3 (Nat.le_of_ble_eq_true rfl) rfl rfl ?_
    refine tt_iload (q := 71) dX1_search_69 rfl rfl ?_
    obtain ⟨j5, e6, l4, h⟩ := h
    refine tt_iald (q := 72) dX1_search_71 ia_34 (Nat.le_of_ble_eq_true rfl) e6 l4 rfl ?_
    refine tt_aload_n (q := 73) dX1_search_72 rfl rfl ?_
    refine tt_getI (q := 76) dX1_search_73 fl_X1_35 oi_73_6 (Nat.le_of_ble_eq_true rfl) rfl ?_
    refine tt_iload_n (q := 77) dX1_search_76 rfl rfl ?_
    refine tt_isub (q := 78) dX1_search_77 rfl ?_
    refine tt_icmp_ge (q := 81) (t := 130) dX1_search_78 rfl rfl (fun c => ?_) (fun c => ?_)
    · replace h := h.1 c
      refine inc_4 (q := 133) dX1_search_130 (nI_inc1 _) rfl rfl ?_
      refine tt_goto (t := 34) dX1_search_133 rfl ?_
      refine tt_wk (L2 := [_, _, _, _, _, dum, dum]) ⟨Or.inl rfl, Or.inl rfl, Or.inl rfl, Or.inl rfl, Or.inl rfl, Or.inr rfl, Or.inl rfl, trivial⟩ ?_
      exact h
    · replace h := h.2 c
      refine tt_aload_n (q := 82) dX1_search_81 rfl rfl ?_
      refine tt_getR (q := 85) dX1_search_82 fl_X1_15 or_73_2 (Nat.le_of_ble_eq_true rfl) rfl rfl ?_
      refine tt_iload_n (q := 86) dX1_search_85 rfl rfl ?_
      refine tt_iload (q := 88) dX1_search_86 rfl rfl ?_
      obtain ⟨l8, h⟩ := h
      refine tt_iast (q := 89) dX1_search_88 ia_75 (Nat.le_of_ble_eq_true rfl) rfl l8 rfl ?_
      replace h := h _ rfl
      refine tt_iload_n (q := 90) dX1_search_89 rfl rfl ?_
      refine tt_if_le (q := 93) (t := 104) dX1_search_90 rfl rfl (fun c => ?_) (fun c => ?_)
      · replace h := h.1 c
        refine tt_bipush (q := 106) dX1_search_104 bi_m9 rfl ?_
        refine sti_6 (q := 108) dX1_search_106 rfl rfl ?_
        refine tt_aload_n (q := 109) dX1_search_108 rfl rfl ?_
        refine tt_iload_n (q := 110) dX1_search_109 rfl rfl ?_
        refine tt_iconst (q := 111) dX1_search_110 ki_1 rfl ?_
        refine tt_iaddN (q := 112) dX1_search_111 rfl ?_
        refine tt_iload (q := 114) dX1_search_112 rfl rfl ?_
        refine tt_iload_n (q := 115) dX1_search_114 rfl rfl ?_
        refine tt_aload_n (q := 116) dX1_search_115 rfl rfl ?_
        refine tt_getR (q := 119) dX1_search_116 fl_X1_25 or_73_8 (Nat.le_of_ble_eq_true rfl) rfl rfl ?_
        refine tt_iload (q := 121) dX1_search_119 rfl rfl ?_
        refine tt_iload (q := 123) dX1_search_121 rfl rfl ?_
        obtain ⟨p13, hp14, h⟩ := h
        refine callVi_2 (q := 126) dX1_search_123 (Or.inr (Or.inl ⟨rfl, rfl, hp14⟩)) (Nat.le_of_ble_eq_true rfl) rfl (fun t12 r11 hr15 => ?_)
        replace h := h t12 r11 hr15
        refine tt_iadd (q := 127) dX1_search_126 rfl ?_
        obtain ⟨p18, hp19, h⟩ := h
        refine callSv_4 (q := 130) dX1_search_127 (Or.inr (Or.inr (⟨rfl, rfl, hp19⟩))) (Nat.le_of_ble_eq_true rfl) rfl (fun t17 hr20 => ?_)
        replace h := h t17 hr20
        refine inc_4 (q := 133) dX1_search_130 (nI_inc1 _) rfl rfl ?_
        refine tt_goto (t := 34) dX1_search_133 rfl ?_
        refine tt_wk (L2 := [_, _, _, _, _, dum, dum]) ⟨Or.inl rfl, Or.inl rfl, Or.inl rfl, Or.inl rfl, Or.inl rfl, Or.inr rfl, Or.inr rfl, trivial⟩ ?_
        exact h
      · replace h := h.2 c
        refine tt_aload_n (q := 94) dX1_search_93 rfl rfl ?_
        refine tt_getR (q := 97) dX1_search_94 fl_X1_15 or_73_2 (Nat.le_of_ble_eq_true rfl) rfl rfl ?_
        refine tt_iload_n (q := 98) dX1_search_97 rfl rfl ?_
        refine tt_iconst (q := 99) dX1_search_98 ki_1 rfl ?_
        obtain ⟨l21, h⟩ := h
        refine tt_isubN (q := 100) dX1_search_99 l21 rfl ?_
        obtain ⟨l22, h⟩ := h
        refine tt_iald (q := 101) dX1_search_100 ia_75 (Nat.le_of_ble_eq_true rfl) rfl l22 rfl ?_
        refine tt_goto (t := 106) dX1_search_101 rfl ?_
        refine sti_6 (q := 108) dX1_search_106 rfl rfl ?_
        refine tt_aload_n (q := 109) dX1_search_108 rfl rfl ?_
        refine tt_iload_n (q := 110) dX1_search_109 rfl rfl ?_
        refine tt_iconst (q := 111) dX1_search_110 ki_1 rfl ?_
        refine tt_iaddN (q := 112) dX1_search_111 rfl ?_
        refine tt_iload (q := 114) dX1_search_112 rfl rfl ?_
        refine tt_iload_n (q := 115) dX1_search_114 rfl rfl ?_
        refine tt_aload_n (q := 116) dX1_search_115 rfl rfl ?_
        refine tt_getR (q := 119) dX1_search_116 fl_X1_25 or_73_8 (Nat.le_of_ble_eq_true rfl) rfl rfl ?_
        refine tt_iload (q := 121) dX1_search_119 rfl rfl ?_
        refine tt_iload (q := 123) dX1_search_121 rfl rfl ?_
        obtain ⟨p25, hp26, h⟩ := h
        refine callVi_2 (q := 126) dX1_search_123 (Or.inr (Or.inl ⟨rfl, rfl, hp26⟩)) (Nat.le_of_ble_eq_true rfl) rfl (fun t24 r23 hr27 => ?_)
        replace h := h t24 r23 hr27
        refine tt_iadd (q := 127) dX1_search_126 rfl ?_
        obtain ⟨p30, hp31, h⟩ := h
        refine callSv_4 (q := 130) dX1_search_127 (Or.inr (Or.inr (⟨rfl, rfl, hp31⟩))) (Nat.le_of_ble_eq_true rfl) rfl (fun t29 hr32 => ?_)
        replace h := h t29 hr32
        refine inc_4 (q := 133) dX1_search_130 (nI_inc1 _) rfl rfl ?_
        refine tt_goto (t := 34) dX1_search_133 rfl ?_
        refine tt_wk (L2 := [_, _, _, _, _, dum, dum]) ⟨Or.inl rfl, Or.inl rfl, Or.inl rfl, Or.inl rfl, Or.inl rfl, Or.inr rfl, Or.inr rfl, trivial⟩ ?_
        exact h

theorem g_X2_takes_0 {post : SG → Int32 → Prop} {σ : SG} {m : Nat} {a : Int32} (h : (∃ j2 : Nat, ((nI m) >>> ((nI 1) &&& 31)) = nI j2 ∧ j2 < 6 ∧ ((¬ ((nI m) &&& (nI 1)) = (nI 1) → ((a = (-9 : Int32) → post σ (if (nI 1) < (σ 63 j2) then (σ 63 j2) else (nI 1))) ∧ (¬ a = (-9 : Int32) → (∃ j7 : Nat, (a >>> ((nI 1) &&& 31)) = nI j7 ∧ j7 < 6 ∧ (∃ j10 : Nat, ((nI m) >>> ((nI 1) &&& 31)) = nI j10 ∧ j10 < 6 ∧ post σ (if (nI 1) < ((σ 63 j2) + (σ (65 + 1 + j7) j10)) then ((σ 63 j2) + (σ (65 + 1 + j7) j10)) else (nI 1))))))) ∧ (((nI m) &&& (nI 1)) = (nI 1) → (∃ j13 : Nat, ((nI m) >>> ((nI 1) &&& 31)) = nI j13 ∧ j13 < 6 ∧ ((a = (-9 : Int32) → post σ (if (nI 1) < ((σ 63 j2) + (σ 64 j13)) then ((σ 63 j2) + (σ 64 j13)) else (nI 1))) ∧ (¬ a = (-9 : Int32) → (∃ j17 : Nat, (a >>> ((nI 1) &&& 31)) = nI j17 ∧ j17 < 6 ∧ (∃ j20 : Nat, ((nI m) >>> ((nI 1) &&& 31)) = nI j20 ∧ j20 < 6 ∧ post σ (if (nI 1) < (((σ 63 j2) + (σ 64 j13)) + (σ (65 + 1 + j17) j20)) then (((σ 63 j2) + (σ 64 j13)) + (σ (65 + 1 + j17) j20)) else (nI 1))))))))))) : T_X2_takes AF post 0 [.ref 61, .int (nI m), .int a, dum] [] σ := by
  refine tt_aload_n (q := 1) dX2_takes_0 rfl rfl ?_
  refine tt_getR (q := 4) dX2_takes_1 fl_X2_11 or_61_0 (Nat.le_of_ble_eq_true rfl) rfl rfl ?_
  refine tt_iconst (q := 5) dX2_takes_4 ki_0 rfl ?_
  refine tt_aald (q := 6) dX2_takes_5 ig_62 (Nat.le_of_ble_eq_true rfl) rfl (Nat.le_of_ble_eq_true rfl : 0 < 2) rfl ?_
  refine tt_iload_n (q := 7) dX2_takes_6 rfl rfl ?_
  refine tt_iconst (q := 8) dX2_takes_7 ki_1 rfl ?_
  refine tt_ishr (q := 9) dX2_takes_8 rfl ?_
  obtain ⟨j2, e3, l1, h⟩ := h
  refine tt_iald (q := 10) dX2_takes_9 (gi_62 _ (Nat.le_of_ble_eq_true rfl : 0 < 2)) (gl_62 _ (Nat.le_of_ble_eq_true rfl : 0 < 2)) e3 l1 rfl ?_
  refine sti_n_3 (q := 11) dX2_takes_10 rfl rfl rfl ?_
  refine tt_iload_n (q := 12) dX2_takes_11 rfl rfl ?_
  refine tt_iconst (q := 13) dX2_takes_12 ki_1 rfl ?_
  refine tt_iand (q := 14) dX2_takes_13 rfl ?_
  refine tt_iconst (q := 15) dX2_takes_14 ki_1 rfl ?_
  refine tt_icmp_ne (q := 18) (t := 31) dX2_takes_15 rfl rfl (fun c => ?_) (fun c => ?_)
  · replace h := h.1 c
    refine tt_iload_n (q := 32) dX2_takes_31 rfl rfl ?_
    refine tt_bipush (q := 34) dX2_takes_32 bi_m9 rfl ?_
    refine tt_icmp_eq (q := 37) (t := 52) dX2_takes_34 rfl rfl (fun c => ?_) (fun c => ?_)
    · replace h := h.1 c
      refine tt_iconst (q := 53) dX2_takes_52 ki_1 rfl ?_
      refine tt_iload_n (q := 54) dX2_takes_53 rfl rfl ?_
      refine tt_mmax (q := 57) dX2_takes_54 lmm_X2_33 (Nat.le_of_ble_eq_true rfl) rfl ?_
      exact tt_iret dX2_takes_57 ⟨rfl, _, rfl, h⟩
    · replace h := h.2 c
      refine tt_iload_n (q := 38) dX2_takes_37 rfl rfl ?_
      refine tt_aload_n (q := 39) dX2_takes_38 rfl rfl ?_
      refine tt_getR (q := 42) dX2_takes_39 fl_X2_16 or_61_1 (Nat.le_of_ble_eq_true rfl) rfl rfl ?_
      refine tt_iload_n (q := 43) dX2_takes_42 rfl rfl ?_
      refine tt_iconst (q := 44) dX2_takes_43 ki_1 rfl ?_
      refine tt_ishr (q := 45) dX2_takes_44 rfl ?_
      obtain ⟨j7, e8, l6, h⟩ := h
      refine tt_aald (q := 46) dX2_takes_45 ig_65 (Nat.le_of_ble_eq_true rfl) e8 l6 rfl ?_
      refine tt_iload_n (q := 47) dX2_takes_46 rfl rfl ?_
      refine tt_iconst (q := 48) dX2_takes_47 ki_1 rfl ?_
      refine tt_ishr (q := 49) dX2_takes_48 rfl ?_
      obtain ⟨j10, e11, l9, h⟩ := h
      refine tt_iald (q := 50) dX2_takes_49 (gi_65 _ l6) (gl_65 _ l6) e11 l9 rfl ?_
      refine tt_iadd (q := 51) dX2_takes_50 rfl ?_
      refine sti_n_3 (q := 52) dX2_takes_51 rfl rfl rfl ?_
      refine tt_iconst (q := 53) dX2_takes_52 ki_1 rfl ?_
      refine tt_iload_n (q := 54) dX2_takes_53 rfl rfl ?_
      refine tt_mmax (q := 57) dX2_takes_54 lmm_X2_33 (Nat.le_of_ble_eq_true rfl) rfl ?_
      exact tt_iret dX2_takes_57 ⟨rfl, _, rfl, h⟩
  · replace h := h.2 c
    refine tt_iload_n (q := 19) dX2_takes_18 rfl rfl ?_
    refine tt_aload_n (q := 20) dX2_takes_19 rfl rfl ?_
    refine tt_getR (q := 23) dX2_takes_20 fl_X2_11 or_61_0 (Nat.le_of_ble_eq_true rfl) rfl rfl ?_
    refine tt_iconst (q := 24) dX2_takes_23 ki_1 rfl ?_
    refine tt_aald (q := 25) dX2_takes_24 ig_62 (Nat.le_of_ble_eq_true rfl) rfl (Nat.le_of_ble_eq_true rfl : 1 < 2) rfl ?_
    refine tt_iload_n (q := 26) dX2_takes_25 rfl rfl ?_
    refine tt_iconst (q := 27) dX2_takes_26 ki_1 rfl ?_
    refine tt_ishr (q := 28) dX2_takes_27 rfl ?_
    obtain ⟨j13, e14, l12, h⟩ := h
    refine tt_iald (q := 29) dX2_takes_28 (gi_62 _ (Nat.le_of_ble_eq_true rfl : 1 < 2)) (gl_62 _ (Nat.le_of_ble_eq_true rfl : 1 < 2)) e14 l12 rfl ?_
    refine tt_iadd (q := 30) dX2_takes_29 rfl ?_
    refine sti_n_3 (q := 31) dX2_takes_30 rfl rfl rfl ?_
    refine tt_iload_n (q := 32) dX2_takes_31 rfl rfl ?_
    refine tt_bipush (q := 34) dX2_takes_32 bi_m9 rfl ?_
    refine tt_icmp_eq (q := 37) (t := 52) dX2_takes_34 rfl rfl (fun c => ?_) (fun c => ?_)
    · replace h := h.1 c
      refine tt_iconst (q := 53) dX2_takes_52 ki_1 rfl ?_
      refine tt_iload_n (q := 54) dX2_takes_53 rfl rfl ?_
      refine tt_mmax (q := 57) dX2_takes_54 lmm_X2_33 (Nat.le_of_ble_eq_true rfl) rfl ?_
      exact tt_iret dX2_takes_57 ⟨rfl, _, rfl, h⟩
    · replace h := h.2 c
      refine tt_iload_n (q := 38) dX2_takes_37 rfl rfl ?_
      refine tt_aload_n (q := 39) dX2_takes_38 rfl rfl ?_
      refine tt_getR (q := 42) dX2_takes_39 fl_X2_16 or_61_1 (Nat.le_of_ble_eq_true rfl) rfl rfl ?_
      refine tt_iload_n (q := 43) dX2_takes_42 rfl rfl ?_
      refine tt_iconst (q := 44) dX2_takes_43 ki_1 rfl ?_
      refine tt_ishr (q := 45) dX2_takes_44 rfl ?_
      obtain ⟨j17, e18, l16, h⟩ := h
      refine tt_aald (q := 46) dX2_takes_45 ig_65 (Nat.le_of_ble_eq_true rfl) e18 l16 rfl ?_
      refine tt_iload_n (q := 47) dX2_takes_46 rfl rfl ?_
      refine tt_iconst (q := 48) dX2_takes_47 ki_1 rfl ?_
      refine tt_ishr (q := 49) dX2_takes_48 rfl ?_
      obtain ⟨j20, e21, l19, h⟩ := h
      refine tt_iald (q := 50) dX2_takes_49 (gi_65 _ l16) (gl_65 _ l16) e21 l19 rfl ?_
      refine tt_iadd (q := 51) dX2_takes_50 rfl ?_
      refine sti_n_3 (q := 52) dX2_takes_51 rfl rfl rfl ?_
      refine tt_iconst (q := 53) dX2_takes_52 ki_1 rfl ?_
      refine tt_iload_n (q := 54) dX2_takes_53 rfl rfl ?_
      refine tt_mmax (q := 57) dX2_takes_54 lmm_X2_33 (Nat.le_of_ble_eq_true rfl) rfl ?_
      exact tt_iret dX2_takes_57 ⟨rfl, _, rfl, h⟩

theorem g_X2_rowTime_0 {post : SG → Int32 → Prop} {σ : SG} {r : Nat} (h : T_X2_rowTime AF post 5 [.ref 61, .ref 36, .int (nI r), .int (nI 0), .int (nI 0)] [] σ) : T_X2_rowTime AF post 0 [.ref 61, .ref 36, .int (nI r), dum, dum] [] σ := by
  refine tt_iconst (q := 1) dX2_rowTime_0 ki_0 rfl ?_
  refine sti_n_3 (q := 2) dX2_rowTime_1 rfl rfl rfl ?_
  refine tt_iconst (q := 3) dX2_rowTime_2 ki_0 rfl ?_
  refine sti_4 (q := 5) dX2_rowTime_3 rfl rfl ?_
  exact h
theorem g_X2_rowTime_5 {post : SG → Int32 → Prop} {σ : SG} {r : Nat} {all : Int32} {i : Nat} (h : (r < 10 ∧ (((σ 37 r) ≤ (nI i) → post σ all) ∧ (¬ (σ 37 r) ≤ (nI i) → (r < 10 ∧ (i < 8 ∧ (((nI i) ≤ 0 → (∃ p10 : SG → Int32 → Prop, IN_X2_takes AF σ [.ref 61, .int (σ (38 + 1 + r) i), .int (-9 : Int32)] p10 ∧ ∀ (t9 : SG) (r8 : Int32), p10 t9 r8 → T_X2_rowTime AF post 5 [.ref 61, .ref 36, .int (nI r), .int (all + r8), .int (nI (i + 1))] [] t9)) ∧ (¬ (nI i) ≤ 0 → (r < 10 ∧ (1 ≤ i ∧ (i - 1 < 8 ∧ (∃ p18 : SG → Int32 → Prop, IN_X2_takes AF σ [.ref 61, .int (σ (38 + 1 + r) i), .int (σ (38 + 1 + r) (i - 1))] p18 ∧ ∀ (t17 : SG) (r16 : Int32), p18 t17 r16 → T_X2_rowTime AF post 5 [.ref 61, .ref 36, .int (nI r), .int (all + r16), .int (nI (i + 1))] [] t17)))))))))))) : T_X2_rowTime AF post 5 [.ref 61, .ref 36, .int (nI r), .int all, .int (nI i)] [] σ := by
  refine tt_iload (q := 7) dX2_rowTime_5 rfl rfl ?_
  refine tt_aload_n (q := 8) dX2_rowTime_7 rfl rfl ?_
  refine tt_getR (q := 11) dX2_rowTime_8 fl_X2_39 or_36_1 (Nat.le_of_ble_eq_true rfl) rfl rfl ?_
  refine tt_iload_n (q := 12) dX2_rowTime_11 rfl rfl ?_
  obtain ⟨l1, h⟩ := h
  refine tt_iald (q := 13) dX2_rowTime_12 ia_37 (Nat.le_of_ble_eq_true rfl) rfl l1 rfl ?_
  refine tt_icmp_ge (q := 16) (t := 45) dX2_rowTime_13 rfl rfl (fun c => ?_) (fun c => ?_)
  · replace h := h.1 c
    refine tt_iload_n (q := 46) dX2_rowTime_45 rfl rfl ?_
    exact tt_iret dX2_rowTime_46 ⟨rfl, _, rfl, h⟩
  · replace h := h.2 c
    refine tt_iload_n (q := 17) dX2_rowTime_16 rfl rfl ?_
    refine tt_aload_n (q := 18) dX2_rowTime_17 rfl rfl ?_
    refine tt_aload_n (q := 19) dX2_rowTime_18 rfl rfl ?_
    refine tt_getR (q := 22) dX2_rowTime_19 fl_X2_44 or_36_2 (Nat.le_of_ble_eq_true rfl) rfl rfl ?_
    refine tt_iload_n (q := 23) dX2_rowTime_22 rfl rfl ?_
    obtain ⟨l3, h⟩ := h
    refine tt_aald (q := 24) dX2_rowTime_23 ig_38 (Nat.le_of_ble_eq_true rfl) rfl l3 rfl ?_
    refine tt_iload (q := 26) dX2_rowTime_24 rfl rfl ?_
    obtain ⟨l4, h⟩ := h
    refine tt_iald (q := 27) dX2_rowTime_26 (gi_38 _ l3) (gl_38 _ l3) rfl l4 rfl ?_
    refine tt_aload_n (q := 28) dX2_rowTime_27 rfl rfl ?_
    refine tt_iload_n (q := 29) dX2_rowTime_28 rfl rfl ?_
    refine tt_iload (q := 31) dX2_rowTime_29 rfl rfl ?_
    refine callVi_2 (q := 34) dX2_rowTime_31 (Or.inl ⟨rfl, rfl, ⟨⟨_, _, rfl, rfl, (Nat.le_of_ble_eq_true rfl), rc_36⟩, Nat.le_of_ble_eq_true rfl, ?_⟩⟩) (Nat.le_of_ble_eq_true rfl) rfl (fun t6 r5 ht6 => ht6)
    refine (show TT cX5_ahead RX5 false CT0 CN0 _ _ _ none 0 [_, _, _] [] _ _ from ?_)
    refine tt_iload_n (q := 1) dX5_ahead_0 rfl rfl ?_
    refine tt_if_le (q := 4) (t := 17) dX5_ahead_1 rfl rfl (fun c => ?_) (fun c => ?_)
    · replace h := h.1 c
      refine tt_bipush (q := 19) dX5_ahead_17 bi_m9 rfl ?_
      refine tt_iret dX5_ahead_19 ⟨rfl, _, rfl, ?_⟩
      obtain ⟨p10, hp11, h⟩ := h
      refine callVi_2 (q := 37) dX2_rowTime_34 (Or.inr (⟨rfl, rfl, hp11⟩)) (Nat.le_of_ble_eq_true rfl) rfl (fun t9 r8 hr12 => ?_)
      replace h := h t9 r8 hr12
      refine tt_iadd (q := 38) dX2_rowTime_37 rfl ?_
      refine sti_n_3 (q := 39) dX2_rowTime_38 rfl rfl rfl ?_
      refine inc_4 (q := 42) dX2_rowTime_39 (nI_inc1 _) rfl rfl ?_
      refine tt_goto (t := 5) dX2_rowTime_42 rfl ?_
      exact h
    · replace h := h.2 c
      refine tt_aload_n (q := 5) dX5_ahead_4 rfl rfl ?_
      refine tt_getR (q := 8) dX5_ahead_5 fl_X5_17 or_36_2 (Nat.le_of_ble_eq_true rfl) rfl rfl ?_
      refine tt_iload_n (q := 9) dX5_ahead_8 rfl rfl ?_
      obtain ⟨l13, h⟩ := h
      refine tt_aald (q := 10) dX5_ahead_9 ig_38 (Nat.le_of_ble_eq_true rfl) rfl l13 rfl ?_
      refine tt_iload_n (q := 11) dX5_ahead_10 rfl rfl ?_
      refine tt_iconst (q := 12) dX5_ahead_11 ki_1 rfl ?_
      obtain ⟨l14, h⟩ := h
      refine tt_isubN (q := 13) dX5_ahead_12 l14 rfl ?_
      obtain ⟨l15, h⟩ := h
      refine tt_iald (q := 14) dX5_ahead_13 (gi_38 _ l13) (gl_38 _ l13) rfl l15 rfl ?_
      refine tt_goto (t := 19) dX5_ahead_14 rfl ?_
      refine tt_iret dX5_ahead_19 ⟨rfl, _, rfl, ?_⟩
      obtain ⟨p18, hp19, h⟩ := h
      refine callVi_2 (q := 37) dX2_rowTime_34 (Or.inr (⟨rfl, rfl, hp19⟩)) (Nat.le_of_ble_eq_true rfl) rfl (fun t17 r16 hr20 => ?_)
      replace h := h t17 r16 hr20
      refine tt_iadd (q := 38) dX2_rowTime_37 rfl ?_
      refine sti_n_3 (q := 39) dX2_rowTime_38 rfl rfl rfl ?_
      refine inc_4 (q := 42) dX2_rowTime_39 (nI_inc1 _) rfl rfl ?_
      refine tt_goto (t := 5) dX2_rowTime_42 rfl ?_
      exact h

theorem g_X2_locksDrawn_0 {post : SG → Int32 → Prop} {σ : SG} {k : Nat} {z0 : Int32} (h : T_X2_locksDrawn AF post 8 [.ref 61, .int (nI k), .int z0, .int z0, .int (nI 0), .int (nI 0)] [] σ) : T_X2_locksDrawn AF post 0 [.ref 61, .int (nI k), .int z0, dum, dum, dum] [] σ := by
  refine tt_iload_n (q := 1) dX2_locksDrawn_0 rfl rfl ?_
  refine sti_n_3 (q := 2) dX2_locksDrawn_1 rfl rfl rfl ?_
  refine tt_iconst (q := 3) dX2_locksDrawn_2 ki_0 rfl ?_
  refine sti_4 (q := 5) dX2_locksDrawn_3 rfl rfl ?_
  refine tt_iconst (q := 6) dX2_locksDrawn_5 ki_0 rfl ?_
  refine sti_5 (q := 8) dX2_locksDrawn_6 rfl rfl ?_
  exact h
theorem g_X2_locksDrawn_8 {post : SG → Int32 → Prop} {σ : SG} {k : Nat} {z0 : Int32} {z : Int32} {lk : Nat} {i : Nat} (h : (i < 2 ^ 31 ∧ (k < 2 ^ 31 ∧ ((k ≤ i → post σ (nI lk)) ∧ (i < k → (((σ 72 0) ≤ (((((z * (1664525 : Int32)) + (1013904223 : Int32)) &&& (2147483647 : Int32)) / (nI 256)) - ((((z * (1664525 : Int32)) + (1013904223 : Int32)) &&& (2147483647 : Int32)) / (nI 256)) / (nI 100) * (nI 100)) → T_X2_locksDrawn AF post 8 [.ref 61, .int (nI k), .int z0, .int ((z * (1664525 : Int32)) + (1013904223 : Int32)), .int (nI lk), .int (nI (i + 1))] [] σ) ∧ (¬ (σ 72 0) ≤ (((((z * (1664525 : Int32)) + (1013904223 : Int32)) &&& (2147483647 : Int32)) / (nI 256)) - ((((z * (1664525 : Int32)) + (1013904223 : Int32)) &&& (2147483647 : Int32)) / (nI 256)) / (nI 100) * (nI 100)) → T_X2_locksDrawn AF post 8 [.ref 61, .int (nI k), .int z0, .int ((z * (1664525 : Int32)) + (1013904223 : Int32)), .int (nI (lk + 1)), .int (nI (i + 1))] [] σ))))))) : T_X2_locksDrawn AF post 8 [.ref 61, .int (nI k), .int z0, .int z, .int (nI lk), .int (nI i)] [] σ := by
  refine tt_iload (q := 10) dX2_locksDrawn_8 rfl rfl ?_
  refine tt_iload_n (q := 11) dX2_locksDrawn_10 rfl rfl ?_
  obtain ⟨l2, h⟩ := h
  obtain ⟨l3, h⟩ := h
  refine tt_icmp_ge (q := 14) (t := 51) dX2_locksDrawn_11 rfl rfl (fun c => ?_) (fun c => ?_)
  · replace h := h.1 ((nI_leI l3 l2).1 c)
    refine tt_iload (q := 53) dX2_locksDrawn_51 rfl rfl ?_
    exact tt_iret dX2_locksDrawn_53 ⟨rfl, _, rfl, h⟩
  · replace h := h.2 (Nat.lt_of_not_le (fun z => c ((nI_leI l3 l2).2 z)))
    refine tt_iload_n (q := 15) dX2_locksDrawn_14 rfl rfl ?_
    refine tt_ldc (q := 17) dX2_locksDrawn_15 lct_X2_53 rfl ?_
    refine tt_imul (q := 18) dX2_locksDrawn_17 rfl ?_
    refine tt_ldc (q := 20) dX2_locksDrawn_18 lct_X2_54 rfl ?_
    refine tt_iadd (q := 21) dX2_locksDrawn_20 rfl ?_
    refine sti_n_3 (q := 22) dX2_locksDrawn_21 rfl rfl rfl ?_
    refine tt_iload_n (q := 23) dX2_locksDrawn_22 rfl rfl ?_
    refine tt_ldc (q := 25) dX2_locksDrawn_23 lct_X2_55 rfl ?_
    refine tt_iand (q := 26) dX2_locksDrawn_25 rfl ?_
    refine tt_sipush (q := 29) dX2_locksDrawn_26 si_256 rfl ?_
    refine tt_idiv (q := 30) dX2_locksDrawn_29 (by decide) rfl ?_
    refine tt_bipush (q := 32) dX2_locksDrawn_30 bi_100 rfl ?_
    refine tt_irem (q := 33) dX2_locksDrawn_32 (by decide) rfl ?_
    refine tt_aload_n (q := 34) dX2_locksDrawn_33 rfl rfl ?_
    refine tt_getR (q := 37) dX2_locksDrawn_34 fl_X2_19 or_61_2 (Nat.le_of_ble_eq_true rfl) rfl rfl ?_
    refine tt_iconst (q := 38) dX2_locksDrawn_37 ki_0 rfl ?_
    refine tt_iald (q := 39) dX2_locksDrawn_38 ia_72 (Nat.le_of_ble_eq_true rfl) rfl (Nat.le_of_ble_eq_true rfl : 0 < 2) rfl ?_
    refine tt_icmp_ge (q := 42) (t := 45) dX2_locksDrawn_39 rfl rfl (fun c => ?_) (fun c => ?_)
    · replace h := h.1 c
      refine inc_5 (q := 48) dX2_locksDrawn_45 (nI_inc1 _) rfl rfl ?_
      refine tt_goto (t := 8) dX2_locksDrawn_48 rfl ?_
      exact h
    · replace h := h.2 c
      refine inc_4 (q := 45) dX2_locksDrawn_42 (nI_inc1 _) rfl rfl ?_
      refine inc_5 (q := 48) dX2_locksDrawn_45 (nI_inc1 _) rfl rfl ?_
      refine tt_goto (t := 8) dX2_locksDrawn_48 rfl ?_
      exact h

theorem g_X4_numberOf_0 {post : SG → Int32 → Prop} {σ : SG} {k : Nat} (hia_k : IA k 6) (hk_k : k < AF.1) (h : (∃ p3 : SG → Int32 → Prop, IN_J6_bitCount_0f7a4 AF σ [.int ((nI 63) &&& (((nI 1) <<< ((σ k 0) &&& 31)) - (nI 1)))] p3 ∧ ∀ (t2 : SG) (r1 : Int32), p3 t2 r1 → (∃ p8 : SG → Int32 → Prop, IN_J6_bitCount_0f7a4 AF t2 [.int (((nI 63) &&& (((nI 1) <<< ((σ k 0) &&& 31)) ^^^ (-1 : Int32))) &&& (((nI 1) <<< ((t2 k 1) &&& 31)) - (nI 1)))] p8 ∧ ∀ (t7 : SG) (r6 : Int32), p8 t7 r6 → (∃ p13 : SG → Int32 → Prop, IN_J6_bitCount_0f7a4 AF t7 [.int ((((nI 63) &&& (((nI 1) <<< ((σ k 0) &&& 31)) ^^^ (-1 : Int32))) &&& (((nI 1) <<< ((t2 k 1) &&& 31)) ^^^ (-1 : Int32))) &&& (((nI 1) <<< ((t7 k 2) &&& 31)) - (nI 1)))] p13 ∧ ∀ (t12 : SG) (r11 : Int32), p13 t12 r11 → (∃ p18 : SG → Int32 → Prop, IN_J6_bitCount_0f7a4 AF t12 [.int (((((nI 63) &&& (((nI 1) <<< ((σ k 0) &&& 31)) ^^^ (-1 : Int32))) &&& (((nI 1) <<< ((t2 k 1) &&& 31)) ^^^ (-1 : Int32))) &&& (((nI 1) <<< ((t7 k 2) &&& 31)) ^^^ (-1 : Int32))) &&& (((nI 1) <<< ((t12 k 3) &&& 31)) - (nI 1)))] p18 ∧ ∀ (t17 : SG) (r16 : Int32), p18 t17 r16 → (∃ p23 : SG → Int32 → Prop, IN_J6_bitCount_0f7a4 AF t17 [.int ((((((nI 63) &&& (((nI 1) <<< ((σ k 0) &&& 31)) ^^^ (-1 : Int32))) &&& (((nI 1) <<< ((t2 k 1) &&& 31)) ^^^ (-1 : Int32))) &&& (((nI 1) <<< ((t7 k 2) &&& 31)) ^^^ (-1 : Int32))) &&& (((nI 1) <<< ((t12 k 3) &&& 31)) ^^^ (-1 : Int32))) &&& (((nI 1) <<< ((t17 k 4) &&& 31)) - (nI 1)))] p23 ∧ ∀ (t22 : SG) (r21 : Int32), p23 t22 r21 → (∃ p28 : SG → Int32 → Prop, IN_J6_bitCount_0f7a4 AF t22 [.int (((((((nI 63) &&& (((nI 1) <<< ((σ k 0) &&& 31)) ^^^ (-1 : Int32))) &&& (((nI 1) <<< ((t2 k 1) &&& 31)) ^^^ (-1 : Int32))) &&& (((nI 1) <<< ((t7 k 2) &&& 31)) ^^^ (-1 : Int32))) &&& (((nI 1) <<< ((t12 k 3) &&& 31)) ^^^ (-1 : Int32))) &&& (((nI 1) <<< ((t17 k 4) &&& 31)) ^^^ (-1 : Int32))) &&& (((nI 1) <<< ((t22 k 5) &&& 31)) - (nI 1)))] p28 ∧ ∀ (t27 : SG) (r26 : Int32), p28 t27 r26 → post t27 ((((((((((((nI 0) + r1) * (nI 5)) + r6) * (nI 4)) + r11) * (nI 3)) + r16) * (nI 2)) + r21) * (nI 1)) + r26)))))))) : T_X4_numberOf AF post 0 [.ref 3, .ref k, dum, dum, dum, dum] [] σ := by
  refine tt_bipush (q := 2) dX4_numberOf_0 bi_63 rfl ?_
  refine sti_n_2 (q := 3) dX4_numberOf_2 rfl rfl rfl ?_
  refine tt_iconst (q := 4) dX4_numberOf_3 ki_0 rfl ?_
  refine sti_n_3 (q := 5) dX4_numberOf_4 rfl rfl rfl ?_
  refine tt_iconst (q := 6) dX4_numberOf_5 ki_0 rfl ?_
  refine sti_4 (q := 8) dX4_numberOf_6 rfl rfl ?_
  refine tt_iload (q := 10) dX4_numberOf_8 rfl rfl ?_
  refine tt_bipush (q := 12) dX4_numberOf_10 bi_6 rfl ?_
  refine tt_icmp_ge (q := 15) (t := 56) dX4_numberOf_12 rfl rfl (fun c => absurd c (by decide)) (fun c => ?_)
  clear c
  refine tt_aload_n (q := 16) dX4_numberOf_15 rfl rfl ?_
  refine tt_iload (q := 18) dX4_numberOf_16 rfl rfl ?_
  refine tt_iald (q := 19) dX4_numberOf_18 hia_k hk_k rfl (Nat.le_of_ble_eq_true rfl : 0 < 6) rfl ?_
  refine sti_5 (q := 21) dX4_numberOf_19 rfl rfl ?_
  refine tt_iload_n (q := 22) dX4_numberOf_21 rfl rfl ?_
  refine tt_bipush (q := 24) dX4_numberOf_22 bi_6 rfl ?_
  refine tt_iload (q := 26) dX4_numberOf_24 rfl rfl ?_
  refine tt_isubE (v := nI 6) (q := 27) dX4_numberOf_26 (by decide) rfl ?_
  refine tt_imulE (v := nI 0) (q := 28) dX4_numberOf_27 (by decide) rfl ?_
  refine tt_iload_n (q := 29) dX4_numberOf_28 rfl rfl ?_
  refine tt_iconst (q := 30) dX4_numberOf_29 ki_1 rfl ?_
  refine tt_iload (q := 32) dX4_numberOf_30 rfl rfl ?_
  refine tt_ishl (q := 33) dX4_numberOf_32 rfl ?_
  refine tt_iconst (q := 34) dX4_numberOf_33 ki_1 rfl ?_
  refine tt_isub (q := 35) dX4_numberOf_34 rfl ?_
  refine tt_iand (q := 36) dX4_numberOf_35 rfl ?_
  obtain ⟨p3, hp4, h⟩ := h
  refine callSi_1 (q := 39) dX4_numberOf_36 (⟨rfl, rfl, hp4⟩) (Nat.le_of_ble_eq_true rfl) rfl (fun t2 r1 hr5 => ?_)
  replace h := h t2 r1 hr5
  refine tt_iadd (q := 40) dX4_numberOf_39 rfl ?_
  refine sti_n_3 (q := 41) dX4_numberOf_40 rfl rfl rfl ?_
  refine tt_iload_n (q := 42) dX4_numberOf_41 rfl rfl ?_
  refine tt_iconst (q := 43) dX4_numberOf_42 ki_1 rfl ?_
  refine tt_iload (q := 45) dX4_numberOf_43 rfl rfl ?_
  refine tt_ishl (q := 46) dX4_numberOf_45 rfl ?_
  refine tt_iconst (q := 47) dX4_numberOf_46 ki_m1 rfl ?_
  refine tt_ixor (q := 48) dX4_numberOf_47 rfl ?_
  refine tt_iand (q := 49) dX4_numberOf_48 rfl ?_
  refine sti_n_2 (q := 50) dX4_numberOf_49 rfl rfl rfl ?_
  refine inc_4 (v := nI 1) (q := 53) dX4_numberOf_50 (by decide) rfl rfl ?_
  refine tt_goto (t := 8) dX4_numberOf_53 rfl ?_
  refine tt_iload (q := 10) dX4_numberOf_8 rfl rfl ?_
  refine tt_bipush (q := 12) dX4_numberOf_10 bi_6 rfl ?_
  refine tt_icmp_ge (q := 15) (t := 56) dX4_numberOf_12 rfl rfl (fun c => absurd c (by decide)) (fun c => ?_)
  clear c
  refine tt_aload_n (q := 16) dX4_numberOf_15 rfl rfl ?_
  refine tt_iload (q := 18) dX4_numberOf_16 rfl rfl ?_
  refine tt_iald (q := 19) dX4_numberOf_18 hia_k hk_k rfl (Nat.le_of_ble_eq_true rfl : 1 < 6) rfl ?_
  refine sti_5 (q := 21) dX4_numberOf_19 rfl rfl ?_
  refine tt_iload_n (q := 22) dX4_numberOf_21 rfl rfl ?_
  refine tt_bipush (q := 24) dX4_numberOf_22 bi_6 rfl ?_
  refine tt_iload (q := 26) dX4_numberOf_24 rfl rfl ?_
  refine tt_isubE (v := nI 5) (q := 27) dX4_numberOf_26 (by decide) rfl ?_
  refine tt_imul (q := 28) dX4_numberOf_27 rfl ?_
  refine tt_iload_n (q := 29) dX4_numberOf_28 rfl rfl ?_
  refine tt_iconst (q := 30) dX4_numberOf_29 ki_1 rfl ?_
  refine tt_iload (q := 32) dX4_numberOf_30 rfl rfl ?_
  refine tt_ishl (q := 33) dX4_numberOf_32 rfl ?_
  refine tt_iconst (q := 34) dX4_numberOf_33 ki_1 rfl ?_
  refine tt_isub (q := 35) dX4_numberOf_34 rfl ?_
  refine tt_iand (q := 36) dX4_numberOf_35 rfl ?_
  obtain ⟨p8, hp9, h⟩ := h
  refine callSi_1 (q := 39) dX4_numberOf_36 (⟨rfl, rfl, hp9⟩) (Nat.le_of_ble_eq_true rfl) rfl (fun t7 r6 hr10 => ?_)
  replace h := h t7 r6 hr10
  refine tt_iadd (q := 40) dX4_numberOf_39 rfl ?_
  refine sti_n_3 (q := 41) dX4_numberOf_40 rfl rfl rfl ?_
  refine tt_iload_n (q := 42) dX4_numberOf_41 rfl rfl ?_
  refine tt_iconst (q := 43) dX4_numberOf_42 ki_1 rfl ?_
  refine tt_iload (q := 45) dX4_numberOf_43 rfl rfl ?_
  refine tt_ishl (q := 46) dX4_numberOf_45 rfl ?_
  refine tt_iconst (q := 47) dX4_numberOf_46 ki_m1 rfl ?_
  refine tt_ixor (q := 48) dX4_numberOf_47 rfl ?_
  refine tt_iand (q := 49) dX4_numberOf_48 rfl ?_
  refine sti_n_2 (q := 50) dX4_numberOf_49 rfl rfl rfl ?_
  refine inc_4 (v := nI 2) (q := 53) dX4_numberOf_50 (by decide) rfl rfl ?_
  refine tt_goto (t := 8) dX4_numberOf_53 rfl ?_
  refine tt_iload (q := 10) dX4_numberOf_8 rfl rfl ?_
  refine tt_bipush (q := 12) dX4_numberOf_10 bi_6 rfl ?_
  refine tt_icmp_ge (q := 15) (t := 56) dX4_numberOf_12 rfl rfl (fun c => absurd c (by decide)) (fun c => ?_)
  clear c
  refine tt_aload_n (q := 16) dX4_numberOf_15 rfl rfl ?_
  refine tt_iload (q := 18) dX4_numberOf_16 rfl rfl ?_
  refine tt_iald (q := 19) dX4_numberOf_18 hia_k hk_k rfl (Nat.le_of_ble_eq_true rfl : 2 < 6) rfl ?_
  refine sti_5 (q := 21) dX4_numberOf_19 rfl rfl ?_
  refine tt_iload_n (q := 22) dX4_numberOf_21 rfl rfl ?_
  refine tt_bipush (q := 24) dX4_numberOf_22 bi_6 rfl ?_
  refine tt_iload (q := 26) dX4_numberOf_24 rfl rfl ?_
  refine tt_isubE (v := nI 4) (q := 27) dX4_numberOf_26 (by decide) rfl ?_
  refine tt_imul (q := 28) dX4_numberOf_27 rfl ?_
  refine tt_iload_n (q := 29) dX4_numberOf_28 rfl rfl ?_
  refine tt_iconst (q := 30) dX4_numberOf_29 ki_1 rfl ?_
  refine tt_iload (q := 32) dX4_numberOf_30 rfl rfl ?_
  refine tt_ishl (q := 33) dX4_numberOf_32 rfl ?_
  refine tt_iconst (q := 34) dX4_numberOf_33 ki_1 rfl ?_
  refine tt_isub (q := 35) dX4_numberOf_34 rfl ?_
  refine tt_iand (q := 36) dX4_numberOf_35 rfl ?_
  obtain ⟨p13, hp14, h⟩ := h
  refine callSi_1 (q := 39) dX4_numberOf_36 (⟨rfl, rfl, hp14⟩) (Nat.le_of_ble_eq_true rfl) rfl (fun t12 r11 hr15 => ?_)
  replace h := h t12 r11 hr15
  refine tt_iadd (q := 40) dX4_numberOf_39 rfl ?_
  refine sti_n_3 (q := 41) dX4_numberOf_40 rfl rfl rfl ?_
  refine tt_iload_n (q := 42) dX4_numberOf_41 rfl rfl ?_
  refine tt_iconst (q := 43) dX4_numberOf_42 ki_1 rfl ?_
  refine tt_iload (q := 45) dX4_numberOf_43 rfl rfl ?_
  refine tt_ishl (q := 46) dX4_numberOf_45 rfl ?_
  refine tt_iconst (q := 47) dX4_numberOf_46 ki_m1 rfl ?_
  refine tt_ixor (q := 48) dX4_numberOf_47 rfl ?_
  refine tt_iand (q := 49) dX4_numberOf_48 rfl ?_
  refine sti_n_2 (q := 50) dX4_numberOf_49 rfl rfl rfl ?_
  refine inc_4 (v := nI 3) (q := 53) dX4_numberOf_50 (by decide) rfl rfl ?_
  refine tt_goto (t := 8) dX4_numberOf_53 rfl ?_
  refine tt_iload (q := 10) dX4_numberOf_8 rfl rfl ?_
  refine tt_bipush (q := 12) dX4_numberOf_10 bi_6 rfl ?_
  refine tt_icmp_ge (q := 15) (t := 56) dX4_numberOf_12 rfl rfl (fun c => absurd c (by decide)) (fun c => ?_)
  clear c
  refine tt_aload_n (q := 16) dX4_numberOf_15 rfl rfl ?_
  refine tt_iload (q := 18) dX4_numberOf_16 rfl rfl ?_
  refine tt_iald (q := 19) dX4_numberOf_18 hia_k hk_k rfl (Nat.le_of_ble_eq_true rfl : 3 < 6) rfl ?_
  refine sti_5 (q := 21) dX4_numberOf_19 rfl rfl ?_
  refine tt_iload_n (q := 22) dX4_numberOf_21 rfl rfl ?_
  refine tt_bipush (q := 24) dX4_numberOf_22 bi_6 rfl ?_
  refine tt_iload (q := 26) dX4_numberOf_24 rfl rfl ?_
  refine tt_isubE (v := nI 3) (q := 27) dX4_numberOf_26 (by decide) rfl ?_
  refine tt_imul (q := 28) dX4_numberOf_27 rfl ?_
  refine tt_iload_n (q := 29) dX4_numberOf_28 rfl rfl ?_
  refine tt_iconst (q := 30) dX4_numberOf_29 ki_1 rfl ?_
  refine tt_iload (q := 32) dX4_numberOf_30 rfl rfl ?_
  refine tt_ishl (q := 33) dX4_numberOf_32 rfl ?_
  refine tt_iconst (q := 34) dX4_numberOf_33 ki_1 rfl ?_
  refine tt_isub (q := 35) dX4_numberOf_34 rfl ?_
  refine tt_iand (q := 36) dX4_numberOf_35 rfl ?_
  obtain ⟨p18, hp19, h⟩ := h
  refine callSi_1 (q := 39) dX4_numberOf_36 (⟨rfl, rfl, hp19⟩) (Nat.le_of_ble_eq_true rfl) rfl (fun t17 r16 hr20 => ?_)
  replace h := h t17 r16 hr20
  refine tt_iadd (q := 40) dX4_numberOf_39 rfl ?_
  refine sti_n_3 (q := 41) dX4_numberOf_40 rfl rfl rfl ?_
  refine tt_iload_n (q := 42) dX4_numberOf_41 rfl rfl ?_
  refine tt_iconst (q := 43) dX4_numberOf_42 ki_1 rfl ?_
  refine tt_iload (q := 45) dX4_numberOf_43 rfl rfl ?_
  refine tt_ishl (q := 46) dX4_numberOf_45 rfl ?_
  refine tt_iconst (q := 47) dX4_numberOf_46 ki_m1 rfl ?_
  refine tt_ixor (q := 48) dX4_numberOf_47 rfl ?_
  refine tt_iand (q := 49) dX4_numberOf_48 rfl ?_
  refine sti_n_2 (q := 50) dX4_numberOf_49 rfl rfl rfl ?_
  refine inc_4 (v := nI 4) (q := 53) dX4_numberOf_50 (by decide) rfl rfl ?_
  refine tt_goto (t := 8) dX4_numberOf_53 rfl ?_
  refine tt_iload (q := 10) dX4_numberOf_8 rfl rfl ?_
  refine tt_bipush (q := 12) dX4_numberOf_10 bi_6 rfl ?_
  refine tt_icmp_ge (q := 15) (t := 56) dX4_numberOf_12 rfl rfl (fun c => absurd c (by decide)) (fun c => ?_)
  clear c
  refine tt_aload_n (q := 16) dX4_numberOf_15 rfl rfl ?_
  refine tt_iload (q := 18) dX4_numberOf_16 rfl rfl ?_
  refine tt_iald (q := 19) dX4_numberOf_18 hia_k hk_k rfl (Nat.le_of_ble_eq_true rfl : 4 < 6) rfl ?_
  refine sti_5 (q := 21) dX4_numberOf_19 rfl rfl ?_
  refine tt_iload_n (q := 22) dX4_numberOf_21 rfl rfl ?_
  refine tt_bipush (q := 24) dX4_numberOf_22 bi_6 rfl ?_
  refine tt_iload (q := 26) dX4_numberOf_24 rfl rfl ?_
  refine tt_isubE (v := nI 2) (q := 27) dX4_numberOf_26 (by decide) rfl ?_
  refine tt_imul (q := 28) dX4_numberOf_27 rfl ?_
  refine tt_iload_n (q := 29) dX4_numberOf_28 rfl rfl ?_
  refine tt_iconst (q := 30) dX4_numberOf_29 ki_1 rfl ?_
  refine tt_iload (q := 32) dX4_numberOf_30 rfl rfl ?_
  refine tt_ishl (q := 33) dX4_numberOf_32 rfl ?_
  refine tt_iconst (q := 34) dX4_numberOf_33 ki_1 rfl ?_
  refine tt_isub (q := 35) dX4_numberOf_34 rfl ?_
  refine tt_iand (q := 36) dX4_numberOf_35 rfl ?_
  obtain ⟨p23, hp24, h⟩ := h
  refine callSi_1 (q := 39) dX4_numberOf_36 (⟨rfl, rfl, hp24⟩) (Nat.le_of_ble_eq_true rfl) rfl (fun t22 r21 hr25 => ?_)
  replace h := h t22 r21 hr25
  refine tt_iadd (q := 40) dX4_numberOf_39 rfl ?_
  refine sti_n_3 (q := 41) dX4_numberOf_40 rfl rfl rfl ?_
  refine tt_iload_n (q := 42) dX4_numberOf_41 rfl rfl ?_
  refine tt_iconst (q := 43) dX4_numberOf_42 ki_1 rfl ?_
  refine tt_iload (q := 45) dX4_numberOf_43 rfl rfl ?_
  refine tt_ishl (q := 46) dX4_numberOf_45 rfl ?_
  refine tt_iconst (q := 47) dX4_numberOf_46 ki_m1 rfl ?_
  refine tt_ixor (q := 48) dX4_numberOf_47 rfl ?_
  refine tt_iand (q := 49) dX4_numberOf_48 rfl ?_
  refine sti_n_2 (q := 50) dX4_numberOf_49 rfl rfl rfl ?_
  refine inc_4 (v := nI 5) (q := 53) dX4_numberOf_50 (by decide) rfl rfl ?_
  refine tt_goto (t := 8) dX4_numberOf_53 rfl ?_
  refine tt_iload (q := 10) dX4_numberOf_8 rfl rfl ?_
  refine tt_bipush (q := 12) dX4_numberOf_10 bi_6 rfl ?_
  refine tt_icmp_ge (q := 15) (t := 56) dX4_numberOf_12 rfl rfl (fun c => absurd c (by decide)) (fun c => ?_)
  clear c
  refine tt_aload_n (q := 16) dX4_numberOf_15 rfl rfl ?_
  refine tt_iload (q := 18) dX4_numberOf_16 rfl rfl ?_
  refine tt_iald (q := 19) dX4_numberOf_18 hia_k hk_k rfl (Nat.le_of_ble_eq_true rfl : 5 < 6) rfl ?_
  refine sti_5 (q := 21) dX4_numberOf_19 rfl rfl ?_
  refine tt_iload_n (q := 22) dX4_numberOf_21 rfl rfl ?_
  refine tt_bipush (q := 24) dX4_numberOf_22 bi_6 rfl ?_
  refine tt_iload (q := 26) dX4_numberOf_24 rfl rfl ?_
  refine tt_isubE (v := nI 1) (q := 27) dX4_numberOf_26 (by decide) rfl ?_
  refine tt_imul (q := 28) dX4_numberOf_27 rfl ?_
  refine tt_iload_n (q := 29) dX4_numberOf_28 rfl rfl ?_
  refine tt_iconst (q := 30) dX4_numberOf_29 ki_1 rfl ?_
  refine tt_iload (q := 32) dX4_numberOf_30 rfl rfl ?_
  refine tt_ishl (q := 33) dX4_numberOf_32 rfl ?_
  refine tt_iconst (q := 34) dX4_numberOf_33 ki_1 rfl ?_
  refine tt_isub (q := 35) dX4_numberOf_34 rfl ?_
  refine tt_iand (q := 36) dX4_numberOf_35 rfl ?_
  obtain ⟨p28, hp29, h⟩ := h
  refine callSi_1 (q := 39) dX4_numberOf_36 (⟨rfl, rfl, hp29⟩) (Nat.le_of_ble_eq_true rfl) rfl (fun t27 r26 hr30 => ?_)
  replace h := h t27 r26 hr30
  refine tt_iadd (q := 40) dX4_numberOf_39 rfl ?_
  refine sti_n_3 (q := 41) dX4_numberOf_40 rfl rfl rfl ?_
  refine tt_iload_n (q := 42) dX4_numberOf_41 rfl rfl ?_
  refine tt_iconst (q := 43) dX4_numberOf_42 ki_1 rfl ?_
  refine tt_iload (q := 45) dX4_numberOf_43 rfl rfl ?_
  refine tt_ishl (q := 46) dX4_numberOf_45 rfl ?_
  refine tt_iconst (q := 47) dX4_numberOf_46 ki_m1 rfl ?_
  refine tt_ixor (q := 48) dX4_numberOf_47 rfl ?_
  refine tt_iand (q := 49) dX4_numberOf_48 rfl ?_
  refine sti_n_2 (q := 50) dX4_numberOf_49 rfl rfl rfl ?_
  refine inc_4 (v := nI 6) (q := 53) dX4_numberOf_50 (by decide) rfl rfl ?_
  refine tt_goto (t := 8) dX4_numberOf_53 rfl ?_
  refine tt_iload (q := 10) dX4_numberOf_8 rfl rfl ?_
  refine tt_bipush (q := 12) dX4_numberOf_10 bi_6 rfl ?_
  refine tt_icmp_ge (q := 15) (t := 56) dX4_numberOf_12 rfl rfl (fun c => ?_) (fun c => absurd c (by decide))
  clear c
  refine tt_iload_n (q := 57) dX4_numberOf_56 rfl rfl ?_
  exact tt_iret dX4_numberOf_57 ⟨rfl, _, rfl, h⟩

theorem g_X4_moved_0 {post : SG → Int32 → Prop} {σ : SG} {o : Nat} {k : Nat} (hia_k : IA k 6) (hk_k : k < AF.1) (h : (o * 6 + 0 < 4320 ∧ (∃ j5 : Nat, (σ k 0) = nI j5 ∧ j5 < 6 ∧ (∀ s7 : SG, s7 = up σ 6 j5 (σ 4 (o * 6 + 0)) → (o * 6 + 1 < 4320 ∧ (∃ j12 : Nat, (s7 k 1) = nI j12 ∧ j12 < 6 ∧ (∀ s14 : SG, s14 = up s7 6 j12 (s7 4 (o * 6 + 1)) → (o * 6 + 2 < 4320 ∧ (∃ j19 : Nat, (s14 k 2) = nI j19 ∧ j19 < 6 ∧ (∀ s21 : SG, s21 = up s14 6 j19 (s14 4 (o * 6 + 2)) → (o * 6 + 3 < 4320 ∧ (∃ j26 : Nat, (s21 k 3) = nI j26 ∧ j26 < 6 ∧ (∀ s28 : SG, s28 = up s21 6 j26 (s21 4 (o * 6 + 3)) → (o * 6 + 4 < 4320 ∧ (∃ j33 : Nat, (s28 k 4) = nI j33 ∧ j33 < 6 ∧ (∀ s35 : SG, s35 = up s28 6 j33 (s28 4 (o * 6 + 4)) → (o * 6 + 5 < 4320 ∧ (∃ j40 : Nat, (s35 k 5) = nI j40 ∧ j40 < 6 ∧ (∀ s42 : SG, s42 = up s35 6 j40 (s35 4 (o * 6 + 5)) → (∃ p45 : SG → Int32 → Prop, IN_X4_numberOf AF s42 [.ref 3, .ref 6] p45 ∧ ∀ (t44 : SG) (r43 : Int32), p45 t44 r43 → post t44 r43)))))))))))))))))))) : T_X4_moved AF post 0 [.ref 3, .int (nI o), .ref k, dum] [] σ := by
  refine tt_iconst (q := 1) dX4_moved_0 ki_0 rfl ?_
  refine sti_n_3 (q := 2) dX4_moved_1 rfl rfl rfl ?_
  refine tt_iload_n (q := 3) dX4_moved_2 rfl rfl ?_
  refine tt_bipush (q := 5) dX4_moved_3 bi_6 rfl ?_
  refine tt_icmp_ge (q := 8) (t := 28) dX4_moved_5 rfl rfl (fun c => absurd c (by decide)) (fun c => ?_)
  clear c
  refine tt_aload_n (q := 9) dX4_moved_8 rfl rfl ?_
  refine tt_getR (q := 12) dX4_moved_9 fl_X4_18 or_3_2 (Nat.le_of_ble_eq_true rfl) rfl rfl ?_
  refine tt_aload_n (q := 13) dX4_moved_12 rfl rfl ?_
  refine tt_iload_n (q := 14) dX4_moved_13 rfl rfl ?_
  refine tt_iald (q := 15) dX4_moved_14 hia_k hk_k rfl (Nat.le_of_ble_eq_true rfl : 0 < 6) rfl ?_
  refine tt_aload_n (q := 16) dX4_moved_15 rfl rfl ?_
  refine tt_iload_n (q := 17) dX4_moved_16 rfl rfl ?_
  refine tt_iload_n (q := 18) dX4_moved_17 rfl rfl ?_
  refine callVi_2 (q := 21) dX4_moved_18 (Or.inl ⟨rfl, rfl, ⟨⟨_, _, rfl, rfl, (Nat.le_of_ble_eq_true rfl), rc_3⟩, Nat.le_of_ble_eq_true rfl, ?_⟩⟩) (Nat.le_of_ble_eq_true rfl) rfl (fun t2 r1 ht2 => ht2)
  refine (show TT cX4_piece RX4 false CT0 CN0 _ _ _ none 0 [_, _, _] [] _ _ from ?_)
  refine tt_aload_n (q := 1) dX4_piece_0 rfl rfl ?_
  refine tt_getR (q := 4) dX4_piece_1 fl_X4_9 or_3_0 (Nat.le_of_ble_eq_true rfl) rfl rfl ?_
  refine tt_iload_n (q := 5) dX4_piece_4 rfl rfl ?_
  refine tt_bipush (q := 7) dX4_piece_5 bi_6 rfl ?_
  refine tt_imulN (q := 8) dX4_piece_7 rfl ?_
  refine tt_iload_n (q := 9) dX4_piece_8 rfl rfl ?_
  refine tt_iaddN (q := 10) dX4_piece_9 rfl ?_
  obtain ⟨l3, h⟩ := h
  refine tt_iald (q := 11) dX4_piece_10 ia_4 (Nat.le_of_ble_eq_true rfl) rfl l3 rfl ?_
  refine tt_iret dX4_piece_11 ⟨rfl, _, rfl, ?_⟩
  obtain ⟨j5, e6, l4, h⟩ := h
  refine tt_iast (q := 22) dX4_moved_21 ia_6 (Nat.le_of_ble_eq_true rfl) e6 l4 rfl ?_
  replace h := h _ rfl
  refine inc_3 (v := nI 1) (q := 25) dX4_moved_22 (by decide) rfl rfl ?_
  refine tt_goto (t := 2) dX4_moved_25 rfl ?_
  refine tt_iload_n (q := 3) dX4_moved_2 rfl rfl ?_
  refine tt_bipush (q := 5) dX4_moved_3 bi_6 rfl ?_
  refine tt_icmp_ge (q := 8) (t := 28) dX4_moved_5 rfl rfl (fun c => absurd c (by decide)) (fun c => ?_)
  clear c
  refine tt_aload_n (q := 9) dX4_moved_8 rfl rfl ?_
  refine tt_getR (q := 12) dX4_moved_9 fl_X4_18 or_3_2 (Nat.le_of_ble_eq_true rfl) rfl rfl ?_
  refine tt_aload_n (q := 13) dX4_moved_12 rfl rfl ?_
  refine tt_iload_n (q := 14) dX4_moved_13 rfl rfl ?_
  refine tt_iald (q := 15) dX4_moved_14 hia_k hk_k rfl (Nat.le_of_ble_eq_true rfl : 1 < 6) rfl ?_
  refine tt_aload_n (q := 16) dX4_moved_15 rfl rfl ?_
  refine tt_iload_n (q := 17) dX4_moved_16 rfl rfl ?_
  refine tt_iload_n (q := 18) dX4_moved_17 rfl rfl ?_
  refine callVi_2 (q := 21) dX4_moved_18 (Or.inl ⟨rfl, rfl, ⟨⟨_, _, rfl, rfl, (Nat.le_of_ble_eq_true rfl), rc_3⟩, Nat.le_of_ble_eq_true rfl, ?_⟩⟩) (Nat.le_of_ble_eq_true rfl) rfl (fun t9 r8 ht9 => ht9)
  refine (show TT cX4_piece RX4 false CT0 CN0 _ _ _ none 0 [_, _, _] [] _ _ from ?_)
  refine tt_aload_n (q := 1) dX4_piece_0 rfl rfl ?_
  refine tt_getR (q := 4) dX4_piece_1 fl_X4_9 or_3_0 (Nat.le_of_ble_eq_true rfl) rfl rfl ?_
  refine tt_iload_n (q := 5) dX4_piece_4 rfl rfl ?_
  refine tt_bipush (q := 7) dX4_piece_5 bi_6 rfl ?_
  refine tt_imulN (q := 8) dX4_piece_7 rfl ?_
  refine tt_iload_n (q := 9) dX4_piece_8 rfl rfl ?_
  refine tt_iaddN (q := 10) dX4_piece_9 rfl ?_
  obtain ⟨l10, h⟩ := h
  refine tt_iald (q := 11) dX4_piece_10 ia_4 (Nat.le_of_ble_eq_true rfl) rfl l10 rfl ?_
  refine tt_iret dX4_piece_11 ⟨rfl, _, rfl, ?_⟩
  obtain ⟨j12, e13, l11, h⟩ := h
  refine tt_iast (q := 22) dX4_moved_21 ia_6 (Nat.le_of_ble_eq_true rfl) e13 l11 rfl ?_
  replace h := h _ rfl
  refine inc_3 (v := nI 2) (q := 25) dX4_moved_22 (by decide) rfl rfl ?_
  refine tt_goto (t := 2) dX4_moved_25 rfl ?_
  refine tt_iload_n (q := 3) dX4_moved_2 rfl rfl ?_
  refine tt_bipush (q := 5) dX4_moved_3 bi_6 rfl ?_
  refine tt_icmp_ge (q := 8) (t := 28) dX4_moved_5 rfl rfl (fun c => absurd c (by decide)) (fun c => ?_)
  clear c
  refine tt_aload_n (q := 9) dX4_moved_8 rfl rfl ?_
  refine tt_getR (q := 12) dX4_moved_9 fl_X4_18 or_3_2 (Nat.le_of_ble_eq_true rfl) rfl rfl ?_
  refine tt_aload_n (q := 13) dX4_moved_12 rfl rfl ?_
  refine tt_iload_n (q := 14) dX4_moved_13 rfl rfl ?_
  refine tt_iald (q := 15) dX4_moved_14 hia_k hk_k rfl (Nat.le_of_ble_eq_true rfl : 2 < 6) rfl ?_
  refine tt_aload_n (q := 16) dX4_moved_15 rfl rfl ?_
  refine tt_iload_n (q := 17) dX4_moved_16 rfl rfl ?_
  refine tt_iload_n (q := 18) dX4_moved_17 rfl rfl ?_
  refine callVi_2 (q := 21) dX4_moved_18 (Or.inl ⟨rfl, rfl, ⟨⟨_, _, rfl, rfl, (Nat.le_of_ble_eq_true rfl), rc_3⟩, Nat.le_of_ble_eq_true rfl, ?_⟩⟩) (Nat.le_of_ble_eq_true rfl) rfl (fun t16 r15 ht16 => ht16)
  refine (show TT cX4_piece RX4 false CT0 CN0 _ _ _ none 0 [_, _, _] [] _ _ from ?_)
  refine tt_aload_n (q := 1) dX4_piece_0 rfl rfl ?_
  refine tt_getR (q := 4) dX4_piece_1 fl_X4_9 or_3_0 (Nat.le_of_ble_eq_true rfl) rfl rfl ?_
  refine tt_iload_n (q := 5) dX4_piece_4 rfl rfl ?_
  refine tt_bipush (q := 7) dX4_piece_5 bi_6 rfl ?_
  refine tt_imulN (q := 8) dX4_piece_7 rfl ?_
  refine tt_iload_n (q := 9) dX4_piece_8 rfl rfl ?_
  refine tt_iaddN (q := 10) dX4_piece_9 rfl ?_
  obtain ⟨l17, h⟩ := h
  refine tt_iald (q := 11) dX4_piece_10 ia_4 (Nat.le_of_ble_eq_true rfl) rfl l17 rfl ?_
  refine tt_iret dX4_piece_11 ⟨rfl, _, rfl, ?_⟩
  obtain ⟨j19, e20, l18, h⟩ := h
  refine tt_iast (q := 22) dX4_moved_21 ia_6 (Nat.le_of_ble_eq_true rfl) e20 l18 rfl ?_
  replace h := h _ rfl
  refine inc_3 (v := nI 3) (q := 25) dX4_moved_22 (by decide) rfl rfl ?_
  refine tt_goto (t := 2) dX4_moved_25 rfl ?_
  refine tt_iload_n (q := 3) dX4_moved_2 rfl rfl ?_
  refine tt_bipush (q := 5) dX4_moved_3 bi_6 rfl ?_
  refine tt_icmp_ge (q := 8) (t := 28) dX4_moved_5 rfl rfl (fun c => absurd c (by decide)) (fun c => ?_)
  clear c
  refine tt_aload_n (q := 9) dX4_moved_8 rfl rfl ?_
  refine tt_getR (q := 12) dX4_moved_9 fl_X4_18 or_3_2 (Nat.le_of_ble_eq_true rfl) rfl rfl ?_
  refine tt_aload_n (q := 13) dX4_moved_12 rfl rfl ?_
  refine tt_iload_n (q := 14) dX4_moved_13 rfl rfl ?_
  refine tt_iald (q := 15) dX4_moved_14 hia_k hk_k rfl (Nat.le_of_ble_eq_true rfl : 3 < 6) rfl ?_
  refine tt_aload_n (q := 16) dX4_moved_15 rfl rfl ?_
  refine tt_iload_n (q := 17) dX4_moved_16 rfl rfl ?_
  refine tt_iload_n (q := 18) dX4_moved_17 rfl rfl ?_
  refine callVi_2 (q := 21) dX4_moved_18 (Or.inl ⟨rfl, rfl, ⟨⟨_, _, rfl, rfl, (Nat.le_of_ble_eq_true rfl), rc_3⟩, Nat.le_of_ble_eq_true rfl, ?_⟩⟩) (Nat.le_of_ble_eq_true rfl) rfl (fun t23 r22 ht23 => ht23)
  refine (show TT cX4_piece RX4 false CT0 CN0 _ _ _ none 0 [_, _, _] [] _ _ from ?_)
  refine tt_aload_n (q := 1) dX4_piece_0 rfl rfl ?_
  refine tt_getR (q := 4) dX4_piece_1 fl_X4_9 or_3_0 (Nat.le_of_ble_eq_true rfl) rfl rfl ?_
  refine tt_iload_n (q := 5) dX4_piece_4 rfl rfl ?_
  refine tt_bipush (q := 7) dX4_piece_5 bi_6 rfl ?_
  refine tt_imulN (q := 8) dX4_piece_7 rfl ?_
  refine tt_iload_n (q := 9) dX4_piece_8 rfl rfl ?_
  refine tt_iaddN (q := 10) dX4_piece_9 rfl ?_
  obtain ⟨l24, h⟩ := h
  refine tt_iald (q := 11) dX4_piece_10 ia_4 (Nat.le_of_ble_eq_true rfl) rfl l24 rfl ?_
  refine tt_iret dX4_piece_11 ⟨rfl, _, rfl, ?_⟩
  obtain ⟨j26, e27, l25, h⟩ := h
  refine tt_iast (q := 22) dX4_moved_21 ia_6 (Nat.le_of_ble_eq_true rfl) e27 l25 rfl ?_
  replace h := h _ rfl
  refine inc_3 (v := nI 4) (q := 25) dX4_moved_22 (by decide) rfl rfl ?_
  refine tt_goto (t := 2) dX4_moved_25 rfl ?_
  refine tt_iload_n (q := 3) dX4_moved_2 rfl rfl ?_
  refine tt_bipush (q := 5) dX4_moved_3 bi_6 rfl ?_
  refine tt_icmp_ge (q := 8) (t := 28) dX4_moved_5 rfl rfl (fun c => absurd c (by decide)) (fun c => ?_)
  clear c
  refine tt_aload_n (q := 9) dX4_moved_8 rfl rfl ?_
  refine tt_getR (q := 12) dX4_moved_9 fl_X4_18 or_3_2 (Nat.le_of_ble_eq_true rfl) rfl rfl ?_
  refine tt_aload_n (q := 13) dX4_moved_12 rfl rfl ?_
  refine tt_iload_n (q := 14) dX4_moved_13 rfl rfl ?_
  refine tt_iald (q := 15) dX4_moved_14 hia_k hk_k rfl (Nat.le_of_ble_eq_true rfl : 4 < 6) rfl ?_
  refine tt_aload_n (q := 16) dX4_moved_15 rfl rfl ?_
  refine tt_iload_n (q := 17) dX4_moved_16 rfl rfl ?_
  refine tt_iload_n (q := 18) dX4_moved_17 rfl rfl ?_
  refine callVi_2 (q := 21) dX4_moved_18 (Or.inl ⟨rfl, rfl, ⟨⟨_, _, rfl, rfl, (Nat.le_of_ble_eq_true rfl), rc_3⟩, Nat.le_of_ble_eq_true rfl, ?_⟩⟩) (Nat.le_of_ble_eq_true rfl) rfl (fun t30 r29 ht30 => ht30)
  refine (show TT cX4_piece RX4 false CT0 CN0 _ _ _ none 0 [_, _, _] [] _ _ from ?_)
  refine tt_aload_n (q := 1) dX4_piece_0 rfl rfl ?_
  refine tt_getR (q := 4) dX4_piece_1 fl_X4_9 or_3_0 (Nat.le_of_ble_eq_true rfl) rfl rfl ?_
  refine tt_iload_n (q := 5) dX4_piece_4 rfl rfl ?_
  refine tt_bipush (q := 7) dX4_piece_5 bi_6 rfl ?_
  refine tt_imulN (q := 8) dX4_piece_7 rfl ?_
  refine tt_iload_n (q := 9) dX4_piece_8 rfl rfl ?_
  refine tt_iaddN (q := 10) dX4_piece_9 rfl ?_
  obtain ⟨l31, h⟩ := h
  refine tt_iald (q := 11) dX4_piece_10 ia_4 (Nat.le_of_ble_eq_true rfl) rfl l31 rfl ?_
  refine tt_iret dX4_piece_11 ⟨rfl, _, rfl, ?_⟩
  obtain ⟨j33, e34, l32, h⟩ := h
  refine tt_iast (q := 22) dX4_moved_21 ia_6 (Nat.le_of_ble_eq_true rfl) e34 l32 rfl ?_
  replace h := h _ rfl
  refine inc_3 (v := nI 5) (q := 25) dX4_moved_22 (by decide) rfl rfl ?_
  refine tt_goto (t := 2) dX4_moved_25 rfl ?_
  refine tt_iload_n (q := 3) dX4_moved_2 rfl rfl ?_
  refine tt_bipush (q := 5) dX4_moved_3 bi_6 rfl ?_
  refine tt_icmp_ge (q := 8) (t := 28) dX4_moved_5 rfl rfl (fun c => absurd c (by decide)) (fun c => ?_)
  clear c
  refine tt_aload_n (q := 9) dX4_moved_8 rfl rfl ?_
  refine tt_getR (q := 12) dX4_moved_9 fl_X4_18 or_3_2 (Nat.le_of_ble_eq_true rfl) rfl rfl ?_
  refine tt_aload_n (q := 13) dX4_moved_12 rfl rfl ?_
  refine tt_iload_n (q := 14) dX4_moved_13 rfl rfl ?_
  refine tt_iald (q := 15) dX4_moved_14 hia_k hk_k rfl (Nat.le_of_ble_eq_true rfl : 5 < 6) rfl ?_
  refine tt_aload_n (q := 16) dX4_moved_15 rfl rfl ?_
  refine tt_iload_n (q := 17) dX4_moved_16 rfl rfl ?_
  refine tt_iload_n (q := 18) dX4_moved_17 rfl rfl ?_
  refine callVi_2 (q := 21) dX4_moved_18 (Or.inl ⟨rfl, rfl, ⟨⟨_, _, rfl, rfl, (Nat.le_of_ble_eq_true rfl), rc_3⟩, Nat.le_of_ble_eq_true rfl, ?_⟩⟩) (Nat.le_of_ble_eq_true rfl) rfl (fun t37 r36 ht37 => ht37)
  refine (show TT cX4_piece RX4 false CT0 CN0 _ _ _ none 0 [_, _, _] [] _ _ from ?_)
  refine tt_aload_n (q := 1) dX4_piece_0 rfl rfl ?_
  refine tt_getR (q := 4) dX4_piece_1 fl_X4_9 or_3_0 (Nat.le_of_ble_eq_true rfl) rfl rfl ?_
  refine tt_iload_n (q := 5) dX4_piece_4 rfl rfl ?_
  refine tt_bipush (q := 7) dX4_piece_5 bi_6 rfl ?_
  refine tt_imulN (q := 8) dX4_piece_7 rfl ?_
  refine tt_iload_n (q := 9) dX4_piece_8 rfl rfl ?_
  refine tt_iaddN (q := 10) dX4_piece_9 rfl ?_
  obtain ⟨l38, h⟩ := h
  refine tt_iald (q := 11) dX4_piece_10 ia_4 (Nat.le_of_ble_eq_true rfl) rfl l38 rfl ?_
  refine tt_iret dX4_piece_11 ⟨rfl, _, rfl, ?_⟩
  obtain ⟨j40, e41, l39, h⟩ := h
  refine tt_iast (q := 22) dX4_moved_21 ia_6 (Nat.le_of_ble_eq_true rfl) e41 l39 rfl ?_
  replace h := h _ rfl
  refine inc_3 (v := nI 6) (q := 25) dX4_moved_22 (by decide) rfl rfl ?_
  refine tt_goto (t := 2) dX4_moved_25 rfl ?_
  refine tt_iload_n (q := 3) dX4_moved_2 rfl rfl ?_
  refine tt_bipush (q := 5) dX4_moved_3 bi_6 rfl ?_
  refine tt_icmp_ge (q := 8) (t := 28) dX4_moved_5 rfl rfl (fun c => ?_) (fun c => absurd c (by decide))
  clear c
  refine tt_aload_n (q := 29) dX4_moved_28 rfl rfl ?_
  refine tt_aload_n (q := 30) dX4_moved_29 rfl rfl ?_
  refine tt_getR (q := 33) dX4_moved_30 fl_X4_18 or_3_2 (Nat.le_of_ble_eq_true rfl) rfl rfl ?_
  obtain ⟨p45, hp46, h⟩ := h
  refine callVi_1 (q := 36) dX4_moved_33 (Or.inr (⟨rfl, rfl, hp46⟩)) (Nat.le_of_ble_eq_true rfl) rfl (fun t44 r43 hr47 => ?_)
  replace h := h t44 r43 hr47
  exact tt_iret dX4_moved_36 ⟨rfl, _, rfl, h⟩

theorem g_X5_takeRead_0 {post : SG → Int32 → Prop} {σ : SG} {k : Nat} (h : (∃ j2 : Nat, (σ 36 0) = nI j2 ∧ j2 < 10 ∧ (∀ s4 : SG, s4 = up σ 37 j2 (nI k) → T_X5_takeRead AF post 12 [.ref 36, .int (nI k), .int (nI 0), dum, dum] [] s4))) : T_X5_takeRead AF post 0 [.ref 36, .int (nI k), dum, dum, dum] [] σ := by
  refine tt_aload_n (q := 1) dX5_takeRead_0 rfl rfl ?_
  refine tt_getR (q := 4) dX5_takeRead_1 fl_X5_9 or_36_1 (Nat.le_of_ble_eq_true rfl) rfl rfl ?_
  refine tt_aload_n (q := 5) dX5_takeRead_4 rfl rfl ?_
  refine tt_getI (q := 8) dX5_takeRead_5 fl_X5_34 oi_36_0 (Nat.le_of_ble_eq_true rfl) rfl ?_
  refine tt_iload_n (q := 9) dX5_takeRead_8 rfl rfl ?_
  obtain ⟨j2, e3, l1, h⟩ := h
  refine tt_iast (q := 10) dX5_takeRead_9 ia_37 (Nat.le_of_ble_eq_true rfl) e3 l1 rfl ?_
  replace h := h _ rfl
  refine tt_iconst (q := 11) dX5_takeRead_10 ki_0 rfl ?_
  refine sti_n_2 (q := 12) dX5_takeRead_11 rfl rfl rfl ?_
  exact h
theorem g_X5_takeRead_12 {post : SG → Int32 → Prop} {σ : SG} {k : Nat} {o : Nat} (h : (o < 2 ^ 31 ∧ ((720 ≤ o → (∀ s3 : SG, s3 = up σ 36 0 ((σ 36 0) + (nI 1)) → post s3 0)) ∧ (o < 720 → T_X5_takeRead AF post 24 [.ref 36, .int (nI k), .int (nI o), .int (nI o), .int (nI 0)] [] σ)))) : T_X5_takeRead AF post 12 [.ref 36, .int (nI k), .int (nI o), dum, dum] [] σ := by
  refine tt_iload_n (q := 13) dX5_takeRead_12 rfl rfl ?_
  refine tt_sipush (q := 16) dX5_takeRead_13 si_720 rfl ?_
  obtain ⟨l2, h⟩ := h
  refine tt_icmp_ge (q := 19) (t := 77) dX5_takeRead_16 rfl rfl (fun c => ?_) (fun c => ?_)
  · replace h := h.1 ((nI_leI (by decide) l2).1 c)
    refine tt_aload_n (q := 78) dX5_takeRead_77 rfl rfl ?_
    refine tt_dup (q := 79) dX5_takeRead_78 rfl rfl ?_
    refine tt_getI (q := 82) dX5_takeRead_79 fl_X5_34 oi_36_0 (Nat.le_of_ble_eq_true rfl) rfl ?_
    refine tt_iconst (q := 83) dX5_takeRead_82 ki_1 rfl ?_
    refine tt_iadd (q := 84) dX5_takeRead_83 rfl ?_
    refine tt_putI (q := 87) dX5_takeRead_84 fl_X5_34 oi_36_0 (fp_5_0 _) (Nat.le_of_ble_eq_true rfl) rfl ?_
    replace h := h _ rfl
    exact tt_vret dX5_takeRead_87 ⟨rfl, rfl, h⟩
  · replace h := h.2 (Nat.lt_of_not_le (fun z => c ((nI_leI (by decide) l2).2 z)))
    refine tt_iload_n (q := 20) dX5_takeRead_19 rfl rfl ?_
    refine sti_n_3 (q := 21) dX5_takeRead_20 rfl rfl rfl ?_
    refine tt_iconst (q := 22) dX5_takeRead_21 ki_0 rfl ?_
    refine sti_4 (q := 24) dX5_takeRead_22 rfl rfl ?_
    exact h
theorem g_X5_takeRead_24 {post : SG → Int32 → Prop} {σ : SG} {k : Nat} {o : Nat} {ap : Nat} {i : Nat} (h : (i < 2 ^ 31 ∧ (k < 2 ^ 31 ∧ ((k ≤ i → (∃ j5 : Nat, (σ 36 0) = nI j5 ∧ j5 < 10 ∧ (o < 720 ∧ (∀ s8 : SG, s8 = up σ (49 + 1 + j5) o (nI ap) → T_X5_takeRead AF post 12 [.ref 36, .int (nI k), .int (nI (o + 1)), dum, dum] [] s8)))) ∧ (i < k → (∃ j10 : Nat, (σ 36 0) = nI j10 ∧ j10 < 10 ∧ (i < 8 ∧ (∃ j14 : Nat, (σ (38 + 1 + j10) i) = nI j14 ∧ j14 < 12 ∧ (ap < 720 ∧ T_X5_takeRead AF post 24 [.ref 36, .int (nI k), .int (nI o), .int (σ (21 + 1 + j14) ap), .int (nI (i + 1))] [] σ))))))))) : T_X5_takeRead AF post 24 [.ref 36, .int (nI k), .int (nI o), .int (nI ap), .int (nI i)] [] σ := by
  refine tt_iload (q := 26) dX5_takeRead_24 rfl rfl ?_
  refine tt_iload_n (q := 27) dX5_takeRead_26 rfl rfl ?_
  obtain ⟨l2, h⟩ := h
  obtain ⟨l3, h⟩ := h
  refine tt_icmp_ge (q := 30) (t := 59) dX5_takeRead_27 rfl rfl (fun c => ?_) (fun c => ?_)
  · replace h := h.1 ((nI_leI l3 l2).1 c)
    refine tt_aload_n (q := 60) dX5_takeRead_59 rfl rfl ?_
    refine tt_getR (q := 63) dX5_takeRead_60 fl_X5_20 or_36_3 (Nat.le_of_ble_eq_true rfl) rfl rfl ?_
    refine tt_aload_n (q := 64) dX5_takeRead_63 rfl rfl ?_
    refine tt_getI (q := 67) dX5_takeRead_64 fl_X5_34 oi_36_0 (Nat.le_of_ble_eq_true rfl) rfl ?_
    obtain ⟨j5, e6, l4, h⟩ := h
    refine tt_aald (q := 68) dX5_takeRead_67 ig_49 (Nat.le_of_ble_eq_true rfl) e6 l4 rfl ?_
    refine tt_iload_n (q := 69) dX5_takeRead_68 rfl rfl ?_
    refine tt_iload_n (q := 70) dX5_takeRead_69 rfl rfl ?_
    obtain ⟨l7, h⟩ := h
    refine tt_iast (q := 71) dX5_takeRead_70 (gi_49 _ l4) (gl_49 _ l4) rfl l7 rfl ?_
    replace h := h _ rfl
    refine inc_2 (q := 74) dX5_takeRead_71 (nI_inc1 _) rfl rfl ?_
    refine tt_goto (t := 12) dX5_takeRead_74 rfl ?_
    refine tt_wk (L2 := [_, _, _, dum, dum]) ⟨Or.inl rfl, Or.inl rfl, Or.inl rfl, Or.inr rfl, Or.inr rfl, trivial⟩ ?_
    exact h
  · replace h := h.2 (Nat.lt_of_not_le (fun z => c ((nI_leI l3 l2).2 z)))
    refine tt_aload_n (q := 31) dX5_takeRead_30 rfl rfl ?_
    refine tt_getR (q := 34) dX5_takeRead_31 fl_X5_26 or_36_5 (Nat.le_of_ble_eq_true rfl) rfl rfl ?_
    refine tt_getR (q := 37) dX5_takeRead_34 fl_X5_38 or_7_2 (Nat.le_of_ble_eq_true rfl) rfl rfl ?_
    refine tt_aload_n (q := 38) dX5_takeRead_37 rfl rfl ?_
    refine tt_getR (q := 41) dX5_takeRead_38 fl_X5_17 or_36_2 (Nat.le_of_ble_eq_true rfl) rfl rfl ?_
    refine tt_aload_n (q := 42) dX5_takeRead_41 rfl rfl ?_
    refine tt_getI (q := 45) dX5_takeRead_42 fl_X5_34 oi_36_0 (Nat.le_of_ble_eq_true rfl) rfl ?_
    obtain ⟨j10, e11, l9, h⟩ := h
    refine tt_aald (q := 46) dX5_takeRead_45 ig_38 (Nat.le_of_ble_eq_true rfl) e11 l9 rfl ?_
    refine tt_iload (q := 48) dX5_takeRead_46 rfl rfl ?_
    obtain ⟨l12, h⟩ := h
    refine tt_iald (q := 49) dX5_takeRead_48 (gi_38 _ l9) (gl_38 _ l9) rfl l12 rfl ?_
    obtain ⟨j14, e15, l13, h⟩ := h
    refine tt_aald (q := 50) dX5_takeRead_49 ig_21 (Nat.le_of_ble_eq_true rfl) e15 l13 rfl ?_
    refine tt_iload_n (q := 51) dX5_takeRead_50 rfl rfl ?_
    obtain ⟨l16, h⟩ := h
    refine tt_iald (q := 52) dX5_takeRead_51 (gi_21 _ l13) (gl_21 _ l13) rfl l16 rfl ?_
    refine sti_n_3 (q := 53) dX5_takeRead_52 rfl rfl rfl ?_
    refine inc_4 (q := 56) dX5_takeRead_53 (nI_inc1 _) rfl rfl ?_
    refine tt_goto (t := 24) dX5_takeRead_56 rfl ?_
    exact h

theorem g_X5_goal_0 {post : SG → Int32 → Prop} {σ : SG} {r : Nat} {p : Nat} (h : T_X5_goal AF post 5 [.ref 36, .int (nI r), .int (nI p), .int (nI p), .int (nI 0)] [] σ) : T_X5_goal AF post 0 [.ref 36, .int (nI r), .int (nI p), dum, dum] [] σ := by
  refine tt_iload_n (q := 1) dX5_goal_0 rfl rfl ?_
  refine sti_n_3 (q := 2) dX5_goal_1 rfl rfl rfl ?_
  refine tt_iconst (q := 3) dX5_goal_2 ki_0 rfl ?_
  refine sti_4 (q := 5) dX5_goal_3 rfl rfl ?_
  exact h
theorem g_X5_goal_5 {post : SG → Int32 → Prop} {σ : SG} {r : Nat} {p : Nat} {x : Nat} {i : Nat} (h : (r < 10 ∧ (((σ 37 r) ≤ (nI i) → post σ (nI x)) ∧ (¬ (σ 37 r) ≤ (nI i) → (r < 10 ∧ (i < 8 ∧ (∃ j6 : Nat, (σ (38 + 1 + r) i) = nI j6 ∧ j6 < 12 ∧ (x < 6 ∧ T_X5_goal AF post 5 [.ref 36, .int (nI r), .int (nI p), .int (σ (8 + 1 + j6) x), .int (nI (i + 1))] [] σ)))))))) : T_X5_goal AF post 5 [.ref 36, .int (nI r), .int (nI p), .int (nI x), .int (nI i)] [] σ := by
  refine tt_iload (q := 7) dX5_goal_5 rfl rfl ?_
  refine tt_aload_n (q := 8) dX5_goal_7 rfl rfl ?_
  refine tt_getR (q := 11) dX5_goal_8 fl_X5_9 or_36_1 (Nat.le_of_ble_eq_true rfl) rfl rfl ?_
  refine tt_iload_n (q := 12) dX5_goal_11 rfl rfl ?_
  obtain ⟨l1, h⟩ := h
  refine tt_iald (q := 13) dX5_goal_12 ia_37 (Nat.le_of_ble_eq_true rfl) rfl l1 rfl ?_
  refine tt_icmp_ge (q := 16) (t := 42) dX5_goal_13 rfl rfl (fun c => ?_) (fun c => ?_)
  · replace h := h.1 c
    refine tt_iload_n (q := 43) dX5_goal_42 rfl rfl ?_
    exact tt_iret dX5_goal_43 ⟨rfl, _, rfl, h⟩
  · replace h := h.2 c
    refine tt_aload_n (q := 17) dX5_goal_16 rfl rfl ?_
    refine tt_getR (q := 20) dX5_goal_17 fl_X5_26 or_36_5 (Nat.le_of_ble_eq_true rfl) rfl rfl ?_
    refine tt_getR (q := 23) dX5_goal_20 fl_X5_43 or_7_1 (Nat.le_of_ble_eq_true rfl) rfl rfl ?_
    refine tt_aload_n (q := 24) dX5_goal_23 rfl rfl ?_
    refine tt_getR (q := 27) dX5_goal_24 fl_X5_17 or_36_2 (Nat.le_of_ble_eq_true rfl) rfl rfl ?_
    refine tt_iload_n (q := 28) dX5_goal_27 rfl rfl ?_
    obtain ⟨l3, h⟩ := h
    refine tt_aald (q := 29) dX5_goal_28 ig_38 (Nat.le_of_ble_eq_true rfl) rfl l3 rfl ?_
    refine tt_iload (q := 31) dX5_goal_29 rfl rfl ?_
    obtain ⟨l4, h⟩ := h
    refine tt_iald (q := 32) dX5_goal_31 (gi_38 _ l3) (gl_38 _ l3) rfl l4 rfl ?_
    obtain ⟨j6, e7, l5, h⟩ := h
    refine tt_aald (q := 33) dX5_goal_32 ig_8 (Nat.le_of_ble_eq_true rfl) e7 l5 rfl ?_
    refine tt_iload_n (q := 34) dX5_goal_33 rfl rfl ?_
    obtain ⟨l8, h⟩ := h
    refine tt_iald (q := 35) dX5_goal_34 (gi_8 _ l5) (gl_8 _ l5) rfl l8 rfl ?_
    refine sti_n_3 (q := 36) dX5_goal_35 rfl rfl rfl ?_
    refine inc_4 (q := 39) dX5_goal_36 (nI_inc1 _) rfl rfl ?_
    refine tt_goto (t := 5) dX5_goal_39 rfl ?_
    exact h

theorem g_X5_solvedFrom_0 {post : SG → Int32 → Prop} {σ : SG} {r : Nat} (h : (∃ p3 : SG → Int32 → Prop, IN_X5_goal AF σ [.ref 36, .int (nI r), .int (nI 0)] p3 ∧ ∀ (t2 : SG) (r1 : Int32), p3 t2 r1 → (∀ s6 : SG, s6 = up t2 60 0 r1 → (∃ p9 : SG → Int32 → Prop, IN_X5_goal AF s6 [.ref 36, .int (nI r), .int (nI 1)] p9 ∧ ∀ (t8 : SG) (r7 : Int32), p9 t8 r7 → (∀ s12 : SG, s12 = up t8 60 1 r7 → (∃ p15 : SG → Int32 → Prop, IN_X5_goal AF s12 [.ref 36, .int (nI r), .int (nI 2)] p15 ∧ ∀ (t14 : SG) (r13 : Int32), p15 t14 r13 → (∀ s18 : SG, s18 = up t14 60 2 r13 → (∃ p21 : SG → Int32 → Prop, IN_X5_goal AF s18 [.ref 36, .int (nI r), .int (nI 3)] p21 ∧ ∀ (t20 : SG) (r19 : Int32), p21 t20 r19 → (∀ s24 : SG, s24 = up t20 60 3 r19 → (∃ p27 : SG → Int32 → Prop, IN_X5_goal AF s24 [.ref 36, .int (nI r), .int (nI 4)] p27 ∧ ∀ (t26 : SG) (r25 : Int32), p27 t26 r25 → (∀ s30 : SG, s30 = up t26 60 4 r25 → (∃ p33 : SG → Int32 → Prop, IN_X5_goal AF s30 [.ref 36, .int (nI r), .int (nI 5)] p33 ∧ ∀ (t32 : SG) (r31 : Int32), p33 t32 r31 → (∀ s36 : SG, s36 = up t32 60 5 r31 → (∃ p39 : SG → Int32 → Prop, IN_X4_numberOf AF s36 [.ref 3, .ref 60] p39 ∧ ∀ (t38 : SG) (r37 : Int32), p39 t38 r37 → post t38 r37)))))))))))))) : T_X5_solvedFrom AF post 0 [.ref 36, .int (nI r), dum] [] σ := by
  refine tt_iconst (q := 1) dX5_solvedFrom_0 ki_0 rfl ?_
  refine sti_n_2 (q := 2) dX5_solvedFrom_1 rfl rfl rfl ?_
  refine tt_iload_n (q := 3) dX5_solvedFrom_2 rfl rfl ?_
  refine tt_bipush (q := 5) dX5_solvedFrom_3 bi_6 rfl ?_
  refine tt_icmp_ge (q := 8) (t := 26) dX5_solvedFrom_5 rfl rfl (fun c => absurd c (by decide)) (fun c => ?_)
  clear c
  refine tt_aload_n (q := 9) dX5_solvedFrom_8 rfl rfl ?_
  refine tt_getR (q := 12) dX5_solvedFrom_9 fl_X5_23 or_36_4 (Nat.le_of_ble_eq_true rfl) rfl rfl ?_
  refine tt_iload_n (q := 13) dX5_solvedFrom_12 rfl rfl ?_
  refine tt_aload_n (q := 14) dX5_solvedFrom_13 rfl rfl ?_
  refine tt_iload_n (q := 15) dX5_solvedFrom_14 rfl rfl ?_
  refine tt_iload_n (q := 16) dX5_solvedFrom_15 rfl rfl ?_
  obtain ⟨p3, hp4, h⟩ := h
  refine callVi_2 (q := 19) dX5_solvedFrom_16 (Or.inl ⟨rfl, rfl, hp4⟩) (Nat.le_of_ble_eq_true rfl) rfl (fun t2 r1 hr5 => ?_)
  replace h := h t2 r1 hr5
  refine tt_iast (q := 20) dX5_solvedFrom_19 ia_60 (Nat.le_of_ble_eq_true rfl) rfl (Nat.le_of_ble_eq_true rfl : 0 < 6) rfl ?_
  replace h := h _ rfl
  refine inc_2 (v := nI 1) (q := 23) dX5_solvedFrom_20 (by decide) rfl rfl ?_
  refine tt_goto (t := 2) dX5_solvedFrom_23 rfl ?_
  refine tt_iload_n (q := 3) dX5_solvedFrom_2 rfl rfl ?_
  refine tt_bipush (q := 5) dX5_solvedFrom_3 bi_6 rfl ?_
  refine tt_icmp_ge (q := 8) (t := 26) dX5_solvedFrom_5 rfl rfl (fun c => absurd c (by decide)) (fun c => ?_)
  clear c
  refine tt_aload_n (q := 9) dX5_solvedFrom_8 rfl rfl ?_
  refine tt_getR (q := 12) dX5_solvedFrom_9 fl_X5_23 or_36_4 (Nat.le_of_ble_eq_true rfl) rfl rfl ?_
  refine tt_iload_n (q := 13) dX5_solvedFrom_12 rfl rfl ?_
  refine tt_aload_n (q := 14) dX5_solvedFrom_13 rfl rfl ?_
  refine tt_iload_n (q := 15) dX5_solvedFrom_14 rfl rfl ?_
  refine tt_iload_n (q := 16) dX5_solvedFrom_15 rfl rfl ?_
  obtain ⟨p9, hp10, h⟩ := h
  refine callVi_2 (q := 19) dX5_solvedFrom_16 (Or.inl ⟨rfl, rfl, hp10⟩) (Nat.le_of_ble_eq_true rfl) rfl (fun t8 r7 hr11 => ?_)
  replace h := h t8 r7 hr11
  refine tt_iast (q := 20) dX5_solvedFrom_19 ia_60 (Nat.le_of_ble_eq_true rfl) rfl (Nat.le_of_ble_eq_true rfl : 1 < 6) rfl ?_
  replace h := h _ rfl
  refine inc_2 (v := nI 2) (q := 23) dX5_solvedFrom_20 (by decide) rfl rfl ?_
  refine tt_goto (t := 2) dX5_solvedFrom_23 rfl ?_
  refine tt_iload_n (q := 3) dX5_solvedFrom_2 rfl rfl ?_
  refine tt_bipush (q := 5) dX5_solvedFrom_3 bi_6 rfl ?_
  refine tt_icmp_ge (q := 8) (t := 26) dX5_solvedFrom_5 rfl rfl (fun c => absurd c (by decide)) (fun c => ?_)
  clear c
  refine tt_aload_n (q := 9) dX5_solvedFrom_8 rfl rfl ?_
  refine tt_getR (q := 12) dX5_solvedFrom_9 fl_X5_23 or_36_4 (Nat.le_of_ble_eq_true rfl) rfl rfl ?_
  refine tt_iload_n (q := 13) dX5_solvedFrom_12 rfl rfl ?_
  refine tt_aload_n (q := 14) dX5_solvedFrom_13 rfl rfl ?_
  refine tt_iload_n (q := 15) dX5_solvedFrom_14 rfl rfl ?_
  refine tt_iload_n (q := 16) dX5_solvedFrom_15 rfl rfl ?_
  obtain ⟨p15, hp16, h⟩ := h
  refine callVi_2 (q := 19) dX5_solvedFrom_16 (Or.inl ⟨rfl, rfl, hp16⟩) (Nat.le_of_ble_eq_true rfl) rfl (fun t14 r13 hr17 => ?_)
  replace h := h t14 r13 hr17
  refine tt_iast (q := 20) dX5_solvedFrom_19 ia_60 (Nat.le_of_ble_eq_true rfl) rfl (Nat.le_of_ble_eq_true rfl : 2 < 6) rfl ?_
  replace h := h _ rfl
  refine inc_2 (v := nI 3) (q := 23) dX5_solvedFrom_20 (by decide) rfl rfl ?_
  refine tt_goto (t := 2) dX5_solvedFrom_23 rfl ?_
  refine tt_iload_n (q := 3) dX5_solvedFrom_2 rfl rfl ?_
  refine tt_bipush (q := 5) dX5_solvedFrom_3 bi_6 rfl ?_
  refine tt_icmp_ge (q := 8) (t := 26) dX5_solvedFrom_5 rfl rfl (fun c => absurd c (by decide)) (fun c => ?_)
  clear c
  refine tt_aload_n (q := 9) dX5_solvedFrom_8 rfl rfl ?_
  refine tt_getR (q := 12) dX5_solvedFrom_9 fl_X5_23 or_36_4 (Nat.le_of_ble_eq_true rfl) rfl rfl ?_
  refine tt_iload_n (q := 13) dX5_solvedFrom_12 rfl rfl ?_
  refine tt_aload_n (q := 14) dX5_solvedFrom_13 rfl rfl ?_
  refine tt_iload_n (q := 15) dX5_solvedFrom_14 rfl rfl ?_
  refine tt_iload_n (q := 16) dX5_solvedFrom_15 rfl rfl ?_
  obtain ⟨p21, hp22, h⟩ := h
  refine callVi_2 (q := 19) dX5_solvedFrom_16 (Or.inl ⟨rfl, rfl, hp22⟩) (Nat.le_of_ble_eq_true rfl) rfl (fun t20 r19 hr23 => ?_)
  replace h := h t20 r19 hr23
  refine tt_iast (q := 20) dX5_solvedFrom_19 ia_60 (Nat.le_of_ble_eq_true rfl) rfl (Nat.le_of_ble_eq_true rfl : 3 < 6) rfl ?_
  replace h := h _ rfl
  refine inc_2 (v := nI 4) (q := 23) dX5_solvedFrom_20 (by decide) rfl rfl ?_
  refine tt_goto (t := 2) dX5_solvedFrom_23 rfl ?_
  refine tt_iload_n (q := 3) dX5_solvedFrom_2 rfl rfl ?_
  refine tt_bipush (q := 5) dX5_solvedFrom_3 bi_6 rfl ?_
  refine tt_icmp_ge (q := 8) (t := 26) dX5_solvedFrom_5 rfl rfl (fun c => absurd c (by decide)) (fun c => ?_)
  clear c
  refine tt_aload_n (q := 9) dX5_solvedFrom_8 rfl rfl ?_
  refine tt_getR (q := 12) dX5_solvedFrom_9 fl_X5_23 or_36_4 (Nat.le_of_ble_eq_true rfl) rfl rfl ?_
  refine tt_iload_n (q := 13) dX5_solvedFrom_12 rfl rfl ?_
  refine tt_aload_n (q := 14) dX5_solvedFrom_13 rfl rfl ?_
  refine tt_iload_n (q := 15) dX5_solvedFrom_14 rfl rfl ?_
  refine tt_iload_n (q := 16) dX5_solvedFrom_15 rfl rfl ?_
  obtain ⟨p27, hp28, h⟩ := h
  refine callVi_2 (q := 19) dX5_solvedFrom_16 (Or.inl ⟨rfl, rfl, hp28⟩) (Nat.le_of_ble_eq_true rfl) rfl (fun t26 r25 hr29 => ?_)
  replace h := h t26 r25 hr29
  refine tt_iast (q := 20) dX5_solvedFrom_19 ia_60 (Nat.le_of_ble_eq_true rfl) rfl (Nat.le_of_ble_eq_true rfl : 4 < 6) rfl ?_
  replace h := h _ rfl
  refine inc_2 (v := nI 5) (q := 23) dX5_solvedFrom_20 (by decide) rfl rfl ?_
  refine tt_goto (t := 2) dX5_solvedFrom_23 rfl ?_
  refine tt_iload_n (q := 3) dX5_solvedFrom_2 rfl rfl ?_
  refine tt_bipush (q := 5) dX5_solvedFrom_3 bi_6 rfl ?_
  refine tt_icmp_ge (q := 8) (t := 26) dX5_solvedFrom_5 rfl rfl (fun c => absurd c (by decide)) (fun c => ?_)
  clear c
  refine tt_aload_n (q := 9) dX5_solvedFrom_8 rfl rfl ?_
  refine tt_getR (q := 12) dX5_solvedFrom_9 fl_X5_23 or_36_4 (Nat.le_of_ble_eq_true rfl) rfl rfl ?_
  refine tt_iload_n (q := 13) dX5_solvedFrom_12 rfl rfl ?_
  refine tt_aload_n (q := 14) dX5_solvedFrom_13 rfl rfl ?_
  refine tt_iload_n (q := 15) dX5_solvedFrom_14 rfl rfl ?_
  refine tt_iload_n (q := 16) dX5_solvedFrom_15 rfl rfl ?_
  obtain ⟨p33, hp34, h⟩ := h
  refine callVi_2 (q := 19) dX5_solvedFrom_16 (Or.inl ⟨rfl, rfl, hp34⟩) (Nat.le_of_ble_eq_true rfl) rfl (fun t32 r31 hr35 => ?_)
  replace h := h t32 r31 hr35
  refine tt_iast (q := 20) dX5_solvedFrom_19 ia_60 (Nat.le_of_ble_eq_true rfl) rfl (Nat.le_of_ble_eq_true rfl : 5 < 6) rfl ?_
  replace h := h _ rfl
  refine inc_2 (v := nI 6) (q := 23) dX5_solvedFrom_20 (by decide) rfl rfl ?_
  refine tt_goto (t := 2) dX5_solvedFrom_23 rfl ?_
  refine tt_iload_n (q := 3) dX5_solvedFrom_2 rfl rfl ?_
  refine tt_bipush (q := 5) dX5_solvedFrom_3 bi_6 rfl ?_
  refine tt_icmp_ge (q := 8) (t := 26) dX5_solvedFrom_5 rfl rfl (fun c => ?_) (fun c => absurd c (by decide))
  clear c
  refine tt_aload_n (q := 27) dX5_solvedFrom_26 rfl rfl ?_
  refine tt_getR (q := 30) dX5_solvedFrom_27 fl_X5_30 or_36_6 (Nat.le_of_ble_eq_true rfl) rfl rfl ?_
  refine tt_aload_n (q := 31) dX5_solvedFrom_30 rfl rfl ?_
  refine tt_getR (q := 34) dX5_solvedFrom_31 fl_X5_23 or_36_4 (Nat.le_of_ble_eq_true rfl) rfl rfl ?_
  obtain ⟨p39, hp40, h⟩ := h
  refine callVi_1 (q := 37) dX5_solvedFrom_34 (Or.inr (⟨rfl, rfl, hp40⟩)) (Nat.le_of_ble_eq_true rfl) rfl (fun t38 r37 hr41 => ?_)
  replace h := h t38 r37 hr41
  exact tt_iret dX5_solvedFrom_37 ⟨rfl, _, rfl, h⟩

theorem g_X6_add_0 {post : SG → Int32 → Prop} {σ : SG} {n : Nat} {b : Int64} (h : T_X6_add AF post 3 [.ref 1, .int (nI n), .long b, dum, .int (nI 0)] [] σ) : T_X6_add AF post 0 [.ref 1, .int (nI n), .long b, dum, dum] [] σ := by
  refine tt_iconst (q := 1) dX6_add_0 ki_0 rfl ?_
  refine sti_4 (q := 3) dX6_add_1 rfl rfl ?_
  exact h
theorem g_X6_add_3 {post : SG → Int32 → Prop} {σ : SG} {n : Nat} {b : Int64} {i : Nat} (h : (i < 2 ^ 31 ∧ (n < 2 ^ 31 ∧ ((n ≤ i → post σ 0) ∧ (i < n → (((nI 16) ≤ (σ 1 1) → post σ 0) ∧ (¬ (nI 16) ≤ (σ 1 1) → (∃ j6 : Nat, (σ 1 1) = nI j6 ∧ j6 < 16 ∧ (∀ s8 : SG, s8 = up σ 2 j6 (((b >>> ((nI (8 * i)).toInt64 &&& 63)) &&& (255 : Int64)).toInt32) → (∀ s9 : SG, s9 = up s8 1 1 ((s8 1 1) + (nI 1)) → T_X6_add AF post 3 [.ref 1, .int (nI n), .long b, dum, .int (nI (i + 1))] [] s9)))))))))) : T_X6_add AF post 3 [.ref 1, .int (nI n), .long b, dum, .int (nI i)] [] σ := by
  refine tt_iload (q := 5) dX6_add_3 rfl rfl ?_
  refine tt_iload_n (q := 6) dX6_add_5 rfl rfl ?_
  obtain ⟨l2, h⟩ := h
  obtain ⟨l3, h⟩ := h
  refine tt_icmp_ge (q := 9) (t := 55) dX6_add_6 rfl rfl (fun c => ?_) (fun c => ?_)
  · replace h := h.1 ((nI_leI l3 l2).1 c)
    exact tt_vret dX6_add_55 ⟨rfl, rfl, h⟩
  · replace h := h.2 (Nat.lt_of_not_le (fun z => c ((nI_leI l3 l2).2 z)))
    refine tt_aload_n (q := 10) dX6_add_9 rfl rfl ?_
    refine tt_getI (q := 13) dX6_add_10 fl_X6_15 oi_1_1 (Nat.le_of_ble_eq_true rfl) rfl ?_
    refine tt_bipush (q := 15) dX6_add_13 bi_16 rfl ?_
    refine tt_icmp_ge (q := 18) (t := 55) dX6_add_15 rfl rfl (fun c => ?_) (fun c => ?_)
    · replace h := h.1 c
      exact tt_vret dX6_add_55 ⟨rfl, rfl, h⟩
    · replace h := h.2 c
      refine tt_aload_n (q := 19) dX6_add_18 rfl rfl ?_
      refine tt_getR (q := 22) dX6_add_19 fl_X6_9 or_1_0 (Nat.le_of_ble_eq_true rfl) rfl rfl ?_
      refine tt_aload_n (q := 23) dX6_add_22 rfl rfl ?_
      refine tt_getI (q := 26) dX6_add_23 fl_X6_15 oi_1_1 (Nat.le_of_ble_eq_true rfl) rfl ?_
      refine tt_lload_n (q := 27) dX6_add_26 rfl rfl ?_
      refine tt_bipush (q := 29) dX6_add_27 bi_8 rfl ?_
      refine tt_iload (q := 31) dX6_add_29 rfl rfl ?_
      refine tt_imulN (q := 32) dX6_add_31 rfl ?_
      refine tt_lshr (q := 33) dX6_add_32 rfl ?_
      refine tt_ldc2 (q := 36) dX6_add_33 lct_X6_19 rfl ?_
      refine tt_land (q := 37) dX6_add_36 rfl ?_
      refine tt_l2i (q := 38) dX6_add_37 rfl ?_
      obtain ⟨j6, e7, l5, h⟩ := h
      refine tt_iast (q := 39) dX6_add_38 ia_2 (Nat.le_of_ble_eq_true rfl) e7 l5 rfl ?_
      replace h := h _ rfl
      refine tt_aload_n (q := 40) dX6_add_39 rfl rfl ?_
      refine tt_dup (q := 41) dX6_add_40 rfl rfl ?_
      refine tt_getI (q := 44) dX6_add_41 fl_X6_15 oi_1_1 (Nat.le_of_ble_eq_true rfl) rfl ?_
      refine tt_iconst (q := 45) dX6_add_44 ki_1 rfl ?_
      refine tt_iadd (q := 46) dX6_add_45 rfl ?_
      refine tt_putI (q := 49) dX6_add_46 fl_X6_15 oi_1_1 (fp_6_1 _) (Nat.le_of_ble_eq_true rfl) rfl ?_
      replace h := h _ rfl
      refine inc_4 (q := 52) dX6_add_49 (nI_inc1 _) rfl rfl ?_
      refine tt_goto (t := 3) dX6_add_52 rfl ?_
      exact h

theorem g_X6_readTurn_0 {post : SG → Int32 → Prop} {σ : SG} {k : Nat} (hia_k : IA k 6) (hk_k : k < AF.1) (h : (∀ s1 : SG, s1 = up σ k 0 (nI 0) → (∀ s2 : SG, s2 = up s1 k 1 (nI 1) → (∀ s3 : SG, s3 = up s2 k 2 (nI 2) → (∀ s4 : SG, s4 = up s3 k 3 (nI 3) → (∀ s5 : SG, s5 = up s4 k 4 (nI 4) → (∀ s6 : SG, s6 = up s5 k 5 (nI 5) → T_X6_readTurn AF post 34 [.ref 1, .ref k, .int (nI 0), .int (nI 0), .int (nI 0), .int (nI 0), .int (nI 0), .int (nI 0), dum] [] s6))))))) : T_X6_readTurn AF post 0 [.ref 1, .ref k, dum, dum, dum, dum, dum, dum, dum] [] σ := by
  refine tt_iconst (q := 1) dX6_readTurn_0 ki_0 rfl ?_
  refine sti_n_2 (q := 2) dX6_readTurn_1 rfl rfl rfl ?_
  refine tt_iload_n (q := 3) dX6_readTurn_2 rfl rfl ?_
  refine tt_bipush (q := 5) dX6_readTurn_3 bi_6 rfl ?_
  refine tt_icmp_ge (q := 8) (t := 18) dX6_readTurn_5 rfl rfl (fun c => absurd c (by decide)) (fun c => ?_)
  clear c
  refine tt_aload_n (q := 9) dX6_readTurn_8 rfl rfl ?_
  refine tt_iload_n (q := 10) dX6_readTurn_9 rfl rfl ?_
  refine tt_iload_n (q := 11) dX6_readTurn_10 rfl rfl ?_
  refine tt_iast (q := 12) dX6_readTurn_11 hia_k hk_k rfl (Nat.le_of_ble_eq_true rfl : 0 < 6) rfl ?_
  replace h := h _ rfl
  refine inc_2 (v := nI 1) (q := 15) dX6_readTurn_12 (by decide) rfl rfl ?_
  refine tt_goto (t := 2) dX6_readTurn_15 rfl ?_
  refine tt_iload_n (q := 3) dX6_readTurn_2 rfl rfl ?_
  refine tt_bipush (q := 5) dX6_readTurn_3 bi_6 rfl ?_
  refine tt_icmp_ge (q := 8) (t := 18) dX6_readTurn_5 rfl rfl (fun c => absurd c (by decide)) (fun c => ?_)
  clear c
  refine tt_aload_n (q := 9) dX6_readTurn_8 rfl rfl ?_
  refine tt_iload_n (q := 10) dX6_readTurn_9 rfl rfl ?_
  refine tt_iload_n (q := 11) dX6_readTurn_10 rfl rfl ?_
  refine tt_iast (q := 12) dX6_readTurn_11 hia_k hk_k rfl (Nat.le_of_ble_eq_true rfl : 1 < 6) rfl ?_
  replace h := h _ rfl
  refine inc_2 (v := nI 2) (q := 15) dX6_readTurn_12 (by decide) rfl rfl ?_
  refine tt_goto (t := 2) dX6_readTurn_15 rfl ?_
  refine tt_iload_n (q := 3) dX6_readTurn_2 rfl rfl ?_
  refine tt_bipush (q := 5) dX6_readTurn_3 bi_6 rfl ?_
  refine tt_icmp_ge (q := 8) (t := 18) dX6_readTurn_5 rfl rfl (fun c => absurd c (by decide)) (fun c => ?_)
  clear c
  refine tt_aload_n (q := 9) dX6_readTurn_8 rfl rfl ?_
  refine tt_iload_n (q := 10) dX6_readTurn_9 rfl rfl ?_
  refine tt_iload_n (q := 11) dX6_readTurn_10 rfl rfl ?_
  refine tt_iast (q := 12) dX6_readTurn_11 hia_k hk_k rfl (Nat.le_of_ble_eq_true rfl : 2 < 6) rfl ?_
  replace h := h _ rfl
  refine inc_2 (v := nI 3) (q := 15) dX6_readTurn_12 (by decide) rfl rfl ?_
  refine tt_goto (t := 2) dX6_readTurn_15 rfl ?_
  refine tt_iload_n (q := 3) dX6_readTurn_2 rfl rfl ?_
  refine tt_bipush (q := 5) dX6_readTurn_3 bi_6 rfl ?_
  refine tt_icmp_ge (q := 8) (t := 18) dX6_readTurn_5 rfl rfl (fun c => absurd c (by decide)) (fun c => ?_)
  clear c
  refine tt_aload_n (q := 9) dX6_readTurn_8 rfl rfl ?_
  refine tt_iload_n (q := 10) dX6_readTurn_9 rfl rfl ?_
  refine tt_iload_n (q := 11) dX6_readTurn_10 rfl rfl ?_
  refine tt_iast (q := 12) dX6_readTurn_11 hia_k hk_k rfl (Nat.le_of_ble_eq_true rfl : 3 < 6) rfl ?_
  replace h := h _ rfl
  refine inc_2 (v := nI 4) (q := 15) dX6_readTurn_12 (by decide) rfl rfl ?_
  refine tt_goto (t := 2) dX6_readTurn_15 rfl ?_
  refine tt_iload_n (q := 3) dX6_readTurn_2 rfl rfl ?_
  refine tt_bipush (q := 5) dX6_readTurn_3 bi_6 rfl ?_
  refine tt_icmp_ge (q := 8) (t := 18) dX6_readTurn_5 rfl rfl (fun c => absurd c (by decide)) (fun c => ?_)
  clear c
  refine tt_aload_n (q := 9) dX6_readTurn_8 rfl rfl ?_
  refine tt_iload_n (q := 10) dX6_readTurn_9 rfl rfl ?_
  refine tt_iload_n (q := 11) dX6_readTurn_10 rfl rfl ?_
  refine tt_iast (q := 12) dX6_readTurn_11 hia_k hk_k rfl (Nat.le_of_ble_eq_true rfl : 4 < 6) rfl ?_
  replace h := h _ rfl
  refine inc_2 (v := nI 5) (q := 15) dX6_readTurn_12 (by decide) rfl rfl ?_
  refine tt_goto (t := 2) dX6_readTurn_15 rfl ?_
  refine tt_iload_n (q := 3) dX6_readTurn_2 rfl rfl ?_
  refine tt_bipush (q := 5) dX6_readTurn_3 bi_6 rfl ?_
  refine tt_icmp_ge (q := 8) (t := 18) dX6_readTurn_5 rfl rfl (fun c => absurd c (by decide)) (fun c => ?_)
  clear c
  refine tt_aload_n (q := 9) dX6_readTurn_8 rfl rfl ?_
  refine tt_iload_n (q := 10) dX6_readTurn_9 rfl rfl ?_
  refine tt_iload_n (q := 11) dX6_readTurn_10 rfl rfl ?_
  refine tt_iast (q := 12) dX6_readTurn_11 hia_k hk_k rfl (Nat.le_of_ble_eq_true rfl : 5 < 6) rfl ?_
  replace h := h _ rfl
  refine inc_2 (v := nI 6) (q := 15) dX6_readTurn_12 (by decide) rfl rfl ?_
  refine tt_goto (t := 2) dX6_readTurn_15 rfl ?_
  refine tt_iload_n (q := 3) dX6_readTurn_2 rfl rfl ?_
  refine tt_bipush (q := 5) dX6_readTurn_3 bi_6 rfl ?_
  refine tt_icmp_ge (q := 8) (t := 18) dX6_readTurn_5 rfl rfl (fun c => ?_) (fun c => absurd c (by decide))
  clear c
  refine tt_iconst (q := 19) dX6_readTurn_18 ki_0 rfl ?_
  refine sti_n_2 (q := 20) dX6_readTurn_19 rfl rfl rfl ?_
  refine tt_iconst (q := 21) dX6_readTurn_20 ki_0 rfl ?_
  refine sti_n_3 (q := 22) dX6_readTurn_21 rfl rfl rfl ?_
  refine tt_iconst (q := 23) dX6_readTurn_22 ki_0 rfl ?_
  refine sti_4 (q := 25) dX6_readTurn_23 rfl rfl ?_
  refine tt_iconst (q := 26) dX6_readTurn_25 ki_0 rfl ?_
  refine sti_5 (q := 28) dX6_readTurn_26 rfl rfl ?_
  refine tt_iconst (q := 29) dX6_readTurn_28 ki_0 rfl ?_
  refine sti_6 (q := 31) dX6_readTurn_29 rfl rfl ?_
  refine tt_iconst (q := 32) dX6_readTurn_31 ki_0 rfl ?_
  refine sti_7 (q := 34) dX6_readTurn_32 rfl rfl ?_
  exact h
theorem g_X6_readTurn_34 {post : SG → Int32 → Prop} {σ : SG} {k : Nat} (hia_k : IA k 6) (hk_k : k < AF.1) {us : Int32} {le : Nat} {op : Int32} {la : Int32} {ir : Int32} {i : Nat} (h : (((σ 1 1) ≤ (nI i) → ((¬ ir = 0 → post σ (σ 1 1)) ∧ (ir = 0 → ((¬ (σ 1 1) = 0 → post σ (-9 : Int32)) ∧ ((σ 1 1) = 0 → post σ (σ 1 1)))))) ∧ (¬ (σ 1 1) ≤ (nI i) → (i < 16 ∧ ((¬ ir = 0 → (i < 16 ∧ ((¬ (σ 2 i) = (nI 41) → ((((σ 2 i) - (nI 97)) < 0 → post σ (nI i)) ∧ (¬ ((σ 2 i) - (nI 97)) < 0 → (((nI 6) ≤ ((σ 2 i) - (nI 97)) → post σ (nI i)) ∧ (¬ (nI 6) ≤ ((σ 2 i) - (nI 97)) → ((¬ ((us >>> (((σ 2 i) - (nI 97)) &&& 31)) &&& (nI 1)) = (nI 1) → (le < 2 ^ 31 ∧ ((¬ le = 0 → (∃ j16 : Nat, la = nI j16 ∧ j16 < 6 ∧ (∀ s18 : SG, s18 = up σ k j16 ((σ 2 i) - (nI 97)) → T_X6_readTurn AF post 34 [.ref 1, .ref k, .int (us ||| ((nI 1) <<< (((σ 2 i) - (nI 97)) &&& 31))), .int (nI (le + 1)), .int op, .int ((σ 2 i) - (nI 97)), .int ir, .int (nI (i + 1)), dum] [] s18))) ∧ (le = 0 → T_X6_readTurn AF post 34 [.ref 1, .ref k, .int (us ||| ((nI 1) <<< (((σ 2 i) - (nI 97)) &&& 31))), .int (nI (le + 1)), .int ((σ 2 i) - (nI 97)), .int ((σ 2 i) - (nI 97)), .int ir, .int (nI (i + 1)), dum] [] σ)))) ∧ (((us >>> (((σ 2 i) - (nI 97)) &&& 31)) &&& (nI 1)) = (nI 1) → post σ (nI i)))))))) ∧ ((σ 2 i) = (nI 41) → (le < 2 ^ 31 ∧ ((2 ≤ le → (∃ j22 : Nat, la = nI j22 ∧ j22 < 6 ∧ (∀ s24 : SG, s24 = up σ k j22 op → T_X6_readTurn AF post 34 [.ref 1, .ref k, .int us, .int (nI le), .int op, .int la, .int (nI 0), .int (nI (i + 1)), dum] [] s24))) ∧ (le < 2 → post σ (nI i)))))))) ∧ (ir = 0 → (i < 16 ∧ (((σ 2 i) = (nI 40) → T_X6_readTurn AF post 34 [.ref 1, .ref k, .int us, .int (nI 0), .int op, .int la, .int (nI 1), .int (nI (i + 1)), dum] [] σ) ∧ (¬ (σ 2 i) = (nI 40) → post σ (nI i)))))))))) : T_X6_readTurn AF post 34 [.ref 1, .ref k, .int us, .int (nI le), .int op, .int la, .int ir, .int (nI i), dum] [] σ := by
  refine tt_iload (q := 36) dX6_readTurn_34 rfl rfl ?_
  refine tt_aload_n (q := 37) dX6_readTurn_36 rfl rfl ?_
  refine tt_getI (q := 40) dX6_readTurn_37 fl_X6_15 oi_1_1 (Nat.le_of_ble_eq_true rfl) rfl ?_
  refine tt_icmp_ge (q := 43) (t := 173) dX6_readTurn_40 rfl rfl (fun c => ?_) (fun c => ?_)
  · replace h := h.1 c
    refine tt_iload (q := 175) dX6_readTurn_173 rfl rfl ?_
    refine tt_if_ne (q := 178) (t := 185) dX6_readTurn_175 rfl rfl (fun c => ?_) (fun c => ?_)
    · replace h := h.1 c
      refine tt_aload_n (q := 186) dX6_readTurn_185 rfl rfl ?_
      refine tt_getI (q := 189) dX6_readTurn_186 fl_X6_15 oi_1_1 (Nat.le_of_ble_eq_true rfl) rfl ?_
      refine tt_goto (t := 194) dX6_readTurn_189 rfl ?_
      exact tt_iret dX6_readTurn_194 ⟨rfl, _, rfl, h⟩
    · replace h := h.2 c
      refine tt_aload_n (q := 179) dX6_readTurn_178 rfl rfl ?_
      refine tt_getI (q := 182) dX6_readTurn_179 fl_X6_15 oi_1_1 (Nat.le_of_ble_eq_true rfl) rfl ?_
      refine tt_if_ne (q := 185) (t := 192) dX6_readTurn_182 rfl rfl (fun c => ?_) (fun c => ?_)
      · replace h := h.1 c
        refine tt_bipush (q := 194) dX6_readTurn_192 bi_m9 rfl ?_
        exact tt_iret dX6_readTurn_194 ⟨rfl, _, rfl, h⟩
      · replace h := h.2 c
        refine tt_aload_n (q := 186) dX6_readTurn_185 rfl rfl ?_
        refine tt_getI (q := 189) dX6_readTurn_186 fl_X6_15 oi_1_1 (Nat.le_of_ble_eq_true rfl) rfl ?_
        refine tt_goto (t := 194) dX6_readTurn_189 rfl ?_
        exact tt_iret dX6_readTurn_194 ⟨rfl, _, rfl, h⟩
  · replace h := h.2 c
    refine tt_aload_n (q := 44) dX6_readTurn_43 rfl rfl ?_
    refine tt_getR (q := 47) dX6_readTurn_44 fl_X6_9 or_1_0 (Nat.le_of_ble_eq_true rfl) rfl rfl ?_
    refine tt_iload (q := 49) dX6_readTurn_47 rfl rfl ?_
    obtain ⟨l4, h⟩ := h
    refine tt_iald (q := 50) dX6_readTurn_49 ia_2 (Nat.le_of_ble_eq_true rfl) rfl l4 rfl ?_
    refine tt_bipush (q := 52) dX6_readTurn_50 bi_97 rfl ?_
    refine tt_isub (q := 53) dX6_readTurn_52 rfl ?_
    refine sti_8 (q := 55) dX6_readTurn_53 rfl rfl ?_
    refine tt_iload (q := 57) dX6_readTurn_55 rfl rfl ?_
    refine tt_if_ne (q := 60) (t := 83) dX6_readTurn_57 rfl rfl (fun c => ?_) (fun c => ?_)
    · replace h := h.1 c
      refine tt_aload_n (q := 84) dX6_readTurn_83 rfl rfl ?_
      refine tt_getR (q := 87) dX6_readTurn_84 fl_X6_9 or_1_0 (Nat.le_of_ble_eq_true rfl) rfl rfl ?_
      refine tt_iload (q := 89) dX6_readTurn_87 rfl rfl ?_
      obtain ⟨l6, h⟩ := h
      refine tt_iald (q := 90) dX6_readTurn_89 ia_2 (Nat.le_of_ble_eq_true rfl) rfl l6 rfl ?_
      refine tt_bipush (q := 92) dX6_readTurn_90 bi_41 rfl ?_
      refine tt_icmp_ne (q := 95) (t := 115) dX6_readTurn_92 rfl rfl (fun c => ?_) (fun c => ?_)
      · replace h := h.1 c
        refine tt_iload (q := 117) dX6_readTurn_115 rfl rfl ?_
        refine callSi_1 (q := 120) dX6_readTurn_117 (⟨rfl, rfl, ⟨rfl, Nat.le_of_ble_eq_true rfl, ?_⟩⟩) (Nat.le_of_ble_eq_true rfl) rfl (fun t9 r8 ht9 => ht9)
        refine (show TT cX11_isPlace RX11 false CT0 CN0 _ _ _ none 0 [_] [] _ _ from ?_)
        refine tt_iload_n (q := 1) dX11_isPlace_0 rfl rfl ?_
        refine tt_if_lt (q := 4) (t := 14) dX11_isPlace_1 rfl rfl (fun c => ?_) (fun c => ?_)
        · replace h := h.1 c
          refine tt_iconst (q := 15) dX11_isPlace_14 ki_0 rfl ?_
          refine tt_iret dX11_isPlace_15 ⟨rfl, _, rfl, Or.inl nI_0, ?_⟩
          refine tt_if_eq (q := 123) (t := 133) dX6_readTurn_120 rfl rfl (fun c => ?_) (fun c => absurd c (by decide))
          clear c
          refine tt_iload (q := 135) dX6_readTurn_133 rfl rfl ?_
          exact tt_iret dX6_readTurn_135 ⟨rfl, _, rfl, h⟩
        · replace h := h.2 c
          refine tt_iload_n (q := 5) dX11_isPlace_4 rfl rfl ?_
          refine tt_bipush (q := 7) dX11_isPlace_5 bi_6 rfl ?_
          refine tt_icmp_ge (q := 10) (t := 14) dX11_isPlace_7 rfl rfl (fun c => ?_) (fun c => ?_)
          · replace h := h.1 c
            refine tt_iconst (q := 15) dX11_isPlace_14 ki_0 rfl ?_
            refine tt_iret dX11_isPlace_15 ⟨rfl, _, rfl, Or.inl nI_0, ?_⟩
            refine tt_if_eq (q := 123) (t := 133) dX6_readTurn_120 rfl rfl (fun c => ?_) (fun c => absurd c (by decide))
            clear c
            refine tt_iload (q := 135) dX6_readTurn_133 rfl rfl ?_
            exact tt_iret dX6_readTurn_135 ⟨rfl, _, rfl, h⟩
          · replace h := h.2 c
            refine tt_iconst (q := 11) dX11_isPlace_10 ki_1 rfl ?_
            refine tt_goto (t := 15) dX11_isPlace_11 rfl ?_
            refine tt_iret dX11_isPlace_15 ⟨rfl, _, rfl, Or.inr rfl, ?_⟩
            refine tt_if_eq (q := 123) (t := 133) dX6_readTurn_120 rfl rfl (fun c => absurd c (by decide)) (fun c => ?_)
            clear c
            refine tt_iload_n (q := 124) dX6_readTurn_123 rfl rfl ?_
            refine tt_iload (q := 126) dX6_readTurn_124 rfl rfl ?_
            refine tt_ishr (q := 127) dX6_readTurn_126 rfl ?_
            refine tt_iconst (q := 128) dX6_readTurn_127 ki_1 rfl ?_
            refine tt_iand (q := 129) dX6_readTurn_128 rfl ?_
            refine tt_iconst (q := 130) dX6_readTurn_129 ki_1 rfl ?_
            refine tt_icmp_ne (q := 133) (t := 136) dX6_readTurn_130 rfl rfl (fun c => ?_) (fun c => ?_)
            · replace h := h.1 c
              refine tt_iload_n (q := 137) dX6_readTurn_136 rfl rfl ?_
              obtain ⟨l14, h⟩ := h
              refine tt_if_ne (q := 140) (t := 147) dX6_readTurn_137 rfl rfl (fun c => ?_) (fun c => ?_)
              · replace h := h.1 (fun z => c ((nI_eq l14 (by decide)).2 z))
                refine tt_aload_n (q := 148) dX6_readTurn_147 rfl rfl ?_
                refine tt_iload (q := 150) dX6_readTurn_148 rfl rfl ?_
                refine tt_iload (q := 152) dX6_readTurn_150 rfl rfl ?_
                obtain ⟨j16, e17, l15, h⟩ := h
                refine tt_iast (q := 153) dX6_readTurn_152 hia_k hk_k e17 l15 rfl ?_
                replace h := h _ rfl
                refine tt_iload_n (q := 154) dX6_readTurn_153 rfl rfl ?_
                refine tt_iconst (q := 155) dX6_readTurn_154 ki_1 rfl ?_
                refine tt_iload (q := 157) dX6_readTurn_155 rfl rfl ?_
                refine tt_ishl (q := 158) dX6_readTurn_157 rfl ?_
                refine tt_ior (q := 159) dX6_readTurn_158 rfl ?_
                refine sti_n_2 (q := 160) dX6_readTurn_159 rfl rfl rfl ?_
                refine tt_iload (q := 162) dX6_readTurn_160 rfl rfl ?_
                refine sti_5 (q := 164) dX6_readTurn_162 rfl rfl ?_
                refine inc_3 (q := 167) dX6_readTurn_164 (nI_inc1 _) rfl rfl ?_
                refine inc_7 (q := 170) dX6_readTurn_167 (nI_inc1 _) rfl rfl ?_
                refine tt_goto (t := 34) dX6_readTurn_170 rfl ?_
                refine tt_wk (L2 := [_, _, _, _, _, _, _, _, dum]) ⟨Or.inl rfl, Or.inl rfl, Or.inl rfl, Or.inl rfl, Or.inl rfl, Or.inl rfl, Or.inl rfl, Or.inl rfl, Or.inr rfl, trivial⟩ ?_
                exact h
              · replace h := h.2 ((nI_eq l14 (by decide)).1 c)
                refine tt_iload (q := 142) dX6_readTurn_140 rfl rfl ?_
                refine sti_4 (q := 144) dX6_readTurn_142 rfl rfl ?_
                refine tt_goto (t := 153) dX6_readTurn_144 rfl ?_
                refine tt_iload_n (q := 154) dX6_readTurn_153 rfl rfl ?_
                refine tt_iconst (q := 155) dX6_readTurn_154 ki_1 rfl ?_
                refine tt_iload (q := 157) dX6_readTurn_155 rfl rfl ?_
                refine tt_ishl (q := 158) dX6_readTurn_157 rfl ?_
                refine tt_ior (q := 159) dX6_readTurn_158 rfl ?_
                refine sti_n_2 (q := 160) dX6_readTurn_159 rfl rfl rfl ?_
                refine tt_iload (q := 162) dX6_readTurn_160 rfl rfl ?_
                refine sti_5 (q := 164) dX6_readTurn_162 rfl rfl ?_
                refine inc_3 (q := 167) dX6_readTurn_164 (nI_inc1 _) rfl rfl ?_
                refine inc_7 (q := 170) dX6_readTurn_167 (nI_inc1 _) rfl rfl ?_
                refine tt_goto (t := 34) dX6_readTurn_170 rfl ?_
                refine tt_wk (L2 := [_, _, _, _, _, _, _, _, dum]) ⟨Or.inl rfl, Or.inl rfl, Or.inl rfl, Or.inl rfl, Or.inl rfl, Or.inl rfl, Or.inl rfl, Or.inl rfl, Or.inr rfl, trivial⟩ ?_
                exact h
            · replace h := h.2 c
              refine tt_iload (q := 135) dX6_readTurn_133 rfl rfl ?_
              exact tt_iret dX6_readTurn_135 ⟨rfl, _, rfl, h⟩
      · replace h := h.2 c
        refine tt_iload_n (q := 96) dX6_readTurn_95 rfl rfl ?_
        refine tt_iconst (q := 97) dX6_readTurn_96 ki_2 rfl ?_
        obtain ⟨l20, h⟩ := h
        refine tt_icmp_ge (q := 100) (t := 103) dX6_readTurn_97 rfl rfl (fun c => ?_) (fun c => ?_)
        · replace h := h.1 ((nI_leI (by decide) l20).1 c)
          refine tt_aload_n (q := 104) dX6_readTurn_103 rfl rfl ?_
          refine tt_iload (q := 106) dX6_readTurn_104 rfl rfl ?_
          refine tt_iload (q := 108) dX6_readTurn_106 rfl rfl ?_
          obtain ⟨j22, e23, l21, h⟩ := h
          refine tt_iast (q := 109) dX6_readTurn_108 hia_k hk_k e23 l21 rfl ?_
          replace h := h _ rfl
          refine tt_iconst (q := 110) dX6_readTurn_109 ki_0 rfl ?_
          refine sti_6 (q := 112) dX6_readTurn_110 rfl rfl ?_
          refine tt_goto (t := 167) dX6_readTurn_112 rfl ?_
          refine inc_7 (q := 170) dX6_readTurn_167 (nI_inc1 _) rfl rfl ?_
          refine tt_goto (t := 34) dX6_readTurn_170 rfl ?_
          refine tt_wk (L2 := [_, _, _, _, _, _, _, _, dum]) ⟨Or.inl rfl, Or.inl rfl, Or.inl rfl, Or.inl rfl, Or.inl rfl, Or.inl rfl, Or.inl rfl, Or.inl rfl, Or.inr rfl, trivial⟩ ?_
          exact h
        · replace h := h.2 (Nat.lt_of_not_le (fun z => c ((nI_leI (by decide) l20).2 z)))
          refine tt_iload (q := 102) dX6_readTurn_100 rfl rfl ?_
          exact tt_iret dX6_readTurn_102 ⟨rfl, _, rfl, h⟩
    · replace h := h.2 c
      refine tt_aload_n (q := 61) dX6_readTurn_60 rfl rfl ?_
      refine tt_getR (q := 64) dX6_readTurn_61 fl_X6_9 or_1_0 (Nat.le_of_ble_eq_true rfl) rfl rfl ?_
      refine tt_iload (q := 66) dX6_readTurn_64 rfl rfl ?_
      obtain ⟨l25, h⟩ := h
      refine tt_iald (q := 67) dX6_readTurn_66 ia_2 (Nat.le_of_ble_eq_true rfl) rfl l25 rfl ?_
      refine tt_bipush (q := 69) dX6_readTurn_67 bi_40 rfl ?_
      refine tt_icmp_eq (q := 72) (t := 75) dX6_readTurn_69 rfl rfl (fun c => ?_) (fun c => ?_)
      · replace h := h.1 c
        refine tt_iconst (q := 76) dX6_readTurn_75 ki_1 rfl ?_
        refine sti_6 (q := 78) dX6_readTurn_76 rfl rfl ?_
        refine tt_iconst (q := 79) dX6_readTurn_78 ki_0 rfl ?_
        refine sti_n_3 (q := 80) dX6_readTurn_79 rfl rfl rfl ?_
        refine tt_goto (t := 167) dX6_readTurn_80 rfl ?_
        refine inc_7 (q := 170) dX6_readTurn_167 (nI_inc1 _) rfl rfl ?_
        refine tt_goto (t := 34) dX6_readTurn_170 rfl ?_
        refine tt_wk (L2 := [_, _, _, _, _, _, _, _, dum]) ⟨Or.inl rfl, Or.inl rfl, Or.inl rfl, Or.inl rfl, Or.inl rfl, Or.inl rfl, Or.inl rfl, Or.inl rfl, Or.inr rfl, trivial⟩ ?_
        exact h
      · replace h := h.2 c
        refine tt_iload (q := 74) dX6_readTurn_72 rfl rfl ?_
        exact tt_iret dX6_readTurn_74 ⟨rfl, _, rfl, h⟩

theorem g_X6_readRow_0 {post : SG → Int32 → Prop} {σ : SG} {k : Nat} (hia_k : IA k 8) (hk_k : k < AF.1) {th : Nat} (h : (∀ s1 : SG, s1 = up σ 1 2 (nI 0) → T_X6_readRow AF post 7 [.ref 1, .ref k, .int (nI th), .int (nI 0), dum] [] s1)) : T_X6_readRow AF post 0 [.ref 1, .ref k, .int (nI th), dum, dum] [] σ := by
  refine tt_aload_n (q := 1) dX6_readRow_0 rfl rfl ?_
  refine tt_iconst (q := 2) dX6_readRow_1 ki_0 rfl ?_
  refine tt_putI (q := 5) dX6_readRow_2 fl_X6_25 oi_1_2 (fp_6_2 _) (Nat.le_of_ble_eq_true rfl) rfl ?_
  replace h := h _ rfl
  refine tt_iconst (q := 6) dX6_readRow_5 ki_0 rfl ?_
  refine sti_n_3 (q := 7) dX6_readRow_6 rfl rfl rfl ?_
  exact h
theorem g_X6_readRow_7 {post : SG → Int32 → Prop} {σ : SG} {k : Nat} (hia_k : IA k 8) (hk_k : k < AF.1) {th : Nat} {i : Nat} (h : (((σ 1 1) ≤ (nI i) → ((¬ (σ 1 2) = 0 → post σ (-9 : Int32)) ∧ ((σ 1 2) = 0 → post σ (σ 1 1)))) ∧ (¬ (σ 1 1) ≤ (nI i) → (i < 16 ∧ ((((σ 2 i) - (nI 48)) < 0 → (i < 16 ∧ ((¬ (σ 2 i) = (nI 39) → post σ (nI i)) ∧ ((σ 2 i) = (nI 39) → (((σ 1 2) ≤ 0 → post σ (nI i)) ∧ (¬ (σ 1 2) ≤ 0 → (∃ j9 : Nat, ((σ 1 2) - (nI 1)) = nI j9 ∧ j9 < 8 ∧ ((¬ ((σ k j9) &&& (nI 1)) = 0 → post σ (nI i)) ∧ (((σ k j9) &&& (nI 1)) = 0 → (∃ j13 : Nat, ((σ 1 2) - (nI 1)) = nI j13 ∧ j13 < 8 ∧ (∃ j16 : Nat, ((σ 1 2) - (nI 1)) = nI j16 ∧ j16 < 8 ∧ (∀ s18 : SG, s18 = up σ k j16 ((σ k j13) + (nI 1)) → T_X6_readRow AF post 7 [.ref 1, .ref k, .int (nI th), .int (nI (i + 1)), dum] [] s18)))))))))))) ∧ (¬ ((σ 2 i) - (nI 48)) < 0 → (((nI th) ≤ ((σ 2 i) - (nI 48)) → (i < 16 ∧ ((¬ (σ 2 i) = (nI 39) → post σ (nI i)) ∧ ((σ 2 i) = (nI 39) → (((σ 1 2) ≤ 0 → post σ (nI i)) ∧ (¬ (σ 1 2) ≤ 0 → (∃ j24 : Nat, ((σ 1 2) - (nI 1)) = nI j24 ∧ j24 < 8 ∧ ((¬ ((σ k j24) &&& (nI 1)) = 0 → post σ (nI i)) ∧ (((σ k j24) &&& (nI 1)) = 0 → (∃ j28 : Nat, ((σ 1 2) - (nI 1)) = nI j28 ∧ j28 < 8 ∧ (∃ j31 : Nat, ((σ 1 2) - (nI 1)) = nI j31 ∧ j31 < 8 ∧ (∀ s33 : SG, s33 = up σ k j31 ((σ k j28) + (nI 1)) → T_X6_readRow AF post 7 [.ref 1, .ref k, .int (nI th), .int (nI (i + 1)), dum] [] s33)))))))))))) ∧ (¬ (nI th) ≤ ((σ 2 i) - (nI 48)) → (((nI 8) ≤ (σ 1 2) → (i < 16 ∧ ((¬ (σ 2 i) = (nI 39) → post σ (nI i)) ∧ ((σ 2 i) = (nI 39) → (((σ 1 2) ≤ 0 → post σ (nI i)) ∧ (¬ (σ 1 2) ≤ 0 → (∃ j39 : Nat, ((σ 1 2) - (nI 1)) = nI j39 ∧ j39 < 8 ∧ ((¬ ((σ k j39) &&& (nI 1)) = 0 → post σ (nI i)) ∧ (((σ k j39) &&& (nI 1)) = 0 → (∃ j43 : Nat, ((σ 1 2) - (nI 1)) = nI j43 ∧ j43 < 8 ∧ (∃ j46 : Nat, ((σ 1 2) - (nI 1)) = nI j46 ∧ j46 < 8 ∧ (∀ s48 : SG, s48 = up σ k j46 ((σ k j43) + (nI 1)) → T_X6_readRow AF post 7 [.ref 1, .ref k, .int (nI th), .int (nI (i + 1)), dum] [] s48)))))))))))) ∧ (¬ (nI 8) ≤ (σ 1 2) → (∃ j50 : Nat, (σ 1 2) = nI j50 ∧ j50 < 8 ∧ (∀ s52 : SG, s52 = up σ k j50 ((nI 2) * ((σ 2 i) - (nI 48))) → (∀ s53 : SG, s53 = up s52 1 2 ((s52 1 2) + (nI 1)) → T_X6_readRow AF post 7 [.ref 1, .ref k, .int (nI th), .int (nI (i + 1)), dum] [] s53))))))))))))) : T_X6_readRow AF post 7 [.ref 1, .ref k, .int (nI th), .int (nI i), dum] [] σ := by
  refine tt_iload_n (q := 8) dX6_readRow_7 rfl rfl ?_
  refine tt_aload_n (q := 9) dX6_readRow_8 rfl rfl ?_
  refine tt_getI (q := 12) dX6_readRow_9 fl_X6_15 oi_1_1 (Nat.le_of_ble_eq_true rfl) rfl ?_
  refine tt_icmp_ge (q := 15) (t := 123) dX6_readRow_12 rfl rfl (fun c => ?_) (fun c => ?_)
  · replace h := h.1 c
    refine tt_aload_n (q := 124) dX6_readRow_123 rfl rfl ?_
    refine tt_getI (q := 127) dX6_readRow_124 fl_X6_25 oi_1_2 (Nat.le_of_ble_eq_true rfl) rfl ?_
    refine tt_if_ne (q := 130) (t := 137) dX6_readRow_127 rfl rfl (fun c => ?_) (fun c => ?_)
    · replace h := h.1 c
      refine tt_bipush (q := 139) dX6_readRow_137 bi_m9 rfl ?_
      exact tt_iret dX6_readRow_139 ⟨rfl, _, rfl, h⟩
    · replace h := h.2 c
      refine tt_aload_n (q := 131) dX6_readRow_130 rfl rfl ?_
      refine tt_getI (q := 134) dX6_readRow_131 fl_X6_15 oi_1_1 (Nat.le_of_ble_eq_true rfl) rfl ?_
      refine tt_goto (t := 139) dX6_readRow_134 rfl ?_
      exact tt_iret dX6_readRow_139 ⟨rfl, _, rfl, h⟩
  · replace h := h.2 c
    refine tt_aload_n (q := 16) dX6_readRow_15 rfl rfl ?_
    refine tt_getR (q := 19) dX6_readRow_16 fl_X6_9 or_1_0 (Nat.le_of_ble_eq_true rfl) rfl rfl ?_
    refine tt_iload_n (q := 20) dX6_readRow_19 rfl rfl ?_
    obtain ⟨l3, h⟩ := h
    refine tt_iald (q := 21) dX6_readRow_20 ia_2 (Nat.le_of_ble_eq_true rfl) rfl l3 rfl ?_
    refine tt_bipush (q := 23) dX6_readRow_21 bi_48 rfl ?_
    refine tt_isub (q := 24) dX6_readRow_23 rfl ?_
    refine sti_4 (q := 26) dX6_readRow_24 rfl rfl ?_
    refine tt_iload (q := 28) dX6_readRow_26 rfl rfl ?_
    refine tt_if_lt (q := 31) (t := 69) dX6_readRow_28 rfl rfl (fun c => ?_) (fun c => ?_)
    · replace h := h.1 c
      refine tt_aload_n (q := 70) dX6_readRow_69 rfl rfl ?_
      refine tt_getR (q := 73) dX6_readRow_70 fl_X6_9 or_1_0 (Nat.le_of_ble_eq_true rfl) rfl rfl ?_
      refine tt_iload_n (q := 74) dX6_readRow_73 rfl rfl ?_
      obtain ⟨l5, h⟩ := h
      refine tt_iald (q := 75) dX6_readRow_74 ia_2 (Nat.le_of_ble_eq_true rfl) rfl l5 rfl ?_
      refine tt_bipush (q := 77) dX6_readRow_75 bi_39 rfl ?_
      refine tt_icmp_ne (q := 80) (t := 115) dX6_readRow_77 rfl rfl (fun c => ?_) (fun c => ?_)
      · replace h := h.1 c
        refine tt_iload_n (q := 116) dX6_readRow_115 rfl rfl ?_
        exact tt_iret dX6_readRow_116 ⟨rfl, _, rfl, h⟩
      · replace h := h.2 c
        refine tt_aload_n (q := 81) dX6_readRow_80 rfl rfl ?_
        refine tt_getI (q := 84) dX6_readRow_81 fl_X6_25 oi_1_2 (Nat.le_of_ble_eq_true rfl) rfl ?_
        refine tt_if_le (q := 87) (t := 115) dX6_readRow_84 rfl rfl (fun c => ?_) (fun c => ?_)
        · replace h := h.1 c
          refine tt_iload_n (q := 116) dX6_readRow_115 rfl rfl ?_
          exact tt_iret dX6_readRow_116 ⟨rfl, _, rfl, h⟩
        · replace h := h.2 c
          refine tt_aload_n (q := 88) dX6_readRow_87 rfl rfl ?_
          refine tt_aload_n (q := 89) dX6_readRow_88 rfl rfl ?_
          refine tt_getI (q := 92) dX6_readRow_89 fl_X6_25 oi_1_2 (Nat.le_of_ble_eq_true rfl) rfl ?_
          refine tt_iconst (q := 93) dX6_readRow_92 ki_1 rfl ?_
          refine tt_isub (q := 94) dX6_readRow_93 rfl ?_
          obtain ⟨j9, e10, l8, h⟩ := h
          refine tt_iald (q := 95) dX6_readRow_94 hia_k hk_k e10 l8 rfl ?_
          refine tt_iconst (q := 96) dX6_readRow_95 ki_1 rfl ?_
          refine tt_iand (q := 97) dX6_readRow_96 rfl ?_
          refine tt_if_ne (q := 100) (t := 115) dX6_readRow_97 rfl rfl (fun c => ?_) (fun c => ?_)
          · replace h := h.1 c
            refine tt_iload_n (q := 116) dX6_readRow_115 rfl rfl ?_
            exact tt_iret dX6_readRow_116 ⟨rfl, _, rfl, h⟩
          · replace h := h.2 c
            refine tt_aload_n (q := 101) dX6_readRow_100 rfl rfl ?_
            refine tt_aload_n (q := 102) dX6_readRow_101 rfl rfl ?_
            refine tt_getI (q := 105) dX6_readRow_102 fl_X6_25 oi_1_2 (Nat.le_of_ble_eq_true rfl) rfl ?_
            refine tt_iconst (q := 106) dX6_readRow_105 ki_1 rfl ?_
            refine tt_isub (q := 107) dX6_readRow_106 rfl ?_
            refine tt_dup2 (q := 108) dX6_readRow_107 rfl rfl rfl ?_
            obtain ⟨j13, e14, l12, h⟩ := h
            refine tt_iald (q := 109) dX6_readRow_108 hia_k hk_k e14 l12 rfl ?_
            refine tt_iconst (q := 110) dX6_readRow_109 ki_1 rfl ?_
            refine tt_iadd (q := 111) dX6_readRow_110 rfl ?_
            obtain ⟨j16, e17, l15, h⟩ := h
            refine tt_iast (q := 112) dX6_readRow_111 hia_k hk_k e17 l15 rfl ?_
            replace h := h _ rfl
            refine tt_goto (t := 117) dX6_readRow_112 rfl ?_
            refine inc_3 (q := 120) dX6_readRow_117 (nI_inc1 _) rfl rfl ?_
            refine tt_goto (t := 7) dX6_readRow_120 rfl ?_
            refine tt_wk (L2 := [_, _, _, _, dum]) ⟨Or.inl rfl, Or.inl rfl, Or.inl rfl, Or.inl rfl, Or.inr rfl, trivial⟩ ?_
            exact h
    · replace h := h.2 c
      refine tt_iload (q := 33) dX6_readRow_31 rfl rfl ?_
      refine tt_iload_n (q := 34) dX6_readRow_33 rfl rfl ?_
      refine tt_icmp_ge (q := 37) (t := 69) dX6_readRow_34 rfl rfl (fun c => ?_) (fun c => ?_)
      · replace h := h.1 c
        refine tt_aload_n (q := 70) dX6_readRow_69 rfl rfl ?_
        refine tt_getR (q := 73) dX6_readRow_70 fl_X6_9 or_1_0 (Nat.le_of_ble_eq_true rfl) rfl rfl ?_
        refine tt_iload_n (q := 74) dX6_readRow_73 rfl rfl ?_
        obtain ⟨l20, h⟩ := h
        refine tt_iald (q := 75) dX6_readRow_74 ia_2 (Nat.le_of_ble_eq_true rfl) rfl l20 rfl ?_
        refine tt_bipush (q := 77) dX6_readRow_75 bi_39 rfl ?_
        refine tt_icmp_ne (q := 80) (t := 115) dX6_readRow_77 rfl rfl (fun c => ?_) (fun c => ?_)
        · replace h := h.1 c
          refine tt_iload_n (q := 116) dX6_readRow_115 rfl rfl ?_
          exact tt_iret dX6_readRow_116 ⟨rfl, _, rfl, h⟩
        · replace h := h.2 c
          refine tt_aload_n (q := 81) dX6_readRow_80 rfl rfl ?_
          refine tt_getI (q := 84) dX6_readRow_81 fl_X6_25 oi_1_2 (Nat.le_of_ble_eq_true rfl) rfl ?_
          refine tt_if_le (q := 87) (t := 115) dX6_readRow_84 rfl rfl (fun c => ?_) (fun c => ?_)
          · replace h := h.1 c
            refine tt_iload_n (q := 116) dX6_readRow_115 rfl rfl ?_
            exact tt_iret dX6_readRow_116 ⟨rfl, _, rfl, h⟩
          · replace h := h.2 c
            refine tt_aload_n (q := 88) dX6_readRow_87 rfl rfl ?_
            refine tt_aload_n (q := 89) dX6_readRow_88 rfl rfl ?_
            refine tt_getI (q := 92) dX6_readRow_89 fl_X6_25 oi_1_2 (Nat.le_of_ble_eq_true rfl) rfl ?_
            refine tt_iconst (q := 93) dX6_readRow_92 ki_1 rfl ?_
            refine tt_isub (q := 94) dX6_readRow_93 rfl ?_
            obtain ⟨j24, e25, l23, h⟩ := h
            refine tt_iald (q := 95) dX6_readRow_94 hia_k hk_k e25 l23 rfl ?_
            refine tt_iconst (q := 96) dX6_readRow_95 ki_1 rfl ?_
            refine tt_iand (q := 97) dX6_readRow_96 rfl ?_
            refine tt_if_ne (q := 100) (t := 115) dX6_readRow_97 rfl rfl (fun c => ?_) (fun c => ?_)
            · replace h := h.1 c
              refine tt_iload_n (q := 116) dX6_readRow_115 rfl rfl ?_
              exact tt_iret dX6_readRow_116 ⟨rfl, _, rfl, h⟩
            · replace h := h.2 c
              refine tt_aload_n (q := 101) dX6_readRow_100 rfl rfl ?_
              refine tt_aload_n (q := 102) dX6_readRow_101 rfl rfl ?_
              refine tt_getI (q := 105) dX6_readRow_102 fl_X6_25 oi_1_2 (Nat.le_of_ble_eq_true rfl) rfl ?_
              refine tt_iconst (q := 106) dX6_readRow_105 ki_1 rfl ?_
              refine tt_isub (q := 107) dX6_readRow_106 rfl ?_
              refine tt_dup2 (q := 108) dX6_readRow_107 rfl rfl rfl ?_
              obtain ⟨j28, e29, l27, h⟩ := h
              refine tt_iald (q := 109) dX6_readRow_108 hia_k hk_k e29 l27 rfl ?_
              refine tt_iconst (q := 110) dX6_readRow_109 ki_1 rfl ?_
              refine tt_iadd (q := 111) dX6_readRow_110 rfl ?_
              obtain ⟨j31, e32, l30, h⟩ := h
              refine tt_iast (q := 112) dX6_readRow_111 hia_k hk_k e32 l30 rfl ?_
              replace h := h _ rfl
              refine tt_goto (t := 117) dX6_readRow_112 rfl ?_
              refine inc_3 (q := 120) dX6_readRow_117 (nI_inc1 _) rfl rfl ?_
              refine tt_goto (t := 7) dX6_readRow_120 rfl ?_
              refine tt_wk (L2 := [_, _, _, _, dum]) ⟨Or.inl rfl, Or.inl rfl, Or.inl rfl, Or.inl rfl, Or.inr rfl, trivial⟩ ?_
              exact h
      · replace h := h.2 c
        refine tt_aload_n (q := 38) dX6_readRow_37 rfl rfl ?_
        refine tt_getI (q := 41) dX6_readRow_38 fl_X6_25 oi_1_2 (Nat.le_of_ble_eq_true rfl) rfl ?_
        refine tt_bipush (q := 43) dX6_readRow_41 bi_8 rfl ?_
        refine tt_icmp_ge (q := 46) (t := 69) dX6_readRow_43 rfl rfl (fun c => ?_) (fun c => ?_)
        · replace h := h.1 c
          refine tt_aload_n (q := 70) dX6_readRow_69 rfl rfl ?_
          refine tt_getR (q := 73) dX6_readRow_70 fl_X6_9 or_1_0 (Nat.le_of_ble_eq_true rfl) rfl rfl ?_
          refine tt_iload_n (q := 74) dX6_readRow_73 rfl rfl ?_
          obtain ⟨l35, h⟩ := h
          refine tt_iald (q := 75) dX6_readRow_74 ia_2 (Nat.le_of_ble_eq_true rfl) rfl l35 rfl ?_
          refine tt_bipush (q := 77) dX6_readRow_75 bi_39 rfl ?_
          refine tt_icmp_ne (q := 80) (t := 115) dX6_readRow_77 rfl rfl (fun c => ?_) (fun c => ?_)
          · replace h := h.1 c
            refine tt_iload_n (q := 116) dX6_readRow_115 rfl rfl ?_
            exact tt_iret dX6_readRow_116 ⟨rfl, _, rfl, h⟩
          · replace h := h.2 c
            refine tt_aload_n (q := 81) dX6_readRow_80 rfl rfl ?_
            refine tt_getI (q := 84) dX6_readRow_81 fl_X6_25 oi_1_2 (Nat.le_of_ble_eq_true rfl) rfl ?_
            refine tt_if_le (q := 87) (t := 115) dX6_readRow_84 rfl rfl (fun c => ?_) (fun c => ?_)
            · replace h := h.1 c
              refine tt_iload_n (q := 116) dX6_readRow_115 rfl rfl ?_
              exact tt_iret dX6_readRow_116 ⟨rfl, _, rfl, h⟩
            · replace h := h.2 c
              refine tt_aload_n (q := 88) dX6_readRow_87 rfl rfl ?_
              refine tt_aload_n (q := 89) dX6_readRow_88 rfl rfl ?_
              refine tt_getI (q := 92) dX6_readRow_89 fl_X6_25 oi_1_2 (Nat.le_of_ble_eq_true rfl) rfl ?_
              refine tt_iconst (q := 93) dX6_readRow_92 ki_1 rfl ?_
              refine tt_isub (q := 94) dX6_readRow_93 rfl ?_
              obtain ⟨j39, e40, l38, h⟩ := h
              refine tt_iald (q := 95) dX6_readRow_94 hia_k hk_k e40 l38 rfl ?_
              refine tt_iconst (q := 96) dX6_readRow_95 ki_1 rfl ?_
              refine tt_iand (q := 97) dX6_readRow_96 rfl ?_
              refine tt_if_ne (q := 100) (t := 115) dX6_readRow_97 rfl rfl (fun c => ?_) (fun c => ?_)
              · replace h := h.1 c
                refine tt_iload_n (q := 116) dX6_readRow_115 rfl rfl ?_
                exact tt_iret dX6_readRow_116 ⟨rfl, _, rfl, h⟩
              · replace h := h.2 c
                refine tt_aload_n (q := 101) dX6_readRow_100 rfl rfl ?_
                refine tt_aload_n (q := 102) dX6_readRow_101 rfl rfl ?_
                refine tt_getI (q := 105) dX6_readRow_102 fl_X6_25 oi_1_2 (Nat.le_of_ble_eq_true rfl) rfl ?_
                refine tt_iconst (q := 106) dX6_readRow_105 ki_1 rfl ?_
                refine tt_isub (q := 107) dX6_readRow_106 rfl ?_
                refine tt_dup2 (q := 108) dX6_readRow_107 rfl rfl rfl ?_
                obtain ⟨j43, e44, l42, h⟩ := h
                refine tt_iald (q := 109) dX6_readRow_108 hia_k hk_k e44 l42 rfl ?_
                refine tt_iconst (q := 110) dX6_readRow_109 ki_1 rfl ?_
                refine tt_iadd (q := 111) dX6_readRow_110 rfl ?_
                obtain ⟨j46, e47, l45, h⟩ := h
                refine tt_iast (q := 112) dX6_readRow_111 hia_k hk_k e47 l45 rfl ?_
                replace h := h _ rfl
                refine tt_goto (t := 117) dX6_readRow_112 rfl ?_
                refine inc_3 (q := 120) dX6_readRow_117 (nI_inc1 _) rfl rfl ?_
                refine tt_goto (t := 7) dX6_readRow_120 rfl ?_
                refine tt_wk (L2 := [_, _, _, _, dum]) ⟨Or.inl rfl, Or.inl rfl, Or.inl rfl, Or.inl rfl, Or.inr rfl, trivial⟩ ?_
                exact h
        · replace h := h.2 c
          refine tt_aload_n (q := 47) dX6_readRow_46 rfl rfl ?_
          refine tt_aload_n (q := 48) dX6_readRow_47 rfl rfl ?_
          refine tt_getI (q := 51) dX6_readRow_48 fl_X6_25 oi_1_2 (Nat.le_of_ble_eq_true rfl) rfl ?_
          refine tt_iconst (q := 52) dX6_readRow_51 ki_2 rfl ?_
          refine tt_iload (q := 54) dX6_readRow_52 rfl rfl ?_
          refine tt_imul (q := 55) dX6_readRow_54 rfl ?_
          obtain ⟨j50, e51, l49, h⟩ := h
          refine tt_iast (q := 56) dX6_readRow_55 hia_k hk_k e51 l49 rfl ?_
          replace h := h _ rfl
          refine tt_aload_n (q := 57) dX6_readRow_56 rfl rfl ?_
          refine tt_dup (q := 58) dX6_readRow_57 rfl rfl ?_
          refine tt_getI (q := 61) dX6_readRow_58 fl_X6_25 oi_1_2 (Nat.le_of_ble_eq_true rfl) rfl ?_
          refine tt_iconst (q := 62) dX6_readRow_61 ki_1 rfl ?_
          refine tt_iadd (q := 63) dX6_readRow_62 rfl ?_
          refine tt_putI (q := 66) dX6_readRow_63 fl_X6_25 oi_1_2 (fp_6_2 _) (Nat.le_of_ble_eq_true rfl) rfl ?_
          replace h := h _ rfl
          refine tt_goto (t := 117) dX6_readRow_66 rfl ?_
          refine inc_3 (q := 120) dX6_readRow_117 (nI_inc1 _) rfl rfl ?_
          refine tt_goto (t := 7) dX6_readRow_120 rfl ?_
          refine tt_wk (L2 := [_, _, _, _, dum]) ⟨Or.inl rfl, Or.inl rfl, Or.inl rfl, Or.inl rfl, Or.inr rfl, trivial⟩ ?_
          exact h

theorem g_X7_add_0 {post : SG → Int32 → Prop} {σ : SG} {v : Int32} (h : T_X7_add AF post 5 [.ref 83, .int v, .int (σ 83 0)] [] σ) : T_X7_add AF post 0 [.ref 83, .int v, dum] [] σ := by
  refine tt_aload_n (q := 1) dX7_add_0 rfl rfl ?_
  refine tt_getI (q := 4) dX7_add_1 fl_X7_15 oi_83_0 (Nat.le_of_ble_eq_true rfl) rfl ?_
  refine sti_n_2 (q := 5) dX7_add_4 rfl rfl rfl ?_
  exact h
theorem g_X7_add_5 {post : SG → Int32 → Prop} {σ : SG} {v : Int32} {ap : Nat} (h : (((nI ap) ≤ 0 → (ap < 5 ∧ (∀ s3 : SG, s3 = up σ 84 ap v → (∀ s4 : SG, s4 = up s3 83 0 ((s3 83 0) + (nI 1)) → post s4 0)))) ∧ (¬ (nI ap) ≤ 0 → (1 ≤ ap ∧ (ap - 1 < 5 ∧ (((σ 84 (ap - 1)) ≤ v → (ap < 5 ∧ (∀ s9 : SG, s9 = up σ 84 ap v → (∀ s10 : SG, s10 = up s9 83 0 ((s9 83 0) + (nI 1)) → post s10 0)))) ∧ (¬ (σ 84 (ap - 1)) ≤ v → (1 ≤ ap ∧ (ap - 1 < 5 ∧ (ap < 5 ∧ (∀ s14 : SG, s14 = up σ 84 ap (σ 84 (ap - 1)) → T_X7_add AF post 5 [.ref 83, .int v, .int ((nI ap) + (-1))] [] s14))))))))))) : T_X7_add AF post 5 [.ref 83, .int v, .int (nI ap)] [] σ := by
  refine tt_iload_n (q := 6) dX7_add_5 rfl rfl ?_
  refine tt_if_le (q := 9) (t := 41) dX7_add_6 rfl rfl (fun c => ?_) (fun c => ?_)
  · replace h := h.1 c
    refine tt_aload_n (q := 42) dX7_add_41 rfl rfl ?_
    refine tt_getR (q := 45) dX7_add_42 fl_X7_9 or_83_1 (Nat.le_of_ble_eq_true rfl) rfl rfl ?_
    refine tt_iload_n (q := 46) dX7_add_45 rfl rfl ?_
    refine tt_iload_n (q := 47) dX7_add_46 rfl rfl ?_
    obtain ⟨l2, h⟩ := h
    refine tt_iast (q := 48) dX7_add_47 ia_84 (Nat.le_of_ble_eq_true rfl) rfl l2 rfl ?_
    replace h := h _ rfl
    refine tt_aload_n (q := 49) dX7_add_48 rfl rfl ?_
    refine tt_dup (q := 50) dX7_add_49 rfl rfl ?_
    refine tt_getI (q := 53) dX7_add_50 fl_X7_15 oi_83_0 (Nat.le_of_ble_eq_true rfl) rfl ?_
    refine tt_iconst (q := 54) dX7_add_53 ki_1 rfl ?_
    refine tt_iadd (q := 55) dX7_add_54 rfl ?_
    refine tt_putI (q := 58) dX7_add_55 fl_X7_15 oi_83_0 (fp_7_0 _) (Nat.le_of_ble_eq_true rfl) rfl ?_
    replace h := h _ rfl
    exact tt_vret dX7_add_58 ⟨rfl, rfl, h⟩
  · replace h := h.2 c
    refine tt_aload_n (q := 10) dX7_add_9 rfl rfl ?_
    refine tt_getR (q := 13) dX7_add_10 fl_X7_9 or_83_1 (Nat.le_of_ble_eq_true rfl) rfl rfl ?_
    refine tt_iload_n (q := 14) dX7_add_13 rfl rfl ?_
    refine tt_iconst (q := 15) dX7_add_14 ki_1 rfl ?_
    obtain ⟨l5, h⟩ := h
    refine tt_isubN (q := 16) dX7_add_15 l5 rfl ?_
    obtain ⟨l6, h⟩ := h
    refine tt_iald (q := 17) dX7_add_16 ia_84 (Nat.le_of_ble_eq_true rfl) rfl l6 rfl ?_
    refine tt_iload_n (q := 18) dX7_add_17 rfl rfl ?_
    refine tt_icmp_le (q := 21) (t := 41) dX7_add_18 rfl rfl (fun c => ?_) (fun c => ?_)
    · replace h := h.1 c
      refine tt_aload_n (q := 42) dX7_add_41 rfl rfl ?_
      refine tt_getR (q := 45) dX7_add_42 fl_X7_9 or_83_1 (Nat.le_of_ble_eq_true rfl) rfl rfl ?_
      refine tt_iload_n (q := 46) dX7_add_45 rfl rfl ?_
      refine tt_iload_n (q := 47) dX7_add_46 rfl rfl ?_
      obtain ⟨l8, h⟩ := h
      refine tt_iast (q := 48) dX7_add_47 ia_84 (Nat.le_of_ble_eq_true rfl) rfl l8 rfl ?_
      replace h := h _ rfl
      refine tt_aload_n (q := 49) dX7_add_48 rfl rfl ?_
      refine tt_dup (q := 50) dX7_add_49 rfl rfl ?_
      refine tt_getI (q := 53) dX7_add_50 fl_X7_15 oi_83_0 (Nat.le_of_ble_eq_true rfl) rfl ?_
      refine tt_iconst (q := 54) dX7_add_53 ki_1 rfl ?_
      refine tt_iadd (q := 55) dX7_add_54 rfl ?_
      refine tt_putI (q := 58) dX7_add_55 fl_X7_15 oi_83_0 (fp_7_0 _) (Nat.le_of_ble_eq_true rfl) rfl ?_
      replace h := h _ rfl
      exact tt_vret dX7_add_58 ⟨rfl, rfl, h⟩
    · replace h := h.2 c
      refine tt_aload_n (q := 22) dX7_add_21 rfl rfl ?_
      refine tt_getR (q := 25) dX7_add_22 fl_X7_9 or_83_1 (Nat.le_of_ble_eq_true rfl) rfl rfl ?_
      refine tt_iload_n (q := 26) dX7_add_25 rfl rfl ?_
      refine tt_aload_n (q := 27) dX7_add_26 rfl rfl ?_
      refine tt_getR (q := 30) dX7_add_27 fl_X7_9 or_83_1 (Nat.le_of_ble_eq_true rfl) rfl rfl ?_
      refine tt_iload_n (q := 31) dX7_add_30 rfl rfl ?_
      refine tt_iconst (q := 32) dX7_add_31 ki_1 rfl ?_
      obtain ⟨l11, h⟩ := h
      refine tt_isubN (q := 33) dX7_add_32 l11 rfl ?_
      obtain ⟨l12, h⟩ := h
      refine tt_iald (q := 34) dX7_add_33 ia_84 (Nat.le_of_ble_eq_true rfl) rfl l12 rfl ?_
      obtain ⟨l13, h⟩ := h
      refine tt_iast (q := 35) dX7_add_34 ia_84 (Nat.le_of_ble_eq_true rfl) rfl l13 rfl ?_
      replace h := h _ rfl
      refine inc_2 (q := 38) dX7_add_35 (nI_incIm1 _) rfl rfl ?_
      refine tt_goto (t := 5) dX7_add_38 rfl ?_
      exact h

theorem g_X9_takeRead_0 {post : SG → Int32 → Prop} {σ : SG} (h : (∃ j2 : Nat, (((nI 2) * (σ 7 0)) + (nI 1)) = nI j2 ∧ j2 < 12 ∧ (∃ j5 : Nat, ((nI 2) * (σ 7 0)) = nI j5 ∧ j5 < 12 ∧ (∃ j8 : Nat, (σ (8 + 1 + j5) 0) = nI j8 ∧ j8 < 6 ∧ (∀ s10 : SG, s10 = up σ (8 + 1 + j2) j8 (nI 0) → (∃ j12 : Nat, (((nI 2) * (σ 7 0)) + (nI 1)) = nI j12 ∧ j12 < 12 ∧ (∃ j15 : Nat, ((nI 2) * (σ 7 0)) = nI j15 ∧ j15 < 12 ∧ (∃ j18 : Nat, (s10 (8 + 1 + j15) 1) = nI j18 ∧ j18 < 6 ∧ (∀ s20 : SG, s20 = up s10 (8 + 1 + j12) j18 (nI 1) → (∃ j22 : Nat, (((nI 2) * (σ 7 0)) + (nI 1)) = nI j22 ∧ j22 < 12 ∧ (∃ j25 : Nat, ((nI 2) * (σ 7 0)) = nI j25 ∧ j25 < 12 ∧ (∃ j28 : Nat, (s20 (8 + 1 + j25) 2) = nI j28 ∧ j28 < 6 ∧ (∀ s30 : SG, s30 = up s20 (8 + 1 + j22) j28 (nI 2) → (∃ j32 : Nat, (((nI 2) * (σ 7 0)) + (nI 1)) = nI j32 ∧ j32 < 12 ∧ (∃ j35 : Nat, ((nI 2) * (σ 7 0)) = nI j35 ∧ j35 < 12 ∧ (∃ j38 : Nat, (s30 (8 + 1 + j35) 3) = nI j38 ∧ j38 < 6 ∧ (∀ s40 : SG, s40 = up s30 (8 + 1 + j32) j38 (nI 3) → (∃ j42 : Nat, (((nI 2) * (σ 7 0)) + (nI 1)) = nI j42 ∧ j42 < 12 ∧ (∃ j45 : Nat, ((nI 2) * (σ 7 0)) = nI j45 ∧ j45 < 12 ∧ (∃ j48 : Nat, (s40 (8 + 1 + j45) 4) = nI j48 ∧ j48 < 6 ∧ (∀ s50 : SG, s50 = up s40 (8 + 1 + j42) j48 (nI 4) → (∃ j52 : Nat, (((nI 2) * (σ 7 0)) + (nI 1)) = nI j52 ∧ j52 < 12 ∧ (∃ j55 : Nat, ((nI 2) * (σ 7 0)) = nI j55 ∧ j55 < 12 ∧ (∃ j58 : Nat, (s50 (8 + 1 + j55) 5) = nI j58 ∧ j58 < 6 ∧ (∀ s60 : SG, s60 = up s50 (8 + 1 + j52) j58 (nI 5) → T_X9_takeRead AF post 43 [.ref 7, .int ((nI 2) * (σ 7 0)), .int (((nI 2) * (σ 7 0)) + (nI 1)), .int (nI 0), dum] [] s60))))))))))))))))))))))))) : T_X9_takeRead AF post 0 [.ref 7, dum, dum, dum, dum] [] σ := by
  refine tt_iconst (q := 1) dX9_takeRead_0 ki_2 rfl ?_
  refine tt_aload_n (q := 2) dX9_takeRead_1 rfl rfl ?_
  refine tt_getI (q := 5) dX9_takeRead_2 fl_X9_33 oi_7_0 (Nat.le_of_ble_eq_true rfl) rfl ?_
  refine tt_imul (q := 6) dX9_takeRead_5 rfl ?_
  refine sti_n_1 (q := 7) dX9_takeRead_6 rfl rfl rfl ?_
  refine tt_iload_n (q := 8) dX9_takeRead_7 rfl rfl ?_
  refine tt_iconst (q := 9) dX9_takeRead_8 ki_1 rfl ?_
  refine tt_iadd (q := 10) dX9_takeRead_9 rfl ?_
  refine sti_n_2 (q := 11) dX9_takeRead_10 rfl rfl rfl ?_
  refine tt_iconst (q := 12) dX9_takeRead_11 ki_0 rfl ?_
  refine sti_n_3 (q := 13) dX9_takeRead_12 rfl rfl rfl ?_
  refine tt_iload_n (q := 14) dX9_takeRead_13 rfl rfl ?_
  refine tt_bipush (q := 16) dX9_takeRead_14 bi_6 rfl ?_
  refine tt_icmp_ge (q := 19) (t := 41) dX9_takeRead_16 rfl rfl (fun c => absurd c (by decide)) (fun c => ?_)
  clear c
  refine tt_aload_n (q := 20) dX9_takeRead_19 rfl rfl ?_
  refine tt_getR (q := 23) dX9_takeRead_20 fl_X9_11 or_7_1 (Nat.le_of_ble_eq_true rfl) rfl rfl ?_
  refine tt_iload_n (q := 24) dX9_takeRead_23 rfl rfl ?_
  obtain ⟨j2, e3, l1, h⟩ := h
  refine tt_aald (q := 25) dX9_takeRead_24 ig_8 (Nat.le_of_ble_eq_true rfl) e3 l1 rfl ?_
  refine tt_aload_n (q := 26) dX9_takeRead_25 rfl rfl ?_
  refine tt_getR (q := 29) dX9_takeRead_26 fl_X9_11 or_7_1 (Nat.le_of_ble_eq_true rfl) rfl rfl ?_
  refine tt_iload_n (q := 30) dX9_takeRead_29 rfl rfl ?_
  obtain ⟨j5, e6, l4, h⟩ := h
  refine tt_aald (q := 31) dX9_takeRead_30 ig_8 (Nat.le_of_ble_eq_true rfl) e6 l4 rfl ?_
  refine tt_iload_n (q := 32) dX9_takeRead_31 rfl rfl ?_
  refine tt_iald (q := 33) dX9_takeRead_32 (gi_8 _ l4) (gl_8 _ l4) rfl (Nat.le_of_ble_eq_true rfl : 0 < 6) rfl ?_
  refine tt_iload_n (q := 34) dX9_takeRead_33 rfl rfl ?_
  obtain ⟨j8, e9, l7, h⟩ := h
  refine tt_iast (q := 35) dX9_takeRead_34 (gi_8 _ l1) (gl_8 _ l1) e9 l7 rfl ?_
  replace h := h _ rfl
  refine inc_3 (v := nI 1) (q := 38) dX9_takeRead_35 (by decide) rfl rfl ?_
  refine tt_goto (t := 13) dX9_takeRead_38 rfl ?_
  refine tt_iload_n (q := 14) dX9_takeRead_13 rfl rfl ?_
  refine tt_bipush (q := 16) dX9_takeRead_14 bi_6 rfl ?_
  refine tt_icmp_ge (q := 19) (t := 41) dX9_takeRead_16 rfl rfl (fun c => absurd c (by decide)) (fun c => ?_)
  clear c
  refine tt_aload_n (q := 20) dX9_takeRead_19 rfl rfl ?_
  refine tt_getR (q := 23) dX9_takeRead_20 fl_X9_11 or_7_1 (Nat.le_of_ble_eq_true rfl) rfl rfl ?_
  refine tt_iload_n (q := 24) dX9_takeRead_23 rfl rfl ?_
  obtain ⟨j12, e13, l11, h⟩ := h
  refine tt_aald (q := 25) dX9_takeRead_24 ig_8 (Nat.le_of_ble_eq_true rfl) e13 l11 rfl ?_
  refine tt_aload_n (q := 26) dX9_takeRead_25 rfl rfl ?_
  refine tt_getR (q := 29) dX9_takeRead_26 fl_X9_11 or_7_1 (Nat.le_of_ble_eq_true rfl) rfl rfl ?_
  refine tt_iload_n (q := 30) dX9_takeRead_29 rfl rfl ?_
  obtain ⟨j15, e16, l14, h⟩ := h
  refine tt_aald (q := 31) dX9_takeRead_30 ig_8 (Nat.le_of_ble_eq_true rfl) e16 l14 rfl ?_
  refine tt_iload_n (q := 32) dX9_takeRead_31 rfl rfl ?_
  refine tt_iald (q := 33) dX9_takeRead_32 (gi_8 _ l14) (gl_8 _ l14) rfl (Nat.le_of_ble_eq_true rfl : 1 < 6) rfl ?_
  refine tt_iload_n (q := 34) dX9_takeRead_33 rfl rfl ?_
  obtain ⟨j18, e19, l17, h⟩ := h
  refine tt_iast (q := 35) dX9_takeRead_34 (gi_8 _ l11) (gl_8 _ l11) e19 l17 rfl ?_
  replace h := h _ rfl
  refine inc_3 (v := nI 2) (q := 38) dX9_takeRead_35 (by decide) rfl rfl ?_
  refine tt_goto (t := 13) dX9_takeRead_38 rfl ?_
  refine tt_iload_n (q := 14) dX9_takeRead_13 rfl rfl ?_
  refine tt_bipush (q := 16) dX9_takeRead_14 bi_6 rfl ?_
  refine tt_icmp_ge (q := 19) (t := 41) dX9_takeRead_16 rfl rfl (fun c => absurd c (by decide)) (fun c => ?_)
  clear c
  refine tt_aload_n (q := 20) dX9_takeRead_19 rfl rfl ?_
  refine tt_getR (q := 23) dX9_takeRead_20 fl_X9_11 or_7_1 (Nat.le_of_ble_eq_true rfl) rfl rfl ?_
  refine tt_iload_n (q := 24) dX9_takeRead_23 rfl rfl ?_
  obtain ⟨j22, e23, l21, h⟩ := h
  refine tt_aald (q := 25) dX9_takeRead_24 ig_8 (Nat.le_of_ble_eq_true rfl) e23 l21 rfl ?_
  refine tt_aload_n (q := 26) dX9_takeRead_25 rfl rfl ?_
  refine tt_getR (q := 29) dX9_takeRead_26 fl_X9_11 or_7_1 (Nat.le_of_ble_eq_true rfl) rfl rfl ?_
  refine tt_iload_n (q := 30) dX9_takeRead_29 rfl rfl ?_
  obtain ⟨j25, e26, l24, h⟩ := h
  refine tt_aald (q := 31) dX9_takeRead_30 ig_8 (Nat.le_of_ble_eq_true rfl) e26 l24 rfl ?_
  refine tt_iload_n (q := 32) dX9_takeRead_31 rfl rfl ?_
  refine tt_iald (q := 33) dX9_takeRead_32 (gi_8 _ l24) (gl_8 _ l24) rfl (Nat.le_of_ble_eq_true rfl : 2 < 6) rfl ?_
  refine tt_iload_n (q := 34) dX9_takeRead_33 rfl rfl ?_
  obtain ⟨j28, e29, l27, h⟩ := h
  refine tt_iast (q := 35) dX9_takeRead_34 (gi_8 _ l21) (gl_8 _ l21) e29 l27 rfl ?_
  replace h := h _ rfl
  refine inc_3 (v := nI 3) (q := 38) dX9_takeRead_35 (by decide) rfl rfl ?_
  refine tt_goto (t := 13) dX9_takeRead_38 rfl ?_
  refine tt_iload_n (q := 14) dX9_takeRead_13 rfl rfl ?_
  refine tt_bipush (q := 16) dX9_takeRead_14 bi_6 rfl ?_
  refine tt_icmp_ge (q := 19) (t := 41) dX9_takeRead_16 rfl rfl (fun c => absurd c (by decide)) (fun c => ?_)
  clear c
  refine tt_aload_n (q := 20) dX9_takeRead_19 rfl rfl ?_
  refine tt_getR (q := 23) dX9_takeRead_20 fl_X9_11 or_7_1 (Nat.le_of_ble_eq_true rfl) rfl rfl ?_
  refine tt_iload_n (q := 24) dX9_takeRead_23 rfl rfl ?_
  obtain ⟨j32, e33, l31, h⟩ := h
  refine tt_aald (q := 25) dX9_takeRead_24 ig_8 (Nat.le_of_ble_eq_true rfl) e33 l31 rfl ?_
  refine tt_aload_n (q := 26) dX9_takeRead_25 rfl rfl ?_
  refine tt_getR (q := 29) dX9_takeRead_26 fl_X9_11 or_7_1 (Nat.le_of_ble_eq_true rfl) rfl rfl ?_
  refine tt_iload_n (q := 30) dX9_takeRead_29 rfl rfl ?_
  obtain ⟨j35, e36, l34, h⟩ := h
  refine tt_aald (q := 31) dX9_takeRead_30 ig_8 (Nat.le_of_ble_eq_true rfl) e36 l34 rfl ?_
  refine tt_iload_n (q := 32) dX9_takeRead_31 rfl rfl ?_
  refine tt_iald (q := 33) dX9_takeRead_32 (gi_8 _ l34) (gl_8 _ l34) rfl (Nat.le_of_ble_eq_true rfl : 3 < 6) rfl ?_
  refine tt_iload_n (q := 34) dX9_takeRead_33 rfl rfl ?_
  obtain ⟨j38, e39, l37, h⟩ := h
  refine tt_iast (q := 35) dX9_takeRead_34 (gi_8 _ l31) (gl_8 _ l31) e39 l37 rfl ?_
  replace h := h _ rfl
  refine inc_3 (v := nI 4) (q := 38) dX9_takeRead_35 (by decide) rfl rfl ?_
  refine tt_goto (t := 13) dX9_takeRead_38 rfl ?_
  refine tt_iload_n (q := 14) dX9_takeRead_13 rfl rfl ?_
  refine tt_bipush (q := 16) dX9_takeRead_14 bi_6 rfl ?_
  refine tt_icmp_ge (q := 19) (t := 41) dX9_takeRead_16 rfl rfl (fun c => absurd c (by decide)) (fun c => ?_)
  clear c
  refine tt_aload_n (q := 20) dX9_takeRead_19 rfl rfl ?_
  refine tt_getR (q := 23) dX9_takeRead_20 fl_X9_11 or_7_1 (Nat.le_of_ble_eq_true rfl) rfl rfl ?_
  refine tt_iload_n (q := 24) dX9_takeRead_23 rfl rfl ?_
  obtain ⟨j42, e43, l41, h⟩ := h
  refine tt_aald (q := 25) dX9_takeRead_24 ig_8 (Nat.le_of_ble_eq_true rfl) e43 l41 rfl ?_
  refine tt_aload_n (q := 26) dX9_takeRead_25 rfl rfl ?_
  refine tt_getR (q := 29) dX9_takeRead_26 fl_X9_11 or_7_1 (Nat.le_of_ble_eq_true rfl) rfl rfl ?_
  refine tt_iload_n (q := 30) dX9_takeRead_29 rfl rfl ?_
  obtain ⟨j45, e46, l44, h⟩ := h
  refine tt_aald (q := 31) dX9_takeRead_30 ig_8 (Nat.le_of_ble_eq_true rfl) e46 l44 rfl ?_
  refine tt_iload_n (q := 32) dX9_takeRead_31 rfl rfl ?_
  refine tt_iald (q := 33) dX9_takeRead_32 (gi_8 _ l44) (gl_8 _ l44) rfl (Nat.le_of_ble_eq_true rfl : 4 < 6) rfl ?_
  refine tt_iload_n (q := 34) dX9_takeRead_33 rfl rfl ?_
  obtain ⟨j48, e49, l47, h⟩ := h
  refine tt_iast (q := 35) dX9_takeRead_34 (gi_8 _ l41) (gl_8 _ l41) e49 l47 rfl ?_
  replace h := h _ rfl
  refine inc_3 (v := nI 5) (q := 38) dX9_takeRead_35 (by decide) rfl rfl ?_
  refine tt_goto (t := 13) dX9_takeRead_38 rfl ?_
  refine tt_iload_n (q := 14) dX9_takeRead_13 rfl rfl ?_
  refine tt_bipush (q := 16) dX9_takeRead_14 bi_6 rfl ?_
  refine tt_icmp_ge (q := 19) (t := 41) dX9_takeRead_16 rfl rfl (fun c => absurd c (by decide)) (fun c => ?_)
  clear c
  refine tt_aload_n (q := 20) dX9_takeRead_19 rfl rfl ?_
  refine tt_getR (q := 23) dX9_takeRead_20 fl_X9_11 or_7_1 (Nat.le_of_ble_eq_true rfl) rfl rfl ?_
  refine tt_iload_n (q := 24) dX9_takeRead_23 rfl rfl ?_
  obtain ⟨j52, e53, l51, h⟩ := h
  refine tt_aald (q := 25) dX9_takeRead_24 ig_8 (Nat.le_of_ble_eq_true rfl) e53 l51 rfl ?_
  refine tt_aload_n (q := 26) dX9_takeRead_25 rfl rfl ?_
  refine tt_getR (q := 29) dX9_takeRead_26 fl_X9_11 or_7_1 (Nat.le_of_ble_eq_true rfl) rfl rfl ?_
  refine tt_iload_n (q := 30) dX9_takeRead_29 rfl rfl ?_
  obtain ⟨j55, e56, l54, h⟩ := h
  refine tt_aald (q := 31) dX9_takeRead_30 ig_8 (Nat.le_of_ble_eq_true rfl) e56 l54 rfl ?_
  refine tt_iload_n (q := 32) dX9_takeRead_31 rfl rfl ?_
  refine tt_iald (q := 33) dX9_takeRead_32 (gi_8 _ l54) (gl_8 _ l54) rfl (Nat.le_of_ble_eq_true rfl : 5 < 6) rfl ?_
  refine tt_iload_n (q := 34) dX9_takeRead_33 rfl rfl ?_
  obtain ⟨j58, e59, l57, h⟩ := h
  refine tt_iast (q := 35) dX9_takeRead_34 (gi_8 _ l51) (gl_8 _ l51) e59 l57 rfl ?_
  replace h := h _ rfl
  refine inc_3 (v := nI 6) (q := 38) dX9_takeRead_35 (by decide) rfl rfl ?_
  refine tt_goto (t := 13) dX9_takeRead_38 rfl ?_
  refine tt_iload_n (q := 14) dX9_takeRead_13 rfl rfl ?_
  refine tt_bipush (q := 16) dX9_takeRead_14 bi_6 rfl ?_
  refine tt_icmp_ge (q := 19) (t := 41) dX9_takeRead_16 rfl rfl (fun c => ?_) (fun c => absurd c (by decide))
  clear c
  refine tt_iconst (q := 42) dX9_takeRead_41 ki_0 rfl ?_
  refine sti_n_3 (q := 43) dX9_takeRead_42 rfl rfl rfl ?_
  exact h
theorem g_X9_takeRead_43 {post : SG → Int32 → Prop} {σ : SG} {f : Nat} {bk : Nat} {o : Nat} (h : (o < 2 ^ 31 ∧ ((720 ≤ o → (∀ s3 : SG, s3 = up σ 7 0 ((σ 7 0) + (nI 1)) → (∃ p6 : SG → Int32 → Prop, IN_X9_measure AF s3 [.ref 7] p6 ∧ ∀ t5 : SG, p6 t5 0 → post t5 0))) ∧ (o < 720 → (f < 12 ∧ (∃ p12 : SG → Int32 → Prop, IN_X4_moved AF σ [.ref 3, .int (nI o), .ref (8 + 1 + f)] p12 ∧ ∀ (t11 : SG) (r10 : Int32), p12 t11 r10 → (f < 12 ∧ (o < 720 ∧ (∀ s17 : SG, s17 = up t11 (21 + 1 + f) o r10 → (bk < 12 ∧ (∃ j20 : Nat, r10 = nI j20 ∧ j20 < 720 ∧ (∀ s22 : SG, s22 = up s17 (21 + 1 + bk) j20 (nI o) → T_X9_takeRead AF post 43 [.ref 7, .int (nI f), .int (nI bk), .int (nI (o + 1)), dum] [] s22)))))))))))) : T_X9_takeRead AF post 43 [.ref 7, .int (nI f), .int (nI bk), .int (nI o), dum] [] σ := by
  refine tt_iload_n (q := 44) dX9_takeRead_43 rfl rfl ?_
  refine tt_sipush (q := 47) dX9_takeRead_44 si_720 rfl ?_
  obtain ⟨l2, h⟩ := h
  refine tt_icmp_ge (q := 50) (t := 92) dX9_takeRead_47 rfl rfl (fun c => ?_) (fun c => ?_)
  · replace h := h.1 ((nI_leI (by decide) l2).1 c)
    refine tt_aload_n (q := 93) dX9_takeRead_92 rfl rfl ?_
    refine tt_dup (q := 94) dX9_takeRead_93 rfl rfl ?_
    refine tt_getI (q := 97) dX9_takeRead_94 fl_X9_33 oi_7_0 (Nat.le_of_ble_eq_true rfl) rfl ?_
    refine tt_iconst (q := 98) dX9_takeRead_97 ki_1 rfl ?_
    refine tt_iadd (q := 99) dX9_takeRead_98 rfl ?_
    refine tt_putI (q := 102) dX9_takeRead_99 fl_X9_33 oi_7_0 (fp_9_0 _) (Nat.le_of_ble_eq_true rfl) rfl ?_
    replace h := h _ rfl
    refine tt_aload_n (q := 103) dX9_takeRead_102 rfl rfl ?_
    obtain ⟨p6, hp7, h⟩ := h
    refine callVv_0 (q := 106) dX9_takeRead_103 (Or.inr (⟨rfl, rfl, hp7⟩)) (Nat.le_of_ble_eq_true rfl) rfl (fun t5 hr8 => ?_)
    replace h := h t5 hr8
    exact tt_vret dX9_takeRead_106 ⟨rfl, rfl, h⟩
  · replace h := h.2 (Nat.lt_of_not_le (fun z => c ((nI_leI (by decide) l2).2 z)))
    refine tt_aload_n (q := 51) dX9_takeRead_50 rfl rfl ?_
    refine tt_getR (q := 54) dX9_takeRead_51 fl_X9_26 or_7_5 (Nat.le_of_ble_eq_true rfl) rfl rfl ?_
    refine tt_iload_n (q := 55) dX9_takeRead_54 rfl rfl ?_
    refine tt_aload_n (q := 56) dX9_takeRead_55 rfl rfl ?_
    refine tt_getR (q := 59) dX9_takeRead_56 fl_X9_11 or_7_1 (Nat.le_of_ble_eq_true rfl) rfl rfl ?_
    refine tt_iload_n (q := 60) dX9_takeRead_59 rfl rfl ?_
    obtain ⟨l9, h⟩ := h
    refine tt_aald (q := 61) dX9_takeRead_60 ig_8 (Nat.le_of_ble_eq_true rfl) rfl l9 rfl ?_
    obtain ⟨p12, hp13, h⟩ := h
    refine callVi_2 (q := 64) dX9_takeRead_61 (Or.inl ⟨rfl, rfl, hp13⟩) (Nat.le_of_ble_eq_true rfl) rfl (fun t11 r10 hr14 => ?_)
    replace h := h t11 r10 hr14
    refine sti_4 (q := 66) dX9_takeRead_64 rfl rfl ?_
    refine tt_aload_n (q := 67) dX9_takeRead_66 rfl rfl ?_
    refine tt_getR (q := 70) dX9_takeRead_67 fl_X9_16 or_7_2 (Nat.le_of_ble_eq_true rfl) rfl rfl ?_
    refine tt_iload_n (q := 71) dX9_takeRead_70 rfl rfl ?_
    obtain ⟨l15, h⟩ := h
    refine tt_aald (q := 72) dX9_takeRead_71 ig_21 (Nat.le_of_ble_eq_true rfl) rfl l15 rfl ?_
    refine tt_iload_n (q := 73) dX9_takeRead_72 rfl rfl ?_
    refine tt_iload (q := 75) dX9_takeRead_73 rfl rfl ?_
    obtain ⟨l16, h⟩ := h
    refine tt_iast (q := 76) dX9_takeRead_75 (gi_21 _ l15) (gl_21 _ l15) rfl l16 rfl ?_
    replace h := h _ rfl
    refine tt_aload_n (q := 77) dX9_takeRead_76 rfl rfl ?_
    refine tt_getR (q := 80) dX9_takeRead_77 fl_X9_16 or_7_2 (Nat.le_of_ble_eq_true rfl) rfl rfl ?_
    refine tt_iload_n (q := 81) dX9_takeRead_80 rfl rfl ?_
    obtain ⟨l18, h⟩ := h
    refine tt_aald (q := 82) dX9_takeRead_81 ig_21 (Nat.le_of_ble_eq_true rfl) rfl l18 rfl ?_
    refine tt_iload (q := 84) dX9_takeRead_82 rfl rfl ?_
    refine tt_iload_n (q := 85) dX9_takeRead_84 rfl rfl ?_
    obtain ⟨j20, e21, l19, h⟩ := h
    refine tt_iast (q := 86) dX9_takeRead_85 (gi_21 _ l18) (gl_21 _ l18) e21 l19 rfl ?_
    replace h := h _ rfl
    refine inc_3 (q := 89) dX9_takeRead_86 (nI_inc1 _) rfl rfl ?_
    refine tt_goto (t := 43) dX9_takeRead_89 rfl ?_
    refine tt_wk (L2 := [_, _, _, _, dum]) ⟨Or.inl rfl, Or.inl rfl, Or.inl rfl, Or.inl rfl, Or.inr rfl, trivial⟩ ?_
    exact h

theorem g_X9_firstTowardsSolved_0 {post : SG → Int32 → Prop} {σ : SG} {o : Nat} (h : T_X9_firstTowardsSolved AF post 2 [.ref 7, .int (nI o), .int (nI 0)] [] σ) : T_X9_firstTowardsSolved AF post 0 [.ref 7, .int (nI o), dum] [] σ := by
  refine tt_iconst (q := 1) dX9_firstTowardsSolved_0 ki_0 rfl ?_
  refine sti_n_2 (q := 2) dX9_firstTowardsSolved_1 rfl rfl rfl ?_
  exact h
theorem g_X9_firstTowardsSolved_2 {post : SG → Int32 → Prop} {σ : SG} {o : Nat} {m : Nat} (h : ((((nI 2) * (σ 7 0)) ≤ (nI m) → post σ (-9 : Int32)) ∧ (¬ ((nI 2) * (σ 7 0)) ≤ (nI m) → (o < 720 ∧ (((σ 34 o) ≤ 0 → post σ (-9 : Int32)) ∧ (¬ (σ 34 o) ≤ 0 → (m < 12 ∧ (o < 720 ∧ (∃ j7 : Nat, (σ (21 + 1 + m) o) = nI j7 ∧ j7 < 720 ∧ (o < 720 ∧ ((¬ (σ 34 j7) = ((σ 34 o) - (nI 1)) → T_X9_firstTowardsSolved AF post 2 [.ref 7, .int (nI o), .int (nI (m + 1))] [] σ) ∧ ((σ 34 j7) = ((σ 34 o) - (nI 1)) → post σ (nI m))))))))))))) : T_X9_firstTowardsSolved AF post 2 [.ref 7, .int (nI o), .int (nI m)] [] σ := by
  refine tt_iload_n (q := 3) dX9_firstTowardsSolved_2 rfl rfl ?_
  refine tt_iconst (q := 4) dX9_firstTowardsSolved_3 ki_2 rfl ?_
  refine tt_aload_n (q := 5) dX9_firstTowardsSolved_4 rfl rfl ?_
  refine tt_getI (q := 8) dX9_firstTowardsSolved_5 fl_X9_33 oi_7_0 (Nat.le_of_ble_eq_true rfl) rfl ?_
  refine tt_imul (q := 9) dX9_firstTowardsSolved_8 rfl ?_
  refine tt_icmp_ge (q := 12) (t := 53) dX9_firstTowardsSolved_9 rfl rfl (fun c => ?_) (fun c => ?_)
  · replace h := h.1 c
    refine tt_bipush (q := 55) dX9_firstTowardsSolved_53 bi_m9 rfl ?_
    exact tt_iret dX9_firstTowardsSolved_55 ⟨rfl, _, rfl, h⟩
  · replace h := h.2 c
    refine tt_aload_n (q := 13) dX9_firstTowardsSolved_12 rfl rfl ?_
    refine tt_getR (q := 16) dX9_firstTowardsSolved_13 fl_X9_19 or_7_3 (Nat.le_of_ble_eq_true rfl) rfl rfl ?_
    refine tt_iload_n (q := 17) dX9_firstTowardsSolved_16 rfl rfl ?_
    obtain ⟨l2, h⟩ := h
    refine tt_iald (q := 18) dX9_firstTowardsSolved_17 ia_34 (Nat.le_of_ble_eq_true rfl) rfl l2 rfl ?_
    refine tt_if_le (q := 21) (t := 53) dX9_firstTowardsSolved_18 rfl rfl (fun c => ?_) (fun c => ?_)
    · replace h := h.1 c
      refine tt_bipush (q := 55) dX9_firstTowardsSolved_53 bi_m9 rfl ?_
      exact tt_iret dX9_firstTowardsSolved_55 ⟨rfl, _, rfl, h⟩
    · replace h := h.2 c
      refine tt_aload_n (q := 22) dX9_firstTowardsSolved_21 rfl rfl ?_
      refine tt_getR (q := 25) dX9_firstTowardsSolved_22 fl_X9_19 or_7_3 (Nat.le_of_ble_eq_true rfl) rfl rfl ?_
      refine tt_aload_n (q := 26) dX9_firstTowardsSolved_25 rfl rfl ?_
      refine tt_getR (q := 29) dX9_firstTowardsSolved_26 fl_X9_16 or_7_2 (Nat.le_of_ble_eq_true rfl) rfl rfl ?_
      refine tt_iload_n (q := 30) dX9_firstTowardsSolved_29 rfl rfl ?_
      obtain ⟨l4, h⟩ := h
      refine tt_aald (q := 31) dX9_firstTowardsSolved_30 ig_21 (Nat.le_of_ble_eq_true rfl) rfl l4 rfl ?_
      refine tt_iload_n (q := 32) dX9_firstTowardsSolved_31 rfl rfl ?_
      obtain ⟨l5, h⟩ := h
      refine tt_iald (q := 33) dX9_firstTowardsSolved_32 (gi_21 _ l4) (gl_21 _ l4) rfl l5 rfl ?_
      obtain ⟨j7, e8, l6, h⟩ := h
      refine tt_iald (q := 34) dX9_firstTowardsSolved_33 ia_34 (Nat.le_of_ble_eq_true rfl) e8 l6 rfl ?_
      refine tt_aload_n (q := 35) dX9_firstTowardsSolved_34 rfl rfl ?_
      refine tt_getR (q := 38) dX9_firstTowardsSolved_35 fl_X9_19 or_7_3 (Nat.le_of_ble_eq_true rfl) rfl rfl ?_
      refine tt_iload_n (q := 39) dX9_firstTowardsSolved_38 rfl rfl ?_
      obtain ⟨l9, h⟩ := h
      refine tt_iald (q := 40) dX9_firstTowardsSolved_39 ia_34 (Nat.le_of_ble_eq_true rfl) rfl l9 rfl ?_
      refine tt_iconst (q := 41) dX9_firstTowardsSolved_40 ki_1 rfl ?_
      refine tt_isub (q := 42) dX9_firstTowardsSolved_41 rfl ?_
      refine tt_icmp_ne (q := 45) (t := 47) dX9_firstTowardsSolved_42 rfl rfl (fun c => ?_) (fun c => ?_)
      · replace h := h.1 c
        refine inc_2 (q := 50) dX9_firstTowardsSolved_47 (nI_inc1 _) rfl rfl ?_
        refine tt_goto (t := 2) dX9_firstTowardsSolved_50 rfl ?_
        exact h
      · replace h := h.2 c
        refine tt_iload_n (q := 46) dX9_firstTowardsSolved_45 rfl rfl ?_
        exact tt_iret dX9_firstTowardsSolved_46 ⟨rfl, _, rfl, h⟩

theorem g_X10_tryFrom_0 {post : SG → Int32 → Prop} {σ : SG} {f : Nat} (h : (∀ s3 : SG, s3 = up σ 81 1 (-9 : Int32) → (∀ s4 : SG, s4 = up s3 82 0 (-9 : Int32) → (∀ s5 : SG, s5 = up s4 82 1 (-9 : Int32) → (∀ s6 : SG, s6 = up s5 82 2 (-9 : Int32) → (∀ s7 : SG, s7 = up s6 82 3 (-9 : Int32) → T_X10_tryFrom AF post 12 [.ref 77, .int (nI f), .ref 81, .int (nI f), .int (nI 0), .int (nI 0), dum] [] s7)))))) : T_X10_tryFrom AF post 0 [.ref 77, .int (nI f), .ref 81, dum, dum, dum, dum] [] σ := by
  refine tt_aload_n (q := 1) dX10_tryFrom_0 rfl rfl ?_
  refine callVvI_0 (q := 4) dX10_tryFrom_1 (Or.inl ⟨rfl, rfl, ⟨⟨_, _, rfl, rfl, (Nat.le_of_ble_eq_true rfl), rc_81⟩, Nat.le_of_ble_eq_true rfl, ?_⟩⟩) (Nat.le_of_ble_eq_true rfl) rfl (fun t2 ht2 => ht2)
  refine (show TT cX8_begin RX8 false CT0 CN0 _ _ _ none 0 [_, dum] [] _ _ from ?_)
  refine tt_aload_n (q := 1) dX8_begin_0 rfl rfl ?_
  refine tt_bipush (q := 3) dX8_begin_1 bi_m9 rfl ?_
  refine tt_putI (q := 6) dX8_begin_3 fl_X8_15 oi_81_1 (fp_8_1 _) (Nat.le_of_ble_eq_true rfl) rfl ?_
  replace h := h _ rfl
  refine tt_iconst (q := 7) dX8_begin_6 ki_0 rfl ?_
  refine sti_n_1 (q := 8) dX8_begin_7 rfl rfl rfl ?_
  refine tt_iload_n (q := 9) dX8_begin_8 rfl rfl ?_
  refine tt_iconst (q := 10) dX8_begin_9 ki_4 rfl ?_
  refine tt_icmp_ge (q := 13) (t := 27) dX8_begin_10 rfl rfl (fun c => absurd c (by decide)) (fun c => ?_)
  clear c
  refine tt_aload_n (q := 14) dX8_begin_13 rfl rfl ?_
  refine tt_getR (q := 17) dX8_begin_14 fl_X8_9 or_81_0 (Nat.le_of_ble_eq_true rfl) rfl rfl ?_
  refine tt_iload_n (q := 18) dX8_begin_17 rfl rfl ?_
  refine tt_bipush (q := 20) dX8_begin_18 bi_m9 rfl ?_
  refine tt_iast (q := 21) dX8_begin_20 ia_82 (Nat.le_of_ble_eq_true rfl) rfl (Nat.le_of_ble_eq_true rfl : 0 < 4) rfl ?_
  replace h := h _ rfl
  refine inc_1 (v := nI 1) (q := 24) dX8_begin_21 (by decide) rfl rfl ?_
  refine tt_goto (t := 8) dX8_begin_24 rfl ?_
  refine tt_iload_n (q := 9) dX8_begin_8 rfl rfl ?_
  refine tt_iconst (q := 10) dX8_begin_9 ki_4 rfl ?_
  refine tt_icmp_ge (q := 13) (t := 27) dX8_begin_10 rfl rfl (fun c => absurd c (by decide)) (fun c => ?_)
  clear c
  refine tt_aload_n (q := 14) dX8_begin_13 rfl rfl ?_
  refine tt_getR (q := 17) dX8_begin_14 fl_X8_9 or_81_0 (Nat.le_of_ble_eq_true rfl) rfl rfl ?_
  refine tt_iload_n (q := 18) dX8_begin_17 rfl rfl ?_
  refine tt_bipush (q := 20) dX8_begin_18 bi_m9 rfl ?_
  refine tt_iast (q := 21) dX8_begin_20 ia_82 (Nat.le_of_ble_eq_true rfl) rfl (Nat.le_of_ble_eq_true rfl : 1 < 4) rfl ?_
  replace h := h _ rfl
  refine inc_1 (v := nI 2) (q := 24) dX8_begin_21 (by decide) rfl rfl ?_
  refine tt_goto (t := 8) dX8_begin_24 rfl ?_
  refine tt_iload_n (q := 9) dX8_begin_8 rfl rfl ?_
  refine tt_iconst (q := 10) dX8_begin_9 ki_4 rfl ?_
  refine tt_icmp_ge (q := 13) (t := 27) dX8_begin_10 rfl rfl (fun c => absurd c (by decide)) (fun c => ?_)
  clear c
  refine tt_aload_n (q := 14) dX8_begin_13 rfl rfl ?_
  refine tt_getR (q := 17) dX8_begin_14 fl_X8_9 or_81_0 (Nat.le_of_ble_eq_true rfl) rfl rfl ?_
  refine tt_iload_n (q := 18) dX8_begin_17 rfl rfl ?_
  refine tt_bipush (q := 20) dX8_begin_18 bi_m9 rfl ?_
  refine tt_iast (q := 21) dX8_begin_20 ia_82 (Nat.le_of_ble_eq_true rfl) rfl (Nat.le_of_ble_eq_true rfl : 2 < 4) rfl ?_
  replace h := h _ rfl
  refine inc_1 (v := nI 3) (q := 24) dX8_begin_21 (by decide) rfl rfl ?_
  refine tt_goto (t := 8) dX8_begin_24 rfl ?_
  refine tt_iload_n (q := 9) dX8_begin_8 rfl rfl ?_
  refine tt_iconst (q := 10) dX8_begin_9 ki_4 rfl ?_
  refine tt_icmp_ge (q := 13) (t := 27) dX8_begin_10 rfl rfl (fun c => absurd c (by decide)) (fun c => ?_)
  clear c
  refine tt_aload_n (q := 14) dX8_begin_13 rfl rfl ?_
  refine tt_getR (q := 17) dX8_begin_14 fl_X8_9 or_81_0 (Nat.le_of_ble_eq_true rfl) rfl rfl ?_
  refine tt_iload_n (q := 18) dX8_begin_17 rfl rfl ?_
  refine tt_bipush (q := 20) dX8_begin_18 bi_m9 rfl ?_
  refine tt_iast (q := 21) dX8_begin_20 ia_82 (Nat.le_of_ble_eq_true rfl) rfl (Nat.le_of_ble_eq_true rfl : 3 < 4) rfl ?_
  replace h := h _ rfl
  refine inc_1 (v := nI 4) (q := 24) dX8_begin_21 (by decide) rfl rfl ?_
  refine tt_goto (t := 8) dX8_begin_24 rfl ?_
  refine tt_iload_n (q := 9) dX8_begin_8 rfl rfl ?_
  refine tt_iconst (q := 10) dX8_begin_9 ki_4 rfl ?_
  refine tt_icmp_ge (q := 13) (t := 27) dX8_begin_10 rfl rfl (fun c => ?_) (fun c => absurd c (by decide))
  clear c
  refine tt_vret dX8_begin_27 ⟨rfl, rfl, ?_⟩
  refine tt_iload_n (q := 5) dX10_tryFrom_4 rfl rfl ?_
  refine sti_n_3 (q := 6) dX10_tryFrom_5 rfl rfl rfl ?_
  refine tt_iconst (q := 7) dX10_tryFrom_6 ki_0 rfl ?_
  refine sti_4 (q := 9) dX10_tryFrom_7 rfl rfl ?_
  refine tt_iconst (q := 10) dX10_tryFrom_9 ki_0 rfl ?_
  refine sti_5 (q := 12) dX10_tryFrom_10 rfl rfl ?_
  exact h
theorem g_X10_tryFrom_12 {post : SG → Int32 → Prop} {σ : SG} {f : Nat} {o : Nat} {due : Int32} {k : Nat} (h : (((σ 77 0) ≤ (nI k) → (∀ s2 : SG, s2 = up σ 81 2 (nI o) → post s2 0)) ∧ (¬ (σ 77 0) ≤ (nI k) → ((¬ (σ 81 1) = (-9 : Int32) → (∀ s4 : SG, s4 = up σ 81 2 (nI o) → post s4 0)) ∧ ((σ 81 1) = (-9 : Int32) → (k < 4 ∧ (o < 720 ∧ ((((σ 5 o) &&& (due ||| (σ 78 k))) = (due ||| (σ 78 k)) → T_X10_tryFrom AF post 12 [.ref 77, .int (nI f), .ref 81, .int (nI o), .int (due ||| (σ 78 k)), .int (nI (k + 1)), dum] [] σ) ∧ (¬ ((σ 5 o) &&& (due ||| (σ 78 k))) = (due ||| (σ 78 k)) → (k < 4 ∧ (∃ p11 : SG → Int32 → Prop, IN_X10_leastRow AF σ [.ref 77, .int (σ 79 k), .int (nI o), .int (due ||| (σ 78 k))] p11 ∧ ∀ (t10 : SG) (r9 : Int32), p11 t10 r9 → ((¬ r9 = (-9 : Int32) → (k < 4 ∧ (∀ s16 : SG, s16 = up t10 82 k r9 → (∃ j18 : Nat, r9 = nI j18 ∧ j18 < 10 ∧ (o < 720 ∧ T_X10_tryFrom AF post 12 [.ref 77, .int (nI f), .ref 81, .int (s16 (49 + 1 + j18) o), .int (due ||| (σ 78 k)), .int (nI (k + 1)), dum] [] s16))))) ∧ (r9 = (-9 : Int32) → (∀ s21 : SG, s21 = up t10 81 1 (nI k) → T_X10_tryFrom AF post 12 [.ref 77, .int (nI f), .ref 81, .int (nI o), .int (due ||| (σ 78 k)), .int (nI (k + 1)), dum] [] s21)))))))))))))) : T_X10_tryFrom AF post 12 [.ref 77, .int (nI f), .ref 81, .int (nI o), .int due, .int (nI k), dum] [] σ := by
  refine tt_iload (q := 14) dX10_tryFrom_12 rfl rfl ?_
  refine tt_aload_n (q := 15) dX10_tryFrom_14 rfl rfl ?_
  refine tt_getI (q := 18) dX10_tryFrom_15 fl_X10_33 oi_77_0 (Nat.le_of_ble_eq_true rfl) rfl ?_
  refine tt_icmp_ge (q := 21) (t := 119) dX10_tryFrom_18 rfl rfl (fun c => ?_) (fun c => ?_)
  · replace h := h.1 c
    refine tt_aload_n (q := 120) dX10_tryFrom_119 rfl rfl ?_
    refine tt_iload_n (q := 121) dX10_tryFrom_120 rfl rfl ?_
    refine tt_putI (q := 124) dX10_tryFrom_121 fl_X10_63 oi_81_2 (fp_8_2 _) (Nat.le_of_ble_eq_true rfl) rfl ?_
    replace h := h _ rfl
    exact tt_vret dX10_tryFrom_124 ⟨rfl, rfl, h⟩
  · replace h := h.2 c
    refine tt_aload_n (q := 22) dX10_tryFrom_21 rfl rfl ?_
    refine tt_getI (q := 25) dX10_tryFrom_22 fl_X10_42 oi_81_1 (Nat.le_of_ble_eq_true rfl) rfl ?_
    refine tt_bipush (q := 27) dX10_tryFrom_25 bi_m9 rfl ?_
    refine tt_icmp_ne (q := 30) (t := 119) dX10_tryFrom_27 rfl rfl (fun c => ?_) (fun c => ?_)
    · replace h := h.1 c
      refine tt_aload_n (q := 120) dX10_tryFrom_119 rfl rfl ?_
      refine tt_iload_n (q := 121) dX10_tryFrom_120 rfl rfl ?_
      refine tt_putI (q := 124) dX10_tryFrom_121 fl_X10_63 oi_81_2 (fp_8_2 _) (Nat.le_of_ble_eq_true rfl) rfl ?_
      replace h := h _ rfl
      exact tt_vret dX10_tryFrom_124 ⟨rfl, rfl, h⟩
    · replace h := h.2 c
      refine tt_iload (q := 32) dX10_tryFrom_30 rfl rfl ?_
      refine tt_aload_n (q := 33) dX10_tryFrom_32 rfl rfl ?_
      refine tt_getR (q := 36) dX10_tryFrom_33 fl_X10_9 or_77_1 (Nat.le_of_ble_eq_true rfl) rfl rfl ?_
      refine tt_iload (q := 38) dX10_tryFrom_36 rfl rfl ?_
      obtain ⟨l5, h⟩ := h
      refine tt_iald (q := 39) dX10_tryFrom_38 ia_78 (Nat.le_of_ble_eq_true rfl) rfl l5 rfl ?_
      refine tt_ior (q := 40) dX10_tryFrom_39 rfl ?_
      refine sti_4 (q := 42) dX10_tryFrom_40 rfl rfl ?_
      refine tt_aload_n (q := 43) dX10_tryFrom_42 rfl rfl ?_
      refine tt_getR (q := 46) dX10_tryFrom_43 fl_X10_21 or_77_4 (Nat.le_of_ble_eq_true rfl) rfl rfl ?_
      refine tt_getR (q := 49) dX10_tryFrom_46 fl_X10_45 or_3_1 (Nat.le_of_ble_eq_true rfl) rfl rfl ?_
      refine tt_iload_n (q := 50) dX10_tryFrom_49 rfl rfl ?_
      obtain ⟨l6, h⟩ := h
      refine tt_iald (q := 51) dX10_tryFrom_50 ia_5 (Nat.le_of_ble_eq_true rfl) rfl l6 rfl ?_
      refine tt_iload (q := 53) dX10_tryFrom_51 rfl rfl ?_
      refine tt_iand (q := 54) dX10_tryFrom_53 rfl ?_
      refine tt_iload (q := 56) dX10_tryFrom_54 rfl rfl ?_
      refine tt_icmp_eq (q := 59) (t := 113) dX10_tryFrom_56 rfl rfl (fun c => ?_) (fun c => ?_)
      · replace h := h.1 c
        refine inc_5 (q := 116) dX10_tryFrom_113 (nI_inc1 _) rfl rfl ?_
        refine tt_goto (t := 12) dX10_tryFrom_116 rfl ?_
        exact h
      · replace h := h.2 c
        refine tt_aload_n (q := 60) dX10_tryFrom_59 rfl rfl ?_
        refine tt_aload_n (q := 61) dX10_tryFrom_60 rfl rfl ?_
        refine tt_getR (q := 64) dX10_tryFrom_61 fl_X10_15 or_77_2 (Nat.le_of_ble_eq_true rfl) rfl rfl ?_
        refine tt_iload (q := 66) dX10_tryFrom_64 rfl rfl ?_
        obtain ⟨l8, h⟩ := h
        refine tt_iald (q := 67) dX10_tryFrom_66 ia_79 (Nat.le_of_ble_eq_true rfl) rfl l8 rfl ?_
        refine tt_iload_n (q := 68) dX10_tryFrom_67 rfl rfl ?_
        refine tt_iload (q := 70) dX10_tryFrom_68 rfl rfl ?_
        obtain ⟨p11, hp12, h⟩ := h
        refine callVi_3 (q := 73) dX10_tryFrom_70 (Or.inr (⟨rfl, rfl, hp12⟩)) (Nat.le_of_ble_eq_true rfl) rfl (fun t10 r9 hr13 => ?_)
        replace h := h t10 r9 hr13
        refine sti_6 (q := 75) dX10_tryFrom_73 rfl rfl ?_
        refine tt_iload (q := 77) dX10_tryFrom_75 rfl rfl ?_
        refine tt_bipush (q := 79) dX10_tryFrom_77 bi_m9 rfl ?_
        refine tt_icmp_ne (q := 82) (t := 91) dX10_tryFrom_79 rfl rfl (fun c => ?_) (fun c => ?_)
        · replace h := h.1 c
          refine tt_aload_n (q := 92) dX10_tryFrom_91 rfl rfl ?_
          refine tt_getR (q := 95) dX10_tryFrom_92 fl_X10_54 or_81_0 (Nat.le_of_ble_eq_true rfl) rfl rfl ?_
          refine tt_iload (q := 97) dX10_tryFrom_95 rfl rfl ?_
          refine tt_iload (q := 99) dX10_tryFrom_97 rfl rfl ?_
          obtain ⟨l15, h⟩ := h
          refine tt_iast (q := 100) dX10_tryFrom_99 ia_82 (Nat.le_of_ble_eq_true rfl) rfl l15 rfl ?_
          replace h := h _ rfl
          refine tt_aload_n (q := 101) dX10_tryFrom_100 rfl rfl ?_
          refine tt_getR (q := 104) dX10_tryFrom_101 fl_X10_25 or_77_5 (Nat.le_of_ble_eq_true rfl) rfl rfl ?_
          refine tt_getR (q := 107) dX10_tryFrom_104 fl_X10_57 or_36_3 (Nat.le_of_ble_eq_true rfl) rfl rfl ?_
          refine tt_iload (q := 109) dX10_tryFrom_107 rfl rfl ?_
          obtain ⟨j18, e19, l17, h⟩ := h
          refine tt_aald (q := 110) dX10_tryFrom_109 ig_49 (Nat.le_of_ble_eq_true rfl) e19 l17 rfl ?_
          refine tt_iload_n (q := 111) dX10_tryFrom_110 rfl rfl ?_
          obtain ⟨l20, h⟩ := h
          refine tt_iald (q := 112) dX10_tryFrom_111 (gi_49 _ l17) (gl_49 _ l17) rfl l20 rfl ?_
          refine sti_n_3 (q := 113) dX10_tryFrom_112 rfl rfl rfl ?_
          refine inc_5 (q := 116) dX10_tryFrom_113 (nI_inc1 _) rfl rfl ?_
          refine tt_goto (t := 12) dX10_tryFrom_116 rfl ?_
          refine tt_wk (L2 := [_, _, _, _, _, _, dum]) ⟨Or.inl rfl, Or.inl rfl, Or.inl rfl, Or.inl rfl, Or.inl rfl, Or.inl rfl, Or.inr rfl, trivial⟩ ?_
          exact h
        · replace h := h.2 c
          refine tt_aload_n (q := 83) dX10_tryFrom_82 rfl rfl ?_
          refine tt_iload (q := 85) dX10_tryFrom_83 rfl rfl ?_
          refine tt_putI (q := 88) dX10_tryFrom_85 fl_X10_42 oi_81_1 (fp_8_1 _) (Nat.le_of_ble_eq_true rfl) rfl ?_
          replace h := h _ rfl
          refine tt_goto (t := 113) dX10_tryFrom_88 rfl ?_
          refine inc_5 (q := 116) dX10_tryFrom_113 (nI_inc1 _) rfl rfl ?_
          refine tt_goto (t := 12) dX10_tryFrom_116 rfl ?_
          refine tt_wk (L2 := [_, _, _, _, _, _, dum]) ⟨Or.inl rfl, Or.inl rfl, Or.inl rfl, Or.inl rfl, Or.inl rfl, Or.inl rfl, Or.inr rfl, trivial⟩ ?_
          exact h

theorem g_X10_leastRow_0 {post : SG → Int32 → Prop} {σ : SG} {rs : Int32} {o : Nat} {due : Int32} (h : T_X10_leastRow AF post 3 [.ref 77, .int rs, .int (nI o), .int due, .int (nI 0)] [] σ) : T_X10_leastRow AF post 0 [.ref 77, .int rs, .int (nI o), .int due, dum] [] σ := by
  refine tt_iconst (q := 1) dX10_leastRow_0 ki_0 rfl ?_
  refine sti_4 (q := 3) dX10_leastRow_1 rfl rfl ?_
  exact h
theorem g_X10_leastRow_3 {post : SG → Int32 → Prop} {σ : SG} {rs : Int32} {o : Nat} {due : Int32} {r : Nat} (h : (((σ 36 0) ≤ (nI r) → post σ (-9 : Int32)) ∧ (¬ (σ 36 0) ≤ (nI r) → ((¬ ((rs >>> ((nI r) &&& 31)) &&& (nI 1)) = (nI 1) → T_X10_leastRow AF post 3 [.ref 77, .int rs, .int (nI o), .int due, .int (nI (r + 1))] [] σ) ∧ (((rs >>> ((nI r) &&& 31)) &&& (nI 1)) = (nI 1) → (r < 10 ∧ (o < 720 ∧ (∃ j6 : Nat, (σ (49 + 1 + r) o) = nI j6 ∧ j6 < 720 ∧ ((¬ ((σ 5 j6) &&& due) = due → T_X10_leastRow AF post 3 [.ref 77, .int rs, .int (nI o), .int due, .int (nI (r + 1))] [] σ) ∧ (((σ 5 j6) &&& due) = due → post σ (nI r))))))))))) : T_X10_leastRow AF post 3 [.ref 77, .int rs, .int (nI o), .int due, .int (nI r)] [] σ := by
  refine tt_iload (q := 5) dX10_leastRow_3 rfl rfl ?_
  refine tt_aload_n (q := 6) dX10_leastRow_5 rfl rfl ?_
  refine tt_getR (q := 9) dX10_leastRow_6 fl_X10_25 or_77_5 (Nat.le_of_ble_eq_true rfl) rfl rfl ?_
  refine tt_getI (q := 12) dX10_leastRow_9 fl_X10_66 oi_36_0 (Nat.le_of_ble_eq_true rfl) rfl ?_
  refine tt_icmp_ge (q := 15) (t := 60) dX10_leastRow_12 rfl rfl (fun c => ?_) (fun c => ?_)
  · replace h := h.1 c
    refine tt_bipush (q := 62) dX10_leastRow_60 bi_m9 rfl ?_
    exact tt_iret dX10_leastRow_62 ⟨rfl, _, rfl, h⟩
  · replace h := h.2 c
    refine tt_iload_n (q := 16) dX10_leastRow_15 rfl rfl ?_
    refine tt_iload (q := 18) dX10_leastRow_16 rfl rfl ?_
    refine tt_ishr (q := 19) dX10_leastRow_18 rfl ?_
    refine tt_iconst (q := 20) dX10_leastRow_19 ki_1 rfl ?_
    refine tt_iand (q := 21) dX10_leastRow_20 rfl ?_
    refine tt_iconst (q := 22) dX10_leastRow_21 ki_1 rfl ?_
    refine tt_icmp_ne (q := 25) (t := 54) dX10_leastRow_22 rfl rfl (fun c => ?_) (fun c => ?_)
    · replace h := h.1 c
      refine inc_4 (q := 57) dX10_leastRow_54 (nI_inc1 _) rfl rfl ?_
      refine tt_goto (t := 3) dX10_leastRow_57 rfl ?_
      exact h
    · replace h := h.2 c
      refine tt_aload_n (q := 26) dX10_leastRow_25 rfl rfl ?_
      refine tt_getR (q := 29) dX10_leastRow_26 fl_X10_21 or_77_4 (Nat.le_of_ble_eq_true rfl) rfl rfl ?_
      refine tt_getR (q := 32) dX10_leastRow_29 fl_X10_45 or_3_1 (Nat.le_of_ble_eq_true rfl) rfl rfl ?_
      refine tt_aload_n (q := 33) dX10_leastRow_32 rfl rfl ?_
      refine tt_getR (q := 36) dX10_leastRow_33 fl_X10_25 or_77_5 (Nat.le_of_ble_eq_true rfl) rfl rfl ?_
      refine tt_getR (q := 39) dX10_leastRow_36 fl_X10_57 or_36_3 (Nat.le_of_ble_eq_true rfl) rfl rfl ?_
      refine tt_iload (q := 41) dX10_leastRow_39 rfl rfl ?_
      obtain ⟨l3, h⟩ := h
      refine tt_aald (q := 42) dX10_leastRow_41 ig_49 (Nat.le_of_ble_eq_true rfl) rfl l3 rfl ?_
      refine tt_iload_n (q := 43) dX10_leastRow_42 rfl rfl ?_
      obtain ⟨l4, h⟩ := h
      refine tt_iald (q := 44) dX10_leastRow_43 (gi_49 _ l3) (gl_49 _ l3) rfl l4 rfl ?_
      obtain ⟨j6, e7, l5, h⟩ := h
      refine tt_iald (q := 45) dX10_leastRow_44 ia_5 (Nat.le_of_ble_eq_true rfl) e7 l5 rfl ?_
      refine tt_iload_n (q := 46) dX10_leastRow_45 rfl rfl ?_
      refine tt_iand (q := 47) dX10_leastRow_46 rfl ?_
      refine tt_iload_n (q := 48) dX10_leastRow_47 rfl rfl ?_
      refine tt_icmp_ne (q := 51) (t := 54) dX10_leastRow_48 rfl rfl (fun c => ?_) (fun c => ?_)
      · replace h := h.1 c
        refine inc_4 (q := 57) dX10_leastRow_54 (nI_inc1 _) rfl rfl ?_
        refine tt_goto (t := 3) dX10_leastRow_57 rfl ?_
        exact h
      · replace h := h.2 c
        refine tt_iload (q := 53) dX10_leastRow_51 rfl rfl ?_
        exact tt_iret dX10_leastRow_53 ⟨rfl, _, rfl, h⟩

theorem g_X10_solved_0 {post : SG → Int32 → Prop} {σ : SG} (h : T_X10_solved AF post 4 [.ref 77, .ref 81, .int (nI 0), .int (nI 0)] [] σ) : T_X10_solved AF post 0 [.ref 77, .ref 81, dum, dum] [] σ := by
  refine tt_iconst (q := 1) dX10_solved_0 ki_0 rfl ?_
  refine sti_n_2 (q := 2) dX10_solved_1 rfl rfl rfl ?_
  refine tt_iconst (q := 3) dX10_solved_2 ki_0 rfl ?_
  refine sti_n_3 (q := 4) dX10_solved_3 rfl rfl rfl ?_
  exact h
theorem g_X10_solved_4 {post : SG → Int32 → Prop} {σ : SG} {all : Nat} {o : Nat} (h : (o < 2 ^ 31 ∧ ((720 ≤ o → post σ (nI all)) ∧ (o < 720 → (∃ p5 : SG → Int32 → Prop, IN_X10_tryFrom AF σ [.ref 77, .int (nI o), .ref 81] p5 ∧ ∀ t4 : SG, p5 t4 0 → ((¬ (t4 81 1) = (-9 : Int32) → T_X10_solved AF post 4 [.ref 77, .ref 81, .int (nI all), .int (nI (o + 1))] [] t4) ∧ ((t4 81 1) = (-9 : Int32) → ((¬ (t4 81 2) = 0 → T_X10_solved AF post 4 [.ref 77, .ref 81, .int (nI all), .int (nI (o + 1))] [] t4) ∧ ((t4 81 2) = 0 → T_X10_solved AF post 4 [.ref 77, .ref 81, .int (nI (all + 1)), .int (nI (o + 1))] [] t4))))))))) : T_X10_solved AF post 4 [.ref 77, .ref 81, .int (nI all), .int (nI o)] [] σ := by
  refine tt_iload_n (q := 5) dX10_solved_4 rfl rfl ?_
  refine tt_sipush (q := 8) dX10_solved_5 si_720 rfl ?_
  obtain ⟨l2, h⟩ := h
  refine tt_icmp_ge (q := 11) (t := 33) dX10_solved_8 rfl rfl (fun c => ?_) (fun c => ?_)
  · replace h := h.1 ((nI_leI (by decide) l2).1 c)
    refine tt_iload_n (q := 34) dX10_solved_33 rfl rfl ?_
    exact tt_iret dX10_solved_34 ⟨rfl, _, rfl, h⟩
  · replace h := h.2 (Nat.lt_of_not_le (fun z => c ((nI_leI (by decide) l2).2 z)))
    refine tt_aload_n (q := 12) dX10_solved_11 rfl rfl ?_
    refine tt_iload_n (q := 13) dX10_solved_12 rfl rfl ?_
    refine tt_aload_n (q := 14) dX10_solved_13 rfl rfl ?_
    obtain ⟨p5, hp6, h⟩ := h
    refine callVv_2 (q := 17) dX10_solved_14 (Or.inl ⟨rfl, rfl, hp6⟩) (Nat.le_of_ble_eq_true rfl) rfl (fun t4 hr7 => ?_)
    replace h := h t4 hr7
    refine tt_aload_n (q := 18) dX10_solved_17 rfl rfl ?_
    refine callVi_0 (q := 21) dX10_solved_18 (Or.inr (⟨rfl, rfl, ⟨⟨_, _, rfl, rfl, (Nat.le_of_ble_eq_true rfl), rc_81⟩, Nat.le_of_ble_eq_true rfl, ?_⟩⟩)) (Nat.le_of_ble_eq_true rfl) rfl (fun t9 r8 ht9 => ht9)
    refine (show TT cX8_solved RX8 false CT0 CN0 _ _ _ none 0 [_] [] _ _ from ?_)
    refine tt_aload_n (q := 1) dX8_solved_0 rfl rfl ?_
    refine tt_getI (q := 4) dX8_solved_1 fl_X8_15 oi_81_1 (Nat.le_of_ble_eq_true rfl) rfl ?_
    refine tt_bipush (q := 6) dX8_solved_4 bi_m9 rfl ?_
    refine tt_icmp_ne (q := 9) (t := 20) dX8_solved_6 rfl rfl (fun c => ?_) (fun c => ?_)
    · replace h := h.1 c
      refine tt_iconst (q := 21) dX8_solved_20 ki_0 rfl ?_
      refine tt_iret dX8_solved_21 ⟨rfl, _, rfl, Or.inl nI_0, ?_⟩
      refine tt_if_eq (q := 24) (t := 27) dX10_solved_21 rfl rfl (fun c => ?_) (fun c => absurd c (by decide))
      clear c
      refine inc_3 (q := 30) dX10_solved_27 (nI_inc1 _) rfl rfl ?_
      refine tt_goto (t := 4) dX10_solved_30 rfl ?_
      exact h
    · replace h := h.2 c
      refine tt_aload_n (q := 10) dX8_solved_9 rfl rfl ?_
      refine tt_getI (q := 13) dX8_solved_10 fl_X8_19 oi_81_2 (Nat.le_of_ble_eq_true rfl) rfl ?_
      refine tt_if_ne (q := 16) (t := 20) dX8_solved_13 rfl rfl (fun c => ?_) (fun c => ?_)
      · replace h := h.1 c
        refine tt_iconst (q := 21) dX8_solved_20 ki_0 rfl ?_
        refine tt_iret dX8_solved_21 ⟨rfl, _, rfl, Or.inl nI_0, ?_⟩
        refine tt_if_eq (q := 24) (t := 27) dX10_solved_21 rfl rfl (fun c => ?_) (fun c => absurd c (by decide))
        clear c
        refine inc_3 (q := 30) dX10_solved_27 (nI_inc1 _) rfl rfl ?_
        refine tt_goto (t := 4) dX10_solved_30 rfl ?_
        exact h
      · replace h := h.2 c
        refine tt_iconst (q := 17) dX8_solved_16 ki_1 rfl ?_
        refine tt_goto (t := 21) dX8_solved_17 rfl ?_
        refine tt_iret dX8_solved_21 ⟨rfl, _, rfl, Or.inr rfl, ?_⟩
        refine tt_if_eq (q := 24) (t := 27) dX10_solved_21 rfl rfl (fun c => absurd c (by decide)) (fun c => ?_)
        clear c
        refine inc_2 (q := 27) dX10_solved_24 (nI_inc1 _) rfl rfl ?_
        refine inc_3 (q := 30) dX10_solved_27 (nI_inc1 _) rfl rfl ?_
        refine tt_goto (t := 4) dX10_solved_30 rfl ?_
        exact h

theorem g_X10_sumOf_0 {post : SG → Int32 → Prop} {σ : SG} {pace : Int32} (h : (((σ 81 1) = (-9 : Int32) → T_X10_sumOf AF post 20 [.ref 77, .ref 81, .int pace, .int (nI 0), .int (nI 0), .int (nI 0), dum] [] σ) ∧ (¬ (σ 81 1) = (-9 : Int32) → post σ (-9 : Int32)))) : T_X10_sumOf AF post 0 [.ref 77, .ref 81, .int pace, dum, dum, dum, dum] [] σ := by
  refine tt_aload_n (q := 1) dX10_sumOf_0 rfl rfl ?_
  refine tt_getI (q := 4) dX10_sumOf_1 fl_X10_42 oi_81_1 (Nat.le_of_ble_eq_true rfl) rfl ?_
  refine tt_bipush (q := 6) dX10_sumOf_4 bi_m9 rfl ?_
  refine tt_icmp_eq (q := 9) (t := 12) dX10_sumOf_6 rfl rfl (fun c => ?_) (fun c => ?_)
  · replace h := h.1 c
    refine tt_iconst (q := 13) dX10_sumOf_12 ki_0 rfl ?_
    refine sti_n_3 (q := 14) dX10_sumOf_13 rfl rfl rfl ?_
    refine tt_iconst (q := 15) dX10_sumOf_14 ki_0 rfl ?_
    refine sti_4 (q := 17) dX10_sumOf_15 rfl rfl ?_
    refine tt_iconst (q := 18) dX10_sumOf_17 ki_0 rfl ?_
    refine sti_5 (q := 20) dX10_sumOf_18 rfl rfl ?_
    exact h
  · replace h := h.2 c
    refine tt_bipush (q := 11) dX10_sumOf_9 bi_m9 rfl ?_
    exact tt_iret dX10_sumOf_11 ⟨rfl, _, rfl, h⟩
theorem g_X10_sumOf_20 {post : SG → Int32 → Prop} {σ : SG} {pace : Int32} {all : Int32} {ah : Int32} {k : Nat} (h : (((σ 77 0) ≤ (nI k) → post σ all) ∧ (¬ (σ 77 0) ≤ (nI k) → (((nI k) ≤ 0 → (k < 4 ∧ ((¬ (σ 82 k) = (-9 : Int32) → (∃ p7 : SG → Int32 → Prop, IN_X2_rowTime AF σ [.ref 61, .ref 36, .int (σ 82 k)] p7 ∧ ∀ (t6 : SG) (r5 : Int32), p7 t6 r5 → T_X10_sumOf AF post 20 [.ref 77, .ref 81, .int pace, .int (all + ((r5 * pace) / (nI 100))), .int ((r5 * pace) / (nI 100)), .int (nI (k + 1)), dum] [] t6)) ∧ ((σ 82 k) = (-9 : Int32) → T_X10_sumOf AF post 20 [.ref 77, .ref 81, .int pace, .int (all + (nI 0)), .int (nI 0), .int (nI (k + 1)), dum] [] σ)))) ∧ (¬ (nI k) ≤ 0 → (k < 4 ∧ (k < 4 ∧ ((¬ (σ 82 k) = (-9 : Int32) → (∃ p15 : SG → Int32 → Prop, IN_X2_rowTime AF σ [.ref 61, .ref 36, .int (σ 82 k)] p15 ∧ ∀ (t14 : SG) (r13 : Int32), p15 t14 r13 → T_X10_sumOf AF post 20 [.ref 77, .ref 81, .int pace, .int ((all + (if (nI 0) < ((σ 80 k) - ah) then ((σ 80 k) - ah) else (nI 0))) + ((r13 * pace) / (nI 100))), .int ((r13 * pace) / (nI 100)), .int (nI (k + 1)), dum] [] t14)) ∧ ((σ 82 k) = (-9 : Int32) → T_X10_sumOf AF post 20 [.ref 77, .ref 81, .int pace, .int ((all + (if (nI 0) < ((σ 80 k) - ah) then ((σ 80 k) - ah) else (nI 0))) + (nI 0)), .int (nI 0), .int (nI (k + 1)), dum] [] σ))))))))) : T_X10_sumOf AF post 20 [.ref 77, .ref 81, .int pace, .int all, .int ah, .int (nI k), dum] [] σ := by
  refine tt_iload (q := 22) dX10_sumOf_20 rfl rfl ?_
  refine tt_aload_n (q := 23) dX10_sumOf_22 rfl rfl ?_
  refine tt_getI (q := 26) dX10_sumOf_23 fl_X10_33 oi_77_0 (Nat.le_of_ble_eq_true rfl) rfl ?_
  refine tt_icmp_ge (q := 29) (t := 102) dX10_sumOf_26 rfl rfl (fun c => ?_) (fun c => ?_)
  · replace h := h.1 c
    refine tt_iload_n (q := 103) dX10_sumOf_102 rfl rfl ?_
    exact tt_iret dX10_sumOf_103 ⟨rfl, _, rfl, h⟩
  · replace h := h.2 c
    refine tt_iload (q := 31) dX10_sumOf_29 rfl rfl ?_
    refine tt_if_le (q := 34) (t := 51) dX10_sumOf_31 rfl rfl (fun c => ?_) (fun c => ?_)
    · replace h := h.1 c
      refine tt_aload_n (q := 52) dX10_sumOf_51 rfl rfl ?_
      refine tt_getR (q := 55) dX10_sumOf_52 fl_X10_54 or_81_0 (Nat.le_of_ble_eq_true rfl) rfl rfl ?_
      refine tt_iload (q := 57) dX10_sumOf_55 rfl rfl ?_
      obtain ⟨l3, h⟩ := h
      refine tt_iald (q := 58) dX10_sumOf_57 ia_82 (Nat.le_of_ble_eq_true rfl) rfl l3 rfl ?_
      refine sti_6 (q := 60) dX10_sumOf_58 rfl rfl ?_
      refine tt_iload (q := 62) dX10_sumOf_60 rfl rfl ?_
      refine tt_bipush (q := 64) dX10_sumOf_62 bi_m9 rfl ?_
      refine tt_icmp_ne (q := 67) (t := 71) dX10_sumOf_64 rfl rfl (fun c => ?_) (fun c => ?_)
      · replace h := h.1 c
        refine tt_aload_n (q := 72) dX10_sumOf_71 rfl rfl ?_
        refine tt_getR (q := 75) dX10_sumOf_72 fl_X10_29 or_77_6 (Nat.le_of_ble_eq_true rfl) rfl rfl ?_
        refine tt_aload_n (q := 76) dX10_sumOf_75 rfl rfl ?_
        refine tt_getR (q := 79) dX10_sumOf_76 fl_X10_25 or_77_5 (Nat.le_of_ble_eq_true rfl) rfl rfl ?_
        refine tt_iload (q := 81) dX10_sumOf_79 rfl rfl ?_
        obtain ⟨p7, hp8, h⟩ := h
        refine callVi_2 (q := 84) dX10_sumOf_81 (⟨rfl, rfl, hp8⟩) (Nat.le_of_ble_eq_true rfl) rfl (fun t6 r5 hr9 => ?_)
        replace h := h t6 r5 hr9
        refine tt_iload_n (q := 85) dX10_sumOf_84 rfl rfl ?_
        refine tt_imul (q := 86) dX10_sumOf_85 rfl ?_
        refine tt_bipush (q := 88) dX10_sumOf_86 bi_100 rfl ?_
        refine tt_idiv (q := 89) dX10_sumOf_88 (by decide) rfl ?_
        refine sti_4 (q := 91) dX10_sumOf_89 rfl rfl ?_
        refine tt_iload_n (q := 92) dX10_sumOf_91 rfl rfl ?_
        refine tt_iload (q := 94) dX10_sumOf_92 rfl rfl ?_
        refine tt_iadd (q := 95) dX10_sumOf_94 rfl ?_
        refine sti_n_3 (q := 96) dX10_sumOf_95 rfl rfl rfl ?_
        refine inc_5 (q := 99) dX10_sumOf_96 (nI_inc1 _) rfl rfl ?_
        refine tt_goto (t := 20) dX10_sumOf_99 rfl ?_
        refine tt_wk (L2 := [_, _, _, _, _, _, dum]) ⟨Or.inl rfl, Or.inl rfl, Or.inl rfl, Or.inl rfl, Or.inl rfl, Or.inl rfl, Or.inr rfl, trivial⟩ ?_
        exact h
      · replace h := h.2 c
        refine tt_iconst (q := 68) dX10_sumOf_67 ki_0 rfl ?_
        refine tt_goto (t := 89) dX10_sumOf_68 rfl ?_
        refine sti_4 (q := 91) dX10_sumOf_89 rfl rfl ?_
        refine tt_iload_n (q := 92) dX10_sumOf_91 rfl rfl ?_
        refine tt_iload (q := 94) dX10_sumOf_92 rfl rfl ?_
        refine tt_iadd (q := 95) dX10_sumOf_94 rfl ?_
        refine sti_n_3 (q := 96) dX10_sumOf_95 rfl rfl rfl ?_
        refine inc_5 (q := 99) dX10_sumOf_96 (nI_inc1 _) rfl rfl ?_
        refine tt_goto (t := 20) dX10_sumOf_99 rfl ?_
        refine tt_wk (L2 := [_, _, _, _, _, _, dum]) ⟨Or.inl rfl, Or.inl rfl, Or.inl rfl, Or.inl rfl, Or.inl rfl, Or.inl rfl, Or.inr rfl, trivial⟩ ?_
        exact h
    · replace h := h.2 c
      refine tt_iload_n (q := 35) dX10_sumOf_34 rfl rfl ?_
      refine tt_iconst (q := 36) dX10_sumOf_35 ki_0 rfl ?_
      refine tt_aload_n (q := 37) dX10_sumOf_36 rfl rfl ?_
      refine tt_getR (q := 40) dX10_sumOf_37 fl_X10_18 or_77_3 (Nat.le_of_ble_eq_true rfl) rfl rfl ?_
      refine tt_iload (q := 42) dX10_sumOf_40 rfl rfl ?_
      obtain ⟨l10, h⟩ := h
      refine tt_iald (q := 43) dX10_sumOf_42 ia_80 (Nat.le_of_ble_eq_true rfl) rfl l10 rfl ?_
      refine tt_iload (q := 45) dX10_sumOf_43 rfl rfl ?_
      refine tt_isub (q := 46) dX10_sumOf_45 rfl ?_
      refine tt_mmax (q := 49) dX10_sumOf_46 lmm_X10_75 (Nat.le_of_ble_eq_true rfl) rfl ?_
      refine tt_iadd (q := 50) dX10_sumOf_49 rfl ?_
      refine sti_n_3 (q := 51) dX10_sumOf_50 rfl rfl rfl ?_
      refine tt_aload_n (q := 52) dX10_sumOf_51 rfl rfl ?_
      refine tt_getR (q := 55) dX10_sumOf_52 fl_X10_54 or_81_0 (Nat.le_of_ble_eq_true rfl) rfl rfl ?_
      refine tt_iload (q := 57) dX10_sumOf_55 rfl rfl ?_
      obtain ⟨l11, h⟩ := h
      refine tt_iald (q := 58) dX10_sumOf_57 ia_82 (Nat.le_of_ble_eq_true rfl) rfl l11 rfl ?_
      refine sti_6 (q := 60) dX10_sumOf_58 rfl rfl ?_
      refine tt_iload (q := 62) dX10_sumOf_60 rfl rfl ?_
      refine tt_bipush (q := 64) dX10_sumOf_62 bi_m9 rfl ?_
      refine tt_icmp_ne (q := 67) (t := 71) dX10_sumOf_64 rfl rfl (fun c => ?_) (fun c => ?_)
      · replace h := h.1 c
        refine tt_aload_n (q := 72) dX10_sumOf_71 rfl rfl ?_
        refine tt_getR (q := 75) dX10_sumOf_72 fl_X10_29 or_77_6 (Nat.le_of_ble_eq_true rfl) rfl rfl ?_
        refine tt_aload_n (q := 76) dX10_sumOf_75 rfl rfl ?_
        refine tt_getR (q := 79) dX10_sumOf_76 fl_X10_25 or_77_5 (Nat.le_of_ble_eq_true rfl) rfl rfl ?_
        refine tt_iload (q := 81) dX10_sumOf_79 rfl rfl ?_
        obtain ⟨p15, hp16, h⟩ := h
        refine callVi_2 (q := 84) dX10_sumOf_81 (⟨rfl, rfl, hp16⟩) (Nat.le_of_ble_eq_true rfl) rfl (fun t14 r13 hr17 => ?_)
        replace h := h t14 r13 hr17
        refine tt_iload_n (q := 85) dX10_sumOf_84 rfl rfl ?_
        refine tt_imul (q := 86) dX10_sumOf_85 rfl ?_
        refine tt_bipush (q := 88) dX10_sumOf_86 bi_100 rfl ?_
        refine tt_idiv (q := 89) dX10_sumOf_88 (by decide) rfl ?_
        refine sti_4 (q := 91) dX10_sumOf_89 rfl rfl ?_
        refine tt_iload_n (q := 92) dX10_sumOf_91 rfl rfl ?_
        refine tt_iload (q := 94) dX10_sumOf_92 rfl rfl ?_
        refine tt_iadd (q := 95) dX10_sumOf_94 rfl ?_
        refine sti_n_3 (q := 96) dX10_sumOf_95 rfl rfl rfl ?_
        refine inc_5 (q := 99) dX10_sumOf_96 (nI_inc1 _) rfl rfl ?_
        refine tt_goto (t := 20) dX10_sumOf_99 rfl ?_
        refine tt_wk (L2 := [_, _, _, _, _, _, dum]) ⟨Or.inl rfl, Or.inl rfl, Or.inl rfl, Or.inl rfl, Or.inl rfl, Or.inl rfl, Or.inr rfl, trivial⟩ ?_
        exact h
      · replace h := h.2 c
        refine tt_iconst (q := 68) dX10_sumOf_67 ki_0 rfl ?_
        refine tt_goto (t := 89) dX10_sumOf_68 rfl ?_
        refine sti_4 (q := 91) dX10_sumOf_89 rfl rfl ?_
        refine tt_iload_n (q := 92) dX10_sumOf_91 rfl rfl ?_
        refine tt_iload (q := 94) dX10_sumOf_92 rfl rfl ?_
        refine tt_iadd (q := 95) dX10_sumOf_94 rfl ?_
        refine sti_n_3 (q := 96) dX10_sumOf_95 rfl rfl rfl ?_
        refine inc_5 (q := 99) dX10_sumOf_96 (nI_inc1 _) rfl rfl ?_
        refine tt_goto (t := 20) dX10_sumOf_99 rfl ?_
        refine tt_wk (L2 := [_, _, _, _, _, _, dum]) ⟨Or.inl rfl, Or.inl rfl, Or.inl rfl, Or.inl rfl, Or.inl rfl, Or.inl rfl, Or.inr rfl, trivial⟩ ?_
        exact h
