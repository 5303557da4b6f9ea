/-! segments, by program -/
theorem g_X11_feed_0 {post : SG → Int32 → Prop} {σ : SG} {a : Int32} {b : Int64} (h : (((nI 1) ≤ a → ((a ≤ (nI 8) → ((((σ 1 1) + a) ≤ (nI 16) → (∃ p8 : SG → Int32 → Prop, IN_X6_add AF σ [.ref 1, .int a, .long b] p8 ∧ ∀ t7 : SG, p8 t7 0 → post t7 (t7 1 1))) ∧ (¬ ((σ 1 1) + a) ≤ (nI 16) → (∀ s13 : SG, s13 = up σ 101 6 ((σ 101 6) + (nI 1)) → post s13 (-6 : Int32))))) ∧ (¬ a ≤ (nI 8) → (∀ s16 : SG, s16 = up σ 101 6 ((σ 101 6) + (nI 1)) → post s16 (-6 : Int32))))) ∧ (¬ (nI 1) ≤ a → (∀ s19 : SG, s19 = up σ 101 4 ((σ 101 4) + (nI 1)) → post s19 (-4 : Int32))))) : T_X11_feed AF post 0 [.ref 0, .int a, .long b, dum, dum] [] σ := by
  refine tt_iload_n (q := 1) dX11_feed_0 rfl rfl ?_
  refine tt_iconst (q := 2) dX11_feed_1 ki_1 rfl ?_
  refine tt_bipush (q := 4) dX11_feed_2 bi_8 rfl ?_
  refine callSi_3 (q := 7) dX11_feed_4 (Or.inl ⟨rfl, rfl, ⟨rfl, Nat.le_of_ble_eq_true rfl, ?_⟩⟩) (Nat.le_of_ble_eq_true rfl) rfl (fun t2 r1 ht2 => ht2)
  refine (show TT cX11_outside RX11 false CT0 CN0 _ _ _ none 0 [_, _, _] [] _ _ from ?_)
  refine tt_iload_n (q := 1) dX11_outside_0 rfl rfl ?_
  refine tt_iload_n (q := 2) dX11_outside_1 rfl rfl ?_
  refine tt_icmp_ge (q := 5) (t := 8) dX11_outside_2 rfl rfl (fun c => ?_) (fun c => ?_)
  · replace h := h.1 c
    refine tt_iload_n (q := 9) dX11_outside_8 rfl rfl ?_
    refine tt_iload_n (q := 10) dX11_outside_9 rfl rfl ?_
    refine tt_icmp_le (q := 13) (t := 18) dX11_outside_10 rfl rfl (fun c => ?_) (fun c => ?_)
    · replace h := h.1 c
      refine tt_iconst (q := 19) dX11_outside_18 ki_0 rfl ?_
      refine tt_iret dX11_outside_19 ⟨rfl, _, rfl, ?_⟩
      refine sti_4 (q := 9) dX11_feed_7 rfl rfl ?_
      refine tt_iload (q := 11) dX11_feed_9 rfl rfl ?_
      refine tt_if_eq (q := 14) (t := 21) dX11_feed_11 rfl rfl (fun c => ?_) (fun c => absurd c (by decide))
      clear c
      refine tt_aload_n (q := 22) dX11_feed_21 rfl rfl ?_
      refine tt_getR (q := 25) dX11_feed_22 fl_X11_12 or_0_0 (Nat.le_of_ble_eq_true rfl) rfl rfl ?_
      refine tt_getI (q := 28) dX11_feed_25 fl_X11_112 oi_1_1 (Nat.le_of_ble_eq_true rfl) rfl ?_
      refine tt_iload_n (q := 29) dX11_feed_28 rfl rfl ?_
      refine tt_iadd (q := 30) dX11_feed_29 rfl ?_
      refine tt_bipush (q := 32) dX11_feed_30 bi_16 rfl ?_
      refine tt_icmp_le (q := 35) (t := 42) dX11_feed_32 rfl rfl (fun c => ?_) (fun c => ?_)
      · replace h := h.1 c
        refine tt_aload_n (q := 43) dX11_feed_42 rfl rfl ?_
        refine tt_getR (q := 46) dX11_feed_43 fl_X11_12 or_0_0 (Nat.le_of_ble_eq_true rfl) rfl rfl ?_
        refine tt_iload_n (q := 47) dX11_feed_46 rfl rfl ?_
        refine tt_lload_n (q := 48) dX11_feed_47 rfl rfl ?_
        obtain ⟨p8, hp9, h⟩ := h
        refine callVv_2 (q := 51) dX11_feed_48 (Or.inr (Or.inr (⟨rfl, rfl, hp9⟩))) (Nat.le_of_ble_eq_true rfl) rfl (fun t7 hr10 => ?_)
        replace h := h t7 hr10
        refine tt_aload_n (q := 52) dX11_feed_51 rfl rfl ?_
        refine tt_getR (q := 55) dX11_feed_52 fl_X11_12 or_0_0 (Nat.le_of_ble_eq_true rfl) rfl rfl ?_
        refine tt_getI (q := 58) dX11_feed_55 fl_X11_112 oi_1_1 (Nat.le_of_ble_eq_true rfl) rfl ?_
        exact tt_iret dX11_feed_58 ⟨rfl, _, rfl, h⟩
      · replace h := h.2 c
        refine tt_aload_n (q := 36) dX11_feed_35 rfl rfl ?_
        refine tt_bipush (q := 38) dX11_feed_36 bi_m6 rfl ?_
        refine callVi_1 (q := 41) dX11_feed_38 (Or.inr (Or.inl ⟨rfl, rfl, ⟨⟨_, _, rfl, rfl, (Nat.le_of_ble_eq_true rfl), rc_0⟩, Nat.le_of_ble_eq_true rfl, ?_⟩⟩)) (Nat.le_of_ble_eq_true rfl) rfl (fun t12 r11 ht12 => ht12)
        refine (show TT cX11_refuse RX11 false CT0 CN0 _ _ _ none 0 [_, _, dum] [] _ _ from ?_)
        refine tt_iload_n (q := 1) dX11_refuse_0 rfl rfl ?_
        refine tt_inegE (v := nI 6) (q := 2) dX11_refuse_1 (by decide) rfl ?_
        refine sti_n_2 (q := 3) dX11_refuse_2 rfl rfl rfl ?_
        refine tt_iload_n (q := 4) dX11_refuse_3 rfl rfl ?_
        refine tt_if_le (q := 7) (t := 23) dX11_refuse_4 rfl rfl (fun c => absurd c (by decide)) (fun c => ?_)
        clear c
        refine tt_iload_n (q := 8) dX11_refuse_7 rfl rfl ?_
        refine tt_bipush (q := 10) dX11_refuse_8 bi_6 rfl ?_
        refine tt_icmp_gt (q := 13) (t := 23) dX11_refuse_10 rfl rfl (fun c => absurd c (by decide)) (fun c => ?_)
        clear c
        refine tt_aload_n (q := 14) dX11_refuse_13 rfl rfl ?_
        refine tt_getR (q := 17) dX11_refuse_14 fl_X11_96 or_0_11 (Nat.le_of_ble_eq_true rfl) rfl rfl ?_
        refine tt_iload_n (q := 18) dX11_refuse_17 rfl rfl ?_
        refine tt_dup2 (q := 19) dX11_refuse_18 rfl rfl rfl ?_
        refine tt_iald (q := 20) dX11_refuse_19 ia_101 (Nat.le_of_ble_eq_true rfl) rfl (Nat.le_of_ble_eq_true rfl : 6 < 7) rfl ?_
        refine tt_iconst (q := 21) dX11_refuse_20 ki_1 rfl ?_
        refine tt_iadd (q := 22) dX11_refuse_21 rfl ?_
        refine tt_iast (q := 23) dX11_refuse_22 ia_101 (Nat.le_of_ble_eq_true rfl) rfl (Nat.le_of_ble_eq_true rfl : 6 < 7) rfl ?_
        replace h := h _ rfl
        refine tt_iload_n (q := 24) dX11_refuse_23 rfl rfl ?_
        refine tt_iret dX11_refuse_24 ⟨rfl, _, rfl, ?_⟩
        exact tt_iret dX11_feed_41 ⟨rfl, _, rfl, h⟩
    · replace h := h.2 c
      refine tt_bipush (q := 15) dX11_outside_13 bi_m6 rfl ?_
      refine tt_goto (t := 19) dX11_outside_15 rfl ?_
      refine tt_iret dX11_outside_19 ⟨rfl, _, rfl, ?_⟩
      refine sti_4 (q := 9) dX11_feed_7 rfl rfl ?_
      refine tt_iload (q := 11) dX11_feed_9 rfl rfl ?_
      refine tt_if_eq (q := 14) (t := 21) dX11_feed_11 rfl rfl (fun c => absurd c (by decide)) (fun c => ?_)
      clear c
      refine tt_aload_n (q := 15) dX11_feed_14 rfl rfl ?_
      refine tt_iload (q := 17) dX11_feed_15 rfl rfl ?_
      refine callVi_1 (q := 20) dX11_feed_17 (Or.inr (Or.inl ⟨rfl, rfl, ⟨⟨_, _, rfl, rfl, (Nat.le_of_ble_eq_true rfl), rc_0⟩, Nat.le_of_ble_eq_true rfl, ?_⟩⟩)) (Nat.le_of_ble_eq_true rfl) rfl (fun t15 r14 ht15 => ht15)
      refine (show TT cX11_refuse RX11 false CT0 CN0 _ _ _ none 0 [_, _, dum] [] _ _ from ?_)
      refine tt_iload_n (q := 1) dX11_refuse_0 rfl rfl ?_
      refine tt_inegE (v := nI 6) (q := 2) dX11_refuse_1 (by decide) rfl ?_
      refine sti_n_2 (q := 3) dX11_refuse_2 rfl rfl rfl ?_
      refine tt_iload_n (q := 4) dX11_refuse_3 rfl rfl ?_
      refine tt_if_le (q := 7) (t := 23) dX11_refuse_4 rfl rfl (fun c => absurd c (by decide)) (fun c => ?_)
      clear c
      refine tt_iload_n (q := 8) dX11_refuse_7 rfl rfl ?_
      refine tt_bipush (q := 10) dX11_refuse_8 bi_6 rfl ?_
      refine tt_icmp_gt (q := 13) (t := 23) dX11_refuse_10 rfl rfl (fun c => absurd c (by decide)) (fun c => ?_)
      clear c
      refine tt_aload_n (q := 14) dX11_refuse_13 rfl rfl ?_
      refine tt_getR (q := 17) dX11_refuse_14 fl_X11_96 or_0_11 (Nat.le_of_ble_eq_true rfl) rfl rfl ?_
      refine tt_iload_n (q := 18) dX11_refuse_17 rfl rfl ?_
      refine tt_dup2 (q := 19) dX11_refuse_18 rfl rfl rfl ?_
      refine tt_iald (q := 20) dX11_refuse_19 ia_101 (Nat.le_of_ble_eq_true rfl) rfl (Nat.le_of_ble_eq_true rfl : 6 < 7) rfl ?_
      refine tt_iconst (q := 21) dX11_refuse_20 ki_1 rfl ?_
      refine tt_iadd (q := 22) dX11_refuse_21 rfl ?_
      refine tt_iast (q := 23) dX11_refuse_22 ia_101 (Nat.le_of_ble_eq_true rfl) rfl (Nat.le_of_ble_eq_true rfl : 6 < 7) rfl ?_
      replace h := h _ rfl
      refine tt_iload_n (q := 24) dX11_refuse_23 rfl rfl ?_
      refine tt_iret dX11_refuse_24 ⟨rfl, _, rfl, ?_⟩
      exact tt_iret dX11_feed_20 ⟨rfl, _, rfl, h⟩
  · replace h := h.2 c
    refine tt_bipush (q := 7) dX11_outside_5 bi_m4 rfl ?_
    refine tt_iret dX11_outside_7 ⟨rfl, _, rfl, ?_⟩
    refine sti_4 (q := 9) dX11_feed_7 rfl rfl ?_
    refine tt_iload (q := 11) dX11_feed_9 rfl rfl ?_
    refine tt_if_eq (q := 14) (t := 21) dX11_feed_11 rfl rfl (fun c => absurd c (by decide)) (fun c => ?_)
    clear c
    refine tt_aload_n (q := 15) dX11_feed_14 rfl rfl ?_
    refine tt_iload (q := 17) dX11_feed_15 rfl rfl ?_
    refine callVi_1 (q := 20) dX11_feed_17 (Or.inr (Or.inl ⟨rfl, rfl, ⟨⟨_, _, rfl, rfl, (Nat.le_of_ble_eq_true rfl), rc_0⟩, Nat.le_of_ble_eq_true rfl, ?_⟩⟩)) (Nat.le_of_ble_eq_true rfl) rfl (fun t18 r17 ht18 => ht18)
    refine (show TT cX11_refuse RX11 false CT0 CN0 _ _ _ none 0 [_, _, dum] [] _ _ from ?_)
    refine tt_iload_n (q := 1) dX11_refuse_0 rfl rfl ?_
    refine tt_inegE (v := nI 4) (q := 2) dX11_refuse_1 (by decide) rfl ?_
    refine sti_n_2 (q := 3) dX11_refuse_2 rfl rfl rfl ?_
    refine tt_iload_n (q := 4) dX11_refuse_3 rfl rfl ?_
    refine tt_if_le (q := 7) (t := 23) dX11_refuse_4 rfl rfl (fun c => absurd c (by decide)) (fun c => ?_)
    clear c
    refine tt_iload_n (q := 8) dX11_refuse_7 rfl rfl ?_
    refine tt_bipush (q := 10) dX11_refuse_8 bi_6 rfl ?_
    refine tt_icmp_gt (q := 13) (t := 23) dX11_refuse_10 rfl rfl (fun c => absurd c (by decide)) (fun c => ?_)
    clear c
    refine tt_aload_n (q := 14) dX11_refuse_13 rfl rfl ?_
    refine tt_getR (q := 17) dX11_refuse_14 fl_X11_96 or_0_11 (Nat.le_of_ble_eq_true rfl) rfl rfl ?_
    refine tt_iload_n (q := 18) dX11_refuse_17 rfl rfl ?_
    refine tt_dup2 (q := 19) dX11_refuse_18 rfl rfl rfl ?_
    refine tt_iald (q := 20) dX11_refuse_19 ia_101 (Nat.le_of_ble_eq_true rfl) rfl (Nat.le_of_ble_eq_true rfl : 4 < 7) rfl ?_
    refine tt_iconst (q := 21) dX11_refuse_20 ki_1 rfl ?_
    refine tt_iadd (q := 22) dX11_refuse_21 rfl ?_
    refine tt_iast (q := 23) dX11_refuse_22 ia_101 (Nat.le_of_ble_eq_true rfl) rfl (Nat.le_of_ble_eq_true rfl : 4 < 7) rfl ?_
    replace h := h _ rfl
    refine tt_iload_n (q := 24) dX11_refuse_23 rfl rfl ?_
    refine tt_iret dX11_refuse_24 ⟨rfl, _, rfl, ?_⟩
    exact tt_iret dX11_feed_20 ⟨rfl, _, rfl, h⟩

theorem g_X11_turn_0 {post : SG → Int32 → Prop} {σ : SG} (h : (((σ 7 0) < (nI 6) → (∃ j3 : Nat, ((nI 2) * (σ 7 0)) = nI j3 ∧ j3 < 12 ∧ (∃ p7 : SG → Int32 → Prop, IN_X6_readTurn AF σ [.ref 1, .ref (8 + 1 + j3)] p7 ∧ ∀ (t6 : SG) (r5 : Int32), p7 t6 r5 → (∀ s10 : SG, s10 = up t6 1 1 (nI 0) → ((r5 = (-9 : Int32) → (∃ p14 : SG → Int32 → Prop, IN_X2_forget AF s10 [.ref 61, .int (s10 7 0)] p14 ∧ ∀ t13 : SG, p14 t13 0 → (∃ p19 : SG → Int32 → Prop, IN_X9_takeRead AF t13 [.ref 7] p19 ∧ ∀ t18 : SG, p19 t18 0 → post t18 ((t18 7 0) - (nI 1))))) ∧ (¬ r5 = (-9 : Int32) → post s10 ((-20 : Int32) - r5))))))) ∧ (¬ (σ 7 0) < (nI 6) → (∀ s24 : SG, s24 = up σ 101 6 ((σ 101 6) + (nI 1)) → post s24 (-6 : Int32))))) : T_X11_turn AF post 0 [.ref 0, dum] [] σ := by
  refine tt_aload_n (q := 1) dX11_turn_0 rfl rfl ?_
  refine tt_getR (q := 4) dX11_turn_1 fl_X11_28 or_0_2 (Nat.le_of_ble_eq_true rfl) rfl rfl ?_
  refine tt_getI (q := 7) dX11_turn_4 fl_X11_119 oi_7_0 (Nat.le_of_ble_eq_true rfl) rfl ?_
  refine tt_bipush (q := 9) dX11_turn_7 bi_6 rfl ?_
  refine tt_icmp_lt (q := 12) (t := 19) dX11_turn_9 rfl rfl (fun c => ?_) (fun c => ?_)
  · replace h := h.1 c
    refine tt_aload_n (q := 20) dX11_turn_19 rfl rfl ?_
    refine tt_getR (q := 23) dX11_turn_20 fl_X11_12 or_0_0 (Nat.le_of_ble_eq_true rfl) rfl rfl ?_
    refine tt_aload_n (q := 24) dX11_turn_23 rfl rfl ?_
    refine tt_getR (q := 27) dX11_turn_24 fl_X11_28 or_0_2 (Nat.le_of_ble_eq_true rfl) rfl rfl ?_
    refine tt_getR (q := 30) dX11_turn_27 fl_X11_122 or_7_1 (Nat.le_of_ble_eq_true rfl) rfl rfl ?_
    refine tt_iconst (q := 31) dX11_turn_30 ki_2 rfl ?_
    refine tt_aload_n (q := 32) dX11_turn_31 rfl rfl ?_
    refine tt_getR (q := 35) dX11_turn_32 fl_X11_28 or_0_2 (Nat.le_of_ble_eq_true rfl) rfl rfl ?_
    refine tt_getI (q := 38) dX11_turn_35 fl_X11_119 oi_7_0 (Nat.le_of_ble_eq_true rfl) rfl ?_
    refine tt_imul (q := 39) dX11_turn_38 rfl ?_
    obtain ⟨j3, e4, l2, h⟩ := h
    refine tt_aald (q := 40) dX11_turn_39 ig_8 (Nat.le_of_ble_eq_true rfl) e4 l2 rfl ?_
    obtain ⟨p7, hp8, h⟩ := h
    refine callVi_1 (q := 43) dX11_turn_40 (Or.inr (Or.inl ⟨rfl, rfl, hp8⟩)) (Nat.le_of_ble_eq_true rfl) rfl (fun t6 r5 hr9 => ?_)
    replace h := h t6 r5 hr9
    refine sti_n_1 (q := 44) dX11_turn_43 rfl rfl rfl ?_
    refine tt_aload_n (q := 45) dX11_turn_44 rfl rfl ?_
    refine tt_getR (q := 48) dX11_turn_45 fl_X11_12 or_0_0 (Nat.le_of_ble_eq_true rfl) rfl rfl ?_
    refine tt_iconst (q := 49) dX11_turn_48 ki_0 rfl ?_
    refine tt_putI (q := 52) dX11_turn_49 fl_X11_112 oi_1_1 (fp_6_1 _) (Nat.le_of_ble_eq_true rfl) rfl ?_
    replace h := h _ rfl
    refine tt_iload_n (q := 53) dX11_turn_52 rfl rfl ?_
    refine tt_bipush (q := 55) dX11_turn_53 bi_m9 rfl ?_
    refine tt_icmp_eq (q := 58) (t := 63) dX11_turn_55 rfl rfl (fun c => ?_) (fun c => ?_)
    · replace h := h.1 c
      refine tt_aload_n (q := 64) dX11_turn_63 rfl rfl ?_
      refine tt_getR (q := 67) dX11_turn_64 fl_X11_44 or_0_4 (Nat.le_of_ble_eq_true rfl) rfl rfl ?_
      refine tt_aload_n (q := 68) dX11_turn_67 rfl rfl ?_
      refine tt_getR (q := 71) dX11_turn_68 fl_X11_28 or_0_2 (Nat.le_of_ble_eq_true rfl) rfl rfl ?_
      refine tt_getI (q := 74) dX11_turn_71 fl_X11_119 oi_7_0 (Nat.le_of_ble_eq_true rfl) rfl ?_
      obtain ⟨p14, hp15, h⟩ := h
      refine callVv_1 (q := 77) dX11_turn_74 (Or.inr (Or.inr (Or.inl ⟨rfl, rfl, hp15⟩))) (Nat.le_of_ble_eq_true rfl) rfl (fun t13 hr16 => ?_)
      replace h := h t13 hr16
      refine tt_aload_n (q := 78) dX11_turn_77 rfl rfl ?_
      refine tt_getR (q := 81) dX11_turn_78 fl_X11_28 or_0_2 (Nat.le_of_ble_eq_true rfl) rfl rfl ?_
      obtain ⟨p19, hp20, h⟩ := h
      refine callVv_0 (q := 84) dX11_turn_81 (Or.inr (Or.inr (Or.inr (⟨rfl, rfl, hp20⟩)))) (Nat.le_of_ble_eq_true rfl) rfl (fun t18 hr21 => ?_)
      replace h := h t18 hr21
      refine tt_aload_n (q := 85) dX11_turn_84 rfl rfl ?_
      refine tt_getR (q := 88) dX11_turn_85 fl_X11_28 or_0_2 (Nat.le_of_ble_eq_true rfl) rfl rfl ?_
      refine tt_getI (q := 91) dX11_turn_88 fl_X11_119 oi_7_0 (Nat.le_of_ble_eq_true rfl) rfl ?_
      refine tt_iconst (q := 92) dX11_turn_91 ki_1 rfl ?_
      refine tt_isub (q := 93) dX11_turn_92 rfl ?_
      exact tt_iret dX11_turn_93 ⟨rfl, _, rfl, h⟩
    · replace h := h.2 c
      refine tt_bipush (q := 60) dX11_turn_58 bi_m20 rfl ?_
      refine tt_iload_n (q := 61) dX11_turn_60 rfl rfl ?_
      refine tt_isub (q := 62) dX11_turn_61 rfl ?_
      exact tt_iret dX11_turn_62 ⟨rfl, _, rfl, h⟩
  · replace h := h.2 c
    refine tt_aload_n (q := 13) dX11_turn_12 rfl rfl ?_
    refine tt_bipush (q := 15) dX11_turn_13 bi_m6 rfl ?_
    refine callVi_1 (q := 18) dX11_turn_15 (Or.inl ⟨rfl, rfl, ⟨⟨_, _, rfl, rfl, (Nat.le_of_ble_eq_true rfl), rc_0⟩, Nat.le_of_ble_eq_true rfl, ?_⟩⟩) (Nat.le_of_ble_eq_true rfl) rfl (fun t23 r22 ht23 => ht23)
    refine (show TT cX11_refuse RX11 false CT0 CN0 _ _ _ none 0 [_, _, dum] [] _ _ from ?_)
    refine tt_iload_n (q := 1) dX11_refuse_0 rfl rfl ?_
    refine tt_inegE (v := nI 6) (q := 2) dX11_refuse_1 (by decide) rfl ?_
    refine sti_n_2 (q := 3) dX11_refuse_2 rfl rfl rfl ?_
    refine tt_iload_n (q := 4) dX11_refuse_3 rfl rfl ?_
    refine tt_if_le (q := 7) (t := 23) dX11_refuse_4 rfl rfl (fun c => absurd c (by decide)) (fun c => ?_)
    clear c
    refine tt_iload_n (q := 8) dX11_refuse_7 rfl rfl ?_
    refine tt_bipush (q := 10) dX11_refuse_8 bi_6 rfl ?_
    refine tt_icmp_gt (q := 13) (t := 23) dX11_refuse_10 rfl rfl (fun c => absurd c (by decide)) (fun c => ?_)
    clear c
    refine tt_aload_n (q := 14) dX11_refuse_13 rfl rfl ?_
    refine tt_getR (q := 17) dX11_refuse_14 fl_X11_96 or_0_11 (Nat.le_of_ble_eq_true rfl) rfl rfl ?_
    refine tt_iload_n (q := 18) dX11_refuse_17 rfl rfl ?_
    refine tt_dup2 (q := 19) dX11_refuse_18 rfl rfl rfl ?_
    refine tt_iald (q := 20) dX11_refuse_19 ia_101 (Nat.le_of_ble_eq_true rfl) rfl (Nat.le_of_ble_eq_true rfl : 6 < 7) rfl ?_
    refine tt_iconst (q := 21) dX11_refuse_20 ki_1 rfl ?_
    refine tt_iadd (q := 22) dX11_refuse_21 rfl ?_
    refine tt_iast (q := 23) dX11_refuse_22 ia_101 (Nat.le_of_ble_eq_true rfl) rfl (Nat.le_of_ble_eq_true rfl : 6 < 7) rfl ?_
    replace h := h _ rfl
    refine tt_iload_n (q := 24) dX11_refuse_23 rfl rfl ?_
    refine tt_iret dX11_refuse_24 ⟨rfl, _, rfl, ?_⟩
    exact tt_iret dX11_turn_18 ⟨rfl, _, rfl, h⟩

theorem g_X11_row_0 {post : SG → Int32 → Prop} {σ : SG} (h : (((σ 36 0) < (nI 10) → (∃ j3 : Nat, (σ 36 0) = nI j3 ∧ j3 < 10 ∧ (∃ p7 : SG → Int32 → Prop, IN_X6_readRow AF σ [.ref 1, .ref (38 + 1 + j3), .int (σ 7 0)] p7 ∧ ∀ (t6 : SG) (r5 : Int32), p7 t6 r5 → (∀ s10 : SG, s10 = up t6 1 1 (nI 0) → ((r5 = (-9 : Int32) → (∃ p14 : SG → Int32 → Prop, IN_X5_takeRead AF s10 [.ref 36, .int (s10 1 2)] p14 ∧ ∀ t13 : SG, p14 t13 0 → post t13 ((t13 36 0) - (nI 1)))) ∧ (¬ r5 = (-9 : Int32) → post s10 ((-20 : Int32) - r5))))))) ∧ (¬ (σ 36 0) < (nI 10) → (∀ s19 : SG, s19 = up σ 101 6 ((σ 101 6) + (nI 1)) → post s19 (-6 : Int32))))) : T_X11_row AF post 0 [.ref 0, dum] [] σ := by
  refine tt_aload_n (q := 1) dX11_row_0 rfl rfl ?_
  refine tt_getR (q := 4) dX11_row_1 fl_X11_37 or_0_3 (Nat.le_of_ble_eq_true rfl) rfl rfl ?_
  refine tt_getI (q := 7) dX11_row_4 fl_X11_137 oi_36_0 (Nat.le_of_ble_eq_true rfl) rfl ?_
  refine tt_bipush (q := 9) dX11_row_7 bi_10 rfl ?_
  refine tt_icmp_lt (q := 12) (t := 19) dX11_row_9 rfl rfl (fun c => ?_) (fun c => ?_)
  · replace h := h.1 c
    refine tt_aload_n (q := 20) dX11_row_19 rfl rfl ?_
    refine tt_getR (q := 23) dX11_row_20 fl_X11_12 or_0_0 (Nat.le_of_ble_eq_true rfl) rfl rfl ?_
    refine tt_aload_n (q := 24) dX11_row_23 rfl rfl ?_
    refine tt_getR (q := 27) dX11_row_24 fl_X11_37 or_0_3 (Nat.le_of_ble_eq_true rfl) rfl rfl ?_
    refine tt_getR (q := 30) dX11_row_27 fl_X11_138 or_36_2 (Nat.le_of_ble_eq_true rfl) rfl rfl ?_
    refine tt_aload_n (q := 31) dX11_row_30 rfl rfl ?_
    refine tt_getR (q := 34) dX11_row_31 fl_X11_37 or_0_3 (Nat.le_of_ble_eq_true rfl) rfl rfl ?_
    refine tt_getI (q := 37) dX11_row_34 fl_X11_137 oi_36_0 (Nat.le_of_ble_eq_true rfl) rfl ?_
    obtain ⟨j3, e4, l2, h⟩ := h
    refine tt_aald (q := 38) dX11_row_37 ig_38 (Nat.le_of_ble_eq_true rfl) e4 l2 rfl ?_
    refine tt_aload_n (q := 39) dX11_row_38 rfl rfl ?_
    refine tt_getR (q := 42) dX11_row_39 fl_X11_28 or_0_2 (Nat.le_of_ble_eq_true rfl) rfl rfl ?_
    refine tt_getI (q := 45) dX11_row_42 fl_X11_119 oi_7_0 (Nat.le_of_ble_eq_true rfl) rfl ?_
    obtain ⟨p7, hp8, h⟩ := h
    refine callVi_2 (q := 48) dX11_row_45 (Or.inr (Or.inl ⟨rfl, rfl, hp8⟩)) (Nat.le_of_ble_eq_true rfl) rfl (fun t6 r5 hr9 => ?_)
    replace h := h t6 r5 hr9
    refine sti_n_1 (q := 49) dX11_row_48 rfl rfl rfl ?_
    refine tt_aload_n (q := 50) dX11_row_49 rfl rfl ?_
    refine tt_getR (q := 53) dX11_row_50 fl_X11_12 or_0_0 (Nat.le_of_ble_eq_true rfl) rfl rfl ?_
    refine tt_iconst (q := 54) dX11_row_53 ki_0 rfl ?_
    refine tt_putI (q := 57) dX11_row_54 fl_X11_112 oi_1_1 (fp_6_1 _) (Nat.le_of_ble_eq_true rfl) rfl ?_
    replace h := h _ rfl
    refine tt_iload_n (q := 58) dX11_row_57 rfl rfl ?_
    refine tt_bipush (q := 60) dX11_row_58 bi_m9 rfl ?_
    refine tt_icmp_eq (q := 63) (t := 68) dX11_row_60 rfl rfl (fun c => ?_) (fun c => ?_)
    · replace h := h.1 c
      refine tt_aload_n (q := 69) dX11_row_68 rfl rfl ?_
      refine tt_getR (q := 72) dX11_row_69 fl_X11_37 or_0_3 (Nat.le_of_ble_eq_true rfl) rfl rfl ?_
      refine tt_aload_n (q := 73) dX11_row_72 rfl rfl ?_
      refine tt_getR (q := 76) dX11_row_73 fl_X11_12 or_0_0 (Nat.le_of_ble_eq_true rfl) rfl rfl ?_
      refine tt_getI (q := 79) dX11_row_76 fl_X11_145 oi_1_2 (Nat.le_of_ble_eq_true rfl) rfl ?_
      obtain ⟨p14, hp15, h⟩ := h
      refine callVv_1 (q := 82) dX11_row_79 (Or.inr (Or.inr (⟨rfl, rfl, hp15⟩))) (Nat.le_of_ble_eq_true rfl) rfl (fun t13 hr16 => ?_)
      replace h := h t13 hr16
      refine tt_aload_n (q := 83) dX11_row_82 rfl rfl ?_
      refine tt_getR (q := 86) dX11_row_83 fl_X11_37 or_0_3 (Nat.le_of_ble_eq_true rfl) rfl rfl ?_
      refine tt_getI (q := 89) dX11_row_86 fl_X11_137 oi_36_0 (Nat.le_of_ble_eq_true rfl) rfl ?_
      refine tt_iconst (q := 90) dX11_row_89 ki_1 rfl ?_
      refine tt_isub (q := 91) dX11_row_90 rfl ?_
      exact tt_iret dX11_row_91 ⟨rfl, _, rfl, h⟩
    · replace h := h.2 c
      refine tt_bipush (q := 65) dX11_row_63 bi_m20 rfl ?_
      refine tt_iload_n (q := 66) dX11_row_65 rfl rfl ?_
      refine tt_isub (q := 67) dX11_row_66 rfl ?_
      exact tt_iret dX11_row_67 ⟨rfl, _, rfl, h⟩
  · replace h := h.2 c
    refine tt_aload_n (q := 13) dX11_row_12 rfl rfl ?_
    refine tt_bipush (q := 15) dX11_row_13 bi_m6 rfl ?_
    refine callVi_1 (q := 18) dX11_row_15 (Or.inl ⟨rfl, rfl, ⟨⟨_, _, rfl, rfl, (Nat.le_of_ble_eq_true rfl), rc_0⟩, Nat.le_of_ble_eq_true rfl, ?_⟩⟩) (Nat.le_of_ble_eq_true rfl) rfl (fun t18 r17 ht18 => ht18)
    refine (show TT cX11_refuse RX11 false CT0 CN0 _ _ _ none 0 [_, _, dum] [] _ _ from ?_)
    refine tt_iload_n (q := 1) dX11_refuse_0 rfl rfl ?_
    refine tt_inegE (v := nI 6) (q := 2) dX11_refuse_1 (by decide) rfl ?_
    refine sti_n_2 (q := 3) dX11_refuse_2 rfl rfl rfl ?_
    refine tt_iload_n (q := 4) dX11_refuse_3 rfl rfl ?_
    refine tt_if_le (q := 7) (t := 23) dX11_refuse_4 rfl rfl (fun c => absurd c (by decide)) (fun c => ?_)
    clear c
    refine tt_iload_n (q := 8) dX11_refuse_7 rfl rfl ?_
    refine tt_bipush (q := 10) dX11_refuse_8 bi_6 rfl ?_
    refine tt_icmp_gt (q := 13) (t := 23) dX11_refuse_10 rfl rfl (fun c => absurd c (by decide)) (fun c => ?_)
    clear c
    refine tt_aload_n (q := 14) dX11_refuse_13 rfl rfl ?_
    refine tt_getR (q := 17) dX11_refuse_14 fl_X11_96 or_0_11 (Nat.le_of_ble_eq_true rfl) rfl rfl ?_
    refine tt_iload_n (q := 18) dX11_refuse_17 rfl rfl ?_
    refine tt_dup2 (q := 19) dX11_refuse_18 rfl rfl rfl ?_
    refine tt_iald (q := 20) dX11_refuse_19 ia_101 (Nat.le_of_ble_eq_true rfl) rfl (Nat.le_of_ble_eq_true rfl : 6 < 7) rfl ?_
    refine tt_iconst (q := 21) dX11_refuse_20 ki_1 rfl ?_
    refine tt_iadd (q := 22) dX11_refuse_21 rfl ?_
    refine tt_iast (q := 23) dX11_refuse_22 ia_101 (Nat.le_of_ble_eq_true rfl) rfl (Nat.le_of_ble_eq_true rfl : 6 < 7) rfl ?_
    replace h := h _ rfl
    refine tt_iload_n (q := 24) dX11_refuse_23 rfl rfl ?_
    refine tt_iret dX11_refuse_24 ⟨rfl, _, rfl, ?_⟩
    exact tt_iret dX11_row_18 ⟨rfl, _, rfl, h⟩

theorem g_X11_goes_0 {post : SG → Int32 → Prop} {σ : SG} {a : Int32} {b : Int32} (h : ((a < 0 → (∀ s6 : SG, s6 = up σ 101 1 ((σ 101 1) + (nI 1)) → post s6 (-1 : Int32))) ∧ (¬ a < 0 → ((((nI 2) * (σ 7 0)) ≤ a → (∀ s10 : SG, s10 = up σ 101 1 ((σ 101 1) + (nI 1)) → post s10 (-1 : Int32))) ∧ (¬ ((nI 2) * (σ 7 0)) ≤ a → ((b < 0 → (∀ s16 : SG, s16 = up σ 101 1 ((σ 101 1) + (nI 1)) → post s16 (-1 : Int32))) ∧ (¬ b < 0 → (((nI 6) ≤ b → (∀ s20 : SG, s20 = up σ 101 1 ((σ 101 1) + (nI 1)) → post s20 (-1 : Int32))) ∧ (¬ (nI 6) ≤ b → (∃ j22 : Nat, a = nI j22 ∧ j22 < 12 ∧ (∃ j25 : Nat, b = nI j25 ∧ j25 < 6 ∧ post σ (σ (8 + 1 + j22) j25)))))))))))) : T_X11_goes AF post 0 [.ref 0, .int a, .int b] [] σ := by
  refine tt_aload_n (q := 1) dX11_goes_0 rfl rfl ?_
  refine tt_getR (q := 4) dX11_goes_1 fl_X11_28 or_0_2 (Nat.le_of_ble_eq_true rfl) rfl rfl ?_
  refine tt_iload_n (q := 5) dX11_goes_4 rfl rfl ?_
  refine callVi_1 (q := 8) dX11_goes_5 (Or.inl ⟨rfl, rfl, ⟨⟨_, _, rfl, rfl, (Nat.le_of_ble_eq_true rfl), rc_7⟩, Nat.le_of_ble_eq_true rfl, ?_⟩⟩) (Nat.le_of_ble_eq_true rfl) rfl (fun t2 r1 ht2 => ht2)
  refine (show TT cX9_hasMove RX9 false CT0 CN0 _ _ _ none 0 [_, _] [] _ _ from ?_)
  refine tt_iload_n (q := 1) dX9_hasMove_0 rfl rfl ?_
  refine tt_if_lt (q := 4) (t := 18) dX9_hasMove_1 rfl rfl (fun c => ?_) (fun c => ?_)
  · replace h := h.1 c
    refine tt_iconst (q := 19) dX9_hasMove_18 ki_0 rfl ?_
    refine tt_iret dX9_hasMove_19 ⟨rfl, _, rfl, Or.inl nI_0, ?_⟩
    refine tt_if_eq (q := 11) (t := 18) dX11_goes_8 rfl rfl (fun c => ?_) (fun c => absurd c (by decide))
    clear c
    refine tt_aload_n (q := 19) dX11_goes_18 rfl rfl ?_
    refine tt_iconst (q := 20) dX11_goes_19 ki_m1 rfl ?_
    refine callVi_1 (q := 23) dX11_goes_20 (Or.inr (Or.inr (⟨rfl, rfl, ⟨⟨_, _, rfl, rfl, (Nat.le_of_ble_eq_true rfl), rc_0⟩, Nat.le_of_ble_eq_true rfl, ?_⟩⟩))) (Nat.le_of_ble_eq_true rfl) rfl (fun t5 r4 ht5 => ht5)
    refine (show TT cX11_refuse RX11 false CT0 CN0 _ _ _ none 0 [_, _, dum] [] _ _ from ?_)
    refine tt_iload_n (q := 1) dX11_refuse_0 rfl rfl ?_
    refine tt_inegE (v := nI 1) (q := 2) dX11_refuse_1 (by decide) rfl ?_
    refine sti_n_2 (q := 3) dX11_refuse_2 rfl rfl rfl ?_
    refine tt_iload_n (q := 4) dX11_refuse_3 rfl rfl ?_
    refine tt_if_le (q := 7) (t := 23) dX11_refuse_4 rfl rfl (fun c => absurd c (by decide)) (fun c => ?_)
    clear c
    refine tt_iload_n (q := 8) dX11_refuse_7 rfl rfl ?_
    refine tt_bipush (q := 10) dX11_refuse_8 bi_6 rfl ?_
    refine tt_icmp_gt (q := 13) (t := 23) dX11_refuse_10 rfl rfl (fun c => absurd c (by decide)) (fun c => ?_)
    clear c
    refine tt_aload_n (q := 14) dX11_refuse_13 rfl rfl ?_
    refine tt_getR (q := 17) dX11_refuse_14 fl_X11_96 or_0_11 (Nat.le_of_ble_eq_true rfl) rfl rfl ?_
    refine tt_iload_n (q := 18) dX11_refuse_17 rfl rfl ?_
    refine tt_dup2 (q := 19) dX11_refuse_18 rfl rfl rfl ?_
    refine tt_iald (q := 20) dX11_refuse_19 ia_101 (Nat.le_of_ble_eq_true rfl) rfl (Nat.le_of_ble_eq_true rfl : 1 < 7) rfl ?_
    refine tt_iconst (q := 21) dX11_refuse_20 ki_1 rfl ?_
    refine tt_iadd (q := 22) dX11_refuse_21 rfl ?_
    refine tt_iast (q := 23) dX11_refuse_22 ia_101 (Nat.le_of_ble_eq_true rfl) rfl (Nat.le_of_ble_eq_true rfl : 1 < 7) rfl ?_
    replace h := h _ rfl
    refine tt_iload_n (q := 24) dX11_refuse_23 rfl rfl ?_
    refine tt_iret dX11_refuse_24 ⟨rfl, _, rfl, ?_⟩
    exact tt_iret dX11_goes_23 ⟨rfl, _, rfl, h⟩
  · replace h := h.2 c
    refine tt_iload_n (q := 5) dX9_hasMove_4 rfl rfl ?_
    refine tt_iconst (q := 6) dX9_hasMove_5 ki_2 rfl ?_
    refine tt_aload_n (q := 7) dX9_hasMove_6 rfl rfl ?_
    refine tt_getI (q := 10) dX9_hasMove_7 fl_X9_33 oi_7_0 (Nat.le_of_ble_eq_true rfl) rfl ?_
    refine tt_imul (q := 11) dX9_hasMove_10 rfl ?_
    refine tt_icmp_ge (q := 14) (t := 18) dX9_hasMove_11 rfl rfl (fun c => ?_) (fun c => ?_)
    · replace h := h.1 c
      refine tt_iconst (q := 19) dX9_hasMove_18 ki_0 rfl ?_
      refine tt_iret dX9_hasMove_19 ⟨rfl, _, rfl, Or.inl nI_0, ?_⟩
      refine tt_if_eq (q := 11) (t := 18) dX11_goes_8 rfl rfl (fun c => ?_) (fun c => absurd c (by decide))
      clear c
      refine tt_aload_n (q := 19) dX11_goes_18 rfl rfl ?_
      refine tt_iconst (q := 20) dX11_goes_19 ki_m1 rfl ?_
      refine callVi_1 (q := 23) dX11_goes_20 (Or.inr (Or.inr (⟨rfl, rfl, ⟨⟨_, _, rfl, rfl, (Nat.le_of_ble_eq_true rfl), rc_0⟩, Nat.le_of_ble_eq_true rfl, ?_⟩⟩))) (Nat.le_of_ble_eq_true rfl) rfl (fun t9 r8 ht9 => ht9)
      refine (show TT cX11_refuse RX11 false CT0 CN0 _ _ _ none 0 [_, _, dum] [] _ _ from ?_)
      refine tt_iload_n (q := 1) dX11_refuse_0 rfl rfl ?_
      refine tt_inegE (v := nI 1) (q := 2) dX11_refuse_1 (by decide) rfl ?_
      refine sti_n_2 (q := 3) dX11_refuse_2 rfl rfl rfl ?_
      refine tt_iload_n (q := 4) dX11_refuse_3 rfl rfl ?_
      refine tt_if_le (q := 7) (t := 23) dX11_refuse_4 rfl rfl (fun c => absurd c (by decide)) (fun c => ?_)
      clear c
      refine tt_iload_n (q := 8) dX11_refuse_7 rfl rfl ?_
      refine tt_bipush (q := 10) dX11_refuse_8 bi_6 rfl ?_
      refine tt_icmp_gt (q := 13) (t := 23) dX11_refuse_10 rfl rfl (fun c => absurd c (by decide)) (fun c => ?_)
      clear c
      refine tt_aload_n (q := 14) dX11_refuse_13 rfl rfl ?_
      refine tt_getR (q := 17) dX11_refuse_14 fl_X11_96 or_0_11 (Nat.le_of_ble_eq_true rfl) rfl rfl ?_
      refine tt_iload_n (q := 18) dX11_refuse_17 rfl rfl ?_
      refine tt_dup2 (q := 19) dX11_refuse_18 rfl rfl rfl ?_
      refine tt_iald (q := 20) dX11_refuse_19 ia_101 (Nat.le_of_ble_eq_true rfl) rfl (Nat.le_of_ble_eq_true rfl : 1 < 7) rfl ?_
      refine tt_iconst (q := 21) dX11_refuse_20 ki_1 rfl ?_
      refine tt_iadd (q := 22) dX11_refuse_21 rfl ?_
      refine tt_iast (q := 23) dX11_refuse_22 ia_101 (Nat.le_of_ble_eq_true rfl) rfl (Nat.le_of_ble_eq_true rfl : 1 < 7) rfl ?_
      replace h := h _ rfl
      refine tt_iload_n (q := 24) dX11_refuse_23 rfl rfl ?_
      refine tt_iret dX11_refuse_24 ⟨rfl, _, rfl, ?_⟩
      exact tt_iret dX11_goes_23 ⟨rfl, _, rfl, h⟩
    · replace h := h.2 c
      refine tt_iconst (q := 15) dX9_hasMove_14 ki_1 rfl ?_
      refine tt_goto (t := 19) dX9_hasMove_15 rfl ?_
      refine tt_iret dX9_hasMove_19 ⟨rfl, _, rfl, Or.inr rfl, ?_⟩
      refine tt_if_eq (q := 11) (t := 18) dX11_goes_8 rfl rfl (fun c => absurd c (by decide)) (fun c => ?_)
      clear c
      refine tt_iload_n (q := 12) dX11_goes_11 rfl rfl ?_
      refine callSi_1 (q := 15) dX11_goes_12 (Or.inr (Or.inl ⟨rfl, rfl, ⟨rfl, Nat.le_of_ble_eq_true rfl, ?_⟩⟩)) (Nat.le_of_ble_eq_true rfl) rfl (fun t12 r11 ht12 => ht12)
      refine (show TT cX11_isPlace RX11 false CT0 CN0 _ _ _ none 0 [_] [] _ _ from ?_)
      refine tt_iload_n (q := 1) dX11_isPlace_0 rfl rfl ?_
      refine tt_if_lt (q := 4) (t := 14) dX11_isPlace_1 rfl rfl (fun c => ?_) (fun c => ?_)
      · replace h := h.1 c
        refine tt_iconst (q := 15) dX11_isPlace_14 ki_0 rfl ?_
        refine tt_iret dX11_isPlace_15 ⟨rfl, _, rfl, Or.inl nI_0, ?_⟩
        refine tt_if_ne (q := 18) (t := 24) dX11_goes_15 rfl rfl (fun c => absurd c (by decide)) (fun c => ?_)
        clear c
        refine tt_aload_n (q := 19) dX11_goes_18 rfl rfl ?_
        refine tt_iconst (q := 20) dX11_goes_19 ki_m1 rfl ?_
        refine callVi_1 (q := 23) dX11_goes_20 (Or.inr (Or.inr (⟨rfl, rfl, ⟨⟨_, _, rfl, rfl, (Nat.le_of_ble_eq_true rfl), rc_0⟩, Nat.le_of_ble_eq_true rfl, ?_⟩⟩))) (Nat.le_of_ble_eq_true rfl) rfl (fun t15 r14 ht15 => ht15)
        refine (show TT cX11_refuse RX11 false CT0 CN0 _ _ _ none 0 [_, _, dum] [] _ _ from ?_)
        refine tt_iload_n (q := 1) dX11_refuse_0 rfl rfl ?_
        refine tt_inegE (v := nI 1) (q := 2) dX11_refuse_1 (by decide) rfl ?_
        refine sti_n_2 (q := 3) dX11_refuse_2 rfl rfl rfl ?_
        refine tt_iload_n (q := 4) dX11_refuse_3 rfl rfl ?_
        refine tt_if_le (q := 7) (t := 23) dX11_refuse_4 rfl rfl (fun c => absurd c (by decide)) (fun c => ?_)
        clear c
        refine tt_iload_n (q := 8) dX11_refuse_7 rfl rfl ?_
        refine tt_bipush (q := 10) dX11_refuse_8 bi_6 rfl ?_
        refine tt_icmp_gt (q := 13) (t := 23) dX11_refuse_10 rfl rfl (fun c => absurd c (by decide)) (fun c => ?_)
        clear c
        refine tt_aload_n (q := 14) dX11_refuse_13 rfl rfl ?_
        refine tt_getR (q := 17) dX11_refuse_14 fl_X11_96 or_0_11 (Nat.le_of_ble_eq_true rfl) rfl rfl ?_
        refine tt_iload_n (q := 18) dX11_refuse_17 rfl rfl ?_
        refine tt_dup2 (q := 19) dX11_refuse_18 rfl rfl rfl ?_
        refine tt_iald (q := 20) dX11_refuse_19 ia_101 (Nat.le_of_ble_eq_true rfl) rfl (Nat.le_of_ble_eq_true rfl : 1 < 7) rfl ?_
        refine tt_iconst (q := 21) dX11_refuse_20 ki_1 rfl ?_
        refine tt_iadd (q := 22) dX11_refuse_21 rfl ?_
        refine tt_iast (q := 23) dX11_refuse_22 ia_101 (Nat.le_of_ble_eq_true rfl) rfl (Nat.le_of_ble_eq_true rfl : 1 < 7) rfl ?_
        replace h := h _ rfl
        refine tt_iload_n (q := 24) dX11_refuse_23 rfl rfl ?_
        refine tt_iret dX11_refuse_24 ⟨rfl, _, rfl, ?_⟩
        exact tt_iret dX11_goes_23 ⟨rfl, _, rfl, h⟩
      · replace h := h.2 c
        refine tt_iload_n (q := 5) dX11_isPlace_4 rfl rfl ?_
        refine tt_bipush (q := 7) dX11_isPlace_5 bi_6 rfl ?_
        refine tt_icmp_ge (q := 10) (t := 14) dX11_isPlace_7 rfl rfl (fun c => ?_) (fun c => ?_)
        · replace h := h.1 c
          refine tt_iconst (q := 15) dX11_isPlace_14 ki_0 rfl ?_
          refine tt_iret dX11_isPlace_15 ⟨rfl, _, rfl, Or.inl nI_0, ?_⟩
          refine tt_if_ne (q := 18) (t := 24) dX11_goes_15 rfl rfl (fun c => absurd c (by decide)) (fun c => ?_)
          clear c
          refine tt_aload_n (q := 19) dX11_goes_18 rfl rfl ?_
          refine tt_iconst (q := 20) dX11_goes_19 ki_m1 rfl ?_
          refine callVi_1 (q := 23) dX11_goes_20 (Or.inr (Or.inr (⟨rfl, rfl, ⟨⟨_, _, rfl, rfl, (Nat.le_of_ble_eq_true rfl), rc_0⟩, Nat.le_of_ble_eq_true rfl, ?_⟩⟩))) (Nat.le_of_ble_eq_true rfl) rfl (fun t19 r18 ht19 => ht19)
          refine (show TT cX11_refuse RX11 false CT0 CN0 _ _ _ none 0 [_, _, dum] [] _ _ from ?_)
          refine tt_iload_n (q := 1) dX11_refuse_0 rfl rfl ?_
          refine tt_inegE (v := nI 1) (q := 2) dX11_refuse_1 (by decide) rfl ?_
          refine sti_n_2 (q := 3) dX11_refuse_2 rfl rfl rfl ?_
          refine tt_iload_n (q := 4) dX11_refuse_3 rfl rfl ?_
          refine tt_if_le (q := 7) (t := 23) dX11_refuse_4 rfl rfl (fun c => absurd c (by decide)) (fun c => ?_)
          clear c
          refine tt_iload_n (q := 8) dX11_refuse_7 rfl rfl ?_
          refine tt_bipush (q := 10) dX11_refuse_8 bi_6 rfl ?_
          refine tt_icmp_gt (q := 13) (t := 23) dX11_refuse_10 rfl rfl (fun c => absurd c (by decide)) (fun c => ?_)
          clear c
          refine tt_aload_n (q := 14) dX11_refuse_13 rfl rfl ?_
          refine tt_getR (q := 17) dX11_refuse_14 fl_X11_96 or_0_11 (Nat.le_of_ble_eq_true rfl) rfl rfl ?_
          refine tt_iload_n (q := 18) dX11_refuse_17 rfl rfl ?_
          refine tt_dup2 (q := 19) dX11_refuse_18 rfl rfl rfl ?_
          refine tt_iald (q := 20) dX11_refuse_19 ia_101 (Nat.le_of_ble_eq_true rfl) rfl (Nat.le_of_ble_eq_true rfl : 1 < 7) rfl ?_
          refine tt_iconst (q := 21) dX11_refuse_20 ki_1 rfl ?_
          refine tt_iadd (q := 22) dX11_refuse_21 rfl ?_
          refine tt_iast (q := 23) dX11_refuse_22 ia_101 (Nat.le_of_ble_eq_true rfl) rfl (Nat.le_of_ble_eq_true rfl : 1 < 7) rfl ?_
          replace h := h _ rfl
          refine tt_iload_n (q := 24) dX11_refuse_23 rfl rfl ?_
          refine tt_iret dX11_refuse_24 ⟨rfl, _, rfl, ?_⟩
          exact tt_iret dX11_goes_23 ⟨rfl, _, rfl, h⟩
        · replace h := h.2 c
          refine tt_iconst (q := 11) dX11_isPlace_10 ki_1 rfl ?_
          refine tt_goto (t := 15) dX11_isPlace_11 rfl ?_
          refine tt_iret dX11_isPlace_15 ⟨rfl, _, rfl, Or.inr rfl, ?_⟩
          refine tt_if_ne (q := 18) (t := 24) dX11_goes_15 rfl rfl (fun c => ?_) (fun c => absurd c (by decide))
          clear c
          refine tt_aload_n (q := 25) dX11_goes_24 rfl rfl ?_
          refine tt_getR (q := 28) dX11_goes_25 fl_X11_28 or_0_2 (Nat.le_of_ble_eq_true rfl) rfl rfl ?_
          refine tt_getR (q := 31) dX11_goes_28 fl_X11_122 or_7_1 (Nat.le_of_ble_eq_true rfl) rfl rfl ?_
          refine tt_iload_n (q := 32) dX11_goes_31 rfl rfl ?_
          obtain ⟨j22, e23, l21, h⟩ := h
          refine tt_aald (q := 33) dX11_goes_32 ig_8 (Nat.le_of_ble_eq_true rfl) e23 l21 rfl ?_
          refine tt_iload_n (q := 34) dX11_goes_33 rfl rfl ?_
          obtain ⟨j25, e26, l24, h⟩ := h
          refine tt_iald (q := 35) dX11_goes_34 (gi_8 _ l21) (gl_8 _ l21) e26 l24 rfl ?_
          exact tt_iret dX11_goes_35 ⟨rfl, _, rfl, h⟩

theorem g_X11_rowOf_0 {post : SG → Int32 → Prop} {σ : SG} {a : Int32} {b : Int32} (h : ((a < 0 → (∀ s6 : SG, s6 = up σ 101 1 ((σ 101 1) + (nI 1)) → post s6 (-1 : Int32))) ∧ (¬ a < 0 → (((σ 36 0) ≤ a → (∀ s10 : SG, s10 = up σ 101 1 ((σ 101 1) + (nI 1)) → post s10 (-1 : Int32))) ∧ (¬ (σ 36 0) ≤ a → ((¬ b = (-1 : Int32) → ((b < 0 → post σ (-9 : Int32)) ∧ (¬ b < 0 → (∃ j16 : Nat, a = nI j16 ∧ j16 < 10 ∧ (((σ 37 j16) ≤ b → post σ (-9 : Int32)) ∧ (¬ (σ 37 j16) ≤ b → (∃ j20 : Nat, a = nI j20 ∧ j20 < 10 ∧ (∃ j23 : Nat, b = nI j23 ∧ j23 < 8 ∧ post σ (σ (38 + 1 + j20) j23))))))))) ∧ (b = (-1 : Int32) → (∃ j26 : Nat, a = nI j26 ∧ j26 < 10 ∧ post σ (σ 37 j26))))))))) : T_X11_rowOf AF post 0 [.ref 0, .int a, .int b] [] σ := by
  refine tt_aload_n (q := 1) dX11_rowOf_0 rfl rfl ?_
  refine tt_getR (q := 4) dX11_rowOf_1 fl_X11_37 or_0_3 (Nat.le_of_ble_eq_true rfl) rfl rfl ?_
  refine tt_iload_n (q := 5) dX11_rowOf_4 rfl rfl ?_
  refine callVi_1 (q := 8) dX11_rowOf_5 (Or.inl ⟨rfl, rfl, ⟨⟨_, _, rfl, rfl, (Nat.le_of_ble_eq_true rfl), rc_36⟩, Nat.le_of_ble_eq_true rfl, ?_⟩⟩) (Nat.le_of_ble_eq_true rfl) rfl (fun t2 r1 ht2 => ht2)
  refine (show TT cX5_has RX5 false CT0 CN0 _ _ _ none 0 [_, _] [] _ _ from ?_)
  refine tt_iload_n (q := 1) dX5_has_0 rfl rfl ?_
  refine tt_if_lt (q := 4) (t := 16) dX5_has_1 rfl rfl (fun c => ?_) (fun c => ?_)
  · replace h := h.1 c
    refine tt_iconst (q := 17) dX5_has_16 ki_0 rfl ?_
    refine tt_iret dX5_has_17 ⟨rfl, _, rfl, Or.inl nI_0, ?_⟩
    refine tt_if_ne (q := 11) (t := 17) dX11_rowOf_8 rfl rfl (fun c => absurd c (by decide)) (fun c => ?_)
    clear c
    refine tt_aload_n (q := 12) dX11_rowOf_11 rfl rfl ?_
    refine tt_iconst (q := 13) dX11_rowOf_12 ki_m1 rfl ?_
    refine callVi_1 (q := 16) dX11_rowOf_13 (Or.inr (Or.inl ⟨rfl, rfl, ⟨⟨_, _, rfl, rfl, (Nat.le_of_ble_eq_true rfl), rc_0⟩, Nat.le_of_ble_eq_true rfl, ?_⟩⟩)) (Nat.le_of_ble_eq_true rfl) rfl (fun t5 r4 ht5 => ht5)
    refine (show TT cX11_refuse RX11 false CT0 CN0 _ _ _ none 0 [_, _, dum] [] _ _ from ?_)
    refine tt_iload_n (q := 1) dX11_refuse_0 rfl rfl ?_
    refine tt_inegE (v := nI 1) (q := 2) dX11_refuse_1 (by decide) rfl ?_
    refine sti_n_2 (q := 3) dX11_refuse_2 rfl rfl rfl ?_
    refine tt_iload_n (q := 4) dX11_refuse_3 rfl rfl ?_
    refine tt_if_le (q := 7) (t := 23) dX11_refuse_4 rfl rfl (fun c => absurd c (by decide)) (fun c => ?_)
    clear c
    refine tt_iload_n (q := 8) dX11_refuse_7 rfl rfl ?_
    refine tt_bipush (q := 10) dX11_refuse_8 bi_6 rfl ?_
    refine tt_icmp_gt (q := 13) (t := 23) dX11_refuse_10 rfl rfl (fun c => absurd c (by decide)) (fun c => ?_)
    clear c
    refine tt_aload_n (q := 14) dX11_refuse_13 rfl rfl ?_
    refine tt_getR (q := 17) dX11_refuse_14 fl_X11_96 or_0_11 (Nat.le_of_ble_eq_true rfl) rfl rfl ?_
    refine tt_iload_n (q := 18) dX11_refuse_17 rfl rfl ?_
    refine tt_dup2 (q := 19) dX11_refuse_18 rfl rfl rfl ?_
    refine tt_iald (q := 20) dX11_refuse_19 ia_101 (Nat.le_of_ble_eq_true rfl) rfl (Nat.le_of_ble_eq_true rfl : 1 < 7) rfl ?_
    refine tt_iconst (q := 21) dX11_refuse_20 ki_1 rfl ?_
    refine tt_iadd (q := 22) dX11_refuse_21 rfl ?_
    refine tt_iast (q := 23) dX11_refuse_22 ia_101 (Nat.le_of_ble_eq_true rfl) rfl (Nat.le_of_ble_eq_true rfl : 1 < 7) rfl ?_
    replace h := h _ rfl
    refine tt_iload_n (q := 24) dX11_refuse_23 rfl rfl ?_
    refine tt_iret dX11_refuse_24 ⟨rfl, _, rfl, ?_⟩
    exact tt_iret dX11_rowOf_16 ⟨rfl, _, rfl, h⟩
  · replace h := h.2 c
    refine tt_iload_n (q := 5) dX5_has_4 rfl rfl ?_
    refine tt_aload_n (q := 6) dX5_has_5 rfl rfl ?_
    refine tt_getI (q := 9) dX5_has_6 fl_X5_34 oi_36_0 (Nat.le_of_ble_eq_true rfl) rfl ?_
    refine tt_icmp_ge (q := 12) (t := 16) dX5_has_9 rfl rfl (fun c => ?_) (fun c => ?_)
    · replace h := h.1 c
      refine tt_iconst (q := 17) dX5_has_16 ki_0 rfl ?_
      refine tt_iret dX5_has_17 ⟨rfl, _, rfl, Or.inl nI_0, ?_⟩
      refine tt_if_ne (q := 11) (t := 17) dX11_rowOf_8 rfl rfl (fun c => absurd c (by decide)) (fun c => ?_)
      clear c
      refine tt_aload_n (q := 12) dX11_rowOf_11 rfl rfl ?_
      refine tt_iconst (q := 13) dX11_rowOf_12 ki_m1 rfl ?_
      refine callVi_1 (q := 16) dX11_rowOf_13 (Or.inr (Or.inl ⟨rfl, rfl, ⟨⟨_, _, rfl, rfl, (Nat.le_of_ble_eq_true rfl), rc_0⟩, Nat.le_of_ble_eq_true rfl, ?_⟩⟩)) (Nat.le_of_ble_eq_true rfl) rfl (fun t9 r8 ht9 => ht9)
      refine (show TT cX11_refuse RX11 false CT0 CN0 _ _ _ none 0 [_, _, dum] [] _ _ from ?_)
      refine tt_iload_n (q := 1) dX11_refuse_0 rfl rfl ?_
      refine tt_inegE (v := nI 1) (q := 2) dX11_refuse_1 (by decide) rfl ?_
      refine sti_n_2 (q := 3) dX11_refuse_2 rfl rfl rfl ?_
      refine tt_iload_n (q := 4) dX11_refuse_3 rfl rfl ?_
      refine tt_if_le (q := 7) (t := 23) dX11_refuse_4 rfl rfl (fun c => absurd c (by decide)) (fun c => ?_)
      clear c
      refine tt_iload_n (q := 8) dX11_refuse_7 rfl rfl ?_
      refine tt_bipush (q := 10) dX11_refuse_8 bi_6 rfl ?_
      refine tt_icmp_gt (q := 13) (t := 23) dX11_refuse_10 rfl rfl (fun c => absurd c (by decide)) (fun c => ?_)
      clear c
      refine tt_aload_n (q := 14) dX11_refuse_13 rfl rfl ?_
      refine tt_getR (q := 17) dX11_refuse_14 fl_X11_96 or_0_11 (Nat.le_of_ble_eq_true rfl) rfl rfl ?_
      refine tt_iload_n (q := 18) dX11_refuse_17 rfl rfl ?_
      refine tt_dup2 (q := 19) dX11_refuse_18 rfl rfl rfl ?_
      refine tt_iald (q := 20) dX11_refuse_19 ia_101 (Nat.le_of_ble_eq_true rfl) rfl (Nat.le_of_ble_eq_true rfl : 1 < 7) rfl ?_
      refine tt_iconst (q := 21) dX11_refuse_20 ki_1 rfl ?_
      refine tt_iadd (q := 22) dX11_refuse_21 rfl ?_
      refine tt_iast (q := 23) dX11_refuse_22 ia_101 (Nat.le_of_ble_eq_true rfl) rfl (Nat.le_of_ble_eq_true rfl : 1 < 7) rfl ?_
      replace h := h _ rfl
      refine tt_iload_n (q := 24) dX11_refuse_23 rfl rfl ?_
      refine tt_iret dX11_refuse_24 ⟨rfl, _, rfl, ?_⟩
      exact tt_iret dX11_rowOf_16 ⟨rfl, _, rfl, h⟩
    · replace h := h.2 c
      refine tt_iconst (q := 13) dX5_has_12 ki_1 rfl ?_
      refine tt_goto (t := 17) dX5_has_13 rfl ?_
      refine tt_iret dX5_has_17 ⟨rfl, _, rfl, Or.inr rfl, ?_⟩
      refine tt_if_ne (q := 11) (t := 17) dX11_rowOf_8 rfl rfl (fun c => ?_) (fun c => absurd c (by decide))
      clear c
      refine tt_iload_n (q := 18) dX11_rowOf_17 rfl rfl ?_
      refine tt_iconst (q := 19) dX11_rowOf_18 ki_m1 rfl ?_
      refine tt_icmp_ne (q := 22) (t := 32) dX11_rowOf_19 rfl rfl (fun c => ?_) (fun c => ?_)
      · replace h := h.1 c
        refine tt_aload_n (q := 33) dX11_rowOf_32 rfl rfl ?_
        refine tt_getR (q := 36) dX11_rowOf_33 fl_X11_37 or_0_3 (Nat.le_of_ble_eq_true rfl) rfl rfl ?_
        refine tt_iload_n (q := 37) dX11_rowOf_36 rfl rfl ?_
        refine tt_iload_n (q := 38) dX11_rowOf_37 rfl rfl ?_
        refine callVi_2 (q := 41) dX11_rowOf_38 (Or.inr (Or.inr (⟨rfl, rfl, ⟨⟨_, _, rfl, rfl, (Nat.le_of_ble_eq_true rfl), rc_36⟩, Nat.le_of_ble_eq_true rfl, ?_⟩⟩))) (Nat.le_of_ble_eq_true rfl) rfl (fun t13 r12 ht13 => ht13)
        refine (show TT cX5_hasMove RX5 false CT0 CN0 _ _ _ none 0 [_, _, _] [] _ _ from ?_)
        refine tt_iload_n (q := 1) dX5_hasMove_0 rfl rfl ?_
        refine tt_if_lt (q := 4) (t := 18) dX5_hasMove_1 rfl rfl (fun c => ?_) (fun c => ?_)
        · replace h := h.1 c
          refine tt_iconst (q := 19) dX5_hasMove_18 ki_0 rfl ?_
          refine tt_iret dX5_hasMove_19 ⟨rfl, _, rfl, Or.inl nI_0, ?_⟩
          refine tt_if_eq (q := 44) (t := 58) dX11_rowOf_41 rfl rfl (fun c => ?_) (fun c => absurd c (by decide))
          clear c
          refine tt_bipush (q := 60) dX11_rowOf_58 bi_m9 rfl ?_
          exact tt_iret dX11_rowOf_60 ⟨rfl, _, rfl, h⟩
        · replace h := h.2 c
          refine tt_iload_n (q := 5) dX5_hasMove_4 rfl rfl ?_
          refine tt_aload_n (q := 6) dX5_hasMove_5 rfl rfl ?_
          refine tt_getR (q := 9) dX5_hasMove_6 fl_X5_9 or_36_1 (Nat.le_of_ble_eq_true rfl) rfl rfl ?_
          refine tt_iload_n (q := 10) dX5_hasMove_9 rfl rfl ?_
          obtain ⟨j16, e17, l15, h⟩ := h
          refine tt_iald (q := 11) dX5_hasMove_10 ia_37 (Nat.le_of_ble_eq_true rfl) e17 l15 rfl ?_
          refine tt_icmp_ge (q := 14) (t := 18) dX5_hasMove_11 rfl rfl (fun c => ?_) (fun c => ?_)
          · replace h := h.1 c
            refine tt_iconst (q := 19) dX5_hasMove_18 ki_0 rfl ?_
            refine tt_iret dX5_hasMove_19 ⟨rfl, _, rfl, Or.inl nI_0, ?_⟩
            refine tt_if_eq (q := 44) (t := 58) dX11_rowOf_41 rfl rfl (fun c => ?_) (fun c => absurd c (by decide))
            clear c
            refine tt_bipush (q := 60) dX11_rowOf_58 bi_m9 rfl ?_
            exact tt_iret dX11_rowOf_60 ⟨rfl, _, rfl, h⟩
          · replace h := h.2 c
            refine tt_iconst (q := 15) dX5_hasMove_14 ki_1 rfl ?_
            refine tt_goto (t := 19) dX5_hasMove_15 rfl ?_
            refine tt_iret dX5_hasMove_19 ⟨rfl, _, rfl, Or.inr rfl, ?_⟩
            refine tt_if_eq (q := 44) (t := 58) dX11_rowOf_41 rfl rfl (fun c => absurd c (by decide)) (fun c => ?_)
            clear c
            refine tt_aload_n (q := 45) dX11_rowOf_44 rfl rfl ?_
            refine tt_getR (q := 48) dX11_rowOf_45 fl_X11_37 or_0_3 (Nat.le_of_ble_eq_true rfl) rfl rfl ?_
            refine tt_getR (q := 51) dX11_rowOf_48 fl_X11_138 or_36_2 (Nat.le_of_ble_eq_true rfl) rfl rfl ?_
            refine tt_iload_n (q := 52) dX11_rowOf_51 rfl rfl ?_
            obtain ⟨j20, e21, l19, h⟩ := h
            refine tt_aald (q := 53) dX11_rowOf_52 ig_38 (Nat.le_of_ble_eq_true rfl) e21 l19 rfl ?_
            refine tt_iload_n (q := 54) dX11_rowOf_53 rfl rfl ?_
            obtain ⟨j23, e24, l22, h⟩ := h
            refine tt_iald (q := 55) dX11_rowOf_54 (gi_38 _ l19) (gl_38 _ l19) e24 l22 rfl ?_
            refine tt_goto (t := 60) dX11_rowOf_55 rfl ?_
            exact tt_iret dX11_rowOf_60 ⟨rfl, _, rfl, h⟩
      · replace h := h.2 c
        refine tt_aload_n (q := 23) dX11_rowOf_22 rfl rfl ?_
        refine tt_getR (q := 26) dX11_rowOf_23 fl_X11_37 or_0_3 (Nat.le_of_ble_eq_true rfl) rfl rfl ?_
        refine tt_getR (q := 29) dX11_rowOf_26 fl_X11_160 or_36_1 (Nat.le_of_ble_eq_true rfl) rfl rfl ?_
        refine tt_iload_n (q := 30) dX11_rowOf_29 rfl rfl ?_
        obtain ⟨j26, e27, l25, h⟩ := h
        refine tt_iald (q := 31) dX11_rowOf_30 ia_37 (Nat.le_of_ble_eq_true rfl) e27 l25 rfl ?_
        exact tt_iret dX11_rowOf_31 ⟨rfl, _, rfl, h⟩

theorem g_X11_does_0 {post : SG → Int32 → Prop} {σ : SG} {a : Int32} {b : Int32} (h : ((a < 0 → (∀ s6 : SG, s6 = up σ 101 1 ((σ 101 1) + (nI 1)) → post s6 (-1 : Int32))) ∧ (¬ a < 0 → (((σ 36 0) ≤ a → (∀ s10 : SG, s10 = up σ 101 1 ((σ 101 1) + (nI 1)) → post s10 (-1 : Int32))) ∧ (¬ (σ 36 0) ≤ a → ((b < 0 → (∀ s16 : SG, s16 = up σ 101 1 ((σ 101 1) + (nI 1)) → post s16 (-1 : Int32))) ∧ (¬ b < 0 → (((nI 6) ≤ b → (∀ s20 : SG, s20 = up σ 101 1 ((σ 101 1) + (nI 1)) → post s20 (-1 : Int32))) ∧ (¬ (nI 6) ≤ b → (∃ p23 : SG → Int32 → Prop, IN_X5_goal AF σ [.ref 36, .int a, .int b] p23 ∧ ∀ (t22 : SG) (r21 : Int32), p23 t22 r21 → post t22 r21)))))))))) : T_X11_does AF post 0 [.ref 0, .int a, .int b] [] σ := by
  refine tt_aload_n (q := 1) dX11_does_0 rfl rfl ?_
  refine tt_getR (q := 4) dX11_does_1 fl_X11_37 or_0_3 (Nat.le_of_ble_eq_true rfl) rfl rfl ?_
  refine tt_iload_n (q := 5) dX11_does_4 rfl rfl ?_
  refine callVi_1 (q := 8) dX11_does_5 (Or.inl ⟨rfl, rfl, ⟨⟨_, _, rfl, rfl, (Nat.le_of_ble_eq_true rfl), rc_36⟩, Nat.le_of_ble_eq_true rfl, ?_⟩⟩) (Nat.le_of_ble_eq_true rfl) rfl (fun t2 r1 ht2 => ht2)
  refine (show TT cX5_has RX5 false CT0 CN0 _ _ _ none 0 [_, _] [] _ _ from ?_)
  refine tt_iload_n (q := 1) dX5_has_0 rfl rfl ?_
  refine tt_if_lt (q := 4) (t := 16) dX5_has_1 rfl rfl (fun c => ?_) (fun c => ?_)
  · replace h := h.1 c
    refine tt_iconst (q := 17) dX5_has_16 ki_0 rfl ?_
    refine tt_iret dX5_has_17 ⟨rfl, _, rfl, Or.inl nI_0, ?_⟩
    refine tt_if_eq (q := 11) (t := 18) dX11_does_8 rfl rfl (fun c => ?_) (fun c => absurd c (by decide))
    clear c
    refine tt_aload_n (q := 19) dX11_does_18 rfl rfl ?_
    refine tt_iconst (q := 20) dX11_does_19 ki_m1 rfl ?_
    refine callVi_1 (q := 23) dX11_does_20 (Or.inr (Or.inr (Or.inl ⟨rfl, rfl, ⟨⟨_, _, rfl, rfl, (Nat.le_of_ble_eq_true rfl), rc_0⟩, Nat.le_of_ble_eq_true rfl, ?_⟩⟩))) (Nat.le_of_ble_eq_true rfl) rfl (fun t5 r4 ht5 => ht5)
    refine (show TT cX11_refuse RX11 false CT0 CN0 _ _ _ none 0 [_, _, dum] [] _ _ from ?_)
    refine tt_iload_n (q := 1) dX11_refuse_0 rfl rfl ?_
    refine tt_inegE (v := nI 1) (q := 2) dX11_refuse_1 (by decide) rfl ?_
    refine sti_n_2 (q := 3) dX11_refuse_2 rfl rfl rfl ?_
    refine tt_iload_n (q := 4) dX11_refuse_3 rfl rfl ?_
    refine tt_if_le (q := 7) (t := 23) dX11_refuse_4 rfl rfl (fun c => absurd c (by decide)) (fun c => ?_)
    clear c
    refine tt_iload_n (q := 8) dX11_refuse_7 rfl rfl ?_
    refine tt_bipush (q := 10) dX11_refuse_8 bi_6 rfl ?_
    refine tt_icmp_gt (q := 13) (t := 23) dX11_refuse_10 rfl rfl (fun c => absurd c (by decide)) (fun c => ?_)
    clear c
    refine tt_aload_n (q := 14) dX11_refuse_13 rfl rfl ?_
    refine tt_getR (q := 17) dX11_refuse_14 fl_X11_96 or_0_11 (Nat.le_of_ble_eq_true rfl) rfl rfl ?_
    refine tt_iload_n (q := 18) dX11_refuse_17 rfl rfl ?_
    refine tt_dup2 (q := 19) dX11_refuse_18 rfl rfl rfl ?_
    refine tt_iald (q := 20) dX11_refuse_19 ia_101 (Nat.le_of_ble_eq_true rfl) rfl (Nat.le_of_ble_eq_true rfl : 1 < 7) rfl ?_
    refine tt_iconst (q := 21) dX11_refuse_20 ki_1 rfl ?_
    refine tt_iadd (q := 22) dX11_refuse_21 rfl ?_
    refine tt_iast (q := 23) dX11_refuse_22 ia_101 (Nat.le_of_ble_eq_true rfl) rfl (Nat.le_of_ble_eq_true rfl : 1 < 7) rfl ?_
    replace h := h _ rfl
    refine tt_iload_n (q := 24) dX11_refuse_23 rfl rfl ?_
    refine tt_iret dX11_refuse_24 ⟨rfl, _, rfl, ?_⟩
    exact tt_iret dX11_does_23 ⟨rfl, _, rfl, h⟩
  · replace h := h.2 c
    refine tt_iload_n (q := 5) dX5_has_4 rfl rfl ?_
    refine tt_aload_n (q := 6) dX5_has_5 rfl rfl ?_
    refine tt_getI (q := 9) dX5_has_6 fl_X5_34 oi_36_0 (Nat.le_of_ble_eq_true rfl) rfl ?_
    refine tt_icmp_ge (q := 12) (t := 16) dX5_has_9 rfl rfl (fun c => ?_) (fun c => ?_)
    · replace h := h.1 c
      refine tt_iconst (q := 17) dX5_has_16 ki_0 rfl ?_
      refine tt_iret dX5_has_17 ⟨rfl, _, rfl, Or.inl nI_0, ?_⟩
      refine tt_if_eq (q := 11) (t := 18) dX11_does_8 rfl rfl (fun c => ?_) (fun c => absurd c (by decide))
      clear c
      refine tt_aload_n (q := 19) dX11_does_18 rfl rfl ?_
      refine tt_iconst (q := 20) dX11_does_19 ki_m1 rfl ?_
      refine callVi_1 (q := 23) dX11_does_20 (Or.inr (Or.inr (Or.inl ⟨rfl, rfl, ⟨⟨_, _, rfl, rfl, (Nat.le_of_ble_eq_true rfl), rc_0⟩, Nat.le_of_ble_eq_true rfl, ?_⟩⟩))) (Nat.le_of_ble_eq_true rfl) rfl (fun t9 r8 ht9 => ht9)
      refine (show TT cX11_refuse RX11 false CT0 CN0 _ _ _ none 0 [_, _, dum] [] _ _ from ?_)
      refine tt_iload_n (q := 1) dX11_refuse_0 rfl rfl ?_
      refine tt_inegE (v := nI 1) (q := 2) dX11_refuse_1 (by decide) rfl ?_
      refine sti_n_2 (q := 3) dX11_refuse_2 rfl rfl rfl ?_
      refine tt_iload_n (q := 4) dX11_refuse_3 rfl rfl ?_
      refine tt_if_le (q := 7) (t := 23) dX11_refuse_4 rfl rfl (fun c => absurd c (by decide)) (fun c => ?_)
      clear c
      refine tt_iload_n (q := 8) dX11_refuse_7 rfl rfl ?_
      refine tt_bipush (q := 10) dX11_refuse_8 bi_6 rfl ?_
      refine tt_icmp_gt (q := 13) (t := 23) dX11_refuse_10 rfl rfl (fun c => absurd c (by decide)) (fun c => ?_)
      clear c
      refine tt_aload_n (q := 14) dX11_refuse_13 rfl rfl ?_
      refine tt_getR (q := 17) dX11_refuse_14 fl_X11_96 or_0_11 (Nat.le_of_ble_eq_true rfl) rfl rfl ?_
      refine tt_iload_n (q := 18) dX11_refuse_17 rfl rfl ?_
      refine tt_dup2 (q := 19) dX11_refuse_18 rfl rfl rfl ?_
      refine tt_iald (q := 20) dX11_refuse_19 ia_101 (Nat.le_of_ble_eq_true rfl) rfl (Nat.le_of_ble_eq_true rfl : 1 < 7) rfl ?_
      refine tt_iconst (q := 21) dX11_refuse_20 ki_1 rfl ?_
      refine tt_iadd (q := 22) dX11_refuse_21 rfl ?_
      refine tt_iast (q := 23) dX11_refuse_22 ia_101 (Nat.le_of_ble_eq_true rfl) rfl (Nat.le_of_ble_eq_true rfl : 1 < 7) rfl ?_
      replace h := h _ rfl
      refine tt_iload_n (q := 24) dX11_refuse_23 rfl rfl ?_
      refine tt_iret dX11_refuse_24 ⟨rfl, _, rfl, ?_⟩
      exact tt_iret dX11_does_23 ⟨rfl, _, rfl, h⟩
    · replace h := h.2 c
      refine tt_iconst (q := 13) dX5_has_12 ki_1 rfl ?_
      refine tt_goto (t := 17) dX5_has_13 rfl ?_
      refine tt_iret dX5_has_17 ⟨rfl, _, rfl, Or.inr rfl, ?_⟩
      refine tt_if_eq (q := 11) (t := 18) dX11_does_8 rfl rfl (fun c => absurd c (by decide)) (fun c => ?_)
      clear c
      refine tt_iload_n (q := 12) dX11_does_11 rfl rfl ?_
      refine callSi_1 (q := 15) dX11_does_12 (Or.inr (Or.inl ⟨rfl, rfl, ⟨rfl, Nat.le_of_ble_eq_true rfl, ?_⟩⟩)) (Nat.le_of_ble_eq_true rfl) rfl (fun t12 r11 ht12 => ht12)
      refine (show TT cX11_isPlace RX11 false CT0 CN0 _ _ _ none 0 [_] [] _ _ from ?_)
      refine tt_iload_n (q := 1) dX11_isPlace_0 rfl rfl ?_
      refine tt_if_lt (q := 4) (t := 14) dX11_isPlace_1 rfl rfl (fun c => ?_) (fun c => ?_)
      · replace h := h.1 c
        refine tt_iconst (q := 15) dX11_isPlace_14 ki_0 rfl ?_
        refine tt_iret dX11_isPlace_15 ⟨rfl, _, rfl, Or.inl nI_0, ?_⟩
        refine tt_if_ne (q := 18) (t := 24) dX11_does_15 rfl rfl (fun c => absurd c (by decide)) (fun c => ?_)
        clear c
        refine tt_aload_n (q := 19) dX11_does_18 rfl rfl ?_
        refine tt_iconst (q := 20) dX11_does_19 ki_m1 rfl ?_
        refine callVi_1 (q := 23) dX11_does_20 (Or.inr (Or.inr (Or.inl ⟨rfl, rfl, ⟨⟨_, _, rfl, rfl, (Nat.le_of_ble_eq_true rfl), rc_0⟩, Nat.le_of_ble_eq_true rfl, ?_⟩⟩))) (Nat.le_of_ble_eq_true rfl) rfl (fun t15 r14 ht15 => ht15)
        refine (show TT cX11_refuse RX11 false CT0 CN0 _ _ _ none 0 [_, _, dum] [] _ _ from ?_)
        refine tt_iload_n (q := 1) dX11_refuse_0 rfl rfl ?_
        refine tt_inegE (v := nI 1) (q := 2) dX11_refuse_1 (by decide) rfl ?_
        refine sti_n_2 (q := 3) dX11_refuse_2 rfl rfl rfl ?_
        refine tt_iload_n (q := 4) dX11_refuse_3 rfl rfl ?_
        refine tt_if_le (q := 7) (t := 23) dX11_refuse_4 rfl rfl (fun c => absurd c (by decide)) (fun c => ?_)
        clear c
        refine tt_iload_n (q := 8) dX11_refuse_7 rfl rfl ?_
        refine tt_bipush (q := 10) dX11_refuse_8 bi_6 rfl ?_
        refine tt_icmp_gt (q := 13) (t := 23) dX11_refuse_10 rfl rfl (fun c => absurd c (by decide)) (fun c => ?_)
        clear c
        refine tt_aload_n (q := 14) dX11_refuse_13 rfl rfl ?_
        refine tt_getR (q := 17) dX11_refuse_14 fl_X11_96 or_0_11 (Nat.le_of_ble_eq_true rfl) rfl rfl ?_
        refine tt_iload_n (q := 18) dX11_refuse_17 rfl rfl ?_
        refine tt_dup2 (q := 19) dX11_refuse_18 rfl rfl rfl ?_
        refine tt_iald (q := 20) dX11_refuse_19 ia_101 (Nat.le_of_ble_eq_true rfl) rfl (Nat.le_of_ble_eq_true rfl : 1 < 7) rfl ?_
        refine tt_iconst (q := 21) dX11_refuse_20 ki_1 rfl ?_
        refine tt_iadd (q := 22) dX11_refuse_21 rfl ?_
        refine tt_iast (q := 23) dX11_refuse_22 ia_101 (Nat.le_of_ble_eq_true rfl) rfl (Nat.le_of_ble_eq_true rfl : 1 < 7) rfl ?_
        replace h := h _ rfl
        refine tt_iload_n (q := 24) dX11_refuse_23 rfl rfl ?_
        refine tt_iret dX11_refuse_24 ⟨rfl, _, rfl, ?_⟩
        exact tt_iret dX11_does_23 ⟨rfl, _, rfl, h⟩
      · replace h := h.2 c
        refine tt_iload_n (q := 5) dX11_isPlace_4 rfl rfl ?_
        refine tt_bipush (q := 7) dX11_isPlace_5 bi_6 rfl ?_
        refine tt_icmp_ge (q := 10) (t := 14) dX11_isPlace_7 rfl rfl (fun c => ?_) (fun c => ?_)
        · replace h := h.1 c
          refine tt_iconst (q := 15) dX11_isPlace_14 ki_0 rfl ?_
          refine tt_iret dX11_isPlace_15 ⟨rfl, _, rfl, Or.inl nI_0, ?_⟩
          refine tt_if_ne (q := 18) (t := 24) dX11_does_15 rfl rfl (fun c => absurd c (by decide)) (fun c => ?_)
          clear c
          refine tt_aload_n (q := 19) dX11_does_18 rfl rfl ?_
          refine tt_iconst (q := 20) dX11_does_19 ki_m1 rfl ?_
          refine callVi_1 (q := 23) dX11_does_20 (Or.inr (Or.inr (Or.inl ⟨rfl, rfl, ⟨⟨_, _, rfl, rfl, (Nat.le_of_ble_eq_true rfl), rc_0⟩, Nat.le_of_ble_eq_true rfl, ?_⟩⟩))) (Nat.le_of_ble_eq_true rfl) rfl (fun t19 r18 ht19 => ht19)
          refine (show TT cX11_refuse RX11 false CT0 CN0 _ _ _ none 0 [_, _, dum] [] _ _ from ?_)
          refine tt_iload_n (q := 1) dX11_refuse_0 rfl rfl ?_
          refine tt_inegE (v := nI 1) (q := 2) dX11_refuse_1 (by decide) rfl ?_
          refine sti_n_2 (q := 3) dX11_refuse_2 rfl rfl rfl ?_
          refine tt_iload_n (q := 4) dX11_refuse_3 rfl rfl ?_
          refine tt_if_le (q := 7) (t := 23) dX11_refuse_4 rfl rfl (fun c => absurd c (by decide)) (fun c => ?_)
          clear c
          refine tt_iload_n (q := 8) dX11_refuse_7 rfl rfl ?_
          refine tt_bipush (q := 10) dX11_refuse_8 bi_6 rfl ?_
          refine tt_icmp_gt (q := 13) (t := 23) dX11_refuse_10 rfl rfl (fun c => absurd c (by decide)) (fun c => ?_)
          clear c
          refine tt_aload_n (q := 14) dX11_refuse_13 rfl rfl ?_
          refine tt_getR (q := 17) dX11_refuse_14 fl_X11_96 or_0_11 (Nat.le_of_ble_eq_true rfl) rfl rfl ?_
          refine tt_iload_n (q := 18) dX11_refuse_17 rfl rfl ?_
          refine tt_dup2 (q := 19) dX11_refuse_18 rfl rfl rfl ?_
          refine tt_iald (q := 20) dX11_refuse_19 ia_101 (Nat.le_of_ble_eq_true rfl) rfl (Nat.le_of_ble_eq_true rfl : 1 < 7) rfl ?_
          refine tt_iconst (q := 21) dX11_refuse_20 ki_1 rfl ?_
          refine tt_iadd (q := 22) dX11_refuse_21 rfl ?_
          refine tt_iast (q := 23) dX11_refuse_22 ia_101 (Nat.le_of_ble_eq_true rfl) rfl (Nat.le_of_ble_eq_true rfl : 1 < 7) rfl ?_
          replace h := h _ rfl
          refine tt_iload_n (q := 24) dX11_refuse_23 rfl rfl ?_
          refine tt_iret dX11_refuse_24 ⟨rfl, _, rfl, ?_⟩
          exact tt_iret dX11_does_23 ⟨rfl, _, rfl, h⟩
        · replace h := h.2 c
          refine tt_iconst (q := 11) dX11_isPlace_10 ki_1 rfl ?_
          refine tt_goto (t := 15) dX11_isPlace_11 rfl ?_
          refine tt_iret dX11_isPlace_15 ⟨rfl, _, rfl, Or.inr rfl, ?_⟩
          refine tt_if_ne (q := 18) (t := 24) dX11_does_15 rfl rfl (fun c => ?_) (fun c => absurd c (by decide))
          clear c
          refine tt_aload_n (q := 25) dX11_does_24 rfl rfl ?_
          refine tt_getR (q := 28) dX11_does_25 fl_X11_37 or_0_3 (Nat.le_of_ble_eq_true rfl) rfl rfl ?_
          refine tt_iload_n (q := 29) dX11_does_28 rfl rfl ?_
          refine tt_iload_n (q := 30) dX11_does_29 rfl rfl ?_
          obtain ⟨p23, hp24, h⟩ := h
          refine callVi_2 (q := 33) dX11_does_30 (Or.inr (Or.inr (Or.inr (⟨rfl, rfl, hp24⟩)))) (Nat.le_of_ble_eq_true rfl) rfl (fun t22 r21 hr25 => ?_)
          replace h := h t22 r21 hr25
          exact tt_iret dX11_does_33 ⟨rfl, _, rfl, h⟩

theorem g_X11_order_0 {post : SG → Int32 → Prop} {σ : SG} {r : Int32} (h : ((r < 0 → (∀ s6 : SG, s6 = up σ 101 1 ((σ 101 1) + (nI 1)) → post s6 (-1 : Int32))) ∧ (¬ r < 0 → (((σ 36 0) ≤ r → (∀ s10 : SG, s10 = up σ 101 1 ((σ 101 1) + (nI 1)) → post s10 (-1 : Int32))) ∧ (¬ (σ 36 0) ≤ r → (∃ j12 : Nat, r = nI j12 ∧ j12 < 10 ∧ T_X11_order AF post 31 [.ref 0, .int r, .int (σ (49 + 1 + j12) 0), .int (nI 1)] [] σ)))))) : T_X11_order AF post 0 [.ref 0, .int r, dum, dum] [] σ := by
  refine tt_aload_n (q := 1) dX11_order_0 rfl rfl ?_
  refine tt_getR (q := 4) dX11_order_1 fl_X11_37 or_0_3 (Nat.le_of_ble_eq_true rfl) rfl rfl ?_
  refine tt_iload_n (q := 5) dX11_order_4 rfl rfl ?_
  refine callVi_1 (q := 8) dX11_order_5 (Or.inl ⟨rfl, rfl, ⟨⟨_, _, rfl, rfl, (Nat.le_of_ble_eq_true rfl), rc_36⟩, Nat.le_of_ble_eq_true rfl, ?_⟩⟩) (Nat.le_of_ble_eq_true rfl) rfl (fun t2 r1 ht2 => ht2)
  refine (show TT cX5_has RX5 false CT0 CN0 _ _ _ none 0 [_, _] [] _ _ from ?_)
  refine tt_iload_n (q := 1) dX5_has_0 rfl rfl ?_
  refine tt_if_lt (q := 4) (t := 16) dX5_has_1 rfl rfl (fun c => ?_) (fun c => ?_)
  · replace h := h.1 c
    refine tt_iconst (q := 17) dX5_has_16 ki_0 rfl ?_
    refine tt_iret dX5_has_17 ⟨rfl, _, rfl, Or.inl nI_0, ?_⟩
    refine tt_if_ne (q := 11) (t := 17) dX11_order_8 rfl rfl (fun c => absurd c (by decide)) (fun c => ?_)
    clear c
    refine tt_aload_n (q := 12) dX11_order_11 rfl rfl ?_
    refine tt_iconst (q := 13) dX11_order_12 ki_m1 rfl ?_
    refine callVi_1 (q := 16) dX11_order_13 (Or.inr (⟨rfl, rfl, ⟨⟨_, _, rfl, rfl, (Nat.le_of_ble_eq_true rfl), rc_0⟩, Nat.le_of_ble_eq_true rfl, ?_⟩⟩)) (Nat.le_of_ble_eq_true rfl) rfl (fun t5 r4 ht5 => ht5)
    refine (show TT cX11_refuse RX11 false CT0 CN0 _ _ _ none 0 [_, _, dum] [] _ _ from ?_)
    refine tt_iload_n (q := 1) dX11_refuse_0 rfl rfl ?_
    refine tt_inegE (v := nI 1) (q := 2) dX11_refuse_1 (by decide) rfl ?_
    refine sti_n_2 (q := 3) dX11_refuse_2 rfl rfl rfl ?_
    refine tt_iload_n (q := 4) dX11_refuse_3 rfl rfl ?_
    refine tt_if_le (q := 7) (t := 23) dX11_refuse_4 rfl rfl (fun c => absurd c (by decide)) (fun c => ?_)
    clear c
    refine tt_iload_n (q := 8) dX11_refuse_7 rfl rfl ?_
    refine tt_bipush (q := 10) dX11_refuse_8 bi_6 rfl ?_
    refine tt_icmp_gt (q := 13) (t := 23) dX11_refuse_10 rfl rfl (fun c => absurd c (by decide)) (fun c => ?_)
    clear c
    refine tt_aload_n (q := 14) dX11_refuse_13 rfl rfl ?_
    refine tt_getR (q := 17) dX11_refuse_14 fl_X11_96 or_0_11 (Nat.le_of_ble_eq_true rfl) rfl rfl ?_
    refine tt_iload_n (q := 18) dX11_refuse_17 rfl rfl ?_
    refine tt_dup2 (q := 19) dX11_refuse_18 rfl rfl rfl ?_
    refine tt_iald (q := 20) dX11_refuse_19 ia_101 (Nat.le_of_ble_eq_true rfl) rfl (Nat.le_of_ble_eq_true rfl : 1 < 7) rfl ?_
    refine tt_iconst (q := 21) dX11_refuse_20 ki_1 rfl ?_
    refine tt_iadd (q := 22) dX11_refuse_21 rfl ?_
    refine tt_iast (q := 23) dX11_refuse_22 ia_101 (Nat.le_of_ble_eq_true rfl) rfl (Nat.le_of_ble_eq_true rfl : 1 < 7) rfl ?_
    replace h := h _ rfl
    refine tt_iload_n (q := 24) dX11_refuse_23 rfl rfl ?_
    refine tt_iret dX11_refuse_24 ⟨rfl, _, rfl, ?_⟩
    exact tt_iret dX11_order_16 ⟨rfl, _, rfl, h⟩
  · replace h := h.2 c
    refine tt_iload_n (q := 5) dX5_has_4 rfl rfl ?_
    refine tt_aload_n (q := 6) dX5_has_5 rfl rfl ?_
    refine tt_getI (q := 9) dX5_has_6 fl_X5_34 oi_36_0 (Nat.le_of_ble_eq_true rfl) rfl ?_
    refine tt_icmp_ge (q := 12) (t := 16) dX5_has_9 rfl rfl (fun c => ?_) (fun c => ?_)
    · replace h := h.1 c
      refine tt_iconst (q := 17) dX5_has_16 ki_0 rfl ?_
      refine tt_iret dX5_has_17 ⟨rfl, _, rfl, Or.inl nI_0, ?_⟩
      refine tt_if_ne (q := 11) (t := 17) dX11_order_8 rfl rfl (fun c => absurd c (by decide)) (fun c => ?_)
      clear c
      refine tt_aload_n (q := 12) dX11_order_11 rfl rfl ?_
      refine tt_iconst (q := 13) dX11_order_12 ki_m1 rfl ?_
      refine callVi_1 (q := 16) dX11_order_13 (Or.inr (⟨rfl, rfl, ⟨⟨_, _, rfl, rfl, (Nat.le_of_ble_eq_true rfl), rc_0⟩, Nat.le_of_ble_eq_true rfl, ?_⟩⟩)) (Nat.le_of_ble_eq_true rfl) rfl (fun t9 r8 ht9 => ht9)
      refine (show TT cX11_refuse RX11 false CT0 CN0 _ _ _ none 0 [_, _, dum] [] _ _ from ?_)
      refine tt_iload_n (q := 1) dX11_refuse_0 rfl rfl ?_
      refine tt_inegE (v := nI 1) (q := 2) dX11_refuse_1 (by decide) rfl ?_
      refine sti_n_2 (q := 3) dX11_refuse_2 rfl rfl rfl ?_
      refine tt_iload_n (q := 4) dX11_refuse_3 rfl rfl ?_
      refine tt_if_le (q := 7) (t := 23) dX11_refuse_4 rfl rfl (fun c => absurd c (by decide)) (fun c => ?_)
      clear c
      refine tt_iload_n (q := 8) dX11_refuse_7 rfl rfl ?_
      refine tt_bipush (q := 10) dX11_refuse_8 bi_6 rfl ?_
      refine tt_icmp_gt (q := 13) (t := 23) dX11_refuse_10 rfl rfl (fun c => absurd c (by decide)) (fun c => ?_)
      clear c
      refine tt_aload_n (q := 14) dX11_refuse_13 rfl rfl ?_
      refine tt_getR (q := 17) dX11_refuse_14 fl_X11_96 or_0_11 (Nat.le_of_ble_eq_true rfl) rfl rfl ?_
      refine tt_iload_n (q := 18) dX11_refuse_17 rfl rfl ?_
      refine tt_dup2 (q := 19) dX11_refuse_18 rfl rfl rfl ?_
      refine tt_iald (q := 20) dX11_refuse_19 ia_101 (Nat.le_of_ble_eq_true rfl) rfl (Nat.le_of_ble_eq_true rfl : 1 < 7) rfl ?_
      refine tt_iconst (q := 21) dX11_refuse_20 ki_1 rfl ?_
      refine tt_iadd (q := 22) dX11_refuse_21 rfl ?_
      refine tt_iast (q := 23) dX11_refuse_22 ia_101 (Nat.le_of_ble_eq_true rfl) rfl (Nat.le_of_ble_eq_true rfl : 1 < 7) rfl ?_
      replace h := h _ rfl
      refine tt_iload_n (q := 24) dX11_refuse_23 rfl rfl ?_
      refine tt_iret dX11_refuse_24 ⟨rfl, _, rfl, ?_⟩
      exact tt_iret dX11_order_16 ⟨rfl, _, rfl, h⟩
    · replace h := h.2 c
      refine tt_iconst (q := 13) dX5_has_12 ki_1 rfl ?_
      refine tt_goto (t := 17) dX5_has_13 rfl ?_
      refine tt_iret dX5_has_17 ⟨rfl, _, rfl, Or.inr rfl, ?_⟩
      refine tt_if_ne (q := 11) (t := 17) dX11_order_8 rfl rfl (fun c => ?_) (fun c => absurd c (by decide))
      clear c
      refine tt_aload_n (q := 18) dX11_order_17 rfl rfl ?_
      refine tt_getR (q := 21) dX11_order_18 fl_X11_37 or_0_3 (Nat.le_of_ble_eq_true rfl) rfl rfl ?_
      refine tt_getR (q := 24) dX11_order_21 fl_X11_170 or_36_3 (Nat.le_of_ble_eq_true rfl) rfl rfl ?_
      refine tt_iload_n (q := 25) dX11_order_24 rfl rfl ?_
      obtain ⟨j12, e13, l11, h⟩ := h
      refine tt_aald (q := 26) dX11_order_25 ig_49 (Nat.le_of_ble_eq_true rfl) e13 l11 rfl ?_
      refine tt_iconst (q := 27) dX11_order_26 ki_0 rfl ?_
      refine tt_iald (q := 28) dX11_order_27 (gi_49 _ l11) (gl_49 _ l11) rfl (Nat.le_of_ble_eq_true rfl : 0 < 720) rfl ?_
      refine sti_n_2 (q := 29) dX11_order_28 rfl rfl rfl ?_
      refine tt_iconst (q := 30) dX11_order_29 ki_1 rfl ?_
      refine sti_n_3 (q := 31) dX11_order_30 rfl rfl rfl ?_
      exact h
theorem g_X11_order_31 {post : SG → Int32 → Prop} {σ : SG} {r : Nat} {ap : Nat} {of : Nat} (h : (ap < 2 ^ 31 ∧ ((ap = 0 → post σ (nI of)) ∧ (¬ ap = 0 → (of < 2 ^ 31 ∧ ((720 ≤ of → post σ (nI of)) ∧ (of < 720 → (r < 10 ∧ (ap < 720 ∧ T_X11_order AF post 31 [.ref 0, .int (nI r), .int (σ (49 + 1 + r) ap), .int (nI (of + 1))] [] σ))))))))) : T_X11_order AF post 31 [.ref 0, .int (nI r), .int (nI ap), .int (nI of)] [] σ := by
  refine tt_iload_n (q := 32) dX11_order_31 rfl rfl ?_
  obtain ⟨l2, h⟩ := h
  refine tt_if_eq (q := 35) (t := 60) dX11_order_32 rfl rfl (fun c => ?_) (fun c => ?_)
  · replace h := h.1 ((nI_eq l2 (by decide)).1 c)
    refine tt_iload_n (q := 61) dX11_order_60 rfl rfl ?_
    exact tt_iret dX11_order_61 ⟨rfl, _, rfl, h⟩
  · replace h := h.2 (fun z => c ((nI_eq l2 (by decide)).2 z))
    refine tt_iload_n (q := 36) dX11_order_35 rfl rfl ?_
    refine tt_sipush (q := 39) dX11_order_36 si_720 rfl ?_
    obtain ⟨l4, h⟩ := h
    refine tt_icmp_ge (q := 42) (t := 60) dX11_order_39 rfl rfl (fun c => ?_) (fun c => ?_)
    · replace h := h.1 ((nI_leI (by decide) l4).1 c)
      refine tt_iload_n (q := 61) dX11_order_60 rfl rfl ?_
      exact tt_iret dX11_order_61 ⟨rfl, _, rfl, h⟩
    · replace h := h.2 (Nat.lt_of_not_le (fun z => c ((nI_leI (by decide) l4).2 z)))
      refine tt_aload_n (q := 43) dX11_order_42 rfl rfl ?_
      refine tt_getR (q := 46) dX11_order_43 fl_X11_37 or_0_3 (Nat.le_of_ble_eq_true rfl) rfl rfl ?_
      refine tt_getR (q := 49) dX11_order_46 fl_X11_170 or_36_3 (Nat.le_of_ble_eq_true rfl) rfl rfl ?_
      refine tt_iload_n (q := 50) dX11_order_49 rfl rfl ?_
      obtain ⟨l5, h⟩ := h
      refine tt_aald (q := 51) dX11_order_50 ig_49 (Nat.le_of_ble_eq_true rfl) rfl l5 rfl ?_
      refine tt_iload_n (q := 52) dX11_order_51 rfl rfl ?_
      obtain ⟨l6, h⟩ := h
      refine tt_iald (q := 53) dX11_order_52 (gi_49 _ l5) (gl_49 _ l5) rfl l6 rfl ?_
      refine sti_n_2 (q := 54) dX11_order_53 rfl rfl rfl ?_
      refine inc_3 (q := 57) dX11_order_54 (nI_inc1 _) rfl rfl ?_
      refine tt_goto (t := 31) dX11_order_57 rfl ?_
      exact h

theorem g_X11_keeps_0 {post : SG → Int32 → Prop} {σ : SG} {a : Int32} (h : ((a < 0 → (∀ s6 : SG, s6 = up σ 101 1 ((σ 101 1) + (nI 1)) → post s6 (-1 : Int32))) ∧ (¬ a < 0 → (((σ 36 0) ≤ a → (∀ s10 : SG, s10 = up σ 101 1 ((σ 101 1) + (nI 1)) → post s10 (-1 : Int32))) ∧ (¬ (σ 36 0) ≤ a → (∃ j12 : Nat, a = nI j12 ∧ j12 < 10 ∧ (∃ j15 : Nat, (σ (49 + 1 + j12) 0) = nI j15 ∧ j15 < 720 ∧ post σ (σ 5 j15)))))))) : T_X11_keeps AF post 0 [.ref 0, .int a] [] σ := by
  refine tt_aload_n (q := 1) dX11_keeps_0 rfl rfl ?_
  refine tt_getR (q := 4) dX11_keeps_1 fl_X11_37 or_0_3 (Nat.le_of_ble_eq_true rfl) rfl rfl ?_
  refine tt_iload_n (q := 5) dX11_keeps_4 rfl rfl ?_
  refine callVi_1 (q := 8) dX11_keeps_5 (Or.inl ⟨rfl, rfl, ⟨⟨_, _, rfl, rfl, (Nat.le_of_ble_eq_true rfl), rc_36⟩, Nat.le_of_ble_eq_true rfl, ?_⟩⟩) (Nat.le_of_ble_eq_true rfl) rfl (fun t2 r1 ht2 => ht2)
  refine (show TT cX5_has RX5 false CT0 CN0 _ _ _ none 0 [_, _] [] _ _ from ?_)
  refine tt_iload_n (q := 1) dX5_has_0 rfl rfl ?_
  refine tt_if_lt (q := 4) (t := 16) dX5_has_1 rfl rfl (fun c => ?_) (fun c => ?_)
  · replace h := h.1 c
    refine tt_iconst (q := 17) dX5_has_16 ki_0 rfl ?_
    refine tt_iret dX5_has_17 ⟨rfl, _, rfl, Or.inl nI_0, ?_⟩
    refine tt_if_ne (q := 11) (t := 17) dX11_keeps_8 rfl rfl (fun c => absurd c (by decide)) (fun c => ?_)
    clear c
    refine tt_aload_n (q := 12) dX11_keeps_11 rfl rfl ?_
    refine tt_iconst (q := 13) dX11_keeps_12 ki_m1 rfl ?_
    refine callVi_1 (q := 16) dX11_keeps_13 (Or.inr (⟨rfl, rfl, ⟨⟨_, _, rfl, rfl, (Nat.le_of_ble_eq_true rfl), rc_0⟩, Nat.le_of_ble_eq_true rfl, ?_⟩⟩)) (Nat.le_of_ble_eq_true rfl) rfl (fun t5 r4 ht5 => ht5)
    refine (show TT cX11_refuse RX11 false CT0 CN0 _ _ _ none 0 [_, _, dum] [] _ _ from ?_)
    refine tt_iload_n (q := 1) dX11_refuse_0 rfl rfl ?_
    refine tt_inegE (v := nI 1) (q := 2) dX11_refuse_1 (by decide) rfl ?_
    refine sti_n_2 (q := 3) dX11_refuse_2 rfl rfl rfl ?_
    refine tt_iload_n (q := 4) dX11_refuse_3 rfl rfl ?_
    refine tt_if_le (q := 7) (t := 23) dX11_refuse_4 rfl rfl (fun c => absurd c (by decide)) (fun c => ?_)
    clear c
    refine tt_iload_n (q := 8) dX11_refuse_7 rfl rfl ?_
    refine tt_bipush (q := 10) dX11_refuse_8 bi_6 rfl ?_
    refine tt_icmp_gt (q := 13) (t := 23) dX11_refuse_10 rfl rfl (fun c => absurd c (by decide)) (fun c => ?_)
    clear c
    refine tt_aload_n (q := 14) dX11_refuse_13 rfl rfl ?_
    refine tt_getR (q := 17) dX11_refuse_14 fl_X11_96 or_0_11 (Nat.le_of_ble_eq_true rfl) rfl rfl ?_
    refine tt_iload_n (q := 18) dX11_refuse_17 rfl rfl ?_
    refine tt_dup2 (q := 19) dX11_refuse_18 rfl rfl rfl ?_
    refine tt_iald (q := 20) dX11_refuse_19 ia_101 (Nat.le_of_ble_eq_true rfl) rfl (Nat.le_of_ble_eq_true rfl : 1 < 7) rfl ?_
    refine tt_iconst (q := 21) dX11_refuse_20 ki_1 rfl ?_
    refine tt_iadd (q := 22) dX11_refuse_21 rfl ?_
    refine tt_iast (q := 23) dX11_refuse_22 ia_101 (Nat.le_of_ble_eq_true rfl) rfl (Nat.le_of_ble_eq_true rfl : 1 < 7) rfl ?_
    replace h := h _ rfl
    refine tt_iload_n (q := 24) dX11_refuse_23 rfl rfl ?_
    refine tt_iret dX11_refuse_24 ⟨rfl, _, rfl, ?_⟩
    exact tt_iret dX11_keeps_16 ⟨rfl, _, rfl, h⟩
  · replace h := h.2 c
    refine tt_iload_n (q := 5) dX5_has_4 rfl rfl ?_
    refine tt_aload_n (q := 6) dX5_has_5 rfl rfl ?_
    refine tt_getI (q := 9) dX5_has_6 fl_X5_34 oi_36_0 (Nat.le_of_ble_eq_true rfl) rfl ?_
    refine tt_icmp_ge (q := 12) (t := 16) dX5_has_9 rfl rfl (fun c => ?_) (fun c => ?_)
    · replace h := h.1 c
      refine tt_iconst (q := 17) dX5_has_16 ki_0 rfl ?_
      refine tt_iret dX5_has_17 ⟨rfl, _, rfl, Or.inl nI_0, ?_⟩
      refine tt_if_ne (q := 11) (t := 17) dX11_keeps_8 rfl rfl (fun c => absurd c (by decide)) (fun c => ?_)
      clear c
      refine tt_aload_n (q := 12) dX11_keeps_11 rfl rfl ?_
      refine tt_iconst (q := 13) dX11_keeps_12 ki_m1 rfl ?_
      refine callVi_1 (q := 16) dX11_keeps_13 (Or.inr (⟨rfl, rfl, ⟨⟨_, _, rfl, rfl, (Nat.le_of_ble_eq_true rfl), rc_0⟩, Nat.le_of_ble_eq_true rfl, ?_⟩⟩)) (Nat.le_of_ble_eq_true rfl) rfl (fun t9 r8 ht9 => ht9)
      refine (show TT cX11_refuse RX11 false CT0 CN0 _ _ _ none 0 [_, _, dum] [] _ _ from ?_)
      refine tt_iload_n (q := 1) dX11_refuse_0 rfl rfl ?_
      refine tt_inegE (v := nI 1) (q := 2) dX11_refuse_1 (by decide) rfl ?_
      refine sti_n_2 (q := 3) dX11_refuse_2 rfl rfl rfl ?_
      refine tt_iload_n (q := 4) dX11_refuse_3 rfl rfl ?_
      refine tt_if_le (q := 7) (t := 23) dX11_refuse_4 rfl rfl (fun c => absurd c (by decide)) (fun c => ?_)
      clear c
      refine tt_iload_n (q := 8) dX11_refuse_7 rfl rfl ?_
      refine tt_bipush (q := 10) dX11_refuse_8 bi_6 rfl ?_
      refine tt_icmp_gt (q := 13) (t := 23) dX11_refuse_10 rfl rfl (fun c => absurd c (by decide)) (fun c => ?_)
      clear c
      refine tt_aload_n (q := 14) dX11_refuse_13 rfl rfl ?_
      refine tt_getR (q := 17) dX11_refuse_14 fl_X11_96 or_0_11 (Nat.le_of_ble_eq_true rfl) rfl rfl ?_
      refine tt_iload_n (q := 18) dX11_refuse_17 rfl rfl ?_
      refine tt_dup2 (q := 19) dX11_refuse_18 rfl rfl rfl ?_
      refine tt_iald (q := 20) dX11_refuse_19 ia_101 (Nat.le_of_ble_eq_true rfl) rfl (Nat.le_of_ble_eq_true rfl : 1 < 7) rfl ?_
      refine tt_iconst (q := 21) dX11_refuse_20 ki_1 rfl ?_
      refine tt_iadd (q := 22) dX11_refuse_21 rfl ?_
      refine tt_iast (q := 23) dX11_refuse_22 ia_101 (Nat.le_of_ble_eq_true rfl) rfl (Nat.le_of_ble_eq_true rfl : 1 < 7) rfl ?_
      replace h := h _ rfl
      refine tt_iload_n (q := 24) dX11_refuse_23 rfl rfl ?_
      refine tt_iret dX11_refuse_24 ⟨rfl, _, rfl, ?_⟩
      exact tt_iret dX11_keeps_16 ⟨rfl, _, rfl, h⟩
    · replace h := h.2 c
      refine tt_iconst (q := 13) dX5_has_12 ki_1 rfl ?_
      refine tt_goto (t := 17) dX5_has_13 rfl ?_
      refine tt_iret dX5_has_17 ⟨rfl, _, rfl, Or.inr rfl, ?_⟩
      refine tt_if_ne (q := 11) (t := 17) dX11_keeps_8 rfl rfl (fun c => ?_) (fun c => absurd c (by decide))
      clear c
      refine tt_aload_n (q := 18) dX11_keeps_17 rfl rfl ?_
      refine tt_getR (q := 21) dX11_keeps_18 fl_X11_19 or_0_1 (Nat.le_of_ble_eq_true rfl) rfl rfl ?_
      refine tt_getR (q := 24) dX11_keeps_21 fl_X11_173 or_3_1 (Nat.le_of_ble_eq_true rfl) rfl rfl ?_
      refine tt_aload_n (q := 25) dX11_keeps_24 rfl rfl ?_
      refine tt_getR (q := 28) dX11_keeps_25 fl_X11_37 or_0_3 (Nat.le_of_ble_eq_true rfl) rfl rfl ?_
      refine tt_getR (q := 31) dX11_keeps_28 fl_X11_170 or_36_3 (Nat.le_of_ble_eq_true rfl) rfl rfl ?_
      refine tt_iload_n (q := 32) dX11_keeps_31 rfl rfl ?_
      obtain ⟨j12, e13, l11, h⟩ := h
      refine tt_aald (q := 33) dX11_keeps_32 ig_49 (Nat.le_of_ble_eq_true rfl) e13 l11 rfl ?_
      refine tt_iconst (q := 34) dX11_keeps_33 ki_0 rfl ?_
      refine tt_iald (q := 35) dX11_keeps_34 (gi_49 _ l11) (gl_49 _ l11) rfl (Nat.le_of_ble_eq_true rfl : 0 < 720) rfl ?_
      obtain ⟨j15, e16, l14, h⟩ := h
      refine tt_iald (q := 36) dX11_keeps_35 ia_5 (Nat.le_of_ble_eq_true rfl) e16 l14 rfl ?_
      exact tt_iret dX11_keeps_36 ⟨rfl, _, rfl, h⟩

theorem g_X11_now_0 {post : SG → Int32 → Prop} {σ : SG} {a : Int32} (h : ((a < 0 → (∀ s6 : SG, s6 = up σ 101 1 ((σ 101 1) + (nI 1)) → post s6 (-1 : Int32))) ∧ (¬ a < 0 → (((nI 6) ≤ a → (∀ s10 : SG, s10 = up σ 101 1 ((σ 101 1) + (nI 1)) → post s10 (-1 : Int32))) ∧ (¬ (nI 6) ≤ a → (∃ j14 : Nat, (((σ 0 12) * (nI 6)) + a) = nI j14 ∧ j14 < 4320 ∧ post σ (σ 4 j14))))))) : T_X11_now AF post 0 [.ref 0, .int a] [] σ := by
  refine tt_iload_n (q := 1) dX11_now_0 rfl rfl ?_
  refine callSi_1 (q := 4) dX11_now_1 (Or.inl ⟨rfl, rfl, ⟨rfl, Nat.le_of_ble_eq_true rfl, ?_⟩⟩) (Nat.le_of_ble_eq_true rfl) rfl (fun t2 r1 ht2 => ht2)
  refine (show TT cX11_isPlace RX11 false CT0 CN0 _ _ _ none 0 [_] [] _ _ from ?_)
  refine tt_iload_n (q := 1) dX11_isPlace_0 rfl rfl ?_
  refine tt_if_lt (q := 4) (t := 14) dX11_isPlace_1 rfl rfl (fun c => ?_) (fun c => ?_)
  · replace h := h.1 c
    refine tt_iconst (q := 15) dX11_isPlace_14 ki_0 rfl ?_
    refine tt_iret dX11_isPlace_15 ⟨rfl, _, rfl, Or.inl nI_0, ?_⟩
    refine tt_if_ne (q := 7) (t := 13) dX11_now_4 rfl rfl (fun c => absurd c (by decide)) (fun c => ?_)
    clear c
    refine tt_aload_n (q := 8) dX11_now_7 rfl rfl ?_
    refine tt_iconst (q := 9) dX11_now_8 ki_m1 rfl ?_
    refine callVi_1 (q := 12) dX11_now_9 (Or.inr (Or.inl ⟨rfl, rfl, ⟨⟨_, _, rfl, rfl, (Nat.le_of_ble_eq_true rfl), rc_0⟩, Nat.le_of_ble_eq_true rfl, ?_⟩⟩)) (Nat.le_of_ble_eq_true rfl) rfl (fun t5 r4 ht5 => ht5)
    refine (show TT cX11_refuse RX11 false CT0 CN0 _ _ _ none 0 [_, _, dum] [] _ _ from ?_)
    refine tt_iload_n (q := 1) dX11_refuse_0 rfl rfl ?_
    refine tt_inegE (v := nI 1) (q := 2) dX11_refuse_1 (by decide) rfl ?_
    refine sti_n_2 (q := 3) dX11_refuse_2 rfl rfl rfl ?_
    refine tt_iload_n (q := 4) dX11_refuse_3 rfl rfl ?_
    refine tt_if_le (q := 7) (t := 23) dX11_refuse_4 rfl rfl (fun c => absurd c (by decide)) (fun c => ?_)
    clear c
    refine tt_iload_n (q := 8) dX11_refuse_7 rfl rfl ?_
    refine tt_bipush (q := 10) dX11_refuse_8 bi_6 rfl ?_
    refine tt_icmp_gt (q := 13) (t := 23) dX11_refuse_10 rfl rfl (fun c => absurd c (by decide)) (fun c => ?_)
    clear c
    refine tt_aload_n (q := 14) dX11_refuse_13 rfl rfl ?_
    refine tt_getR (q := 17) dX11_refuse_14 fl_X11_96 or_0_11 (Nat.le_of_ble_eq_true rfl) rfl rfl ?_
    refine tt_iload_n (q := 18) dX11_refuse_17 rfl rfl ?_
    refine tt_dup2 (q := 19) dX11_refuse_18 rfl rfl rfl ?_
    refine tt_iald (q := 20) dX11_refuse_19 ia_101 (Nat.le_of_ble_eq_true rfl) rfl (Nat.le_of_ble_eq_true rfl : 1 < 7) rfl ?_
    refine tt_iconst (q := 21) dX11_refuse_20 ki_1 rfl ?_
    refine tt_iadd (q := 22) dX11_refuse_21 rfl ?_
    refine tt_iast (q := 23) dX11_refuse_22 ia_101 (Nat.le_of_ble_eq_true rfl) rfl (Nat.le_of_ble_eq_true rfl : 1 < 7) rfl ?_
    replace h := h _ rfl
    refine tt_iload_n (q := 24) dX11_refuse_23 rfl rfl ?_
    refine tt_iret dX11_refuse_24 ⟨rfl, _, rfl, ?_⟩
    exact tt_iret dX11_now_12 ⟨rfl, _, rfl, h⟩
  · replace h := h.2 c
    refine tt_iload_n (q := 5) dX11_isPlace_4 rfl rfl ?_
    refine tt_bipush (q := 7) dX11_isPlace_5 bi_6 rfl ?_
    refine tt_icmp_ge (q := 10) (t := 14) dX11_isPlace_7 rfl rfl (fun c => ?_) (fun c => ?_)
    · replace h := h.1 c
      refine tt_iconst (q := 15) dX11_isPlace_14 ki_0 rfl ?_
      refine tt_iret dX11_isPlace_15 ⟨rfl, _, rfl, Or.inl nI_0, ?_⟩
      refine tt_if_ne (q := 7) (t := 13) dX11_now_4 rfl rfl (fun c => absurd c (by decide)) (fun c => ?_)
      clear c
      refine tt_aload_n (q := 8) dX11_now_7 rfl rfl ?_
      refine tt_iconst (q := 9) dX11_now_8 ki_m1 rfl ?_
      refine callVi_1 (q := 12) dX11_now_9 (Or.inr (Or.inl ⟨rfl, rfl, ⟨⟨_, _, rfl, rfl, (Nat.le_of_ble_eq_true rfl), rc_0⟩, Nat.le_of_ble_eq_true rfl, ?_⟩⟩)) (Nat.le_of_ble_eq_true rfl) rfl (fun t9 r8 ht9 => ht9)
      refine (show TT cX11_refuse RX11 false CT0 CN0 _ _ _ none 0 [_, _, dum] [] _ _ from ?_)
      refine tt_iload_n (q := 1) dX11_refuse_0 rfl rfl ?_
      refine tt_inegE (v := nI 1) (q := 2) dX11_refuse_1 (by decide) rfl ?_
      refine sti_n_2 (q := 3) dX11_refuse_2 rfl rfl rfl ?_
      refine tt_iload_n (q := 4) dX11_refuse_3 rfl rfl ?_
      refine tt_if_le (q := 7) (t := 23) dX11_refuse_4 rfl rfl (fun c => absurd c (by decide)) (fun c => ?_)
      clear c
      refine tt_iload_n (q := 8) dX11_refuse_7 rfl rfl ?_
      refine tt_bipush (q := 10) dX11_refuse_8 bi_6 rfl ?_
      refine tt_icmp_gt (q := 13) (t := 23) dX11_refuse_10 rfl rfl (fun c => absurd c (by decide)) (fun c => ?_)
      clear c
      refine tt_aload_n (q := 14) dX11_refuse_13 rfl rfl ?_
      refine tt_getR (q := 17) dX11_refuse_14 fl_X11_96 or_0_11 (Nat.le_of_ble_eq_true rfl) rfl rfl ?_
      refine tt_iload_n (q := 18) dX11_refuse_17 rfl rfl ?_
      refine tt_dup2 (q := 19) dX11_refuse_18 rfl rfl rfl ?_
      refine tt_iald (q := 20) dX11_refuse_19 ia_101 (Nat.le_of_ble_eq_true rfl) rfl (Nat.le_of_ble_eq_true rfl : 1 < 7) rfl ?_
      refine tt_iconst (q := 21) dX11_refuse_20 ki_1 rfl ?_
      refine tt_iadd (q := 22) dX11_refuse_21 rfl ?_
      refine tt_iast (q := 23) dX11_refuse_22 ia_101 (Nat.le_of_ble_eq_true rfl) rfl (Nat.le_of_ble_eq_true rfl : 1 < 7) rfl ?_
      replace h := h _ rfl
      refine tt_iload_n (q := 24) dX11_refuse_23 rfl rfl ?_
      refine tt_iret dX11_refuse_24 ⟨rfl, _, rfl, ?_⟩
      exact tt_iret dX11_now_12 ⟨rfl, _, rfl, h⟩
    · replace h := h.2 c
      refine tt_iconst (q := 11) dX11_isPlace_10 ki_1 rfl ?_
      refine tt_goto (t := 15) dX11_isPlace_11 rfl ?_
      refine tt_iret dX11_isPlace_15 ⟨rfl, _, rfl, Or.inr rfl, ?_⟩
      refine tt_if_ne (q := 7) (t := 13) dX11_now_4 rfl rfl (fun c => ?_) (fun c => absurd c (by decide))
      clear c
      refine tt_aload_n (q := 14) dX11_now_13 rfl rfl ?_
      refine tt_getR (q := 17) dX11_now_14 fl_X11_19 or_0_1 (Nat.le_of_ble_eq_true rfl) rfl rfl ?_
      refine tt_aload_n (q := 18) dX11_now_17 rfl rfl ?_
      refine tt_getI (q := 21) dX11_now_18 fl_X11_100 oi_0_12 (Nat.le_of_ble_eq_true rfl) rfl ?_
      refine tt_iload_n (q := 22) dX11_now_21 rfl rfl ?_
      refine callVi_2 (q := 25) dX11_now_22 (Or.inr (Or.inr (⟨rfl, rfl, ⟨⟨_, _, rfl, rfl, (Nat.le_of_ble_eq_true rfl), rc_3⟩, Nat.le_of_ble_eq_true rfl, ?_⟩⟩))) (Nat.le_of_ble_eq_true rfl) rfl (fun t12 r11 ht12 => ht12)
      refine (show TT cX4_piece RX4 false CT0 CN0 _ _ _ none 0 [_, _, _] [] _ _ from ?_)
      refine tt_aload_n (q := 1) dX4_piece_0 rfl rfl ?_
      refine tt_getR (q := 4) dX4_piece_1 fl_X4_9 or_3_0 (Nat.le_of_ble_eq_true rfl) rfl rfl ?_
      refine tt_iload_n (q := 5) dX4_piece_4 rfl rfl ?_
      refine tt_bipush (q := 7) dX4_piece_5 bi_6 rfl ?_
      refine tt_imul (q := 8) dX4_piece_7 rfl ?_
      refine tt_iload_n (q := 9) dX4_piece_8 rfl rfl ?_
      refine tt_iadd (q := 10) dX4_piece_9 rfl ?_
      obtain ⟨j14, e15, l13, h⟩ := h
      refine tt_iald (q := 11) dX4_piece_10 ia_4 (Nat.le_of_ble_eq_true rfl) e15 l13 rfl ?_
      refine tt_iret dX4_piece_11 ⟨rfl, _, rfl, ?_⟩
      exact tt_iret dX11_now_25 ⟨rfl, _, rfl, h⟩

theorem g_X11_make_0 {post : SG → Int32 → Prop} {σ : SG} {a : Int32} (h : ((a < 0 → (∀ s6 : SG, s6 = up σ 101 1 ((σ 101 1) + (nI 1)) → post s6 (-1 : Int32))) ∧ (¬ a < 0 → ((((nI 2) * (σ 7 0)) ≤ a → (∀ s10 : SG, s10 = up σ 101 1 ((σ 101 1) + (nI 1)) → post s10 (-1 : Int32))) ∧ (¬ ((nI 2) * (σ 7 0)) ≤ a → (∃ j12 : Nat, a = nI j12 ∧ j12 < 12 ∧ (∃ j15 : Nat, (σ 0 12) = nI j15 ∧ j15 < 720 ∧ (∀ s17 : SG, s17 = up σ 0 12 (σ (21 + 1 + j12) j15) → ((¬ (s17 0 12) = 0 → post s17 (nI 0)) ∧ ((s17 0 12) = 0 → post s17 (nI 1))))))))))) : T_X11_make AF post 0 [.ref 0, .int a] [] σ := by
  refine tt_aload_n (q := 1) dX11_make_0 rfl rfl ?_
  refine tt_getR (q := 4) dX11_make_1 fl_X11_28 or_0_2 (Nat.le_of_ble_eq_true rfl) rfl rfl ?_
  refine tt_iload_n (q := 5) dX11_make_4 rfl rfl ?_
  refine callVi_1 (q := 8) dX11_make_5 (Or.inl ⟨rfl, rfl, ⟨⟨_, _, rfl, rfl, (Nat.le_of_ble_eq_true rfl), rc_7⟩, Nat.le_of_ble_eq_true rfl, ?_⟩⟩) (Nat.le_of_ble_eq_true rfl) rfl (fun t2 r1 ht2 => ht2)
  refine (show TT cX9_hasMove RX9 false CT0 CN0 _ _ _ none 0 [_, _] [] _ _ from ?_)
  refine tt_iload_n (q := 1) dX9_hasMove_0 rfl rfl ?_
  refine tt_if_lt (q := 4) (t := 18) dX9_hasMove_1 rfl rfl (fun c => ?_) (fun c => ?_)
  · replace h := h.1 c
    refine tt_iconst (q := 19) dX9_hasMove_18 ki_0 rfl ?_
    refine tt_iret dX9_hasMove_19 ⟨rfl, _, rfl, Or.inl nI_0, ?_⟩
    refine tt_if_ne (q := 11) (t := 17) dX11_make_8 rfl rfl (fun c => absurd c (by decide)) (fun c => ?_)
    clear c
    refine tt_aload_n (q := 12) dX11_make_11 rfl rfl ?_
    refine tt_iconst (q := 13) dX11_make_12 ki_m1 rfl ?_
    refine callVi_1 (q := 16) dX11_make_13 (Or.inr (Or.inl ⟨rfl, rfl, ⟨⟨_, _, rfl, rfl, (Nat.le_of_ble_eq_true rfl), rc_0⟩, Nat.le_of_ble_eq_true rfl, ?_⟩⟩)) (Nat.le_of_ble_eq_true rfl) rfl (fun t5 r4 ht5 => ht5)
    refine (show TT cX11_refuse RX11 false CT0 CN0 _ _ _ none 0 [_, _, dum] [] _ _ from ?_)
    refine tt_iload_n (q := 1) dX11_refuse_0 rfl rfl ?_
    refine tt_inegE (v := nI 1) (q := 2) dX11_refuse_1 (by decide) rfl ?_
    refine sti_n_2 (q := 3) dX11_refuse_2 rfl rfl rfl ?_
    refine tt_iload_n (q := 4) dX11_refuse_3 rfl rfl ?_
    refine tt_if_le (q := 7) (t := 23) dX11_refuse_4 rfl rfl (fun c => absurd c (by decide)) (fun c => ?_)
    clear c
    refine tt_iload_n (q := 8) dX11_refuse_7 rfl rfl ?_
    refine tt_bipush (q := 10) dX11_refuse_8 bi_6 rfl ?_
    refine tt_icmp_gt (q := 13) (t := 23) dX11_refuse_10 rfl rfl (fun c => absurd c (by decide)) (fun c => ?_)
    clear c
    refine tt_aload_n (q := 14) dX11_refuse_13 rfl rfl ?_
    refine tt_getR (q := 17) dX11_refuse_14 fl_X11_96 or_0_11 (Nat.le_of_ble_eq_true rfl) rfl rfl ?_
    refine tt_iload_n (q := 18) dX11_refuse_17 rfl rfl ?_
    refine tt_dup2 (q := 19) dX11_refuse_18 rfl rfl rfl ?_
    refine tt_iald (q := 20) dX11_refuse_19 ia_101 (Nat.le_of_ble_eq_true rfl) rfl (Nat.le_of_ble_eq_true rfl : 1 < 7) rfl ?_
    refine tt_iconst (q := 21) dX11_refuse_20 ki_1 rfl ?_
    refine tt_iadd (q := 22) dX11_refuse_21 rfl ?_
    refine tt_iast (q := 23) dX11_refuse_22 ia_101 (Nat.le_of_ble_eq_true rfl) rfl (Nat.le_of_ble_eq_true rfl : 1 < 7) rfl ?_
    replace h := h _ rfl
    refine tt_iload_n (q := 24) dX11_refuse_23 rfl rfl ?_
    refine tt_iret dX11_refuse_24 ⟨rfl, _, rfl, ?_⟩
    exact tt_iret dX11_make_16 ⟨rfl, _, rfl, h⟩
  · replace h := h.2 c
    refine tt_iload_n (q := 5) dX9_hasMove_4 rfl rfl ?_
    refine tt_iconst (q := 6) dX9_hasMove_5 ki_2 rfl ?_
    refine tt_aload_n (q := 7) dX9_hasMove_6 rfl rfl ?_
    refine tt_getI (q := 10) dX9_hasMove_7 fl_X9_33 oi_7_0 (Nat.le_of_ble_eq_true rfl) rfl ?_
    refine tt_imul (q := 11) dX9_hasMove_10 rfl ?_
    refine tt_icmp_ge (q := 14) (t := 18) dX9_hasMove_11 rfl rfl (fun c => ?_) (fun c => ?_)
    · replace h := h.1 c
      refine tt_iconst (q := 19) dX9_hasMove_18 ki_0 rfl ?_
      refine tt_iret dX9_hasMove_19 ⟨rfl, _, rfl, Or.inl nI_0, ?_⟩
      refine tt_if_ne (q := 11) (t := 17) dX11_make_8 rfl rfl (fun c => absurd c (by decide)) (fun c => ?_)
      clear c
      refine tt_aload_n (q := 12) dX11_make_11 rfl rfl ?_
      refine tt_iconst (q := 13) dX11_make_12 ki_m1 rfl ?_
      refine callVi_1 (q := 16) dX11_make_13 (Or.inr (Or.inl ⟨rfl, rfl, ⟨⟨_, _, rfl, rfl, (Nat.le_of_ble_eq_true rfl), rc_0⟩, Nat.le_of_ble_eq_true rfl, ?_⟩⟩)) (Nat.le_of_ble_eq_true rfl) rfl (fun t9 r8 ht9 => ht9)
      refine (show TT cX11_refuse RX11 false CT0 CN0 _ _ _ none 0 [_, _, dum] [] _ _ from ?_)
      refine tt_iload_n (q := 1) dX11_refuse_0 rfl rfl ?_
      refine tt_inegE (v := nI 1) (q := 2) dX11_refuse_1 (by decide) rfl ?_
      refine sti_n_2 (q := 3) dX11_refuse_2 rfl rfl rfl ?_
      refine tt_iload_n (q := 4) dX11_refuse_3 rfl rfl ?_
      refine tt_if_le (q := 7) (t := 23) dX11_refuse_4 rfl rfl (fun c => absurd c (by decide)) (fun c => ?_)
      clear c
      refine tt_iload_n (q := 8) dX11_refuse_7 rfl rfl ?_
      refine tt_bipush (q := 10) dX11_refuse_8 bi_6 rfl ?_
      refine tt_icmp_gt (q := 13) (t := 23) dX11_refuse_10 rfl rfl (fun c => absurd c (by decide)) (fun c => ?_)
      clear c
      refine tt_aload_n (q := 14) dX11_refuse_13 rfl rfl ?_
      refine tt_getR (q := 17) dX11_refuse_14 fl_X11_96 or_0_11 (Nat.le_of_ble_eq_true rfl) rfl rfl ?_
      refine tt_iload_n (q := 18) dX11_refuse_17 rfl rfl ?_
      refine tt_dup2 (q := 19) dX11_refuse_18 rfl rfl rfl ?_
      refine tt_iald (q := 20) dX11_refuse_19 ia_101 (Nat.le_of_ble_eq_true rfl) rfl (Nat.le_of_ble_eq_true rfl : 1 < 7) rfl ?_
      refine tt_iconst (q := 21) dX11_refuse_20 ki_1 rfl ?_
      refine tt_iadd (q := 22) dX11_refuse_21 rfl ?_
      refine tt_iast (q := 23) dX11_refuse_22 ia_101 (Nat.le_of_ble_eq_true rfl) rfl (Nat.le_of_ble_eq_true rfl : 1 < 7) rfl ?_
      replace h := h _ rfl
      refine tt_iload_n (q := 24) dX11_refuse_23 rfl rfl ?_
      refine tt_iret dX11_refuse_24 ⟨rfl, _, rfl, ?_⟩
      exact tt_iret dX11_make_16 ⟨rfl, _, rfl, h⟩
    · replace h := h.2 c
      refine tt_iconst (q := 15) dX9_hasMove_14 ki_1 rfl ?_
      refine tt_goto (t := 19) dX9_hasMove_15 rfl ?_
      refine tt_iret dX9_hasMove_19 ⟨rfl, _, rfl, Or.inr rfl, ?_⟩
      refine tt_if_ne (q := 11) (t := 17) dX11_make_8 rfl rfl (fun c => ?_) (fun c => absurd c (by decide))
      clear c
      refine tt_aload_n (q := 18) dX11_make_17 rfl rfl ?_
      refine tt_aload_n (q := 19) dX11_make_18 rfl rfl ?_
      refine tt_getR (q := 22) dX11_make_19 fl_X11_28 or_0_2 (Nat.le_of_ble_eq_true rfl) rfl rfl ?_
      refine tt_getR (q := 25) dX11_make_22 fl_X11_179 or_7_2 (Nat.le_of_ble_eq_true rfl) rfl rfl ?_
      refine tt_iload_n (q := 26) dX11_make_25 rfl rfl ?_
      obtain ⟨j12, e13, l11, h⟩ := h
      refine tt_aald (q := 27) dX11_make_26 ig_21 (Nat.le_of_ble_eq_true rfl) e13 l11 rfl ?_
      refine tt_aload_n (q := 28) dX11_make_27 rfl rfl ?_
      refine tt_getI (q := 31) dX11_make_28 fl_X11_100 oi_0_12 (Nat.le_of_ble_eq_true rfl) rfl ?_
      obtain ⟨j15, e16, l14, h⟩ := h
      refine tt_iald (q := 32) dX11_make_31 (gi_21 _ l11) (gl_21 _ l11) e16 l14 rfl ?_
      refine tt_putI (q := 35) dX11_make_32 fl_X11_100 oi_0_12 (fp_11_12 _) (Nat.le_of_ble_eq_true rfl) rfl ?_
      replace h := h _ rfl
      refine tt_aload_n (q := 36) dX11_make_35 rfl rfl ?_
      refine callVi_0 (q := 39) dX11_make_36 (Or.inr (Or.inr (⟨rfl, rfl, ⟨⟨_, _, rfl, rfl, (Nat.le_of_ble_eq_true rfl), rc_0⟩, Nat.le_of_ble_eq_true rfl, ?_⟩⟩))) (Nat.le_of_ble_eq_true rfl) rfl (fun t19 r18 ht19 => ht19)
      refine (show TT cX11_solvedNow RX11 false CT0 CN0 _ _ _ none 0 [_] [] _ _ from ?_)
      refine tt_aload_n (q := 1) dX11_solvedNow_0 rfl rfl ?_
      refine tt_getI (q := 4) dX11_solvedNow_1 fl_X11_100 oi_0_12 (Nat.le_of_ble_eq_true rfl) rfl ?_
      refine tt_if_ne (q := 7) (t := 11) dX11_solvedNow_4 rfl rfl (fun c => ?_) (fun c => ?_)
      · replace h := h.1 c
        refine tt_iconst (q := 12) dX11_solvedNow_11 ki_0 rfl ?_
        refine tt_iret dX11_solvedNow_12 ⟨rfl, _, rfl, ?_⟩
        exact tt_iret dX11_make_39 ⟨rfl, _, rfl, h⟩
      · replace h := h.2 c
        refine tt_iconst (q := 8) dX11_solvedNow_7 ki_1 rfl ?_
        refine tt_goto (t := 12) dX11_solvedNow_8 rfl ?_
        refine tt_iret dX11_solvedNow_12 ⟨rfl, _, rfl, ?_⟩
        exact tt_iret dX11_make_39 ⟨rfl, _, rfl, h⟩

theorem g_X11_makeRow_0 {post : SG → Int32 → Prop} {σ : SG} {a : Int32} (h : ((a < 0 → (∀ s6 : SG, s6 = up σ 101 1 ((σ 101 1) + (nI 1)) → post s6 (-1 : Int32))) ∧ (¬ a < 0 → (((σ 36 0) ≤ a → (∀ s10 : SG, s10 = up σ 101 1 ((σ 101 1) + (nI 1)) → post s10 (-1 : Int32))) ∧ (¬ (σ 36 0) ≤ a → (∃ j12 : Nat, a = nI j12 ∧ j12 < 10 ∧ (∃ j15 : Nat, (σ 0 12) = nI j15 ∧ j15 < 720 ∧ (∀ s17 : SG, s17 = up σ 0 12 (σ (49 + 1 + j12) j15) → ((¬ (s17 0 12) = 0 → post s17 (nI 0)) ∧ ((s17 0 12) = 0 → post s17 (nI 1))))))))))) : T_X11_makeRow AF post 0 [.ref 0, .int a] [] σ := by
  refine tt_aload_n (q := 1) dX11_makeRow_0 rfl rfl ?_
  refine tt_getR (q := 4) dX11_makeRow_1 fl_X11_37 or_0_3 (Nat.le_of_ble_eq_true rfl) rfl rfl ?_
  refine tt_iload_n (q := 5) dX11_makeRow_4 rfl rfl ?_
  refine callVi_1 (q := 8) dX11_makeRow_5 (Or.inl ⟨rfl, rfl, ⟨⟨_, _, rfl, rfl, (Nat.le_of_ble_eq_true rfl), rc_36⟩, Nat.le_of_ble_eq_true rfl, ?_⟩⟩) (Nat.le_of_ble_eq_true rfl) rfl (fun t2 r1 ht2 => ht2)
  refine (show TT cX5_has RX5 false CT0 CN0 _ _ _ none 0 [_, _] [] _ _ from ?_)
  refine tt_iload_n (q := 1) dX5_has_0 rfl rfl ?_
  refine tt_if_lt (q := 4) (t := 16) dX5_has_1 rfl rfl (fun c => ?_) (fun c => ?_)
  · replace h := h.1 c
    refine tt_iconst (q := 17) dX5_has_16 ki_0 rfl ?_
    refine tt_iret dX5_has_17 ⟨rfl, _, rfl, Or.inl nI_0, ?_⟩
    refine tt_if_ne (q := 11) (t := 17) dX11_makeRow_8 rfl rfl (fun c => absurd c (by decide)) (fun c => ?_)
    clear c
    refine tt_aload_n (q := 12) dX11_makeRow_11 rfl rfl ?_
    refine tt_iconst (q := 13) dX11_makeRow_12 ki_m1 rfl ?_
    refine callVi_1 (q := 16) dX11_makeRow_13 (Or.inr (Or.inl ⟨rfl, rfl, ⟨⟨_, _, rfl, rfl, (Nat.le_of_ble_eq_true rfl), rc_0⟩, Nat.le_of_ble_eq_true rfl, ?_⟩⟩)) (Nat.le_of_ble_eq_true rfl) rfl (fun t5 r4 ht5 => ht5)
    refine (show TT cX11_refuse RX11 false CT0 CN0 _ _ _ none 0 [_, _, dum] [] _ _ from ?_)
    refine tt_iload_n (q := 1) dX11_refuse_0 rfl rfl ?_
    refine tt_inegE (v := nI 1) (q := 2) dX11_refuse_1 (by decide) rfl ?_
    refine sti_n_2 (q := 3) dX11_refuse_2 rfl rfl rfl ?_
    refine tt_iload_n (q := 4) dX11_refuse_3 rfl rfl ?_
    refine tt_if_le (q := 7) (t := 23) dX11_refuse_4 rfl rfl (fun c => absurd c (by decide)) (fun c => ?_)
    clear c
    refine tt_iload_n (q := 8) dX11_refuse_7 rfl rfl ?_
    refine tt_bipush (q := 10) dX11_refuse_8 bi_6 rfl ?_
    refine tt_icmp_gt (q := 13) (t := 23) dX11_refuse_10 rfl rfl (fun c => absurd c (by decide)) (fun c => ?_)
    clear c
    refine tt_aload_n (q := 14) dX11_refuse_13 rfl rfl ?_
    refine tt_getR (q := 17) dX11_refuse_14 fl_X11_96 or_0_11 (Nat.le_of_ble_eq_true rfl) rfl rfl ?_
    refine tt_iload_n (q := 18) dX11_refuse_17 rfl rfl ?_
    refine tt_dup2 (q := 19) dX11_refuse_18 rfl rfl rfl ?_
    refine tt_iald (q := 20) dX11_refuse_19 ia_101 (Nat.le_of_ble_eq_true rfl) rfl (Nat.le_of_ble_eq_true rfl : 1 < 7) rfl ?_
    refine tt_iconst (q := 21) dX11_refuse_20 ki_1 rfl ?_
    refine tt_iadd (q := 22) dX11_refuse_21 rfl ?_
    refine tt_iast (q := 23) dX11_refuse_22 ia_101 (Nat.le_of_ble_eq_true rfl) rfl (Nat.le_of_ble_eq_true rfl : 1 < 7) rfl ?_
    replace h := h _ rfl
    refine tt_iload_n (q := 24) dX11_refuse_23 rfl rfl ?_
    refine tt_iret dX11_refuse_24 ⟨rfl, _, rfl, ?_⟩
    exact tt_iret dX11_makeRow_16 ⟨rfl, _, rfl, h⟩
  · replace h := h.2 c
    refine tt_iload_n (q := 5) dX5_has_4 rfl rfl ?_
    refine tt_aload_n (q := 6) dX5_has_5 rfl rfl ?_
    refine tt_getI (q := 9) dX5_has_6 fl_X5_34 oi_36_0 (Nat.le_of_ble_eq_true rfl) rfl ?_
    refine tt_icmp_ge (q := 12) (t := 16) dX5_has_9 rfl rfl (fun c => ?_) (fun c => ?_)
    · replace h := h.1 c
      refine tt_iconst (q := 17) dX5_has_16 ki_0 rfl ?_
      refine tt_iret dX5_has_17 ⟨rfl, _, rfl, Or.inl nI_0, ?_⟩
      refine tt_if_ne (q := 11) (t := 17) dX11_makeRow_8 rfl rfl (fun c => absurd c (by decide)) (fun c => ?_)
      clear c
      refine tt_aload_n (q := 12) dX11_makeRow_11 rfl rfl ?_
      refine tt_iconst (q := 13) dX11_makeRow_12 ki_m1 rfl ?_
      refine callVi_1 (q := 16) dX11_makeRow_13 (Or.inr (Or.inl ⟨rfl, rfl, ⟨⟨_, _, rfl, rfl, (Nat.le_of_ble_eq_true rfl), rc_0⟩, Nat.le_of_ble_eq_true rfl, ?_⟩⟩)) (Nat.le_of_ble_eq_true rfl) rfl (fun t9 r8 ht9 => ht9)
      refine (show TT cX11_refuse RX11 false CT0 CN0 _ _ _ none 0 [_, _, dum] [] _ _ from ?_)
      refine tt_iload_n (q := 1) dX11_refuse_0 rfl rfl ?_
      refine tt_inegE (v := nI 1) (q := 2) dX11_refuse_1 (by decide) rfl ?_
      refine sti_n_2 (q := 3) dX11_refuse_2 rfl rfl rfl ?_
      refine tt_iload_n (q := 4) dX11_refuse_3 rfl rfl ?_
      refine tt_if_le (q := 7) (t := 23) dX11_refuse_4 rfl rfl (fun c => absurd c (by decide)) (fun c => ?_)
      clear c
      refine tt_iload_n (q := 8) dX11_refuse_7 rfl rfl ?_
      refine tt_bipush (q := 10) dX11_refuse_8 bi_6 rfl ?_
      refine tt_icmp_gt (q := 13) (t := 23) dX11_refuse_10 rfl rfl (fun c => absurd c (by decide)) (fun c => ?_)
      clear c
      refine tt_aload_n (q := 14) dX11_refuse_13 rfl rfl ?_
      refine tt_getR (q := 17) dX11_refuse_14 fl_X11_96 or_0_11 (Nat.le_of_ble_eq_true rfl) rfl rfl ?_
      refine tt_iload_n (q := 18) dX11_refuse_17 rfl rfl ?_
      refine tt_dup2 (q := 19) dX11_refuse_18 rfl rfl rfl ?_
      refine tt_iald (q := 20) dX11_refuse_19 ia_101 (Nat.le_of_ble_eq_true rfl) rfl (Nat.le_of_ble_eq_true rfl : 1 < 7) rfl ?_
      refine tt_iconst (q := 21) dX11_refuse_20 ki_1 rfl ?_
      refine tt_iadd (q := 22) dX11_refuse_21 rfl ?_
      refine tt_iast (q := 23) dX11_refuse_22 ia_101 (Nat.le_of_ble_eq_true rfl) rfl (Nat.le_of_ble_eq_true rfl : 1 < 7) rfl ?_
      replace h := h _ rfl
      refine tt_iload_n (q := 24) dX11_refuse_23 rfl rfl ?_
      refine tt_iret dX11_refuse_24 ⟨rfl, _, rfl, ?_⟩
      exact tt_iret dX11_makeRow_16 ⟨rfl, _, rfl, h⟩
    · replace h := h.2 c
      refine tt_iconst (q := 13) dX5_has_12 ki_1 rfl ?_
      refine tt_goto (t := 17) dX5_has_13 rfl ?_
      refine tt_iret dX5_has_17 ⟨rfl, _, rfl, Or.inr rfl, ?_⟩
      refine tt_if_ne (q := 11) (t := 17) dX11_makeRow_8 rfl rfl (fun c => ?_) (fun c => absurd c (by decide))
      clear c
      refine tt_aload_n (q := 18) dX11_makeRow_17 rfl rfl ?_
      refine tt_aload_n (q := 19) dX11_makeRow_18 rfl rfl ?_
      refine tt_getR (q := 22) dX11_makeRow_19 fl_X11_37 or_0_3 (Nat.le_of_ble_eq_true rfl) rfl rfl ?_
      refine tt_getR (q := 25) dX11_makeRow_22 fl_X11_170 or_36_3 (Nat.le_of_ble_eq_true rfl) rfl rfl ?_
      refine tt_iload_n (q := 26) dX11_makeRow_25 rfl rfl ?_
      obtain ⟨j12, e13, l11, h⟩ := h
      refine tt_aald (q := 27) dX11_makeRow_26 ig_49 (Nat.le_of_ble_eq_true rfl) e13 l11 rfl ?_
      refine tt_aload_n (q := 28) dX11_makeRow_27 rfl rfl ?_
      refine tt_getI (q := 31) dX11_makeRow_28 fl_X11_100 oi_0_12 (Nat.le_of_ble_eq_true rfl) rfl ?_
      obtain ⟨j15, e16, l14, h⟩ := h
      refine tt_iald (q := 32) dX11_makeRow_31 (gi_49 _ l11) (gl_49 _ l11) e16 l14 rfl ?_
      refine tt_putI (q := 35) dX11_makeRow_32 fl_X11_100 oi_0_12 (fp_11_12 _) (Nat.le_of_ble_eq_true rfl) rfl ?_
      replace h := h _ rfl
      refine tt_aload_n (q := 36) dX11_makeRow_35 rfl rfl ?_
      refine callVi_0 (q := 39) dX11_makeRow_36 (Or.inr (Or.inr (⟨rfl, rfl, ⟨⟨_, _, rfl, rfl, (Nat.le_of_ble_eq_true rfl), rc_0⟩, Nat.le_of_ble_eq_true rfl, ?_⟩⟩))) (Nat.le_of_ble_eq_true rfl) rfl (fun t19 r18 ht19 => ht19)
      refine (show TT cX11_solvedNow RX11 false CT0 CN0 _ _ _ none 0 [_] [] _ _ from ?_)
      refine tt_aload_n (q := 1) dX11_solvedNow_0 rfl rfl ?_
      refine tt_getI (q := 4) dX11_solvedNow_1 fl_X11_100 oi_0_12 (Nat.le_of_ble_eq_true rfl) rfl ?_
      refine tt_if_ne (q := 7) (t := 11) dX11_solvedNow_4 rfl rfl (fun c => ?_) (fun c => ?_)
      · replace h := h.1 c
        refine tt_iconst (q := 12) dX11_solvedNow_11 ki_0 rfl ?_
        refine tt_iret dX11_solvedNow_12 ⟨rfl, _, rfl, ?_⟩
        exact tt_iret dX11_makeRow_39 ⟨rfl, _, rfl, h⟩
      · replace h := h.2 c
        refine tt_iconst (q := 8) dX11_solvedNow_7 ki_1 rfl ?_
        refine tt_goto (t := 12) dX11_solvedNow_8 rfl ?_
        refine tt_iret dX11_solvedNow_12 ⟨rfl, _, rfl, ?_⟩
        exact tt_iret dX11_makeRow_39 ⟨rfl, _, rfl, h⟩

theorem g_X11_put_0 {post : SG → Int32 → Prop} {σ : SG} {a : Int32} (h : (((nI 0) ≤ a → ((a ≤ (nI 719) → (∀ s5 : SG, s5 = up σ 0 12 a → ((¬ (s5 0 12) = 0 → post s5 (nI 0)) ∧ ((s5 0 12) = 0 → post s5 (nI 1))))) ∧ (¬ a ≤ (nI 719) → (∀ s11 : SG, s11 = up σ 101 6 ((σ 101 6) + (nI 1)) → post s11 (-6 : Int32))))) ∧ (¬ (nI 0) ≤ a → (∀ s14 : SG, s14 = up σ 101 4 ((σ 101 4) + (nI 1)) → post s14 (-4 : Int32))))) : T_X11_put AF post 0 [.ref 0, .int a, dum] [] σ := by
  refine tt_iload_n (q := 1) dX11_put_0 rfl rfl ?_
  refine tt_iconst (q := 2) dX11_put_1 ki_0 rfl ?_
  refine tt_sipush (q := 5) dX11_put_2 si_719 rfl ?_
  refine callSi_3 (q := 8) dX11_put_5 (Or.inl ⟨rfl, rfl, ⟨rfl, Nat.le_of_ble_eq_true rfl, ?_⟩⟩) (Nat.le_of_ble_eq_true rfl) rfl (fun t2 r1 ht2 => ht2)
  refine (show TT cX11_outside RX11 false CT0 CN0 _ _ _ none 0 [_, _, _] [] _ _ from ?_)
  refine tt_iload_n (q := 1) dX11_outside_0 rfl rfl ?_
  refine tt_iload_n (q := 2) dX11_outside_1 rfl rfl ?_
  refine tt_icmp_ge (q := 5) (t := 8) dX11_outside_2 rfl rfl (fun c => ?_) (fun c => ?_)
  · replace h := h.1 c
    refine tt_iload_n (q := 9) dX11_outside_8 rfl rfl ?_
    refine tt_iload_n (q := 10) dX11_outside_9 rfl rfl ?_
    refine tt_icmp_le (q := 13) (t := 18) dX11_outside_10 rfl rfl (fun c => ?_) (fun c => ?_)
    · replace h := h.1 c
      refine tt_iconst (q := 19) dX11_outside_18 ki_0 rfl ?_
      refine tt_iret dX11_outside_19 ⟨rfl, _, rfl, ?_⟩
      refine sti_n_2 (q := 9) dX11_put_8 rfl rfl rfl ?_
      refine tt_iload_n (q := 10) dX11_put_9 rfl rfl ?_
      refine tt_if_eq (q := 13) (t := 19) dX11_put_10 rfl rfl (fun c => ?_) (fun c => absurd c (by decide))
      clear c
      refine tt_aload_n (q := 20) dX11_put_19 rfl rfl ?_
      refine tt_iload_n (q := 21) dX11_put_20 rfl rfl ?_
      refine tt_putI (q := 24) dX11_put_21 fl_X11_100 oi_0_12 (fp_11_12 _) (Nat.le_of_ble_eq_true rfl) rfl ?_
      replace h := h _ rfl
      refine tt_aload_n (q := 25) dX11_put_24 rfl rfl ?_
      refine callVi_0 (q := 28) dX11_put_25 (Or.inr (Or.inr (⟨rfl, rfl, ⟨⟨_, _, rfl, rfl, (Nat.le_of_ble_eq_true rfl), rc_0⟩, Nat.le_of_ble_eq_true rfl, ?_⟩⟩))) (Nat.le_of_ble_eq_true rfl) rfl (fun t7 r6 ht7 => ht7)
      refine (show TT cX11_solvedNow RX11 false CT0 CN0 _ _ _ none 0 [_] [] _ _ from ?_)
      refine tt_aload_n (q := 1) dX11_solvedNow_0 rfl rfl ?_
      refine tt_getI (q := 4) dX11_solvedNow_1 fl_X11_100 oi_0_12 (Nat.le_of_ble_eq_true rfl) rfl ?_
      refine tt_if_ne (q := 7) (t := 11) dX11_solvedNow_4 rfl rfl (fun c => ?_) (fun c => ?_)
      · replace h := h.1 c
        refine tt_iconst (q := 12) dX11_solvedNow_11 ki_0 rfl ?_
        refine tt_iret dX11_solvedNow_12 ⟨rfl, _, rfl, ?_⟩
        exact tt_iret dX11_put_28 ⟨rfl, _, rfl, h⟩
      · replace h := h.2 c
        refine tt_iconst (q := 8) dX11_solvedNow_7 ki_1 rfl ?_
        refine tt_goto (t := 12) dX11_solvedNow_8 rfl ?_
        refine tt_iret dX11_solvedNow_12 ⟨rfl, _, rfl, ?_⟩
        exact tt_iret dX11_put_28 ⟨rfl, _, rfl, h⟩
    · replace h := h.2 c
      refine tt_bipush (q := 15) dX11_outside_13 bi_m6 rfl ?_
      refine tt_goto (t := 19) dX11_outside_15 rfl ?_
      refine tt_iret dX11_outside_19 ⟨rfl, _, rfl, ?_⟩
      refine sti_n_2 (q := 9) dX11_put_8 rfl rfl rfl ?_
      refine tt_iload_n (q := 10) dX11_put_9 rfl rfl ?_
      refine tt_if_eq (q := 13) (t := 19) dX11_put_10 rfl rfl (fun c => absurd c (by decide)) (fun c => ?_)
      clear c
      refine tt_aload_n (q := 14) dX11_put_13 rfl rfl ?_
      refine tt_iload_n (q := 15) dX11_put_14 rfl rfl ?_
      refine callVi_1 (q := 18) dX11_put_15 (Or.inr (Or.inl ⟨rfl, rfl, ⟨⟨_, _, rfl, rfl, (Nat.le_of_ble_eq_true rfl), rc_0⟩, Nat.le_of_ble_eq_true rfl, ?_⟩⟩)) (Nat.le_of_ble_eq_true rfl) rfl (fun t10 r9 ht10 => ht10)
      refine (show TT cX11_refuse RX11 false CT0 CN0 _ _ _ none 0 [_, _, dum] [] _ _ from ?_)
      refine tt_iload_n (q := 1) dX11_refuse_0 rfl rfl ?_
      refine tt_inegE (v := nI 6) (q := 2) dX11_refuse_1 (by decide) rfl ?_
      refine sti_n_2 (q := 3) dX11_refuse_2 rfl rfl rfl ?_
      refine tt_iload_n (q := 4) dX11_refuse_3 rfl rfl ?_
      refine tt_if_le (q := 7) (t := 23) dX11_refuse_4 rfl rfl (fun c => absurd c (by decide)) (fun c => ?_)
      clear c
      refine tt_iload_n (q := 8) dX11_refuse_7 rfl rfl ?_
      refine tt_bipush (q := 10) dX11_refuse_8 bi_6 rfl ?_
      refine tt_icmp_gt (q := 13) (t := 23) dX11_refuse_10 rfl rfl (fun c => absurd c (by decide)) (fun c => ?_)
      clear c
      refine tt_aload_n (q := 14) dX11_refuse_13 rfl rfl ?_
      refine tt_getR (q := 17) dX11_refuse_14 fl_X11_96 or_0_11 (Nat.le_of_ble_eq_true rfl) rfl rfl ?_
      refine tt_iload_n (q := 18) dX11_refuse_17 rfl rfl ?_
      refine tt_dup2 (q := 19) dX11_refuse_18 rfl rfl rfl ?_
      refine tt_iald (q := 20) dX11_refuse_19 ia_101 (Nat.le_of_ble_eq_true rfl) rfl (Nat.le_of_ble_eq_true rfl : 6 < 7) rfl ?_
      refine tt_iconst (q := 21) dX11_refuse_20 ki_1 rfl ?_
      refine tt_iadd (q := 22) dX11_refuse_21 rfl ?_
      refine tt_iast (q := 23) dX11_refuse_22 ia_101 (Nat.le_of_ble_eq_true rfl) rfl (Nat.le_of_ble_eq_true rfl : 6 < 7) rfl ?_
      replace h := h _ rfl
      refine tt_iload_n (q := 24) dX11_refuse_23 rfl rfl ?_
      refine tt_iret dX11_refuse_24 ⟨rfl, _, rfl, ?_⟩
      exact tt_iret dX11_put_18 ⟨rfl, _, rfl, h⟩
  · replace h := h.2 c
    refine tt_bipush (q := 7) dX11_outside_5 bi_m4 rfl ?_
    refine tt_iret dX11_outside_7 ⟨rfl, _, rfl, ?_⟩
    refine sti_n_2 (q := 9) dX11_put_8 rfl rfl rfl ?_
    refine tt_iload_n (q := 10) dX11_put_9 rfl rfl ?_
    refine tt_if_eq (q := 13) (t := 19) dX11_put_10 rfl rfl (fun c => absurd c (by decide)) (fun c => ?_)
    clear c
    refine tt_aload_n (q := 14) dX11_put_13 rfl rfl ?_
    refine tt_iload_n (q := 15) dX11_put_14 rfl rfl ?_
    refine callVi_1 (q := 18) dX11_put_15 (Or.inr (Or.inl ⟨rfl, rfl, ⟨⟨_, _, rfl, rfl, (Nat.le_of_ble_eq_true rfl), rc_0⟩, Nat.le_of_ble_eq_true rfl, ?_⟩⟩)) (Nat.le_of_ble_eq_true rfl) rfl (fun t13 r12 ht13 => ht13)
    refine (show TT cX11_refuse RX11 false CT0 CN0 _ _ _ none 0 [_, _, dum] [] _ _ from ?_)
    refine tt_iload_n (q := 1) dX11_refuse_0 rfl rfl ?_
    refine tt_inegE (v := nI 4) (q := 2) dX11_refuse_1 (by decide) rfl ?_
    refine sti_n_2 (q := 3) dX11_refuse_2 rfl rfl rfl ?_
    refine tt_iload_n (q := 4) dX11_refuse_3 rfl rfl ?_
    refine tt_if_le (q := 7) (t := 23) dX11_refuse_4 rfl rfl (fun c => absurd c (by decide)) (fun c => ?_)
    clear c
    refine tt_iload_n (q := 8) dX11_refuse_7 rfl rfl ?_
    refine tt_bipush (q := 10) dX11_refuse_8 bi_6 rfl ?_
    refine tt_icmp_gt (q := 13) (t := 23) dX11_refuse_10 rfl rfl (fun c => absurd c (by decide)) (fun c => ?_)
    clear c
    refine tt_aload_n (q := 14) dX11_refuse_13 rfl rfl ?_
    refine tt_getR (q := 17) dX11_refuse_14 fl_X11_96 or_0_11 (Nat.le_of_ble_eq_true rfl) rfl rfl ?_
    refine tt_iload_n (q := 18) dX11_refuse_17 rfl rfl ?_
    refine tt_dup2 (q := 19) dX11_refuse_18 rfl rfl rfl ?_
    refine tt_iald (q := 20) dX11_refuse_19 ia_101 (Nat.le_of_ble_eq_true rfl) rfl (Nat.le_of_ble_eq_true rfl : 4 < 7) rfl ?_
    refine tt_iconst (q := 21) dX11_refuse_20 ki_1 rfl ?_
    refine tt_iadd (q := 22) dX11_refuse_21 rfl ?_
    refine tt_iast (q := 23) dX11_refuse_22 ia_101 (Nat.le_of_ble_eq_true rfl) rfl (Nat.le_of_ble_eq_true rfl : 4 < 7) rfl ?_
    replace h := h _ rfl
    refine tt_iload_n (q := 24) dX11_refuse_23 rfl rfl ?_
    refine tt_iret dX11_refuse_24 ⟨rfl, _, rfl, ?_⟩
    exact tt_iret dX11_put_18 ⟨rfl, _, rfl, h⟩

theorem g_X11_time_0 {post : SG → Int32 → Prop} {σ : SG} {a : Int32} {b : Int32} {c : Int32} (h : ((a < 0 → (∀ s6 : SG, s6 = up σ 101 1 ((σ 101 1) + (nI 1)) → post s6 (-1 : Int32))) ∧ (¬ a < 0 → (((σ 7 0) ≤ a → (∀ s10 : SG, s10 = up σ 101 1 ((σ 101 1) + (nI 1)) → post s10 (-1 : Int32))) ∧ (¬ (σ 7 0) ≤ a → ((b = 0 → ((¬ b = 0 → (((nI 0) ≤ c → ((c ≤ (nI 99) → (∃ j18 : Nat, b = nI j18 ∧ j18 < 2 ∧ (∃ j23 : Nat, a = nI j23 ∧ j23 < 6 ∧ (∃ j26 : Nat, a = nI j26 ∧ j26 < 6 ∧ (∀ s28 : SG, s28 = up σ (62 + 1 + j18) j26 c → post s28 (σ (62 + 1 + j18) j23)))))) ∧ (¬ c ≤ (nI 99) → (∀ s31 : SG, s31 = up σ 101 6 ((σ 101 6) + (nI 1)) → post s31 (-6 : Int32))))) ∧ (¬ (nI 0) ≤ c → (∀ s34 : SG, s34 = up σ 101 4 ((σ 101 4) + (nI 1)) → post s34 (-4 : Int32))))) ∧ (b = 0 → (((nI 1) ≤ c → ((c ≤ (nI 99) → (∃ j40 : Nat, b = nI j40 ∧ j40 < 2 ∧ (∃ j45 : Nat, a = nI j45 ∧ j45 < 6 ∧ (∃ j48 : Nat, a = nI j48 ∧ j48 < 6 ∧ (∀ s50 : SG, s50 = up σ (62 + 1 + j40) j48 c → post s50 (σ (62 + 1 + j40) j45)))))) ∧ (¬ c ≤ (nI 99) → (∀ s53 : SG, s53 = up σ 101 6 ((σ 101 6) + (nI 1)) → post s53 (-6 : Int32))))) ∧ (¬ (nI 1) ≤ c → (∀ s56 : SG, s56 = up σ 101 4 ((σ 101 4) + (nI 1)) → post s56 (-4 : Int32))))))) ∧ (¬ b = 0 → ((b = (nI 1) → ((¬ b = 0 → (((nI 0) ≤ c → ((c ≤ (nI 99) → (∃ j64 : Nat, b = nI j64 ∧ j64 < 2 ∧ (∃ j69 : Nat, a = nI j69 ∧ j69 < 6 ∧ (∃ j72 : Nat, a = nI j72 ∧ j72 < 6 ∧ (∀ s74 : SG, s74 = up σ (62 + 1 + j64) j72 c → post s74 (σ (62 + 1 + j64) j69)))))) ∧ (¬ c ≤ (nI 99) → (∀ s77 : SG, s77 = up σ 101 6 ((σ 101 6) + (nI 1)) → post s77 (-6 : Int32))))) ∧ (¬ (nI 0) ≤ c → (∀ s80 : SG, s80 = up σ 101 4 ((σ 101 4) + (nI 1)) → post s80 (-4 : Int32))))) ∧ (b = 0 → (((nI 1) ≤ c → ((c ≤ (nI 99) → (∃ j86 : Nat, b = nI j86 ∧ j86 < 2 ∧ (∃ j91 : Nat, a = nI j91 ∧ j91 < 6 ∧ (∃ j94 : Nat, a = nI j94 ∧ j94 < 6 ∧ (∀ s96 : SG, s96 = up σ (62 + 1 + j86) j94 c → post s96 (σ (62 + 1 + j86) j91)))))) ∧ (¬ c ≤ (nI 99) → (∀ s99 : SG, s99 = up σ 101 6 ((σ 101 6) + (nI 1)) → post s99 (-6 : Int32))))) ∧ (¬ (nI 1) ≤ c → (∀ s102 : SG, s102 = up σ 101 4 ((σ 101 4) + (nI 1)) → post s102 (-4 : Int32))))))) ∧ (¬ b = (nI 1) → (∀ s105 : SG, s105 = up σ 101 2 ((σ 101 2) + (nI 1)) → post s105 (-2 : Int32))))))))))) : T_X11_time AF post 0 [.ref 0, .int a, .int b, .int c, dum] [] σ := by
  refine tt_aload_n (q := 1) dX11_time_0 rfl rfl ?_
  refine tt_getR (q := 4) dX11_time_1 fl_X11_28 or_0_2 (Nat.le_of_ble_eq_true rfl) rfl rfl ?_
  refine tt_iload_n (q := 5) dX11_time_4 rfl rfl ?_
  refine callVi_1 (q := 8) dX11_time_5 (Or.inl ⟨rfl, rfl, ⟨⟨_, _, rfl, rfl, (Nat.le_of_ble_eq_true rfl), rc_7⟩, Nat.le_of_ble_eq_true rfl, ?_⟩⟩) (Nat.le_of_ble_eq_true rfl) rfl (fun t2 r1 ht2 => ht2)
  refine (show TT cX9_has RX9 false CT0 CN0 _ _ _ none 0 [_, _] [] _ _ from ?_)
  refine tt_iload_n (q := 1) dX9_has_0 rfl rfl ?_
  refine tt_if_lt (q := 4) (t := 16) dX9_has_1 rfl rfl (fun c => ?_) (fun c => ?_)
  · replace h := h.1 c
    refine tt_iconst (q := 17) dX9_has_16 ki_0 rfl ?_
    refine tt_iret dX9_has_17 ⟨rfl, _, rfl, Or.inl nI_0, ?_⟩
    refine tt_if_ne (q := 11) (t := 17) dX11_time_8 rfl rfl (fun c => absurd c (by decide)) (fun c => ?_)
    clear c
    refine tt_aload_n (q := 12) dX11_time_11 rfl rfl ?_
    refine tt_iconst (q := 13) dX11_time_12 ki_m1 rfl ?_
    refine callVi_1 (q := 16) dX11_time_13 (Or.inr (Or.inl ⟨rfl, rfl, ⟨⟨_, _, rfl, rfl, (Nat.le_of_ble_eq_true rfl), rc_0⟩, Nat.le_of_ble_eq_true rfl, ?_⟩⟩)) (Nat.le_of_ble_eq_true rfl) rfl (fun t5 r4 ht5 => ht5)
    refine (show TT cX11_refuse RX11 false CT0 CN0 _ _ _ none 0 [_, _, dum] [] _ _ from ?_)
    refine tt_iload_n (q := 1) dX11_refuse_0 rfl rfl ?_
    refine tt_inegE (v := nI 1) (q := 2) dX11_refuse_1 (by decide) rfl ?_
    refine sti_n_2 (q := 3) dX11_refuse_2 rfl rfl rfl ?_
    refine tt_iload_n (q := 4) dX11_refuse_3 rfl rfl ?_
    refine tt_if_le (q := 7) (t := 23) dX11_refuse_4 rfl rfl (fun c => absurd c (by decide)) (fun c => ?_)
    clear c
    refine tt_iload_n (q := 8) dX11_refuse_7 rfl rfl ?_
    refine tt_bipush (q := 10) dX11_refuse_8 bi_6 rfl ?_
    refine tt_icmp_gt (q := 13) (t := 23) dX11_refuse_10 rfl rfl (fun c => absurd c (by decide)) (fun c => ?_)
    clear c
    refine tt_aload_n (q := 14) dX11_refuse_13 rfl rfl ?_
    refine tt_getR (q := 17) dX11_refuse_14 fl_X11_96 or_0_11 (Nat.le_of_ble_eq_true rfl) rfl rfl ?_
    refine tt_iload_n (q := 18) dX11_refuse_17 rfl rfl ?_
    refine tt_dup2 (q := 19) dX11_refuse_18 rfl rfl rfl ?_
    refine tt_iald (q := 20) dX11_refuse_19 ia_101 (Nat.le_of_ble_eq_true rfl) rfl (Nat.le_of_ble_eq_true rfl : 1 < 7) rfl ?_
    refine tt_iconst (q := 21) dX11_refuse_20 ki_1 rfl ?_
    refine tt_iadd (q := 22) dX11_refuse_21 rfl ?_
    refine tt_iast (q := 23) dX11_refuse_22 ia_101 (Nat.le_of_ble_eq_true rfl) rfl (Nat.le_of_ble_eq_true rfl : 1 < 7) rfl ?_
    replace h := h _ rfl
    refine tt_iload_n (q := 24) dX11_refuse_23 rfl rfl ?_
    refine tt_iret dX11_refuse_24 ⟨rfl, _, rfl, ?_⟩
    exact tt_iret dX11_time_16 ⟨rfl, _, rfl, h⟩
  · replace h := h.2 c
    refine tt_iload_n (q := 5) dX9_has_4 rfl rfl ?_
    refine tt_aload_n (q := 6) dX9_has_5 rfl rfl ?_
    refine tt_getI (q := 9) dX9_has_6 fl_X9_33 oi_7_0 (Nat.le_of_ble_eq_true rfl) rfl ?_
    refine tt_icmp_ge (q := 12) (t := 16) dX9_has_9 rfl rfl (fun c => ?_) (fun c => ?_)
    · replace h := h.1 c
      refine tt_iconst (q := 17) dX9_has_16 ki_0 rfl ?_
      refine tt_iret dX9_has_17 ⟨rfl, _, rfl, Or.inl nI_0, ?_⟩
      refine tt_if_ne (q := 11) (t := 17) dX11_time_8 rfl rfl (fun c => absurd c (by decide)) (fun c => ?_)
      clear c
      refine tt_aload_n (q := 12) dX11_time_11 rfl rfl ?_
      refine tt_iconst (q := 13) dX11_time_12 ki_m1 rfl ?_
      refine callVi_1 (q := 16) dX11_time_13 (Or.inr (Or.inl ⟨rfl, rfl, ⟨⟨_, _, rfl, rfl, (Nat.le_of_ble_eq_true rfl), rc_0⟩, Nat.le_of_ble_eq_true rfl, ?_⟩⟩)) (Nat.le_of_ble_eq_true rfl) rfl (fun t9 r8 ht9 => ht9)
      refine (show TT cX11_refuse RX11 false CT0 CN0 _ _ _ none 0 [_, _, dum] [] _ _ from ?_)
      refine tt_iload_n (q := 1) dX11_refuse_0 rfl rfl ?_
      refine tt_inegE (v := nI 1) (q := 2) dX11_refuse_1 (by decide) rfl ?_
      refine sti_n_2 (q := 3) dX11_refuse_2 rfl rfl rfl ?_
      refine tt_iload_n (q := 4) dX11_refuse_3 rfl rfl ?_
      refine tt_if_le (q := 7) (t := 23) dX11_refuse_4 rfl rfl (fun c => absurd c (by decide)) (fun c => ?_)
      clear c
      refine tt_iload_n (q := 8) dX11_refuse_7 rfl rfl ?_
      refine tt_bipush (q := 10) dX11_refuse_8 bi_6 rfl ?_
      refine tt_icmp_gt (q := 13) (t := 23) dX11_refuse_10 rfl rfl (fun c => absurd c (by decide)) (fun c => ?_)
      clear c
      refine tt_aload_n (q := 14) dX11_refuse_13 rfl rfl ?_
      refine tt_getR (q := 17) dX11_refuse_14 fl_X11_96 or_0_11 (Nat.le_of_ble_eq_true rfl) rfl rfl ?_
      refine tt_iload_n (q := 18) dX11_refuse_17 rfl rfl ?_
      refine tt_dup2 (q := 19) dX11_refuse_18 rfl rfl rfl ?_
      refine tt_iald (q := 20) dX11_refuse_19 ia_101 (Nat.le_of_ble_eq_true rfl) rfl (Nat.le_of_ble_eq_true rfl : 1 < 7) rfl ?_
      refine tt_iconst (q := 21) dX11_refuse_20 ki_1 rfl ?_
      refine tt_iadd (q := 22) dX11_refuse_21 rfl ?_
      refine tt_iast (q := 23) dX11_refuse_22 ia_101 (Nat.le_of_ble_eq_true rfl) rfl (Nat.le_of_ble_eq_true rfl : 1 < 7) rfl ?_
      replace h := h _ rfl
      refine tt_iload_n (q := 24) dX11_refuse_23 rfl rfl ?_
      refine tt_iret dX11_refuse_24 ⟨rfl, _, rfl, ?_⟩
      exact tt_iret dX11_time_16 ⟨rfl, _, rfl, h⟩
    · replace h := h.2 c
      refine tt_iconst (q := 13) dX9_has_12 ki_1 rfl ?_
      refine tt_goto (t := 17) dX9_has_13 rfl ?_
      refine tt_iret dX9_has_17 ⟨rfl, _, rfl, Or.inr rfl, ?_⟩
      refine tt_if_ne (q := 11) (t := 17) dX11_time_8 rfl rfl (fun c => ?_) (fun c => absurd c (by decide))
      clear c
      refine tt_iload_n (q := 18) dX11_time_17 rfl rfl ?_
      refine tt_if_eq (q := 21) (t := 33) dX11_time_18 rfl rfl (fun c => ?_) (fun c => ?_)
      · replace h := h.1 c
        refine tt_iload_n (q := 34) dX11_time_33 rfl rfl ?_
        refine tt_iload_n (q := 35) dX11_time_34 rfl rfl ?_
        refine tt_if_ne (q := 38) (t := 42) dX11_time_35 rfl rfl (fun c => ?_) (fun c => ?_)
        · replace h := h.1 c
          refine tt_iconst (q := 43) dX11_time_42 ki_0 rfl ?_
          refine tt_bipush (q := 45) dX11_time_43 bi_99 rfl ?_
          refine callSi_3 (q := 48) dX11_time_45 (Or.inr (Or.inr (Or.inl ⟨rfl, rfl, ⟨rfl, Nat.le_of_ble_eq_true rfl, ?_⟩⟩))) (Nat.le_of_ble_eq_true rfl) rfl (fun t14 r13 ht14 => ht14)
          refine (show TT cX11_outside RX11 false CT0 CN0 _ _ _ none 0 [_, _, _] [] _ _ from ?_)
          refine tt_iload_n (q := 1) dX11_outside_0 rfl rfl ?_
          refine tt_iload_n (q := 2) dX11_outside_1 rfl rfl ?_
          refine tt_icmp_ge (q := 5) (t := 8) dX11_outside_2 rfl rfl (fun c => ?_) (fun c => ?_)
          · replace h := h.1 c
            refine tt_iload_n (q := 9) dX11_outside_8 rfl rfl ?_
            refine tt_iload_n (q := 10) dX11_outside_9 rfl rfl ?_
            refine tt_icmp_le (q := 13) (t := 18) dX11_outside_10 rfl rfl (fun c => ?_) (fun c => ?_)
            · replace h := h.1 c
              refine tt_iconst (q := 19) dX11_outside_18 ki_0 rfl ?_
              refine tt_iret dX11_outside_19 ⟨rfl, _, rfl, ?_⟩
              refine sti_4 (q := 50) dX11_time_48 rfl rfl ?_
              refine tt_iload (q := 52) dX11_time_50 rfl rfl ?_
              refine tt_if_eq (q := 55) (t := 62) dX11_time_52 rfl rfl (fun c => ?_) (fun c => absurd c (by decide))
              clear c
              refine tt_aload_n (q := 63) dX11_time_62 rfl rfl ?_
              refine tt_getR (q := 66) dX11_time_63 fl_X11_44 or_0_4 (Nat.le_of_ble_eq_true rfl) rfl rfl ?_
              refine tt_getR (q := 69) dX11_time_66 fl_X11_187 or_61_0 (Nat.le_of_ble_eq_true rfl) rfl rfl ?_
              refine tt_iload_n (q := 70) dX11_time_69 rfl rfl ?_
              obtain ⟨j18, e19, l17, h⟩ := h
              refine tt_aald (q := 71) dX11_time_70 ig_62 (Nat.le_of_ble_eq_true rfl) e19 l17 rfl ?_
              refine tt_iload_n (q := 72) dX11_time_71 rfl rfl ?_
              refine tt_iload_n (q := 73) dX11_time_72 rfl rfl ?_
              refine callSi_3 (q := 76) dX11_time_73 (Or.inr (Or.inr (Or.inr (⟨rfl, rfl, ⟨rfl, Nat.le_of_ble_eq_true rfl, ?_⟩⟩)))) (Nat.le_of_ble_eq_true rfl) rfl (fun t21 r20 ht21 => ht21)
              refine (show TT cX11_exchange RX11 false CT0 CN0 _ _ _ none 0 [_, _, _, dum] [] _ _ from ?_)
              refine tt_aload_n (q := 1) dX11_exchange_0 rfl rfl ?_
              refine tt_iload_n (q := 2) dX11_exchange_1 rfl rfl ?_
              obtain ⟨j23, e24, l22, h⟩ := h
              refine tt_iald (q := 3) dX11_exchange_2 (gi_62 _ l17) (gl_62 _ l17) e24 l22 rfl ?_
              refine sti_n_3 (q := 4) dX11_exchange_3 rfl rfl rfl ?_
              refine tt_aload_n (q := 5) dX11_exchange_4 rfl rfl ?_
              refine tt_iload_n (q := 6) dX11_exchange_5 rfl rfl ?_
              refine tt_iload_n (q := 7) dX11_exchange_6 rfl rfl ?_
              obtain ⟨j26, e27, l25, h⟩ := h
              refine tt_iast (q := 8) dX11_exchange_7 (gi_62 _ l17) (gl_62 _ l17) e27 l25 rfl ?_
              replace h := h _ rfl
              refine tt_iload_n (q := 9) dX11_exchange_8 rfl rfl ?_
              refine tt_iret dX11_exchange_9 ⟨rfl, _, rfl, ?_⟩
              exact tt_iret dX11_time_76 ⟨rfl, _, rfl, h⟩
            · replace h := h.2 c
              refine tt_bipush (q := 15) dX11_outside_13 bi_m6 rfl ?_
              refine tt_goto (t := 19) dX11_outside_15 rfl ?_
              refine tt_iret dX11_outside_19 ⟨rfl, _, rfl, ?_⟩
              refine sti_4 (q := 50) dX11_time_48 rfl rfl ?_
              refine tt_iload (q := 52) dX11_time_50 rfl rfl ?_
              refine tt_if_eq (q := 55) (t := 62) dX11_time_52 rfl rfl (fun c => absurd c (by decide)) (fun c => ?_)
              clear c
              refine tt_aload_n (q := 56) dX11_time_55 rfl rfl ?_
              refine tt_iload (q := 58) dX11_time_56 rfl rfl ?_
              refine callVi_1 (q := 61) dX11_time_58 (Or.inr (Or.inl ⟨rfl, rfl, ⟨⟨_, _, rfl, rfl, (Nat.le_of_ble_eq_true rfl), rc_0⟩, Nat.le_of_ble_eq_true rfl, ?_⟩⟩)) (Nat.le_of_ble_eq_true rfl) rfl (fun t30 r29 ht30 => ht30)
              refine (show TT cX11_refuse RX11 false CT0 CN0 _ _ _ none 0 [_, _, dum] [] _ _ from ?_)
              refine tt_iload_n (q := 1) dX11_refuse_0 rfl rfl ?_
              refine tt_inegE (v := nI 6) (q := 2) dX11_refuse_1 (by decide) rfl ?_
              refine sti_n_2 (q := 3) dX11_refuse_2 rfl rfl rfl ?_
              refine tt_iload_n (q := 4) dX11_refuse_3 rfl rfl ?_
              refine tt_if_le (q := 7) (t := 23) dX11_refuse_4 rfl rfl (fun c => absurd c (by decide)) (fun c => ?_)
              clear c
              refine tt_iload_n (q := 8) dX11_refuse_7 rfl rfl ?_
              refine tt_bipush (q := 10) dX11_refuse_8 bi_6 rfl ?_
              refine tt_icmp_gt (q := 13) (t := 23) dX11_refuse_10 rfl rfl (fun c => absurd c (by decide)) (fun c => ?_)
              clear c
              refine tt_aload_n (q := 14) dX11_refuse_13 rfl rfl ?_
              refine tt_getR (q := 17) dX11_refuse_14 fl_X11_96 or_0_11 (Nat.le_of_ble_eq_true rfl) rfl rfl ?_
              refine tt_iload_n (q := 18) dX11_refuse_17 rfl rfl ?_
              refine tt_dup2 (q := 19) dX11_refuse_18 rfl rfl rfl ?_
              refine tt_iald (q := 20) dX11_refuse_19 ia_101 (Nat.le_of_ble_eq_true rfl) rfl (Nat.le_of_ble_eq_true rfl : 6 < 7) rfl ?_
              refine tt_iconst (q := 21) dX11_refuse_20 ki_1 rfl ?_
              refine tt_iadd (q := 22) dX11_refuse_21 rfl ?_
              refine tt_iast (q := 23) dX11_refuse_22 ia_101 (Nat.le_of_ble_eq_true rfl) rfl (Nat.le_of_ble_eq_true rfl : 6 < 7) rfl ?_
              replace h := h _ rfl
              refine tt_iload_n (q := 24) dX11_refuse_23 rfl rfl ?_
              refine tt_iret dX11_refuse_24 ⟨rfl, _, rfl, ?_⟩
              exact tt_iret dX11_time_61 ⟨rfl, _, rfl, h⟩
          · replace h := h.2 c
            refine tt_bipush (q := 7) dX11_outside_5 bi_m4 rfl ?_
            refine tt_iret dX11_outside_7 ⟨rfl, _, rfl, ?_⟩
            refine sti_4 (q := 50) dX11_time_48 rfl rfl ?_
            refine tt_iload (q := 52) dX11_time_50 rfl rfl ?_
            refine tt_if_eq (q := 55) (t := 62) dX11_time_52 rfl rfl (fun c => absurd c (by decide)) (fun c => ?_)
            clear c
            refine tt_aload_n (q := 56) dX11_time_55 rfl rfl ?_
            refine tt_iload (q := 58) dX11_time_56 rfl rfl ?_
            refine callVi_1 (q := 61) dX11_time_58 (Or.inr (Or.inl ⟨rfl, rfl, ⟨⟨_, _, rfl, rfl, (Nat.le_of_ble_eq_true rfl), rc_0⟩, Nat.le_of_ble_eq_true rfl, ?_⟩⟩)) (Nat.le_of_ble_eq_true rfl) rfl (fun t33 r32 ht33 => ht33)
            refine (show TT cX11_refuse RX11 false CT0 CN0 _ _ _ none 0 [_, _, dum] [] _ _ from ?_)
            refine tt_iload_n (q := 1) dX11_refuse_0 rfl rfl ?_
            refine tt_inegE (v := nI 4) (q := 2) dX11_refuse_1 (by decide) rfl ?_
            refine sti_n_2 (q := 3) dX11_refuse_2 rfl rfl rfl ?_
            refine tt_iload_n (q := 4) dX11_refuse_3 rfl rfl ?_
            refine tt_if_le (q := 7) (t := 23) dX11_refuse_4 rfl rfl (fun c => absurd c (by decide)) (fun c => ?_)
            clear c
            refine tt_iload_n (q := 8) dX11_refuse_7 rfl rfl ?_
            refine tt_bipush (q := 10) dX11_refuse_8 bi_6 rfl ?_
            refine tt_icmp_gt (q := 13) (t := 23) dX11_refuse_10 rfl rfl (fun c => absurd c (by decide)) (fun c => ?_)
            clear c
            refine tt_aload_n (q := 14) dX11_refuse_13 rfl rfl ?_
            refine tt_getR (q := 17) dX11_refuse_14 fl_X11_96 or_0_11 (Nat.le_of_ble_eq_true rfl) rfl rfl ?_
            refine tt_iload_n (q := 18) dX11_refuse_17 rfl rfl ?_
            refine tt_dup2 (q := 19) dX11_refuse_18 rfl rfl rfl ?_
            refine tt_iald (q := 20) dX11_refuse_19 ia_101 (Nat.le_of_ble_eq_true rfl) rfl (Nat.le_of_ble_eq_true rfl : 4 < 7) rfl ?_
            refine tt_iconst (q := 21) dX11_refuse_20 ki_1 rfl ?_
            refine tt_iadd (q := 22) dX11_refuse_21 rfl ?_
            refine tt_iast (q := 23) dX11_refuse_22 ia_101 (Nat.le_of_ble_eq_true rfl) rfl (Nat.le_of_ble_eq_true rfl : 4 < 7) rfl ?_
            replace h := h _ rfl
            refine tt_iload_n (q := 24) dX11_refuse_23 rfl rfl ?_
            refine tt_iret dX11_refuse_24 ⟨rfl, _, rfl, ?_⟩
            exact tt_iret dX11_time_61 ⟨rfl, _, rfl, h⟩
        · replace h := h.2 c
          refine tt_iconst (q := 39) dX11_time_38 ki_1 rfl ?_
          refine tt_goto (t := 43) dX11_time_39 rfl ?_
          refine tt_bipush (q := 45) dX11_time_43 bi_99 rfl ?_
          refine callSi_3 (q := 48) dX11_time_45 (Or.inr (Or.inr (Or.inl ⟨rfl, rfl, ⟨rfl, Nat.le_of_ble_eq_true rfl, ?_⟩⟩))) (Nat.le_of_ble_eq_true rfl) rfl (fun t36 r35 ht36 => ht36)
          refine (show TT cX11_outside RX11 false CT0 CN0 _ _ _ none 0 [_, _, _] [] _ _ from ?_)
          refine tt_iload_n (q := 1) dX11_outside_0 rfl rfl ?_
          refine tt_iload_n (q := 2) dX11_outside_1 rfl rfl ?_
          refine tt_icmp_ge (q := 5) (t := 8) dX11_outside_2 rfl rfl (fun c => ?_) (fun c => ?_)
          · replace h := h.1 c
            refine tt_iload_n (q := 9) dX11_outside_8 rfl rfl ?_
            refine tt_iload_n (q := 10) dX11_outside_9 rfl rfl ?_
            refine tt_icmp_le (q := 13) (t := 18) dX11_outside_10 rfl rfl (fun c => ?_) (fun c => ?_)
            · replace h := h.1 c
              refine tt_iconst (q := 19) dX11_outside_18 ki_0 rfl ?_
              refine tt_iret dX11_outside_19 ⟨rfl, _, rfl, ?_⟩
              refine sti_4 (q := 50) dX11_time_48 rfl rfl ?_
              refine tt_iload (q := 52) dX11_time_50 rfl rfl ?_
              refine tt_if_eq (q := 55) (t := 62) dX11_time_52 rfl rfl (fun c => ?_) (fun c => absurd c (by decide))
              clear c
              refine tt_aload_n (q := 63) dX11_time_62 rfl rfl ?_
              refine tt_getR (q := 66) dX11_time_63 fl_X11_44 or_0_4 (Nat.le_of_ble_eq_true rfl) rfl rfl ?_
              refine tt_getR (q := 69) dX11_time_66 fl_X11_187 or_61_0 (Nat.le_of_ble_eq_true rfl) rfl rfl ?_
              refine tt_iload_n (q := 70) dX11_time_69 rfl rfl ?_
              obtain ⟨j40, e41, l39, h⟩ := h
              refine tt_aald (q := 71) dX11_time_70 ig_62 (Nat.le_of_ble_eq_true rfl) e41 l39 rfl ?_
              refine tt_iload_n (q := 72) dX11_time_71 rfl rfl ?_
              refine tt_iload_n (q := 73) dX11_time_72 rfl rfl ?_
              refine callSi_3 (q := 76) dX11_time_73 (Or.inr (Or.inr (Or.inr (⟨rfl, rfl, ⟨rfl, Nat.le_of_ble_eq_true rfl, ?_⟩⟩)))) (Nat.le_of_ble_eq_true rfl) rfl (fun t43 r42 ht43 => ht43)
              refine (show TT cX11_exchange RX11 false CT0 CN0 _ _ _ none 0 [_, _, _, dum] [] _ _ from ?_)
              refine tt_aload_n (q := 1) dX11_exchange_0 rfl rfl ?_
              refine tt_iload_n (q := 2) dX11_exchange_1 rfl rfl ?_
              obtain ⟨j45, e46, l44, h⟩ := h
              refine tt_iald (q := 3) dX11_exchange_2 (gi_62 _ l39) (gl_62 _ l39) e46 l44 rfl ?_
              refine sti_n_3 (q := 4) dX11_exchange_3 rfl rfl rfl ?_
              refine tt_aload_n (q := 5) dX11_exchange_4 rfl rfl ?_
              refine tt_iload_n (q := 6) dX11_exchange_5 rfl rfl ?_
              refine tt_iload_n (q := 7) dX11_exchange_6 rfl rfl ?_
              obtain ⟨j48, e49, l47, h⟩ := h
              refine tt_iast (q := 8) dX11_exchange_7 (gi_62 _ l39) (gl_62 _ l39) e49 l47 rfl ?_
              replace h := h _ rfl
              refine tt_iload_n (q := 9) dX11_exchange_8 rfl rfl ?_
              refine tt_iret dX11_exchange_9 ⟨rfl, _, rfl, ?_⟩
              exact tt_iret dX11_time_76 ⟨rfl, _, rfl, h⟩
            · replace h := h.2 c
              refine tt_bipush (q := 15) dX11_outside_13 bi_m6 rfl ?_
              refine tt_goto (t := 19) dX11_outside_15 rfl ?_
              refine tt_iret dX11_outside_19 ⟨rfl, _, rfl, ?_⟩
              refine sti_4 (q := 50) dX11_time_48 rfl rfl ?_
              refine tt_iload (q := 52) dX11_time_50 rfl rfl ?_
              refine tt_if_eq (q := 55) (t := 62) dX11_time_52 rfl rfl (fun c => absurd c (by decide)) (fun c => ?_)
              clear c
              refine tt_aload_n (q := 56) dX11_time_55 rfl rfl ?_
              refine tt_iload (q := 58) dX11_time_56 rfl rfl ?_
              refine callVi_1 (q := 61) dX11_time_58 (Or.inr (Or.inl ⟨rfl, rfl, ⟨⟨_, _, rfl, rfl, (Nat.le_of_ble_eq_true rfl), rc_0⟩, Nat.le_of_ble_eq_true rfl, ?_⟩⟩)) (Nat.le_of_ble_eq_true rfl) rfl (fun t52 r51 ht52 => ht52)
              refine (show TT cX11_refuse RX11 false CT0 CN0 _ _ _ none 0 [_, _, dum] [] _ _ from ?_)
              refine tt_iload_n (q := 1) dX11_refuse_0 rfl rfl ?_
              refine tt_inegE (v := nI 6) (q := 2) dX11_refuse_1 (by decide) rfl ?_
              refine sti_n_2 (q := 3) dX11_refuse_2 rfl rfl rfl ?_
              refine tt_iload_n (q := 4) dX11_refuse_3 rfl rfl ?_
              refine tt_if_le (q := 7) (t := 23) dX11_refuse_4 rfl rfl (fun c => absurd c (by decide)) (fun c => ?_)
              clear c
              refine tt_iload_n (q := 8) dX11_refuse_7 rfl rfl ?_
              refine tt_bipush (q := 10) dX11_refuse_8 bi_6 rfl ?_
              refine tt_icmp_gt (q := 13) (t := 23) dX11_refuse_10 rfl rfl (fun c => absurd c (by decide)) (fun c => ?_)
              clear c
              refine tt_aload_n (q := 14) dX11_refuse_13 rfl rfl ?_
              refine tt_getR (q := 17) dX11_refuse_14 fl_X11_96 or_0_11 (Nat.le_of_ble_eq_true rfl) rfl rfl ?_
              refine tt_iload_n (q := 18) dX11_refuse_17 rfl rfl ?_
              refine tt_dup2 (q := 19) dX11_refuse_18 rfl rfl rfl ?_
              refine tt_iald (q := 20) dX11_refuse_19 ia_101 (Nat.le_of_ble_eq_true rfl) rfl (Nat.le_of_ble_eq_true rfl : 6 < 7) rfl ?_
              refine tt_iconst (q := 21) dX11_refuse_20 ki_1 rfl ?_
              refine tt_iadd (q := 22) dX11_refuse_21 rfl ?_
              refine tt_iast (q := 23) dX11_refuse_22 ia_101 (Nat.le_of_ble_eq_true rfl) rfl (Nat.le_of_ble_eq_true rfl : 6 < 7) rfl ?_
              replace h := h _ rfl
              refine tt_iload_n (q := 24) dX11_refuse_23 rfl rfl ?_
              refine tt_iret dX11_refuse_24 ⟨rfl, _, rfl, ?_⟩
              exact tt_iret dX11_time_61 ⟨rfl, _, rfl, h⟩
          · replace h := h.2 c
            refine tt_bipush (q := 7) dX11_outside_5 bi_m4 rfl ?_
            refine tt_iret dX11_outside_7 ⟨rfl, _, rfl, ?_⟩
            refine sti_4 (q := 50) dX11_time_48 rfl rfl ?_
            refine tt_iload (q := 52) dX11_time_50 rfl rfl ?_
            refine tt_if_eq (q := 55) (t := 62) dX11_time_52 rfl rfl (fun c => absurd c (by decide)) (fun c => ?_)
            clear c
            refine tt_aload_n (q := 56) dX11_time_55 rfl rfl ?_
            refine tt_iload (q := 58) dX11_time_56 rfl rfl ?_
            refine callVi_1 (q := 61) dX11_time_58 (Or.inr (Or.inl ⟨rfl, rfl, ⟨⟨_, _, rfl, rfl, (Nat.le_of_ble_eq_true rfl), rc_0⟩, Nat.le_of_ble_eq_true rfl, ?_⟩⟩)) (Nat.le_of_ble_eq_true rfl) rfl (fun t55 r54 ht55 => ht55)
            refine (show TT cX11_refuse RX11 false CT0 CN0 _ _ _ none 0 [_, _, dum] [] _ _ from ?_)
            refine tt_iload_n (q := 1) dX11_refuse_0 rfl rfl ?_
            refine tt_inegE (v := nI 4) (q := 2) dX11_refuse_1 (by decide) rfl ?_
            refine sti_n_2 (q := 3) dX11_refuse_2 rfl rfl rfl ?_
            refine tt_iload_n (q := 4) dX11_refuse_3 rfl rfl ?_
            refine tt_if_le (q := 7) (t := 23) dX11_refuse_4 rfl rfl (fun c => absurd c (by decide)) (fun c => ?_)
            clear c
            refine tt_iload_n (q := 8) dX11_refuse_7 rfl rfl ?_
            refine tt_bipush (q := 10) dX11_refuse_8 bi_6 rfl ?_
            refine tt_icmp_gt (q := 13) (t := 23) dX11_refuse_10 rfl rfl (fun c => absurd c (by decide)) (fun c => ?_)
            clear c
            refine tt_aload_n (q := 14) dX11_refuse_13 rfl rfl ?_
            refine tt_getR (q := 17) dX11_refuse_14 fl_X11_96 or_0_11 (Nat.le_of_ble_eq_true rfl) rfl rfl ?_
            refine tt_iload_n (q := 18) dX11_refuse_17 rfl rfl ?_
            refine tt_dup2 (q := 19) dX11_refuse_18 rfl rfl rfl ?_
            refine tt_iald (q := 20) dX11_refuse_19 ia_101 (Nat.le_of_ble_eq_true rfl) rfl (Nat.le_of_ble_eq_true rfl : 4 < 7) rfl ?_
            refine tt_iconst (q := 21) dX11_refuse_20 ki_1 rfl ?_
            refine tt_iadd (q := 22) dX11_refuse_21 rfl ?_
            refine tt_iast (q := 23) dX11_refuse_22 ia_101 (Nat.le_of_ble_eq_true rfl) rfl (Nat.le_of_ble_eq_true rfl : 4 < 7) rfl ?_
            replace h := h _ rfl
            refine tt_iload_n (q := 24) dX11_refuse_23 rfl rfl ?_
            refine tt_iret dX11_refuse_24 ⟨rfl, _, rfl, ?_⟩
            exact tt_iret dX11_time_61 ⟨rfl, _, rfl, h⟩
      · replace h := h.2 c
        refine tt_iload_n (q := 22) dX11_time_21 rfl rfl ?_
        refine tt_iconst (q := 23) dX11_time_22 ki_1 rfl ?_
        refine tt_icmp_eq (q := 26) (t := 33) dX11_time_23 rfl rfl (fun c => ?_) (fun c => ?_)
        · replace h := h.1 c
          refine tt_iload_n (q := 34) dX11_time_33 rfl rfl ?_
          refine tt_iload_n (q := 35) dX11_time_34 rfl rfl ?_
          refine tt_if_ne (q := 38) (t := 42) dX11_time_35 rfl rfl (fun c => ?_) (fun c => ?_)
          · replace h := h.1 c
            refine tt_iconst (q := 43) dX11_time_42 ki_0 rfl ?_
            refine tt_bipush (q := 45) dX11_time_43 bi_99 rfl ?_
            refine callSi_3 (q := 48) dX11_time_45 (Or.inr (Or.inr (Or.inl ⟨rfl, rfl, ⟨rfl, Nat.le_of_ble_eq_true rfl, ?_⟩⟩))) (Nat.le_of_ble_eq_true rfl) rfl (fun t60 r59 ht60 => ht60)
            refine (show TT cX11_outside RX11 false CT0 CN0 _ _ _ none 0 [_, _, _] [] _ _ from ?_)
            refine tt_iload_n (q := 1) dX11_outside_0 rfl rfl ?_
            refine tt_iload_n (q := 2) dX11_outside_1 rfl rfl ?_
            refine tt_icmp_ge (q := 5) (t := 8) dX11_outside_2 rfl rfl (fun c => ?_) (fun c => ?_)
            · replace h := h.1 c
              refine tt_iload_n (q := 9) dX11_outside_8 rfl rfl ?_
              refine tt_iload_n (q := 10) dX11_outside_9 rfl rfl ?_
              refine tt_icmp_le (q := 13) (t := 18) dX11_outside_10 rfl rfl (fun c => ?_) (fun c => ?_)
              · replace h := h.1 c
                refine tt_iconst (q := 19) dX11_outside_18 ki_0 rfl ?_
                refine tt_iret dX11_outside_19 ⟨rfl, _, rfl, ?_⟩
                refine sti_4 (q := 50) dX11_time_48 rfl rfl ?_
                refine tt_iload (q := 52) dX11_time_50 rfl rfl ?_
                refine tt_if_eq (q := 55) (t := 62) dX11_time_52 rfl rfl (fun c => ?_) (fun c => absurd c (by decide))
                clear c
                refine tt_aload_n (q := 63) dX11_time_62 rfl rfl ?_
                refine tt_getR (q := 66) dX11_time_63 fl_X11_44 or_0_4 (Nat.le_of_ble_eq_true rfl) rfl rfl ?_
                refine tt_getR (q := 69) dX11_time_66 fl_X11_187 or_61_0 (Nat.le_of_ble_eq_true rfl) rfl rfl ?_
                refine tt_iload_n (q := 70) dX11_time_69 rfl rfl ?_
                obtain ⟨j64, e65, l63, h⟩ := h
                refine tt_aald (q := 71) dX11_time_70 ig_62 (Nat.le_of_ble_eq_true rfl) e65 l63 rfl ?_
                refine tt_iload_n (q := 72) dX11_time_71 rfl rfl ?_
                refine tt_iload_n (q := 73) dX11_time_72 rfl rfl ?_
                refine callSi_3 (q := 76) dX11_time_73 (Or.inr (Or.inr (Or.inr (⟨rfl, rfl, ⟨rfl, Nat.le_of_ble_eq_true rfl, ?_⟩⟩)))) (Nat.le_of_ble_eq_true rfl) rfl (fun t67 r66 ht67 => ht67)
                refine (show TT cX11_exchange RX11 false CT0 CN0 _ _ _ none 0 [_, _, _, dum] [] _ _ from ?_)
                refine tt_aload_n (q := 1) dX11_exchange_0 rfl rfl ?_
                refine tt_iload_n (q := 2) dX11_exchange_1 rfl rfl ?_
                obtain ⟨j69, e70, l68, h⟩ := h
                refine tt_iald (q := 3) dX11_exchange_2 (gi_62 _ l63) (gl_62 _ l63) e70 l68 rfl ?_
                refine sti_n_3 (q := 4) dX11_exchange_3 rfl rfl rfl ?_
                refine tt_aload_n (q := 5) dX11_exchange_4 rfl rfl ?_
                refine tt_iload_n (q := 6) dX11_exchange_5 rfl rfl ?_
                refine tt_iload_n (q := 7) dX11_exchange_6 rfl rfl ?_
                obtain ⟨j72, e73, l71, h⟩ := h
                refine tt_iast (q := 8) dX11_exchange_7 (gi_62 _ l63) (gl_62 _ l63) e73 l71 rfl ?_
                replace h := h _ rfl
                refine tt_iload_n (q := 9) dX11_exchange_8 rfl rfl ?_
                refine tt_iret dX11_exchange_9 ⟨rfl, _, rfl, ?_⟩
                exact tt_iret dX11_time_76 ⟨rfl, _, rfl, h⟩
              · replace h := h.2 c
                refine tt_bipush (q := 15) dX11_outside_13 bi_m6 rfl ?_
                refine tt_goto (t := 19) dX11_outside_15 rfl ?_
                refine tt_iret dX11_outside_19 ⟨rfl, _, rfl, ?_⟩
                refine sti_4 (q := 50) dX11_time_48 rfl rfl ?_
                refine tt_iload (q := 52) dX11_time_50 rfl rfl ?_
                refine tt_if_eq (q := 55) (t := 62) dX11_time_52 rfl rfl (fun c => absurd c (by decide)) (fun c => ?_)
                clear c
                refine tt_aload_n (q := 56) dX11_time_55 rfl rfl ?_
                refine tt_iload (q := 58) dX11_time_56 rfl rfl ?_
                refine callVi_1 (q := 61) dX11_time_58 (Or.inr (Or.inl ⟨rfl, rfl, ⟨⟨_, _, rfl, rfl, (Nat.le_of_ble_eq_true rfl), rc_0⟩, Nat.le_of_ble_eq_true rfl, ?_⟩⟩)) (Nat.le_of_ble_eq_true rfl) rfl (fun t76 r75 ht76 => ht76)
                refine (show TT cX11_refuse RX11 false CT0 CN0 _ _ _ none 0 [_, _, dum] [] _ _ from ?_)
                refine tt_iload_n (q := 1) dX11_refuse_0 rfl rfl ?_
                refine tt_inegE (v := nI 6) (q := 2) dX11_refuse_1 (by decide) rfl ?_
                refine sti_n_2 (q := 3) dX11_refuse_2 rfl rfl rfl ?_
                refine tt_iload_n (q := 4) dX11_refuse_3 rfl rfl ?_
                refine tt_if_le (q := 7) (t := 23) dX11_refuse_4 rfl rfl (fun c => absurd c (by decide)) (fun c => ?_)
                clear c
                refine tt_iload_n (q := 8) dX11_refuse_7 rfl rfl ?_
                refine tt_bipush (q := 10) dX11_refuse_8 bi_6 rfl ?_
                refine tt_icmp_gt (q := 13) (t := 23) dX11_refuse_10 rfl rfl (fun c => absurd c (by decide)) (fun c => ?_)
                clear c
                refine tt_aload_n (q := 14) dX11_refuse_13 rfl rfl ?_
                refine tt_getR (q := 17) dX11_refuse_14 fl_X11_96 or_0_11 (Nat.le_of_ble_eq_true rfl) rfl rfl ?_
                refine tt_iload_n (q := 18) dX11_refuse_17 rfl rfl ?_
                refine tt_dup2 (q := 19) dX11_refuse_18 rfl rfl rfl ?_
                refine tt_iald (q := 20) dX11_refuse_19 ia_101 (Nat.le_of_ble_eq_true rfl) rfl (Nat.le_of_ble_eq_true rfl : 6 < 7) rfl ?_
                refine tt_iconst (q := 21) dX11_refuse_20 ki_1 rfl ?_
                refine tt_iadd (q := 22) dX11_refuse_21 rfl ?_
                refine tt_iast (q := 23) dX11_refuse_22 ia_101 (Nat.le_of_ble_eq_true rfl) rfl (Nat.le_of_ble_eq_true rfl : 6 < 7) rfl ?_
                replace h := h _ rfl
                refine tt_iload_n (q := 24) dX11_refuse_23 rfl rfl ?_
                refine tt_iret dX11_refuse_24 ⟨rfl, _, rfl, ?_⟩
                exact tt_iret dX11_time_61 ⟨rfl, _, rfl, h⟩
            · replace h := h.2 c
              refine tt_bipush (q := 7) dX11_outside_5 bi_m4 rfl ?_
              refine tt_iret dX11_outside_7 ⟨rfl, _, rfl, ?_⟩
              refine sti_4 (q := 50) dX11_time_48 rfl rfl ?_
              refine tt_iload (q := 52) dX11_time_50 rfl rfl ?_
              refine tt_if_eq (q := 55) (t := 62) dX11_time_52 rfl rfl (fun c => absurd c (by decide)) (fun c => ?_)
              clear c
              refine tt_aload_n (q := 56) dX11_time_55 rfl rfl ?_
              refine tt_iload (q := 58) dX11_time_56 rfl rfl ?_
              refine callVi_1 (q := 61) dX11_time_58 (Or.inr (Or.inl ⟨rfl, rfl, ⟨⟨_, _, rfl, rfl, (Nat.le_of_ble_eq_true rfl), rc_0⟩, Nat.le_of_ble_eq_true rfl, ?_⟩⟩)) (Nat.le_of_ble_eq_true rfl) rfl (fun t79 r78 ht79 => ht79)
              refine (show TT cX11_refuse RX11 false CT0 CN0 _ _ _ none 0 [_, _, dum] [] _ _ from ?_)
              refine tt_iload_n (q := 1) dX11_refuse_0 rfl rfl ?_
              refine tt_inegE (v := nI 4) (q := 2) dX11_refuse_1 (by decide) rfl ?_
              refine sti_n_2 (q := 3) dX11_refuse_2 rfl rfl rfl ?_
              refine tt_iload_n (q := 4) dX11_refuse_3 rfl rfl ?_
              refine tt_if_le (q := 7) (t := 23) dX11_refuse_4 rfl rfl (fun c => absurd c (by decide)) (fun c => ?_)
              clear c
              refine tt_iload_n (q := 8) dX11_refuse_7 rfl rfl ?_
              refine tt_bipush (q := 10) dX11_refuse_8 bi_6 rfl ?_
              refine tt_icmp_gt (q := 13) (t := 23) dX11_refuse_10 rfl rfl (fun c => absurd c (by decide)) (fun c => ?_)
              clear c
              refine tt_aload_n (q := 14) dX11_refuse_13 rfl rfl ?_
              refine tt_getR (q := 17) dX11_refuse_14 fl_X11_96 or_0_11 (Nat.le_of_ble_eq_true rfl) rfl rfl ?_
              refine tt_iload_n (q := 18) dX11_refuse_17 rfl rfl ?_
              refine tt_dup2 (q := 19) dX11_refuse_18 rfl rfl rfl ?_
              refine tt_iald (q := 20) dX11_refuse_19 ia_101 (Nat.le_of_ble_eq_true rfl) rfl (Nat.le_of_ble_eq_true rfl : 4 < 7) rfl ?_
              refine tt_iconst (q := 21) dX11_refuse_20 ki_1 rfl ?_
              refine tt_iadd (q := 22) dX11_refuse_21 rfl ?_
              refine tt_iast (q := 23) dX11_refuse_22 ia_101 (Nat.le_of_ble_eq_true rfl) rfl (Nat.le_of_ble_eq_true rfl : 4 < 7) rfl ?_
              replace h := h _ rfl
              refine tt_iload_n (q := 24) dX11_refuse_23 rfl rfl ?_
              refine tt_iret dX11_refuse_24 ⟨rfl, _, rfl, ?_⟩
              exact tt_iret dX11_time_61 ⟨rfl, _, rfl, h⟩
          · replace h := h.2 c
            refine tt_iconst (q := 39) dX11_time_38 ki_1 rfl ?_
            refine tt_goto (t := 43) dX11_time_39 rfl ?_
            refine tt_bipush (q := 45) dX11_time_43 bi_99 rfl ?_
            refine callSi_3 (q := 48) dX11_time_45 (Or.inr (Or.inr (Or.inl ⟨rfl, rfl, ⟨rfl, Nat.le_of_ble_eq_true rfl, ?_⟩⟩))) (Nat.le_of_ble_eq_true rfl) rfl (fun t82 r81 ht82 => ht82)
            refine (show TT cX11_outside RX11 false CT0 CN0 _ _ _ none 0 [_, _, _] [] _ _ from ?_)
            refine tt_iload_n (q := 1) dX11_outside_0 rfl rfl ?_
            refine tt_iload_n (q := 2) dX11_outside_1 rfl rfl ?_
            refine tt_icmp_ge (q := 5) (t := 8) dX11_outside_2 rfl rfl (fun c => ?_) (fun c => ?_)
            · replace h := h.1 c
              refine tt_iload_n (q := 9) dX11_outside_8 rfl rfl ?_
              refine tt_iload_n (q := 10) dX11_outside_9 rfl rfl ?_
              refine tt_icmp_le (q := 13) (t := 18) dX11_outside_10 rfl rfl (fun c => ?_) (fun c => ?_)
              · replace h := h.1 c
                refine tt_iconst (q := 19) dX11_outside_18 ki_0 rfl ?_
                refine tt_iret dX11_outside_19 ⟨rfl, _, rfl, ?_⟩
                refine sti_4 (q := 50) dX11_time_48 rfl rfl ?_
                refine tt_iload (q := 52) dX11_time_50 rfl rfl ?_
                refine tt_if_eq (q := 55) (t := 62) dX11_time_52 rfl rfl (fun c => ?_) (fun c => absurd c (by decide))
                clear c
                refine tt_aload_n (q := 63) dX11_time_62 rfl rfl ?_
                refine tt_getR (q := 66) dX11_time_63 fl_X11_44 or_0_4 (Nat.le_of_ble_eq_true rfl) rfl rfl ?_
                refine tt_getR (q := 69) dX11_time_66 fl_X11_187 or_61_0 (Nat.le_of_ble_eq_true rfl) rfl rfl ?_
                refine tt_iload_n (q := 70) dX11_time_69 rfl rfl ?_
                obtain ⟨j86, e87, l85, h⟩ := h
                refine tt_aald (q := 71) dX11_time_70 ig_62 (Nat.le_of_ble_eq_true rfl) e87 l85 rfl ?_
                refine tt_iload_n (q := 72) dX11_time_71 rfl rfl ?_
                refine tt_iload_n (q := 73) dX11_time_72 rfl rfl ?_
                refine callSi_3 (q := 76) dX11_time_73 (Or.inr (Or.inr (Or.inr (⟨rfl, rfl, ⟨rfl, Nat.le_of_ble_eq_true rfl, ?_⟩⟩)))) (Nat.le_of_ble_eq_true rfl) rfl (fun t89 r88 ht89 => ht89)
                refine (show TT cX11_exchange RX11 false CT0 CN0 _ _ _ none 0 [_, _, _, dum] [] _ _ from ?_)
                refine tt_aload_n (q := 1) dX11_exchange_0 rfl rfl ?_
                refine tt_iload_n (q := 2) dX11_exchange_1 rfl rfl ?_
                obtain ⟨j91, e92, l90, h⟩ := h
                refine tt_iald (q := 3) dX11_exchange_2 (gi_62 _ l85) (gl_62 _ l85) e92 l90 rfl ?_
                refine sti_n_3 (q := 4) dX11_exchange_3 rfl rfl rfl ?_
                refine tt_aload_n (q := 5) dX11_exchange_4 rfl rfl ?_
                refine tt_iload_n (q := 6) dX11_exchange_5 rfl rfl ?_
                refine tt_iload_n (q := 7) dX11_exchange_6 rfl rfl ?_
                obtain ⟨j94, e95, l93, h⟩ := h
                refine tt_iast (q := 8) dX11_exchange_7 (gi_62 _ l85) (gl_62 _ l85) e95 l93 rfl ?_
                replace h := h _ rfl
                refine tt_iload_n (q := 9) dX11_exchange_8 rfl rfl ?_
                refine tt_iret dX11_exchange_9 ⟨rfl, _, rfl, ?_⟩
                exact tt_iret dX11_time_76 ⟨rfl, _, rfl, h⟩
              · replace h := h.2 c
                refine tt_bipush (q := 15) dX11_outside_13 bi_m6 rfl ?_
                refine tt_goto (t := 19) dX11_outside_15 rfl ?_
                refine tt_iret dX11_outside_19 ⟨rfl, _, rfl, ?_⟩
                refine sti_4 (q := 50) dX11_time_48 rfl rfl ?_
                refine tt_iload (q := 52) dX11_time_50 rfl rfl ?_
                refine tt_if_eq (q := 55) (t := 62) dX11_time_52 rfl rfl (fun c => absurd c (by decide)) (fun c => ?_)
                clear c
                refine tt_aload_n (q := 56) dX11_time_55 rfl rfl ?_
                refine tt_iload (q := 58) dX11_time_56 rfl rfl ?_
                refine callVi_1 (q := 61) dX11_time_58 (Or.inr (Or.inl ⟨rfl, rfl, ⟨⟨_, _, rfl, rfl, (Nat.le_of_ble_eq_true rfl), rc_0⟩, Nat.le_of_ble_eq_true rfl, ?_⟩⟩)) (Nat.le_of_ble_eq_true rfl) rfl (fun t98 r97 ht98 => ht98)
                refine (show TT cX11_refuse RX11 false CT0 CN0 _ _ _ none 0 [_, _, dum] [] _ _ from ?_)
                refine tt_iload_n (q := 1) dX11_refuse_0 rfl rfl ?_
                refine tt_inegE (v := nI 6) (q := 2) dX11_refuse_1 (by decide) rfl ?_
                refine sti_n_2 (q := 3) dX11_refuse_2 rfl rfl rfl ?_
                refine tt_iload_n (q := 4) dX11_refuse_3 rfl rfl ?_
                refine tt_if_le (q := 7) (t := 23) dX11_refuse_4 rfl rfl (fun c => absurd c (by decide)) (fun c => ?_)
                clear c
                refine tt_iload_n (q := 8) dX11_refuse_7 rfl rfl ?_
                refine tt_bipush (q := 10) dX11_refuse_8 bi_6 rfl ?_
                refine tt_icmp_gt (q := 13) (t := 23) dX11_refuse_10 rfl rfl (fun c => absurd c (by decide)) (fun c => ?_)
                clear c
                refine tt_aload_n (q := 14) dX11_refuse_13 rfl rfl ?_
                refine tt_getR (q := 17) dX11_refuse_14 fl_X11_96 or_0_11 (Nat.le_of_ble_eq_true rfl) rfl rfl ?_
                refine tt_iload_n (q := 18) dX11_refuse_17 rfl rfl ?_
                refine tt_dup2 (q := 19) dX11_refuse_18 rfl rfl rfl ?_
                refine tt_iald (q := 20) dX11_refuse_19 ia_101 (Nat.le_of_ble_eq_true rfl) rfl (Nat.le_of_ble_eq_true rfl : 6 < 7) rfl ?_
                refine tt_iconst (q := 21) dX11_refuse_20 ki_1 rfl ?_
                refine tt_iadd (q := 22) dX11_refuse_21 rfl ?_
                refine tt_iast (q := 23) dX11_refuse_22 ia_101 (Nat.le_of_ble_eq_true rfl) rfl (Nat.le_of_ble_eq_true rfl : 6 < 7) rfl ?_
                replace h := h _ rfl
                refine tt_iload_n (q := 24) dX11_refuse_23 rfl rfl ?_
                refine tt_iret dX11_refuse_24 ⟨rfl, _, rfl, ?_⟩
                exact tt_iret dX11_time_61 ⟨rfl, _, rfl, h⟩
            · replace h := h.2 c
              refine tt_bipush (q := 7) dX11_outside_5 bi_m4 rfl ?_
              refine tt_iret dX11_outside_7 ⟨rfl, _, rfl, ?_⟩
              refine sti_4 (q := 50) dX11_time_48 rfl rfl ?_
              refine tt_iload (q := 52) dX11_time_50 rfl rfl ?_
              refine tt_if_eq (q := 55) (t := 62) dX11_time_52 rfl rfl (fun c => absurd c (by decide)) (fun c => ?_)
              clear c
              refine tt_aload_n (q := 56) dX11_time_55 rfl rfl ?_
              refine tt_iload (q := 58) dX11_time_56 rfl rfl ?_
              refine callVi_1 (q := 61) dX11_time_58 (Or.inr (Or.inl ⟨rfl, rfl, ⟨⟨_, _, rfl, rfl, (Nat.le_of_ble_eq_true rfl), rc_0⟩, Nat.le_of_ble_eq_true rfl, ?_⟩⟩)) (Nat.le_of_ble_eq_true rfl) rfl (fun t101 r100 ht101 => ht101)
              refine (show TT cX11_refuse RX11 false CT0 CN0 _ _ _ none 0 [_, _, dum] [] _ _ from ?_)
              refine tt_iload_n (q := 1) dX11_refuse_0 rfl rfl ?_
              refine tt_inegE (v := nI 4) (q := 2) dX11_refuse_1 (by decide) rfl ?_
              refine sti_n_2 (q := 3) dX11_refuse_2 rfl rfl rfl ?_
              refine tt_iload_n (q := 4) dX11_refuse_3 rfl rfl ?_
              refine tt_if_le (q := 7) (t := 23) dX11_refuse_4 rfl rfl (fun c => absurd c (by decide)) (fun c => ?_)
              clear c
              refine tt_iload_n (q := 8) dX11_refuse_7 rfl rfl ?_
              refine tt_bipush (q := 10) dX11_refuse_8 bi_6 rfl ?_
              refine tt_icmp_gt (q := 13) (t := 23) dX11_refuse_10 rfl rfl (fun c => absurd c (by decide)) (fun c => ?_)
              clear c
              refine tt_aload_n (q := 14) dX11_refuse_13 rfl rfl ?_
              refine tt_getR (q := 17) dX11_refuse_14 fl_X11_96 or_0_11 (Nat.le_of_ble_eq_true rfl) rfl rfl ?_
              refine tt_iload_n (q := 18) dX11_refuse_17 rfl rfl ?_
              refine tt_dup2 (q := 19) dX11_refuse_18 rfl rfl rfl ?_
              refine tt_iald (q := 20) dX11_refuse_19 ia_101 (Nat.le_of_ble_eq_true rfl) rfl (Nat.le_of_ble_eq_true rfl : 4 < 7) rfl ?_
              refine tt_iconst (q := 21) dX11_refuse_20 ki_1 rfl ?_
              refine tt_iadd (q := 22) dX11_refuse_21 rfl ?_
              refine tt_iast (q := 23) dX11_refuse_22 ia_101 (Nat.le_of_ble_eq_true rfl) rfl (Nat.le_of_ble_eq_true rfl : 4 < 7) rfl ?_
              replace h := h _ rfl
              refine tt_iload_n (q := 24) dX11_refuse_23 rfl rfl ?_
              refine tt_iret dX11_refuse_24 ⟨rfl, _, rfl, ?_⟩
              exact tt_iret dX11_time_61 ⟨rfl, _, rfl, h⟩
        · replace h := h.2 c
          refine tt_aload_n (q := 27) dX11_time_26 rfl rfl ?_
          refine tt_bipush (q := 29) dX11_time_27 bi_m2 rfl ?_
          refine callVi_1 (q := 32) dX11_time_29 (Or.inr (Or.inl ⟨rfl, rfl, ⟨⟨_, _, rfl, rfl, (Nat.le_of_ble_eq_true rfl), rc_0⟩, Nat.le_of_ble_eq_true rfl, ?_⟩⟩)) (Nat.le_of_ble_eq_true rfl) rfl (fun t104 r103 ht104 => ht104)
          refine (show TT cX11_refuse RX11 false CT0 CN0 _ _ _ none 0 [_, _, dum] [] _ _ from ?_)
          refine tt_iload_n (q := 1) dX11_refuse_0 rfl rfl ?_
          refine tt_inegE (v := nI 2) (q := 2) dX11_refuse_1 (by decide) rfl ?_
          refine sti_n_2 (q := 3) dX11_refuse_2 rfl rfl rfl ?_
          refine tt_iload_n (q := 4) dX11_refuse_3 rfl rfl ?_
          refine tt_if_le (q := 7) (t := 23) dX11_refuse_4 rfl rfl (fun c => absurd c (by decide)) (fun c => ?_)
          clear c
          refine tt_iload_n (q := 8) dX11_refuse_7 rfl rfl ?_
          refine tt_bipush (q := 10) dX11_refuse_8 bi_6 rfl ?_
          refine tt_icmp_gt (q := 13) (t := 23) dX11_refuse_10 rfl rfl (fun c => absurd c (by decide)) (fun c => ?_)
          clear c
          refine tt_aload_n (q := 14) dX11_refuse_13 rfl rfl ?_
          refine tt_getR (q := 17) dX11_refuse_14 fl_X11_96 or_0_11 (Nat.le_of_ble_eq_true rfl) rfl rfl ?_
          refine tt_iload_n (q := 18) dX11_refuse_17 rfl rfl ?_
          refine tt_dup2 (q := 19) dX11_refuse_18 rfl rfl rfl ?_
          refine tt_iald (q := 20) dX11_refuse_19 ia_101 (Nat.le_of_ble_eq_true rfl) rfl (Nat.le_of_ble_eq_true rfl : 2 < 7) rfl ?_
          refine tt_iconst (q := 21) dX11_refuse_20 ki_1 rfl ?_
          refine tt_iadd (q := 22) dX11_refuse_21 rfl ?_
          refine tt_iast (q := 23) dX11_refuse_22 ia_101 (Nat.le_of_ble_eq_true rfl) rfl (Nat.le_of_ble_eq_true rfl : 2 < 7) rfl ?_
          replace h := h _ rfl
          refine tt_iload_n (q := 24) dX11_refuse_23 rfl rfl ?_
          refine tt_iret dX11_refuse_24 ⟨rfl, _, rfl, ?_⟩
          exact tt_iret dX11_time_32 ⟨rfl, _, rfl, h⟩

theorem g_X11_after_0 {post : SG → Int32 → Prop} {σ : SG} {a : Int32} {b : Int32} {c : Int32} (h : ((a < 0 → (∀ s6 : SG, s6 = up σ 101 1 ((σ 101 1) + (nI 1)) → post s6 (nI 1000000001))) ∧ (¬ a < 0 → (((σ 7 0) ≤ a → (∀ s10 : SG, s10 = up σ 101 1 ((σ 101 1) + (nI 1)) → post s10 (nI 1000000001))) ∧ (¬ (σ 7 0) ≤ a → ((b < 0 → (∀ s16 : SG, s16 = up σ 101 1 ((σ 101 1) + (nI 1)) → post s16 (nI 1000000001))) ∧ (¬ b < 0 → (((σ 7 0) ≤ b → (∀ s20 : SG, s20 = up σ 101 1 ((σ 101 1) + (nI 1)) → post s20 (nI 1000000001))) ∧ (¬ (σ 7 0) ≤ b → (((-9 : Int32) ≤ c → ((c ≤ (nI 99) → (∃ j26 : Nat, a = nI j26 ∧ j26 < 6 ∧ (∃ j31 : Nat, b = nI j31 ∧ j31 < 6 ∧ (∃ j34 : Nat, b = nI j34 ∧ j34 < 6 ∧ (∀ s36 : SG, s36 = up σ (65 + 1 + j26) j34 c → post s36 (σ (65 + 1 + j26) j31)))))) ∧ (¬ c ≤ (nI 99) → (∀ s39 : SG, s39 = up σ 101 6 ((σ 101 6) + (nI 1)) → post s39 (nI 1000000006))))) ∧ (¬ (-9 : Int32) ≤ c → (∀ s42 : SG, s42 = up σ 101 4 ((σ 101 4) + (nI 1)) → post s42 (nI 1000000004))))))))))))) : T_X11_after AF post 0 [.ref 0, .int a, .int b, .int c, dum] [] σ := by
  refine tt_aload_n (q := 1) dX11_after_0 rfl rfl ?_
  refine tt_getR (q := 4) dX11_after_1 fl_X11_28 or_0_2 (Nat.le_of_ble_eq_true rfl) rfl rfl ?_
  refine tt_iload_n (q := 5) dX11_after_4 rfl rfl ?_
  refine callVi_1 (q := 8) dX11_after_5 (Or.inl ⟨rfl, rfl, ⟨⟨_, _, rfl, rfl, (Nat.le_of_ble_eq_true rfl), rc_7⟩, Nat.le_of_ble_eq_true rfl, ?_⟩⟩) (Nat.le_of_ble_eq_true rfl) rfl (fun t2 r1 ht2 => ht2)
  refine (show TT cX9_has RX9 false CT0 CN0 _ _ _ none 0 [_, _] [] _ _ from ?_)
  refine tt_iload_n (q := 1) dX9_has_0 rfl rfl ?_
  refine tt_if_lt (q := 4) (t := 16) dX9_has_1 rfl rfl (fun c => ?_) (fun c => ?_)
  · replace h := h.1 c
    refine tt_iconst (q := 17) dX9_has_16 ki_0 rfl ?_
    refine tt_iret dX9_has_17 ⟨rfl, _, rfl, Or.inl nI_0, ?_⟩
    refine tt_if_eq (q := 11) (t := 22) dX11_after_8 rfl rfl (fun c => ?_) (fun c => absurd c (by decide))
    clear c
    refine tt_ldc (q := 24) dX11_after_22 lct_X11_194 rfl ?_
    refine tt_aload_n (q := 25) dX11_after_24 rfl rfl ?_
    refine tt_iconst (q := 26) dX11_after_25 ki_m1 rfl ?_
    refine callVi_1 (q := 29) dX11_after_26 (Or.inr (Or.inl ⟨rfl, rfl, ⟨⟨_, _, rfl, rfl, (Nat.le_of_ble_eq_true rfl), rc_0⟩, Nat.le_of_ble_eq_true rfl, ?_⟩⟩)) (Nat.le_of_ble_eq_true rfl) rfl (fun t5 r4 ht5 => ht5)
    refine (show TT cX11_refuse RX11 false CT0 CN0 _ _ _ none 0 [_, _, dum] [] _ _ from ?_)
    refine tt_iload_n (q := 1) dX11_refuse_0 rfl rfl ?_
    refine tt_inegE (v := nI 1) (q := 2) dX11_refuse_1 (by decide) rfl ?_
    refine sti_n_2 (q := 3) dX11_refuse_2 rfl rfl rfl ?_
    refine tt_iload_n (q := 4) dX11_refuse_3 rfl rfl ?_
    refine tt_if_le (q := 7) (t := 23) dX11_refuse_4 rfl rfl (fun c => absurd c (by decide)) (fun c => ?_)
    clear c
    refine tt_iload_n (q := 8) dX11_refuse_7 rfl rfl ?_
    refine tt_bipush (q := 10) dX11_refuse_8 bi_6 rfl ?_
    refine tt_icmp_gt (q := 13) (t := 23) dX11_refuse_10 rfl rfl (fun c => absurd c (by decide)) (fun c => ?_)
    clear c
    refine tt_aload_n (q := 14) dX11_refuse_13 rfl rfl ?_
    refine tt_getR (q := 17) dX11_refuse_14 fl_X11_96 or_0_11 (Nat.le_of_ble_eq_true rfl) rfl rfl ?_
    refine tt_iload_n (q := 18) dX11_refuse_17 rfl rfl ?_
    refine tt_dup2 (q := 19) dX11_refuse_18 rfl rfl rfl ?_
    refine tt_iald (q := 20) dX11_refuse_19 ia_101 (Nat.le_of_ble_eq_true rfl) rfl (Nat.le_of_ble_eq_true rfl : 1 < 7) rfl ?_
    refine tt_iconst (q := 21) dX11_refuse_20 ki_1 rfl ?_
    refine tt_iadd (q := 22) dX11_refuse_21 rfl ?_
    refine tt_iast (q := 23) dX11_refuse_22 ia_101 (Nat.le_of_ble_eq_true rfl) rfl (Nat.le_of_ble_eq_true rfl : 1 < 7) rfl ?_
    replace h := h _ rfl
    refine tt_iload_n (q := 24) dX11_refuse_23 rfl rfl ?_
    refine tt_iret dX11_refuse_24 ⟨rfl, _, rfl, ?_⟩
    refine tt_isubE (v := nI 1000000001) (q := 30) dX11_after_29 (by decide) rfl ?_
    exact tt_iret dX11_after_30 ⟨rfl, _, rfl, h⟩
  · replace h := h.2 c
    refine tt_iload_n (q := 5) dX9_has_4 rfl rfl ?_
    refine tt_aload_n (q := 6) dX9_has_5 rfl rfl ?_
    refine tt_getI (q := 9) dX9_has_6 fl_X9_33 oi_7_0 (Nat.le_of_ble_eq_true rfl) rfl ?_
    refine tt_icmp_ge (q := 12) (t := 16) dX9_has_9 rfl rfl (fun c => ?_) (fun c => ?_)
    · replace h := h.1 c
      refine tt_iconst (q := 17) dX9_has_16 ki_0 rfl ?_
      refine tt_iret dX9_has_17 ⟨rfl, _, rfl, Or.inl nI_0, ?_⟩
      refine tt_if_eq (q := 11) (t := 22) dX11_after_8 rfl rfl (fun c => ?_) (fun c => absurd c (by decide))
      clear c
      refine tt_ldc (q := 24) dX11_after_22 lct_X11_194 rfl ?_
      refine tt_aload_n (q := 25) dX11_after_24 rfl rfl ?_
      refine tt_iconst (q := 26) dX11_after_25 ki_m1 rfl ?_
      refine callVi_1 (q := 29) dX11_after_26 (Or.inr (Or.inl ⟨rfl, rfl, ⟨⟨_, _, rfl, rfl, (Nat.le_of_ble_eq_true rfl), rc_0⟩, Nat.le_of_ble_eq_true rfl, ?_⟩⟩)) (Nat.le_of_ble_eq_true rfl) rfl (fun t9 r8 ht9 => ht9)
      refine (show TT cX11_refuse RX11 false CT0 CN0 _ _ _ none 0 [_, _, dum] [] _ _ from ?_)
      refine tt_iload_n (q := 1) dX11_refuse_0 rfl rfl ?_
      refine tt_inegE (v := nI 1) (q := 2) dX11_refuse_1 (by decide) rfl ?_
      refine sti_n_2 (q := 3) dX11_refuse_2 rfl rfl rfl ?_
      refine tt_iload_n (q := 4) dX11_refuse_3 rfl rfl ?_
      refine tt_if_le (q := 7) (t := 23) dX11_refuse_4 rfl rfl (fun c => absurd c (by decide)) (fun c => ?_)
      clear c
      refine tt_iload_n (q := 8) dX11_refuse_7 rfl rfl ?_
      refine tt_bipush (q := 10) dX11_refuse_8 bi_6 rfl ?_
      refine tt_icmp_gt (q := 13) (t := 23) dX11_refuse_10 rfl rfl (fun c => absurd c (by decide)) (fun c => ?_)
      clear c
      refine tt_aload_n (q := 14) dX11_refuse_13 rfl rfl ?_
      refine tt_getR (q := 17) dX11_refuse_14 fl_X11_96 or_0_11 (Nat.le_of_ble_eq_true rfl) rfl rfl ?_
      refine tt_iload_n (q := 18) dX11_refuse_17 rfl rfl ?_
      refine tt_dup2 (q := 19) dX11_refuse_18 rfl rfl rfl ?_
      refine tt_iald (q := 20) dX11_refuse_19 ia_101 (Nat.le_of_ble_eq_true rfl) rfl (Nat.le_of_ble_eq_true rfl : 1 < 7) rfl ?_
      refine tt_iconst (q := 21) dX11_refuse_20 ki_1 rfl ?_
      refine tt_iadd (q := 22) dX11_refuse_21 rfl ?_
      refine tt_iast (q := 23) dX11_refuse_22 ia_101 (Nat.le_of_ble_eq_true rfl) rfl (Nat.le_of_ble_eq_true rfl : 1 < 7) rfl ?_
      replace h := h _ rfl
      refine tt_iload_n (q := 24) dX11_refuse_23 rfl rfl ?_
      refine tt_iret dX11_refuse_24 ⟨rfl, _, rfl, ?_⟩
      refine tt_isubE (v := nI 1000000001) (q := 30) dX11_after_29 (by decide) rfl ?_
      exact tt_iret dX11_after_30 ⟨rfl, _, rfl, h⟩
    · replace h := h.2 c
      refine tt_iconst (q := 13) dX9_has_12 ki_1 rfl ?_
      refine tt_goto (t := 17) dX9_has_13 rfl ?_
      refine tt_iret dX9_has_17 ⟨rfl, _, rfl, Or.inr rfl, ?_⟩
      refine tt_if_eq (q := 11) (t := 22) dX11_after_8 rfl rfl (fun c => absurd c (by decide)) (fun c => ?_)
      clear c
      refine tt_aload_n (q := 12) dX11_after_11 rfl rfl ?_
      refine tt_getR (q := 15) dX11_after_12 fl_X11_28 or_0_2 (Nat.le_of_ble_eq_true rfl) rfl rfl ?_
      refine tt_iload_n (q := 16) dX11_after_15 rfl rfl ?_
      refine callVi_1 (q := 19) dX11_after_16 (Or.inl ⟨rfl, rfl, ⟨⟨_, _, rfl, rfl, (Nat.le_of_ble_eq_true rfl), rc_7⟩, Nat.le_of_ble_eq_true rfl, ?_⟩⟩) (Nat.le_of_ble_eq_true rfl) rfl (fun t12 r11 ht12 => ht12)
      refine (show TT cX9_has RX9 false CT0 CN0 _ _ _ none 0 [_, _] [] _ _ from ?_)
      refine tt_iload_n (q := 1) dX9_has_0 rfl rfl ?_
      refine tt_if_lt (q := 4) (t := 16) dX9_has_1 rfl rfl (fun c => ?_) (fun c => ?_)
      · replace h := h.1 c
        refine tt_iconst (q := 17) dX9_has_16 ki_0 rfl ?_
        refine tt_iret dX9_has_17 ⟨rfl, _, rfl, Or.inl nI_0, ?_⟩
        refine tt_if_ne (q := 22) (t := 31) dX11_after_19 rfl rfl (fun c => absurd c (by decide)) (fun c => ?_)
        clear c
        refine tt_ldc (q := 24) dX11_after_22 lct_X11_194 rfl ?_
        refine tt_aload_n (q := 25) dX11_after_24 rfl rfl ?_
        refine tt_iconst (q := 26) dX11_after_25 ki_m1 rfl ?_
        refine callVi_1 (q := 29) dX11_after_26 (Or.inr (Or.inl ⟨rfl, rfl, ⟨⟨_, _, rfl, rfl, (Nat.le_of_ble_eq_true rfl), rc_0⟩, Nat.le_of_ble_eq_true rfl, ?_⟩⟩)) (Nat.le_of_ble_eq_true rfl) rfl (fun t15 r14 ht15 => ht15)
        refine (show TT cX11_refuse RX11 false CT0 CN0 _ _ _ none 0 [_, _, dum] [] _ _ from ?_)
        refine tt_iload_n (q := 1) dX11_refuse_0 rfl rfl ?_
        refine tt_inegE (v := nI 1) (q := 2) dX11_refuse_1 (by decide) rfl ?_
        refine sti_n_2 (q := 3) dX11_refuse_2 rfl rfl rfl ?_
        refine tt_iload_n (q := 4) dX11_refuse_3 rfl rfl ?_
        refine tt_if_le (q := 7) (t := 23) dX11_refuse_4 rfl rfl (fun c => absurd c (by decide)) (fun c => ?_)
        clear c
        refine tt_iload_n (q := 8) dX11_refuse_7 rfl rfl ?_
        refine tt_bipush (q := 10) dX11_refuse_8 bi_6 rfl ?_
        refine tt_icmp_gt (q := 13) (t := 23) dX11_refuse_10 rfl rfl (fun c => absurd c (by decide)) (fun c => ?_)
        clear c
        refine tt_aload_n (q := 14) dX11_refuse_13 rfl rfl ?_
        refine tt_getR (q := 17) dX11_refuse_14 fl_X11_96 or_0_11 (Nat.le_of_ble_eq_true rfl) rfl rfl ?_
        refine tt_iload_n (q := 18) dX11_refuse_17 rfl rfl ?_
        refine tt_dup2 (q := 19) dX11_refuse_18 rfl rfl rfl ?_
        refine tt_iald (q := 20) dX11_refuse_19 ia_101 (Nat.le_of_ble_eq_true rfl) rfl (Nat.le_of_ble_eq_true rfl : 1 < 7) rfl ?_
        refine tt_iconst (q := 21) dX11_refuse_20 ki_1 rfl ?_
        refine tt_iadd (q := 22) dX11_refuse_21 rfl ?_
        refine tt_iast (q := 23) dX11_refuse_22 ia_101 (Nat.le_of_ble_eq_true rfl) rfl (Nat.le_of_ble_eq_true rfl : 1 < 7) rfl ?_
        replace h := h _ rfl
        refine tt_iload_n (q := 24) dX11_refuse_23 rfl rfl ?_
        refine tt_iret dX11_refuse_24 ⟨rfl, _, rfl, ?_⟩
        refine tt_isubE (v := nI 1000000001) (q := 30) dX11_after_29 (by decide) rfl ?_
        exact tt_iret dX11_after_30 ⟨rfl, _, rfl, h⟩
      · replace h := h.2 c
        refine tt_iload_n (q := 5) dX9_has_4 rfl rfl ?_
        refine tt_aload_n (q := 6) dX9_has_5 rfl rfl ?_
        refine tt_getI (q := 9) dX9_has_6 fl_X9_33 oi_7_0 (Nat.le_of_ble_eq_true rfl) rfl ?_
        refine tt_icmp_ge (q := 12) (t := 16) dX9_has_9 rfl rfl (fun c => ?_) (fun c => ?_)
        · replace h := h.1 c
          refine tt_iconst (q := 17) dX9_has_16 ki_0 rfl ?_
          refine tt_iret dX9_has_17 ⟨rfl, _, rfl, Or.inl nI_0, ?_⟩
          refine tt_if_ne (q := 22) (t := 31) dX11_after_19 rfl rfl (fun c => absurd c (by decide)) (fun c => ?_)
          clear c
          refine tt_ldc (q := 24) dX11_after_22 lct_X11_194 rfl ?_
          refine tt_aload_n (q := 25) dX11_after_24 rfl rfl ?_
          refine tt_iconst (q := 26) dX11_after_25 ki_m1 rfl ?_
          refine callVi_1 (q := 29) dX11_after_26 (Or.inr (Or.inl ⟨rfl, rfl, ⟨⟨_, _, rfl, rfl, (Nat.le_of_ble_eq_true rfl), rc_0⟩, Nat.le_of_ble_eq_true rfl, ?_⟩⟩)) (Nat.le_of_ble_eq_true rfl) rfl (fun t19 r18 ht19 => ht19)
          refine (show TT cX11_refuse RX11 false CT0 CN0 _ _ _ none 0 [_, _, dum] [] _ _ from ?_)
          refine tt_iload_n (q := 1) dX11_refuse_0 rfl rfl ?_
          refine tt_inegE (v := nI 1) (q := 2) dX11_refuse_1 (by decide) rfl ?_
          refine sti_n_2 (q := 3) dX11_refuse_2 rfl rfl rfl ?_
          refine tt_iload_n (q := 4) dX11_refuse_3 rfl rfl ?_
          refine tt_if_le (q := 7) (t := 23) dX11_refuse_4 rfl rfl (fun c => absurd c (by decide)) (fun c => ?_)
          clear c
          refine tt_iload_n (q := 8) dX11_refuse_7 rfl rfl ?_
          refine tt_bipush (q := 10) dX11_refuse_8 bi_6 rfl ?_
          refine tt_icmp_gt (q := 13) (t := 23) dX11_refuse_10 rfl rfl (fun c => absurd c (by decide)) (fun c => ?_)
          clear c
          refine tt_aload_n (q := 14) dX11_refuse_13 rfl rfl ?_
          refine tt_getR (q := 17) dX11_refuse_14 fl_X11_96 or_0_11 (Nat.le_of_ble_eq_true rfl) rfl rfl ?_
          refine tt_iload_n (q := 18) dX11_refuse_17 rfl rfl ?_
          refine tt_dup2 (q := 19) dX11_refuse_18 rfl rfl rfl ?_
          refine tt_iald (q := 20) dX11_refuse_19 ia_101 (Nat.le_of_ble_eq_true rfl) rfl (Nat.le_of_ble_eq_true rfl : 1 < 7) rfl ?_
          refine tt_iconst (q := 21) dX11_refuse_20 ki_1 rfl ?_
          refine tt_iadd (q := 22) dX11_refuse_21 rfl ?_
          refine tt_iast (q := 23) dX11_refuse_22 ia_101 (Nat.le_of_ble_eq_true rfl) rfl (Nat.le_of_ble_eq_true rfl : 1 < 7) rfl ?_
          replace h := h _ rfl
          refine tt_iload_n (q := 24) dX11_refuse_23 rfl rfl ?_
          refine tt_iret dX11_refuse_24 ⟨rfl, _, rfl, ?_⟩
          refine tt_isubE (v := nI 1000000001) (q := 30) dX11_after_29 (by decide) rfl ?_
          exact tt_iret dX11_after_30 ⟨rfl, _, rfl, h⟩
        · replace h := h.2 c
          refine tt_iconst (q := 13) dX9_has_12 ki_1 rfl ?_
          refine tt_goto (t := 17) dX9_has_13 rfl ?_
          refine tt_iret dX9_has_17 ⟨rfl, _, rfl, Or.inr rfl, ?_⟩
          refine tt_if_ne (q := 22) (t := 31) dX11_after_19 rfl rfl (fun c => ?_) (fun c => absurd c (by decide))
          clear c
          refine tt_iload_n (q := 32) dX11_after_31 rfl rfl ?_
          refine tt_bipush (q := 34) dX11_after_32 bi_m9 rfl ?_
          refine tt_bipush (q := 36) dX11_after_34 bi_99 rfl ?_
          refine callSi_3 (q := 39) dX11_after_36 (Or.inr (Or.inr (Or.inl ⟨rfl, rfl, ⟨rfl, Nat.le_of_ble_eq_true rfl, ?_⟩⟩))) (Nat.le_of_ble_eq_true rfl) rfl (fun t22 r21 ht22 => ht22)
          refine (show TT cX11_outside RX11 false CT0 CN0 _ _ _ none 0 [_, _, _] [] _ _ from ?_)
          refine tt_iload_n (q := 1) dX11_outside_0 rfl rfl ?_
          refine tt_iload_n (q := 2) dX11_outside_1 rfl rfl ?_
          refine tt_icmp_ge (q := 5) (t := 8) dX11_outside_2 rfl rfl (fun c => ?_) (fun c => ?_)
          · replace h := h.1 c
            refine tt_iload_n (q := 9) dX11_outside_8 rfl rfl ?_
            refine tt_iload_n (q := 10) dX11_outside_9 rfl rfl ?_
            refine tt_icmp_le (q := 13) (t := 18) dX11_outside_10 rfl rfl (fun c => ?_) (fun c => ?_)
            · replace h := h.1 c
              refine tt_iconst (q := 19) dX11_outside_18 ki_0 rfl ?_
              refine tt_iret dX11_outside_19 ⟨rfl, _, rfl, ?_⟩
              refine sti_4 (q := 41) dX11_after_39 rfl rfl ?_
              refine tt_iload (q := 43) dX11_after_41 rfl rfl ?_
              refine tt_if_eq (q := 46) (t := 56) dX11_after_43 rfl rfl (fun c => ?_) (fun c => absurd c (by decide))
              clear c
              refine tt_aload_n (q := 57) dX11_after_56 rfl rfl ?_
              refine tt_getR (q := 60) dX11_after_57 fl_X11_44 or_0_4 (Nat.le_of_ble_eq_true rfl) rfl rfl ?_
              refine tt_getR (q := 63) dX11_after_60 fl_X11_195 or_61_1 (Nat.le_of_ble_eq_true rfl) rfl rfl ?_
              refine tt_iload_n (q := 64) dX11_after_63 rfl rfl ?_
              obtain ⟨j26, e27, l25, h⟩ := h
              refine tt_aald (q := 65) dX11_after_64 ig_65 (Nat.le_of_ble_eq_true rfl) e27 l25 rfl ?_
              refine tt_iload_n (q := 66) dX11_after_65 rfl rfl ?_
              refine tt_iload_n (q := 67) dX11_after_66 rfl rfl ?_
              refine callSi_3 (q := 70) dX11_after_67 (Or.inr (Or.inr (Or.inr (⟨rfl, rfl, ⟨rfl, Nat.le_of_ble_eq_true rfl, ?_⟩⟩)))) (Nat.le_of_ble_eq_true rfl) rfl (fun t29 r28 ht29 => ht29)
              refine (show TT cX11_exchange RX11 false CT0 CN0 _ _ _ none 0 [_, _, _, dum] [] _ _ from ?_)
              refine tt_aload_n (q := 1) dX11_exchange_0 rfl rfl ?_
              refine tt_iload_n (q := 2) dX11_exchange_1 rfl rfl ?_
              obtain ⟨j31, e32, l30, h⟩ := h
              refine tt_iald (q := 3) dX11_exchange_2 (gi_65 _ l25) (gl_65 _ l25) e32 l30 rfl ?_
              refine sti_n_3 (q := 4) dX11_exchange_3 rfl rfl rfl ?_
              refine tt_aload_n (q := 5) dX11_exchange_4 rfl rfl ?_
              refine tt_iload_n (q := 6) dX11_exchange_5 rfl rfl ?_
              refine tt_iload_n (q := 7) dX11_exchange_6 rfl rfl ?_
              obtain ⟨j34, e35, l33, h⟩ := h
              refine tt_iast (q := 8) dX11_exchange_7 (gi_65 _ l25) (gl_65 _ l25) e35 l33 rfl ?_
              replace h := h _ rfl
              refine tt_iload_n (q := 9) dX11_exchange_8 rfl rfl ?_
              refine tt_iret dX11_exchange_9 ⟨rfl, _, rfl, ?_⟩
              exact tt_iret dX11_after_70 ⟨rfl, _, rfl, h⟩
            · replace h := h.2 c
              refine tt_bipush (q := 15) dX11_outside_13 bi_m6 rfl ?_
              refine tt_goto (t := 19) dX11_outside_15 rfl ?_
              refine tt_iret dX11_outside_19 ⟨rfl, _, rfl, ?_⟩
              refine sti_4 (q := 41) dX11_after_39 rfl rfl ?_
              refine tt_iload (q := 43) dX11_after_41 rfl rfl ?_
              refine tt_if_eq (q := 46) (t := 56) dX11_after_43 rfl rfl (fun c => absurd c (by decide)) (fun c => ?_)
              clear c
              refine tt_ldc (q := 48) dX11_after_46 lct_X11_194 rfl ?_
              refine tt_aload_n (q := 49) dX11_after_48 rfl rfl ?_
              refine tt_iload (q := 51) dX11_after_49 rfl rfl ?_
              refine callVi_1 (q := 54) dX11_after_51 (Or.inr (Or.inl ⟨rfl, rfl, ⟨⟨_, _, rfl, rfl, (Nat.le_of_ble_eq_true rfl), rc_0⟩, Nat.le_of_ble_eq_true rfl, ?_⟩⟩)) (Nat.le_of_ble_eq_true rfl) rfl (fun t38 r37 ht38 => ht38)
              refine (show TT cX11_refuse RX11 false CT0 CN0 _ _ _ none 0 [_, _, dum] [] _ _ from ?_)
              refine tt_iload_n (q := 1) dX11_refuse_0 rfl rfl ?_
              refine tt_inegE (v := nI 6) (q := 2) dX11_refuse_1 (by decide) rfl ?_
              refine sti_n_2 (q := 3) dX11_refuse_2 rfl rfl rfl ?_
              refine tt_iload_n (q := 4) dX11_refuse_3 rfl rfl ?_
              refine tt_if_le (q := 7) (t := 23) dX11_refuse_4 rfl rfl (fun c => absurd c (by decide)) (fun c => ?_)
              clear c
              refine tt_iload_n (q := 8) dX11_refuse_7 rfl rfl ?_
              refine tt_bipush (q := 10) dX11_refuse_8 bi_6 rfl ?_
              refine tt_icmp_gt (q := 13) (t := 23) dX11_refuse_10 rfl rfl (fun c => absurd c (by decide)) (fun c => ?_)
              clear c
              refine tt_aload_n (q := 14) dX11_refuse_13 rfl rfl ?_
              refine tt_getR (q := 17) dX11_refuse_14 fl_X11_96 or_0_11 (Nat.le_of_ble_eq_true rfl) rfl rfl ?_
              refine tt_iload_n (q := 18) dX11_refuse_17 rfl rfl ?_
              refine tt_dup2 (q := 19) dX11_refuse_18 rfl rfl rfl ?_
              refine tt_iald (q := 20) dX11_refuse_19 ia_101 (Nat.le_of_ble_eq_true rfl) rfl (Nat.le_of_ble_eq_true rfl : 6 < 7) rfl ?_
              refine tt_iconst (q := 21) dX11_refuse_20 ki_1 rfl ?_
              refine tt_iadd (q := 22) dX11_refuse_21 rfl ?_
              refine tt_iast (q := 23) dX11_refuse_22 ia_101 (Nat.le_of_ble_eq_true rfl) rfl (Nat.le_of_ble_eq_true rfl : 6 < 7) rfl ?_
              replace h := h _ rfl
              refine tt_iload_n (q := 24) dX11_refuse_23 rfl rfl ?_
              refine tt_iret dX11_refuse_24 ⟨rfl, _, rfl, ?_⟩
              refine tt_isubE (v := nI 1000000006) (q := 55) dX11_after_54 (by decide) rfl ?_
              exact tt_iret dX11_after_55 ⟨rfl, _, rfl, h⟩
          · replace h := h.2 c
            refine tt_bipush (q := 7) dX11_outside_5 bi_m4 rfl ?_
            refine tt_iret dX11_outside_7 ⟨rfl, _, rfl, ?_⟩
            refine sti_4 (q := 41) dX11_after_39 rfl rfl ?_
            refine tt_iload (q := 43) dX11_after_41 rfl rfl ?_
            refine tt_if_eq (q := 46) (t := 56) dX11_after_43 rfl rfl (fun c => absurd c (by decide)) (fun c => ?_)
            clear c
            refine tt_ldc (q := 48) dX11_after_46 lct_X11_194 rfl ?_
            refine tt_aload_n (q := 49) dX11_after_48 rfl rfl ?_
            refine tt_iload (q := 51) dX11_after_49 rfl rfl ?_
            refine callVi_1 (q := 54) dX11_after_51 (Or.inr (Or.inl ⟨rfl, rfl, ⟨⟨_, _, rfl, rfl, (Nat.le_of_ble_eq_true rfl), rc_0⟩, Nat.le_of_ble_eq_true rfl, ?_⟩⟩)) (Nat.le_of_ble_eq_true rfl) rfl (fun t41 r40 ht41 => ht41)
            refine (show TT cX11_refuse RX11 false CT0 CN0 _ _ _ none 0 [_, _, dum] [] _ _ from ?_)
            refine tt_iload_n (q := 1) dX11_refuse_0 rfl rfl ?_
            refine tt_inegE (v := nI 4) (q := 2) dX11_refuse_1 (by decide) rfl ?_
            refine sti_n_2 (q := 3) dX11_refuse_2 rfl rfl rfl ?_
            refine tt_iload_n (q := 4) dX11_refuse_3 rfl rfl ?_
            refine tt_if_le (q := 7) (t := 23) dX11_refuse_4 rfl rfl (fun c => absurd c (by decide)) (fun c => ?_)
            clear c
            refine tt_iload_n (q := 8) dX11_refuse_7 rfl rfl ?_
            refine tt_bipush (q := 10) dX11_refuse_8 bi_6 rfl ?_
            refine tt_icmp_gt (q := 13) (t := 23) dX11_refuse_10 rfl rfl (fun c => absurd c (by decide)) (fun c => ?_)
            clear c
            refine tt_aload_n (q := 14) dX11_refuse_13 rfl rfl ?_
            refine tt_getR (q := 17) dX11_refuse_14 fl_X11_96 or_0_11 (Nat.le_of_ble_eq_true rfl) rfl rfl ?_
            refine tt_iload_n (q := 18) dX11_refuse_17 rfl rfl ?_
            refine tt_dup2 (q := 19) dX11_refuse_18 rfl rfl rfl ?_
            refine tt_iald (q := 20) dX11_refuse_19 ia_101 (Nat.le_of_ble_eq_true rfl) rfl (Nat.le_of_ble_eq_true rfl : 4 < 7) rfl ?_
            refine tt_iconst (q := 21) dX11_refuse_20 ki_1 rfl ?_
            refine tt_iadd (q := 22) dX11_refuse_21 rfl ?_
            refine tt_iast (q := 23) dX11_refuse_22 ia_101 (Nat.le_of_ble_eq_true rfl) rfl (Nat.le_of_ble_eq_true rfl : 4 < 7) rfl ?_
            replace h := h _ rfl
            refine tt_iload_n (q := 24) dX11_refuse_23 rfl rfl ?_
            refine tt_iret dX11_refuse_24 ⟨rfl, _, rfl, ?_⟩
            refine tt_isubE (v := nI 1000000004) (q := 55) dX11_after_54 (by decide) rfl ?_
            exact tt_iret dX11_after_55 ⟨rfl, _, rfl, h⟩

theorem g_X11_locks_0 {post : SG → Int32 → Prop} {σ : SG} {a : Int32} {b : Int32} (h : ((a = 0 → ((¬ a = 0 → (((nI 0) ≤ b → ((b ≤ (nI 99) → (∃ j10 : Nat, a = nI j10 ∧ j10 < 2 ∧ (∃ j13 : Nat, a = nI j13 ∧ j13 < 2 ∧ (∀ s15 : SG, s15 = up σ 72 j13 b → post s15 (σ 72 j10))))) ∧ (¬ b ≤ (nI 99) → (∀ s18 : SG, s18 = up σ 101 6 ((σ 101 6) + (nI 1)) → post s18 (-6 : Int32))))) ∧ (¬ (nI 0) ≤ b → (∀ s21 : SG, s21 = up σ 101 4 ((σ 101 4) + (nI 1)) → post s21 (-4 : Int32))))) ∧ (a = 0 → (((nI 0) ≤ b → ((b ≤ (nI 100) → (∃ j29 : Nat, a = nI j29 ∧ j29 < 2 ∧ (∃ j32 : Nat, a = nI j32 ∧ j32 < 2 ∧ (∀ s34 : SG, s34 = up σ 72 j32 b → post s34 (σ 72 j29))))) ∧ (¬ b ≤ (nI 100) → (∀ s37 : SG, s37 = up σ 101 6 ((σ 101 6) + (nI 1)) → post s37 (-6 : Int32))))) ∧ (¬ (nI 0) ≤ b → (∀ s40 : SG, s40 = up σ 101 4 ((σ 101 4) + (nI 1)) → post s40 (-4 : Int32))))))) ∧ (¬ a = 0 → ((a = (nI 1) → ((¬ a = 0 → (((nI 0) ≤ b → ((b ≤ (nI 99) → (∃ j50 : Nat, a = nI j50 ∧ j50 < 2 ∧ (∃ j53 : Nat, a = nI j53 ∧ j53 < 2 ∧ (∀ s55 : SG, s55 = up σ 72 j53 b → post s55 (σ 72 j50))))) ∧ (¬ b ≤ (nI 99) → (∀ s58 : SG, s58 = up σ 101 6 ((σ 101 6) + (nI 1)) → post s58 (-6 : Int32))))) ∧ (¬ (nI 0) ≤ b → (∀ s61 : SG, s61 = up σ 101 4 ((σ 101 4) + (nI 1)) → post s61 (-4 : Int32))))) ∧ (a = 0 → (((nI 0) ≤ b → ((b ≤ (nI 100) → (∃ j69 : Nat, a = nI j69 ∧ j69 < 2 ∧ (∃ j72 : Nat, a = nI j72 ∧ j72 < 2 ∧ (∀ s74 : SG, s74 = up σ 72 j72 b → post s74 (σ 72 j69))))) ∧ (¬ b ≤ (nI 100) → (∀ s77 : SG, s77 = up σ 101 6 ((σ 101 6) + (nI 1)) → post s77 (-6 : Int32))))) ∧ (¬ (nI 0) ≤ b → (∀ s80 : SG, s80 = up σ 101 4 ((σ 101 4) + (nI 1)) → post s80 (-4 : Int32))))))) ∧ (¬ a = (nI 1) → (∀ s83 : SG, s83 = up σ 101 2 ((σ 101 2) + (nI 1)) → post s83 (-2 : Int32))))))) : T_X11_locks AF post 0 [.ref 0, .int a, .int b, dum] [] σ := by
  refine tt_iload_n (q := 1) dX11_locks_0 rfl rfl ?_
  refine tt_if_eq (q := 4) (t := 16) dX11_locks_1 rfl rfl (fun c => ?_) (fun c => ?_)
  · replace h := h.1 c
    refine tt_iload_n (q := 17) dX11_locks_16 rfl rfl ?_
    refine tt_iconst (q := 18) dX11_locks_17 ki_0 rfl ?_
    refine tt_iload_n (q := 19) dX11_locks_18 rfl rfl ?_
    refine tt_if_ne (q := 22) (t := 27) dX11_locks_19 rfl rfl (fun c => ?_) (fun c => ?_)
    · replace h := h.1 c
      refine tt_bipush (q := 29) dX11_locks_27 bi_99 rfl ?_
      refine callSi_3 (q := 32) dX11_locks_29 (Or.inr (Or.inl ⟨rfl, rfl, ⟨rfl, Nat.le_of_ble_eq_true rfl, ?_⟩⟩)) (Nat.le_of_ble_eq_true rfl) rfl (fun t4 r3 ht4 => ht4)
      refine (show TT cX11_outside RX11 false CT0 CN0 _ _ _ none 0 [_, _, _] [] _ _ from ?_)
      refine tt_iload_n (q := 1) dX11_outside_0 rfl rfl ?_
      refine tt_iload_n (q := 2) dX11_outside_1 rfl rfl ?_
      refine tt_icmp_ge (q := 5) (t := 8) dX11_outside_2 rfl rfl (fun c => ?_) (fun c => ?_)
      · replace h := h.1 c
        refine tt_iload_n (q := 9) dX11_outside_8 rfl rfl ?_
        refine tt_iload_n (q := 10) dX11_outside_9 rfl rfl ?_
        refine tt_icmp_le (q := 13) (t := 18) dX11_outside_10 rfl rfl (fun c => ?_) (fun c => ?_)
        · replace h := h.1 c
          refine tt_iconst (q := 19) dX11_outside_18 ki_0 rfl ?_
          refine tt_iret dX11_outside_19 ⟨rfl, _, rfl, ?_⟩
          refine sti_n_3 (q := 33) dX11_locks_32 rfl rfl rfl ?_
          refine tt_iload_n (q := 34) dX11_locks_33 rfl rfl ?_
          refine tt_if_eq (q := 37) (t := 43) dX11_locks_34 rfl rfl (fun c => ?_) (fun c => absurd c (by decide))
          clear c
          refine tt_aload_n (q := 44) dX11_locks_43 rfl rfl ?_
          refine tt_getR (q := 47) dX11_locks_44 fl_X11_44 or_0_4 (Nat.le_of_ble_eq_true rfl) rfl rfl ?_
          refine tt_getR (q := 50) dX11_locks_47 fl_X11_198 or_61_2 (Nat.le_of_ble_eq_true rfl) rfl rfl ?_
          refine tt_iload_n (q := 51) dX11_locks_50 rfl rfl ?_
          refine tt_iload_n (q := 52) dX11_locks_51 rfl rfl ?_
          refine callSi_3 (q := 55) dX11_locks_52 (Or.inr (Or.inr (⟨rfl, rfl, ⟨rfl, Nat.le_of_ble_eq_true rfl, ?_⟩⟩))) (Nat.le_of_ble_eq_true rfl) rfl (fun t8 r7 ht8 => ht8)
          refine (show TT cX11_exchange RX11 false CT0 CN0 _ _ _ none 0 [_, _, _, dum] [] _ _ from ?_)
          refine tt_aload_n (q := 1) dX11_exchange_0 rfl rfl ?_
          refine tt_iload_n (q := 2) dX11_exchange_1 rfl rfl ?_
          obtain ⟨j10, e11, l9, h⟩ := h
          refine tt_iald (q := 3) dX11_exchange_2 ia_72 (Nat.le_of_ble_eq_true rfl) e11 l9 rfl ?_
          refine sti_n_3 (q := 4) dX11_exchange_3 rfl rfl rfl ?_
          refine tt_aload_n (q := 5) dX11_exchange_4 rfl rfl ?_
          refine tt_iload_n (q := 6) dX11_exchange_5 rfl rfl ?_
          refine tt_iload_n (q := 7) dX11_exchange_6 rfl rfl ?_
          obtain ⟨j13, e14, l12, h⟩ := h
          refine tt_iast (q := 8) dX11_exchange_7 ia_72 (Nat.le_of_ble_eq_true rfl) e14 l12 rfl ?_
          replace h := h _ rfl
          refine tt_iload_n (q := 9) dX11_exchange_8 rfl rfl ?_
          refine tt_iret dX11_exchange_9 ⟨rfl, _, rfl, ?_⟩
          exact tt_iret dX11_locks_55 ⟨rfl, _, rfl, h⟩
        · replace h := h.2 c
          refine tt_bipush (q := 15) dX11_outside_13 bi_m6 rfl ?_
          refine tt_goto (t := 19) dX11_outside_15 rfl ?_
          refine tt_iret dX11_outside_19 ⟨rfl, _, rfl, ?_⟩
          refine sti_n_3 (q := 33) dX11_locks_32 rfl rfl rfl ?_
          refine tt_iload_n (q := 34) dX11_locks_33 rfl rfl ?_
          refine tt_if_eq (q := 37) (t := 43) dX11_locks_34 rfl rfl (fun c => absurd c (by decide)) (fun c => ?_)
          clear c
          refine tt_aload_n (q := 38) dX11_locks_37 rfl rfl ?_
          refine tt_iload_n (q := 39) dX11_locks_38 rfl rfl ?_
          refine callVi_1 (q := 42) dX11_locks_39 (Or.inl ⟨rfl, rfl, ⟨⟨_, _, rfl, rfl, (Nat.le_of_ble_eq_true rfl), rc_0⟩, Nat.le_of_ble_eq_true rfl, ?_⟩⟩) (Nat.le_of_ble_eq_true rfl) rfl (fun t17 r16 ht17 => ht17)
          refine (show TT cX11_refuse RX11 false CT0 CN0 _ _ _ none 0 [_, _, dum] [] _ _ from ?_)
          refine tt_iload_n (q := 1) dX11_refuse_0 rfl rfl ?_
          refine tt_inegE (v := nI 6) (q := 2) dX11_refuse_1 (by decide) rfl ?_
          refine sti_n_2 (q := 3) dX11_refuse_2 rfl rfl rfl ?_
          refine tt_iload_n (q := 4) dX11_refuse_3 rfl rfl ?_
          refine tt_if_le (q := 7) (t := 23) dX11_refuse_4 rfl rfl (fun c => absurd c (by decide)) (fun c => ?_)
          clear c
          refine tt_iload_n (q := 8) dX11_refuse_7 rfl rfl ?_
          refine tt_bipush (q := 10) dX11_refuse_8 bi_6 rfl ?_
          refine tt_icmp_gt (q := 13) (t := 23) dX11_refuse_10 rfl rfl (fun c => absurd c (by decide)) (fun c => ?_)
          clear c
          refine tt_aload_n (q := 14) dX11_refuse_13 rfl rfl ?_
          refine tt_getR (q := 17) dX11_refuse_14 fl_X11_96 or_0_11 (Nat.le_of_ble_eq_true rfl) rfl rfl ?_
          refine tt_iload_n (q := 18) dX11_refuse_17 rfl rfl ?_
          refine tt_dup2 (q := 19) dX11_refuse_18 rfl rfl rfl ?_
          refine tt_iald (q := 20) dX11_refuse_19 ia_101 (Nat.le_of_ble_eq_true rfl) rfl (Nat.le_of_ble_eq_true rfl : 6 < 7) rfl ?_
          refine tt_iconst (q := 21) dX11_refuse_20 ki_1 rfl ?_
          refine tt_iadd (q := 22) dX11_refuse_21 rfl ?_
          refine tt_iast (q := 23) dX11_refuse_22 ia_101 (Nat.le_of_ble_eq_true rfl) rfl (Nat.le_of_ble_eq_true rfl : 6 < 7) rfl ?_
          replace h := h _ rfl
          refine tt_iload_n (q := 24) dX11_refuse_23 rfl rfl ?_
          refine tt_iret dX11_refuse_24 ⟨rfl, _, rfl, ?_⟩
          exact tt_iret dX11_locks_42 ⟨rfl, _, rfl, h⟩
      · replace h := h.2 c
        refine tt_bipush (q := 7) dX11_outside_5 bi_m4 rfl ?_
        refine tt_iret dX11_outside_7 ⟨rfl, _, rfl, ?_⟩
        refine sti_n_3 (q := 33) dX11_locks_32 rfl rfl rfl ?_
        refine tt_iload_n (q := 34) dX11_locks_33 rfl rfl ?_
        refine tt_if_eq (q := 37) (t := 43) dX11_locks_34 rfl rfl (fun c => absurd c (by decide)) (fun c => ?_)
        clear c
        refine tt_aload_n (q := 38) dX11_locks_37 rfl rfl ?_
        refine tt_iload_n (q := 39) dX11_locks_38 rfl rfl ?_
        refine callVi_1 (q := 42) dX11_locks_39 (Or.inl ⟨rfl, rfl, ⟨⟨_, _, rfl, rfl, (Nat.le_of_ble_eq_true rfl), rc_0⟩, Nat.le_of_ble_eq_true rfl, ?_⟩⟩) (Nat.le_of_ble_eq_true rfl) rfl (fun t20 r19 ht20 => ht20)
        refine (show TT cX11_refuse RX11 false CT0 CN0 _ _ _ none 0 [_, _, dum] [] _ _ from ?_)
        refine tt_iload_n (q := 1) dX11_refuse_0 rfl rfl ?_
        refine tt_inegE (v := nI 4) (q := 2) dX11_refuse_1 (by decide) rfl ?_
        refine sti_n_2 (q := 3) dX11_refuse_2 rfl rfl rfl ?_
        refine tt_iload_n (q := 4) dX11_refuse_3 rfl rfl ?_
        refine tt_if_le (q := 7) (t := 23) dX11_refuse_4 rfl rfl (fun c => absurd c (by decide)) (fun c => ?_)
        clear c
        refine tt_iload_n (q := 8) dX11_refuse_7 rfl rfl ?_
        refine tt_bipush (q := 10) dX11_refuse_8 bi_6 rfl ?_
        refine tt_icmp_gt (q := 13) (t := 23) dX11_refuse_10 rfl rfl (fun c => absurd c (by decide)) (fun c => ?_)
        clear c
        refine tt_aload_n (q := 14) dX11_refuse_13 rfl rfl ?_
        refine tt_getR (q := 17) dX11_refuse_14 fl_X11_96 or_0_11 (Nat.le_of_ble_eq_true rfl) rfl rfl ?_
        refine tt_iload_n (q := 18) dX11_refuse_17 rfl rfl ?_
        refine tt_dup2 (q := 19) dX11_refuse_18 rfl rfl rfl ?_
        refine tt_iald (q := 20) dX11_refuse_19 ia_101 (Nat.le_of_ble_eq_true rfl) rfl (Nat.le_of_ble_eq_true rfl : 4 < 7) rfl ?_
        refine tt_iconst (q := 21) dX11_refuse_20 ki_1 rfl ?_
        refine tt_iadd (q := 22) dX11_refuse_21 rfl ?_
        refine tt_iast (q := 23) dX11_refuse_22 ia_101 (Nat.le_of_ble_eq_true rfl) rfl (Nat.le_of_ble_eq_true rfl : 4 < 7) rfl ?_
        replace h := h _ rfl
        refine tt_iload_n (q := 24) dX11_refuse_23 rfl rfl ?_
        refine tt_iret dX11_refuse_24 ⟨rfl, _, rfl, ?_⟩
        exact tt_iret dX11_locks_42 ⟨rfl, _, rfl, h⟩
    · replace h := h.2 c
      refine tt_bipush (q := 24) dX11_locks_22 bi_100 rfl ?_
      refine tt_goto (t := 29) dX11_locks_24 rfl ?_
      refine callSi_3 (q := 32) dX11_locks_29 (Or.inr (Or.inl ⟨rfl, rfl, ⟨rfl, Nat.le_of_ble_eq_true rfl, ?_⟩⟩)) (Nat.le_of_ble_eq_true rfl) rfl (fun t23 r22 ht23 => ht23)
      refine (show TT cX11_outside RX11 false CT0 CN0 _ _ _ none 0 [_, _, _] [] _ _ from ?_)
      refine tt_iload_n (q := 1) dX11_outside_0 rfl rfl ?_
      refine tt_iload_n (q := 2) dX11_outside_1 rfl rfl ?_
      refine tt_icmp_ge (q := 5) (t := 8) dX11_outside_2 rfl rfl (fun c => ?_) (fun c => ?_)
      · replace h := h.1 c
        refine tt_iload_n (q := 9) dX11_outside_8 rfl rfl ?_
        refine tt_iload_n (q := 10) dX11_outside_9 rfl rfl ?_
        refine tt_icmp_le (q := 13) (t := 18) dX11_outside_10 rfl rfl (fun c => ?_) (fun c => ?_)
        · replace h := h.1 c
          refine tt_iconst (q := 19) dX11_outside_18 ki_0 rfl ?_
          refine tt_iret dX11_outside_19 ⟨rfl, _, rfl, ?_⟩
          refine sti_n_3 (q := 33) dX11_locks_32 rfl rfl rfl ?_
          refine tt_iload_n (q := 34) dX11_locks_33 rfl rfl ?_
          refine tt_if_eq (q := 37) (t := 43) dX11_locks_34 rfl rfl (fun c => ?_) (fun c => absurd c (by decide))
          clear c
          refine tt_aload_n (q := 44) dX11_locks_43 rfl rfl ?_
          refine tt_getR (q := 47) dX11_locks_44 fl_X11_44 or_0_4 (Nat.le_of_ble_eq_true rfl) rfl rfl ?_
          refine tt_getR (q := 50) dX11_locks_47 fl_X11_198 or_61_2 (Nat.le_of_ble_eq_true rfl) rfl rfl ?_
          refine tt_iload_n (q := 51) dX11_locks_50 rfl rfl ?_
          refine tt_iload_n (q := 52) dX11_locks_51 rfl rfl ?_
          refine callSi_3 (q := 55) dX11_locks_52 (Or.inr (Or.inr (⟨rfl, rfl, ⟨rfl, Nat.le_of_ble_eq_true rfl, ?_⟩⟩))) (Nat.le_of_ble_eq_true rfl) rfl (fun t27 r26 ht27 => ht27)
          refine (show TT cX11_exchange RX11 false CT0 CN0 _ _ _ none 0 [_, _, _, dum] [] _ _ from ?_)
          refine tt_aload_n (q := 1) dX11_exchange_0 rfl rfl ?_
          refine tt_iload_n (q := 2) dX11_exchange_1 rfl rfl ?_
          obtain ⟨j29, e30, l28, h⟩ := h
          refine tt_iald (q := 3) dX11_exchange_2 ia_72 (Nat.le_of_ble_eq_true rfl) e30 l28 rfl ?_
          refine sti_n_3 (q := 4) dX11_exchange_3 rfl rfl rfl ?_
          refine tt_aload_n (q := 5) dX11_exchange_4 rfl rfl ?_
          refine tt_iload_n (q := 6) dX11_exchange_5 rfl rfl ?_
          refine tt_iload_n (q := 7) dX11_exchange_6 rfl rfl ?_
          obtain ⟨j32, e33, l31, h⟩ := h
          refine tt_iast (q := 8) dX11_exchange_7 ia_72 (Nat.le_of_ble_eq_true rfl) e33 l31 rfl ?_
          replace h := h _ rfl
          refine tt_iload_n (q := 9) dX11_exchange_8 rfl rfl ?_
          refine tt_iret dX11_exchange_9 ⟨rfl, _, rfl, ?_⟩
          exact tt_iret dX11_locks_55 ⟨rfl, _, rfl, h⟩
        · replace h := h.2 c
          refine tt_bipush (q := 15) dX11_outside_13 bi_m6 rfl ?_
          refine tt_goto (t := 19) dX11_outside_15 rfl ?_
          refine tt_iret dX11_outside_19 ⟨rfl, _, rfl, ?_⟩
          refine sti_n_3 (q := 33) dX11_locks_32 rfl rfl rfl ?_
          refine tt_iload_n (q := 34) dX11_locks_33 rfl rfl ?_
          refine tt_if_eq (q := 37) (t := 43) dX11_locks_34 rfl rfl (fun c => absurd c (by decide)) (fun c => ?_)
          clear c
          refine tt_aload_n (q := 38) dX11_locks_37 rfl rfl ?_
          refine tt_iload_n (q := 39) dX11_locks_38 rfl rfl ?_
          refine callVi_1 (q := 42) dX11_locks_39 (Or.inl ⟨rfl, rfl, ⟨⟨_, _, rfl, rfl, (Nat.le_of_ble_eq_true rfl), rc_0⟩, Nat.le_of_ble_eq_true rfl, ?_⟩⟩) (Nat.le_of_ble_eq_true rfl) rfl (fun t36 r35 ht36 => ht36)
          refine (show TT cX11_refuse RX11 false CT0 CN0 _ _ _ none 0 [_, _, dum] [] _ _ from ?_)
          refine tt_iload_n (q := 1) dX11_refuse_0 rfl rfl ?_
          refine tt_inegE (v := nI 6) (q := 2) dX11_refuse_1 (by decide) rfl ?_
          refine sti_n_2 (q := 3) dX11_refuse_2 rfl rfl rfl ?_
          refine tt_iload_n (q := 4) dX11_refuse_3 rfl rfl ?_
          refine tt_if_le (q := 7) (t := 23) dX11_refuse_4 rfl rfl (fun c => absurd c (by decide)) (fun c => ?_)
          clear c
          refine tt_iload_n (q := 8) dX11_refuse_7 rfl rfl ?_
          refine tt_bipush (q := 10) dX11_refuse_8 bi_6 rfl ?_
          refine tt_icmp_gt (q := 13) (t := 23) dX11_refuse_10 rfl rfl (fun c => absurd c (by decide)) (fun c => ?_)
          clear c
          refine tt_aload_n (q := 14) dX11_refuse_13 rfl rfl ?_
          refine tt_getR (q := 17) dX11_refuse_14 fl_X11_96 or_0_11 (Nat.le_of_ble_eq_true rfl) rfl rfl ?_
          refine tt_iload_n (q := 18) dX11_refuse_17 rfl rfl ?_
          refine tt_dup2 (q := 19) dX11_refuse_18 rfl rfl rfl ?_
          refine tt_iald (q := 20) dX11_refuse_19 ia_101 (Nat.le_of_ble_eq_true rfl) rfl (Nat.le_of_ble_eq_true rfl : 6 < 7) rfl ?_
          refine tt_iconst (q := 21) dX11_refuse_20 ki_1 rfl ?_
          refine tt_iadd (q := 22) dX11_refuse_21 rfl ?_
          refine tt_iast (q := 23) dX11_refuse_22 ia_101 (Nat.le_of_ble_eq_true rfl) rfl (Nat.le_of_ble_eq_true rfl : 6 < 7) rfl ?_
          replace h := h _ rfl
          refine tt_iload_n (q := 24) dX11_refuse_23 rfl rfl ?_
          refine tt_iret dX11_refuse_24 ⟨rfl, _, rfl, ?_⟩
          exact tt_iret dX11_locks_42 ⟨rfl, _, rfl, h⟩
      · replace h := h.2 c
        refine tt_bipush (q := 7) dX11_outside_5 bi_m4 rfl ?_
        refine tt_iret dX11_outside_7 ⟨rfl, _, rfl, ?_⟩
        refine sti_n_3 (q := 33) dX11_locks_32 rfl rfl rfl ?_
        refine tt_iload_n (q := 34) dX11_locks_33 rfl rfl ?_
        refine tt_if_eq (q := 37) (t := 43) dX11_locks_34 rfl rfl (fun c => absurd c (by decide)) (fun c => ?_)
        clear c
        refine tt_aload_n (q := 38) dX11_locks_37 rfl rfl ?_
        refine tt_iload_n (q := 39) dX11_locks_38 rfl rfl ?_
        refine callVi_1 (q := 42) dX11_locks_39 (Or.inl ⟨rfl, rfl, ⟨⟨_, _, rfl, rfl, (Nat.le_of_ble_eq_true rfl), rc_0⟩, Nat.le_of_ble_eq_true rfl, ?_⟩⟩) (Nat.le_of_ble_eq_true rfl) rfl (fun t39 r38 ht39 => ht39)
        refine (show TT cX11_refuse RX11 false CT0 CN0 _ _ _ none 0 [_, _, dum] [] _ _ from ?_)
        refine tt_iload_n (q := 1) dX11_refuse_0 rfl rfl ?_
        refine tt_inegE (v := nI 4) (q := 2) dX11_refuse_1 (by decide) rfl ?_
        refine sti_n_2 (q := 3) dX11_refuse_2 rfl rfl rfl ?_
        refine tt_iload_n (q := 4) dX11_refuse_3 rfl rfl ?_
        refine tt_if_le (q := 7) (t := 23) dX11_refuse_4 rfl rfl (fun c => absurd c (by decide)) (fun c => ?_)
        clear c
        refine tt_iload_n (q := 8) dX11_refuse_7 rfl rfl ?_
        refine tt_bipush (q := 10) dX11_refuse_8 bi_6 rfl ?_
        refine tt_icmp_gt (q := 13) (t := 23) dX11_refuse_10 rfl rfl (fun c => absurd c (by decide)) (fun c => ?_)
        clear c
        refine tt_aload_n (q := 14) dX11_refuse_13 rfl rfl ?_
        refine tt_getR (q := 17) dX11_refuse_14 fl_X11_96 or_0_11 (Nat.le_of_ble_eq_true rfl) rfl rfl ?_
        refine tt_iload_n (q := 18) dX11_refuse_17 rfl rfl ?_
        refine tt_dup2 (q := 19) dX11_refuse_18 rfl rfl rfl ?_
        refine tt_iald (q := 20) dX11_refuse_19 ia_101 (Nat.le_of_ble_eq_true rfl) rfl (Nat.le_of_ble_eq_true rfl : 4 < 7) rfl ?_
        refine tt_iconst (q := 21) dX11_refuse_20 ki_1 rfl ?_
        refine tt_iadd (q := 22) dX11_refuse_21 rfl ?_
        refine tt_iast (q := 23) dX11_refuse_22 ia_101 (Nat.le_of_ble_eq_true rfl) rfl (Nat.le_of_ble_eq_true rfl : 4 < 7) rfl ?_
        replace h := h _ rfl
        refine tt_iload_n (q := 24) dX11_refuse_23 rfl rfl ?_
        refine tt_iret dX11_refuse_24 ⟨rfl, _, rfl, ?_⟩
        exact tt_iret dX11_locks_42 ⟨rfl, _, rfl, h⟩
  · replace h := h.2 c
    refine tt_iload_n (q := 5) dX11_locks_4 rfl rfl ?_
    refine tt_iconst (q := 6) dX11_locks_5 ki_1 rfl ?_
    refine tt_icmp_eq (q := 9) (t := 16) dX11_locks_6 rfl rfl (fun c => ?_) (fun c => ?_)
    · replace h := h.1 c
      refine tt_iload_n (q := 17) dX11_locks_16 rfl rfl ?_
      refine tt_iconst (q := 18) dX11_locks_17 ki_0 rfl ?_
      refine tt_iload_n (q := 19) dX11_locks_18 rfl rfl ?_
      refine tt_if_ne (q := 22) (t := 27) dX11_locks_19 rfl rfl (fun c => ?_) (fun c => ?_)
      · replace h := h.1 c
        refine tt_bipush (q := 29) dX11_locks_27 bi_99 rfl ?_
        refine callSi_3 (q := 32) dX11_locks_29 (Or.inr (Or.inl ⟨rfl, rfl, ⟨rfl, Nat.le_of_ble_eq_true rfl, ?_⟩⟩)) (Nat.le_of_ble_eq_true rfl) rfl (fun t44 r43 ht44 => ht44)
        refine (show TT cX11_outside RX11 false CT0 CN0 _ _ _ none 0 [_, _, _] [] _ _ from ?_)
        refine tt_iload_n (q := 1) dX11_outside_0 rfl rfl ?_
        refine tt_iload_n (q := 2) dX11_outside_1 rfl rfl ?_
        refine tt_icmp_ge (q := 5) (t := 8) dX11_outside_2 rfl rfl (fun c => ?_) (fun c => ?_)
        · replace h := h.1 c
          refine tt_iload_n (q := 9) dX11_outside_8 rfl rfl ?_
          refine tt_iload_n (q := 10) dX11_outside_9 rfl rfl ?_
          refine tt_icmp_le (q := 13) (t := 18) dX11_outside_10 rfl rfl (fun c => ?_) (fun c => ?_)
          · replace h := h.1 c
            refine tt_iconst (q := 19) dX11_outside_18 ki_0 rfl ?_
            refine tt_iret dX11_outside_19 ⟨rfl, _, rfl, ?_⟩
            refine sti_n_3 (q := 33) dX11_locks_32 rfl rfl rfl ?_
            refine tt_iload_n (q := 34) dX11_locks_33 rfl rfl ?_
            refine tt_if_eq (q := 37) (t := 43) dX11_locks_34 rfl rfl (fun c => ?_) (fun c => absurd c (by decide))
            clear c
            refine tt_aload_n (q := 44) dX11_locks_43 rfl rfl ?_
            refine tt_getR (q := 47) dX11_locks_44 fl_X11_44 or_0_4 (Nat.le_of_ble_eq_true rfl) rfl rfl ?_
            refine tt_getR (q := 50) dX11_locks_47 fl_X11_198 or_61_2 (Nat.le_of_ble_eq_true rfl) rfl rfl ?_
            refine tt_iload_n (q := 51) dX11_locks_50 rfl rfl ?_
            refine tt_iload_n (q := 52) dX11_locks_51 rfl rfl ?_
            refine callSi_3 (q := 55) dX11_locks_52 (Or.inr (Or.inr (⟨rfl, rfl, ⟨rfl, Nat.le_of_ble_eq_true rfl, ?_⟩⟩))) (Nat.le_of_ble_eq_true rfl) rfl (fun t48 r47 ht48 => ht48)
            refine (show TT cX11_exchange RX11 false CT0 CN0 _ _ _ none 0 [_, _, _, dum] [] _ _ from ?_)
            refine tt_aload_n (q := 1) dX11_exchange_0 rfl rfl ?_
            refine tt_iload_n (q := 2) dX11_exchange_1 rfl rfl ?_
            obtain ⟨j50, e51, l49, h⟩ := h
            refine tt_iald (q := 3) dX11_exchange_2 ia_72 (Nat.le_of_ble_eq_true rfl) e51 l49 rfl ?_
            refine sti_n_3 (q := 4) dX11_exchange_3 rfl rfl rfl ?_
            refine tt_aload_n (q := 5) dX11_exchange_4 rfl rfl ?_
            refine tt_iload_n (q := 6) dX11_exchange_5 rfl rfl ?_
            refine tt_iload_n (q := 7) dX11_exchange_6 rfl rfl ?_
            obtain ⟨j53, e54, l52, h⟩ := h
            refine tt_iast (q := 8) dX11_exchange_7 ia_72 (Nat.le_of_ble_eq_true rfl) e54 l52 rfl ?_
            replace h := h _ rfl
            refine tt_iload_n (q := 9) dX11_exchange_8 rfl rfl ?_
            refine tt_iret dX11_exchange_9 ⟨rfl, _, rfl, ?_⟩
            exact tt_iret dX11_locks_55 ⟨rfl, _, rfl, h⟩
          · replace h := h.2 c
            refine tt_bipush (q := 15) dX11_outside_13 bi_m6 rfl ?_
            refine tt_goto (t := 19) dX11_outside_15 rfl ?_
            refine tt_iret dX11_outside_19 ⟨rfl, _, rfl, ?_⟩
            refine sti_n_3 (q := 33) dX11_locks_32 rfl rfl rfl ?_
            refine tt_iload_n (q := 34) dX11_locks_33 rfl rfl ?_
            refine tt_if_eq (q := 37) (t := 43) dX11_locks_34 rfl rfl (fun c => absurd c (by decide)) (fun c => ?_)
            clear c
            refine tt_aload_n (q := 38) dX11_locks_37 rfl rfl ?_
            refine tt_iload_n (q := 39) dX11_locks_38 rfl rfl ?_
            refine callVi_1 (q := 42) dX11_locks_39 (Or.inl ⟨rfl, rfl, ⟨⟨_, _, rfl, rfl, (Nat.le_of_ble_eq_true rfl), rc_0⟩, Nat.le_of_ble_eq_true rfl, ?_⟩⟩) (Nat.le_of_ble_eq_true rfl) rfl (fun t57 r56 ht57 => ht57)
            refine (show TT cX11_refuse RX11 false CT0 CN0 _ _ _ none 0 [_, _, dum] [] _ _ from ?_)
            refine tt_iload_n (q := 1) dX11_refuse_0 rfl rfl ?_
            refine tt_inegE (v := nI 6) (q := 2) dX11_refuse_1 (by decide) rfl ?_
            refine sti_n_2 (q := 3) dX11_refuse_2 rfl rfl rfl ?_
            refine tt_iload_n (q := 4) dX11_refuse_3 rfl rfl ?_
            refine tt_if_le (q := 7) (t := 23) dX11_refuse_4 rfl rfl (fun c => absurd c (by decide)) (fun c => ?_)
            clear c
            refine tt_iload_n (q := 8) dX11_refuse_7 rfl rfl ?_
            refine tt_bipush (q := 10) dX11_refuse_8 bi_6 rfl ?_
            refine tt_icmp_gt (q := 13) (t := 23) dX11_refuse_10 rfl rfl (fun c => absurd c (by decide)) (fun c => ?_)
            clear c
            refine tt_aload_n (q := 14) dX11_refuse_13 rfl rfl ?_
            refine tt_getR (q := 17) dX11_refuse_14 fl_X11_96 or_0_11 (Nat.le_of_ble_eq_true rfl) rfl rfl ?_
            refine tt_iload_n (q := 18) dX11_refuse_17 rfl rfl ?_
            refine tt_dup2 (q := 19) dX11_refuse_18 rfl rfl rfl ?_
            refine tt_iald (q := 20) dX11_refuse_19 ia_101 (Nat.le_of_ble_eq_true rfl) rfl (Nat.le_of_ble_eq_true rfl : 6 < 7) rfl ?_
            refine tt_iconst (q := 21) dX11_refuse_20 ki_1 rfl ?_
            refine tt_iadd (q := 22) dX11_refuse_21 rfl ?_
            refine tt_iast (q := 23) dX11_refuse_22 ia_101 (Nat.le_of_ble_eq_true rfl) rfl (Nat.le_of_ble_eq_true rfl : 6 < 7) rfl ?_
            replace h := h _ rfl
            refine tt_iload_n (q := 24) dX11_refuse_23 rfl rfl ?_
            refine tt_iret dX11_refuse_24 ⟨rfl, _, rfl, ?_⟩
            exact tt_iret dX11_locks_42 ⟨rfl, _, rfl, h⟩
        · replace h := h.2 c
          refine tt_bipush (q := 7) dX11_outside_5 bi_m4 rfl ?_
          refine tt_iret dX11_outside_7 ⟨rfl, _, rfl, ?_⟩
          refine sti_n_3 (q := 33) dX11_locks_32 rfl rfl rfl ?_
          refine tt_iload_n (q := 34) dX11_locks_33 rfl rfl ?_
          refine tt_if_eq (q := 37) (t := 43) dX11_locks_34 rfl rfl (fun c => absurd c (by decide)) (fun c => ?_)
          clear c
          refine tt_aload_n (q := 38) dX11_locks_37 rfl rfl ?_
          refine tt_iload_n (q := 39) dX11_locks_38 rfl rfl ?_
          refine callVi_1 (q := 42) dX11_locks_39 (Or.inl ⟨rfl, rfl, ⟨⟨_, _, rfl, rfl, (Nat.le_of_ble_eq_true rfl), rc_0⟩, Nat.le_of_ble_eq_true rfl, ?_⟩⟩) (Nat.le_of_ble_eq_true rfl) rfl (fun t60 r59 ht60 => ht60)
          refine (show TT cX11_refuse RX11 false CT0 CN0 _ _ _ none 0 [_, _, dum] [] _ _ from ?_)
          refine tt_iload_n (q := 1) dX11_refuse_0 rfl rfl ?_
          refine tt_inegE (v := nI 4) (q := 2) dX11_refuse_1 (by decide) rfl ?_
          refine sti_n_2 (q := 3) dX11_refuse_2 rfl rfl rfl ?_
          refine tt_iload_n (q := 4) dX11_refuse_3 rfl rfl ?_
          refine tt_if_le (q := 7) (t := 23) dX11_refuse_4 rfl rfl (fun c => absurd c (by decide)) (fun c => ?_)
          clear c
          refine tt_iload_n (q := 8) dX11_refuse_7 rfl rfl ?_
          refine tt_bipush (q := 10) dX11_refuse_8 bi_6 rfl ?_
          refine tt_icmp_gt (q := 13) (t := 23) dX11_refuse_10 rfl rfl (fun c => absurd c (by decide)) (fun c => ?_)
          clear c
          refine tt_aload_n (q := 14) dX11_refuse_13 rfl rfl ?_
          refine tt_getR (q := 17) dX11_refuse_14 fl_X11_96 or_0_11 (Nat.le_of_ble_eq_true rfl) rfl rfl ?_
          refine tt_iload_n (q := 18) dX11_refuse_17 rfl rfl ?_
          refine tt_dup2 (q := 19) dX11_refuse_18 rfl rfl rfl ?_
          refine tt_iald (q := 20) dX11_refuse_19 ia_101 (Nat.le_of_ble_eq_true rfl) rfl (Nat.le_of_ble_eq_true rfl : 4 < 7) rfl ?_
          refine tt_iconst (q := 21) dX11_refuse_20 ki_1 rfl ?_
          refine tt_iadd (q := 22) dX11_refuse_21 rfl ?_
          refine tt_iast (q := 23) dX11_refuse_22 ia_101 (Nat.le_of_ble_eq_true rfl) rfl (Nat.le_of_ble_eq_true rfl : 4 < 7) rfl ?_
          replace h := h _ rfl
          refine tt_iload_n (q := 24) dX11_refuse_23 rfl rfl ?_
          refine tt_iret dX11_refuse_24 ⟨rfl, _, rfl, ?_⟩
          exact tt_iret dX11_locks_42 ⟨rfl, _, rfl, h⟩
      · replace h := h.2 c
        refine tt_bipush (q := 24) dX11_locks_22 bi_100 rfl ?_
        refine tt_goto (t := 29) dX11_locks_24 rfl ?_
        refine callSi_3 (q := 32) dX11_locks_29 (Or.inr (Or.inl ⟨rfl, rfl, ⟨rfl, Nat.le_of_ble_eq_true rfl, ?_⟩⟩)) (Nat.le_of_ble_eq_true rfl) rfl (fun t63 r62 ht63 => ht63)
        refine (show TT cX11_outside RX11 false CT0 CN0 _ _ _ none 0 [_, _, _] [] _ _ from ?_)
        refine tt_iload_n (q := 1) dX11_outside_0 rfl rfl ?_
        refine tt_iload_n (q := 2) dX11_outside_1 rfl rfl ?_
        refine tt_icmp_ge (q := 5) (t := 8) dX11_outside_2 rfl rfl (fun c => ?_) (fun c => ?_)
        · replace h := h.1 c
          refine tt_iload_n (q := 9) dX11_outside_8 rfl rfl ?_
          refine tt_iload_n (q := 10) dX11_outside_9 rfl rfl ?_
          refine tt_icmp_le (q := 13) (t := 18) dX11_outside_10 rfl rfl (fun c => ?_) (fun c => ?_)
          · replace h := h.1 c
            refine tt_iconst (q := 19) dX11_outside_18 ki_0 rfl ?_
            refine tt_iret dX11_outside_19 ⟨rfl, _, rfl, ?_⟩
            refine sti_n_3 (q := 33) dX11_locks_32 rfl rfl rfl ?_
            refine tt_iload_n (q := 34) dX11_locks_33 rfl rfl ?_
            refine tt_if_eq (q := 37) (t := 43) dX11_locks_34 rfl rfl (fun c => ?_) (fun c => absurd c (by decide))
            clear c
            refine tt_aload_n (q := 44) dX11_locks_43 rfl rfl ?_
            refine tt_getR (q := 47) dX11_locks_44 fl_X11_44 or_0_4 (Nat.le_of_ble_eq_true rfl) rfl rfl ?_
            refine tt_getR (q := 50) dX11_locks_47 fl_X11_198 or_61_2 (Nat.le_of_ble_eq_true rfl) rfl rfl ?_
            refine tt_iload_n (q := 51) dX11_locks_50 rfl rfl ?_
            refine tt_iload_n (q := 52) dX11_locks_51 rfl rfl ?_
            refine callSi_3 (q := 55) dX11_locks_52 (Or.inr (Or.inr (⟨rfl, rfl, ⟨rfl, Nat.le_of_ble_eq_true rfl, ?_⟩⟩))) (Nat.le_of_ble_eq_true rfl) rfl (fun t67 r66 ht67 => ht67)
            refine (show TT cX11_exchange RX11 false CT0 CN0 _ _ _ none 0 [_, _, _, dum] [] _ _ from ?_)
            refine tt_aload_n (q := 1) dX11_exchange_0 rfl rfl ?_
            refine tt_iload_n (q := 2) dX11_exchange_1 rfl rfl ?_
            obtain ⟨j69, e70, l68, h⟩ := h
            refine tt_iald (q := 3) dX11_exchange_2 ia_72 (Nat.le_of_ble_eq_true rfl) e70 l68 rfl ?_
            refine sti_n_3 (q := 4) dX11_exchange_3 rfl rfl rfl ?_
            refine tt_aload_n (q := 5) dX11_exchange_4 rfl rfl ?_
            refine tt_iload_n (q := 6) dX11_exchange_5 rfl rfl ?_
            refine tt_iload_n (q := 7) dX11_exchange_6 rfl rfl ?_
            obtain ⟨j72, e73, l71, h⟩ := h
            refine tt_iast (q := 8) dX11_exchange_7 ia_72 (Nat.le_of_ble_eq_true rfl) e73 l71 rfl ?_
            replace h := h _ rfl
            refine tt_iload_n (q := 9) dX11_exchange_8 rfl rfl ?_
            refine tt_iret dX11_exchange_9 ⟨rfl, _, rfl, ?_⟩
            exact tt_iret dX11_locks_55 ⟨rfl, _, rfl, h⟩
          · replace h := h.2 c
            refine tt_bipush (q := 15) dX11_outside_13 bi_m6 rfl ?_
            refine tt_goto (t := 19) dX11_outside_15 rfl ?_
            refine tt_iret dX11_outside_19 ⟨rfl, _, rfl, ?_⟩
            refine sti_n_3 (q := 33) dX11_locks_32 rfl rfl rfl ?_
            refine tt_iload_n (q := 34) dX11_locks_33 rfl rfl ?_
            refine tt_if_eq (q := 37) (t := 43) dX11_locks_34 rfl rfl (fun c => absurd c (by decide)) (fun c => ?_)
            clear c
            refine tt_aload_n (q := 38) dX11_locks_37 rfl rfl ?_
            refine tt_iload_n (q := 39) dX11_locks_38 rfl rfl ?_
            refine callVi_1 (q := 42) dX11_locks_39 (Or.inl ⟨rfl, rfl, ⟨⟨_, _, rfl, rfl, (Nat.le_of_ble_eq_true rfl), rc_0⟩, Nat.le_of_ble_eq_true rfl, ?_⟩⟩) (Nat.le_of_ble_eq_true rfl) rfl (fun t76 r75 ht76 => ht76)
            refine (show TT cX11_refuse RX11 false CT0 CN0 _ _ _ none 0 [_, _, dum] [] _ _ from ?_)
            refine tt_iload_n (q := 1) dX11_refuse_0 rfl rfl ?_
            refine tt_inegE (v := nI 6) (q := 2) dX11_refuse_1 (by decide) rfl ?_
            refine sti_n_2 (q := 3) dX11_refuse_2 rfl rfl rfl ?_
            refine tt_iload_n (q := 4) dX11_refuse_3 rfl rfl ?_
            refine tt_if_le (q := 7) (t := 23) dX11_refuse_4 rfl rfl (fun c => absurd c (by decide)) (fun c => ?_)
            clear c
            refine tt_iload_n (q := 8) dX11_refuse_7 rfl rfl ?_
            refine tt_bipush (q := 10) dX11_refuse_8 bi_6 rfl ?_
            refine tt_icmp_gt (q := 13) (t := 23) dX11_refuse_10 rfl rfl (fun c => absurd c (by decide)) (fun c => ?_)
            clear c
            refine tt_aload_n (q := 14) dX11_refuse_13 rfl rfl ?_
            refine tt_getR (q := 17) dX11_refuse_14 fl_X11_96 or_0_11 (Nat.le_of_ble_eq_true rfl) rfl rfl ?_
            refine tt_iload_n (q := 18) dX11_refuse_17 rfl rfl ?_
            refine tt_dup2 (q := 19) dX11_refuse_18 rfl rfl rfl ?_
            refine tt_iald (q := 20) dX11_refuse_19 ia_101 (Nat.le_of_ble_eq_true rfl) rfl (Nat.le_of_ble_eq_true rfl : 6 < 7) rfl ?_
            refine tt_iconst (q := 21) dX11_refuse_20 ki_1 rfl ?_
            refine tt_iadd (q := 22) dX11_refuse_21 rfl ?_
            refine tt_iast (q := 23) dX11_refuse_22 ia_101 (Nat.le_of_ble_eq_true rfl) rfl (Nat.le_of_ble_eq_true rfl : 6 < 7) rfl ?_
            replace h := h _ rfl
            refine tt_iload_n (q := 24) dX11_refuse_23 rfl rfl ?_
            refine tt_iret dX11_refuse_24 ⟨rfl, _, rfl, ?_⟩
            exact tt_iret dX11_locks_42 ⟨rfl, _, rfl, h⟩
        · replace h := h.2 c
          refine tt_bipush (q := 7) dX11_outside_5 bi_m4 rfl ?_
          refine tt_iret dX11_outside_7 ⟨rfl, _, rfl, ?_⟩
          refine sti_n_3 (q := 33) dX11_locks_32 rfl rfl rfl ?_
          refine tt_iload_n (q := 34) dX11_locks_33 rfl rfl ?_
          refine tt_if_eq (q := 37) (t := 43) dX11_locks_34 rfl rfl (fun c => absurd c (by decide)) (fun c => ?_)
          clear c
          refine tt_aload_n (q := 38) dX11_locks_37 rfl rfl ?_
          refine tt_iload_n (q := 39) dX11_locks_38 rfl rfl ?_
          refine callVi_1 (q := 42) dX11_locks_39 (Or.inl ⟨rfl, rfl, ⟨⟨_, _, rfl, rfl, (Nat.le_of_ble_eq_true rfl), rc_0⟩, Nat.le_of_ble_eq_true rfl, ?_⟩⟩) (Nat.le_of_ble_eq_true rfl) rfl (fun t79 r78 ht79 => ht79)
          refine (show TT cX11_refuse RX11 false CT0 CN0 _ _ _ none 0 [_, _, dum] [] _ _ from ?_)
          refine tt_iload_n (q := 1) dX11_refuse_0 rfl rfl ?_
          refine tt_inegE (v := nI 4) (q := 2) dX11_refuse_1 (by decide) rfl ?_
          refine sti_n_2 (q := 3) dX11_refuse_2 rfl rfl rfl ?_
          refine tt_iload_n (q := 4) dX11_refuse_3 rfl rfl ?_
          refine tt_if_le (q := 7) (t := 23) dX11_refuse_4 rfl rfl (fun c => absurd c (by decide)) (fun c => ?_)
          clear c
          refine tt_iload_n (q := 8) dX11_refuse_7 rfl rfl ?_
          refine tt_bipush (q := 10) dX11_refuse_8 bi_6 rfl ?_
          refine tt_icmp_gt (q := 13) (t := 23) dX11_refuse_10 rfl rfl (fun c => absurd c (by decide)) (fun c => ?_)
          clear c
          refine tt_aload_n (q := 14) dX11_refuse_13 rfl rfl ?_
          refine tt_getR (q := 17) dX11_refuse_14 fl_X11_96 or_0_11 (Nat.le_of_ble_eq_true rfl) rfl rfl ?_
          refine tt_iload_n (q := 18) dX11_refuse_17 rfl rfl ?_
          refine tt_dup2 (q := 19) dX11_refuse_18 rfl rfl rfl ?_
          refine tt_iald (q := 20) dX11_refuse_19 ia_101 (Nat.le_of_ble_eq_true rfl) rfl (Nat.le_of_ble_eq_true rfl : 4 < 7) rfl ?_
          refine tt_iconst (q := 21) dX11_refuse_20 ki_1 rfl ?_
          refine tt_iadd (q := 22) dX11_refuse_21 rfl ?_
          refine tt_iast (q := 23) dX11_refuse_22 ia_101 (Nat.le_of_ble_eq_true rfl) rfl (Nat.le_of_ble_eq_true rfl : 4 < 7) rfl ?_
          replace h := h _ rfl
          refine tt_iload_n (q := 24) dX11_refuse_23 rfl rfl ?_
          refine tt_iret dX11_refuse_24 ⟨rfl, _, rfl, ?_⟩
          exact tt_iret dX11_locks_42 ⟨rfl, _, rfl, h⟩
    · replace h := h.2 c
      refine tt_aload_n (q := 10) dX11_locks_9 rfl rfl ?_
      refine tt_bipush (q := 12) dX11_locks_10 bi_m2 rfl ?_
      refine callVi_1 (q := 15) dX11_locks_12 (Or.inl ⟨rfl, rfl, ⟨⟨_, _, rfl, rfl, (Nat.le_of_ble_eq_true rfl), rc_0⟩, Nat.le_of_ble_eq_true rfl, ?_⟩⟩) (Nat.le_of_ble_eq_true rfl) rfl (fun t82 r81 ht82 => ht82)
      refine (show TT cX11_refuse RX11 false CT0 CN0 _ _ _ none 0 [_, _, dum] [] _ _ from ?_)
      refine tt_iload_n (q := 1) dX11_refuse_0 rfl rfl ?_
      refine tt_inegE (v := nI 2) (q := 2) dX11_refuse_1 (by decide) rfl ?_
      refine sti_n_2 (q := 3) dX11_refuse_2 rfl rfl rfl ?_
      refine tt_iload_n (q := 4) dX11_refuse_3 rfl rfl ?_
      refine tt_if_le (q := 7) (t := 23) dX11_refuse_4 rfl rfl (fun c => absurd c (by decide)) (fun c => ?_)
      clear c
      refine tt_iload_n (q := 8) dX11_refuse_7 rfl rfl ?_
      refine tt_bipush (q := 10) dX11_refuse_8 bi_6 rfl ?_
      refine tt_icmp_gt (q := 13) (t := 23) dX11_refuse_10 rfl rfl (fun c => absurd c (by decide)) (fun c => ?_)
      clear c
      refine tt_aload_n (q := 14) dX11_refuse_13 rfl rfl ?_
      refine tt_getR (q := 17) dX11_refuse_14 fl_X11_96 or_0_11 (Nat.le_of_ble_eq_true rfl) rfl rfl ?_
      refine tt_iload_n (q := 18) dX11_refuse_17 rfl rfl ?_
      refine tt_dup2 (q := 19) dX11_refuse_18 rfl rfl rfl ?_
      refine tt_iald (q := 20) dX11_refuse_19 ia_101 (Nat.le_of_ble_eq_true rfl) rfl (Nat.le_of_ble_eq_true rfl : 2 < 7) rfl ?_
      refine tt_iconst (q := 21) dX11_refuse_20 ki_1 rfl ?_
      refine tt_iadd (q := 22) dX11_refuse_21 rfl ?_
      refine tt_iast (q := 23) dX11_refuse_22 ia_101 (Nat.le_of_ble_eq_true rfl) rfl (Nat.le_of_ble_eq_true rfl : 2 < 7) rfl ?_
      replace h := h _ rfl
      refine tt_iload_n (q := 24) dX11_refuse_23 rfl rfl ?_
      refine tt_iret dX11_refuse_24 ⟨rfl, _, rfl, ?_⟩
      exact tt_iret dX11_locks_15 ⟨rfl, _, rfl, h⟩

theorem g_X11_kind_0 {post : SG → Int32 → Prop} {σ : SG} {a : Int32} {b : Int32} (h : ((a < 0 → (∀ s6 : SG, s6 = up σ 101 1 ((σ 101 1) + (nI 1)) → post s6 (-1 : Int32))) ∧ (¬ a < 0 → (((σ 36 0) ≤ a → (∀ s10 : SG, s10 = up σ 101 1 ((σ 101 1) + (nI 1)) → post s10 (-1 : Int32))) ∧ (¬ (σ 36 0) ≤ a → ((b < 0 → post σ (-9 : Int32)) ∧ (¬ b < 0 → (∃ j15 : Nat, a = nI j15 ∧ j15 < 10 ∧ (((σ 37 j15) ≤ b → post σ (-9 : Int32)) ∧ (¬ (σ 37 j15) ≤ b → (∃ j19 : Nat, a = nI j19 ∧ j19 < 10 ∧ (∃ j22 : Nat, b = nI j22 ∧ j22 < 8 ∧ ((b ≤ 0 → post σ (nI 0)) ∧ (¬ b ≤ 0 → (∃ j30 : Nat, a = nI j30 ∧ j30 < 10 ∧ (∃ j33 : Nat, (b - (nI 1)) = nI j33 ∧ j33 < 8 ∧ ((¬ (σ (38 + 1 + j30) j33) = (-9 : Int32) → ((¬ (σ (38 + 1 + j30) j33) = ((σ (38 + 1 + j19) j22) ^^^ (nI 1)) → (∃ j40 : Nat, ((σ (38 + 1 + j30) j33) >>> ((nI 1) &&& 31)) = nI j40 ∧ j40 < 6 ∧ (∃ j43 : Nat, ((σ (38 + 1 + j19) j22) >>> ((nI 1) &&& 31)) = nI j43 ∧ j43 < 6 ∧ ((0 ≤ (σ (65 + 1 + j40) j43) → (((σ (65 + 1 + j40) j43) ≤ 0 → post σ (nI 0)) ∧ (¬ (σ (65 + 1 + j40) j43) ≤ 0 → post σ (nI 2)))) ∧ (¬ 0 ≤ (σ (65 + 1 + j40) j43) → post σ (nI 1)))))) ∧ ((σ (38 + 1 + j30) j33) = ((σ (38 + 1 + j19) j22) ^^^ (nI 1)) → post σ (nI 3)))) ∧ ((σ (38 + 1 + j30) j33) = (-9 : Int32) → post σ (nI 0))))))))))))))))))) : T_X11_kind AF post 0 [.ref 0, .int a, .int b] [] σ := by
  refine tt_aload_n (q := 1) dX11_kind_0 rfl rfl ?_
  refine tt_getR (q := 4) dX11_kind_1 fl_X11_37 or_0_3 (Nat.le_of_ble_eq_true rfl) rfl rfl ?_
  refine tt_iload_n (q := 5) dX11_kind_4 rfl rfl ?_
  refine callVi_1 (q := 8) dX11_kind_5 (Or.inl ⟨rfl, rfl, ⟨⟨_, _, rfl, rfl, (Nat.le_of_ble_eq_true rfl), rc_36⟩, Nat.le_of_ble_eq_true rfl, ?_⟩⟩) (Nat.le_of_ble_eq_true rfl) rfl (fun t2 r1 ht2 => ht2)
  refine (show TT cX5_has RX5 false CT0 CN0 _ _ _ none 0 [_, _] [] _ _ from ?_)
  refine tt_iload_n (q := 1) dX5_has_0 rfl rfl ?_
  refine tt_if_lt (q := 4) (t := 16) dX5_has_1 rfl rfl (fun c => ?_) (fun c => ?_)
  · replace h := h.1 c
    refine tt_iconst (q := 17) dX5_has_16 ki_0 rfl ?_
    refine tt_iret dX5_has_17 ⟨rfl, _, rfl, Or.inl nI_0, ?_⟩
    refine tt_if_ne (q := 11) (t := 17) dX11_kind_8 rfl rfl (fun c => absurd c (by decide)) (fun c => ?_)
    clear c
    refine tt_aload_n (q := 12) dX11_kind_11 rfl rfl ?_
    refine tt_iconst (q := 13) dX11_kind_12 ki_m1 rfl ?_
    refine callVi_1 (q := 16) dX11_kind_13 (Or.inr (Or.inl ⟨rfl, rfl, ⟨⟨_, _, rfl, rfl, (Nat.le_of_ble_eq_true rfl), rc_0⟩, Nat.le_of_ble_eq_true rfl, ?_⟩⟩)) (Nat.le_of_ble_eq_true rfl) rfl (fun t5 r4 ht5 => ht5)
    refine (show TT cX11_refuse RX11 false CT0 CN0 _ _ _ none 0 [_, _, dum] [] _ _ from ?_)
    refine tt_iload_n (q := 1) dX11_refuse_0 rfl rfl ?_
    refine tt_inegE (v := nI 1) (q := 2) dX11_refuse_1 (by decide) rfl ?_
    refine sti_n_2 (q := 3) dX11_refuse_2 rfl rfl rfl ?_
    refine tt_iload_n (q := 4) dX11_refuse_3 rfl rfl ?_
    refine tt_if_le (q := 7) (t := 23) dX11_refuse_4 rfl rfl (fun c => absurd c (by decide)) (fun c => ?_)
    clear c
    refine tt_iload_n (q := 8) dX11_refuse_7 rfl rfl ?_
    refine tt_bipush (q := 10) dX11_refuse_8 bi_6 rfl ?_
    refine tt_icmp_gt (q := 13) (t := 23) dX11_refuse_10 rfl rfl (fun c => absurd c (by decide)) (fun c => ?_)
    clear c
    refine tt_aload_n (q := 14) dX11_refuse_13 rfl rfl ?_
    refine tt_getR (q := 17) dX11_refuse_14 fl_X11_96 or_0_11 (Nat.le_of_ble_eq_true rfl) rfl rfl ?_
    refine tt_iload_n (q := 18) dX11_refuse_17 rfl rfl ?_
    refine tt_dup2 (q := 19) dX11_refuse_18 rfl rfl rfl ?_
    refine tt_iald (q := 20) dX11_refuse_19 ia_101 (Nat.le_of_ble_eq_true rfl) rfl (Nat.le_of_ble_eq_true rfl : 1 < 7) rfl ?_
    refine tt_iconst (q := 21) dX11_refuse_20 ki_1 rfl ?_
    refine tt_iadd (q := 22) dX11_refuse_21 rfl ?_
    refine tt_iast (q := 23) dX11_refuse_22 ia_101 (Nat.le_of_ble_eq_true rfl) rfl (Nat.le_of_ble_eq_true rfl : 1 < 7) rfl ?_
    replace h := h _ rfl
    refine tt_iload_n (q := 24) dX11_refuse_23 rfl rfl ?_
    refine tt_iret dX11_refuse_24 ⟨rfl, _, rfl, ?_⟩
    exact tt_iret dX11_kind_16 ⟨rfl, _, rfl, h⟩
  · replace h := h.2 c
    refine tt_iload_n (q := 5) dX5_has_4 rfl rfl ?_
    refine tt_aload_n (q := 6) dX5_has_5 rfl rfl ?_
    refine tt_getI (q := 9) dX5_has_6 fl_X5_34 oi_36_0 (Nat.le_of_ble_eq_true rfl) rfl ?_
    refine tt_icmp_ge (q := 12) (t := 16) dX5_has_9 rfl rfl (fun c => ?_) (fun c => ?_)
    · replace h := h.1 c
      refine tt_iconst (q := 17) dX5_has_16 ki_0 rfl ?_
      refine tt_iret dX5_has_17 ⟨rfl, _, rfl, Or.inl nI_0, ?_⟩
      refine tt_if_ne (q := 11) (t := 17) dX11_kind_8 rfl rfl (fun c => absurd c (by decide)) (fun c => ?_)
      clear c
      refine tt_aload_n (q := 12) dX11_kind_11 rfl rfl ?_
      refine tt_iconst (q := 13) dX11_kind_12 ki_m1 rfl ?_
      refine callVi_1 (q := 16) dX11_kind_13 (Or.inr (Or.inl ⟨rfl, rfl, ⟨⟨_, _, rfl, rfl, (Nat.le_of_ble_eq_true rfl), rc_0⟩, Nat.le_of_ble_eq_true rfl, ?_⟩⟩)) (Nat.le_of_ble_eq_true rfl) rfl (fun t9 r8 ht9 => ht9)
      refine (show TT cX11_refuse RX11 false CT0 CN0 _ _ _ none 0 [_, _, dum] [] _ _ from ?_)
      refine tt_iload_n (q := 1) dX11_refuse_0 rfl rfl ?_
      refine tt_inegE (v := nI 1) (q := 2) dX11_refuse_1 (by decide) rfl ?_
      refine sti_n_2 (q := 3) dX11_refuse_2 rfl rfl rfl ?_
      refine tt_iload_n (q := 4) dX11_refuse_3 rfl rfl ?_
      refine tt_if_le (q := 7) (t := 23) dX11_refuse_4 rfl rfl (fun c => absurd c (by decide)) (fun c => ?_)
      clear c
      refine tt_iload_n (q := 8) dX11_refuse_7 rfl rfl ?_
      refine tt_bipush (q := 10) dX11_refuse_8 bi_6 rfl ?_
      refine tt_icmp_gt (q := 13) (t := 23) dX11_refuse_10 rfl rfl (fun c => absurd c (by decide)) (fun c => ?_)
      clear c
      refine tt_aload_n (q := 14) dX11_refuse_13 rfl rfl ?_
      refine tt_getR (q := 17) dX11_refuse_14 fl_X11_96 or_0_11 (Nat.le_of_ble_eq_true rfl) rfl rfl ?_
      refine tt_iload_n (q := 18) dX11_refuse_17 rfl rfl ?_
      refine tt_dup2 (q := 19) dX11_refuse_18 rfl rfl rfl ?_
      refine tt_iald (q := 20) dX11_refuse_19 ia_101 (Nat.le_of_ble_eq_true rfl) rfl (Nat.le_of_ble_eq_true rfl : 1 < 7) rfl ?_
      refine tt_iconst (q := 21) dX11_refuse_20 ki_1 rfl ?_
      refine tt_iadd (q := 22) dX11_refuse_21 rfl ?_
      refine tt_iast (q := 23) dX11_refuse_22 ia_101 (Nat.le_of_ble_eq_true rfl) rfl (Nat.le_of_ble_eq_true rfl : 1 < 7) rfl ?_
      replace h := h _ rfl
      refine tt_iload_n (q := 24) dX11_refuse_23 rfl rfl ?_
      refine tt_iret dX11_refuse_24 ⟨rfl, _, rfl, ?_⟩
      exact tt_iret dX11_kind_16 ⟨rfl, _, rfl, h⟩
    · replace h := h.2 c
      refine tt_iconst (q := 13) dX5_has_12 ki_1 rfl ?_
      refine tt_goto (t := 17) dX5_has_13 rfl ?_
      refine tt_iret dX5_has_17 ⟨rfl, _, rfl, Or.inr rfl, ?_⟩
      refine tt_if_ne (q := 11) (t := 17) dX11_kind_8 rfl rfl (fun c => ?_) (fun c => absurd c (by decide))
      clear c
      refine tt_aload_n (q := 18) dX11_kind_17 rfl rfl ?_
      refine tt_getR (q := 21) dX11_kind_18 fl_X11_37 or_0_3 (Nat.le_of_ble_eq_true rfl) rfl rfl ?_
      refine tt_iload_n (q := 22) dX11_kind_21 rfl rfl ?_
      refine tt_iload_n (q := 23) dX11_kind_22 rfl rfl ?_
      refine callVi_2 (q := 26) dX11_kind_23 (Or.inr (Or.inr (Or.inl ⟨rfl, rfl, ⟨⟨_, _, rfl, rfl, (Nat.le_of_ble_eq_true rfl), rc_36⟩, Nat.le_of_ble_eq_true rfl, ?_⟩⟩))) (Nat.le_of_ble_eq_true rfl) rfl (fun t12 r11 ht12 => ht12)
      refine (show TT cX5_hasMove RX5 false CT0 CN0 _ _ _ none 0 [_, _, _] [] _ _ from ?_)
      refine tt_iload_n (q := 1) dX5_hasMove_0 rfl rfl ?_
      refine tt_if_lt (q := 4) (t := 18) dX5_hasMove_1 rfl rfl (fun c => ?_) (fun c => ?_)
      · replace h := h.1 c
        refine tt_iconst (q := 19) dX5_hasMove_18 ki_0 rfl ?_
        refine tt_iret dX5_hasMove_19 ⟨rfl, _, rfl, Or.inl nI_0, ?_⟩
        refine tt_if_eq (q := 29) (t := 59) dX11_kind_26 rfl rfl (fun c => ?_) (fun c => absurd c (by decide))
        clear c
        refine tt_bipush (q := 61) dX11_kind_59 bi_m9 rfl ?_
        exact tt_iret dX11_kind_61 ⟨rfl, _, rfl, h⟩
      · replace h := h.2 c
        refine tt_iload_n (q := 5) dX5_hasMove_4 rfl rfl ?_
        refine tt_aload_n (q := 6) dX5_hasMove_5 rfl rfl ?_
        refine tt_getR (q := 9) dX5_hasMove_6 fl_X5_9 or_36_1 (Nat.le_of_ble_eq_true rfl) rfl rfl ?_
        refine tt_iload_n (q := 10) dX5_hasMove_9 rfl rfl ?_
        obtain ⟨j15, e16, l14, h⟩ := h
        refine tt_iald (q := 11) dX5_hasMove_10 ia_37 (Nat.le_of_ble_eq_true rfl) e16 l14 rfl ?_
        refine tt_icmp_ge (q := 14) (t := 18) dX5_hasMove_11 rfl rfl (fun c => ?_) (fun c => ?_)
        · replace h := h.1 c
          refine tt_iconst (q := 19) dX5_hasMove_18 ki_0 rfl ?_
          refine tt_iret dX5_hasMove_19 ⟨rfl, _, rfl, Or.inl nI_0, ?_⟩
          refine tt_if_eq (q := 29) (t := 59) dX11_kind_26 rfl rfl (fun c => ?_) (fun c => absurd c (by decide))
          clear c
          refine tt_bipush (q := 61) dX11_kind_59 bi_m9 rfl ?_
          exact tt_iret dX11_kind_61 ⟨rfl, _, rfl, h⟩
        · replace h := h.2 c
          refine tt_iconst (q := 15) dX5_hasMove_14 ki_1 rfl ?_
          refine tt_goto (t := 19) dX5_hasMove_15 rfl ?_
          refine tt_iret dX5_hasMove_19 ⟨rfl, _, rfl, Or.inr rfl, ?_⟩
          refine tt_if_eq (q := 29) (t := 59) dX11_kind_26 rfl rfl (fun c => absurd c (by decide)) (fun c => ?_)
          clear c
          refine tt_aload_n (q := 30) dX11_kind_29 rfl rfl ?_
          refine tt_getR (q := 33) dX11_kind_30 fl_X11_44 or_0_4 (Nat.le_of_ble_eq_true rfl) rfl rfl ?_
          refine tt_aload_n (q := 34) dX11_kind_33 rfl rfl ?_
          refine tt_getR (q := 37) dX11_kind_34 fl_X11_37 or_0_3 (Nat.le_of_ble_eq_true rfl) rfl rfl ?_
          refine tt_getR (q := 40) dX11_kind_37 fl_X11_138 or_36_2 (Nat.le_of_ble_eq_true rfl) rfl rfl ?_
          refine tt_iload_n (q := 41) dX11_kind_40 rfl rfl ?_
          obtain ⟨j19, e20, l18, h⟩ := h
          refine tt_aald (q := 42) dX11_kind_41 ig_38 (Nat.le_of_ble_eq_true rfl) e20 l18 rfl ?_
          refine tt_iload_n (q := 43) dX11_kind_42 rfl rfl ?_
          obtain ⟨j22, e23, l21, h⟩ := h
          refine tt_iald (q := 44) dX11_kind_43 (gi_38 _ l18) (gl_38 _ l18) e23 l21 rfl ?_
          refine tt_aload_n (q := 45) dX11_kind_44 rfl rfl ?_
          refine tt_getR (q := 48) dX11_kind_45 fl_X11_37 or_0_3 (Nat.le_of_ble_eq_true rfl) rfl rfl ?_
          refine tt_iload_n (q := 49) dX11_kind_48 rfl rfl ?_
          refine tt_iload_n (q := 50) dX11_kind_49 rfl rfl ?_
          refine callVi_2 (q := 53) dX11_kind_50 (Or.inr (Or.inr (Or.inr (Or.inl ⟨rfl, rfl, ⟨⟨_, _, rfl, rfl, (Nat.le_of_ble_eq_true rfl), rc_36⟩, Nat.le_of_ble_eq_true rfl, ?_⟩⟩)))) (Nat.le_of_ble_eq_true rfl) rfl (fun t25 r24 ht25 => ht25)
          refine (show TT cX5_ahead RX5 false CT0 CN0 _ _ _ none 0 [_, _, _] [] _ _ from ?_)
          refine tt_iload_n (q := 1) dX5_ahead_0 rfl rfl ?_
          refine tt_if_le (q := 4) (t := 17) dX5_ahead_1 rfl rfl (fun c => ?_) (fun c => ?_)
          · replace h := h.1 c
            refine tt_bipush (q := 19) dX5_ahead_17 bi_m9 rfl ?_
            refine tt_iret dX5_ahead_19 ⟨rfl, _, rfl, ?_⟩
            refine callVi_2 (q := 56) dX11_kind_53 (Or.inr (Or.inr (Or.inr (Or.inr (⟨rfl, rfl, ⟨⟨_, _, rfl, rfl, (Nat.le_of_ble_eq_true rfl), rc_61⟩, Nat.le_of_ble_eq_true rfl, ?_⟩⟩))))) (Nat.le_of_ble_eq_true rfl) rfl (fun t28 r27 ht28 => ht28)
            refine (show TT cX2_kindOf RX2 false CT0 CN0 _ _ _ none 0 [_, _, _, dum] [] _ _ from ?_)
            refine tt_iload_n (q := 1) dX2_kindOf_0 rfl rfl ?_
            refine tt_bipush (q := 3) dX2_kindOf_1 bi_m9 rfl ?_
            refine tt_icmp_ne (q := 6) (t := 8) dX2_kindOf_3 rfl rfl (fun c => absurd c (by decide)) (fun c => ?_)
            clear c
            refine tt_iconst (q := 7) dX2_kindOf_6 ki_0 rfl ?_
            refine tt_iret dX2_kindOf_7 ⟨rfl, _, rfl, ?_⟩
            refine tt_goto (t := 61) dX11_kind_56 rfl ?_
            exact tt_iret dX11_kind_61 ⟨rfl, _, rfl, h⟩
          · replace h := h.2 c
            refine tt_aload_n (q := 5) dX5_ahead_4 rfl rfl ?_
            refine tt_getR (q := 8) dX5_ahead_5 fl_X5_17 or_36_2 (Nat.le_of_ble_eq_true rfl) rfl rfl ?_
            refine tt_iload_n (q := 9) dX5_ahead_8 rfl rfl ?_
            obtain ⟨j30, e31, l29, h⟩ := h
            refine tt_aald (q := 10) dX5_ahead_9 ig_38 (Nat.le_of_ble_eq_true rfl) e31 l29 rfl ?_
            refine tt_iload_n (q := 11) dX5_ahead_10 rfl rfl ?_
            refine tt_iconst (q := 12) dX5_ahead_11 ki_1 rfl ?_
            refine tt_isub (q := 13) dX5_ahead_12 rfl ?_
            obtain ⟨j33, e34, l32, h⟩ := h
            refine tt_iald (q := 14) dX5_ahead_13 (gi_38 _ l29) (gl_38 _ l29) e34 l32 rfl ?_
            refine tt_goto (t := 19) dX5_ahead_14 rfl ?_
            refine tt_iret dX5_ahead_19 ⟨rfl, _, rfl, ?_⟩
            refine callVi_2 (q := 56) dX11_kind_53 (Or.inr (Or.inr (Or.inr (Or.inr (⟨rfl, rfl, ⟨⟨_, _, rfl, rfl, (Nat.le_of_ble_eq_true rfl), rc_61⟩, Nat.le_of_ble_eq_true rfl, ?_⟩⟩))))) (Nat.le_of_ble_eq_true rfl) rfl (fun t36 r35 ht36 => ht36)
            refine (show TT cX2_kindOf RX2 false CT0 CN0 _ _ _ none 0 [_, _, _, dum] [] _ _ from ?_)
            refine tt_iload_n (q := 1) dX2_kindOf_0 rfl rfl ?_
            refine tt_bipush (q := 3) dX2_kindOf_1 bi_m9 rfl ?_
            refine tt_icmp_ne (q := 6) (t := 8) dX2_kindOf_3 rfl rfl (fun c => ?_) (fun c => ?_)
            · replace h := h.1 c
              refine tt_iload_n (q := 9) dX2_kindOf_8 rfl rfl ?_
              refine tt_iload_n (q := 10) dX2_kindOf_9 rfl rfl ?_
              refine tt_iconst (q := 11) dX2_kindOf_10 ki_1 rfl ?_
              refine tt_ixor (q := 12) dX2_kindOf_11 rfl ?_
              refine tt_icmp_ne (q := 15) (t := 17) dX2_kindOf_12 rfl rfl (fun c => ?_) (fun c => ?_)
              · replace h := h.1 c
                refine tt_aload_n (q := 18) dX2_kindOf_17 rfl rfl ?_
                refine tt_getR (q := 21) dX2_kindOf_18 fl_X2_16 or_61_1 (Nat.le_of_ble_eq_true rfl) rfl rfl ?_
                refine tt_iload_n (q := 22) dX2_kindOf_21 rfl rfl ?_
                refine tt_iconst (q := 23) dX2_kindOf_22 ki_1 rfl ?_
                refine tt_ishr (q := 24) dX2_kindOf_23 rfl ?_
                obtain ⟨j40, e41, l39, h⟩ := h
                refine tt_aald (q := 25) dX2_kindOf_24 ig_65 (Nat.le_of_ble_eq_true rfl) e41 l39 rfl ?_
                refine tt_iload_n (q := 26) dX2_kindOf_25 rfl rfl ?_
                refine tt_iconst (q := 27) dX2_kindOf_26 ki_1 rfl ?_
                refine tt_ishr (q := 28) dX2_kindOf_27 rfl ?_
                obtain ⟨j43, e44, l42, h⟩ := h
                refine tt_iald (q := 29) dX2_kindOf_28 (gi_65 _ l39) (gl_65 _ l39) e44 l42 rfl ?_
                refine sti_n_3 (q := 30) dX2_kindOf_29 rfl rfl rfl ?_
                refine tt_iload_n (q := 31) dX2_kindOf_30 rfl rfl ?_
                refine tt_if_ge (q := 34) (t := 36) dX2_kindOf_31 rfl rfl (fun c => ?_) (fun c => ?_)
                · replace h := h.1 c
                  refine tt_iload_n (q := 37) dX2_kindOf_36 rfl rfl ?_
                  refine tt_if_le (q := 40) (t := 44) dX2_kindOf_37 rfl rfl (fun c => ?_) (fun c => ?_)
                  · replace h := h.1 c
                    refine tt_iconst (q := 45) dX2_kindOf_44 ki_0 rfl ?_
                    refine tt_iret dX2_kindOf_45 ⟨rfl, _, rfl, ?_⟩
                    refine tt_goto (t := 61) dX11_kind_56 rfl ?_
                    exact tt_iret dX11_kind_61 ⟨rfl, _, rfl, h⟩
                  · replace h := h.2 c
                    refine tt_iconst (q := 41) dX2_kindOf_40 ki_2 rfl ?_
                    refine tt_goto (t := 45) dX2_kindOf_41 rfl ?_
                    refine tt_iret dX2_kindOf_45 ⟨rfl, _, rfl, ?_⟩
                    refine tt_goto (t := 61) dX11_kind_56 rfl ?_
                    exact tt_iret dX11_kind_61 ⟨rfl, _, rfl, h⟩
                · replace h := h.2 c
                  refine tt_iconst (q := 35) dX2_kindOf_34 ki_1 rfl ?_
                  refine tt_iret dX2_kindOf_35 ⟨rfl, _, rfl, ?_⟩
                  refine tt_goto (t := 61) dX11_kind_56 rfl ?_
                  exact tt_iret dX11_kind_61 ⟨rfl, _, rfl, h⟩
              · replace h := h.2 c
                refine tt_iconst (q := 16) dX2_kindOf_15 ki_3 rfl ?_
                refine tt_iret dX2_kindOf_16 ⟨rfl, _, rfl, ?_⟩
                refine tt_goto (t := 61) dX11_kind_56 rfl ?_
                exact tt_iret dX11_kind_61 ⟨rfl, _, rfl, h⟩
            · replace h := h.2 c
              refine tt_iconst (q := 7) dX2_kindOf_6 ki_0 rfl ?_
              refine tt_iret dX2_kindOf_7 ⟨rfl, _, rfl, ?_⟩
              refine tt_goto (t := 61) dX11_kind_56 rfl ?_
              exact tt_iret dX11_kind_61 ⟨rfl, _, rfl, h⟩

theorem g_X11_seconds_0 {post : SG → Int32 → Prop} {σ : SG} {a : Int32} (h : ((a < 0 → (∀ s6 : SG, s6 = up σ 101 1 ((σ 101 1) + (nI 1)) → post s6 (-1 : Int32))) ∧ (¬ a < 0 → (((σ 36 0) ≤ a → (∀ s10 : SG, s10 = up σ 101 1 ((σ 101 1) + (nI 1)) → post s10 (-1 : Int32))) ∧ (¬ (σ 36 0) ≤ a → (∃ p13 : SG → Int32 → Prop, IN_X2_rowTime AF σ [.ref 61, .ref 36, .int a] p13 ∧ ∀ (t12 : SG) (r11 : Int32), p13 t12 r11 → post t12 r11)))))) : T_X11_seconds AF post 0 [.ref 0, .int a] [] σ := by
  refine tt_aload_n (q := 1) dX11_seconds_0 rfl rfl ?_
  refine tt_getR (q := 4) dX11_seconds_1 fl_X11_37 or_0_3 (Nat.le_of_ble_eq_true rfl) rfl rfl ?_
  refine tt_iload_n (q := 5) dX11_seconds_4 rfl rfl ?_
  refine callVi_1 (q := 8) dX11_seconds_5 (Or.inl ⟨rfl, rfl, ⟨⟨_, _, rfl, rfl, (Nat.le_of_ble_eq_true rfl), rc_36⟩, Nat.le_of_ble_eq_true rfl, ?_⟩⟩) (Nat.le_of_ble_eq_true rfl) rfl (fun t2 r1 ht2 => ht2)
  refine (show TT cX5_has RX5 false CT0 CN0 _ _ _ none 0 [_, _] [] _ _ from ?_)
  refine tt_iload_n (q := 1) dX5_has_0 rfl rfl ?_
  refine tt_if_lt (q := 4) (t := 16) dX5_has_1 rfl rfl (fun c => ?_) (fun c => ?_)
  · replace h := h.1 c
    refine tt_iconst (q := 17) dX5_has_16 ki_0 rfl ?_
    refine tt_iret dX5_has_17 ⟨rfl, _, rfl, Or.inl nI_0, ?_⟩
    refine tt_if_ne (q := 11) (t := 17) dX11_seconds_8 rfl rfl (fun c => absurd c (by decide)) (fun c => ?_)
    clear c
    refine tt_aload_n (q := 12) dX11_seconds_11 rfl rfl ?_
    refine tt_iconst (q := 13) dX11_seconds_12 ki_m1 rfl ?_
    refine callVi_1 (q := 16) dX11_seconds_13 (Or.inr (Or.inl ⟨rfl, rfl, ⟨⟨_, _, rfl, rfl, (Nat.le_of_ble_eq_true rfl), rc_0⟩, Nat.le_of_ble_eq_true rfl, ?_⟩⟩)) (Nat.le_of_ble_eq_true rfl) rfl (fun t5 r4 ht5 => ht5)
    refine (show TT cX11_refuse RX11 false CT0 CN0 _ _ _ none 0 [_, _, dum] [] _ _ from ?_)
    refine tt_iload_n (q := 1) dX11_refuse_0 rfl rfl ?_
    refine tt_inegE (v := nI 1) (q := 2) dX11_refuse_1 (by decide) rfl ?_
    refine sti_n_2 (q := 3) dX11_refuse_2 rfl rfl rfl ?_
    refine tt_iload_n (q := 4) dX11_refuse_3 rfl rfl ?_
    refine tt_if_le (q := 7) (t := 23) dX11_refuse_4 rfl rfl (fun c => absurd c (by decide)) (fun c => ?_)
    clear c
    refine tt_iload_n (q := 8) dX11_refuse_7 rfl rfl ?_
    refine tt_bipush (q := 10) dX11_refuse_8 bi_6 rfl ?_
    refine tt_icmp_gt (q := 13) (t := 23) dX11_refuse_10 rfl rfl (fun c => absurd c (by decide)) (fun c => ?_)
    clear c
    refine tt_aload_n (q := 14) dX11_refuse_13 rfl rfl ?_
    refine tt_getR (q := 17) dX11_refuse_14 fl_X11_96 or_0_11 (Nat.le_of_ble_eq_true rfl) rfl rfl ?_
    refine tt_iload_n (q := 18) dX11_refuse_17 rfl rfl ?_
    refine tt_dup2 (q := 19) dX11_refuse_18 rfl rfl rfl ?_
    refine tt_iald (q := 20) dX11_refuse_19 ia_101 (Nat.le_of_ble_eq_true rfl) rfl (Nat.le_of_ble_eq_true rfl : 1 < 7) rfl ?_
    refine tt_iconst (q := 21) dX11_refuse_20 ki_1 rfl ?_
    refine tt_iadd (q := 22) dX11_refuse_21 rfl ?_
    refine tt_iast (q := 23) dX11_refuse_22 ia_101 (Nat.le_of_ble_eq_true rfl) rfl (Nat.le_of_ble_eq_true rfl : 1 < 7) rfl ?_
    replace h := h _ rfl
    refine tt_iload_n (q := 24) dX11_refuse_23 rfl rfl ?_
    refine tt_iret dX11_refuse_24 ⟨rfl, _, rfl, ?_⟩
    exact tt_iret dX11_seconds_16 ⟨rfl, _, rfl, h⟩
  · replace h := h.2 c
    refine tt_iload_n (q := 5) dX5_has_4 rfl rfl ?_
    refine tt_aload_n (q := 6) dX5_has_5 rfl rfl ?_
    refine tt_getI (q := 9) dX5_has_6 fl_X5_34 oi_36_0 (Nat.le_of_ble_eq_true rfl) rfl ?_
    refine tt_icmp_ge (q := 12) (t := 16) dX5_has_9 rfl rfl (fun c => ?_) (fun c => ?_)
    · replace h := h.1 c
      refine tt_iconst (q := 17) dX5_has_16 ki_0 rfl ?_
      refine tt_iret dX5_has_17 ⟨rfl, _, rfl, Or.inl nI_0, ?_⟩
      refine tt_if_ne (q := 11) (t := 17) dX11_seconds_8 rfl rfl (fun c => absurd c (by decide)) (fun c => ?_)
      clear c
      refine tt_aload_n (q := 12) dX11_seconds_11 rfl rfl ?_
      refine tt_iconst (q := 13) dX11_seconds_12 ki_m1 rfl ?_
      refine callVi_1 (q := 16) dX11_seconds_13 (Or.inr (Or.inl ⟨rfl, rfl, ⟨⟨_, _, rfl, rfl, (Nat.le_of_ble_eq_true rfl), rc_0⟩, Nat.le_of_ble_eq_true rfl, ?_⟩⟩)) (Nat.le_of_ble_eq_true rfl) rfl (fun t9 r8 ht9 => ht9)
      refine (show TT cX11_refuse RX11 false CT0 CN0 _ _ _ none 0 [_, _, dum] [] _ _ from ?_)
      refine tt_iload_n (q := 1) dX11_refuse_0 rfl rfl ?_
      refine tt_inegE (v := nI 1) (q := 2) dX11_refuse_1 (by decide) rfl ?_
      refine sti_n_2 (q := 3) dX11_refuse_2 rfl rfl rfl ?_
      refine tt_iload_n (q := 4) dX11_refuse_3 rfl rfl ?_
      refine tt_if_le (q := 7) (t := 23) dX11_refuse_4 rfl rfl (fun c => absurd c (by decide)) (fun c => ?_)
      clear c
      refine tt_iload_n (q := 8) dX11_refuse_7 rfl rfl ?_
      refine tt_bipush (q := 10) dX11_refuse_8 bi_6 rfl ?_
      refine tt_icmp_gt (q := 13) (t := 23) dX11_refuse_10 rfl rfl (fun c => absurd c (by decide)) (fun c => ?_)
      clear c
      refine tt_aload_n (q := 14) dX11_refuse_13 rfl rfl ?_
      refine tt_getR (q := 17) dX11_refuse_14 fl_X11_96 or_0_11 (Nat.le_of_ble_eq_true rfl) rfl rfl ?_
      refine tt_iload_n (q := 18) dX11_refuse_17 rfl rfl ?_
      refine tt_dup2 (q := 19) dX11_refuse_18 rfl rfl rfl ?_
      refine tt_iald (q := 20) dX11_refuse_19 ia_101 (Nat.le_of_ble_eq_true rfl) rfl (Nat.le_of_ble_eq_true rfl : 1 < 7) rfl ?_
      refine tt_iconst (q := 21) dX11_refuse_20 ki_1 rfl ?_
      refine tt_iadd (q := 22) dX11_refuse_21 rfl ?_
      refine tt_iast (q := 23) dX11_refuse_22 ia_101 (Nat.le_of_ble_eq_true rfl) rfl (Nat.le_of_ble_eq_true rfl : 1 < 7) rfl ?_
      replace h := h _ rfl
      refine tt_iload_n (q := 24) dX11_refuse_23 rfl rfl ?_
      refine tt_iret dX11_refuse_24 ⟨rfl, _, rfl, ?_⟩
      exact tt_iret dX11_seconds_16 ⟨rfl, _, rfl, h⟩
    · replace h := h.2 c
      refine tt_iconst (q := 13) dX5_has_12 ki_1 rfl ?_
      refine tt_goto (t := 17) dX5_has_13 rfl ?_
      refine tt_iret dX5_has_17 ⟨rfl, _, rfl, Or.inr rfl, ?_⟩
      refine tt_if_ne (q := 11) (t := 17) dX11_seconds_8 rfl rfl (fun c => ?_) (fun c => absurd c (by decide))
      clear c
      refine tt_aload_n (q := 18) dX11_seconds_17 rfl rfl ?_
      refine tt_getR (q := 21) dX11_seconds_18 fl_X11_44 or_0_4 (Nat.le_of_ble_eq_true rfl) rfl rfl ?_
      refine tt_aload_n (q := 22) dX11_seconds_21 rfl rfl ?_
      refine tt_getR (q := 25) dX11_seconds_22 fl_X11_37 or_0_3 (Nat.le_of_ble_eq_true rfl) rfl rfl ?_
      refine tt_iload_n (q := 26) dX11_seconds_25 rfl rfl ?_
      obtain ⟨p13, hp14, h⟩ := h
      refine callVi_2 (q := 29) dX11_seconds_26 (Or.inr (Or.inr (⟨rfl, rfl, hp14⟩))) (Nat.le_of_ble_eq_true rfl) rfl (fun t12 r11 hr15 => ?_)
      replace h := h t12 r11 hr15
      exact tt_iret dX11_seconds_29 ⟨rfl, _, rfl, h⟩

theorem g_X11_mean_0 {post : SG → Int32 → Prop} {σ : SG} {a : Int32} (h : ((a < 0 → (∀ s6 : SG, s6 = up σ 101 1 ((σ 101 1) + (nI 1)) → post s6 (-1 : Int32))) ∧ (¬ a < 0 → (((σ 36 0) ≤ a → (∀ s10 : SG, s10 = up σ 101 1 ((σ 101 1) + (nI 1)) → post s10 (-1 : Int32))) ∧ (¬ (σ 36 0) ≤ a → (∃ p13 : SG → Int32 → Prop, IN_X2_rowTime AF σ [.ref 61, .ref 36, .int a] p13 ∧ ∀ (t12 : SG) (r11 : Int32), p13 t12 r11 → (∃ j17 : Nat, a = nI j17 ∧ j17 < 10 ∧ post t12 (((nI 100) * r11) + (((t12 37 j17) * (t12 72 0)) * (t12 72 1)))))))))) : T_X11_mean AF post 0 [.ref 0, .int a] [] σ := by
  refine tt_aload_n (q := 1) dX11_mean_0 rfl rfl ?_
  refine tt_getR (q := 4) dX11_mean_1 fl_X11_37 or_0_3 (Nat.le_of_ble_eq_true rfl) rfl rfl ?_
  refine tt_iload_n (q := 5) dX11_mean_4 rfl rfl ?_
  refine callVi_1 (q := 8) dX11_mean_5 (Or.inl ⟨rfl, rfl, ⟨⟨_, _, rfl, rfl, (Nat.le_of_ble_eq_true rfl), rc_36⟩, Nat.le_of_ble_eq_true rfl, ?_⟩⟩) (Nat.le_of_ble_eq_true rfl) rfl (fun t2 r1 ht2 => ht2)
  refine (show TT cX5_has RX5 false CT0 CN0 _ _ _ none 0 [_, _] [] _ _ from ?_)
  refine tt_iload_n (q := 1) dX5_has_0 rfl rfl ?_
  refine tt_if_lt (q := 4) (t := 16) dX5_has_1 rfl rfl (fun c => ?_) (fun c => ?_)
  · replace h := h.1 c
    refine tt_iconst (q := 17) dX5_has_16 ki_0 rfl ?_
    refine tt_iret dX5_has_17 ⟨rfl, _, rfl, Or.inl nI_0, ?_⟩
    refine tt_if_ne (q := 11) (t := 17) dX11_mean_8 rfl rfl (fun c => absurd c (by decide)) (fun c => ?_)
    clear c
    refine tt_aload_n (q := 12) dX11_mean_11 rfl rfl ?_
    refine tt_iconst (q := 13) dX11_mean_12 ki_m1 rfl ?_
    refine callVi_1 (q := 16) dX11_mean_13 (Or.inr (Or.inl ⟨rfl, rfl, ⟨⟨_, _, rfl, rfl, (Nat.le_of_ble_eq_true rfl), rc_0⟩, Nat.le_of_ble_eq_true rfl, ?_⟩⟩)) (Nat.le_of_ble_eq_true rfl) rfl (fun t5 r4 ht5 => ht5)
    refine (show TT cX11_refuse RX11 false CT0 CN0 _ _ _ none 0 [_, _, dum] [] _ _ from ?_)
    refine tt_iload_n (q := 1) dX11_refuse_0 rfl rfl ?_
    refine tt_inegE (v := nI 1) (q := 2) dX11_refuse_1 (by decide) rfl ?_
    refine sti_n_2 (q := 3) dX11_refuse_2 rfl rfl rfl ?_
    refine tt_iload_n (q := 4) dX11_refuse_3 rfl rfl ?_
    refine tt_if_le (q := 7) (t := 23) dX11_refuse_4 rfl rfl (fun c => absurd c (by decide)) (fun c => ?_)
    clear c
    refine tt_iload_n (q := 8) dX11_refuse_7 rfl rfl ?_
    refine tt_bipush (q := 10) dX11_refuse_8 bi_6 rfl ?_
    refine tt_icmp_gt (q := 13) (t := 23) dX11_refuse_10 rfl rfl (fun c => absurd c (by decide)) (fun c => ?_)
    clear c
    refine tt_aload_n (q := 14) dX11_refuse_13 rfl rfl ?_
    refine tt_getR (q := 17) dX11_refuse_14 fl_X11_96 or_0_11 (Nat.le_of_ble_eq_true rfl) rfl rfl ?_
    refine tt_iload_n (q := 18) dX11_refuse_17 rfl rfl ?_
    refine tt_dup2 (q := 19) dX11_refuse_18 rfl rfl rfl ?_
    refine tt_iald (q := 20) dX11_refuse_19 ia_101 (Nat.le_of_ble_eq_true rfl) rfl (Nat.le_of_ble_eq_true rfl : 1 < 7) rfl ?_
    refine tt_iconst (q := 21) dX11_refuse_20 ki_1 rfl ?_
    refine tt_iadd (q := 22) dX11_refuse_21 rfl ?_
    refine tt_iast (q := 23) dX11_refuse_22 ia_101 (Nat.le_of_ble_eq_true rfl) rfl (Nat.le_of_ble_eq_true rfl : 1 < 7) rfl ?_
    replace h := h _ rfl
    refine tt_iload_n (q := 24) dX11_refuse_23 rfl rfl ?_
    refine tt_iret dX11_refuse_24 ⟨rfl, _, rfl, ?_⟩
    exact tt_iret dX11_mean_16 ⟨rfl, _, rfl, h⟩
  · replace h := h.2 c
    refine tt_iload_n (q := 5) dX5_has_4 rfl rfl ?_
    refine tt_aload_n (q := 6) dX5_has_5 rfl rfl ?_
    refine tt_getI (q := 9) dX5_has_6 fl_X5_34 oi_36_0 (Nat.le_of_ble_eq_true rfl) rfl ?_
    refine tt_icmp_ge (q := 12) (t := 16) dX5_has_9 rfl rfl (fun c => ?_) (fun c => ?_)
    · replace h := h.1 c
      refine tt_iconst (q := 17) dX5_has_16 ki_0 rfl ?_
      refine tt_iret dX5_has_17 ⟨rfl, _, rfl, Or.inl nI_0, ?_⟩
      refine tt_if_ne (q := 11) (t := 17) dX11_mean_8 rfl rfl (fun c => absurd c (by decide)) (fun c => ?_)
      clear c
      refine tt_aload_n (q := 12) dX11_mean_11 rfl rfl ?_
      refine tt_iconst (q := 13) dX11_mean_12 ki_m1 rfl ?_
      refine callVi_1 (q := 16) dX11_mean_13 (Or.inr (Or.inl ⟨rfl, rfl, ⟨⟨_, _, rfl, rfl, (Nat.le_of_ble_eq_true rfl), rc_0⟩, Nat.le_of_ble_eq_true rfl, ?_⟩⟩)) (Nat.le_of_ble_eq_true rfl) rfl (fun t9 r8 ht9 => ht9)
      refine (show TT cX11_refuse RX11 false CT0 CN0 _ _ _ none 0 [_, _, dum] [] _ _ from ?_)
      refine tt_iload_n (q := 1) dX11_refuse_0 rfl rfl ?_
      refine tt_inegE (v := nI 1) (q := 2) dX11_refuse_1 (by decide) rfl ?_
      refine sti_n_2 (q := 3) dX11_refuse_2 rfl rfl rfl ?_
      refine tt_iload_n (q := 4) dX11_refuse_3 rfl rfl ?_
      refine tt_if_le (q := 7) (t := 23) dX11_refuse_4 rfl rfl (fun c => absurd c (by decide)) (fun c => ?_)
      clear c
      refine tt_iload_n (q := 8) dX11_refuse_7 rfl rfl ?_
      refine tt_bipush (q := 10) dX11_refuse_8 bi_6 rfl ?_
      refine tt_icmp_gt (q := 13) (t := 23) dX11_refuse_10 rfl rfl (fun c => absurd c (by decide)) (fun c => ?_)
      clear c
      refine tt_aload_n (q := 14) dX11_refuse_13 rfl rfl ?_
      refine tt_getR (q := 17) dX11_refuse_14 fl_X11_96 or_0_11 (Nat.le_of_ble_eq_true rfl) rfl rfl ?_
      refine tt_iload_n (q := 18) dX11_refuse_17 rfl rfl ?_
      refine tt_dup2 (q := 19) dX11_refuse_18 rfl rfl rfl ?_
      refine tt_iald (q := 20) dX11_refuse_19 ia_101 (Nat.le_of_ble_eq_true rfl) rfl (Nat.le_of_ble_eq_true rfl : 1 < 7) rfl ?_
      refine tt_iconst (q := 21) dX11_refuse_20 ki_1 rfl ?_
      refine tt_iadd (q := 22) dX11_refuse_21 rfl ?_
      refine tt_iast (q := 23) dX11_refuse_22 ia_101 (Nat.le_of_ble_eq_true rfl) rfl (Nat.le_of_ble_eq_true rfl : 1 < 7) rfl ?_
      replace h := h _ rfl
      refine tt_iload_n (q := 24) dX11_refuse_23 rfl rfl ?_
      refine tt_iret dX11_refuse_24 ⟨rfl, _, rfl, ?_⟩
      exact tt_iret dX11_mean_16 ⟨rfl, _, rfl, h⟩
    · replace h := h.2 c
      refine tt_iconst (q := 13) dX5_has_12 ki_1 rfl ?_
      refine tt_goto (t := 17) dX5_has_13 rfl ?_
      refine tt_iret dX5_has_17 ⟨rfl, _, rfl, Or.inr rfl, ?_⟩
      refine tt_if_ne (q := 11) (t := 17) dX11_mean_8 rfl rfl (fun c => ?_) (fun c => absurd c (by decide))
      clear c
      refine tt_bipush (q := 19) dX11_mean_17 bi_100 rfl ?_
      refine tt_aload_n (q := 20) dX11_mean_19 rfl rfl ?_
      refine tt_getR (q := 23) dX11_mean_20 fl_X11_44 or_0_4 (Nat.le_of_ble_eq_true rfl) rfl rfl ?_
      refine tt_aload_n (q := 24) dX11_mean_23 rfl rfl ?_
      refine tt_getR (q := 27) dX11_mean_24 fl_X11_37 or_0_3 (Nat.le_of_ble_eq_true rfl) rfl rfl ?_
      refine tt_iload_n (q := 28) dX11_mean_27 rfl rfl ?_
      obtain ⟨p13, hp14, h⟩ := h
      refine callVi_2 (q := 31) dX11_mean_28 (Or.inr (Or.inr (⟨rfl, rfl, hp14⟩))) (Nat.le_of_ble_eq_true rfl) rfl (fun t12 r11 hr15 => ?_)
      replace h := h t12 r11 hr15
      refine tt_imul (q := 32) dX11_mean_31 rfl ?_
      refine tt_aload_n (q := 33) dX11_mean_32 rfl rfl ?_
      refine tt_getR (q := 36) dX11_mean_33 fl_X11_37 or_0_3 (Nat.le_of_ble_eq_true rfl) rfl rfl ?_
      refine tt_getR (q := 39) dX11_mean_36 fl_X11_160 or_36_1 (Nat.le_of_ble_eq_true rfl) rfl rfl ?_
      refine tt_iload_n (q := 40) dX11_mean_39 rfl rfl ?_
      obtain ⟨j17, e18, l16, h⟩ := h
      refine tt_iald (q := 41) dX11_mean_40 ia_37 (Nat.le_of_ble_eq_true rfl) e18 l16 rfl ?_
      refine tt_aload_n (q := 42) dX11_mean_41 rfl rfl ?_
      refine tt_getR (q := 45) dX11_mean_42 fl_X11_44 or_0_4 (Nat.le_of_ble_eq_true rfl) rfl rfl ?_
      refine tt_getR (q := 48) dX11_mean_45 fl_X11_198 or_61_2 (Nat.le_of_ble_eq_true rfl) rfl rfl ?_
      refine tt_iconst (q := 49) dX11_mean_48 ki_0 rfl ?_
      refine tt_iald (q := 50) dX11_mean_49 ia_72 (Nat.le_of_ble_eq_true rfl) rfl (Nat.le_of_ble_eq_true rfl : 0 < 2) rfl ?_
      refine tt_imul (q := 51) dX11_mean_50 rfl ?_
      refine tt_aload_n (q := 52) dX11_mean_51 rfl rfl ?_
      refine tt_getR (q := 55) dX11_mean_52 fl_X11_44 or_0_4 (Nat.le_of_ble_eq_true rfl) rfl rfl ?_
      refine tt_getR (q := 58) dX11_mean_55 fl_X11_198 or_61_2 (Nat.le_of_ble_eq_true rfl) rfl rfl ?_
      refine tt_iconst (q := 59) dX11_mean_58 ki_1 rfl ?_
      refine tt_iald (q := 60) dX11_mean_59 ia_72 (Nat.le_of_ble_eq_true rfl) rfl (Nat.le_of_ble_eq_true rfl : 1 < 2) rfl ?_
      refine tt_imul (q := 61) dX11_mean_60 rfl ?_
      refine tt_iadd (q := 62) dX11_mean_61 rfl ?_
      exact tt_iret dX11_mean_62 ⟨rfl, _, rfl, h⟩

theorem g_X11_drawn_0 {post : SG → Int32 → Prop} {σ : SG} {a : Int32} {b : Int32} (h : ((a < 0 → (∀ s6 : SG, s6 = up σ 101 1 ((σ 101 1) + (nI 1)) → post s6 (-1 : Int32))) ∧ (¬ a < 0 → (((σ 36 0) ≤ a → (∀ s10 : SG, s10 = up σ 101 1 ((σ 101 1) + (nI 1)) → post s10 (-1 : Int32))) ∧ (¬ (σ 36 0) ≤ a → (∃ p13 : SG → Int32 → Prop, IN_X2_rowTime AF σ [.ref 61, .ref 36, .int a] p13 ∧ ∀ (t12 : SG) (r11 : Int32), p13 t12 r11 → (∃ j17 : Nat, a = nI j17 ∧ j17 < 10 ∧ (∃ p21 : SG → Int32 → Prop, IN_X2_locksDrawn AF t12 [.ref 61, .int (t12 37 j17), .int b] p21 ∧ ∀ (t20 : SG) (r19 : Int32), p21 t20 r19 → post t20 (r11 + (r19 * (t20 72 1))))))))))) : T_X11_drawn AF post 0 [.ref 0, .int a, .int b] [] σ := by
  refine tt_aload_n (q := 1) dX11_drawn_0 rfl rfl ?_
  refine tt_getR (q := 4) dX11_drawn_1 fl_X11_37 or_0_3 (Nat.le_of_ble_eq_true rfl) rfl rfl ?_
  refine tt_iload_n (q := 5) dX11_drawn_4 rfl rfl ?_
  refine callVi_1 (q := 8) dX11_drawn_5 (Or.inl ⟨rfl, rfl, ⟨⟨_, _, rfl, rfl, (Nat.le_of_ble_eq_true rfl), rc_36⟩, Nat.le_of_ble_eq_true rfl, ?_⟩⟩) (Nat.le_of_ble_eq_true rfl) rfl (fun t2 r1 ht2 => ht2)
  refine (show TT cX5_has RX5 false CT0 CN0 _ _ _ none 0 [_, _] [] _ _ from ?_)
  refine tt_iload_n (q := 1) dX5_has_0 rfl rfl ?_
  refine tt_if_lt (q := 4) (t := 16) dX5_has_1 rfl rfl (fun c => ?_) (fun c => ?_)
  · replace h := h.1 c
    refine tt_iconst (q := 17) dX5_has_16 ki_0 rfl ?_
    refine tt_iret dX5_has_17 ⟨rfl, _, rfl, Or.inl nI_0, ?_⟩
    refine tt_if_ne (q := 11) (t := 17) dX11_drawn_8 rfl rfl (fun c => absurd c (by decide)) (fun c => ?_)
    clear c
    refine tt_aload_n (q := 12) dX11_drawn_11 rfl rfl ?_
    refine tt_iconst (q := 13) dX11_drawn_12 ki_m1 rfl ?_
    refine callVi_1 (q := 16) dX11_drawn_13 (Or.inr (Or.inl ⟨rfl, rfl, ⟨⟨_, _, rfl, rfl, (Nat.le_of_ble_eq_true rfl), rc_0⟩, Nat.le_of_ble_eq_true rfl, ?_⟩⟩)) (Nat.le_of_ble_eq_true rfl) rfl (fun t5 r4 ht5 => ht5)
    refine (show TT cX11_refuse RX11 false CT0 CN0 _ _ _ none 0 [_, _, dum] [] _ _ from ?_)
    refine tt_iload_n (q := 1) dX11_refuse_0 rfl rfl ?_
    refine tt_inegE (v := nI 1) (q := 2) dX11_refuse_1 (by decide) rfl ?_
    refine sti_n_2 (q := 3) dX11_refuse_2 rfl rfl rfl ?_
    refine tt_iload_n (q := 4) dX11_refuse_3 rfl rfl ?_
    refine tt_if_le (q := 7) (t := 23) dX11_refuse_4 rfl rfl (fun c => absurd c (by decide)) (fun c => ?_)
    clear c
    refine tt_iload_n (q := 8) dX11_refuse_7 rfl rfl ?_
    refine tt_bipush (q := 10) dX11_refuse_8 bi_6 rfl ?_
    refine tt_icmp_gt (q := 13) (t := 23) dX11_refuse_10 rfl rfl (fun c => absurd c (by decide)) (fun c => ?_)
    clear c
    refine tt_aload_n (q := 14) dX11_refuse_13 rfl rfl ?_
    refine tt_getR (q := 17) dX11_refuse_14 fl_X11_96 or_0_11 (Nat.le_of_ble_eq_true rfl) rfl rfl ?_
    refine tt_iload_n (q := 18) dX11_refuse_17 rfl rfl ?_
    refine tt_dup2 (q := 19) dX11_refuse_18 rfl rfl rfl ?_
    refine tt_iald (q := 20) dX11_refuse_19 ia_101 (Nat.le_of_ble_eq_true rfl) rfl (Nat.le_of_ble_eq_true rfl : 1 < 7) rfl ?_
    refine tt_iconst (q := 21) dX11_refuse_20 ki_1 rfl ?_
    refine tt_iadd (q := 22) dX11_refuse_21 rfl ?_
    refine tt_iast (q := 23) dX11_refuse_22 ia_101 (Nat.le_of_ble_eq_true rfl) rfl (Nat.le_of_ble_eq_true rfl : 1 < 7) rfl ?_
    replace h := h _ rfl
    refine tt_iload_n (q := 24) dX11_refuse_23 rfl rfl ?_
    refine tt_iret dX11_refuse_24 ⟨rfl, _, rfl, ?_⟩
    exact tt_iret dX11_drawn_16 ⟨rfl, _, rfl, h⟩
  · replace h := h.2 c
    refine tt_iload_n (q := 5) dX5_has_4 rfl rfl ?_
    refine tt_aload_n (q := 6) dX5_has_5 rfl rfl ?_
    refine tt_getI (q := 9) dX5_has_6 fl_X5_34 oi_36_0 (Nat.le_of_ble_eq_true rfl) rfl ?_
    refine tt_icmp_ge (q := 12) (t := 16) dX5_has_9 rfl rfl (fun c => ?_) (fun c => ?_)
    · replace h := h.1 c
      refine tt_iconst (q := 17) dX5_has_16 ki_0 rfl ?_
      refine tt_iret dX5_has_17 ⟨rfl, _, rfl, Or.inl nI_0, ?_⟩
      refine tt_if_ne (q := 11) (t := 17) dX11_drawn_8 rfl rfl (fun c => absurd c (by decide)) (fun c => ?_)
      clear c
      refine tt_aload_n (q := 12) dX11_drawn_11 rfl rfl ?_
      refine tt_iconst (q := 13) dX11_drawn_12 ki_m1 rfl ?_
      refine callVi_1 (q := 16) dX11_drawn_13 (Or.inr (Or.inl ⟨rfl, rfl, ⟨⟨_, _, rfl, rfl, (Nat.le_of_ble_eq_true rfl), rc_0⟩, Nat.le_of_ble_eq_true rfl, ?_⟩⟩)) (Nat.le_of_ble_eq_true rfl) rfl (fun t9 r8 ht9 => ht9)
      refine (show TT cX11_refuse RX11 false CT0 CN0 _ _ _ none 0 [_, _, dum] [] _ _ from ?_)
      refine tt_iload_n (q := 1) dX11_refuse_0 rfl rfl ?_
      refine tt_inegE (v := nI 1) (q := 2) dX11_refuse_1 (by decide) rfl ?_
      refine sti_n_2 (q := 3) dX11_refuse_2 rfl rfl rfl ?_
      refine tt_iload_n (q := 4) dX11_refuse_3 rfl rfl ?_
      refine tt_if_le (q := 7) (t := 23) dX11_refuse_4 rfl rfl (fun c => absurd c (by decide)) (fun c => ?_)
      clear c
      refine tt_iload_n (q := 8) dX11_refuse_7 rfl rfl ?_
      refine tt_bipush (q := 10) dX11_refuse_8 bi_6 rfl ?_
      refine tt_icmp_gt (q := 13) (t := 23) dX11_refuse_10 rfl rfl (fun c => absurd c (by decide)) (fun c => ?_)
      clear c
      refine tt_aload_n (q := 14) dX11_refuse_13 rfl rfl ?_
      refine tt_getR (q := 17) dX11_refuse_14 fl_X11_96 or_0_11 (Nat.le_of_ble_eq_true rfl) rfl rfl ?_
      refine tt_iload_n (q := 18) dX11_refuse_17 rfl rfl ?_
      refine tt_dup2 (q := 19) dX11_refuse_18 rfl rfl rfl ?_
      refine tt_iald (q := 20) dX11_refuse_19 ia_101 (Nat.le_of_ble_eq_true rfl) rfl (Nat.le_of_ble_eq_true rfl : 1 < 7) rfl ?_
      refine tt_iconst (q := 21) dX11_refuse_20 ki_1 rfl ?_
      refine tt_iadd (q := 22) dX11_refuse_21 rfl ?_
      refine tt_iast (q := 23) dX11_refuse_22 ia_101 (Nat.le_of_ble_eq_true rfl) rfl (Nat.le_of_ble_eq_true rfl : 1 < 7) rfl ?_
      replace h := h _ rfl
      refine tt_iload_n (q := 24) dX11_refuse_23 rfl rfl ?_
      refine tt_iret dX11_refuse_24 ⟨rfl, _, rfl, ?_⟩
      exact tt_iret dX11_drawn_16 ⟨rfl, _, rfl, h⟩
    · replace h := h.2 c
      refine tt_iconst (q := 13) dX5_has_12 ki_1 rfl ?_
      refine tt_goto (t := 17) dX5_has_13 rfl ?_
      refine tt_iret dX5_has_17 ⟨rfl, _, rfl, Or.inr rfl, ?_⟩
      refine tt_if_ne (q := 11) (t := 17) dX11_drawn_8 rfl rfl (fun c => ?_) (fun c => absurd c (by decide))
      clear c
      refine tt_aload_n (q := 18) dX11_drawn_17 rfl rfl ?_
      refine tt_getR (q := 21) dX11_drawn_18 fl_X11_44 or_0_4 (Nat.le_of_ble_eq_true rfl) rfl rfl ?_
      refine tt_aload_n (q := 22) dX11_drawn_21 rfl rfl ?_
      refine tt_getR (q := 25) dX11_drawn_22 fl_X11_37 or_0_3 (Nat.le_of_ble_eq_true rfl) rfl rfl ?_
      refine tt_iload_n (q := 26) dX11_drawn_25 rfl rfl ?_
      obtain ⟨p13, hp14, h⟩ := h
      refine callVi_2 (q := 29) dX11_drawn_26 (Or.inr (Or.inr (Or.inl ⟨rfl, rfl, hp14⟩))) (Nat.le_of_ble_eq_true rfl) rfl (fun t12 r11 hr15 => ?_)
      replace h := h t12 r11 hr15
      refine tt_aload_n (q := 30) dX11_drawn_29 rfl rfl ?_
      refine tt_getR (q := 33) dX11_drawn_30 fl_X11_44 or_0_4 (Nat.le_of_ble_eq_true rfl) rfl rfl ?_
      refine tt_aload_n (q := 34) dX11_drawn_33 rfl rfl ?_
      refine tt_getR (q := 37) dX11_drawn_34 fl_X11_37 or_0_3 (Nat.le_of_ble_eq_true rfl) rfl rfl ?_
      refine tt_getR (q := 40) dX11_drawn_37 fl_X11_160 or_36_1 (Nat.le_of_ble_eq_true rfl) rfl rfl ?_
      refine tt_iload_n (q := 41) dX11_drawn_40 rfl rfl ?_
      obtain ⟨j17, e18, l16, h⟩ := h
      refine tt_iald (q := 42) dX11_drawn_41 ia_37 (Nat.le_of_ble_eq_true rfl) e18 l16 rfl ?_
      refine tt_iload_n (q := 43) dX11_drawn_42 rfl rfl ?_
      obtain ⟨p21, hp22, h⟩ := h
      refine callVi_2 (q := 46) dX11_drawn_43 (Or.inr (Or.inr (Or.inr (⟨rfl, rfl, hp22⟩)))) (Nat.le_of_ble_eq_true rfl) rfl (fun t20 r19 hr23 => ?_)
      replace h := h t20 r19 hr23
      refine tt_aload_n (q := 47) dX11_drawn_46 rfl rfl ?_
      refine tt_getR (q := 50) dX11_drawn_47 fl_X11_44 or_0_4 (Nat.le_of_ble_eq_true rfl) rfl rfl ?_
      refine tt_getR (q := 53) dX11_drawn_50 fl_X11_198 or_61_2 (Nat.le_of_ble_eq_true rfl) rfl rfl ?_
      refine tt_iconst (q := 54) dX11_drawn_53 ki_1 rfl ?_
      refine tt_iald (q := 55) dX11_drawn_54 ia_72 (Nat.le_of_ble_eq_true rfl) rfl (Nat.le_of_ble_eq_true rfl : 1 < 2) rfl ?_
      refine tt_imul (q := 56) dX11_drawn_55 rfl ?_
      refine tt_iadd (q := 57) dX11_drawn_56 rfl ?_
      exact tt_iret dX11_drawn_57 ⟨rfl, _, rfl, h⟩

theorem g_X11_better_0 {post : SG → Int32 → Prop} {σ : SG} {a : Int32} {b : Int32} (h : ((a < 0 → (∀ s6 : SG, s6 = up σ 101 1 ((σ 101 1) + (nI 1)) → post s6 (-1 : Int32))) ∧ (¬ a < 0 → (((σ 36 0) ≤ a → (∀ s10 : SG, s10 = up σ 101 1 ((σ 101 1) + (nI 1)) → post s10 (-1 : Int32))) ∧ (¬ (σ 36 0) ≤ a → (((nI 1) ≤ b → ((b ≤ (nI 5) → (∃ p17 : SG → Int32 → Prop, IN_X5_solvedFrom AF σ [.ref 36, .int a] p17 ∧ ∀ (t16 : SG) (r15 : Int32), p17 t16 r15 → (∃ p22 : SG → Int32 → Prop, IN_X1_leastTime AF t16 [.ref 73, .int r15, .int b] p22 ∧ ∀ (t21 : SG) (r20 : Int32), p22 t21 r20 → ((¬ r20 = (-9 : Int32) → post t21 r20) ∧ (r20 = (-9 : Int32) → (∀ s28 : SG, s28 = up t21 101 3 ((t21 101 3) + (nI 1)) → post s28 (-3 : Int32))))))) ∧ (¬ b ≤ (nI 5) → (∀ s31 : SG, s31 = up σ 101 6 ((σ 101 6) + (nI 1)) → post s31 (-6 : Int32))))) ∧ (¬ (nI 1) ≤ b → (∀ s34 : SG, s34 = up σ 101 4 ((σ 101 4) + (nI 1)) → post s34 (-4 : Int32))))))))) : T_X11_better AF post 0 [.ref 0, .int a, .int b, dum, dum] [] σ := by
  refine tt_aload_n (q := 1) dX11_better_0 rfl rfl ?_
  refine tt_getR (q := 4) dX11_better_1 fl_X11_37 or_0_3 (Nat.le_of_ble_eq_true rfl) rfl rfl ?_
  refine tt_iload_n (q := 5) dX11_better_4 rfl rfl ?_
  refine callVi_1 (q := 8) dX11_better_5 (Or.inl ⟨rfl, rfl, ⟨⟨_, _, rfl, rfl, (Nat.le_of_ble_eq_true rfl), rc_36⟩, Nat.le_of_ble_eq_true rfl, ?_⟩⟩) (Nat.le_of_ble_eq_true rfl) rfl (fun t2 r1 ht2 => ht2)
  refine (show TT cX5_has RX5 false CT0 CN0 _ _ _ none 0 [_, _] [] _ _ from ?_)
  refine tt_iload_n (q := 1) dX5_has_0 rfl rfl ?_
  refine tt_if_lt (q := 4) (t := 16) dX5_has_1 rfl rfl (fun c => ?_) (fun c => ?_)
  · replace h := h.1 c
    refine tt_iconst (q := 17) dX5_has_16 ki_0 rfl ?_
    refine tt_iret dX5_has_17 ⟨rfl, _, rfl, Or.inl nI_0, ?_⟩
    refine tt_if_ne (q := 11) (t := 17) dX11_better_8 rfl rfl (fun c => absurd c (by decide)) (fun c => ?_)
    clear c
    refine tt_aload_n (q := 12) dX11_better_11 rfl rfl ?_
    refine tt_iconst (q := 13) dX11_better_12 ki_m1 rfl ?_
    refine callVi_1 (q := 16) dX11_better_13 (Or.inr (Or.inl ⟨rfl, rfl, ⟨⟨_, _, rfl, rfl, (Nat.le_of_ble_eq_true rfl), rc_0⟩, Nat.le_of_ble_eq_true rfl, ?_⟩⟩)) (Nat.le_of_ble_eq_true rfl) rfl (fun t5 r4 ht5 => ht5)
    refine (show TT cX11_refuse RX11 false CT0 CN0 _ _ _ none 0 [_, _, dum] [] _ _ from ?_)
    refine tt_iload_n (q := 1) dX11_refuse_0 rfl rfl ?_
    refine tt_inegE (v := nI 1) (q := 2) dX11_refuse_1 (by decide) rfl ?_
    refine sti_n_2 (q := 3) dX11_refuse_2 rfl rfl rfl ?_
    refine tt_iload_n (q := 4) dX11_refuse_3 rfl rfl ?_
    refine tt_if_le (q := 7) (t := 23) dX11_refuse_4 rfl rfl (fun c => absurd c (by decide)) (fun c => ?_)
    clear c
    refine tt_iload_n (q := 8) dX11_refuse_7 rfl rfl ?_
    refine tt_bipush (q := 10) dX11_refuse_8 bi_6 rfl ?_
    refine tt_icmp_gt (q := 13) (t := 23) dX11_refuse_10 rfl rfl (fun c => absurd c (by decide)) (fun c => ?_)
    clear c
    refine tt_aload_n (q := 14) dX11_refuse_13 rfl rfl ?_
    refine tt_getR (q := 17) dX11_refuse_14 fl_X11_96 or_0_11 (Nat.le_of_ble_eq_true rfl) rfl rfl ?_
    refine tt_iload_n (q := 18) dX11_refuse_17 rfl rfl ?_
    refine tt_dup2 (q := 19) dX11_refuse_18 rfl rfl rfl ?_
    refine tt_iald (q := 20) dX11_refuse_19 ia_101 (Nat.le_of_ble_eq_true rfl) rfl (Nat.le_of_ble_eq_true rfl : 1 < 7) rfl ?_
    refine tt_iconst (q := 21) dX11_refuse_20 ki_1 rfl ?_
    refine tt_iadd (q := 22) dX11_refuse_21 rfl ?_
    refine tt_iast (q := 23) dX11_refuse_22 ia_101 (Nat.le_of_ble_eq_true rfl) rfl (Nat.le_of_ble_eq_true rfl : 1 < 7) rfl ?_
    replace h := h _ rfl
    refine tt_iload_n (q := 24) dX11_refuse_23 rfl rfl ?_
    refine tt_iret dX11_refuse_24 ⟨rfl, _, rfl, ?_⟩
    exact tt_iret dX11_better_16 ⟨rfl, _, rfl, h⟩
  · replace h := h.2 c
    refine tt_iload_n (q := 5) dX5_has_4 rfl rfl ?_
    refine tt_aload_n (q := 6) dX5_has_5 rfl rfl ?_
    refine tt_getI (q := 9) dX5_has_6 fl_X5_34 oi_36_0 (Nat.le_of_ble_eq_true rfl) rfl ?_
    refine tt_icmp_ge (q := 12) (t := 16) dX5_has_9 rfl rfl (fun c => ?_) (fun c => ?_)
    · replace h := h.1 c
      refine tt_iconst (q := 17) dX5_has_16 ki_0 rfl ?_
      refine tt_iret dX5_has_17 ⟨rfl, _, rfl, Or.inl nI_0, ?_⟩
      refine tt_if_ne (q := 11) (t := 17) dX11_better_8 rfl rfl (fun c => absurd c (by decide)) (fun c => ?_)
      clear c
      refine tt_aload_n (q := 12) dX11_better_11 rfl rfl ?_
      refine tt_iconst (q := 13) dX11_better_12 ki_m1 rfl ?_
      refine callVi_1 (q := 16) dX11_better_13 (Or.inr (Or.inl ⟨rfl, rfl, ⟨⟨_, _, rfl, rfl, (Nat.le_of_ble_eq_true rfl), rc_0⟩, Nat.le_of_ble_eq_true rfl, ?_⟩⟩)) (Nat.le_of_ble_eq_true rfl) rfl (fun t9 r8 ht9 => ht9)
      refine (show TT cX11_refuse RX11 false CT0 CN0 _ _ _ none 0 [_, _, dum] [] _ _ from ?_)
      refine tt_iload_n (q := 1) dX11_refuse_0 rfl rfl ?_
      refine tt_inegE (v := nI 1) (q := 2) dX11_refuse_1 (by decide) rfl ?_
      refine sti_n_2 (q := 3) dX11_refuse_2 rfl rfl rfl ?_
      refine tt_iload_n (q := 4) dX11_refuse_3 rfl rfl ?_
      refine tt_if_le (q := 7) (t := 23) dX11_refuse_4 rfl rfl (fun c => absurd c (by decide)) (fun c => ?_)
      clear c
      refine tt_iload_n (q := 8) dX11_refuse_7 rfl rfl ?_
      refine tt_bipush (q := 10) dX11_refuse_8 bi_6 rfl ?_
      refine tt_icmp_gt (q := 13) (t := 23) dX11_refuse_10 rfl rfl (fun c => absurd c (by decide)) (fun c => ?_)
      clear c
      refine tt_aload_n (q := 14) dX11_refuse_13 rfl rfl ?_
      refine tt_getR (q := 17) dX11_refuse_14 fl_X11_96 or_0_11 (Nat.le_of_ble_eq_true rfl) rfl rfl ?_
      refine tt_iload_n (q := 18) dX11_refuse_17 rfl rfl ?_
      refine tt_dup2 (q := 19) dX11_refuse_18 rfl rfl rfl ?_
      refine tt_iald (q := 20) dX11_refuse_19 ia_101 (Nat.le_of_ble_eq_true rfl) rfl (Nat.le_of_ble_eq_true rfl : 1 < 7) rfl ?_
      refine tt_iconst (q := 21) dX11_refuse_20 ki_1 rfl ?_
      refine tt_iadd (q := 22) dX11_refuse_21 rfl ?_
      refine tt_iast (q := 23) dX11_refuse_22 ia_101 (Nat.le_of_ble_eq_true rfl) rfl (Nat.le_of_ble_eq_true rfl : 1 < 7) rfl ?_
      replace h := h _ rfl
      refine tt_iload_n (q := 24) dX11_refuse_23 rfl rfl ?_
      refine tt_iret dX11_refuse_24 ⟨rfl, _, rfl, ?_⟩
      exact tt_iret dX11_better_16 ⟨rfl, _, rfl, h⟩
    · replace h := h.2 c
      refine tt_iconst (q := 13) dX5_has_12 ki_1 rfl ?_
      refine tt_goto (t := 17) dX5_has_13 rfl ?_
      refine tt_iret dX5_has_17 ⟨rfl, _, rfl, Or.inr rfl, ?_⟩
      refine tt_if_ne (q := 11) (t := 17) dX11_better_8 rfl rfl (fun c => ?_) (fun c => absurd c (by decide))
      clear c
      refine tt_iload_n (q := 18) dX11_better_17 rfl rfl ?_
      refine tt_iconst (q := 19) dX11_better_18 ki_1 rfl ?_
      refine tt_iconst (q := 20) dX11_better_19 ki_5 rfl ?_
      refine callSi_3 (q := 23) dX11_better_20 (Or.inr (Or.inr (Or.inl ⟨rfl, rfl, ⟨rfl, Nat.le_of_ble_eq_true rfl, ?_⟩⟩))) (Nat.le_of_ble_eq_true rfl) rfl (fun t12 r11 ht12 => ht12)
      refine (show TT cX11_outside RX11 false CT0 CN0 _ _ _ none 0 [_, _, _] [] _ _ from ?_)
      refine tt_iload_n (q := 1) dX11_outside_0 rfl rfl ?_
      refine tt_iload_n (q := 2) dX11_outside_1 rfl rfl ?_
      refine tt_icmp_ge (q := 5) (t := 8) dX11_outside_2 rfl rfl (fun c => ?_) (fun c => ?_)
      · replace h := h.1 c
        refine tt_iload_n (q := 9) dX11_outside_8 rfl rfl ?_
        refine tt_iload_n (q := 10) dX11_outside_9 rfl rfl ?_
        refine tt_icmp_le (q := 13) (t := 18) dX11_outside_10 rfl rfl (fun c => ?_) (fun c => ?_)
        · replace h := h.1 c
          refine tt_iconst (q := 19) dX11_outside_18 ki_0 rfl ?_
          refine tt_iret dX11_outside_19 ⟨rfl, _, rfl, ?_⟩
          refine sti_n_3 (q := 24) dX11_better_23 rfl rfl rfl ?_
          refine tt_iload_n (q := 25) dX11_better_24 rfl rfl ?_
          refine tt_if_eq (q := 28) (t := 34) dX11_better_25 rfl rfl (fun c => ?_) (fun c => absurd c (by decide))
          clear c
          refine tt_aload_n (q := 35) dX11_better_34 rfl rfl ?_
          refine tt_getR (q := 38) dX11_better_35 fl_X11_53 or_0_5 (Nat.le_of_ble_eq_true rfl) rfl rfl ?_
          refine tt_aload_n (q := 39) dX11_better_38 rfl rfl ?_
          refine tt_getR (q := 42) dX11_better_39 fl_X11_37 or_0_3 (Nat.le_of_ble_eq_true rfl) rfl rfl ?_
          refine tt_iload_n (q := 43) dX11_better_42 rfl rfl ?_
          obtain ⟨p17, hp18, h⟩ := h
          refine callVi_1 (q := 46) dX11_better_43 (Or.inr (Or.inr (Or.inr (Or.inl ⟨rfl, rfl, hp18⟩)))) (Nat.le_of_ble_eq_true rfl) rfl (fun t16 r15 hr19 => ?_)
          replace h := h t16 r15 hr19
          refine tt_iload_n (q := 47) dX11_better_46 rfl rfl ?_
          obtain ⟨p22, hp23, h⟩ := h
          refine callVi_2 (q := 50) dX11_better_47 (Or.inr (Or.inr (Or.inr (Or.inr (⟨rfl, rfl, hp23⟩))))) (Nat.le_of_ble_eq_true rfl) rfl (fun t21 r20 hr24 => ?_)
          replace h := h t21 r20 hr24
          refine sti_4 (q := 52) dX11_better_50 rfl rfl ?_
          refine tt_iload (q := 54) dX11_better_52 rfl rfl ?_
          refine tt_bipush (q := 56) dX11_better_54 bi_m9 rfl ?_
          refine tt_icmp_ne (q := 59) (t := 68) dX11_better_56 rfl rfl (fun c => ?_) (fun c => ?_)
          · replace h := h.1 c
            refine tt_iload (q := 70) dX11_better_68 rfl rfl ?_
            exact tt_iret dX11_better_70 ⟨rfl, _, rfl, h⟩
          · replace h := h.2 c
            refine tt_aload_n (q := 60) dX11_better_59 rfl rfl ?_
            refine tt_bipush (q := 62) dX11_better_60 bi_m3 rfl ?_
            refine callVi_1 (q := 65) dX11_better_62 (Or.inr (Or.inl ⟨rfl, rfl, ⟨⟨_, _, rfl, rfl, (Nat.le_of_ble_eq_true rfl), rc_0⟩, Nat.le_of_ble_eq_true rfl, ?_⟩⟩)) (Nat.le_of_ble_eq_true rfl) rfl (fun t27 r26 ht27 => ht27)
            refine (show TT cX11_refuse RX11 false CT0 CN0 _ _ _ none 0 [_, _, dum] [] _ _ from ?_)
            refine tt_iload_n (q := 1) dX11_refuse_0 rfl rfl ?_
            refine tt_inegE (v := nI 3) (q := 2) dX11_refuse_1 (by decide) rfl ?_
            refine sti_n_2 (q := 3) dX11_refuse_2 rfl rfl rfl ?_
            refine tt_iload_n (q := 4) dX11_refuse_3 rfl rfl ?_
            refine tt_if_le (q := 7) (t := 23) dX11_refuse_4 rfl rfl (fun c => absurd c (by decide)) (fun c => ?_)
            clear c
            refine tt_iload_n (q := 8) dX11_refuse_7 rfl rfl ?_
            refine tt_bipush (q := 10) dX11_refuse_8 bi_6 rfl ?_
            refine tt_icmp_gt (q := 13) (t := 23) dX11_refuse_10 rfl rfl (fun c => absurd c (by decide)) (fun c => ?_)
            clear c
            refine tt_aload_n (q := 14) dX11_refuse_13 rfl rfl ?_
            refine tt_getR (q := 17) dX11_refuse_14 fl_X11_96 or_0_11 (Nat.le_of_ble_eq_true rfl) rfl rfl ?_
            refine tt_iload_n (q := 18) dX11_refuse_17 rfl rfl ?_
            refine tt_dup2 (q := 19) dX11_refuse_18 rfl rfl rfl ?_
            refine tt_iald (q := 20) dX11_refuse_19 ia_101 (Nat.le_of_ble_eq_true rfl) rfl (Nat.le_of_ble_eq_true rfl : 3 < 7) rfl ?_
            refine tt_iconst (q := 21) dX11_refuse_20 ki_1 rfl ?_
            refine tt_iadd (q := 22) dX11_refuse_21 rfl ?_
            refine tt_iast (q := 23) dX11_refuse_22 ia_101 (Nat.le_of_ble_eq_true rfl) rfl (Nat.le_of_ble_eq_true rfl : 3 < 7) rfl ?_
            replace h := h _ rfl
            refine tt_iload_n (q := 24) dX11_refuse_23 rfl rfl ?_
            refine tt_iret dX11_refuse_24 ⟨rfl, _, rfl, ?_⟩
            refine tt_goto (t := 70) dX11_better_65 rfl ?_
            exact tt_iret dX11_better_70 ⟨rfl, _, rfl, h⟩
        · replace h := h.2 c
          refine tt_bipush (q := 15) dX11_outside_13 bi_m6 rfl ?_
          refine tt_goto (t := 19) dX11_outside_15 rfl ?_
          refine tt_iret dX11_outside_19 ⟨rfl, _, rfl, ?_⟩
          refine sti_n_3 (q := 24) dX11_better_23 rfl rfl rfl ?_
          refine tt_iload_n (q := 25) dX11_better_24 rfl rfl ?_
          refine tt_if_eq (q := 28) (t := 34) dX11_better_25 rfl rfl (fun c => absurd c (by decide)) (fun c => ?_)
          clear c
          refine tt_aload_n (q := 29) dX11_better_28 rfl rfl ?_
          refine tt_iload_n (q := 30) dX11_better_29 rfl rfl ?_
          refine callVi_1 (q := 33) dX11_better_30 (Or.inr (Or.inl ⟨rfl, rfl, ⟨⟨_, _, rfl, rfl, (Nat.le_of_ble_eq_true rfl), rc_0⟩, Nat.le_of_ble_eq_true rfl, ?_⟩⟩)) (Nat.le_of_ble_eq_true rfl) rfl (fun t30 r29 ht30 => ht30)
          refine (show TT cX11_refuse RX11 false CT0 CN0 _ _ _ none 0 [_, _, dum] [] _ _ from ?_)
          refine tt_iload_n (q := 1) dX11_refuse_0 rfl rfl ?_
          refine tt_inegE (v := nI 6) (q := 2) dX11_refuse_1 (by decide) rfl ?_
          refine sti_n_2 (q := 3) dX11_refuse_2 rfl rfl rfl ?_
          refine tt_iload_n (q := 4) dX11_refuse_3 rfl rfl ?_
          refine tt_if_le (q := 7) (t := 23) dX11_refuse_4 rfl rfl (fun c => absurd c (by decide)) (fun c => ?_)
          clear c
          refine tt_iload_n (q := 8) dX11_refuse_7 rfl rfl ?_
          refine tt_bipush (q := 10) dX11_refuse_8 bi_6 rfl ?_
          refine tt_icmp_gt (q := 13) (t := 23) dX11_refuse_10 rfl rfl (fun c => absurd c (by decide)) (fun c => ?_)
          clear c
          refine tt_aload_n (q := 14) dX11_refuse_13 rfl rfl ?_
          refine tt_getR (q := 17) dX11_refuse_14 fl_X11_96 or_0_11 (Nat.le_of_ble_eq_true rfl) rfl rfl ?_
          refine tt_iload_n (q := 18) dX11_refuse_17 rfl rfl ?_
          refine tt_dup2 (q := 19) dX11_refuse_18 rfl rfl rfl ?_
          refine tt_iald (q := 20) dX11_refuse_19 ia_101 (Nat.le_of_ble_eq_true rfl) rfl (Nat.le_of_ble_eq_true rfl : 6 < 7) rfl ?_
          refine tt_iconst (q := 21) dX11_refuse_20 ki_1 rfl ?_
          refine tt_iadd (q := 22) dX11_refuse_21 rfl ?_
          refine tt_iast (q := 23) dX11_refuse_22 ia_101 (Nat.le_of_ble_eq_true rfl) rfl (Nat.le_of_ble_eq_true rfl : 6 < 7) rfl ?_
          replace h := h _ rfl
          refine tt_iload_n (q := 24) dX11_refuse_23 rfl rfl ?_
          refine tt_iret dX11_refuse_24 ⟨rfl, _, rfl, ?_⟩
          exact tt_iret dX11_better_33 ⟨rfl, _, rfl, h⟩
      · replace h := h.2 c
        refine tt_bipush (q := 7) dX11_outside_5 bi_m4 rfl ?_
        refine tt_iret dX11_outside_7 ⟨rfl, _, rfl, ?_⟩
        refine sti_n_3 (q := 24) dX11_better_23 rfl rfl rfl ?_
        refine tt_iload_n (q := 25) dX11_better_24 rfl rfl ?_
        refine tt_if_eq (q := 28) (t := 34) dX11_better_25 rfl rfl (fun c => absurd c (by decide)) (fun c => ?_)
        clear c
        refine tt_aload_n (q := 29) dX11_better_28 rfl rfl ?_
        refine tt_iload_n (q := 30) dX11_better_29 rfl rfl ?_
        refine callVi_1 (q := 33) dX11_better_30 (Or.inr (Or.inl ⟨rfl, rfl, ⟨⟨_, _, rfl, rfl, (Nat.le_of_ble_eq_true rfl), rc_0⟩, Nat.le_of_ble_eq_true rfl, ?_⟩⟩)) (Nat.le_of_ble_eq_true rfl) rfl (fun t33 r32 ht33 => ht33)
        refine (show TT cX11_refuse RX11 false CT0 CN0 _ _ _ none 0 [_, _, dum] [] _ _ from ?_)
        refine tt_iload_n (q := 1) dX11_refuse_0 rfl rfl ?_
        refine tt_inegE (v := nI 4) (q := 2) dX11_refuse_1 (by decide) rfl ?_
        refine sti_n_2 (q := 3) dX11_refuse_2 rfl rfl rfl ?_
        refine tt_iload_n (q := 4) dX11_refuse_3 rfl rfl ?_
        refine tt_if_le (q := 7) (t := 23) dX11_refuse_4 rfl rfl (fun c => absurd c (by decide)) (fun c => ?_)
        clear c
        refine tt_iload_n (q := 8) dX11_refuse_7 rfl rfl ?_
        refine tt_bipush (q := 10) dX11_refuse_8 bi_6 rfl ?_
        refine tt_icmp_gt (q := 13) (t := 23) dX11_refuse_10 rfl rfl (fun c => absurd c (by decide)) (fun c => ?_)
        clear c
        refine tt_aload_n (q := 14) dX11_refuse_13 rfl rfl ?_
        refine tt_getR (q := 17) dX11_refuse_14 fl_X11_96 or_0_11 (Nat.le_of_ble_eq_true rfl) rfl rfl ?_
        refine tt_iload_n (q := 18) dX11_refuse_17 rfl rfl ?_
        refine tt_dup2 (q := 19) dX11_refuse_18 rfl rfl rfl ?_
        refine tt_iald (q := 20) dX11_refuse_19 ia_101 (Nat.le_of_ble_eq_true rfl) rfl (Nat.le_of_ble_eq_true rfl : 4 < 7) rfl ?_
        refine tt_iconst (q := 21) dX11_refuse_20 ki_1 rfl ?_
        refine tt_iadd (q := 22) dX11_refuse_21 rfl ?_
        refine tt_iast (q := 23) dX11_refuse_22 ia_101 (Nat.le_of_ble_eq_true rfl) rfl (Nat.le_of_ble_eq_true rfl : 4 < 7) rfl ?_
        replace h := h _ rfl
        refine tt_iload_n (q := 24) dX11_refuse_23 rfl rfl ?_
        refine tt_iret dX11_refuse_24 ⟨rfl, _, rfl, ?_⟩
        exact tt_iret dX11_better_33 ⟨rfl, _, rfl, h⟩

theorem g_X11_found_0 {post : SG → Int32 → Prop} {σ : SG} {a : Int32} (h : ((¬ a = (-1 : Int32) → ((a < 0 → post σ (-9 : Int32)) ∧ (¬ a < 0 → (((σ 73 1) ≤ a → post σ (-9 : Int32)) ∧ (¬ (σ 73 1) ≤ a → (∃ j5 : Nat, a = nI j5 ∧ j5 < 5 ∧ post σ (σ 74 j5))))))) ∧ (a = (-1 : Int32) → post σ (σ 73 1)))) : T_X11_found AF post 0 [.ref 0, .int a] [] σ := by
  refine tt_iload_n (q := 1) dX11_found_0 rfl rfl ?_
  refine tt_iconst (q := 2) dX11_found_1 ki_m1 rfl ?_
  refine tt_icmp_ne (q := 5) (t := 13) dX11_found_2 rfl rfl (fun c => ?_) (fun c => ?_)
  · replace h := h.1 c
    refine tt_iload_n (q := 14) dX11_found_13 rfl rfl ?_
    refine tt_if_lt (q := 17) (t := 40) dX11_found_14 rfl rfl (fun c => ?_) (fun c => ?_)
    · replace h := h.1 c
      refine tt_bipush (q := 42) dX11_found_40 bi_m9 rfl ?_
      exact tt_iret dX11_found_42 ⟨rfl, _, rfl, h⟩
    · replace h := h.2 c
      refine tt_iload_n (q := 18) dX11_found_17 rfl rfl ?_
      refine tt_aload_n (q := 19) dX11_found_18 rfl rfl ?_
      refine tt_getR (q := 22) dX11_found_19 fl_X11_53 or_0_5 (Nat.le_of_ble_eq_true rfl) rfl rfl ?_
      refine tt_getI (q := 25) dX11_found_22 fl_X11_220 oi_73_1 (Nat.le_of_ble_eq_true rfl) rfl ?_
      refine tt_icmp_ge (q := 28) (t := 40) dX11_found_25 rfl rfl (fun c => ?_) (fun c => ?_)
      · replace h := h.1 c
        refine tt_bipush (q := 42) dX11_found_40 bi_m9 rfl ?_
        exact tt_iret dX11_found_42 ⟨rfl, _, rfl, h⟩
      · replace h := h.2 c
        refine tt_aload_n (q := 29) dX11_found_28 rfl rfl ?_
        refine tt_getR (q := 32) dX11_found_29 fl_X11_53 or_0_5 (Nat.le_of_ble_eq_true rfl) rfl rfl ?_
        refine tt_getR (q := 35) dX11_found_32 fl_X11_223 or_73_0 (Nat.le_of_ble_eq_true rfl) rfl rfl ?_
        refine tt_iload_n (q := 36) dX11_found_35 rfl rfl ?_
        obtain ⟨j5, e6, l4, h⟩ := h
        refine tt_iald (q := 37) dX11_found_36 ia_74 (Nat.le_of_ble_eq_true rfl) e6 l4 rfl ?_
        refine tt_goto (t := 42) dX11_found_37 rfl ?_
        exact tt_iret dX11_found_42 ⟨rfl, _, rfl, h⟩
  · replace h := h.2 c
    refine tt_aload_n (q := 6) dX11_found_5 rfl rfl ?_
    refine tt_getR (q := 9) dX11_found_6 fl_X11_53 or_0_5 (Nat.le_of_ble_eq_true rfl) rfl rfl ?_
    refine tt_getI (q := 12) dX11_found_9 fl_X11_220 oi_73_1 (Nat.le_of_ble_eq_true rfl) rfl ?_
    exact tt_iret dX11_found_12 ⟨rfl, _, rfl, h⟩

theorem g_X11_fewest_0 {post : SG → Int32 → Prop} {σ : SG} (h : (∃ j2 : Nat, (σ 0 12) = nI j2 ∧ j2 < 720 ∧ post σ (σ 34 j2))) : T_X11_fewest AF post 0 [.ref 0] [] σ := by
  refine tt_aload_n (q := 1) dX11_fewest_0 rfl rfl ?_
  refine tt_getR (q := 4) dX11_fewest_1 fl_X11_28 or_0_2 (Nat.le_of_ble_eq_true rfl) rfl rfl ?_
  refine tt_getR (q := 7) dX11_fewest_4 fl_X11_226 or_7_3 (Nat.le_of_ble_eq_true rfl) rfl rfl ?_
  refine tt_aload_n (q := 8) dX11_fewest_7 rfl rfl ?_
  refine tt_getI (q := 11) dX11_fewest_8 fl_X11_100 oi_0_12 (Nat.le_of_ble_eq_true rfl) rfl ?_
  obtain ⟨j2, e3, l1, h⟩ := h
  refine tt_iald (q := 12) dX11_fewest_11 ia_34 (Nat.le_of_ble_eq_true rfl) e3 l1 rfl ?_
  exact tt_iret dX11_fewest_12 ⟨rfl, _, rfl, h⟩

theorem g_X11_first_0 {post : SG → Int32 → Prop} {σ : SG} (h : (∃ p3 : SG → Int32 → Prop, IN_X9_firstTowardsSolved AF σ [.ref 7, .int (σ 0 12)] p3 ∧ ∀ (t2 : SG) (r1 : Int32), p3 t2 r1 → post t2 r1)) : T_X11_first AF post 0 [.ref 0] [] σ := by
  refine tt_aload_n (q := 1) dX11_first_0 rfl rfl ?_
  refine tt_getR (q := 4) dX11_first_1 fl_X11_28 or_0_2 (Nat.le_of_ble_eq_true rfl) rfl rfl ?_
  refine tt_aload_n (q := 5) dX11_first_4 rfl rfl ?_
  refine tt_getI (q := 8) dX11_first_5 fl_X11_100 oi_0_12 (Nat.le_of_ble_eq_true rfl) rfl ?_
  obtain ⟨p3, hp4, h⟩ := h
  refine callVi_1 (q := 11) dX11_first_8 (⟨rfl, rfl, hp4⟩) (Nat.le_of_ble_eq_true rfl) rfl (fun t2 r1 hr5 => ?_)
  replace h := h t2 r1 hr5
  exact tt_iret dX11_first_11 ⟨rfl, _, rfl, h⟩

theorem g_X11_step_0 {post : SG → Int32 → Prop} {σ : SG} {a : Int32} {b : Int32} (h : ((a < 0 → (∀ s4 : SG, s4 = up σ 101 1 ((σ 101 1) + (nI 1)) → post s4 (-1 : Int32))) ∧ (¬ a < 0 → (((nI 64) ≤ a → (∀ s8 : SG, s8 = up σ 101 1 ((σ 101 1) + (nI 1)) → post s8 (-1 : Int32))) ∧ (¬ (nI 64) ≤ a → ((b < 0 → (∀ s12 : SG, s12 = up σ 101 1 ((σ 101 1) + (nI 1)) → post s12 (-1 : Int32))) ∧ (¬ b < 0 → ((b < (nI 1024) → (((σ 77 0) < (nI 4) → (∃ j18 : Nat, (σ 77 0) = nI j18 ∧ j18 < 4 ∧ (∀ s20 : SG, s20 = up σ 78 j18 a → (∃ j22 : Nat, (s20 77 0) = nI j22 ∧ j22 < 4 ∧ (∀ s24 : SG, s24 = up s20 79 j22 b → (∃ j26 : Nat, (s24 77 0) = nI j26 ∧ j26 < 4 ∧ (∀ s28 : SG, s28 = up s24 80 j26 (nI 0) → (∀ s29 : SG, s29 = up s28 77 0 ((s28 77 0) + (nI 1)) → post s29 ((s29 77 0) - (nI 1)))))))))) ∧ (¬ (σ 77 0) < (nI 4) → (∀ s32 : SG, s32 = up σ 101 6 ((σ 101 6) + (nI 1)) → post s32 (-6 : Int32))))) ∧ (¬ b < (nI 1024) → (∀ s35 : SG, s35 = up σ 101 1 ((σ 101 1) + (nI 1)) → post s35 (-1 : Int32))))))))))) : T_X11_step AF post 0 [.ref 0, .int a, .int b] [] σ := by
  refine tt_iload_n (q := 1) dX11_step_0 rfl rfl ?_
  refine tt_if_lt (q := 4) (t := 21) dX11_step_1 rfl rfl (fun c => ?_) (fun c => ?_)
  · replace h := h.1 c
    refine tt_aload_n (q := 22) dX11_step_21 rfl rfl ?_
    refine tt_iconst (q := 23) dX11_step_22 ki_m1 rfl ?_
    refine callVi_1 (q := 26) dX11_step_23 (Or.inl ⟨rfl, rfl, ⟨⟨_, _, rfl, rfl, (Nat.le_of_ble_eq_true rfl), rc_0⟩, Nat.le_of_ble_eq_true rfl, ?_⟩⟩) (Nat.le_of_ble_eq_true rfl) rfl (fun t3 r2 ht3 => ht3)
    refine (show TT cX11_refuse RX11 false CT0 CN0 _ _ _ none 0 [_, _, dum] [] _ _ from ?_)
    refine tt_iload_n (q := 1) dX11_refuse_0 rfl rfl ?_
    refine tt_inegE (v := nI 1) (q := 2) dX11_refuse_1 (by decide) rfl ?_
    refine sti_n_2 (q := 3) dX11_refuse_2 rfl rfl rfl ?_
    refine tt_iload_n (q := 4) dX11_refuse_3 rfl rfl ?_
    refine tt_if_le (q := 7) (t := 23) dX11_refuse_4 rfl rfl (fun c => absurd c (by decide)) (fun c => ?_)
    clear c
    refine tt_iload_n (q := 8) dX11_refuse_7 rfl rfl ?_
    refine tt_bipush (q := 10) dX11_refuse_8 bi_6 rfl ?_
    refine tt_icmp_gt (q := 13) (t := 23) dX11_refuse_10 rfl rfl (fun c => absurd c (by decide)) (fun c => ?_)
    clear c
    refine tt_aload_n (q := 14) dX11_refuse_13 rfl rfl ?_
    refine tt_getR (q := 17) dX11_refuse_14 fl_X11_96 or_0_11 (Nat.le_of_ble_eq_true rfl) rfl rfl ?_
    refine tt_iload_n (q := 18) dX11_refuse_17 rfl rfl ?_
    refine tt_dup2 (q := 19) dX11_refuse_18 rfl rfl rfl ?_
    refine tt_iald (q := 20) dX11_refuse_19 ia_101 (Nat.le_of_ble_eq_true rfl) rfl (Nat.le_of_ble_eq_true rfl : 1 < 7) rfl ?_
    refine tt_iconst (q := 21) dX11_refuse_20 ki_1 rfl ?_
    refine tt_iadd (q := 22) dX11_refuse_21 rfl ?_
    refine tt_iast (q := 23) dX11_refuse_22 ia_101 (Nat.le_of_ble_eq_true rfl) rfl (Nat.le_of_ble_eq_true rfl : 1 < 7) rfl ?_
    replace h := h _ rfl
    refine tt_iload_n (q := 24) dX11_refuse_23 rfl rfl ?_
    refine tt_iret dX11_refuse_24 ⟨rfl, _, rfl, ?_⟩
    exact tt_iret dX11_step_26 ⟨rfl, _, rfl, h⟩
  · replace h := h.2 c
    refine tt_iload_n (q := 5) dX11_step_4 rfl rfl ?_
    refine tt_bipush (q := 7) dX11_step_5 bi_64 rfl ?_
    refine tt_icmp_ge (q := 10) (t := 21) dX11_step_7 rfl rfl (fun c => ?_) (fun c => ?_)
    · replace h := h.1 c
      refine tt_aload_n (q := 22) dX11_step_21 rfl rfl ?_
      refine tt_iconst (q := 23) dX11_step_22 ki_m1 rfl ?_
      refine callVi_1 (q := 26) dX11_step_23 (Or.inl ⟨rfl, rfl, ⟨⟨_, _, rfl, rfl, (Nat.le_of_ble_eq_true rfl), rc_0⟩, Nat.le_of_ble_eq_true rfl, ?_⟩⟩) (Nat.le_of_ble_eq_true rfl) rfl (fun t7 r6 ht7 => ht7)
      refine (show TT cX11_refuse RX11 false CT0 CN0 _ _ _ none 0 [_, _, dum] [] _ _ from ?_)
      refine tt_iload_n (q := 1) dX11_refuse_0 rfl rfl ?_
      refine tt_inegE (v := nI 1) (q := 2) dX11_refuse_1 (by decide) rfl ?_
      refine sti_n_2 (q := 3) dX11_refuse_2 rfl rfl rfl ?_
      refine tt_iload_n (q := 4) dX11_refuse_3 rfl rfl ?_
      refine tt_if_le (q := 7) (t := 23) dX11_refuse_4 rfl rfl (fun c => absurd c (by decide)) (fun c => ?_)
      clear c
      refine tt_iload_n (q := 8) dX11_refuse_7 rfl rfl ?_
      refine tt_bipush (q := 10) dX11_refuse_8 bi_6 rfl ?_
      refine tt_icmp_gt (q := 13) (t := 23) dX11_refuse_10 rfl rfl (fun c => absurd c (by decide)) (fun c => ?_)
      clear c
      refine tt_aload_n (q := 14) dX11_refuse_13 rfl rfl ?_
      refine tt_getR (q := 17) dX11_refuse_14 fl_X11_96 or_0_11 (Nat.le_of_ble_eq_true rfl) rfl rfl ?_
      refine tt_iload_n (q := 18) dX11_refuse_17 rfl rfl ?_
      refine tt_dup2 (q := 19) dX11_refuse_18 rfl rfl rfl ?_
      refine tt_iald (q := 20) dX11_refuse_19 ia_101 (Nat.le_of_ble_eq_true rfl) rfl (Nat.le_of_ble_eq_true rfl : 1 < 7) rfl ?_
      refine tt_iconst (q := 21) dX11_refuse_20 ki_1 rfl ?_
      refine tt_iadd (q := 22) dX11_refuse_21 rfl ?_
      refine tt_iast (q := 23) dX11_refuse_22 ia_101 (Nat.le_of_ble_eq_true rfl) rfl (Nat.le_of_ble_eq_true rfl : 1 < 7) rfl ?_
      replace h := h _ rfl
      refine tt_iload_n (q := 24) dX11_refuse_23 rfl rfl ?_
      refine tt_iret dX11_refuse_24 ⟨rfl, _, rfl, ?_⟩
      exact tt_iret dX11_step_26 ⟨rfl, _, rfl, h⟩
    · replace h := h.2 c
      refine tt_iload_n (q := 11) dX11_step_10 rfl rfl ?_
      refine tt_if_lt (q := 14) (t := 21) dX11_step_11 rfl rfl (fun c => ?_) (fun c => ?_)
      · replace h := h.1 c
        refine tt_aload_n (q := 22) dX11_step_21 rfl rfl ?_
        refine tt_iconst (q := 23) dX11_step_22 ki_m1 rfl ?_
        refine callVi_1 (q := 26) dX11_step_23 (Or.inl ⟨rfl, rfl, ⟨⟨_, _, rfl, rfl, (Nat.le_of_ble_eq_true rfl), rc_0⟩, Nat.le_of_ble_eq_true rfl, ?_⟩⟩) (Nat.le_of_ble_eq_true rfl) rfl (fun t11 r10 ht11 => ht11)
        refine (show TT cX11_refuse RX11 false CT0 CN0 _ _ _ none 0 [_, _, dum] [] _ _ from ?_)
        refine tt_iload_n (q := 1) dX11_refuse_0 rfl rfl ?_
        refine tt_inegE (v := nI 1) (q := 2) dX11_refuse_1 (by decide) rfl ?_
        refine sti_n_2 (q := 3) dX11_refuse_2 rfl rfl rfl ?_
        refine tt_iload_n (q := 4) dX11_refuse_3 rfl rfl ?_
        refine tt_if_le (q := 7) (t := 23) dX11_refuse_4 rfl rfl (fun c => absurd c (by decide)) (fun c => ?_)
        clear c
        refine tt_iload_n (q := 8) dX11_refuse_7 rfl rfl ?_
        refine tt_bipush (q := 10) dX11_refuse_8 bi_6 rfl ?_
        refine tt_icmp_gt (q := 13) (t := 23) dX11_refuse_10 rfl rfl (fun c => absurd c (by decide)) (fun c => ?_)
        clear c
        refine tt_aload_n (q := 14) dX11_refuse_13 rfl rfl ?_
        refine tt_getR (q := 17) dX11_refuse_14 fl_X11_96 or_0_11 (Nat.le_of_ble_eq_true rfl) rfl rfl ?_
        refine tt_iload_n (q := 18) dX11_refuse_17 rfl rfl ?_
        refine tt_dup2 (q := 19) dX11_refuse_18 rfl rfl rfl ?_
        refine tt_iald (q := 20) dX11_refuse_19 ia_101 (Nat.le_of_ble_eq_true rfl) rfl (Nat.le_of_ble_eq_true rfl : 1 < 7) rfl ?_
        refine tt_iconst (q := 21) dX11_refuse_20 ki_1 rfl ?_
        refine tt_iadd (q := 22) dX11_refuse_21 rfl ?_
        refine tt_iast (q := 23) dX11_refuse_22 ia_101 (Nat.le_of_ble_eq_true rfl) rfl (Nat.le_of_ble_eq_true rfl : 1 < 7) rfl ?_
        replace h := h _ rfl
        refine tt_iload_n (q := 24) dX11_refuse_23 rfl rfl ?_
        refine tt_iret dX11_refuse_24 ⟨rfl, _, rfl, ?_⟩
        exact tt_iret dX11_step_26 ⟨rfl, _, rfl, h⟩
      · replace h := h.2 c
        refine tt_iload_n (q := 15) dX11_step_14 rfl rfl ?_
        refine tt_sipush (q := 18) dX11_step_15 si_1024 rfl ?_
        refine tt_icmp_lt (q := 21) (t := 27) dX11_step_18 rfl rfl (fun c => ?_) (fun c => ?_)
        · replace h := h.1 c
          refine tt_aload_n (q := 28) dX11_step_27 rfl rfl ?_
          refine tt_getR (q := 31) dX11_step_28 fl_X11_62 or_0_6 (Nat.le_of_ble_eq_true rfl) rfl rfl ?_
          refine tt_getI (q := 34) dX11_step_31 fl_X11_232 oi_77_0 (Nat.le_of_ble_eq_true rfl) rfl ?_
          refine tt_iconst (q := 35) dX11_step_34 ki_4 rfl ?_
          refine tt_icmp_lt (q := 38) (t := 45) dX11_step_35 rfl rfl (fun c => ?_) (fun c => ?_)
          · replace h := h.1 c
            refine tt_aload_n (q := 46) dX11_step_45 rfl rfl ?_
            refine tt_getR (q := 49) dX11_step_46 fl_X11_62 or_0_6 (Nat.le_of_ble_eq_true rfl) rfl rfl ?_
            refine tt_iload_n (q := 50) dX11_step_49 rfl rfl ?_
            refine tt_iload_n (q := 51) dX11_step_50 rfl rfl ?_
            refine callVvI_2 (q := 54) dX11_step_51 (Or.inr (⟨rfl, rfl, ⟨⟨_, _, rfl, rfl, (Nat.le_of_ble_eq_true rfl), rc_77⟩, Nat.le_of_ble_eq_true rfl, ?_⟩⟩)) (Nat.le_of_ble_eq_true rfl) rfl (fun t16 ht16 => ht16)
            refine (show TT cX10_add RX10 false CT0 CN0 _ _ _ none 0 [_, _, _] [] _ _ from ?_)
            refine tt_aload_n (q := 1) dX10_add_0 rfl rfl ?_
            refine tt_getR (q := 4) dX10_add_1 fl_X10_9 or_77_1 (Nat.le_of_ble_eq_true rfl) rfl rfl ?_
            refine tt_aload_n (q := 5) dX10_add_4 rfl rfl ?_
            refine tt_getI (q := 8) dX10_add_5 fl_X10_33 oi_77_0 (Nat.le_of_ble_eq_true rfl) rfl ?_
            refine tt_iload_n (q := 9) dX10_add_8 rfl rfl ?_
            obtain ⟨j18, e19, l17, h⟩ := h
            refine tt_iast (q := 10) dX10_add_9 ia_78 (Nat.le_of_ble_eq_true rfl) e19 l17 rfl ?_
            replace h := h _ rfl
            refine tt_aload_n (q := 11) dX10_add_10 rfl rfl ?_
            refine tt_getR (q := 14) dX10_add_11 fl_X10_15 or_77_2 (Nat.le_of_ble_eq_true rfl) rfl rfl ?_
            refine tt_aload_n (q := 15) dX10_add_14 rfl rfl ?_
            refine tt_getI (q := 18) dX10_add_15 fl_X10_33 oi_77_0 (Nat.le_of_ble_eq_true rfl) rfl ?_
            refine tt_iload_n (q := 19) dX10_add_18 rfl rfl ?_
            obtain ⟨j22, e23, l21, h⟩ := h
            refine tt_iast (q := 20) dX10_add_19 ia_79 (Nat.le_of_ble_eq_true rfl) e23 l21 rfl ?_
            replace h := h _ rfl
            refine tt_aload_n (q := 21) dX10_add_20 rfl rfl ?_
            refine tt_getR (q := 24) dX10_add_21 fl_X10_18 or_77_3 (Nat.le_of_ble_eq_true rfl) rfl rfl ?_
            refine tt_aload_n (q := 25) dX10_add_24 rfl rfl ?_
            refine tt_getI (q := 28) dX10_add_25 fl_X10_33 oi_77_0 (Nat.le_of_ble_eq_true rfl) rfl ?_
            refine tt_iconst (q := 29) dX10_add_28 ki_0 rfl ?_
            obtain ⟨j26, e27, l25, h⟩ := h
            refine tt_iast (q := 30) dX10_add_29 ia_80 (Nat.le_of_ble_eq_true rfl) e27 l25 rfl ?_
            replace h := h _ rfl
            refine tt_aload_n (q := 31) dX10_add_30 rfl rfl ?_
            refine tt_dup (q := 32) dX10_add_31 rfl rfl ?_
            refine tt_getI (q := 35) dX10_add_32 fl_X10_33 oi_77_0 (Nat.le_of_ble_eq_true rfl) rfl ?_
            refine tt_iconst (q := 36) dX10_add_35 ki_1 rfl ?_
            refine tt_iadd (q := 37) dX10_add_36 rfl ?_
            refine tt_putI (q := 40) dX10_add_37 fl_X10_33 oi_77_0 (fp_10_0 _) (Nat.le_of_ble_eq_true rfl) rfl ?_
            replace h := h _ rfl
            refine tt_vret dX10_add_40 ⟨rfl, rfl, ?_⟩
            refine tt_aload_n (q := 55) dX11_step_54 rfl rfl ?_
            refine tt_getR (q := 58) dX11_step_55 fl_X11_62 or_0_6 (Nat.le_of_ble_eq_true rfl) rfl rfl ?_
            refine tt_getI (q := 61) dX11_step_58 fl_X11_232 oi_77_0 (Nat.le_of_ble_eq_true rfl) rfl ?_
            refine tt_iconst (q := 62) dX11_step_61 ki_1 rfl ?_
            refine tt_isub (q := 63) dX11_step_62 rfl ?_
            exact tt_iret dX11_step_63 ⟨rfl, _, rfl, h⟩
          · replace h := h.2 c
            refine tt_aload_n (q := 39) dX11_step_38 rfl rfl ?_
            refine tt_bipush (q := 41) dX11_step_39 bi_m6 rfl ?_
            refine callVi_1 (q := 44) dX11_step_41 (Or.inl ⟨rfl, rfl, ⟨⟨_, _, rfl, rfl, (Nat.le_of_ble_eq_true rfl), rc_0⟩, Nat.le_of_ble_eq_true rfl, ?_⟩⟩) (Nat.le_of_ble_eq_true rfl) rfl (fun t31 r30 ht31 => ht31)
            refine (show TT cX11_refuse RX11 false CT0 CN0 _ _ _ none 0 [_, _, dum] [] _ _ from ?_)
            refine tt_iload_n (q := 1) dX11_refuse_0 rfl rfl ?_
            refine tt_inegE (v := nI 6) (q := 2) dX11_refuse_1 (by decide) rfl ?_
            refine sti_n_2 (q := 3) dX11_refuse_2 rfl rfl rfl ?_
            refine tt_iload_n (q := 4) dX11_refuse_3 rfl rfl ?_
            refine tt_if_le (q := 7) (t := 23) dX11_refuse_4 rfl rfl (fun c => absurd c (by decide)) (fun c => ?_)
            clear c
            refine tt_iload_n (q := 8) dX11_refuse_7 rfl rfl ?_
            refine tt_bipush (q := 10) dX11_refuse_8 bi_6 rfl ?_
            refine tt_icmp_gt (q := 13) (t := 23) dX11_refuse_10 rfl rfl (fun c => absurd c (by decide)) (fun c => ?_)
            clear c
            refine tt_aload_n (q := 14) dX11_refuse_13 rfl rfl ?_
            refine tt_getR (q := 17) dX11_refuse_14 fl_X11_96 or_0_11 (Nat.le_of_ble_eq_true rfl) rfl rfl ?_
            refine tt_iload_n (q := 18) dX11_refuse_17 rfl rfl ?_
            refine tt_dup2 (q := 19) dX11_refuse_18 rfl rfl rfl ?_
            refine tt_iald (q := 20) dX11_refuse_19 ia_101 (Nat.le_of_ble_eq_true rfl) rfl (Nat.le_of_ble_eq_true rfl : 6 < 7) rfl ?_
            refine tt_iconst (q := 21) dX11_refuse_20 ki_1 rfl ?_
            refine tt_iadd (q := 22) dX11_refuse_21 rfl ?_
            refine tt_iast (q := 23) dX11_refuse_22 ia_101 (Nat.le_of_ble_eq_true rfl) rfl (Nat.le_of_ble_eq_true rfl : 6 < 7) rfl ?_
            replace h := h _ rfl
            refine tt_iload_n (q := 24) dX11_refuse_23 rfl rfl ?_
            refine tt_iret dX11_refuse_24 ⟨rfl, _, rfl, ?_⟩
            exact tt_iret dX11_step_44 ⟨rfl, _, rfl, h⟩
        · replace h := h.2 c
          refine tt_aload_n (q := 22) dX11_step_21 rfl rfl ?_
          refine tt_iconst (q := 23) dX11_step_22 ki_m1 rfl ?_
          refine callVi_1 (q := 26) dX11_step_23 (Or.inl ⟨rfl, rfl, ⟨⟨_, _, rfl, rfl, (Nat.le_of_ble_eq_true rfl), rc_0⟩, Nat.le_of_ble_eq_true rfl, ?_⟩⟩) (Nat.le_of_ble_eq_true rfl) rfl (fun t34 r33 ht34 => ht34)
          refine (show TT cX11_refuse RX11 false CT0 CN0 _ _ _ none 0 [_, _, dum] [] _ _ from ?_)
          refine tt_iload_n (q := 1) dX11_refuse_0 rfl rfl ?_
          refine tt_inegE (v := nI 1) (q := 2) dX11_refuse_1 (by decide) rfl ?_
          refine sti_n_2 (q := 3) dX11_refuse_2 rfl rfl rfl ?_
          refine tt_iload_n (q := 4) dX11_refuse_3 rfl rfl ?_
          refine tt_if_le (q := 7) (t := 23) dX11_refuse_4 rfl rfl (fun c => absurd c (by decide)) (fun c => ?_)
          clear c
          refine tt_iload_n (q := 8) dX11_refuse_7 rfl rfl ?_
          refine tt_bipush (q := 10) dX11_refuse_8 bi_6 rfl ?_
          refine tt_icmp_gt (q := 13) (t := 23) dX11_refuse_10 rfl rfl (fun c => absurd c (by decide)) (fun c => ?_)
          clear c
          refine tt_aload_n (q := 14) dX11_refuse_13 rfl rfl ?_
          refine tt_getR (q := 17) dX11_refuse_14 fl_X11_96 or_0_11 (Nat.le_of_ble_eq_true rfl) rfl rfl ?_
          refine tt_iload_n (q := 18) dX11_refuse_17 rfl rfl ?_
          refine tt_dup2 (q := 19) dX11_refuse_18 rfl rfl rfl ?_
          refine tt_iald (q := 20) dX11_refuse_19 ia_101 (Nat.le_of_ble_eq_true rfl) rfl (Nat.le_of_ble_eq_true rfl : 1 < 7) rfl ?_
          refine tt_iconst (q := 21) dX11_refuse_20 ki_1 rfl ?_
          refine tt_iadd (q := 22) dX11_refuse_21 rfl ?_
          refine tt_iast (q := 23) dX11_refuse_22 ia_101 (Nat.le_of_ble_eq_true rfl) rfl (Nat.le_of_ble_eq_true rfl : 1 < 7) rfl ?_
          replace h := h _ rfl
          refine tt_iload_n (q := 24) dX11_refuse_23 rfl rfl ?_
          refine tt_iret dX11_refuse_24 ⟨rfl, _, rfl, ?_⟩
          exact tt_iret dX11_step_26 ⟨rfl, _, rfl, h⟩

theorem g_X11_tried_0 {post : SG → Int32 → Prop} {σ : SG} (h : (∃ p3 : SG → Int32 → Prop, IN_X10_tryFrom AF σ [.ref 77, .int (σ 0 12), .ref 81] p3 ∧ ∀ t2 : SG, p3 t2 0 → post t2 (t2 81 1))) : T_X11_tried AF post 0 [.ref 0] [] σ := by
  refine tt_aload_n (q := 1) dX11_tried_0 rfl rfl ?_
  refine tt_getR (q := 4) dX11_tried_1 fl_X11_62 or_0_6 (Nat.le_of_ble_eq_true rfl) rfl rfl ?_
  refine tt_aload_n (q := 5) dX11_tried_4 rfl rfl ?_
  refine tt_getI (q := 8) dX11_tried_5 fl_X11_100 oi_0_12 (Nat.le_of_ble_eq_true rfl) rfl ?_
  refine tt_aload_n (q := 9) dX11_tried_8 rfl rfl ?_
  refine tt_getR (q := 12) dX11_tried_9 fl_X11_69 or_0_7 (Nat.le_of_ble_eq_true rfl) rfl rfl ?_
  obtain ⟨p3, hp4, h⟩ := h
  refine callVv_2 (q := 15) dX11_tried_12 (⟨rfl, rfl, hp4⟩) (Nat.le_of_ble_eq_true rfl) rfl (fun t2 hr5 => ?_)
  replace h := h t2 hr5
  refine tt_aload_n (q := 16) dX11_tried_15 rfl rfl ?_
  refine tt_getR (q := 19) dX11_tried_16 fl_X11_69 or_0_7 (Nat.le_of_ble_eq_true rfl) rfl rfl ?_
  refine tt_getI (q := 22) dX11_tried_19 fl_X11_240 oi_81_1 (Nat.le_of_ble_eq_true rfl) rfl ?_
  exact tt_iret dX11_tried_22 ⟨rfl, _, rfl, h⟩

theorem g_X11_triedRow_0 {post : SG → Int32 → Prop} {σ : SG} {a : Int32} (h : ((a < 0 → (∀ s6 : SG, s6 = up σ 101 1 ((σ 101 1) + (nI 1)) → post s6 (-1 : Int32))) ∧ (¬ a < 0 → (((σ 77 0) ≤ a → (∀ s10 : SG, s10 = up σ 101 1 ((σ 101 1) + (nI 1)) → post s10 (-1 : Int32))) ∧ (¬ (σ 77 0) ≤ a → (∃ p13 : SG → Int32 → Prop, IN_X10_tryFrom AF σ [.ref 77, .int (σ 0 12), .ref 81] p13 ∧ ∀ t12 : SG, p13 t12 0 → (∃ j17 : Nat, a = nI j17 ∧ j17 < 4 ∧ post t12 (t12 82 j17)))))))) : T_X11_triedRow AF post 0 [.ref 0, .int a] [] σ := by
  refine tt_aload_n (q := 1) dX11_triedRow_0 rfl rfl ?_
  refine tt_getR (q := 4) dX11_triedRow_1 fl_X11_62 or_0_6 (Nat.le_of_ble_eq_true rfl) rfl rfl ?_
  refine tt_iload_n (q := 5) dX11_triedRow_4 rfl rfl ?_
  refine callVi_1 (q := 8) dX11_triedRow_5 (Or.inl ⟨rfl, rfl, ⟨⟨_, _, rfl, rfl, (Nat.le_of_ble_eq_true rfl), rc_77⟩, Nat.le_of_ble_eq_true rfl, ?_⟩⟩) (Nat.le_of_ble_eq_true rfl) rfl (fun t2 r1 ht2 => ht2)
  refine (show TT cX10_has RX10 false CT0 CN0 _ _ _ none 0 [_, _] [] _ _ from ?_)
  refine tt_iload_n (q := 1) dX10_has_0 rfl rfl ?_
  refine tt_if_lt (q := 4) (t := 16) dX10_has_1 rfl rfl (fun c => ?_) (fun c => ?_)
  · replace h := h.1 c
    refine tt_iconst (q := 17) dX10_has_16 ki_0 rfl ?_
    refine tt_iret dX10_has_17 ⟨rfl, _, rfl, Or.inl nI_0, ?_⟩
    refine tt_if_ne (q := 11) (t := 17) dX11_triedRow_8 rfl rfl (fun c => absurd c (by decide)) (fun c => ?_)
    clear c
    refine tt_aload_n (q := 12) dX11_triedRow_11 rfl rfl ?_
    refine tt_iconst (q := 13) dX11_triedRow_12 ki_m1 rfl ?_
    refine callVi_1 (q := 16) dX11_triedRow_13 (Or.inr (Or.inl ⟨rfl, rfl, ⟨⟨_, _, rfl, rfl, (Nat.le_of_ble_eq_true rfl), rc_0⟩, Nat.le_of_ble_eq_true rfl, ?_⟩⟩)) (Nat.le_of_ble_eq_true rfl) rfl (fun t5 r4 ht5 => ht5)
    refine (show TT cX11_refuse RX11 false CT0 CN0 _ _ _ none 0 [_, _, dum] [] _ _ from ?_)
    refine tt_iload_n (q := 1) dX11_refuse_0 rfl rfl ?_
    refine tt_inegE (v := nI 1) (q := 2) dX11_refuse_1 (by decide) rfl ?_
    refine sti_n_2 (q := 3) dX11_refuse_2 rfl rfl rfl ?_
    refine tt_iload_n (q := 4) dX11_refuse_3 rfl rfl ?_
    refine tt_if_le (q := 7) (t := 23) dX11_refuse_4 rfl rfl (fun c => absurd c (by decide)) (fun c => ?_)
    clear c
    refine tt_iload_n (q := 8) dX11_refuse_7 rfl rfl ?_
    refine tt_bipush (q := 10) dX11_refuse_8 bi_6 rfl ?_
    refine tt_icmp_gt (q := 13) (t := 23) dX11_refuse_10 rfl rfl (fun c => absurd c (by decide)) (fun c => ?_)
    clear c
    refine tt_aload_n (q := 14) dX11_refuse_13 rfl rfl ?_
    refine tt_getR (q := 17) dX11_refuse_14 fl_X11_96 or_0_11 (Nat.le_of_ble_eq_true rfl) rfl rfl ?_
    refine tt_iload_n (q := 18) dX11_refuse_17 rfl rfl ?_
    refine tt_dup2 (q := 19) dX11_refuse_18 rfl rfl rfl ?_
    refine tt_iald (q := 20) dX11_refuse_19 ia_101 (Nat.le_of_ble_eq_true rfl) rfl (Nat.le_of_ble_eq_true rfl : 1 < 7) rfl ?_
    refine tt_iconst (q := 21) dX11_refuse_20 ki_1 rfl ?_
    refine tt_iadd (q := 22) dX11_refuse_21 rfl ?_
    refine tt_iast (q := 23) dX11_refuse_22 ia_101 (Nat.le_of_ble_eq_true rfl) rfl (Nat.le_of_ble_eq_true rfl : 1 < 7) rfl ?_
    replace h := h _ rfl
    refine tt_iload_n (q := 24) dX11_refuse_23 rfl rfl ?_
    refine tt_iret dX11_refuse_24 ⟨rfl, _, rfl, ?_⟩
    exact tt_iret dX11_triedRow_16 ⟨rfl, _, rfl, h⟩
  · replace h := h.2 c
    refine tt_iload_n (q := 5) dX10_has_4 rfl rfl ?_
    refine tt_aload_n (q := 6) dX10_has_5 rfl rfl ?_
    refine tt_getI (q := 9) dX10_has_6 fl_X10_33 oi_77_0 (Nat.le_of_ble_eq_true rfl) rfl ?_
    refine tt_icmp_ge (q := 12) (t := 16) dX10_has_9 rfl rfl (fun c => ?_) (fun c => ?_)
    · replace h := h.1 c
      refine tt_iconst (q := 17) dX10_has_16 ki_0 rfl ?_
      refine tt_iret dX10_has_17 ⟨rfl, _, rfl, Or.inl nI_0, ?_⟩
      refine tt_if_ne (q := 11) (t := 17) dX11_triedRow_8 rfl rfl (fun c => absurd c (by decide)) (fun c => ?_)
      clear c
      refine tt_aload_n (q := 12) dX11_triedRow_11 rfl rfl ?_
      refine tt_iconst (q := 13) dX11_triedRow_12 ki_m1 rfl ?_
      refine callVi_1 (q := 16) dX11_triedRow_13 (Or.inr (Or.inl ⟨rfl, rfl, ⟨⟨_, _, rfl, rfl, (Nat.le_of_ble_eq_true rfl), rc_0⟩, Nat.le_of_ble_eq_true rfl, ?_⟩⟩)) (Nat.le_of_ble_eq_true rfl) rfl (fun t9 r8 ht9 => ht9)
      refine (show TT cX11_refuse RX11 false CT0 CN0 _ _ _ none 0 [_, _, dum] [] _ _ from ?_)
      refine tt_iload_n (q := 1) dX11_refuse_0 rfl rfl ?_
      refine tt_inegE (v := nI 1) (q := 2) dX11_refuse_1 (by decide) rfl ?_
      refine sti_n_2 (q := 3) dX11_refuse_2 rfl rfl rfl ?_
      refine tt_iload_n (q := 4) dX11_refuse_3 rfl rfl ?_
      refine tt_if_le (q := 7) (t := 23) dX11_refuse_4 rfl rfl (fun c => absurd c (by decide)) (fun c => ?_)
      clear c
      refine tt_iload_n (q := 8) dX11_refuse_7 rfl rfl ?_
      refine tt_bipush (q := 10) dX11_refuse_8 bi_6 rfl ?_
      refine tt_icmp_gt (q := 13) (t := 23) dX11_refuse_10 rfl rfl (fun c => absurd c (by decide)) (fun c => ?_)
      clear c
      refine tt_aload_n (q := 14) dX11_refuse_13 rfl rfl ?_
      refine tt_getR (q := 17) dX11_refuse_14 fl_X11_96 or_0_11 (Nat.le_of_ble_eq_true rfl) rfl rfl ?_
      refine tt_iload_n (q := 18) dX11_refuse_17 rfl rfl ?_
      refine tt_dup2 (q := 19) dX11_refuse_18 rfl rfl rfl ?_
      refine tt_iald (q := 20) dX11_refuse_19 ia_101 (Nat.le_of_ble_eq_true rfl) rfl (Nat.le_of_ble_eq_true rfl : 1 < 7) rfl ?_
      refine tt_iconst (q := 21) dX11_refuse_20 ki_1 rfl ?_
      refine tt_iadd (q := 22) dX11_refuse_21 rfl ?_
      refine tt_iast (q := 23) dX11_refuse_22 ia_101 (Nat.le_of_ble_eq_true rfl) rfl (Nat.le_of_ble_eq_true rfl : 1 < 7) rfl ?_
      replace h := h _ rfl
      refine tt_iload_n (q := 24) dX11_refuse_23 rfl rfl ?_
      refine tt_iret dX11_refuse_24 ⟨rfl, _, rfl, ?_⟩
      exact tt_iret dX11_triedRow_16 ⟨rfl, _, rfl, h⟩
    · replace h := h.2 c
      refine tt_iconst (q := 13) dX10_has_12 ki_1 rfl ?_
      refine tt_goto (t := 17) dX10_has_13 rfl ?_
      refine tt_iret dX10_has_17 ⟨rfl, _, rfl, Or.inr rfl, ?_⟩
      refine tt_if_ne (q := 11) (t := 17) dX11_triedRow_8 rfl rfl (fun c => ?_) (fun c => absurd c (by decide))
      clear c
      refine tt_aload_n (q := 18) dX11_triedRow_17 rfl rfl ?_
      refine tt_getR (q := 21) dX11_triedRow_18 fl_X11_62 or_0_6 (Nat.le_of_ble_eq_true rfl) rfl rfl ?_
      refine tt_aload_n (q := 22) dX11_triedRow_21 rfl rfl ?_
      refine tt_getI (q := 25) dX11_triedRow_22 fl_X11_100 oi_0_12 (Nat.le_of_ble_eq_true rfl) rfl ?_
      refine tt_aload_n (q := 26) dX11_triedRow_25 rfl rfl ?_
      refine tt_getR (q := 29) dX11_triedRow_26 fl_X11_69 or_0_7 (Nat.le_of_ble_eq_true rfl) rfl rfl ?_
      obtain ⟨p13, hp14, h⟩ := h
      refine callVv_2 (q := 32) dX11_triedRow_29 (Or.inr (Or.inr (⟨rfl, rfl, hp14⟩))) (Nat.le_of_ble_eq_true rfl) rfl (fun t12 hr15 => ?_)
      replace h := h t12 hr15
      refine tt_aload_n (q := 33) dX11_triedRow_32 rfl rfl ?_
      refine tt_getR (q := 36) dX11_triedRow_33 fl_X11_69 or_0_7 (Nat.le_of_ble_eq_true rfl) rfl rfl ?_
      refine tt_getR (q := 39) dX11_triedRow_36 fl_X11_244 or_81_0 (Nat.le_of_ble_eq_true rfl) rfl rfl ?_
      refine tt_iload_n (q := 40) dX11_triedRow_39 rfl rfl ?_
      obtain ⟨j17, e18, l16, h⟩ := h
      refine tt_iald (q := 41) dX11_triedRow_40 ia_82 (Nat.le_of_ble_eq_true rfl) e18 l16 rfl ?_
      exact tt_iret dX11_triedRow_41 ⟨rfl, _, rfl, h⟩

theorem g_X11_solves_0 {post : SG → Int32 → Prop} {σ : SG} (h : (∃ p3 : SG → Int32 → Prop, IN_X10_solved AF σ [.ref 77, .ref 81] p3 ∧ ∀ (t2 : SG) (r1 : Int32), p3 t2 r1 → post t2 r1)) : T_X11_solves AF post 0 [.ref 0] [] σ := by
  refine tt_aload_n (q := 1) dX11_solves_0 rfl rfl ?_
  refine tt_getR (q := 4) dX11_solves_1 fl_X11_62 or_0_6 (Nat.le_of_ble_eq_true rfl) rfl rfl ?_
  refine tt_aload_n (q := 5) dX11_solves_4 rfl rfl ?_
  refine tt_getR (q := 8) dX11_solves_5 fl_X11_69 or_0_7 (Nat.le_of_ble_eq_true rfl) rfl rfl ?_
  obtain ⟨p3, hp4, h⟩ := h
  refine callVi_1 (q := 11) dX11_solves_8 (⟨rfl, rfl, hp4⟩) (Nat.le_of_ble_eq_true rfl) rfl (fun t2 r1 hr5 => ?_)
  replace h := h t2 r1 hr5
  exact tt_iret dX11_solves_11 ⟨rfl, _, rfl, h⟩

theorem g_X11_lacks_0 {post : SG → Int32 → Prop} {σ : SG} (h : T_X11_lacks AF post 2 [.ref 0, .int (nI 0)] [] σ) : T_X11_lacks AF post 0 [.ref 0, dum] [] σ := by
  refine tt_iconst (q := 1) dX11_lacks_0 ki_0 rfl ?_
  refine sti_n_1 (q := 2) dX11_lacks_1 rfl rfl rfl ?_
  exact h
theorem g_X11_lacks_2 {post : SG → Int32 → Prop} {σ : SG} {o : Nat} (h : (o < 2 ^ 31 ∧ ((720 ≤ o → post σ (-9 : Int32)) ∧ (o < 720 → (∃ p5 : SG → Int32 → Prop, IN_X10_tryFrom AF σ [.ref 77, .int (nI o), .ref 81] p5 ∧ ∀ t4 : SG, p5 t4 0 → ((¬ (t4 81 1) = (-9 : Int32) → post t4 (nI o)) ∧ ((t4 81 1) = (-9 : Int32) → ((¬ (t4 81 2) = 0 → post t4 (nI o)) ∧ ((t4 81 2) = 0 → T_X11_lacks AF post 2 [.ref 0, .int (nI (o + 1))] [] t4))))))))) : T_X11_lacks AF post 2 [.ref 0, .int (nI o)] [] σ := by
  refine tt_iload_n (q := 3) dX11_lacks_2 rfl rfl ?_
  refine tt_sipush (q := 6) dX11_lacks_3 si_720 rfl ?_
  obtain ⟨l2, h⟩ := h
  refine tt_icmp_ge (q := 9) (t := 39) dX11_lacks_6 rfl rfl (fun c => ?_) (fun c => ?_)
  · replace h := h.1 ((nI_leI (by decide) l2).1 c)
    refine tt_bipush (q := 41) dX11_lacks_39 bi_m9 rfl ?_
    exact tt_iret dX11_lacks_41 ⟨rfl, _, rfl, h⟩
  · replace h := h.2 (Nat.lt_of_not_le (fun z => c ((nI_leI (by decide) l2).2 z)))
    refine tt_aload_n (q := 10) dX11_lacks_9 rfl rfl ?_
    refine tt_getR (q := 13) dX11_lacks_10 fl_X11_62 or_0_6 (Nat.le_of_ble_eq_true rfl) rfl rfl ?_
    refine tt_iload_n (q := 14) dX11_lacks_13 rfl rfl ?_
    refine tt_aload_n (q := 15) dX11_lacks_14 rfl rfl ?_
    refine tt_getR (q := 18) dX11_lacks_15 fl_X11_69 or_0_7 (Nat.le_of_ble_eq_true rfl) rfl rfl ?_
    obtain ⟨p5, hp6, h⟩ := h
    refine callVv_2 (q := 21) dX11_lacks_18 (Or.inl ⟨rfl, rfl, hp6⟩) (Nat.le_of_ble_eq_true rfl) rfl (fun t4 hr7 => ?_)
    replace h := h t4 hr7
    refine tt_aload_n (q := 22) dX11_lacks_21 rfl rfl ?_
    refine tt_getR (q := 25) dX11_lacks_22 fl_X11_69 or_0_7 (Nat.le_of_ble_eq_true rfl) rfl rfl ?_
    refine callVi_0 (q := 28) dX11_lacks_25 (Or.inr (⟨rfl, rfl, ⟨⟨_, _, rfl, rfl, (Nat.le_of_ble_eq_true rfl), rc_81⟩, Nat.le_of_ble_eq_true rfl, ?_⟩⟩)) (Nat.le_of_ble_eq_true rfl) rfl (fun t9 r8 ht9 => ht9)
    refine (show TT cX8_solved RX8 false CT0 CN0 _ _ _ none 0 [_] [] _ _ from ?_)
    refine tt_aload_n (q := 1) dX8_solved_0 rfl rfl ?_
    refine tt_getI (q := 4) dX8_solved_1 fl_X8_15 oi_81_1 (Nat.le_of_ble_eq_true rfl) rfl ?_
    refine tt_bipush (q := 6) dX8_solved_4 bi_m9 rfl ?_
    refine tt_icmp_ne (q := 9) (t := 20) dX8_solved_6 rfl rfl (fun c => ?_) (fun c => ?_)
    · replace h := h.1 c
      refine tt_iconst (q := 21) dX8_solved_20 ki_0 rfl ?_
      refine tt_iret dX8_solved_21 ⟨rfl, _, rfl, Or.inl nI_0, ?_⟩
      refine tt_if_ne (q := 31) (t := 33) dX11_lacks_28 rfl rfl (fun c => absurd c (by decide)) (fun c => ?_)
      clear c
      refine tt_iload_n (q := 32) dX11_lacks_31 rfl rfl ?_
      exact tt_iret dX11_lacks_32 ⟨rfl, _, rfl, h⟩
    · replace h := h.2 c
      refine tt_aload_n (q := 10) dX8_solved_9 rfl rfl ?_
      refine tt_getI (q := 13) dX8_solved_10 fl_X8_19 oi_81_2 (Nat.le_of_ble_eq_true rfl) rfl ?_
      refine tt_if_ne (q := 16) (t := 20) dX8_solved_13 rfl rfl (fun c => ?_) (fun c => ?_)
      · replace h := h.1 c
        refine tt_iconst (q := 21) dX8_solved_20 ki_0 rfl ?_
        refine tt_iret dX8_solved_21 ⟨rfl, _, rfl, Or.inl nI_0, ?_⟩
        refine tt_if_ne (q := 31) (t := 33) dX11_lacks_28 rfl rfl (fun c => absurd c (by decide)) (fun c => ?_)
        clear c
        refine tt_iload_n (q := 32) dX11_lacks_31 rfl rfl ?_
        exact tt_iret dX11_lacks_32 ⟨rfl, _, rfl, h⟩
      · replace h := h.2 c
        refine tt_iconst (q := 17) dX8_solved_16 ki_1 rfl ?_
        refine tt_goto (t := 21) dX8_solved_17 rfl ?_
        refine tt_iret dX8_solved_21 ⟨rfl, _, rfl, Or.inr rfl, ?_⟩
        refine tt_if_ne (q := 31) (t := 33) dX11_lacks_28 rfl rfl (fun c => ?_) (fun c => absurd c (by decide))
        clear c
        refine inc_1 (q := 36) dX11_lacks_33 (nI_inc1 _) rfl rfl ?_
        refine tt_goto (t := 2) dX11_lacks_36 rfl ?_
        exact h

theorem g_X11_luck_0 {post : SG → Int32 → Prop} {σ : SG} {k : Int32} {pt : Int32} (h : ((k < 0 → (∀ s6 : SG, s6 = up σ 101 1 ((σ 101 1) + (nI 1)) → post s6 (-1 : Int32))) ∧ (¬ k < 0 → (((σ 77 0) ≤ k → (∀ s10 : SG, s10 = up σ 101 1 ((σ 101 1) + (nI 1)) → post s10 (-1 : Int32))) ∧ (¬ (σ 77 0) ≤ k → ((pt = 0 → T_X11_luck AF post 41 [.ref 0, .int k, .int pt, .int (nI 0), .int (nI 0), .int (nI 0)] [] σ) ∧ (¬ pt = 0 → ((pt = (nI 1) → T_X11_luck AF post 41 [.ref 0, .int k, .int pt, .int (nI 0), .int (nI 0), .int (nI 0)] [] σ) ∧ (¬ pt = (nI 1) → (∀ s15 : SG, s15 = up σ 101 2 ((σ 101 2) + (nI 1)) → post s15 (-2 : Int32))))))))))) : T_X11_luck AF post 0 [.ref 0, .int k, .int pt, dum, dum, dum] [] σ := by
  refine tt_aload_n (q := 1) dX11_luck_0 rfl rfl ?_
  refine tt_getR (q := 4) dX11_luck_1 fl_X11_62 or_0_6 (Nat.le_of_ble_eq_true rfl) rfl rfl ?_
  refine tt_iload_n (q := 5) dX11_luck_4 rfl rfl ?_
  refine callVi_1 (q := 8) dX11_luck_5 (Or.inl ⟨rfl, rfl, ⟨⟨_, _, rfl, rfl, (Nat.le_of_ble_eq_true rfl), rc_77⟩, Nat.le_of_ble_eq_true rfl, ?_⟩⟩) (Nat.le_of_ble_eq_true rfl) rfl (fun t2 r1 ht2 => ht2)
  refine (show TT cX10_has RX10 false CT0 CN0 _ _ _ none 0 [_, _] [] _ _ from ?_)
  refine tt_iload_n (q := 1) dX10_has_0 rfl rfl ?_
  refine tt_if_lt (q := 4) (t := 16) dX10_has_1 rfl rfl (fun c => ?_) (fun c => ?_)
  · replace h := h.1 c
    refine tt_iconst (q := 17) dX10_has_16 ki_0 rfl ?_
    refine tt_iret dX10_has_17 ⟨rfl, _, rfl, Or.inl nI_0, ?_⟩
    refine tt_if_ne (q := 11) (t := 17) dX11_luck_8 rfl rfl (fun c => absurd c (by decide)) (fun c => ?_)
    clear c
    refine tt_aload_n (q := 12) dX11_luck_11 rfl rfl ?_
    refine tt_iconst (q := 13) dX11_luck_12 ki_m1 rfl ?_
    refine callVi_1 (q := 16) dX11_luck_13 (Or.inr (Or.inl ⟨rfl, rfl, ⟨⟨_, _, rfl, rfl, (Nat.le_of_ble_eq_true rfl), rc_0⟩, Nat.le_of_ble_eq_true rfl, ?_⟩⟩)) (Nat.le_of_ble_eq_true rfl) rfl (fun t5 r4 ht5 => ht5)
    refine (show TT cX11_refuse RX11 false CT0 CN0 _ _ _ none 0 [_, _, dum] [] _ _ from ?_)
    refine tt_iload_n (q := 1) dX11_refuse_0 rfl rfl ?_
    refine tt_inegE (v := nI 1) (q := 2) dX11_refuse_1 (by decide) rfl ?_
    refine sti_n_2 (q := 3) dX11_refuse_2 rfl rfl rfl ?_
    refine tt_iload_n (q := 4) dX11_refuse_3 rfl rfl ?_
    refine tt_if_le (q := 7) (t := 23) dX11_refuse_4 rfl rfl (fun c => absurd c (by decide)) (fun c => ?_)
    clear c
    refine tt_iload_n (q := 8) dX11_refuse_7 rfl rfl ?_
    refine tt_bipush (q := 10) dX11_refuse_8 bi_6 rfl ?_
    refine tt_icmp_gt (q := 13) (t := 23) dX11_refuse_10 rfl rfl (fun c => absurd c (by decide)) (fun c => ?_)
    clear c
    refine tt_aload_n (q := 14) dX11_refuse_13 rfl rfl ?_
    refine tt_getR (q := 17) dX11_refuse_14 fl_X11_96 or_0_11 (Nat.le_of_ble_eq_true rfl) rfl rfl ?_
    refine tt_iload_n (q := 18) dX11_refuse_17 rfl rfl ?_
    refine tt_dup2 (q := 19) dX11_refuse_18 rfl rfl rfl ?_
    refine tt_iald (q := 20) dX11_refuse_19 ia_101 (Nat.le_of_ble_eq_true rfl) rfl (Nat.le_of_ble_eq_true rfl : 1 < 7) rfl ?_
    refine tt_iconst (q := 21) dX11_refuse_20 ki_1 rfl ?_
    refine tt_iadd (q := 22) dX11_refuse_21 rfl ?_
    refine tt_iast (q := 23) dX11_refuse_22 ia_101 (Nat.le_of_ble_eq_true rfl) rfl (Nat.le_of_ble_eq_true rfl : 1 < 7) rfl ?_
    replace h := h _ rfl
    refine tt_iload_n (q := 24) dX11_refuse_23 rfl rfl ?_
    refine tt_iret dX11_refuse_24 ⟨rfl, _, rfl, ?_⟩
    exact tt_iret dX11_luck_16 ⟨rfl, _, rfl, h⟩
  · replace h := h.2 c
    refine tt_iload_n (q := 5) dX10_has_4 rfl rfl ?_
    refine tt_aload_n (q := 6) dX10_has_5 rfl rfl ?_
    refine tt_getI (q := 9) dX10_has_6 fl_X10_33 oi_77_0 (Nat.le_of_ble_eq_true rfl) rfl ?_
    refine tt_icmp_ge (q := 12) (t := 16) dX10_has_9 rfl rfl (fun c => ?_) (fun c => ?_)
    · replace h := h.1 c
      refine tt_iconst (q := 17) dX10_has_16 ki_0 rfl ?_
      refine tt_iret dX10_has_17 ⟨rfl, _, rfl, Or.inl nI_0, ?_⟩
      refine tt_if_ne (q := 11) (t := 17) dX11_luck_8 rfl rfl (fun c => absurd c (by decide)) (fun c => ?_)
      clear c
      refine tt_aload_n (q := 12) dX11_luck_11 rfl rfl ?_
      refine tt_iconst (q := 13) dX11_luck_12 ki_m1 rfl ?_
      refine callVi_1 (q := 16) dX11_luck_13 (Or.inr (Or.inl ⟨rfl, rfl, ⟨⟨_, _, rfl, rfl, (Nat.le_of_ble_eq_true rfl), rc_0⟩, Nat.le_of_ble_eq_true rfl, ?_⟩⟩)) (Nat.le_of_ble_eq_true rfl) rfl (fun t9 r8 ht9 => ht9)
      refine (show TT cX11_refuse RX11 false CT0 CN0 _ _ _ none 0 [_, _, dum] [] _ _ from ?_)
      refine tt_iload_n (q := 1) dX11_refuse_0 rfl rfl ?_
      refine tt_inegE (v := nI 1) (q := 2) dX11_refuse_1 (by decide) rfl ?_
      refine sti_n_2 (q := 3) dX11_refuse_2 rfl rfl rfl ?_
      refine tt_iload_n (q := 4) dX11_refuse_3 rfl rfl ?_
      refine tt_if_le (q := 7) (t := 23) dX11_refuse_4 rfl rfl (fun c => absurd c (by decide)) (fun c => ?_)
      clear c
      refine tt_iload_n (q := 8) dX11_refuse_7 rfl rfl ?_
      refine tt_bipush (q := 10) dX11_refuse_8 bi_6 rfl ?_
      refine tt_icmp_gt (q := 13) (t := 23) dX11_refuse_10 rfl rfl (fun c => absurd c (by decide)) (fun c => ?_)
      clear c
      refine tt_aload_n (q := 14) dX11_refuse_13 rfl rfl ?_
      refine tt_getR (q := 17) dX11_refuse_14 fl_X11_96 or_0_11 (Nat.le_of_ble_eq_true rfl) rfl rfl ?_
      refine tt_iload_n (q := 18) dX11_refuse_17 rfl rfl ?_
      refine tt_dup2 (q := 19) dX11_refuse_18 rfl rfl rfl ?_
      refine tt_iald (q := 20) dX11_refuse_19 ia_101 (Nat.le_of_ble_eq_true rfl) rfl (Nat.le_of_ble_eq_true rfl : 1 < 7) rfl ?_
      refine tt_iconst (q := 21) dX11_refuse_20 ki_1 rfl ?_
      refine tt_iadd (q := 22) dX11_refuse_21 rfl ?_
      refine tt_iast (q := 23) dX11_refuse_22 ia_101 (Nat.le_of_ble_eq_true rfl) rfl (Nat.le_of_ble_eq_true rfl : 1 < 7) rfl ?_
      replace h := h _ rfl
      refine tt_iload_n (q := 24) dX11_refuse_23 rfl rfl ?_
      refine tt_iret dX11_refuse_24 ⟨rfl, _, rfl, ?_⟩
      exact tt_iret dX11_luck_16 ⟨rfl, _, rfl, h⟩
    · replace h := h.2 c
      refine tt_iconst (q := 13) dX10_has_12 ki_1 rfl ?_
      refine tt_goto (t := 17) dX10_has_13 rfl ?_
      refine tt_iret dX10_has_17 ⟨rfl, _, rfl, Or.inr rfl, ?_⟩
      refine tt_if_ne (q := 11) (t := 17) dX11_luck_8 rfl rfl (fun c => ?_) (fun c => absurd c (by decide))
      clear c
      refine tt_iload_n (q := 18) dX11_luck_17 rfl rfl ?_
      refine tt_if_eq (q := 21) (t := 33) dX11_luck_18 rfl rfl (fun c => ?_) (fun c => ?_)
      · replace h := h.1 c
        refine tt_iconst (q := 34) dX11_luck_33 ki_0 rfl ?_
        refine sti_n_3 (q := 35) dX11_luck_34 rfl rfl rfl ?_
        refine tt_iconst (q := 36) dX11_luck_35 ki_0 rfl ?_
        refine sti_4 (q := 38) dX11_luck_36 rfl rfl ?_
        refine tt_iconst (q := 39) dX11_luck_38 ki_0 rfl ?_
        refine sti_5 (q := 41) dX11_luck_39 rfl rfl ?_
        exact h
      · replace h := h.2 c
        refine tt_iload_n (q := 22) dX11_luck_21 rfl rfl ?_
        refine tt_iconst (q := 23) dX11_luck_22 ki_1 rfl ?_
        refine tt_icmp_eq (q := 26) (t := 33) dX11_luck_23 rfl rfl (fun c => ?_) (fun c => ?_)
        · replace h := h.1 c
          refine tt_iconst (q := 34) dX11_luck_33 ki_0 rfl ?_
          refine sti_n_3 (q := 35) dX11_luck_34 rfl rfl rfl ?_
          refine tt_iconst (q := 36) dX11_luck_35 ki_0 rfl ?_
          refine sti_4 (q := 38) dX11_luck_36 rfl rfl ?_
          refine tt_iconst (q := 39) dX11_luck_38 ki_0 rfl ?_
          refine sti_5 (q := 41) dX11_luck_39 rfl rfl ?_
          exact h
        · replace h := h.2 c
          refine tt_aload_n (q := 27) dX11_luck_26 rfl rfl ?_
          refine tt_bipush (q := 29) dX11_luck_27 bi_m2 rfl ?_
          refine callVi_1 (q := 32) dX11_luck_29 (Or.inr (Or.inl ⟨rfl, rfl, ⟨⟨_, _, rfl, rfl, (Nat.le_of_ble_eq_true rfl), rc_0⟩, Nat.le_of_ble_eq_true rfl, ?_⟩⟩)) (Nat.le_of_ble_eq_true rfl) rfl (fun t14 r13 ht14 => ht14)
          refine (show TT cX11_refuse RX11 false CT0 CN0 _ _ _ none 0 [_, _, dum] [] _ _ from ?_)
          refine tt_iload_n (q := 1) dX11_refuse_0 rfl rfl ?_
          refine tt_inegE (v := nI 2) (q := 2) dX11_refuse_1 (by decide) rfl ?_
          refine sti_n_2 (q := 3) dX11_refuse_2 rfl rfl rfl ?_
          refine tt_iload_n (q := 4) dX11_refuse_3 rfl rfl ?_
          refine tt_if_le (q := 7) (t := 23) dX11_refuse_4 rfl rfl (fun c => absurd c (by decide)) (fun c => ?_)
          clear c
          refine tt_iload_n (q := 8) dX11_refuse_7 rfl rfl ?_
          refine tt_bipush (q := 10) dX11_refuse_8 bi_6 rfl ?_
          refine tt_icmp_gt (q := 13) (t := 23) dX11_refuse_10 rfl rfl (fun c => absurd c (by decide)) (fun c => ?_)
          clear c
          refine tt_aload_n (q := 14) dX11_refuse_13 rfl rfl ?_
          refine tt_getR (q := 17) dX11_refuse_14 fl_X11_96 or_0_11 (Nat.le_of_ble_eq_true rfl) rfl rfl ?_
          refine tt_iload_n (q := 18) dX11_refuse_17 rfl rfl ?_
          refine tt_dup2 (q := 19) dX11_refuse_18 rfl rfl rfl ?_
          refine tt_iald (q := 20) dX11_refuse_19 ia_101 (Nat.le_of_ble_eq_true rfl) rfl (Nat.le_of_ble_eq_true rfl : 2 < 7) rfl ?_
          refine tt_iconst (q := 21) dX11_refuse_20 ki_1 rfl ?_
          refine tt_iadd (q := 22) dX11_refuse_21 rfl ?_
          refine tt_iast (q := 23) dX11_refuse_22 ia_101 (Nat.le_of_ble_eq_true rfl) rfl (Nat.le_of_ble_eq_true rfl : 2 < 7) rfl ?_
          replace h := h _ rfl
          refine tt_iload_n (q := 24) dX11_refuse_23 rfl rfl ?_
          refine tt_iret dX11_refuse_24 ⟨rfl, _, rfl, ?_⟩
          exact tt_iret dX11_luck_32 ⟨rfl, _, rfl, h⟩
theorem g_X11_luck_41 {post : SG → Int32 → Prop} {σ : SG} {k : Nat} {pt : Int32} {co : Nat} {lu : Nat} {o : Nat} (h : (o < 2 ^ 31 ∧ ((720 ≤ o → (∃ p5 : SG → Int32 → Prop, IN_X11_leastTerms AF σ [.int (nI lu), .int (nI co), .int pt] p5 ∧ ∀ (t4 : SG) (r3 : Int32), p5 t4 r3 → post t4 r3)) ∧ (o < 720 → (∃ p10 : SG → Int32 → Prop, IN_X10_tryFrom AF σ [.ref 77, .int (nI o), .ref 81] p10 ∧ ∀ t9 : SG, p10 t9 0 → (((t9 81 1) = (-9 : Int32) → (((t9 81 1) = (nI k) → T_X11_luck AF post 41 [.ref 0, .int (nI k), .int pt, .int (nI (co + 1)), .int (nI (lu + 0)), .int (nI (o + 1))] [] t9) ∧ (¬ (t9 81 1) = (nI k) → (k < 4 ∧ ((¬ (t9 82 k) = (-9 : Int32) → T_X11_luck AF post 41 [.ref 0, .int (nI k), .int pt, .int (nI (co + 1)), .int (nI (lu + 0)), .int (nI (o + 1))] [] t9) ∧ ((t9 82 k) = (-9 : Int32) → T_X11_luck AF post 41 [.ref 0, .int (nI k), .int pt, .int (nI (co + 1)), .int (nI (lu + 1)), .int (nI (o + 1))] [] t9)))))) ∧ (¬ (t9 81 1) = (-9 : Int32) → (((t9 81 1) < (nI k) → T_X11_luck AF post 41 [.ref 0, .int (nI k), .int pt, .int (nI co), .int (nI lu), .int (nI (o + 1))] [] t9) ∧ (¬ (t9 81 1) < (nI k) → (((t9 81 1) = (nI k) → T_X11_luck AF post 41 [.ref 0, .int (nI k), .int pt, .int (nI (co + 1)), .int (nI (lu + 0)), .int (nI (o + 1))] [] t9) ∧ (¬ (t9 81 1) = (nI k) → (k < 4 ∧ ((¬ (t9 82 k) = (-9 : Int32) → T_X11_luck AF post 41 [.ref 0, .int (nI k), .int pt, .int (nI (co + 1)), .int (nI (lu + 0)), .int (nI (o + 1))] [] t9) ∧ ((t9 82 k) = (-9 : Int32) → T_X11_luck AF post 41 [.ref 0, .int (nI k), .int pt, .int (nI (co + 1)), .int (nI (lu + 1)), .int (nI (o + 1))] [] t9)))))))))))))) : T_X11_luck AF post 41 [.ref 0, .int (nI k), .int pt, .int (nI co), .int (nI lu), .int (nI o)] [] σ := by
  refine tt_iload (q := 43) dX11_luck_41 rfl rfl ?_
  refine tt_sipush (q := 46) dX11_luck_43 si_720 rfl ?_
  obtain ⟨l2, h⟩ := h
  refine tt_icmp_ge (q := 49) (t := 103) dX11_luck_46 rfl rfl (fun c => ?_) (fun c => ?_)
  · replace h := h.1 ((nI_leI (by decide) l2).1 c)
    refine tt_iload (q := 105) dX11_luck_103 rfl rfl ?_
    refine tt_iload_n (q := 106) dX11_luck_105 rfl rfl ?_
    refine tt_iload_n (q := 107) dX11_luck_106 rfl rfl ?_
    obtain ⟨p5, hp6, h⟩ := h
    refine callSi_3 (q := 110) dX11_luck_107 (Or.inr (Or.inr (Or.inr (Or.inr (Or.inr (⟨rfl, rfl, hp6⟩)))))) (Nat.le_of_ble_eq_true rfl) rfl (fun t4 r3 hr7 => ?_)
    replace h := h t4 r3 hr7
    exact tt_iret dX11_luck_110 ⟨rfl, _, rfl, h⟩
  · replace h := h.2 (Nat.lt_of_not_le (fun z => c ((nI_leI (by decide) l2).2 z)))
    refine tt_aload_n (q := 50) dX11_luck_49 rfl rfl ?_
    refine tt_getR (q := 53) dX11_luck_50 fl_X11_62 or_0_6 (Nat.le_of_ble_eq_true rfl) rfl rfl ?_
    refine tt_iload (q := 55) dX11_luck_53 rfl rfl ?_
    refine tt_aload_n (q := 56) dX11_luck_55 rfl rfl ?_
    refine tt_getR (q := 59) dX11_luck_56 fl_X11_69 or_0_7 (Nat.le_of_ble_eq_true rfl) rfl rfl ?_
    obtain ⟨p10, hp11, h⟩ := h
    refine callVv_2 (q := 62) dX11_luck_59 (Or.inr (Or.inr (Or.inl ⟨rfl, rfl, hp11⟩))) (Nat.le_of_ble_eq_true rfl) rfl (fun t9 hr12 => ?_)
    replace h := h t9 hr12
    refine tt_aload_n (q := 63) dX11_luck_62 rfl rfl ?_
    refine tt_getR (q := 66) dX11_luck_63 fl_X11_69 or_0_7 (Nat.le_of_ble_eq_true rfl) rfl rfl ?_
    refine tt_iload_n (q := 67) dX11_luck_66 rfl rfl ?_
    refine callVi_1 (q := 70) dX11_luck_67 (Or.inr (Or.inr (Or.inr (Or.inl ⟨rfl, rfl, ⟨⟨_, _, rfl, rfl, (Nat.le_of_ble_eq_true rfl), rc_81⟩, Nat.le_of_ble_eq_true rfl, ?_⟩⟩)))) (Nat.le_of_ble_eq_true rfl) rfl (fun t14 r13 ht14 => ht14)
    refine (show TT cX8_comesTo RX8 false CT0 CN0 _ _ _ none 0 [_, _] [] _ _ from ?_)
    refine tt_aload_n (q := 1) dX8_comesTo_0 rfl rfl ?_
    refine tt_getI (q := 4) dX8_comesTo_1 fl_X8_15 oi_81_1 (Nat.le_of_ble_eq_true rfl) rfl ?_
    refine tt_bipush (q := 6) dX8_comesTo_4 bi_m9 rfl ?_
    refine tt_icmp_eq (q := 9) (t := 17) dX8_comesTo_6 rfl rfl (fun c => ?_) (fun c => ?_)
    · replace h := h.1 c
      refine tt_iconst (q := 18) dX8_comesTo_17 ki_1 rfl ?_
      refine tt_goto (t := 22) dX8_comesTo_18 rfl ?_
      refine tt_iret dX8_comesTo_22 ⟨rfl, _, rfl, Or.inr rfl, ?_⟩
      refine tt_if_eq (q := 73) (t := 97) dX11_luck_70 rfl rfl (fun c => absurd c (by decide)) (fun c => ?_)
      clear c
      refine inc_3 (q := 76) dX11_luck_73 (nI_inc1 _) rfl rfl ?_
      refine tt_iload (q := 78) dX11_luck_76 rfl rfl ?_
      refine tt_aload_n (q := 79) dX11_luck_78 rfl rfl ?_
      refine tt_getR (q := 82) dX11_luck_79 fl_X11_69 or_0_7 (Nat.le_of_ble_eq_true rfl) rfl rfl ?_
      refine tt_iload_n (q := 83) dX11_luck_82 rfl rfl ?_
      refine callVi_1 (q := 86) dX11_luck_83 (Or.inr (Or.inr (Or.inr (Or.inr (Or.inl ⟨rfl, rfl, ⟨⟨_, _, rfl, rfl, (Nat.le_of_ble_eq_true rfl), rc_81⟩, Nat.le_of_ble_eq_true rfl, ?_⟩⟩))))) (Nat.le_of_ble_eq_true rfl) rfl (fun t17 r16 ht17 => ht17)
      refine (show TT cX8_needsNone RX8 false CT0 CN0 _ _ _ none 0 [_, _] [] _ _ from ?_)
      refine tt_aload_n (q := 1) dX8_needsNone_0 rfl rfl ?_
      refine tt_getI (q := 4) dX8_needsNone_1 fl_X8_15 oi_81_1 (Nat.le_of_ble_eq_true rfl) rfl ?_
      refine tt_iload_n (q := 5) dX8_needsNone_4 rfl rfl ?_
      refine tt_icmp_eq (q := 8) (t := 23) dX8_needsNone_5 rfl rfl (fun c => ?_) (fun c => ?_)
      · replace h := h.1 c
        refine tt_iconst (q := 24) dX8_needsNone_23 ki_0 rfl ?_
        refine tt_iret dX8_needsNone_24 ⟨rfl, _, rfl, Or.inl nI_0, ?_⟩
        refine tt_if_eq (q := 89) (t := 93) dX11_luck_86 rfl rfl (fun c => ?_) (fun c => absurd c (by decide))
        clear c
        refine tt_iconst (q := 94) dX11_luck_93 ki_0 rfl ?_
        refine tt_iaddN (q := 95) dX11_luck_94 rfl ?_
        refine sti_4 (q := 97) dX11_luck_95 rfl rfl ?_
        refine inc_5 (q := 100) dX11_luck_97 (nI_inc1 _) rfl rfl ?_
        refine tt_goto (t := 41) dX11_luck_100 rfl ?_
        exact h
      · replace h := h.2 c
        refine tt_aload_n (q := 9) dX8_needsNone_8 rfl rfl ?_
        refine tt_getR (q := 12) dX8_needsNone_9 fl_X8_9 or_81_0 (Nat.le_of_ble_eq_true rfl) rfl rfl ?_
        refine tt_iload_n (q := 13) dX8_needsNone_12 rfl rfl ?_
        obtain ⟨l19, h⟩ := h
        refine tt_iald (q := 14) dX8_needsNone_13 ia_82 (Nat.le_of_ble_eq_true rfl) rfl l19 rfl ?_
        refine tt_bipush (q := 16) dX8_needsNone_14 bi_m9 rfl ?_
        refine tt_icmp_ne (q := 19) (t := 23) dX8_needsNone_16 rfl rfl (fun c => ?_) (fun c => ?_)
        · replace h := h.1 c
          refine tt_iconst (q := 24) dX8_needsNone_23 ki_0 rfl ?_
          refine tt_iret dX8_needsNone_24 ⟨rfl, _, rfl, Or.inl nI_0, ?_⟩
          refine tt_if_eq (q := 89) (t := 93) dX11_luck_86 rfl rfl (fun c => ?_) (fun c => absurd c (by decide))
          clear c
          refine tt_iconst (q := 94) dX11_luck_93 ki_0 rfl ?_
          refine tt_iaddN (q := 95) dX11_luck_94 rfl ?_
          refine sti_4 (q := 97) dX11_luck_95 rfl rfl ?_
          refine inc_5 (q := 100) dX11_luck_97 (nI_inc1 _) rfl rfl ?_
          refine tt_goto (t := 41) dX11_luck_100 rfl ?_
          exact h
        · replace h := h.2 c
          refine tt_iconst (q := 20) dX8_needsNone_19 ki_1 rfl ?_
          refine tt_goto (t := 24) dX8_needsNone_20 rfl ?_
          refine tt_iret dX8_needsNone_24 ⟨rfl, _, rfl, Or.inr rfl, ?_⟩
          refine tt_if_eq (q := 89) (t := 93) dX11_luck_86 rfl rfl (fun c => absurd c (by decide)) (fun c => ?_)
          clear c
          refine tt_iconst (q := 90) dX11_luck_89 ki_1 rfl ?_
          refine tt_goto (t := 94) dX11_luck_90 rfl ?_
          refine tt_iaddN (q := 95) dX11_luck_94 rfl ?_
          refine sti_4 (q := 97) dX11_luck_95 rfl rfl ?_
          refine inc_5 (q := 100) dX11_luck_97 (nI_inc1 _) rfl rfl ?_
          refine tt_goto (t := 41) dX11_luck_100 rfl ?_
          exact h
    · replace h := h.2 c
      refine tt_aload_n (q := 10) dX8_comesTo_9 rfl rfl ?_
      refine tt_getI (q := 13) dX8_comesTo_10 fl_X8_15 oi_81_1 (Nat.le_of_ble_eq_true rfl) rfl ?_
      refine tt_iload_n (q := 14) dX8_comesTo_13 rfl rfl ?_
      refine tt_icmp_lt (q := 17) (t := 21) dX8_comesTo_14 rfl rfl (fun c => ?_) (fun c => ?_)
      · replace h := h.1 c
        refine tt_iconst (q := 22) dX8_comesTo_21 ki_0 rfl ?_
        refine tt_iret dX8_comesTo_22 ⟨rfl, _, rfl, Or.inl nI_0, ?_⟩
        refine tt_if_eq (q := 73) (t := 97) dX11_luck_70 rfl rfl (fun c => ?_) (fun c => absurd c (by decide))
        clear c
        refine inc_5 (q := 100) dX11_luck_97 (nI_inc1 _) rfl rfl ?_
        refine tt_goto (t := 41) dX11_luck_100 rfl ?_
        exact h
      · replace h := h.2 c
        refine tt_iconst (q := 18) dX8_comesTo_17 ki_1 rfl ?_
        refine tt_goto (t := 22) dX8_comesTo_18 rfl ?_
        refine tt_iret dX8_comesTo_22 ⟨rfl, _, rfl, Or.inr rfl, ?_⟩
        refine tt_if_eq (q := 73) (t := 97) dX11_luck_70 rfl rfl (fun c => absurd c (by decide)) (fun c => ?_)
        clear c
        refine inc_3 (q := 76) dX11_luck_73 (nI_inc1 _) rfl rfl ?_
        refine tt_iload (q := 78) dX11_luck_76 rfl rfl ?_
        refine tt_aload_n (q := 79) dX11_luck_78 rfl rfl ?_
        refine tt_getR (q := 82) dX11_luck_79 fl_X11_69 or_0_7 (Nat.le_of_ble_eq_true rfl) rfl rfl ?_
        refine tt_iload_n (q := 83) dX11_luck_82 rfl rfl ?_
        refine callVi_1 (q := 86) dX11_luck_83 (Or.inr (Or.inr (Or.inr (Or.inr (Or.inl ⟨rfl, rfl, ⟨⟨_, _, rfl, rfl, (Nat.le_of_ble_eq_true rfl), rc_81⟩, Nat.le_of_ble_eq_true rfl, ?_⟩⟩))))) (Nat.le_of_ble_eq_true rfl) rfl (fun t23 r22 ht23 => ht23)
        refine (show TT cX8_needsNone RX8 false CT0 CN0 _ _ _ none 0 [_, _] [] _ _ from ?_)
        refine tt_aload_n (q := 1) dX8_needsNone_0 rfl rfl ?_
        refine tt_getI (q := 4) dX8_needsNone_1 fl_X8_15 oi_81_1 (Nat.le_of_ble_eq_true rfl) rfl ?_
        refine tt_iload_n (q := 5) dX8_needsNone_4 rfl rfl ?_
        refine tt_icmp_eq (q := 8) (t := 23) dX8_needsNone_5 rfl rfl (fun c => ?_) (fun c => ?_)
        · replace h := h.1 c
          refine tt_iconst (q := 24) dX8_needsNone_23 ki_0 rfl ?_
          refine tt_iret dX8_needsNone_24 ⟨rfl, _, rfl, Or.inl nI_0, ?_⟩
          refine tt_if_eq (q := 89) (t := 93) dX11_luck_86 rfl rfl (fun c => ?_) (fun c => absurd c (by decide))
          clear c
          refine tt_iconst (q := 94) dX11_luck_93 ki_0 rfl ?_
          refine tt_iaddN (q := 95) dX11_luck_94 rfl ?_
          refine sti_4 (q := 97) dX11_luck_95 rfl rfl ?_
          refine inc_5 (q := 100) dX11_luck_97 (nI_inc1 _) rfl rfl ?_
          refine tt_goto (t := 41) dX11_luck_100 rfl ?_
          exact h
        · replace h := h.2 c
          refine tt_aload_n (q := 9) dX8_needsNone_8 rfl rfl ?_
          refine tt_getR (q := 12) dX8_needsNone_9 fl_X8_9 or_81_0 (Nat.le_of_ble_eq_true rfl) rfl rfl ?_
          refine tt_iload_n (q := 13) dX8_needsNone_12 rfl rfl ?_
          obtain ⟨l25, h⟩ := h
          refine tt_iald (q := 14) dX8_needsNone_13 ia_82 (Nat.le_of_ble_eq_true rfl) rfl l25 rfl ?_
          refine tt_bipush (q := 16) dX8_needsNone_14 bi_m9 rfl ?_
          refine tt_icmp_ne (q := 19) (t := 23) dX8_needsNone_16 rfl rfl (fun c => ?_) (fun c => ?_)
          · replace h := h.1 c
            refine tt_iconst (q := 24) dX8_needsNone_23 ki_0 rfl ?_
            refine tt_iret dX8_needsNone_24 ⟨rfl, _, rfl, Or.inl nI_0, ?_⟩
            refine tt_if_eq (q := 89) (t := 93) dX11_luck_86 rfl rfl (fun c => ?_) (fun c => absurd c (by decide))
            clear c
            refine tt_iconst (q := 94) dX11_luck_93 ki_0 rfl ?_
            refine tt_iaddN (q := 95) dX11_luck_94 rfl ?_
            refine sti_4 (q := 97) dX11_luck_95 rfl rfl ?_
            refine inc_5 (q := 100) dX11_luck_97 (nI_inc1 _) rfl rfl ?_
            refine tt_goto (t := 41) dX11_luck_100 rfl ?_
            exact h
          · replace h := h.2 c
            refine tt_iconst (q := 20) dX8_needsNone_19 ki_1 rfl ?_
            refine tt_goto (t := 24) dX8_needsNone_20 rfl ?_
            refine tt_iret dX8_needsNone_24 ⟨rfl, _, rfl, Or.inr rfl, ?_⟩
            refine tt_if_eq (q := 89) (t := 93) dX11_luck_86 rfl rfl (fun c => absurd c (by decide)) (fun c => ?_)
            clear c
            refine tt_iconst (q := 90) dX11_luck_89 ki_1 rfl ?_
            refine tt_goto (t := 94) dX11_luck_90 rfl ?_
            refine tt_iaddN (q := 95) dX11_luck_94 rfl ?_
            refine sti_4 (q := 97) dX11_luck_95 rfl rfl ?_
            refine inc_5 (q := 100) dX11_luck_97 (nI_inc1 _) rfl rfl ?_
            refine tt_goto (t := 41) dX11_luck_100 rfl ?_
            exact h

theorem g_X11_see_0 {post : SG → Int32 → Prop} {σ : SG} {a : Int32} {b : Int32} (h : ((a < 0 → (∀ s6 : SG, s6 = up σ 101 1 ((σ 101 1) + (nI 1)) → post s6 (-1 : Int32))) ∧ (¬ a < 0 → (((σ 77 0) ≤ a → (∀ s10 : SG, s10 = up σ 101 1 ((σ 101 1) + (nI 1)) → post s10 (-1 : Int32))) ∧ (¬ (σ 77 0) ≤ a → (((nI 0) ≤ b → ((b ≤ (nI 99) → (∃ j18 : Nat, a = nI j18 ∧ j18 < 4 ∧ (∃ j21 : Nat, a = nI j21 ∧ j21 < 4 ∧ (∀ s23 : SG, s23 = up σ 80 j21 b → post s23 (σ 80 j18))))) ∧ (¬ b ≤ (nI 99) → (∀ s26 : SG, s26 = up σ 101 6 ((σ 101 6) + (nI 1)) → post s26 (-6 : Int32))))) ∧ (¬ (nI 0) ≤ b → (∀ s29 : SG, s29 = up σ 101 4 ((σ 101 4) + (nI 1)) → post s29 (-4 : Int32))))))))) : T_X11_see AF post 0 [.ref 0, .int a, .int b, dum] [] σ := by
  refine tt_aload_n (q := 1) dX11_see_0 rfl rfl ?_
  refine tt_getR (q := 4) dX11_see_1 fl_X11_62 or_0_6 (Nat.le_of_ble_eq_true rfl) rfl rfl ?_
  refine tt_iload_n (q := 5) dX11_see_4 rfl rfl ?_
  refine callVi_1 (q := 8) dX11_see_5 (Or.inl ⟨rfl, rfl, ⟨⟨_, _, rfl, rfl, (Nat.le_of_ble_eq_true rfl), rc_77⟩, Nat.le_of_ble_eq_true rfl, ?_⟩⟩) (Nat.le_of_ble_eq_true rfl) rfl (fun t2 r1 ht2 => ht2)
  refine (show TT cX10_has RX10 false CT0 CN0 _ _ _ none 0 [_, _] [] _ _ from ?_)
  refine tt_iload_n (q := 1) dX10_has_0 rfl rfl ?_
  refine tt_if_lt (q := 4) (t := 16) dX10_has_1 rfl rfl (fun c => ?_) (fun c => ?_)
  · replace h := h.1 c
    refine tt_iconst (q := 17) dX10_has_16 ki_0 rfl ?_
    refine tt_iret dX10_has_17 ⟨rfl, _, rfl, Or.inl nI_0, ?_⟩
    refine tt_if_ne (q := 11) (t := 17) dX11_see_8 rfl rfl (fun c => absurd c (by decide)) (fun c => ?_)
    clear c
    refine tt_aload_n (q := 12) dX11_see_11 rfl rfl ?_
    refine tt_iconst (q := 13) dX11_see_12 ki_m1 rfl ?_
    refine callVi_1 (q := 16) dX11_see_13 (Or.inr (Or.inl ⟨rfl, rfl, ⟨⟨_, _, rfl, rfl, (Nat.le_of_ble_eq_true rfl), rc_0⟩, Nat.le_of_ble_eq_true rfl, ?_⟩⟩)) (Nat.le_of_ble_eq_true rfl) rfl (fun t5 r4 ht5 => ht5)
    refine (show TT cX11_refuse RX11 false CT0 CN0 _ _ _ none 0 [_, _, dum] [] _ _ from ?_)
    refine tt_iload_n (q := 1) dX11_refuse_0 rfl rfl ?_
    refine tt_inegE (v := nI 1) (q := 2) dX11_refuse_1 (by decide) rfl ?_
    refine sti_n_2 (q := 3) dX11_refuse_2 rfl rfl rfl ?_
    refine tt_iload_n (q := 4) dX11_refuse_3 rfl rfl ?_
    refine tt_if_le (q := 7) (t := 23) dX11_refuse_4 rfl rfl (fun c => absurd c (by decide)) (fun c => ?_)
    clear c
    refine tt_iload_n (q := 8) dX11_refuse_7 rfl rfl ?_
    refine tt_bipush (q := 10) dX11_refuse_8 bi_6 rfl ?_
    refine tt_icmp_gt (q := 13) (t := 23) dX11_refuse_10 rfl rfl (fun c => absurd c (by decide)) (fun c => ?_)
    clear c
    refine tt_aload_n (q := 14) dX11_refuse_13 rfl rfl ?_
    refine tt_getR (q := 17) dX11_refuse_14 fl_X11_96 or_0_11 (Nat.le_of_ble_eq_true rfl) rfl rfl ?_
    refine tt_iload_n (q := 18) dX11_refuse_17 rfl rfl ?_
    refine tt_dup2 (q := 19) dX11_refuse_18 rfl rfl rfl ?_
    refine tt_iald (q := 20) dX11_refuse_19 ia_101 (Nat.le_of_ble_eq_true rfl) rfl (Nat.le_of_ble_eq_true rfl : 1 < 7) rfl ?_
    refine tt_iconst (q := 21) dX11_refuse_20 ki_1 rfl ?_
    refine tt_iadd (q := 22) dX11_refuse_21 rfl ?_
    refine tt_iast (q := 23) dX11_refuse_22 ia_101 (Nat.le_of_ble_eq_true rfl) rfl (Nat.le_of_ble_eq_true rfl : 1 < 7) rfl ?_
    replace h := h _ rfl
    refine tt_iload_n (q := 24) dX11_refuse_23 rfl rfl ?_
    refine tt_iret dX11_refuse_24 ⟨rfl, _, rfl, ?_⟩
    exact tt_iret dX11_see_16 ⟨rfl, _, rfl, h⟩
  · replace h := h.2 c
    refine tt_iload_n (q := 5) dX10_has_4 rfl rfl ?_
    refine tt_aload_n (q := 6) dX10_has_5 rfl rfl ?_
    refine tt_getI (q := 9) dX10_has_6 fl_X10_33 oi_77_0 (Nat.le_of_ble_eq_true rfl) rfl ?_
    refine tt_icmp_ge (q := 12) (t := 16) dX10_has_9 rfl rfl (fun c => ?_) (fun c => ?_)
    · replace h := h.1 c
      refine tt_iconst (q := 17) dX10_has_16 ki_0 rfl ?_
      refine tt_iret dX10_has_17 ⟨rfl, _, rfl, Or.inl nI_0, ?_⟩
      refine tt_if_ne (q := 11) (t := 17) dX11_see_8 rfl rfl (fun c => absurd c (by decide)) (fun c => ?_)
      clear c
      refine tt_aload_n (q := 12) dX11_see_11 rfl rfl ?_
      refine tt_iconst (q := 13) dX11_see_12 ki_m1 rfl ?_
      refine callVi_1 (q := 16) dX11_see_13 (Or.inr (Or.inl ⟨rfl, rfl, ⟨⟨_, _, rfl, rfl, (Nat.le_of_ble_eq_true rfl), rc_0⟩, Nat.le_of_ble_eq_true rfl, ?_⟩⟩)) (Nat.le_of_ble_eq_true rfl) rfl (fun t9 r8 ht9 => ht9)
      refine (show TT cX11_refuse RX11 false CT0 CN0 _ _ _ none 0 [_, _, dum] [] _ _ from ?_)
      refine tt_iload_n (q := 1) dX11_refuse_0 rfl rfl ?_
      refine tt_inegE (v := nI 1) (q := 2) dX11_refuse_1 (by decide) rfl ?_
      refine sti_n_2 (q := 3) dX11_refuse_2 rfl rfl rfl ?_
      refine tt_iload_n (q := 4) dX11_refuse_3 rfl rfl ?_
      refine tt_if_le (q := 7) (t := 23) dX11_refuse_4 rfl rfl (fun c => absurd c (by decide)) (fun c => ?_)
      clear c
      refine tt_iload_n (q := 8) dX11_refuse_7 rfl rfl ?_
      refine tt_bipush (q := 10) dX11_refuse_8 bi_6 rfl ?_
      refine tt_icmp_gt (q := 13) (t := 23) dX11_refuse_10 rfl rfl (fun c => absurd c (by decide)) (fun c => ?_)
      clear c
      refine tt_aload_n (q := 14) dX11_refuse_13 rfl rfl ?_
      refine tt_getR (q := 17) dX11_refuse_14 fl_X11_96 or_0_11 (Nat.le_of_ble_eq_true rfl) rfl rfl ?_
      refine tt_iload_n (q := 18) dX11_refuse_17 rfl rfl ?_
      refine tt_dup2 (q := 19) dX11_refuse_18 rfl rfl rfl ?_
      refine tt_iald (q := 20) dX11_refuse_19 ia_101 (Nat.le_of_ble_eq_true rfl) rfl (Nat.le_of_ble_eq_true rfl : 1 < 7) rfl ?_
      refine tt_iconst (q := 21) dX11_refuse_20 ki_1 rfl ?_
      refine tt_iadd (q := 22) dX11_refuse_21 rfl ?_
      refine tt_iast (q := 23) dX11_refuse_22 ia_101 (Nat.le_of_ble_eq_true rfl) rfl (Nat.le_of_ble_eq_true rfl : 1 < 7) rfl ?_
      replace h := h _ rfl
      refine tt_iload_n (q := 24) dX11_refuse_23 rfl rfl ?_
      refine tt_iret dX11_refuse_24 ⟨rfl, _, rfl, ?_⟩
      exact tt_iret dX11_see_16 ⟨rfl, _, rfl, h⟩
    · replace h := h.2 c
      refine tt_iconst (q := 13) dX10_has_12 ki_1 rfl ?_
      refine tt_goto (t := 17) dX10_has_13 rfl ?_
      refine tt_iret dX10_has_17 ⟨rfl, _, rfl, Or.inr rfl, ?_⟩
      refine tt_if_ne (q := 11) (t := 17) dX11_see_8 rfl rfl (fun c => ?_) (fun c => absurd c (by decide))
      clear c
      refine tt_iload_n (q := 18) dX11_see_17 rfl rfl ?_
      refine tt_iconst (q := 19) dX11_see_18 ki_0 rfl ?_
      refine tt_bipush (q := 21) dX11_see_19 bi_99 rfl ?_
      refine callSi_3 (q := 24) dX11_see_21 (Or.inr (Or.inr (Or.inl ⟨rfl, rfl, ⟨rfl, Nat.le_of_ble_eq_true rfl, ?_⟩⟩))) (Nat.le_of_ble_eq_true rfl) rfl (fun t12 r11 ht12 => ht12)
      refine (show TT cX11_outside RX11 false CT0 CN0 _ _ _ none 0 [_, _, _] [] _ _ from ?_)
      refine tt_iload_n (q := 1) dX11_outside_0 rfl rfl ?_
      refine tt_iload_n (q := 2) dX11_outside_1 rfl rfl ?_
      refine tt_icmp_ge (q := 5) (t := 8) dX11_outside_2 rfl rfl (fun c => ?_) (fun c => ?_)
      · replace h := h.1 c
        refine tt_iload_n (q := 9) dX11_outside_8 rfl rfl ?_
        refine tt_iload_n (q := 10) dX11_outside_9 rfl rfl ?_
        refine tt_icmp_le (q := 13) (t := 18) dX11_outside_10 rfl rfl (fun c => ?_) (fun c => ?_)
        · replace h := h.1 c
          refine tt_iconst (q := 19) dX11_outside_18 ki_0 rfl ?_
          refine tt_iret dX11_outside_19 ⟨rfl, _, rfl, ?_⟩
          refine sti_n_3 (q := 25) dX11_see_24 rfl rfl rfl ?_
          refine tt_iload_n (q := 26) dX11_see_25 rfl rfl ?_
          refine tt_if_eq (q := 29) (t := 35) dX11_see_26 rfl rfl (fun c => ?_) (fun c => absurd c (by decide))
          clear c
          refine tt_aload_n (q := 36) dX11_see_35 rfl rfl ?_
          refine tt_getR (q := 39) dX11_see_36 fl_X11_62 or_0_6 (Nat.le_of_ble_eq_true rfl) rfl rfl ?_
          refine tt_getR (q := 42) dX11_see_39 fl_X11_263 or_77_3 (Nat.le_of_ble_eq_true rfl) rfl rfl ?_
          refine tt_iload_n (q := 43) dX11_see_42 rfl rfl ?_
          refine tt_iload_n (q := 44) dX11_see_43 rfl rfl ?_
          refine callSi_3 (q := 47) dX11_see_44 (Or.inr (Or.inr (Or.inr (⟨rfl, rfl, ⟨rfl, Nat.le_of_ble_eq_true rfl, ?_⟩⟩)))) (Nat.le_of_ble_eq_true rfl) rfl (fun t16 r15 ht16 => ht16)
          refine (show TT cX11_exchange RX11 false CT0 CN0 _ _ _ none 0 [_, _, _, dum] [] _ _ from ?_)
          refine tt_aload_n (q := 1) dX11_exchange_0 rfl rfl ?_
          refine tt_iload_n (q := 2) dX11_exchange_1 rfl rfl ?_
          obtain ⟨j18, e19, l17, h⟩ := h
          refine tt_iald (q := 3) dX11_exchange_2 ia_80 (Nat.le_of_ble_eq_true rfl) e19 l17 rfl ?_
          refine sti_n_3 (q := 4) dX11_exchange_3 rfl rfl rfl ?_
          refine tt_aload_n (q := 5) dX11_exchange_4 rfl rfl ?_
          refine tt_iload_n (q := 6) dX11_exchange_5 rfl rfl ?_
          refine tt_iload_n (q := 7) dX11_exchange_6 rfl rfl ?_
          obtain ⟨j21, e22, l20, h⟩ := h
          refine tt_iast (q := 8) dX11_exchange_7 ia_80 (Nat.le_of_ble_eq_true rfl) e22 l20 rfl ?_
          replace h := h _ rfl
          refine tt_iload_n (q := 9) dX11_exchange_8 rfl rfl ?_
          refine tt_iret dX11_exchange_9 ⟨rfl, _, rfl, ?_⟩
          exact tt_iret dX11_see_47 ⟨rfl, _, rfl, h⟩
        · replace h := h.2 c
          refine tt_bipush (q := 15) dX11_outside_13 bi_m6 rfl ?_
          refine tt_goto (t := 19) dX11_outside_15 rfl ?_
          refine tt_iret dX11_outside_19 ⟨rfl, _, rfl, ?_⟩
          refine sti_n_3 (q := 25) dX11_see_24 rfl rfl rfl ?_
          refine tt_iload_n (q := 26) dX11_see_25 rfl rfl ?_
          refine tt_if_eq (q := 29) (t := 35) dX11_see_26 rfl rfl (fun c => absurd c (by decide)) (fun c => ?_)
          clear c
          refine tt_aload_n (q := 30) dX11_see_29 rfl rfl ?_
          refine tt_iload_n (q := 31) dX11_see_30 rfl rfl ?_
          refine callVi_1 (q := 34) dX11_see_31 (Or.inr (Or.inl ⟨rfl, rfl, ⟨⟨_, _, rfl, rfl, (Nat.le_of_ble_eq_true rfl), rc_0⟩, Nat.le_of_ble_eq_true rfl, ?_⟩⟩)) (Nat.le_of_ble_eq_true rfl) rfl (fun t25 r24 ht25 => ht25)
          refine (show TT cX11_refuse RX11 false CT0 CN0 _ _ _ none 0 [_, _, dum] [] _ _ from ?_)
          refine tt_iload_n (q := 1) dX11_refuse_0 rfl rfl ?_
          refine tt_inegE (v := nI 6) (q := 2) dX11_refuse_1 (by decide) rfl ?_
          refine sti_n_2 (q := 3) dX11_refuse_2 rfl rfl rfl ?_
          refine tt_iload_n (q := 4) dX11_refuse_3 rfl rfl ?_
          refine tt_if_le (q := 7) (t := 23) dX11_refuse_4 rfl rfl (fun c => absurd c (by decide)) (fun c => ?_)
          clear c
          refine tt_iload_n (q := 8) dX11_refuse_7 rfl rfl ?_
          refine tt_bipush (q := 10) dX11_refuse_8 bi_6 rfl ?_
          refine tt_icmp_gt (q := 13) (t := 23) dX11_refuse_10 rfl rfl (fun c => absurd c (by decide)) (fun c => ?_)
          clear c
          refine tt_aload_n (q := 14) dX11_refuse_13 rfl rfl ?_
          refine tt_getR (q := 17) dX11_refuse_14 fl_X11_96 or_0_11 (Nat.le_of_ble_eq_true rfl) rfl rfl ?_
          refine tt_iload_n (q := 18) dX11_refuse_17 rfl rfl ?_
          refine tt_dup2 (q := 19) dX11_refuse_18 rfl rfl rfl ?_
          refine tt_iald (q := 20) dX11_refuse_19 ia_101 (Nat.le_of_ble_eq_true rfl) rfl (Nat.le_of_ble_eq_true rfl : 6 < 7) rfl ?_
          refine tt_iconst (q := 21) dX11_refuse_20 ki_1 rfl ?_
          refine tt_iadd (q := 22) dX11_refuse_21 rfl ?_
          refine tt_iast (q := 23) dX11_refuse_22 ia_101 (Nat.le_of_ble_eq_true rfl) rfl (Nat.le_of_ble_eq_true rfl : 6 < 7) rfl ?_
          replace h := h _ rfl
          refine tt_iload_n (q := 24) dX11_refuse_23 rfl rfl ?_
          refine tt_iret dX11_refuse_24 ⟨rfl, _, rfl, ?_⟩
          exact tt_iret dX11_see_34 ⟨rfl, _, rfl, h⟩
      · replace h := h.2 c
        refine tt_bipush (q := 7) dX11_outside_5 bi_m4 rfl ?_
        refine tt_iret dX11_outside_7 ⟨rfl, _, rfl, ?_⟩
        refine sti_n_3 (q := 25) dX11_see_24 rfl rfl rfl ?_
        refine tt_iload_n (q := 26) dX11_see_25 rfl rfl ?_
        refine tt_if_eq (q := 29) (t := 35) dX11_see_26 rfl rfl (fun c => absurd c (by decide)) (fun c => ?_)
        clear c
        refine tt_aload_n (q := 30) dX11_see_29 rfl rfl ?_
        refine tt_iload_n (q := 31) dX11_see_30 rfl rfl ?_
        refine callVi_1 (q := 34) dX11_see_31 (Or.inr (Or.inl ⟨rfl, rfl, ⟨⟨_, _, rfl, rfl, (Nat.le_of_ble_eq_true rfl), rc_0⟩, Nat.le_of_ble_eq_true rfl, ?_⟩⟩)) (Nat.le_of_ble_eq_true rfl) rfl (fun t28 r27 ht28 => ht28)
        refine (show TT cX11_refuse RX11 false CT0 CN0 _ _ _ none 0 [_, _, dum] [] _ _ from ?_)
        refine tt_iload_n (q := 1) dX11_refuse_0 rfl rfl ?_
        refine tt_inegE (v := nI 4) (q := 2) dX11_refuse_1 (by decide) rfl ?_
        refine sti_n_2 (q := 3) dX11_refuse_2 rfl rfl rfl ?_
        refine tt_iload_n (q := 4) dX11_refuse_3 rfl rfl ?_
        refine tt_if_le (q := 7) (t := 23) dX11_refuse_4 rfl rfl (fun c => absurd c (by decide)) (fun c => ?_)
        clear c
        refine tt_iload_n (q := 8) dX11_refuse_7 rfl rfl ?_
        refine tt_bipush (q := 10) dX11_refuse_8 bi_6 rfl ?_
        refine tt_icmp_gt (q := 13) (t := 23) dX11_refuse_10 rfl rfl (fun c => absurd c (by decide)) (fun c => ?_)
        clear c
        refine tt_aload_n (q := 14) dX11_refuse_13 rfl rfl ?_
        refine tt_getR (q := 17) dX11_refuse_14 fl_X11_96 or_0_11 (Nat.le_of_ble_eq_true rfl) rfl rfl ?_
        refine tt_iload_n (q := 18) dX11_refuse_17 rfl rfl ?_
        refine tt_dup2 (q := 19) dX11_refuse_18 rfl rfl rfl ?_
        refine tt_iald (q := 20) dX11_refuse_19 ia_101 (Nat.le_of_ble_eq_true rfl) rfl (Nat.le_of_ble_eq_true rfl : 4 < 7) rfl ?_
        refine tt_iconst (q := 21) dX11_refuse_20 ki_1 rfl ?_
        refine tt_iadd (q := 22) dX11_refuse_21 rfl ?_
        refine tt_iast (q := 23) dX11_refuse_22 ia_101 (Nat.le_of_ble_eq_true rfl) rfl (Nat.le_of_ble_eq_true rfl : 4 < 7) rfl ?_
        replace h := h _ rfl
        refine tt_iload_n (q := 24) dX11_refuse_23 rfl rfl ?_
        refine tt_iret dX11_refuse_24 ⟨rfl, _, rfl, ?_⟩
        exact tt_iret dX11_see_34 ⟨rfl, _, rfl, h⟩

theorem g_X11_sum_0 {post : SG → Int32 → Prop} {σ : SG} {a : Int32} (h : (((nI 50) ≤ a → ((a ≤ (nI 300) → (∃ p7 : SG → Int32 → Prop, IN_X10_tryFrom AF σ [.ref 77, .int (σ 0 12), .ref 81] p7 ∧ ∀ t6 : SG, p7 t6 0 → (∃ p12 : SG → Int32 → Prop, IN_X10_sumOf AF t6 [.ref 77, .ref 81, .int a] p12 ∧ ∀ (t11 : SG) (r10 : Int32), p12 t11 r10 → post t11 r10))) ∧ (¬ a ≤ (nI 300) → (∀ s17 : SG, s17 = up σ 101 6 ((σ 101 6) + (nI 1)) → post s17 (-6 : Int32))))) ∧ (¬ (nI 50) ≤ a → (∀ s20 : SG, s20 = up σ 101 4 ((σ 101 4) + (nI 1)) → post s20 (-4 : Int32))))) : T_X11_sum AF post 0 [.ref 0, .int a, dum] [] σ := by
  refine tt_iload_n (q := 1) dX11_sum_0 rfl rfl ?_
  refine tt_bipush (q := 3) dX11_sum_1 bi_50 rfl ?_
  refine tt_sipush (q := 6) dX11_sum_3 si_300 rfl ?_
  refine callSi_3 (q := 9) dX11_sum_6 (Or.inl ⟨rfl, rfl, ⟨rfl, Nat.le_of_ble_eq_true rfl, ?_⟩⟩) (Nat.le_of_ble_eq_true rfl) rfl (fun t2 r1 ht2 => ht2)
  refine (show TT cX11_outside RX11 false CT0 CN0 _ _ _ none 0 [_, _, _] [] _ _ from ?_)
  refine tt_iload_n (q := 1) dX11_outside_0 rfl rfl ?_
  refine tt_iload_n (q := 2) dX11_outside_1 rfl rfl ?_
  refine tt_icmp_ge (q := 5) (t := 8) dX11_outside_2 rfl rfl (fun c => ?_) (fun c => ?_)
  · replace h := h.1 c
    refine tt_iload_n (q := 9) dX11_outside_8 rfl rfl ?_
    refine tt_iload_n (q := 10) dX11_outside_9 rfl rfl ?_
    refine tt_icmp_le (q := 13) (t := 18) dX11_outside_10 rfl rfl (fun c => ?_) (fun c => ?_)
    · replace h := h.1 c
      refine tt_iconst (q := 19) dX11_outside_18 ki_0 rfl ?_
      refine tt_iret dX11_outside_19 ⟨rfl, _, rfl, ?_⟩
      refine sti_n_2 (q := 10) dX11_sum_9 rfl rfl rfl ?_
      refine tt_iload_n (q := 11) dX11_sum_10 rfl rfl ?_
      refine tt_if_eq (q := 14) (t := 20) dX11_sum_11 rfl rfl (fun c => ?_) (fun c => absurd c (by decide))
      clear c
      refine tt_aload_n (q := 21) dX11_sum_20 rfl rfl ?_
      refine tt_getR (q := 24) dX11_sum_21 fl_X11_62 or_0_6 (Nat.le_of_ble_eq_true rfl) rfl rfl ?_
      refine tt_aload_n (q := 25) dX11_sum_24 rfl rfl ?_
      refine tt_getI (q := 28) dX11_sum_25 fl_X11_100 oi_0_12 (Nat.le_of_ble_eq_true rfl) rfl ?_
      refine tt_aload_n (q := 29) dX11_sum_28 rfl rfl ?_
      refine tt_getR (q := 32) dX11_sum_29 fl_X11_69 or_0_7 (Nat.le_of_ble_eq_true rfl) rfl rfl ?_
      obtain ⟨p7, hp8, h⟩ := h
      refine callVv_2 (q := 35) dX11_sum_32 (Or.inr (Or.inr (Or.inl ⟨rfl, rfl, hp8⟩))) (Nat.le_of_ble_eq_true rfl) rfl (fun t6 hr9 => ?_)
      replace h := h t6 hr9
      refine tt_aload_n (q := 36) dX11_sum_35 rfl rfl ?_
      refine tt_getR (q := 39) dX11_sum_36 fl_X11_62 or_0_6 (Nat.le_of_ble_eq_true rfl) rfl rfl ?_
      refine tt_aload_n (q := 40) dX11_sum_39 rfl rfl ?_
      refine tt_getR (q := 43) dX11_sum_40 fl_X11_69 or_0_7 (Nat.le_of_ble_eq_true rfl) rfl rfl ?_
      refine tt_iload_n (q := 44) dX11_sum_43 rfl rfl ?_
      obtain ⟨p12, hp13, h⟩ := h
      refine callVi_2 (q := 47) dX11_sum_44 (Or.inr (Or.inr (Or.inr (⟨rfl, rfl, hp13⟩)))) (Nat.le_of_ble_eq_true rfl) rfl (fun t11 r10 hr14 => ?_)
      replace h := h t11 r10 hr14
      exact tt_iret dX11_sum_47 ⟨rfl, _, rfl, h⟩
    · replace h := h.2 c
      refine tt_bipush (q := 15) dX11_outside_13 bi_m6 rfl ?_
      refine tt_goto (t := 19) dX11_outside_15 rfl ?_
      refine tt_iret dX11_outside_19 ⟨rfl, _, rfl, ?_⟩
      refine sti_n_2 (q := 10) dX11_sum_9 rfl rfl rfl ?_
      refine tt_iload_n (q := 11) dX11_sum_10 rfl rfl ?_
      refine tt_if_eq (q := 14) (t := 20) dX11_sum_11 rfl rfl (fun c => absurd c (by decide)) (fun c => ?_)
      clear c
      refine tt_aload_n (q := 15) dX11_sum_14 rfl rfl ?_
      refine tt_iload_n (q := 16) dX11_sum_15 rfl rfl ?_
      refine callVi_1 (q := 19) dX11_sum_16 (Or.inr (Or.inl ⟨rfl, rfl, ⟨⟨_, _, rfl, rfl, (Nat.le_of_ble_eq_true rfl), rc_0⟩, Nat.le_of_ble_eq_true rfl, ?_⟩⟩)) (Nat.le_of_ble_eq_true rfl) rfl (fun t16 r15 ht16 => ht16)
      refine (show TT cX11_refuse RX11 false CT0 CN0 _ _ _ none 0 [_, _, dum] [] _ _ from ?_)
      refine tt_iload_n (q := 1) dX11_refuse_0 rfl rfl ?_
      refine tt_inegE (v := nI 6) (q := 2) dX11_refuse_1 (by decide) rfl ?_
      refine sti_n_2 (q := 3) dX11_refuse_2 rfl rfl rfl ?_
      refine tt_iload_n (q := 4) dX11_refuse_3 rfl rfl ?_
      refine tt_if_le (q := 7) (t := 23) dX11_refuse_4 rfl rfl (fun c => absurd c (by decide)) (fun c => ?_)
      clear c
      refine tt_iload_n (q := 8) dX11_refuse_7 rfl rfl ?_
      refine tt_bipush (q := 10) dX11_refuse_8 bi_6 rfl ?_
      refine tt_icmp_gt (q := 13) (t := 23) dX11_refuse_10 rfl rfl (fun c => absurd c (by decide)) (fun c => ?_)
      clear c
      refine tt_aload_n (q := 14) dX11_refuse_13 rfl rfl ?_
      refine tt_getR (q := 17) dX11_refuse_14 fl_X11_96 or_0_11 (Nat.le_of_ble_eq_true rfl) rfl rfl ?_
      refine tt_iload_n (q := 18) dX11_refuse_17 rfl rfl ?_
      refine tt_dup2 (q := 19) dX11_refuse_18 rfl rfl rfl ?_
      refine tt_iald (q := 20) dX11_refuse_19 ia_101 (Nat.le_of_ble_eq_true rfl) rfl (Nat.le_of_ble_eq_true rfl : 6 < 7) rfl ?_
      refine tt_iconst (q := 21) dX11_refuse_20 ki_1 rfl ?_
      refine tt_iadd (q := 22) dX11_refuse_21 rfl ?_
      refine tt_iast (q := 23) dX11_refuse_22 ia_101 (Nat.le_of_ble_eq_true rfl) rfl (Nat.le_of_ble_eq_true rfl : 6 < 7) rfl ?_
      replace h := h _ rfl
      refine tt_iload_n (q := 24) dX11_refuse_23 rfl rfl ?_
      refine tt_iret dX11_refuse_24 ⟨rfl, _, rfl, ?_⟩
      exact tt_iret dX11_sum_19 ⟨rfl, _, rfl, h⟩
  · replace h := h.2 c
    refine tt_bipush (q := 7) dX11_outside_5 bi_m4 rfl ?_
    refine tt_iret dX11_outside_7 ⟨rfl, _, rfl, ?_⟩
    refine sti_n_2 (q := 10) dX11_sum_9 rfl rfl rfl ?_
    refine tt_iload_n (q := 11) dX11_sum_10 rfl rfl ?_
    refine tt_if_eq (q := 14) (t := 20) dX11_sum_11 rfl rfl (fun c => absurd c (by decide)) (fun c => ?_)
    clear c
    refine tt_aload_n (q := 15) dX11_sum_14 rfl rfl ?_
    refine tt_iload_n (q := 16) dX11_sum_15 rfl rfl ?_
    refine callVi_1 (q := 19) dX11_sum_16 (Or.inr (Or.inl ⟨rfl, rfl, ⟨⟨_, _, rfl, rfl, (Nat.le_of_ble_eq_true rfl), rc_0⟩, Nat.le_of_ble_eq_true rfl, ?_⟩⟩)) (Nat.le_of_ble_eq_true rfl) rfl (fun t19 r18 ht19 => ht19)
    refine (show TT cX11_refuse RX11 false CT0 CN0 _ _ _ none 0 [_, _, dum] [] _ _ from ?_)
    refine tt_iload_n (q := 1) dX11_refuse_0 rfl rfl ?_
    refine tt_inegE (v := nI 4) (q := 2) dX11_refuse_1 (by decide) rfl ?_
    refine sti_n_2 (q := 3) dX11_refuse_2 rfl rfl rfl ?_
    refine tt_iload_n (q := 4) dX11_refuse_3 rfl rfl ?_
    refine tt_if_le (q := 7) (t := 23) dX11_refuse_4 rfl rfl (fun c => absurd c (by decide)) (fun c => ?_)
    clear c
    refine tt_iload_n (q := 8) dX11_refuse_7 rfl rfl ?_
    refine tt_bipush (q := 10) dX11_refuse_8 bi_6 rfl ?_
    refine tt_icmp_gt (q := 13) (t := 23) dX11_refuse_10 rfl rfl (fun c => absurd c (by decide)) (fun c => ?_)
    clear c
    refine tt_aload_n (q := 14) dX11_refuse_13 rfl rfl ?_
    refine tt_getR (q := 17) dX11_refuse_14 fl_X11_96 or_0_11 (Nat.le_of_ble_eq_true rfl) rfl rfl ?_
    refine tt_iload_n (q := 18) dX11_refuse_17 rfl rfl ?_
    refine tt_dup2 (q := 19) dX11_refuse_18 rfl rfl rfl ?_
    refine tt_iald (q := 20) dX11_refuse_19 ia_101 (Nat.le_of_ble_eq_true rfl) rfl (Nat.le_of_ble_eq_true rfl : 4 < 7) rfl ?_
    refine tt_iconst (q := 21) dX11_refuse_20 ki_1 rfl ?_
    refine tt_iadd (q := 22) dX11_refuse_21 rfl ?_
    refine tt_iast (q := 23) dX11_refuse_22 ia_101 (Nat.le_of_ble_eq_true rfl) rfl (Nat.le_of_ble_eq_true rfl : 4 < 7) rfl ?_
    replace h := h _ rfl
    refine tt_iload_n (q := 24) dX11_refuse_23 rfl rfl ?_
    refine tt_iret dX11_refuse_24 ⟨rfl, _, rfl, ?_⟩
    exact tt_iret dX11_sum_19 ⟨rfl, _, rfl, h⟩

theorem g_X11_bestPace_0 {post : SG → Int32 → Prop} {σ : SG} (h : (∃ p3 : SG → Int32 → Prop, IN_X10_tryFrom AF σ [.ref 77, .int (σ 0 12), .ref 81] p3 ∧ ∀ t2 : SG, p3 t2 0 → (((t2 81 1) = (-9 : Int32) → (∃ p9 : SG → Int32 → Prop, IN_X10_sumOf AF t2 [.ref 77, .ref 81, .int (nI 50)] p9 ∧ ∀ (t8 : SG) (r7 : Int32), p9 t8 r7 → T_X11_bestPace AF post 49 [.ref 0, .int (nI 50), .int r7, .int (nI 60), dum] [] t8)) ∧ (¬ (t2 81 1) = (-9 : Int32) → post t2 (-9 : Int32))))) : T_X11_bestPace AF post 0 [.ref 0, dum, dum, dum, dum] [] σ := by
  refine tt_aload_n (q := 1) dX11_bestPace_0 rfl rfl ?_
  refine tt_getR (q := 4) dX11_bestPace_1 fl_X11_62 or_0_6 (Nat.le_of_ble_eq_true rfl) rfl rfl ?_
  refine tt_aload_n (q := 5) dX11_bestPace_4 rfl rfl ?_
  refine tt_getI (q := 8) dX11_bestPace_5 fl_X11_100 oi_0_12 (Nat.le_of_ble_eq_true rfl) rfl ?_
  refine tt_aload_n (q := 9) dX11_bestPace_8 rfl rfl ?_
  refine tt_getR (q := 12) dX11_bestPace_9 fl_X11_69 or_0_7 (Nat.le_of_ble_eq_true rfl) rfl rfl ?_
  obtain ⟨p3, hp4, h⟩ := h
  refine callVv_2 (q := 15) dX11_bestPace_12 (Or.inl ⟨rfl, rfl, hp4⟩) (Nat.le_of_ble_eq_true rfl) rfl (fun t2 hr5 => ?_)
  replace h := h t2 hr5
  refine tt_aload_n (q := 16) dX11_bestPace_15 rfl rfl ?_
  refine tt_getR (q := 19) dX11_bestPace_16 fl_X11_69 or_0_7 (Nat.le_of_ble_eq_true rfl) rfl rfl ?_
  refine tt_getI (q := 22) dX11_bestPace_19 fl_X11_240 oi_81_1 (Nat.le_of_ble_eq_true rfl) rfl ?_
  refine tt_bipush (q := 24) dX11_bestPace_22 bi_m9 rfl ?_
  refine tt_icmp_eq (q := 27) (t := 30) dX11_bestPace_24 rfl rfl (fun c => ?_) (fun c => ?_)
  · replace h := h.1 c
    refine tt_bipush (q := 32) dX11_bestPace_30 bi_50 rfl ?_
    refine sti_n_1 (q := 33) dX11_bestPace_32 rfl rfl rfl ?_
    refine tt_aload_n (q := 34) dX11_bestPace_33 rfl rfl ?_
    refine tt_getR (q := 37) dX11_bestPace_34 fl_X11_62 or_0_6 (Nat.le_of_ble_eq_true rfl) rfl rfl ?_
    refine tt_aload_n (q := 38) dX11_bestPace_37 rfl rfl ?_
    refine tt_getR (q := 41) dX11_bestPace_38 fl_X11_69 or_0_7 (Nat.le_of_ble_eq_true rfl) rfl rfl ?_
    refine tt_iload_n (q := 42) dX11_bestPace_41 rfl rfl ?_
    obtain ⟨p9, hp10, h⟩ := h
    refine callVi_2 (q := 45) dX11_bestPace_42 (Or.inr (⟨rfl, rfl, hp10⟩)) (Nat.le_of_ble_eq_true rfl) rfl (fun t8 r7 hr11 => ?_)
    replace h := h t8 r7 hr11
    refine sti_n_2 (q := 46) dX11_bestPace_45 rfl rfl rfl ?_
    refine tt_bipush (q := 48) dX11_bestPace_46 bi_60 rfl ?_
    refine sti_n_3 (q := 49) dX11_bestPace_48 rfl rfl rfl ?_
    exact h
  · replace h := h.2 c
    refine tt_bipush (q := 29) dX11_bestPace_27 bi_m9 rfl ?_
    exact tt_iret dX11_bestPace_29 ⟨rfl, _, rfl, h⟩
theorem g_X11_bestPace_49 {post : SG → Int32 → Prop} {σ : SG} {be : Nat} {le : Int32} {pa : Nat} (h : (pa < 2 ^ 31 ∧ ((300 < pa → post σ (nI be)) ∧ (pa ≤ 300 → (∃ p5 : SG → Int32 → Prop, IN_X10_sumOf AF σ [.ref 77, .ref 81, .int (nI pa)] p5 ∧ ∀ (t4 : SG) (r3 : Int32), p5 t4 r3 → ((le < r3 → T_X11_bestPace AF post 49 [.ref 0, .int (nI be), .int le, .int (nI (pa + 10)), dum] [] t4) ∧ (¬ le < r3 → T_X11_bestPace AF post 49 [.ref 0, .int (nI pa), .int r3, .int (nI (pa + 10)), dum] [] t4))))))) : T_X11_bestPace AF post 49 [.ref 0, .int (nI be), .int le, .int (nI pa), dum] [] σ := by
  refine tt_iload_n (q := 50) dX11_bestPace_49 rfl rfl ?_
  refine tt_sipush (q := 53) dX11_bestPace_50 si_300 rfl ?_
  obtain ⟨l2, h⟩ := h
  refine tt_icmp_gt (q := 56) (t := 87) dX11_bestPace_53 rfl rfl (fun c => ?_) (fun c => ?_)
  · replace h := h.1 ((nI_ltI (by decide) l2).1 c)
    refine tt_iload_n (q := 88) dX11_bestPace_87 rfl rfl ?_
    exact tt_iret dX11_bestPace_88 ⟨rfl, _, rfl, h⟩
  · replace h := h.2 (Nat.le_of_not_lt (fun z => c ((nI_ltI (by decide) l2).2 z)))
    refine tt_aload_n (q := 57) dX11_bestPace_56 rfl rfl ?_
    refine tt_getR (q := 60) dX11_bestPace_57 fl_X11_62 or_0_6 (Nat.le_of_ble_eq_true rfl) rfl rfl ?_
    refine tt_aload_n (q := 61) dX11_bestPace_60 rfl rfl ?_
    refine tt_getR (q := 64) dX11_bestPace_61 fl_X11_69 or_0_7 (Nat.le_of_ble_eq_true rfl) rfl rfl ?_
    refine tt_iload_n (q := 65) dX11_bestPace_64 rfl rfl ?_
    obtain ⟨p5, hp6, h⟩ := h
    refine callVi_2 (q := 68) dX11_bestPace_65 (Or.inr (⟨rfl, rfl, hp6⟩)) (Nat.le_of_ble_eq_true rfl) rfl (fun t4 r3 hr7 => ?_)
    replace h := h t4 r3 hr7
    refine sti_4 (q := 70) dX11_bestPace_68 rfl rfl ?_
    refine tt_iload (q := 72) dX11_bestPace_70 rfl rfl ?_
    refine tt_iload_n (q := 73) dX11_bestPace_72 rfl rfl ?_
    refine tt_icmp_gt (q := 76) (t := 81) dX11_bestPace_73 rfl rfl (fun c => ?_) (fun c => ?_)
    · replace h := h.1 c
      refine inc_3 (q := 84) dX11_bestPace_81 (nI_inc10 _) rfl rfl ?_
      refine tt_goto (t := 49) dX11_bestPace_84 rfl ?_
      refine tt_wk (L2 := [_, _, _, _, dum]) ⟨Or.inl rfl, Or.inl rfl, Or.inl rfl, Or.inl rfl, Or.inr rfl, trivial⟩ ?_
      exact h
    · replace h := h.2 c
      refine tt_iload (q := 78) dX11_bestPace_76 rfl rfl ?_
      refine sti_n_2 (q := 79) dX11_bestPace_78 rfl rfl rfl ?_
      refine tt_iload_n (q := 80) dX11_bestPace_79 rfl rfl ?_
      refine sti_n_1 (q := 81) dX11_bestPace_80 rfl rfl rfl ?_
      refine inc_3 (q := 84) dX11_bestPace_81 (nI_inc10 _) rfl rfl ?_
      refine tt_goto (t := 49) dX11_bestPace_84 rfl ?_
      refine tt_wk (L2 := [_, _, _, _, dum]) ⟨Or.inl rfl, Or.inl rfl, Or.inl rfl, Or.inl rfl, Or.inr rfl, trivial⟩ ?_
      exact h

theorem g_X11_learn_0 {post : SG → Int32 → Prop} {σ : SG} {k : Int32} (h : ((k < 0 → (∀ s6 : SG, s6 = up σ 101 1 ((σ 101 1) + (nI 1)) → post s6 (-1 : Int32))) ∧ (¬ k < 0 → (((σ 77 0) ≤ k → (∀ s10 : SG, s10 = up σ 101 1 ((σ 101 1) + (nI 1)) → post s10 (-1 : Int32))) ∧ (¬ (σ 77 0) ≤ k → (∃ j12 : Nat, k = nI j12 ∧ j12 < 4 ∧ (∃ p16 : SG → Int32 → Prop, IN_X10_solved AF σ [.ref 77, .ref 81] p16 ∧ ∀ (t15 : SG) (r14 : Int32), p16 t15 r14 → T_X11_learn AF post 46 [.ref 0, .int k, .int (σ 79 j12), .int r14, .int (-9 : Int32), .int (nI 0), dum] [] t15))))))) : T_X11_learn AF post 0 [.ref 0, .int k, dum, dum, dum, dum, dum] [] σ := by
  refine tt_aload_n (q := 1) dX11_learn_0 rfl rfl ?_
  refine tt_getR (q := 4) dX11_learn_1 fl_X11_62 or_0_6 (Nat.le_of_ble_eq_true rfl) rfl rfl ?_
  refine tt_iload_n (q := 5) dX11_learn_4 rfl rfl ?_
  refine callVi_1 (q := 8) dX11_learn_5 (Or.inl ⟨rfl, rfl, ⟨⟨_, _, rfl, rfl, (Nat.le_of_ble_eq_true rfl), rc_77⟩, Nat.le_of_ble_eq_true rfl, ?_⟩⟩) (Nat.le_of_ble_eq_true rfl) rfl (fun t2 r1 ht2 => ht2)
  refine (show TT cX10_has RX10 false CT0 CN0 _ _ _ none 0 [_, _] [] _ _ from ?_)
  refine tt_iload_n (q := 1) dX10_has_0 rfl rfl ?_
  refine tt_if_lt (q := 4) (t := 16) dX10_has_1 rfl rfl (fun c => ?_) (fun c => ?_)
  · replace h := h.1 c
    refine tt_iconst (q := 17) dX10_has_16 ki_0 rfl ?_
    refine tt_iret dX10_has_17 ⟨rfl, _, rfl, Or.inl nI_0, ?_⟩
    refine tt_if_ne (q := 11) (t := 17) dX11_learn_8 rfl rfl (fun c => absurd c (by decide)) (fun c => ?_)
    clear c
    refine tt_aload_n (q := 12) dX11_learn_11 rfl rfl ?_
    refine tt_iconst (q := 13) dX11_learn_12 ki_m1 rfl ?_
    refine callVi_1 (q := 16) dX11_learn_13 (Or.inr (Or.inl ⟨rfl, rfl, ⟨⟨_, _, rfl, rfl, (Nat.le_of_ble_eq_true rfl), rc_0⟩, Nat.le_of_ble_eq_true rfl, ?_⟩⟩)) (Nat.le_of_ble_eq_true rfl) rfl (fun t5 r4 ht5 => ht5)
    refine (show TT cX11_refuse RX11 false CT0 CN0 _ _ _ none 0 [_, _, dum] [] _ _ from ?_)
    refine tt_iload_n (q := 1) dX11_refuse_0 rfl rfl ?_
    refine tt_inegE (v := nI 1) (q := 2) dX11_refuse_1 (by decide) rfl ?_
    refine sti_n_2 (q := 3) dX11_refuse_2 rfl rfl rfl ?_
    refine tt_iload_n (q := 4) dX11_refuse_3 rfl rfl ?_
    refine tt_if_le (q := 7) (t := 23) dX11_refuse_4 rfl rfl (fun c => absurd c (by decide)) (fun c => ?_)
    clear c
    refine tt_iload_n (q := 8) dX11_refuse_7 rfl rfl ?_
    refine tt_bipush (q := 10) dX11_refuse_8 bi_6 rfl ?_
    refine tt_icmp_gt (q := 13) (t := 23) dX11_refuse_10 rfl rfl (fun c => absurd c (by decide)) (fun c => ?_)
    clear c
    refine tt_aload_n (q := 14) dX11_refuse_13 rfl rfl ?_
    refine tt_getR (q := 17) dX11_refuse_14 fl_X11_96 or_0_11 (Nat.le_of_ble_eq_true rfl) rfl rfl ?_
    refine tt_iload_n (q := 18) dX11_refuse_17 rfl rfl ?_
    refine tt_dup2 (q := 19) dX11_refuse_18 rfl rfl rfl ?_
    refine tt_iald (q := 20) dX11_refuse_19 ia_101 (Nat.le_of_ble_eq_true rfl) rfl (Nat.le_of_ble_eq_true rfl : 1 < 7) rfl ?_
    refine tt_iconst (q := 21) dX11_refuse_20 ki_1 rfl ?_
    refine tt_iadd (q := 22) dX11_refuse_21 rfl ?_
    refine tt_iast (q := 23) dX11_refuse_22 ia_101 (Nat.le_of_ble_eq_true rfl) rfl (Nat.le_of_ble_eq_true rfl : 1 < 7) rfl ?_
    replace h := h _ rfl
    refine tt_iload_n (q := 24) dX11_refuse_23 rfl rfl ?_
    refine tt_iret dX11_refuse_24 ⟨rfl, _, rfl, ?_⟩
    exact tt_iret dX11_learn_16 ⟨rfl, _, rfl, h⟩
  · replace h := h.2 c
    refine tt_iload_n (q := 5) dX10_has_4 rfl rfl ?_
    refine tt_aload_n (q := 6) dX10_has_5 rfl rfl ?_
    refine tt_getI (q := 9) dX10_has_6 fl_X10_33 oi_77_0 (Nat.le_of_ble_eq_true rfl) rfl ?_
    refine tt_icmp_ge (q := 12) (t := 16) dX10_has_9 rfl rfl (fun c => ?_) (fun c => ?_)
    · replace h := h.1 c
      refine tt_iconst (q := 17) dX10_has_16 ki_0 rfl ?_
      refine tt_iret dX10_has_17 ⟨rfl, _, rfl, Or.inl nI_0, ?_⟩
      refine tt_if_ne (q := 11) (t := 17) dX11_learn_8 rfl rfl (fun c => absurd c (by decide)) (fun c => ?_)
      clear c
      refine tt_aload_n (q := 12) dX11_learn_11 rfl rfl ?_
      refine tt_iconst (q := 13) dX11_learn_12 ki_m1 rfl ?_
      refine callVi_1 (q := 16) dX11_learn_13 (Or.inr (Or.inl ⟨rfl, rfl, ⟨⟨_, _, rfl, rfl, (Nat.le_of_ble_eq_true rfl), rc_0⟩, Nat.le_of_ble_eq_true rfl, ?_⟩⟩)) (Nat.le_of_ble_eq_true rfl) rfl (fun t9 r8 ht9 => ht9)
      refine (show TT cX11_refuse RX11 false CT0 CN0 _ _ _ none 0 [_, _, dum] [] _ _ from ?_)
      refine tt_iload_n (q := 1) dX11_refuse_0 rfl rfl ?_
      refine tt_inegE (v := nI 1) (q := 2) dX11_refuse_1 (by decide) rfl ?_
      refine sti_n_2 (q := 3) dX11_refuse_2 rfl rfl rfl ?_
      refine tt_iload_n (q := 4) dX11_refuse_3 rfl rfl ?_
      refine tt_if_le (q := 7) (t := 23) dX11_refuse_4 rfl rfl (fun c => absurd c (by decide)) (fun c => ?_)
      clear c
      refine tt_iload_n (q := 8) dX11_refuse_7 rfl rfl ?_
      refine tt_bipush (q := 10) dX11_refuse_8 bi_6 rfl ?_
      refine tt_icmp_gt (q := 13) (t := 23) dX11_refuse_10 rfl rfl (fun c => absurd c (by decide)) (fun c => ?_)
      clear c
      refine tt_aload_n (q := 14) dX11_refuse_13 rfl rfl ?_
      refine tt_getR (q := 17) dX11_refuse_14 fl_X11_96 or_0_11 (Nat.le_of_ble_eq_true rfl) rfl rfl ?_
      refine tt_iload_n (q := 18) dX11_refuse_17 rfl rfl ?_
      refine tt_dup2 (q := 19) dX11_refuse_18 rfl rfl rfl ?_
      refine tt_iald (q := 20) dX11_refuse_19 ia_101 (Nat.le_of_ble_eq_true rfl) rfl (Nat.le_of_ble_eq_true rfl : 1 < 7) rfl ?_
      refine tt_iconst (q := 21) dX11_refuse_20 ki_1 rfl ?_
      refine tt_iadd (q := 22) dX11_refuse_21 rfl ?_
      refine tt_iast (q := 23) dX11_refuse_22 ia_101 (Nat.le_of_ble_eq_true rfl) rfl (Nat.le_of_ble_eq_true rfl : 1 < 7) rfl ?_
      replace h := h _ rfl
      refine tt_iload_n (q := 24) dX11_refuse_23 rfl rfl ?_
      refine tt_iret dX11_refuse_24 ⟨rfl, _, rfl, ?_⟩
      exact tt_iret dX11_learn_16 ⟨rfl, _, rfl, h⟩
    · replace h := h.2 c
      refine tt_iconst (q := 13) dX10_has_12 ki_1 rfl ?_
      refine tt_goto (t := 17) dX10_has_13 rfl ?_
      refine tt_iret dX10_has_17 ⟨rfl, _, rfl, Or.inr rfl, ?_⟩
      refine tt_if_ne (q := 11) (t := 17) dX11_learn_8 rfl rfl (fun c => ?_) (fun c => absurd c (by decide))
      clear c
      refine tt_aload_n (q := 18) dX11_learn_17 rfl rfl ?_
      refine tt_getR (q := 21) dX11_learn_18 fl_X11_62 or_0_6 (Nat.le_of_ble_eq_true rfl) rfl rfl ?_
      refine tt_getR (q := 24) dX11_learn_21 fl_X11_270 or_77_2 (Nat.le_of_ble_eq_true rfl) rfl rfl ?_
      refine tt_iload_n (q := 25) dX11_learn_24 rfl rfl ?_
      obtain ⟨j12, e13, l11, h⟩ := h
      refine tt_iald (q := 26) dX11_learn_25 ia_79 (Nat.le_of_ble_eq_true rfl) e13 l11 rfl ?_
      refine sti_n_2 (q := 27) dX11_learn_26 rfl rfl rfl ?_
      refine tt_aload_n (q := 28) dX11_learn_27 rfl rfl ?_
      refine tt_getR (q := 31) dX11_learn_28 fl_X11_62 or_0_6 (Nat.le_of_ble_eq_true rfl) rfl rfl ?_
      refine tt_aload_n (q := 32) dX11_learn_31 rfl rfl ?_
      refine tt_getR (q := 35) dX11_learn_32 fl_X11_69 or_0_7 (Nat.le_of_ble_eq_true rfl) rfl rfl ?_
      obtain ⟨p16, hp17, h⟩ := h
      refine callVi_1 (q := 38) dX11_learn_35 (Or.inr (Or.inr (⟨rfl, rfl, hp17⟩))) (Nat.le_of_ble_eq_true rfl) rfl (fun t15 r14 hr18 => ?_)
      replace h := h t15 r14 hr18
      refine sti_n_3 (q := 39) dX11_learn_38 rfl rfl rfl ?_
      refine tt_bipush (q := 41) dX11_learn_39 bi_m9 rfl ?_
      refine sti_4 (q := 43) dX11_learn_41 rfl rfl ?_
      refine tt_iconst (q := 44) dX11_learn_43 ki_0 rfl ?_
      refine sti_5 (q := 46) dX11_learn_44 rfl rfl ?_
      exact h
theorem g_X11_learn_46 {post : SG → Int32 → Prop} {σ : SG} {k : Nat} {own : Int32} {mo : Int32} {be : Int32} {r : Nat} (h : (((σ 36 0) ≤ (nI r) → (k < 4 ∧ (∀ s3 : SG, s3 = up σ 79 k own → post s3 be))) ∧ (¬ (σ 36 0) ≤ (nI r) → ((¬ ((own >>> ((nI r) &&& 31)) &&& (nI 1)) = 0 → T_X11_learn AF post 46 [.ref 0, .int (nI k), .int own, .int mo, .int be, .int (nI (r + 1)), dum] [] σ) ∧ (((own >>> ((nI r) &&& 31)) &&& (nI 1)) = 0 → (k < 4 ∧ (∀ s6 : SG, s6 = up σ 79 k (own ||| ((nI 1) <<< ((nI r) &&& 31))) → (∃ p9 : SG → Int32 → Prop, IN_X10_solved AF s6 [.ref 77, .ref 81] p9 ∧ ∀ (t8 : SG) (r7 : Int32), p9 t8 r7 → ((r7 ≤ mo → T_X11_learn AF post 46 [.ref 0, .int (nI k), .int own, .int mo, .int be, .int (nI (r + 1)), dum] [] t8) ∧ (¬ r7 ≤ mo → T_X11_learn AF post 46 [.ref 0, .int (nI k), .int own, .int r7, .int (nI r), .int (nI (r + 1)), dum] [] t8)))))))))) : T_X11_learn AF post 46 [.ref 0, .int (nI k), .int own, .int mo, .int be, .int (nI r), dum] [] σ := by
  refine tt_iload (q := 48) dX11_learn_46 rfl rfl ?_
  refine tt_aload_n (q := 49) dX11_learn_48 rfl rfl ?_
  refine tt_getR (q := 52) dX11_learn_49 fl_X11_37 or_0_3 (Nat.le_of_ble_eq_true rfl) rfl rfl ?_
  refine tt_getI (q := 55) dX11_learn_52 fl_X11_137 oi_36_0 (Nat.le_of_ble_eq_true rfl) rfl ?_
  refine tt_icmp_ge (q := 58) (t := 114) dX11_learn_55 rfl rfl (fun c => ?_) (fun c => ?_)
  · replace h := h.1 c
    refine tt_aload_n (q := 115) dX11_learn_114 rfl rfl ?_
    refine tt_getR (q := 118) dX11_learn_115 fl_X11_62 or_0_6 (Nat.le_of_ble_eq_true rfl) rfl rfl ?_
    refine tt_getR (q := 121) dX11_learn_118 fl_X11_270 or_77_2 (Nat.le_of_ble_eq_true rfl) rfl rfl ?_
    refine tt_iload_n (q := 122) dX11_learn_121 rfl rfl ?_
    refine tt_iload_n (q := 123) dX11_learn_122 rfl rfl ?_
    obtain ⟨l2, h⟩ := h
    refine tt_iast (q := 124) dX11_learn_123 ia_79 (Nat.le_of_ble_eq_true rfl) rfl l2 rfl ?_
    replace h := h _ rfl
    refine tt_iload (q := 126) dX11_learn_124 rfl rfl ?_
    exact tt_iret dX11_learn_126 ⟨rfl, _, rfl, h⟩
  · replace h := h.2 c
    refine tt_iload_n (q := 59) dX11_learn_58 rfl rfl ?_
    refine tt_iload (q := 61) dX11_learn_59 rfl rfl ?_
    refine tt_ishr (q := 62) dX11_learn_61 rfl ?_
    refine tt_iconst (q := 63) dX11_learn_62 ki_1 rfl ?_
    refine tt_iand (q := 64) dX11_learn_63 rfl ?_
    refine tt_if_ne (q := 67) (t := 108) dX11_learn_64 rfl rfl (fun c => ?_) (fun c => ?_)
    · replace h := h.1 c
      refine inc_5 (q := 111) dX11_learn_108 (nI_inc1 _) rfl rfl ?_
      refine tt_goto (t := 46) dX11_learn_111 rfl ?_
      exact h
    · replace h := h.2 c
      refine tt_aload_n (q := 68) dX11_learn_67 rfl rfl ?_
      refine tt_getR (q := 71) dX11_learn_68 fl_X11_62 or_0_6 (Nat.le_of_ble_eq_true rfl) rfl rfl ?_
      refine tt_getR (q := 74) dX11_learn_71 fl_X11_270 or_77_2 (Nat.le_of_ble_eq_true rfl) rfl rfl ?_
      refine tt_iload_n (q := 75) dX11_learn_74 rfl rfl ?_
      refine tt_iload_n (q := 76) dX11_learn_75 rfl rfl ?_
      refine tt_iconst (q := 77) dX11_learn_76 ki_1 rfl ?_
      refine tt_iload (q := 79) dX11_learn_77 rfl rfl ?_
      refine tt_ishl (q := 80) dX11_learn_79 rfl ?_
      refine tt_ior (q := 81) dX11_learn_80 rfl ?_
      obtain ⟨l5, h⟩ := h
      refine tt_iast (q := 82) dX11_learn_81 ia_79 (Nat.le_of_ble_eq_true rfl) rfl l5 rfl ?_
      replace h := h _ rfl
      refine tt_aload_n (q := 83) dX11_learn_82 rfl rfl ?_
      refine tt_getR (q := 86) dX11_learn_83 fl_X11_62 or_0_6 (Nat.le_of_ble_eq_true rfl) rfl rfl ?_
      refine tt_aload_n (q := 87) dX11_learn_86 rfl rfl ?_
      refine tt_getR (q := 90) dX11_learn_87 fl_X11_69 or_0_7 (Nat.le_of_ble_eq_true rfl) rfl rfl ?_
      obtain ⟨p9, hp10, h⟩ := h
      refine callVi_1 (q := 93) dX11_learn_90 (Or.inr (Or.inr (⟨rfl, rfl, hp10⟩))) (Nat.le_of_ble_eq_true rfl) rfl (fun t8 r7 hr11 => ?_)
      replace h := h t8 r7 hr11
      refine sti_6 (q := 95) dX11_learn_93 rfl rfl ?_
      refine tt_iload (q := 97) dX11_learn_95 rfl rfl ?_
      refine tt_iload_n (q := 98) dX11_learn_97 rfl rfl ?_
      refine tt_icmp_le (q := 101) (t := 108) dX11_learn_98 rfl rfl (fun c => ?_) (fun c => ?_)
      · replace h := h.1 c
        refine inc_5 (q := 111) dX11_learn_108 (nI_inc1 _) rfl rfl ?_
        refine tt_goto (t := 46) dX11_learn_111 rfl ?_
        refine tt_wk (L2 := [_, _, _, _, _, _, dum]) ⟨Or.inl rfl, Or.inl rfl, Or.inl rfl, Or.inl rfl, Or.inl rfl, Or.inl rfl, Or.inr rfl, trivial⟩ ?_
        exact h
      · replace h := h.2 c
        refine tt_iload (q := 103) dX11_learn_101 rfl rfl ?_
        refine sti_n_3 (q := 104) dX11_learn_103 rfl rfl rfl ?_
        refine tt_iload (q := 106) dX11_learn_104 rfl rfl ?_
        refine sti_4 (q := 108) dX11_learn_106 rfl rfl ?_
        refine inc_5 (q := 111) dX11_learn_108 (nI_inc1 _) rfl rfl ?_
        refine tt_goto (t := 46) dX11_learn_111 rfl ?_
        refine tt_wk (L2 := [_, _, _, _, _, _, dum]) ⟨Or.inl rfl, Or.inl rfl, Or.inl rfl, Or.inl rfl, Or.inl rfl, Or.inl rfl, Or.inr rfl, trivial⟩ ?_
        exact h

theorem g_X11_five_0 {post : SG → Int32 → Prop} {σ : SG} {a : Int32} (h : (((nI 1) ≤ a → ((a ≤ (nI 9999) → (((σ 83 0) < (nI 5) → (∃ p8 : SG → Int32 → Prop, IN_X7_add AF σ [.ref 83, .int a] p8 ∧ ∀ t7 : SG, p8 t7 0 → post t7 (t7 83 0))) ∧ (¬ (σ 83 0) < (nI 5) → (∀ s13 : SG, s13 = up σ 101 6 ((σ 101 6) + (nI 1)) → post s13 (-6 : Int32))))) ∧ (¬ a ≤ (nI 9999) → (∀ s16 : SG, s16 = up σ 101 6 ((σ 101 6) + (nI 1)) → post s16 (-6 : Int32))))) ∧ (¬ (nI 1) ≤ a → (∀ s19 : SG, s19 = up σ 101 4 ((σ 101 4) + (nI 1)) → post s19 (-4 : Int32))))) : T_X11_five AF post 0 [.ref 0, .int a, dum] [] σ := by
  refine tt_iload_n (q := 1) dX11_five_0 rfl rfl ?_
  refine tt_iconst (q := 2) dX11_five_1 ki_1 rfl ?_
  refine tt_sipush (q := 5) dX11_five_2 si_9999 rfl ?_
  refine callSi_3 (q := 8) dX11_five_5 (Or.inl ⟨rfl, rfl, ⟨rfl, Nat.le_of_ble_eq_true rfl, ?_⟩⟩) (Nat.le_of_ble_eq_true rfl) rfl (fun t2 r1 ht2 => ht2)
  refine (show TT cX11_outside RX11 false CT0 CN0 _ _ _ none 0 [_, _, _] [] _ _ from ?_)
  refine tt_iload_n (q := 1) dX11_outside_0 rfl rfl ?_
  refine tt_iload_n (q := 2) dX11_outside_1 rfl rfl ?_
  refine tt_icmp_ge (q := 5) (t := 8) dX11_outside_2 rfl rfl (fun c => ?_) (fun c => ?_)
  · replace h := h.1 c
    refine tt_iload_n (q := 9) dX11_outside_8 rfl rfl ?_
    refine tt_iload_n (q := 10) dX11_outside_9 rfl rfl ?_
    refine tt_icmp_le (q := 13) (t := 18) dX11_outside_10 rfl rfl (fun c => ?_) (fun c => ?_)
    · replace h := h.1 c
      refine tt_iconst (q := 19) dX11_outside_18 ki_0 rfl ?_
      refine tt_iret dX11_outside_19 ⟨rfl, _, rfl, ?_⟩
      refine sti_n_2 (q := 9) dX11_five_8 rfl rfl rfl ?_
      refine tt_iload_n (q := 10) dX11_five_9 rfl rfl ?_
      refine tt_if_eq (q := 13) (t := 19) dX11_five_10 rfl rfl (fun c => ?_) (fun c => absurd c (by decide))
      clear c
      refine tt_aload_n (q := 20) dX11_five_19 rfl rfl ?_
      refine tt_getR (q := 23) dX11_five_20 fl_X11_76 or_0_8 (Nat.le_of_ble_eq_true rfl) rfl rfl ?_
      refine tt_getI (q := 26) dX11_five_23 fl_X11_273 oi_83_0 (Nat.le_of_ble_eq_true rfl) rfl ?_
      refine tt_iconst (q := 27) dX11_five_26 ki_5 rfl ?_
      refine tt_icmp_lt (q := 30) (t := 37) dX11_five_27 rfl rfl (fun c => ?_) (fun c => ?_)
      · replace h := h.1 c
        refine tt_aload_n (q := 38) dX11_five_37 rfl rfl ?_
        refine tt_getR (q := 41) dX11_five_38 fl_X11_76 or_0_8 (Nat.le_of_ble_eq_true rfl) rfl rfl ?_
        refine tt_iload_n (q := 42) dX11_five_41 rfl rfl ?_
        obtain ⟨p8, hp9, h⟩ := h
        refine callVv_1 (q := 45) dX11_five_42 (Or.inr (Or.inr (⟨rfl, rfl, hp9⟩))) (Nat.le_of_ble_eq_true rfl) rfl (fun t7 hr10 => ?_)
        replace h := h t7 hr10
        refine tt_aload_n (q := 46) dX11_five_45 rfl rfl ?_
        refine tt_getR (q := 49) dX11_five_46 fl_X11_76 or_0_8 (Nat.le_of_ble_eq_true rfl) rfl rfl ?_
        refine tt_getI (q := 52) dX11_five_49 fl_X11_273 oi_83_0 (Nat.le_of_ble_eq_true rfl) rfl ?_
        exact tt_iret dX11_five_52 ⟨rfl, _, rfl, h⟩
      · replace h := h.2 c
        refine tt_aload_n (q := 31) dX11_five_30 rfl rfl ?_
        refine tt_bipush (q := 33) dX11_five_31 bi_m6 rfl ?_
        refine callVi_1 (q := 36) dX11_five_33 (Or.inr (Or.inl ⟨rfl, rfl, ⟨⟨_, _, rfl, rfl, (Nat.le_of_ble_eq_true rfl), rc_0⟩, Nat.le_of_ble_eq_true rfl, ?_⟩⟩)) (Nat.le_of_ble_eq_true rfl) rfl (fun t12 r11 ht12 => ht12)
        refine (show TT cX11_refuse RX11 false CT0 CN0 _ _ _ none 0 [_, _, dum] [] _ _ from ?_)
        refine tt_iload_n (q := 1) dX11_refuse_0 rfl rfl ?_
        refine tt_inegE (v := nI 6) (q := 2) dX11_refuse_1 (by decide) rfl ?_
        refine sti_n_2 (q := 3) dX11_refuse_2 rfl rfl rfl ?_
        refine tt_iload_n (q := 4) dX11_refuse_3 rfl rfl ?_
        refine tt_if_le (q := 7) (t := 23) dX11_refuse_4 rfl rfl (fun c => absurd c (by decide)) (fun c => ?_)
        clear c
        refine tt_iload_n (q := 8) dX11_refuse_7 rfl rfl ?_
        refine tt_bipush (q := 10) dX11_refuse_8 bi_6 rfl ?_
        refine tt_icmp_gt (q := 13) (t := 23) dX11_refuse_10 rfl rfl (fun c => absurd c (by decide)) (fun c => ?_)
        clear c
        refine tt_aload_n (q := 14) dX11_refuse_13 rfl rfl ?_
        refine tt_getR (q := 17) dX11_refuse_14 fl_X11_96 or_0_11 (Nat.le_of_ble_eq_true rfl) rfl rfl ?_
        refine tt_iload_n (q := 18) dX11_refuse_17 rfl rfl ?_
        refine tt_dup2 (q := 19) dX11_refuse_18 rfl rfl rfl ?_
        refine tt_iald (q := 20) dX11_refuse_19 ia_101 (Nat.le_of_ble_eq_true rfl) rfl (Nat.le_of_ble_eq_true rfl : 6 < 7) rfl ?_
        refine tt_iconst (q := 21) dX11_refuse_20 ki_1 rfl ?_
        refine tt_iadd (q := 22) dX11_refuse_21 rfl ?_
        refine tt_iast (q := 23) dX11_refuse_22 ia_101 (Nat.le_of_ble_eq_true rfl) rfl (Nat.le_of_ble_eq_true rfl : 6 < 7) rfl ?_
        replace h := h _ rfl
        refine tt_iload_n (q := 24) dX11_refuse_23 rfl rfl ?_
        refine tt_iret dX11_refuse_24 ⟨rfl, _, rfl, ?_⟩
        exact tt_iret dX11_five_36 ⟨rfl, _, rfl, h⟩
    · replace h := h.2 c
      refine tt_bipush (q := 15) dX11_outside_13 bi_m6 rfl ?_
      refine tt_goto (t := 19) dX11_outside_15 rfl ?_
      refine tt_iret dX11_outside_19 ⟨rfl, _, rfl, ?_⟩
      refine sti_n_2 (q := 9) dX11_five_8 rfl rfl rfl ?_
      refine tt_iload_n (q := 10) dX11_five_9 rfl rfl ?_
      refine tt_if_eq (q := 13) (t := 19) dX11_five_10 rfl rfl (fun c => absurd c (by decide)) (fun c => ?_)
      clear c
      refine tt_aload_n (q := 14) dX11_five_13 rfl rfl ?_
      refine tt_iload_n (q := 15) dX11_five_14 rfl rfl ?_
      refine callVi_1 (q := 18) dX11_five_15 (Or.inr (Or.inl ⟨rfl, rfl, ⟨⟨_, _, rfl, rfl, (Nat.le_of_ble_eq_true rfl), rc_0⟩, Nat.le_of_ble_eq_true rfl, ?_⟩⟩)) (Nat.le_of_ble_eq_true rfl) rfl (fun t15 r14 ht15 => ht15)
      refine (show TT cX11_refuse RX11 false CT0 CN0 _ _ _ none 0 [_, _, dum] [] _ _ from ?_)
      refine tt_iload_n (q := 1) dX11_refuse_0 rfl rfl ?_
      refine tt_inegE (v := nI 6) (q := 2) dX11_refuse_1 (by decide) rfl ?_
      refine sti_n_2 (q := 3) dX11_refuse_2 rfl rfl rfl ?_
      refine tt_iload_n (q := 4) dX11_refuse_3 rfl rfl ?_
      refine tt_if_le (q := 7) (t := 23) dX11_refuse_4 rfl rfl (fun c => absurd c (by decide)) (fun c => ?_)
      clear c
      refine tt_iload_n (q := 8) dX11_refuse_7 rfl rfl ?_
      refine tt_bipush (q := 10) dX11_refuse_8 bi_6 rfl ?_
      refine tt_icmp_gt (q := 13) (t := 23) dX11_refuse_10 rfl rfl (fun c => absurd c (by decide)) (fun c => ?_)
      clear c
      refine tt_aload_n (q := 14) dX11_refuse_13 rfl rfl ?_
      refine tt_getR (q := 17) dX11_refuse_14 fl_X11_96 or_0_11 (Nat.le_of_ble_eq_true rfl) rfl rfl ?_
      refine tt_iload_n (q := 18) dX11_refuse_17 rfl rfl ?_
      refine tt_dup2 (q := 19) dX11_refuse_18 rfl rfl rfl ?_
      refine tt_iald (q := 20) dX11_refuse_19 ia_101 (Nat.le_of_ble_eq_true rfl) rfl (Nat.le_of_ble_eq_true rfl : 6 < 7) rfl ?_
      refine tt_iconst (q := 21) dX11_refuse_20 ki_1 rfl ?_
      refine tt_iadd (q := 22) dX11_refuse_21 rfl ?_
      refine tt_iast (q := 23) dX11_refuse_22 ia_101 (Nat.le_of_ble_eq_true rfl) rfl (Nat.le_of_ble_eq_true rfl : 6 < 7) rfl ?_
      replace h := h _ rfl
      refine tt_iload_n (q := 24) dX11_refuse_23 rfl rfl ?_
      refine tt_iret dX11_refuse_24 ⟨rfl, _, rfl, ?_⟩
      exact tt_iret dX11_five_18 ⟨rfl, _, rfl, h⟩
  · replace h := h.2 c
    refine tt_bipush (q := 7) dX11_outside_5 bi_m4 rfl ?_
    refine tt_iret dX11_outside_7 ⟨rfl, _, rfl, ?_⟩
    refine sti_n_2 (q := 9) dX11_five_8 rfl rfl rfl ?_
    refine tt_iload_n (q := 10) dX11_five_9 rfl rfl ?_
    refine tt_if_eq (q := 13) (t := 19) dX11_five_10 rfl rfl (fun c => absurd c (by decide)) (fun c => ?_)
    clear c
    refine tt_aload_n (q := 14) dX11_five_13 rfl rfl ?_
    refine tt_iload_n (q := 15) dX11_five_14 rfl rfl ?_
    refine callVi_1 (q := 18) dX11_five_15 (Or.inr (Or.inl ⟨rfl, rfl, ⟨⟨_, _, rfl, rfl, (Nat.le_of_ble_eq_true rfl), rc_0⟩, Nat.le_of_ble_eq_true rfl, ?_⟩⟩)) (Nat.le_of_ble_eq_true rfl) rfl (fun t18 r17 ht18 => ht18)
    refine (show TT cX11_refuse RX11 false CT0 CN0 _ _ _ none 0 [_, _, dum] [] _ _ from ?_)
    refine tt_iload_n (q := 1) dX11_refuse_0 rfl rfl ?_
    refine tt_inegE (v := nI 4) (q := 2) dX11_refuse_1 (by decide) rfl ?_
    refine sti_n_2 (q := 3) dX11_refuse_2 rfl rfl rfl ?_
    refine tt_iload_n (q := 4) dX11_refuse_3 rfl rfl ?_
    refine tt_if_le (q := 7) (t := 23) dX11_refuse_4 rfl rfl (fun c => absurd c (by decide)) (fun c => ?_)
    clear c
    refine tt_iload_n (q := 8) dX11_refuse_7 rfl rfl ?_
    refine tt_bipush (q := 10) dX11_refuse_8 bi_6 rfl ?_
    refine tt_icmp_gt (q := 13) (t := 23) dX11_refuse_10 rfl rfl (fun c => absurd c (by decide)) (fun c => ?_)
    clear c
    refine tt_aload_n (q := 14) dX11_refuse_13 rfl rfl ?_
    refine tt_getR (q := 17) dX11_refuse_14 fl_X11_96 or_0_11 (Nat.le_of_ble_eq_true rfl) rfl rfl ?_
    refine tt_iload_n (q := 18) dX11_refuse_17 rfl rfl ?_
    refine tt_dup2 (q := 19) dX11_refuse_18 rfl rfl rfl ?_
    refine tt_iald (q := 20) dX11_refuse_19 ia_101 (Nat.le_of_ble_eq_true rfl) rfl (Nat.le_of_ble_eq_true rfl : 4 < 7) rfl ?_
    refine tt_iconst (q := 21) dX11_refuse_20 ki_1 rfl ?_
    refine tt_iadd (q := 22) dX11_refuse_21 rfl ?_
    refine tt_iast (q := 23) dX11_refuse_22 ia_101 (Nat.le_of_ble_eq_true rfl) rfl (Nat.le_of_ble_eq_true rfl : 4 < 7) rfl ?_
    replace h := h _ rfl
    refine tt_iload_n (q := 24) dX11_refuse_23 rfl rfl ?_
    refine tt_iret dX11_refuse_24 ⟨rfl, _, rfl, ?_⟩
    exact tt_iret dX11_five_18 ⟨rfl, _, rfl, h⟩

theorem g_X11_middle_0 {post : SG → Int32 → Prop} {σ : SG} {a : Int32} (h : ((a = 0 → (((σ 83 0) = (nI 5) → ((¬ a = (nI 1) → (∃ p8 : SG → Int32 → Prop, IN_X11_leastTerms AF σ [.int (((σ 84 1) + (σ 84 2)) + (σ 84 3)), .int (nI 3), .int a] p8 ∧ ∀ (t7 : SG) (r6 : Int32), p8 t7 r6 → post t7 r6)) ∧ (a = (nI 1) → (∀ s11 : SG, s11 = up σ 83 0 (nI 0) → (∃ p14 : SG → Int32 → Prop, IN_X11_leastTerms AF s11 [.int (((σ 84 1) + (σ 84 2)) + (σ 84 3)), .int (nI 3), .int a] p14 ∧ ∀ (t13 : SG) (r12 : Int32), p14 t13 r12 → post t13 r12))))) ∧ (¬ (σ 83 0) = (nI 5) → (∀ s19 : SG, s19 = up σ 101 3 ((σ 101 3) + (nI 1)) → post s19 (-3 : Int32))))) ∧ (¬ a = 0 → ((a = (nI 1) → (((σ 83 0) = (nI 5) → ((¬ a = (nI 1) → (∃ p27 : SG → Int32 → Prop, IN_X11_leastTerms AF σ [.int (((σ 84 1) + (σ 84 2)) + (σ 84 3)), .int (nI 3), .int a] p27 ∧ ∀ (t26 : SG) (r25 : Int32), p27 t26 r25 → post t26 r25)) ∧ (a = (nI 1) → (∀ s30 : SG, s30 = up σ 83 0 (nI 0) → (∃ p33 : SG → Int32 → Prop, IN_X11_leastTerms AF s30 [.int (((σ 84 1) + (σ 84 2)) + (σ 84 3)), .int (nI 3), .int a] p33 ∧ ∀ (t32 : SG) (r31 : Int32), p33 t32 r31 → post t32 r31))))) ∧ (¬ (σ 83 0) = (nI 5) → (∀ s38 : SG, s38 = up σ 101 3 ((σ 101 3) + (nI 1)) → post s38 (-3 : Int32))))) ∧ (¬ a = (nI 1) → (∀ s41 : SG, s41 = up σ 101 2 ((σ 101 2) + (nI 1)) → post s41 (-2 : Int32))))))) : T_X11_middle AF post 0 [.ref 0, .int a, dum] [] σ := by
  refine tt_iload_n (q := 1) dX11_middle_0 rfl rfl ?_
  refine tt_if_eq (q := 4) (t := 16) dX11_middle_1 rfl rfl (fun c => ?_) (fun c => ?_)
  · replace h := h.1 c
    refine tt_aload_n (q := 17) dX11_middle_16 rfl rfl ?_
    refine tt_getR (q := 20) dX11_middle_17 fl_X11_76 or_0_8 (Nat.le_of_ble_eq_true rfl) rfl rfl ?_
    refine tt_getI (q := 23) dX11_middle_20 fl_X11_273 oi_83_0 (Nat.le_of_ble_eq_true rfl) rfl ?_
    refine tt_iconst (q := 24) dX11_middle_23 ki_5 rfl ?_
    refine tt_icmp_eq (q := 27) (t := 34) dX11_middle_24 rfl rfl (fun c => ?_) (fun c => ?_)
    · replace h := h.1 c
      refine tt_aload_n (q := 35) dX11_middle_34 rfl rfl ?_
      refine tt_getR (q := 38) dX11_middle_35 fl_X11_76 or_0_8 (Nat.le_of_ble_eq_true rfl) rfl rfl ?_
      refine callVi_0 (q := 41) dX11_middle_38 (Or.inr (Or.inl ⟨rfl, rfl, ⟨⟨_, _, rfl, rfl, (Nat.le_of_ble_eq_true rfl), rc_83⟩, Nat.le_of_ble_eq_true rfl, ?_⟩⟩)) (Nat.le_of_ble_eq_true rfl) rfl (fun t4 r3 ht4 => ht4)
      refine (show TT cX7_middleThree RX7 false CT0 CN0 _ _ _ none 0 [_] [] _ _ from ?_)
      refine tt_aload_n (q := 1) dX7_middleThree_0 rfl rfl ?_
      refine tt_getR (q := 4) dX7_middleThree_1 fl_X7_9 or_83_1 (Nat.le_of_ble_eq_true rfl) rfl rfl ?_
      refine tt_iconst (q := 5) dX7_middleThree_4 ki_1 rfl ?_
      refine tt_iald (q := 6) dX7_middleThree_5 ia_84 (Nat.le_of_ble_eq_true rfl) rfl (Nat.le_of_ble_eq_true rfl : 1 < 5) rfl ?_
      refine tt_aload_n (q := 7) dX7_middleThree_6 rfl rfl ?_
      refine tt_getR (q := 10) dX7_middleThree_7 fl_X7_9 or_83_1 (Nat.le_of_ble_eq_true rfl) rfl rfl ?_
      refine tt_iconst (q := 11) dX7_middleThree_10 ki_2 rfl ?_
      refine tt_iald (q := 12) dX7_middleThree_11 ia_84 (Nat.le_of_ble_eq_true rfl) rfl (Nat.le_of_ble_eq_true rfl : 2 < 5) rfl ?_
      refine tt_iadd (q := 13) dX7_middleThree_12 rfl ?_
      refine tt_aload_n (q := 14) dX7_middleThree_13 rfl rfl ?_
      refine tt_getR (q := 17) dX7_middleThree_14 fl_X7_9 or_83_1 (Nat.le_of_ble_eq_true rfl) rfl rfl ?_
      refine tt_iconst (q := 18) dX7_middleThree_17 ki_3 rfl ?_
      refine tt_iald (q := 19) dX7_middleThree_18 ia_84 (Nat.le_of_ble_eq_true rfl) rfl (Nat.le_of_ble_eq_true rfl : 3 < 5) rfl ?_
      refine tt_iadd (q := 20) dX7_middleThree_19 rfl ?_
      refine tt_iret dX7_middleThree_20 ⟨rfl, _, rfl, ?_⟩
      refine sti_n_2 (q := 42) dX11_middle_41 rfl rfl rfl ?_
      refine tt_iload_n (q := 43) dX11_middle_42 rfl rfl ?_
      refine tt_iconst (q := 44) dX11_middle_43 ki_1 rfl ?_
      refine tt_icmp_ne (q := 47) (t := 55) dX11_middle_44 rfl rfl (fun c => ?_) (fun c => ?_)
      · replace h := h.1 c
        refine tt_iload_n (q := 56) dX11_middle_55 rfl rfl ?_
        refine tt_iconst (q := 57) dX11_middle_56 ki_3 rfl ?_
        refine tt_iload_n (q := 58) dX11_middle_57 rfl rfl ?_
        obtain ⟨p8, hp9, h⟩ := h
        refine callSi_3 (q := 61) dX11_middle_58 (Or.inr (Or.inr (⟨rfl, rfl, hp9⟩))) (Nat.le_of_ble_eq_true rfl) rfl (fun t7 r6 hr10 => ?_)
        replace h := h t7 r6 hr10
        exact tt_iret dX11_middle_61 ⟨rfl, _, rfl, h⟩
      · replace h := h.2 c
        refine tt_aload_n (q := 48) dX11_middle_47 rfl rfl ?_
        refine tt_getR (q := 51) dX11_middle_48 fl_X11_76 or_0_8 (Nat.le_of_ble_eq_true rfl) rfl rfl ?_
        refine tt_iconst (q := 52) dX11_middle_51 ki_0 rfl ?_
        refine tt_putI (q := 55) dX11_middle_52 fl_X11_273 oi_83_0 (fp_7_0 _) (Nat.le_of_ble_eq_true rfl) rfl ?_
        replace h := h _ rfl
        refine tt_iload_n (q := 56) dX11_middle_55 rfl rfl ?_
        refine tt_iconst (q := 57) dX11_middle_56 ki_3 rfl ?_
        refine tt_iload_n (q := 58) dX11_middle_57 rfl rfl ?_
        obtain ⟨p14, hp15, h⟩ := h
        refine callSi_3 (q := 61) dX11_middle_58 (Or.inr (Or.inr (⟨rfl, rfl, hp15⟩))) (Nat.le_of_ble_eq_true rfl) rfl (fun t13 r12 hr16 => ?_)
        replace h := h t13 r12 hr16
        exact tt_iret dX11_middle_61 ⟨rfl, _, rfl, h⟩
    · replace h := h.2 c
      refine tt_aload_n (q := 28) dX11_middle_27 rfl rfl ?_
      refine tt_bipush (q := 30) dX11_middle_28 bi_m3 rfl ?_
      refine callVi_1 (q := 33) dX11_middle_30 (Or.inl ⟨rfl, rfl, ⟨⟨_, _, rfl, rfl, (Nat.le_of_ble_eq_true rfl), rc_0⟩, Nat.le_of_ble_eq_true rfl, ?_⟩⟩) (Nat.le_of_ble_eq_true rfl) rfl (fun t18 r17 ht18 => ht18)
      refine (show TT cX11_refuse RX11 false CT0 CN0 _ _ _ none 0 [_, _, dum] [] _ _ from ?_)
      refine tt_iload_n (q := 1) dX11_refuse_0 rfl rfl ?_
      refine tt_inegE (v := nI 3) (q := 2) dX11_refuse_1 (by decide) rfl ?_
      refine sti_n_2 (q := 3) dX11_refuse_2 rfl rfl rfl ?_
      refine tt_iload_n (q := 4) dX11_refuse_3 rfl rfl ?_
      refine tt_if_le (q := 7) (t := 23) dX11_refuse_4 rfl rfl (fun c => absurd c (by decide)) (fun c => ?_)
      clear c
      refine tt_iload_n (q := 8) dX11_refuse_7 rfl rfl ?_
      refine tt_bipush (q := 10) dX11_refuse_8 bi_6 rfl ?_
      refine tt_icmp_gt (q := 13) (t := 23) dX11_refuse_10 rfl rfl (fun c => absurd c (by decide)) (fun c => ?_)
      clear c
      refine tt_aload_n (q := 14) dX11_refuse_13 rfl rfl ?_
      refine tt_getR (q := 17) dX11_refuse_14 fl_X11_96 or_0_11 (Nat.le_of_ble_eq_true rfl) rfl rfl ?_
      refine tt_iload_n (q := 18) dX11_refuse_17 rfl rfl ?_
      refine tt_dup2 (q := 19) dX11_refuse_18 rfl rfl rfl ?_
      refine tt_iald (q := 20) dX11_refuse_19 ia_101 (Nat.le_of_ble_eq_true rfl) rfl (Nat.le_of_ble_eq_true rfl : 3 < 7) rfl ?_
      refine tt_iconst (q := 21) dX11_refuse_20 ki_1 rfl ?_
      refine tt_iadd (q := 22) dX11_refuse_21 rfl ?_
      refine tt_iast (q := 23) dX11_refuse_22 ia_101 (Nat.le_of_ble_eq_true rfl) rfl (Nat.le_of_ble_eq_true rfl : 3 < 7) rfl ?_
      replace h := h _ rfl
      refine tt_iload_n (q := 24) dX11_refuse_23 rfl rfl ?_
      refine tt_iret dX11_refuse_24 ⟨rfl, _, rfl, ?_⟩
      exact tt_iret dX11_middle_33 ⟨rfl, _, rfl, h⟩
  · replace h := h.2 c
    refine tt_iload_n (q := 5) dX11_middle_4 rfl rfl ?_
    refine tt_iconst (q := 6) dX11_middle_5 ki_1 rfl ?_
    refine tt_icmp_eq (q := 9) (t := 16) dX11_middle_6 rfl rfl (fun c => ?_) (fun c => ?_)
    · replace h := h.1 c
      refine tt_aload_n (q := 17) dX11_middle_16 rfl rfl ?_
      refine tt_getR (q := 20) dX11_middle_17 fl_X11_76 or_0_8 (Nat.le_of_ble_eq_true rfl) rfl rfl ?_
      refine tt_getI (q := 23) dX11_middle_20 fl_X11_273 oi_83_0 (Nat.le_of_ble_eq_true rfl) rfl ?_
      refine tt_iconst (q := 24) dX11_middle_23 ki_5 rfl ?_
      refine tt_icmp_eq (q := 27) (t := 34) dX11_middle_24 rfl rfl (fun c => ?_) (fun c => ?_)
      · replace h := h.1 c
        refine tt_aload_n (q := 35) dX11_middle_34 rfl rfl ?_
        refine tt_getR (q := 38) dX11_middle_35 fl_X11_76 or_0_8 (Nat.le_of_ble_eq_true rfl) rfl rfl ?_
        refine callVi_0 (q := 41) dX11_middle_38 (Or.inr (Or.inl ⟨rfl, rfl, ⟨⟨_, _, rfl, rfl, (Nat.le_of_ble_eq_true rfl), rc_83⟩, Nat.le_of_ble_eq_true rfl, ?_⟩⟩)) (Nat.le_of_ble_eq_true rfl) rfl (fun t23 r22 ht23 => ht23)
        refine (show TT cX7_middleThree RX7 false CT0 CN0 _ _ _ none 0 [_] [] _ _ from ?_)
        refine tt_aload_n (q := 1) dX7_middleThree_0 rfl rfl ?_
        refine tt_getR (q := 4) dX7_middleThree_1 fl_X7_9 or_83_1 (Nat.le_of_ble_eq_true rfl) rfl rfl ?_
        refine tt_iconst (q := 5) dX7_middleThree_4 ki_1 rfl ?_
        refine tt_iald (q := 6) dX7_middleThree_5 ia_84 (Nat.le_of_ble_eq_true rfl) rfl (Nat.le_of_ble_eq_true rfl : 1 < 5) rfl ?_
        refine tt_aload_n (q := 7) dX7_middleThree_6 rfl rfl ?_
        refine tt_getR (q := 10) dX7_middleThree_7 fl_X7_9 or_83_1 (Nat.le_of_ble_eq_true rfl) rfl rfl ?_
        refine tt_iconst (q := 11) dX7_middleThree_10 ki_2 rfl ?_
        refine tt_iald (q := 12) dX7_middleThree_11 ia_84 (Nat.le_of_ble_eq_true rfl) rfl (Nat.le_of_ble_eq_true rfl : 2 < 5) rfl ?_
        refine tt_iadd (q := 13) dX7_middleThree_12 rfl ?_
        refine tt_aload_n (q := 14) dX7_middleThree_13 rfl rfl ?_
        refine tt_getR (q := 17) dX7_middleThree_14 fl_X7_9 or_83_1 (Nat.le_of_ble_eq_true rfl) rfl rfl ?_
        refine tt_iconst (q := 18) dX7_middleThree_17 ki_3 rfl ?_
        refine tt_iald (q := 19) dX7_middleThree_18 ia_84 (Nat.le_of_ble_eq_true rfl) rfl (Nat.le_of_ble_eq_true rfl : 3 < 5) rfl ?_
        refine tt_iadd (q := 20) dX7_middleThree_19 rfl ?_
        refine tt_iret dX7_middleThree_20 ⟨rfl, _, rfl, ?_⟩
        refine sti_n_2 (q := 42) dX11_middle_41 rfl rfl rfl ?_
        refine tt_iload_n (q := 43) dX11_middle_42 rfl rfl ?_
        refine tt_iconst (q := 44) dX11_middle_43 ki_1 rfl ?_
        refine tt_icmp_ne (q := 47) (t := 55) dX11_middle_44 rfl rfl (fun c => ?_) (fun c => ?_)
        · replace h := h.1 c
          refine tt_iload_n (q := 56) dX11_middle_55 rfl rfl ?_
          refine tt_iconst (q := 57) dX11_middle_56 ki_3 rfl ?_
          refine tt_iload_n (q := 58) dX11_middle_57 rfl rfl ?_
          obtain ⟨p27, hp28, h⟩ := h
          refine callSi_3 (q := 61) dX11_middle_58 (Or.inr (Or.inr (⟨rfl, rfl, hp28⟩))) (Nat.le_of_ble_eq_true rfl) rfl (fun t26 r25 hr29 => ?_)
          replace h := h t26 r25 hr29
          exact tt_iret dX11_middle_61 ⟨rfl, _, rfl, h⟩
        · replace h := h.2 c
          refine tt_aload_n (q := 48) dX11_middle_47 rfl rfl ?_
          refine tt_getR (q := 51) dX11_middle_48 fl_X11_76 or_0_8 (Nat.le_of_ble_eq_true rfl) rfl rfl ?_
          refine tt_iconst (q := 52) dX11_middle_51 ki_0 rfl ?_
          refine tt_putI (q := 55) dX11_middle_52 fl_X11_273 oi_83_0 (fp_7_0 _) (Nat.le_of_ble_eq_true rfl) rfl ?_
          replace h := h _ rfl
          refine tt_iload_n (q := 56) dX11_middle_55 rfl rfl ?_
          refine tt_iconst (q := 57) dX11_middle_56 ki_3 rfl ?_
          refine tt_iload_n (q := 58) dX11_middle_57 rfl rfl ?_
          obtain ⟨p33, hp34, h⟩ := h
          refine callSi_3 (q := 61) dX11_middle_58 (Or.inr (Or.inr (⟨rfl, rfl, hp34⟩))) (Nat.le_of_ble_eq_true rfl) rfl (fun t32 r31 hr35 => ?_)
          replace h := h t32 r31 hr35
          exact tt_iret dX11_middle_61 ⟨rfl, _, rfl, h⟩
      · replace h := h.2 c
        refine tt_aload_n (q := 28) dX11_middle_27 rfl rfl ?_
        refine tt_bipush (q := 30) dX11_middle_28 bi_m3 rfl ?_
        refine callVi_1 (q := 33) dX11_middle_30 (Or.inl ⟨rfl, rfl, ⟨⟨_, _, rfl, rfl, (Nat.le_of_ble_eq_true rfl), rc_0⟩, Nat.le_of_ble_eq_true rfl, ?_⟩⟩) (Nat.le_of_ble_eq_true rfl) rfl (fun t37 r36 ht37 => ht37)
        refine (show TT cX11_refuse RX11 false CT0 CN0 _ _ _ none 0 [_, _, dum] [] _ _ from ?_)
        refine tt_iload_n (q := 1) dX11_refuse_0 rfl rfl ?_
        refine tt_inegE (v := nI 3) (q := 2) dX11_refuse_1 (by decide) rfl ?_
        refine sti_n_2 (q := 3) dX11_refuse_2 rfl rfl rfl ?_
        refine tt_iload_n (q := 4) dX11_refuse_3 rfl rfl ?_
        refine tt_if_le (q := 7) (t := 23) dX11_refuse_4 rfl rfl (fun c => absurd c (by decide)) (fun c => ?_)
        clear c
        refine tt_iload_n (q := 8) dX11_refuse_7 rfl rfl ?_
        refine tt_bipush (q := 10) dX11_refuse_8 bi_6 rfl ?_
        refine tt_icmp_gt (q := 13) (t := 23) dX11_refuse_10 rfl rfl (fun c => absurd c (by decide)) (fun c => ?_)
        clear c
        refine tt_aload_n (q := 14) dX11_refuse_13 rfl rfl ?_
        refine tt_getR (q := 17) dX11_refuse_14 fl_X11_96 or_0_11 (Nat.le_of_ble_eq_true rfl) rfl rfl ?_
        refine tt_iload_n (q := 18) dX11_refuse_17 rfl rfl ?_
        refine tt_dup2 (q := 19) dX11_refuse_18 rfl rfl rfl ?_
        refine tt_iald (q := 20) dX11_refuse_19 ia_101 (Nat.le_of_ble_eq_true rfl) rfl (Nat.le_of_ble_eq_true rfl : 3 < 7) rfl ?_
        refine tt_iconst (q := 21) dX11_refuse_20 ki_1 rfl ?_
        refine tt_iadd (q := 22) dX11_refuse_21 rfl ?_
        refine tt_iast (q := 23) dX11_refuse_22 ia_101 (Nat.le_of_ble_eq_true rfl) rfl (Nat.le_of_ble_eq_true rfl : 3 < 7) rfl ?_
        replace h := h _ rfl
        refine tt_iload_n (q := 24) dX11_refuse_23 rfl rfl ?_
        refine tt_iret dX11_refuse_24 ⟨rfl, _, rfl, ?_⟩
        exact tt_iret dX11_middle_33 ⟨rfl, _, rfl, h⟩
    · replace h := h.2 c
      refine tt_aload_n (q := 10) dX11_middle_9 rfl rfl ?_
      refine tt_bipush (q := 12) dX11_middle_10 bi_m2 rfl ?_
      refine callVi_1 (q := 15) dX11_middle_12 (Or.inl ⟨rfl, rfl, ⟨⟨_, _, rfl, rfl, (Nat.le_of_ble_eq_true rfl), rc_0⟩, Nat.le_of_ble_eq_true rfl, ?_⟩⟩) (Nat.le_of_ble_eq_true rfl) rfl (fun t40 r39 ht40 => ht40)
      refine (show TT cX11_refuse RX11 false CT0 CN0 _ _ _ none 0 [_, _, dum] [] _ _ from ?_)
      refine tt_iload_n (q := 1) dX11_refuse_0 rfl rfl ?_
      refine tt_inegE (v := nI 2) (q := 2) dX11_refuse_1 (by decide) rfl ?_
      refine sti_n_2 (q := 3) dX11_refuse_2 rfl rfl rfl ?_
      refine tt_iload_n (q := 4) dX11_refuse_3 rfl rfl ?_
      refine tt_if_le (q := 7) (t := 23) dX11_refuse_4 rfl rfl (fun c => absurd c (by decide)) (fun c => ?_)
      clear c
      refine tt_iload_n (q := 8) dX11_refuse_7 rfl rfl ?_
      refine tt_bipush (q := 10) dX11_refuse_8 bi_6 rfl ?_
      refine tt_icmp_gt (q := 13) (t := 23) dX11_refuse_10 rfl rfl (fun c => absurd c (by decide)) (fun c => ?_)
      clear c
      refine tt_aload_n (q := 14) dX11_refuse_13 rfl rfl ?_
      refine tt_getR (q := 17) dX11_refuse_14 fl_X11_96 or_0_11 (Nat.le_of_ble_eq_true rfl) rfl rfl ?_
      refine tt_iload_n (q := 18) dX11_refuse_17 rfl rfl ?_
      refine tt_dup2 (q := 19) dX11_refuse_18 rfl rfl rfl ?_
      refine tt_iald (q := 20) dX11_refuse_19 ia_101 (Nat.le_of_ble_eq_true rfl) rfl (Nat.le_of_ble_eq_true rfl : 2 < 7) rfl ?_
      refine tt_iconst (q := 21) dX11_refuse_20 ki_1 rfl ?_
      refine tt_iadd (q := 22) dX11_refuse_21 rfl ?_
      refine tt_iast (q := 23) dX11_refuse_22 ia_101 (Nat.le_of_ble_eq_true rfl) rfl (Nat.le_of_ble_eq_true rfl : 2 < 7) rfl ?_
      replace h := h _ rfl
      refine tt_iload_n (q := 24) dX11_refuse_23 rfl rfl ?_
      refine tt_iret dX11_refuse_24 ⟨rfl, _, rfl, ?_⟩
      exact tt_iret dX11_middle_15 ⟨rfl, _, rfl, h⟩

theorem g_X11_need_0 {post : SG → Int32 → Prop} {σ : SG} {a : Int32} (h : (((nI 1) ≤ a → ((a ≤ (nI 9999) → (((σ 83 0) = (nI 4) → ((((((nI 3) * a) - (σ 84 1)) - (σ 84 2)) < (σ 84 3) → ((((((nI 3) * a) - (σ 84 1)) - (σ 84 2)) < (σ 84 0) → post σ (-9 : Int32)) ∧ (¬ ((((nI 3) * a) - (σ 84 1)) - (σ 84 2)) < (σ 84 0) → post σ ((((nI 3) * a) - (σ 84 1)) - (σ 84 2))))) ∧ (¬ ((((nI 3) * a) - (σ 84 1)) - (σ 84 2)) < (σ 84 3) → post σ (nI 9999)))) ∧ (¬ (σ 83 0) = (nI 4) → (∀ s12 : SG, s12 = up σ 101 3 ((σ 101 3) + (nI 1)) → post s12 (-3 : Int32))))) ∧ (¬ a ≤ (nI 9999) → (∀ s15 : SG, s15 = up σ 101 6 ((σ 101 6) + (nI 1)) → post s15 (-6 : Int32))))) ∧ (¬ (nI 1) ≤ a → (∀ s18 : SG, s18 = up σ 101 4 ((σ 101 4) + (nI 1)) → post s18 (-4 : Int32))))) : T_X11_need AF post 0 [.ref 0, .int a, dum] [] σ := by
  refine tt_iload_n (q := 1) dX11_need_0 rfl rfl ?_
  refine tt_iconst (q := 2) dX11_need_1 ki_1 rfl ?_
  refine tt_sipush (q := 5) dX11_need_2 si_9999 rfl ?_
  refine callSi_3 (q := 8) dX11_need_5 (Or.inl ⟨rfl, rfl, ⟨rfl, Nat.le_of_ble_eq_true rfl, ?_⟩⟩) (Nat.le_of_ble_eq_true rfl) rfl (fun t2 r1 ht2 => ht2)
  refine (show TT cX11_outside RX11 false CT0 CN0 _ _ _ none 0 [_, _, _] [] _ _ from ?_)
  refine tt_iload_n (q := 1) dX11_outside_0 rfl rfl ?_
  refine tt_iload_n (q := 2) dX11_outside_1 rfl rfl ?_
  refine tt_icmp_ge (q := 5) (t := 8) dX11_outside_2 rfl rfl (fun c => ?_) (fun c => ?_)
  · replace h := h.1 c
    refine tt_iload_n (q := 9) dX11_outside_8 rfl rfl ?_
    refine tt_iload_n (q := 10) dX11_outside_9 rfl rfl ?_
    refine tt_icmp_le (q := 13) (t := 18) dX11_outside_10 rfl rfl (fun c => ?_) (fun c => ?_)
    · replace h := h.1 c
      refine tt_iconst (q := 19) dX11_outside_18 ki_0 rfl ?_
      refine tt_iret dX11_outside_19 ⟨rfl, _, rfl, ?_⟩
      refine sti_n_2 (q := 9) dX11_need_8 rfl rfl rfl ?_
      refine tt_iload_n (q := 10) dX11_need_9 rfl rfl ?_
      refine tt_if_eq (q := 13) (t := 19) dX11_need_10 rfl rfl (fun c => ?_) (fun c => absurd c (by decide))
      clear c
      refine tt_aload_n (q := 20) dX11_need_19 rfl rfl ?_
      refine tt_getR (q := 23) dX11_need_20 fl_X11_76 or_0_8 (Nat.le_of_ble_eq_true rfl) rfl rfl ?_
      refine tt_getI (q := 26) dX11_need_23 fl_X11_273 oi_83_0 (Nat.le_of_ble_eq_true rfl) rfl ?_
      refine tt_iconst (q := 27) dX11_need_26 ki_4 rfl ?_
      refine tt_icmp_eq (q := 30) (t := 37) dX11_need_27 rfl rfl (fun c => ?_) (fun c => ?_)
      · replace h := h.1 c
        refine tt_aload_n (q := 38) dX11_need_37 rfl rfl ?_
        refine tt_getR (q := 41) dX11_need_38 fl_X11_76 or_0_8 (Nat.le_of_ble_eq_true rfl) rfl rfl ?_
        refine tt_iload_n (q := 42) dX11_need_41 rfl rfl ?_
        refine callVi_1 (q := 45) dX11_need_42 (Or.inr (Or.inr (⟨rfl, rfl, ⟨⟨_, _, rfl, rfl, (Nat.le_of_ble_eq_true rfl), rc_83⟩, Nat.le_of_ble_eq_true rfl, ?_⟩⟩))) (Nat.le_of_ble_eq_true rfl) rfl (fun t7 r6 ht7 => ht7)
        refine (show TT cX7_greatestFifth RX7 false CT0 CN0 _ _ _ none 0 [_, _, dum] [] _ _ from ?_)
        refine tt_iconst (q := 1) dX7_greatestFifth_0 ki_3 rfl ?_
        refine tt_iload_n (q := 2) dX7_greatestFifth_1 rfl rfl ?_
        refine tt_imul (q := 3) dX7_greatestFifth_2 rfl ?_
        refine tt_aload_n (q := 4) dX7_greatestFifth_3 rfl rfl ?_
        refine tt_getR (q := 7) dX7_greatestFifth_4 fl_X7_9 or_83_1 (Nat.le_of_ble_eq_true rfl) rfl rfl ?_
        refine tt_iconst (q := 8) dX7_greatestFifth_7 ki_1 rfl ?_
        refine tt_iald (q := 9) dX7_greatestFifth_8 ia_84 (Nat.le_of_ble_eq_true rfl) rfl (Nat.le_of_ble_eq_true rfl : 1 < 5) rfl ?_
        refine tt_isub (q := 10) dX7_greatestFifth_9 rfl ?_
        refine tt_aload_n (q := 11) dX7_greatestFifth_10 rfl rfl ?_
        refine tt_getR (q := 14) dX7_greatestFifth_11 fl_X7_9 or_83_1 (Nat.le_of_ble_eq_true rfl) rfl rfl ?_
        refine tt_iconst (q := 15) dX7_greatestFifth_14 ki_2 rfl ?_
        refine tt_iald (q := 16) dX7_greatestFifth_15 ia_84 (Nat.le_of_ble_eq_true rfl) rfl (Nat.le_of_ble_eq_true rfl : 2 < 5) rfl ?_
        refine tt_isub (q := 17) dX7_greatestFifth_16 rfl ?_
        refine sti_n_2 (q := 18) dX7_greatestFifth_17 rfl rfl rfl ?_
        refine tt_iload_n (q := 19) dX7_greatestFifth_18 rfl rfl ?_
        refine tt_aload_n (q := 20) dX7_greatestFifth_19 rfl rfl ?_
        refine tt_getR (q := 23) dX7_greatestFifth_20 fl_X7_9 or_83_1 (Nat.le_of_ble_eq_true rfl) rfl rfl ?_
        refine tt_iconst (q := 24) dX7_greatestFifth_23 ki_3 rfl ?_
        refine tt_iald (q := 25) dX7_greatestFifth_24 ia_84 (Nat.le_of_ble_eq_true rfl) rfl (Nat.le_of_ble_eq_true rfl : 3 < 5) rfl ?_
        refine tt_icmp_lt (q := 28) (t := 32) dX7_greatestFifth_25 rfl rfl (fun c => ?_) (fun c => ?_)
        · replace h := h.1 c
          refine tt_iload_n (q := 33) dX7_greatestFifth_32 rfl rfl ?_
          refine tt_aload_n (q := 34) dX7_greatestFifth_33 rfl rfl ?_
          refine tt_getR (q := 37) dX7_greatestFifth_34 fl_X7_9 or_83_1 (Nat.le_of_ble_eq_true rfl) rfl rfl ?_
          refine tt_iconst (q := 38) dX7_greatestFifth_37 ki_0 rfl ?_
          refine tt_iald (q := 39) dX7_greatestFifth_38 ia_84 (Nat.le_of_ble_eq_true rfl) rfl (Nat.le_of_ble_eq_true rfl : 0 < 5) rfl ?_
          refine tt_icmp_lt (q := 42) (t := 46) dX7_greatestFifth_39 rfl rfl (fun c => ?_) (fun c => ?_)
          · replace h := h.1 c
            refine tt_bipush (q := 48) dX7_greatestFifth_46 bi_m9 rfl ?_
            refine tt_iret dX7_greatestFifth_48 ⟨rfl, _, rfl, ?_⟩
            exact tt_iret dX11_need_45 ⟨rfl, _, rfl, h⟩
          · replace h := h.2 c
            refine tt_iload_n (q := 43) dX7_greatestFifth_42 rfl rfl ?_
            refine tt_goto (t := 48) dX7_greatestFifth_43 rfl ?_
            refine tt_iret dX7_greatestFifth_48 ⟨rfl, _, rfl, ?_⟩
            exact tt_iret dX11_need_45 ⟨rfl, _, rfl, h⟩
        · replace h := h.2 c
          refine tt_sipush (q := 31) dX7_greatestFifth_28 si_9999 rfl ?_
          refine tt_iret dX7_greatestFifth_31 ⟨rfl, _, rfl, ?_⟩
          exact tt_iret dX11_need_45 ⟨rfl, _, rfl, h⟩
      · replace h := h.2 c
        refine tt_aload_n (q := 31) dX11_need_30 rfl rfl ?_
        refine tt_bipush (q := 33) dX11_need_31 bi_m3 rfl ?_
        refine callVi_1 (q := 36) dX11_need_33 (Or.inr (Or.inl ⟨rfl, rfl, ⟨⟨_, _, rfl, rfl, (Nat.le_of_ble_eq_true rfl), rc_0⟩, Nat.le_of_ble_eq_true rfl, ?_⟩⟩)) (Nat.le_of_ble_eq_true rfl) rfl (fun t11 r10 ht11 => ht11)
        refine (show TT cX11_refuse RX11 false CT0 CN0 _ _ _ none 0 [_, _, dum] [] _ _ from ?_)
        refine tt_iload_n (q := 1) dX11_refuse_0 rfl rfl ?_
        refine tt_inegE (v := nI 3) (q := 2) dX11_refuse_1 (by decide) rfl ?_
        refine sti_n_2 (q := 3) dX11_refuse_2 rfl rfl rfl ?_
        refine tt_iload_n (q := 4) dX11_refuse_3 rfl rfl ?_
        refine tt_if_le (q := 7) (t := 23) dX11_refuse_4 rfl rfl (fun c => absurd c (by decide)) (fun c => ?_)
        clear c
        refine tt_iload_n (q := 8) dX11_refuse_7 rfl rfl ?_
        refine tt_bipush (q := 10) dX11_refuse_8 bi_6 rfl ?_
        refine tt_icmp_gt (q := 13) (t := 23) dX11_refuse_10 rfl rfl (fun c => absurd c (by decide)) (fun c => ?_)
        clear c
        refine tt_aload_n (q := 14) dX11_refuse_13 rfl rfl ?_
        refine tt_getR (q := 17) dX11_refuse_14 fl_X11_96 or_0_11 (Nat.le_of_ble_eq_true rfl) rfl rfl ?_
        refine tt_iload_n (q := 18) dX11_refuse_17 rfl rfl ?_
        refine tt_dup2 (q := 19) dX11_refuse_18 rfl rfl rfl ?_
        refine tt_iald (q := 20) dX11_refuse_19 ia_101 (Nat.le_of_ble_eq_true rfl) rfl (Nat.le_of_ble_eq_true rfl : 3 < 7) rfl ?_
        refine tt_iconst (q := 21) dX11_refuse_20 ki_1 rfl ?_
        refine tt_iadd (q := 22) dX11_refuse_21 rfl ?_
        refine tt_iast (q := 23) dX11_refuse_22 ia_101 (Nat.le_of_ble_eq_true rfl) rfl (Nat.le_of_ble_eq_true rfl : 3 < 7) rfl ?_
        replace h := h _ rfl
        refine tt_iload_n (q := 24) dX11_refuse_23 rfl rfl ?_
        refine tt_iret dX11_refuse_24 ⟨rfl, _, rfl, ?_⟩
        exact tt_iret dX11_need_36 ⟨rfl, _, rfl, h⟩
    · replace h := h.2 c
      refine tt_bipush (q := 15) dX11_outside_13 bi_m6 rfl ?_
      refine tt_goto (t := 19) dX11_outside_15 rfl ?_
      refine tt_iret dX11_outside_19 ⟨rfl, _, rfl, ?_⟩
      refine sti_n_2 (q := 9) dX11_need_8 rfl rfl rfl ?_
      refine tt_iload_n (q := 10) dX11_need_9 rfl rfl ?_
      refine tt_if_eq (q := 13) (t := 19) dX11_need_10 rfl rfl (fun c => absurd c (by decide)) (fun c => ?_)
      clear c
      refine tt_aload_n (q := 14) dX11_need_13 rfl rfl ?_
      refine tt_iload_n (q := 15) dX11_need_14 rfl rfl ?_
      refine callVi_1 (q := 18) dX11_need_15 (Or.inr (Or.inl ⟨rfl, rfl, ⟨⟨_, _, rfl, rfl, (Nat.le_of_ble_eq_true rfl), rc_0⟩, Nat.le_of_ble_eq_true rfl, ?_⟩⟩)) (Nat.le_of_ble_eq_true rfl) rfl (fun t14 r13 ht14 => ht14)
      refine (show TT cX11_refuse RX11 false CT0 CN0 _ _ _ none 0 [_, _, dum] [] _ _ from ?_)
      refine tt_iload_n (q := 1) dX11_refuse_0 rfl rfl ?_
      refine tt_inegE (v := nI 6) (q := 2) dX11_refuse_1 (by decide) rfl ?_
      refine sti_n_2 (q := 3) dX11_refuse_2 rfl rfl rfl ?_
      refine tt_iload_n (q := 4) dX11_refuse_3 rfl rfl ?_
      refine tt_if_le (q := 7) (t := 23) dX11_refuse_4 rfl rfl (fun c => absurd c (by decide)) (fun c => ?_)
      clear c
      refine tt_iload_n (q := 8) dX11_refuse_7 rfl rfl ?_
      refine tt_bipush (q := 10) dX11_refuse_8 bi_6 rfl ?_
      refine tt_icmp_gt (q := 13) (t := 23) dX11_refuse_10 rfl rfl (fun c => absurd c (by decide)) (fun c => ?_)
      clear c
      refine tt_aload_n (q := 14) dX11_refuse_13 rfl rfl ?_
      refine tt_getR (q := 17) dX11_refuse_14 fl_X11_96 or_0_11 (Nat.le_of_ble_eq_true rfl) rfl rfl ?_
      refine tt_iload_n (q := 18) dX11_refuse_17 rfl rfl ?_
      refine tt_dup2 (q := 19) dX11_refuse_18 rfl rfl rfl ?_
      refine tt_iald (q := 20) dX11_refuse_19 ia_101 (Nat.le_of_ble_eq_true rfl) rfl (Nat.le_of_ble_eq_true rfl : 6 < 7) rfl ?_
      refine tt_iconst (q := 21) dX11_refuse_20 ki_1 rfl ?_
      refine tt_iadd (q := 22) dX11_refuse_21 rfl ?_
      refine tt_iast (q := 23) dX11_refuse_22 ia_101 (Nat.le_of_ble_eq_true rfl) rfl (Nat.le_of_ble_eq_true rfl : 6 < 7) rfl ?_
      replace h := h _ rfl
      refine tt_iload_n (q := 24) dX11_refuse_23 rfl rfl ?_
      refine tt_iret dX11_refuse_24 ⟨rfl, _, rfl, ?_⟩
      exact tt_iret dX11_need_18 ⟨rfl, _, rfl, h⟩
  · replace h := h.2 c
    refine tt_bipush (q := 7) dX11_outside_5 bi_m4 rfl ?_
    refine tt_iret dX11_outside_7 ⟨rfl, _, rfl, ?_⟩
    refine sti_n_2 (q := 9) dX11_need_8 rfl rfl rfl ?_
    refine tt_iload_n (q := 10) dX11_need_9 rfl rfl ?_
    refine tt_if_eq (q := 13) (t := 19) dX11_need_10 rfl rfl (fun c => absurd c (by decide)) (fun c => ?_)
    clear c
    refine tt_aload_n (q := 14) dX11_need_13 rfl rfl ?_
    refine tt_iload_n (q := 15) dX11_need_14 rfl rfl ?_
    refine callVi_1 (q := 18) dX11_need_15 (Or.inr (Or.inl ⟨rfl, rfl, ⟨⟨_, _, rfl, rfl, (Nat.le_of_ble_eq_true rfl), rc_0⟩, Nat.le_of_ble_eq_true rfl, ?_⟩⟩)) (Nat.le_of_ble_eq_true rfl) rfl (fun t17 r16 ht17 => ht17)
    refine (show TT cX11_refuse RX11 false CT0 CN0 _ _ _ none 0 [_, _, dum] [] _ _ from ?_)
    refine tt_iload_n (q := 1) dX11_refuse_0 rfl rfl ?_
    refine tt_inegE (v := nI 4) (q := 2) dX11_refuse_1 (by decide) rfl ?_
    refine sti_n_2 (q := 3) dX11_refuse_2 rfl rfl rfl ?_
    refine tt_iload_n (q := 4) dX11_refuse_3 rfl rfl ?_
    refine tt_if_le (q := 7) (t := 23) dX11_refuse_4 rfl rfl (fun c => absurd c (by decide)) (fun c => ?_)
    clear c
    refine tt_iload_n (q := 8) dX11_refuse_7 rfl rfl ?_
    refine tt_bipush (q := 10) dX11_refuse_8 bi_6 rfl ?_
    refine tt_icmp_gt (q := 13) (t := 23) dX11_refuse_10 rfl rfl (fun c => absurd c (by decide)) (fun c => ?_)
    clear c
    refine tt_aload_n (q := 14) dX11_refuse_13 rfl rfl ?_
    refine tt_getR (q := 17) dX11_refuse_14 fl_X11_96 or_0_11 (Nat.le_of_ble_eq_true rfl) rfl rfl ?_
    refine tt_iload_n (q := 18) dX11_refuse_17 rfl rfl ?_
    refine tt_dup2 (q := 19) dX11_refuse_18 rfl rfl rfl ?_
    refine tt_iald (q := 20) dX11_refuse_19 ia_101 (Nat.le_of_ble_eq_true rfl) rfl (Nat.le_of_ble_eq_true rfl : 4 < 7) rfl ?_
    refine tt_iconst (q := 21) dX11_refuse_20 ki_1 rfl ?_
    refine tt_iadd (q := 22) dX11_refuse_21 rfl ?_
    refine tt_iast (q := 23) dX11_refuse_22 ia_101 (Nat.le_of_ble_eq_true rfl) rfl (Nat.le_of_ble_eq_true rfl : 4 < 7) rfl ?_
    replace h := h _ rfl
    refine tt_iload_n (q := 24) dX11_refuse_23 rfl rfl ?_
    refine tt_iret dX11_refuse_24 ⟨rfl, _, rfl, ?_⟩
    exact tt_iret dX11_need_18 ⟨rfl, _, rfl, h⟩

theorem g_X11_film_0 {post : SG → Int32 → Prop} {σ : SG} {a : Int32} (h : (((nI 0) ≤ a → ((a ≤ (nI 127) → (((σ 85 0) < (nI 8) → (∃ j9 : Nat, (σ 85 0) = nI j9 ∧ j9 < 8 ∧ (∀ s11 : SG, s11 = up σ 86 j9 a → (∀ s12 : SG, s12 = up s11 85 0 ((s11 85 0) + (nI 1)) → post s12 (s12 85 0))))) ∧ (¬ (σ 85 0) < (nI 8) → (∀ s15 : SG, s15 = up σ 101 6 ((σ 101 6) + (nI 1)) → post s15 (-6 : Int32))))) ∧ (¬ a ≤ (nI 127) → (∀ s18 : SG, s18 = up σ 101 6 ((σ 101 6) + (nI 1)) → post s18 (-6 : Int32))))) ∧ (¬ (nI 0) ≤ a → (∀ s21 : SG, s21 = up σ 101 4 ((σ 101 4) + (nI 1)) → post s21 (-4 : Int32))))) : T_X11_film AF post 0 [.ref 0, .int a, dum] [] σ := by
  refine tt_iload_n (q := 1) dX11_film_0 rfl rfl ?_
  refine tt_iconst (q := 2) dX11_film_1 ki_0 rfl ?_
  refine tt_bipush (q := 4) dX11_film_2 bi_127 rfl ?_
  refine callSi_3 (q := 7) dX11_film_4 (Or.inl ⟨rfl, rfl, ⟨rfl, Nat.le_of_ble_eq_true rfl, ?_⟩⟩) (Nat.le_of_ble_eq_true rfl) rfl (fun t2 r1 ht2 => ht2)
  refine (show TT cX11_outside RX11 false CT0 CN0 _ _ _ none 0 [_, _, _] [] _ _ from ?_)
  refine tt_iload_n (q := 1) dX11_outside_0 rfl rfl ?_
  refine tt_iload_n (q := 2) dX11_outside_1 rfl rfl ?_
  refine tt_icmp_ge (q := 5) (t := 8) dX11_outside_2 rfl rfl (fun c => ?_) (fun c => ?_)
  · replace h := h.1 c
    refine tt_iload_n (q := 9) dX11_outside_8 rfl rfl ?_
    refine tt_iload_n (q := 10) dX11_outside_9 rfl rfl ?_
    refine tt_icmp_le (q := 13) (t := 18) dX11_outside_10 rfl rfl (fun c => ?_) (fun c => ?_)
    · replace h := h.1 c
      refine tt_iconst (q := 19) dX11_outside_18 ki_0 rfl ?_
      refine tt_iret dX11_outside_19 ⟨rfl, _, rfl, ?_⟩
      refine sti_n_2 (q := 8) dX11_film_7 rfl rfl rfl ?_
      refine tt_iload_n (q := 9) dX11_film_8 rfl rfl ?_
      refine tt_if_eq (q := 12) (t := 18) dX11_film_9 rfl rfl (fun c => ?_) (fun c => absurd c (by decide))
      clear c
      refine tt_aload_n (q := 19) dX11_film_18 rfl rfl ?_
      refine tt_getR (q := 22) dX11_film_19 fl_X11_85 or_0_9 (Nat.le_of_ble_eq_true rfl) rfl rfl ?_
      refine tt_getI (q := 25) dX11_film_22 fl_X11_282 oi_85_0 (Nat.le_of_ble_eq_true rfl) rfl ?_
      refine tt_bipush (q := 27) dX11_film_25 bi_8 rfl ?_
      refine tt_icmp_lt (q := 30) (t := 37) dX11_film_27 rfl rfl (fun c => ?_) (fun c => ?_)
      · replace h := h.1 c
        refine tt_aload_n (q := 38) dX11_film_37 rfl rfl ?_
        refine tt_getR (q := 41) dX11_film_38 fl_X11_85 or_0_9 (Nat.le_of_ble_eq_true rfl) rfl rfl ?_
        refine tt_iload_n (q := 42) dX11_film_41 rfl rfl ?_
        refine callVvI_1 (q := 45) dX11_film_42 (Or.inr (Or.inr (⟨rfl, rfl, ⟨⟨_, _, rfl, rfl, (Nat.le_of_ble_eq_true rfl), rc_85⟩, Nat.le_of_ble_eq_true rfl, ?_⟩⟩))) (Nat.le_of_ble_eq_true rfl) rfl (fun t7 ht7 => ht7)
        refine (show TT cX0_add RX0 false CT0 CN0 _ _ _ none 0 [_, _] [] _ _ from ?_)
        refine tt_aload_n (q := 1) dX0_add_0 rfl rfl ?_
        refine tt_getR (q := 4) dX0_add_1 fl_X0_9 or_85_1 (Nat.le_of_ble_eq_true rfl) rfl rfl ?_
        refine tt_aload_n (q := 5) dX0_add_4 rfl rfl ?_
        refine tt_getI (q := 8) dX0_add_5 fl_X0_23 oi_85_0 (Nat.le_of_ble_eq_true rfl) rfl ?_
        refine tt_iload_n (q := 9) dX0_add_8 rfl rfl ?_
        obtain ⟨j9, e10, l8, h⟩ := h
        refine tt_iast (q := 10) dX0_add_9 ia_86 (Nat.le_of_ble_eq_true rfl) e10 l8 rfl ?_
        replace h := h _ rfl
        refine tt_aload_n (q := 11) dX0_add_10 rfl rfl ?_
        refine tt_dup (q := 12) dX0_add_11 rfl rfl ?_
        refine tt_getI (q := 15) dX0_add_12 fl_X0_23 oi_85_0 (Nat.le_of_ble_eq_true rfl) rfl ?_
        refine tt_iconst (q := 16) dX0_add_15 ki_1 rfl ?_
        refine tt_iadd (q := 17) dX0_add_16 rfl ?_
        refine tt_putI (q := 20) dX0_add_17 fl_X0_23 oi_85_0 (fp_0_0 _) (Nat.le_of_ble_eq_true rfl) rfl ?_
        replace h := h _ rfl
        refine tt_vret dX0_add_20 ⟨rfl, rfl, ?_⟩
        refine tt_aload_n (q := 46) dX11_film_45 rfl rfl ?_
        refine tt_getR (q := 49) dX11_film_46 fl_X11_85 or_0_9 (Nat.le_of_ble_eq_true rfl) rfl rfl ?_
        refine tt_getI (q := 52) dX11_film_49 fl_X11_282 oi_85_0 (Nat.le_of_ble_eq_true rfl) rfl ?_
        exact tt_iret dX11_film_52 ⟨rfl, _, rfl, h⟩
      · replace h := h.2 c
        refine tt_aload_n (q := 31) dX11_film_30 rfl rfl ?_
        refine tt_bipush (q := 33) dX11_film_31 bi_m6 rfl ?_
        refine callVi_1 (q := 36) dX11_film_33 (Or.inr (Or.inl ⟨rfl, rfl, ⟨⟨_, _, rfl, rfl, (Nat.le_of_ble_eq_true rfl), rc_0⟩, Nat.le_of_ble_eq_true rfl, ?_⟩⟩)) (Nat.le_of_ble_eq_true rfl) rfl (fun t14 r13 ht14 => ht14)
        refine (show TT cX11_refuse RX11 false CT0 CN0 _ _ _ none 0 [_, _, dum] [] _ _ from ?_)
        refine tt_iload_n (q := 1) dX11_refuse_0 rfl rfl ?_
        refine tt_inegE (v := nI 6) (q := 2) dX11_refuse_1 (by decide) rfl ?_
        refine sti_n_2 (q := 3) dX11_refuse_2 rfl rfl rfl ?_
        refine tt_iload_n (q := 4) dX11_refuse_3 rfl rfl ?_
        refine tt_if_le (q := 7) (t := 23) dX11_refuse_4 rfl rfl (fun c => absurd c (by decide)) (fun c => ?_)
        clear c
        refine tt_iload_n (q := 8) dX11_refuse_7 rfl rfl ?_
        refine tt_bipush (q := 10) dX11_refuse_8 bi_6 rfl ?_
        refine tt_icmp_gt (q := 13) (t := 23) dX11_refuse_10 rfl rfl (fun c => absurd c (by decide)) (fun c => ?_)
        clear c
        refine tt_aload_n (q := 14) dX11_refuse_13 rfl rfl ?_
        refine tt_getR (q := 17) dX11_refuse_14 fl_X11_96 or_0_11 (Nat.le_of_ble_eq_true rfl) rfl rfl ?_
        refine tt_iload_n (q := 18) dX11_refuse_17 rfl rfl ?_
        refine tt_dup2 (q := 19) dX11_refuse_18 rfl rfl rfl ?_
        refine tt_iald (q := 20) dX11_refuse_19 ia_101 (Nat.le_of_ble_eq_true rfl) rfl (Nat.le_of_ble_eq_true rfl : 6 < 7) rfl ?_
        refine tt_iconst (q := 21) dX11_refuse_20 ki_1 rfl ?_
        refine tt_iadd (q := 22) dX11_refuse_21 rfl ?_
        refine tt_iast (q := 23) dX11_refuse_22 ia_101 (Nat.le_of_ble_eq_true rfl) rfl (Nat.le_of_ble_eq_true rfl : 6 < 7) rfl ?_
        replace h := h _ rfl
        refine tt_iload_n (q := 24) dX11_refuse_23 rfl rfl ?_
        refine tt_iret dX11_refuse_24 ⟨rfl, _, rfl, ?_⟩
        exact tt_iret dX11_film_36 ⟨rfl, _, rfl, h⟩
    · replace h := h.2 c
      refine tt_bipush (q := 15) dX11_outside_13 bi_m6 rfl ?_
      refine tt_goto (t := 19) dX11_outside_15 rfl ?_
      refine tt_iret dX11_outside_19 ⟨rfl, _, rfl, ?_⟩
      refine sti_n_2 (q := 8) dX11_film_7 rfl rfl rfl ?_
      refine tt_iload_n (q := 9) dX11_film_8 rfl rfl ?_
      refine tt_if_eq (q := 12) (t := 18) dX11_film_9 rfl rfl (fun c => absurd c (by decide)) (fun c => ?_)
      clear c
      refine tt_aload_n (q := 13) dX11_film_12 rfl rfl ?_
      refine tt_iload_n (q := 14) dX11_film_13 rfl rfl ?_
      refine callVi_1 (q := 17) dX11_film_14 (Or.inr (Or.inl ⟨rfl, rfl, ⟨⟨_, _, rfl, rfl, (Nat.le_of_ble_eq_true rfl), rc_0⟩, Nat.le_of_ble_eq_true rfl, ?_⟩⟩)) (Nat.le_of_ble_eq_true rfl) rfl (fun t17 r16 ht17 => ht17)
      refine (show TT cX11_refuse RX11 false CT0 CN0 _ _ _ none 0 [_, _, dum] [] _ _ from ?_)
      refine tt_iload_n (q := 1) dX11_refuse_0 rfl rfl ?_
      refine tt_inegE (v := nI 6) (q := 2) dX11_refuse_1 (by decide) rfl ?_
      refine sti_n_2 (q := 3) dX11_refuse_2 rfl rfl rfl ?_
      refine tt_iload_n (q := 4) dX11_refuse_3 rfl rfl ?_
      refine tt_if_le (q := 7) (t := 23) dX11_refuse_4 rfl rfl (fun c => absurd c (by decide)) (fun c => ?_)
      clear c
      refine tt_iload_n (q := 8) dX11_refuse_7 rfl rfl ?_
      refine tt_bipush (q := 10) dX11_refuse_8 bi_6 rfl ?_
      refine tt_icmp_gt (q := 13) (t := 23) dX11_refuse_10 rfl rfl (fun c => absurd c (by decide)) (fun c => ?_)
      clear c
      refine tt_aload_n (q := 14) dX11_refuse_13 rfl rfl ?_
      refine tt_getR (q := 17) dX11_refuse_14 fl_X11_96 or_0_11 (Nat.le_of_ble_eq_true rfl) rfl rfl ?_
      refine tt_iload_n (q := 18) dX11_refuse_17 rfl rfl ?_
      refine tt_dup2 (q := 19) dX11_refuse_18 rfl rfl rfl ?_
      refine tt_iald (q := 20) dX11_refuse_19 ia_101 (Nat.le_of_ble_eq_true rfl) rfl (Nat.le_of_ble_eq_true rfl : 6 < 7) rfl ?_
      refine tt_iconst (q := 21) dX11_refuse_20 ki_1 rfl ?_
      refine tt_iadd (q := 22) dX11_refuse_21 rfl ?_
      refine tt_iast (q := 23) dX11_refuse_22 ia_101 (Nat.le_of_ble_eq_true rfl) rfl (Nat.le_of_ble_eq_true rfl : 6 < 7) rfl ?_
      replace h := h _ rfl
      refine tt_iload_n (q := 24) dX11_refuse_23 rfl rfl ?_
      refine tt_iret dX11_refuse_24 ⟨rfl, _, rfl, ?_⟩
      exact tt_iret dX11_film_17 ⟨rfl, _, rfl, h⟩
  · replace h := h.2 c
    refine tt_bipush (q := 7) dX11_outside_5 bi_m4 rfl ?_
    refine tt_iret dX11_outside_7 ⟨rfl, _, rfl, ?_⟩
    refine sti_n_2 (q := 8) dX11_film_7 rfl rfl rfl ?_
    refine tt_iload_n (q := 9) dX11_film_8 rfl rfl ?_
    refine tt_if_eq (q := 12) (t := 18) dX11_film_9 rfl rfl (fun c => absurd c (by decide)) (fun c => ?_)
    clear c
    refine tt_aload_n (q := 13) dX11_film_12 rfl rfl ?_
    refine tt_iload_n (q := 14) dX11_film_13 rfl rfl ?_
    refine callVi_1 (q := 17) dX11_film_14 (Or.inr (Or.inl ⟨rfl, rfl, ⟨⟨_, _, rfl, rfl, (Nat.le_of_ble_eq_true rfl), rc_0⟩, Nat.le_of_ble_eq_true rfl, ?_⟩⟩)) (Nat.le_of_ble_eq_true rfl) rfl (fun t20 r19 ht20 => ht20)
    refine (show TT cX11_refuse RX11 false CT0 CN0 _ _ _ none 0 [_, _, dum] [] _ _ from ?_)
    refine tt_iload_n (q := 1) dX11_refuse_0 rfl rfl ?_
    refine tt_inegE (v := nI 4) (q := 2) dX11_refuse_1 (by decide) rfl ?_
    refine sti_n_2 (q := 3) dX11_refuse_2 rfl rfl rfl ?_
    refine tt_iload_n (q := 4) dX11_refuse_3 rfl rfl ?_
    refine tt_if_le (q := 7) (t := 23) dX11_refuse_4 rfl rfl (fun c => absurd c (by decide)) (fun c => ?_)
    clear c
    refine tt_iload_n (q := 8) dX11_refuse_7 rfl rfl ?_
    refine tt_bipush (q := 10) dX11_refuse_8 bi_6 rfl ?_
    refine tt_icmp_gt (q := 13) (t := 23) dX11_refuse_10 rfl rfl (fun c => absurd c (by decide)) (fun c => ?_)
    clear c
    refine tt_aload_n (q := 14) dX11_refuse_13 rfl rfl ?_
    refine tt_getR (q := 17) dX11_refuse_14 fl_X11_96 or_0_11 (Nat.le_of_ble_eq_true rfl) rfl rfl ?_
    refine tt_iload_n (q := 18) dX11_refuse_17 rfl rfl ?_
    refine tt_dup2 (q := 19) dX11_refuse_18 rfl rfl rfl ?_
    refine tt_iald (q := 20) dX11_refuse_19 ia_101 (Nat.le_of_ble_eq_true rfl) rfl (Nat.le_of_ble_eq_true rfl : 4 < 7) rfl ?_
    refine tt_iconst (q := 21) dX11_refuse_20 ki_1 rfl ?_
    refine tt_iadd (q := 22) dX11_refuse_21 rfl ?_
    refine tt_iast (q := 23) dX11_refuse_22 ia_101 (Nat.le_of_ble_eq_true rfl) rfl (Nat.le_of_ble_eq_true rfl : 4 < 7) rfl ?_
    replace h := h _ rfl
    refine tt_iload_n (q := 24) dX11_refuse_23 rfl rfl ?_
    refine tt_iret dX11_refuse_24 ⟨rfl, _, rfl, ?_⟩
    exact tt_iret dX11_film_17 ⟨rfl, _, rfl, h⟩

theorem g_X11_held_0 {post : SG → Int32 → Prop} {σ : SG} {a : Int32} {b : Int32} (h : ((a < 0 → (∀ s6 : SG, s6 = up σ 101 1 ((σ 101 1) + (nI 1)) → post s6 (-1 : Int32))) ∧ (¬ a < 0 → (((σ 36 0) ≤ a → (∀ s10 : SG, s10 = up σ 101 1 ((σ 101 1) + (nI 1)) → post s10 (-1 : Int32))) ∧ (¬ (σ 36 0) ≤ a → (((nI 0) ≤ b → ((b ≤ (nI 99) → (∃ p17 : SG → Int32 → Prop, IN_X0_firstAbove AF σ [.ref 85, .int a, .int b] p17 ∧ ∀ (t16 : SG) (r15 : Int32), p17 t16 r15 → post t16 r15)) ∧ (¬ b ≤ (nI 99) → (∀ s22 : SG, s22 = up σ 101 6 ((σ 101 6) + (nI 1)) → post s22 (-6 : Int32))))) ∧ (¬ (nI 0) ≤ b → (∀ s25 : SG, s25 = up σ 101 4 ((σ 101 4) + (nI 1)) → post s25 (-4 : Int32))))))))) : T_X11_held AF post 0 [.ref 0, .int a, .int b, dum] [] σ := by
  refine tt_aload_n (q := 1) dX11_held_0 rfl rfl ?_
  refine tt_getR (q := 4) dX11_held_1 fl_X11_37 or_0_3 (Nat.le_of_ble_eq_true rfl) rfl rfl ?_
  refine tt_iload_n (q := 5) dX11_held_4 rfl rfl ?_
  refine callVi_1 (q := 8) dX11_held_5 (Or.inl ⟨rfl, rfl, ⟨⟨_, _, rfl, rfl, (Nat.le_of_ble_eq_true rfl), rc_36⟩, Nat.le_of_ble_eq_true rfl, ?_⟩⟩) (Nat.le_of_ble_eq_true rfl) rfl (fun t2 r1 ht2 => ht2)
  refine (show TT cX5_has RX5 false CT0 CN0 _ _ _ none 0 [_, _] [] _ _ from ?_)
  refine tt_iload_n (q := 1) dX5_has_0 rfl rfl ?_
  refine tt_if_lt (q := 4) (t := 16) dX5_has_1 rfl rfl (fun c => ?_) (fun c => ?_)
  · replace h := h.1 c
    refine tt_iconst (q := 17) dX5_has_16 ki_0 rfl ?_
    refine tt_iret dX5_has_17 ⟨rfl, _, rfl, Or.inl nI_0, ?_⟩
    refine tt_if_ne (q := 11) (t := 17) dX11_held_8 rfl rfl (fun c => absurd c (by decide)) (fun c => ?_)
    clear c
    refine tt_aload_n (q := 12) dX11_held_11 rfl rfl ?_
    refine tt_iconst (q := 13) dX11_held_12 ki_m1 rfl ?_
    refine callVi_1 (q := 16) dX11_held_13 (Or.inr (Or.inl ⟨rfl, rfl, ⟨⟨_, _, rfl, rfl, (Nat.le_of_ble_eq_true rfl), rc_0⟩, Nat.le_of_ble_eq_true rfl, ?_⟩⟩)) (Nat.le_of_ble_eq_true rfl) rfl (fun t5 r4 ht5 => ht5)
    refine (show TT cX11_refuse RX11 false CT0 CN0 _ _ _ none 0 [_, _, dum] [] _ _ from ?_)
    refine tt_iload_n (q := 1) dX11_refuse_0 rfl rfl ?_
    refine tt_inegE (v := nI 1) (q := 2) dX11_refuse_1 (by decide) rfl ?_
    refine sti_n_2 (q := 3) dX11_refuse_2 rfl rfl rfl ?_
    refine tt_iload_n (q := 4) dX11_refuse_3 rfl rfl ?_
    refine tt_if_le (q := 7) (t := 23) dX11_refuse_4 rfl rfl (fun c => absurd c (by decide)) (fun c => ?_)
    clear c
    refine tt_iload_n (q := 8) dX11_refuse_7 rfl rfl ?_
    refine tt_bipush (q := 10) dX11_refuse_8 bi_6 rfl ?_
    refine tt_icmp_gt (q := 13) (t := 23) dX11_refuse_10 rfl rfl (fun c => absurd c (by decide)) (fun c => ?_)
    clear c
    refine tt_aload_n (q := 14) dX11_refuse_13 rfl rfl ?_
    refine tt_getR (q := 17) dX11_refuse_14 fl_X11_96 or_0_11 (Nat.le_of_ble_eq_true rfl) rfl rfl ?_
    refine tt_iload_n (q := 18) dX11_refuse_17 rfl rfl ?_
    refine tt_dup2 (q := 19) dX11_refuse_18 rfl rfl rfl ?_
    refine tt_iald (q := 20) dX11_refuse_19 ia_101 (Nat.le_of_ble_eq_true rfl) rfl (Nat.le_of_ble_eq_true rfl : 1 < 7) rfl ?_
    refine tt_iconst (q := 21) dX11_refuse_20 ki_1 rfl ?_
    refine tt_iadd (q := 22) dX11_refuse_21 rfl ?_
    refine tt_iast (q := 23) dX11_refuse_22 ia_101 (Nat.le_of_ble_eq_true rfl) rfl (Nat.le_of_ble_eq_true rfl : 1 < 7) rfl ?_
    replace h := h _ rfl
    refine tt_iload_n (q := 24) dX11_refuse_23 rfl rfl ?_
    refine tt_iret dX11_refuse_24 ⟨rfl, _, rfl, ?_⟩
    exact tt_iret dX11_held_16 ⟨rfl, _, rfl, h⟩
  · replace h := h.2 c
    refine tt_iload_n (q := 5) dX5_has_4 rfl rfl ?_
    refine tt_aload_n (q := 6) dX5_has_5 rfl rfl ?_
    refine tt_getI (q := 9) dX5_has_6 fl_X5_34 oi_36_0 (Nat.le_of_ble_eq_true rfl) rfl ?_
    refine tt_icmp_ge (q := 12) (t := 16) dX5_has_9 rfl rfl (fun c => ?_) (fun c => ?_)
    · replace h := h.1 c
      refine tt_iconst (q := 17) dX5_has_16 ki_0 rfl ?_
      refine tt_iret dX5_has_17 ⟨rfl, _, rfl, Or.inl nI_0, ?_⟩
      refine tt_if_ne (q := 11) (t := 17) dX11_held_8 rfl rfl (fun c => absurd c (by decide)) (fun c => ?_)
      clear c
      refine tt_aload_n (q := 12) dX11_held_11 rfl rfl ?_
      refine tt_iconst (q := 13) dX11_held_12 ki_m1 rfl ?_
      refine callVi_1 (q := 16) dX11_held_13 (Or.inr (Or.inl ⟨rfl, rfl, ⟨⟨_, _, rfl, rfl, (Nat.le_of_ble_eq_true rfl), rc_0⟩, Nat.le_of_ble_eq_true rfl, ?_⟩⟩)) (Nat.le_of_ble_eq_true rfl) rfl (fun t9 r8 ht9 => ht9)
      refine (show TT cX11_refuse RX11 false CT0 CN0 _ _ _ none 0 [_, _, dum] [] _ _ from ?_)
      refine tt_iload_n (q := 1) dX11_refuse_0 rfl rfl ?_
      refine tt_inegE (v := nI 1) (q := 2) dX11_refuse_1 (by decide) rfl ?_
      refine sti_n_2 (q := 3) dX11_refuse_2 rfl rfl rfl ?_
      refine tt_iload_n (q := 4) dX11_refuse_3 rfl rfl ?_
      refine tt_if_le (q := 7) (t := 23) dX11_refuse_4 rfl rfl (fun c => absurd c (by decide)) (fun c => ?_)
      clear c
      refine tt_iload_n (q := 8) dX11_refuse_7 rfl rfl ?_
      refine tt_bipush (q := 10) dX11_refuse_8 bi_6 rfl ?_
      refine tt_icmp_gt (q := 13) (t := 23) dX11_refuse_10 rfl rfl (fun c => absurd c (by decide)) (fun c => ?_)
      clear c
      refine tt_aload_n (q := 14) dX11_refuse_13 rfl rfl ?_
      refine tt_getR (q := 17) dX11_refuse_14 fl_X11_96 or_0_11 (Nat.le_of_ble_eq_true rfl) rfl rfl ?_
      refine tt_iload_n (q := 18) dX11_refuse_17 rfl rfl ?_
      refine tt_dup2 (q := 19) dX11_refuse_18 rfl rfl rfl ?_
      refine tt_iald (q := 20) dX11_refuse_19 ia_101 (Nat.le_of_ble_eq_true rfl) rfl (Nat.le_of_ble_eq_true rfl : 1 < 7) rfl ?_
      refine tt_iconst (q := 21) dX11_refuse_20 ki_1 rfl ?_
      refine tt_iadd (q := 22) dX11_refuse_21 rfl ?_
      refine tt_iast (q := 23) dX11_refuse_22 ia_101 (Nat.le_of_ble_eq_true rfl) rfl (Nat.le_of_ble_eq_true rfl : 1 < 7) rfl ?_
      replace h := h _ rfl
      refine tt_iload_n (q := 24) dX11_refuse_23 rfl rfl ?_
      refine tt_iret dX11_refuse_24 ⟨rfl, _, rfl, ?_⟩
      exact tt_iret dX11_held_16 ⟨rfl, _, rfl, h⟩
    · replace h := h.2 c
      refine tt_iconst (q := 13) dX5_has_12 ki_1 rfl ?_
      refine tt_goto (t := 17) dX5_has_13 rfl ?_
      refine tt_iret dX5_has_17 ⟨rfl, _, rfl, Or.inr rfl, ?_⟩
      refine tt_if_ne (q := 11) (t := 17) dX11_held_8 rfl rfl (fun c => ?_) (fun c => absurd c (by decide))
      clear c
      refine tt_iload_n (q := 18) dX11_held_17 rfl rfl ?_
      refine tt_iconst (q := 19) dX11_held_18 ki_0 rfl ?_
      refine tt_bipush (q := 21) dX11_held_19 bi_99 rfl ?_
      refine callSi_3 (q := 24) dX11_held_21 (Or.inr (Or.inr (Or.inl ⟨rfl, rfl, ⟨rfl, Nat.le_of_ble_eq_true rfl, ?_⟩⟩))) (Nat.le_of_ble_eq_true rfl) rfl (fun t12 r11 ht12 => ht12)
      refine (show TT cX11_outside RX11 false CT0 CN0 _ _ _ none 0 [_, _, _] [] _ _ from ?_)
      refine tt_iload_n (q := 1) dX11_outside_0 rfl rfl ?_
      refine tt_iload_n (q := 2) dX11_outside_1 rfl rfl ?_
      refine tt_icmp_ge (q := 5) (t := 8) dX11_outside_2 rfl rfl (fun c => ?_) (fun c => ?_)
      · replace h := h.1 c
        refine tt_iload_n (q := 9) dX11_outside_8 rfl rfl ?_
        refine tt_iload_n (q := 10) dX11_outside_9 rfl rfl ?_
        refine tt_icmp_le (q := 13) (t := 18) dX11_outside_10 rfl rfl (fun c => ?_) (fun c => ?_)
        · replace h := h.1 c
          refine tt_iconst (q := 19) dX11_outside_18 ki_0 rfl ?_
          refine tt_iret dX11_outside_19 ⟨rfl, _, rfl, ?_⟩
          refine sti_n_3 (q := 25) dX11_held_24 rfl rfl rfl ?_
          refine tt_iload_n (q := 26) dX11_held_25 rfl rfl ?_
          refine tt_if_eq (q := 29) (t := 35) dX11_held_26 rfl rfl (fun c => ?_) (fun c => absurd c (by decide))
          clear c
          refine tt_aload_n (q := 36) dX11_held_35 rfl rfl ?_
          refine tt_getR (q := 39) dX11_held_36 fl_X11_85 or_0_9 (Nat.le_of_ble_eq_true rfl) rfl rfl ?_
          refine tt_iload_n (q := 40) dX11_held_39 rfl rfl ?_
          refine tt_iload_n (q := 41) dX11_held_40 rfl rfl ?_
          obtain ⟨p17, hp18, h⟩ := h
          refine callVi_2 (q := 44) dX11_held_41 (Or.inr (Or.inr (Or.inr (⟨rfl, rfl, hp18⟩)))) (Nat.le_of_ble_eq_true rfl) rfl (fun t16 r15 hr19 => ?_)
          replace h := h t16 r15 hr19
          exact tt_iret dX11_held_44 ⟨rfl, _, rfl, h⟩
        · replace h := h.2 c
          refine tt_bipush (q := 15) dX11_outside_13 bi_m6 rfl ?_
          refine tt_goto (t := 19) dX11_outside_15 rfl ?_
          refine tt_iret dX11_outside_19 ⟨rfl, _, rfl, ?_⟩
          refine sti_n_3 (q := 25) dX11_held_24 rfl rfl rfl ?_
          refine tt_iload_n (q := 26) dX11_held_25 rfl rfl ?_
          refine tt_if_eq (q := 29) (t := 35) dX11_held_26 rfl rfl (fun c => absurd c (by decide)) (fun c => ?_)
          clear c
          refine tt_aload_n (q := 30) dX11_held_29 rfl rfl ?_
          refine tt_iload_n (q := 31) dX11_held_30 rfl rfl ?_
          refine callVi_1 (q := 34) dX11_held_31 (Or.inr (Or.inl ⟨rfl, rfl, ⟨⟨_, _, rfl, rfl, (Nat.le_of_ble_eq_true rfl), rc_0⟩, Nat.le_of_ble_eq_true rfl, ?_⟩⟩)) (Nat.le_of_ble_eq_true rfl) rfl (fun t21 r20 ht21 => ht21)
          refine (show TT cX11_refuse RX11 false CT0 CN0 _ _ _ none 0 [_, _, dum] [] _ _ from ?_)
          refine tt_iload_n (q := 1) dX11_refuse_0 rfl rfl ?_
          refine tt_inegE (v := nI 6) (q := 2) dX11_refuse_1 (by decide) rfl ?_
          refine sti_n_2 (q := 3) dX11_refuse_2 rfl rfl rfl ?_
          refine tt_iload_n (q := 4) dX11_refuse_3 rfl rfl ?_
          refine tt_if_le (q := 7) (t := 23) dX11_refuse_4 rfl rfl (fun c => absurd c (by decide)) (fun c => ?_)
          clear c
          refine tt_iload_n (q := 8) dX11_refuse_7 rfl rfl ?_
          refine tt_bipush (q := 10) dX11_refuse_8 bi_6 rfl ?_
          refine tt_icmp_gt (q := 13) (t := 23) dX11_refuse_10 rfl rfl (fun c => absurd c (by decide)) (fun c => ?_)
          clear c
          refine tt_aload_n (q := 14) dX11_refuse_13 rfl rfl ?_
          refine tt_getR (q := 17) dX11_refuse_14 fl_X11_96 or_0_11 (Nat.le_of_ble_eq_true rfl) rfl rfl ?_
          refine tt_iload_n (q := 18) dX11_refuse_17 rfl rfl ?_
          refine tt_dup2 (q := 19) dX11_refuse_18 rfl rfl rfl ?_
          refine tt_iald (q := 20) dX11_refuse_19 ia_101 (Nat.le_of_ble_eq_true rfl) rfl (Nat.le_of_ble_eq_true rfl : 6 < 7) rfl ?_
          refine tt_iconst (q := 21) dX11_refuse_20 ki_1 rfl ?_
          refine tt_iadd (q := 22) dX11_refuse_21 rfl ?_
          refine tt_iast (q := 23) dX11_refuse_22 ia_101 (Nat.le_of_ble_eq_true rfl) rfl (Nat.le_of_ble_eq_true rfl : 6 < 7) rfl ?_
          replace h := h _ rfl
          refine tt_iload_n (q := 24) dX11_refuse_23 rfl rfl ?_
          refine tt_iret dX11_refuse_24 ⟨rfl, _, rfl, ?_⟩
          exact tt_iret dX11_held_34 ⟨rfl, _, rfl, h⟩
      · replace h := h.2 c
        refine tt_bipush (q := 7) dX11_outside_5 bi_m4 rfl ?_
        refine tt_iret dX11_outside_7 ⟨rfl, _, rfl, ?_⟩
        refine sti_n_3 (q := 25) dX11_held_24 rfl rfl rfl ?_
        refine tt_iload_n (q := 26) dX11_held_25 rfl rfl ?_
        refine tt_if_eq (q := 29) (t := 35) dX11_held_26 rfl rfl (fun c => absurd c (by decide)) (fun c => ?_)
        clear c
        refine tt_aload_n (q := 30) dX11_held_29 rfl rfl ?_
        refine tt_iload_n (q := 31) dX11_held_30 rfl rfl ?_
        refine callVi_1 (q := 34) dX11_held_31 (Or.inr (Or.inl ⟨rfl, rfl, ⟨⟨_, _, rfl, rfl, (Nat.le_of_ble_eq_true rfl), rc_0⟩, Nat.le_of_ble_eq_true rfl, ?_⟩⟩)) (Nat.le_of_ble_eq_true rfl) rfl (fun t24 r23 ht24 => ht24)
        refine (show TT cX11_refuse RX11 false CT0 CN0 _ _ _ none 0 [_, _, dum] [] _ _ from ?_)
        refine tt_iload_n (q := 1) dX11_refuse_0 rfl rfl ?_
        refine tt_inegE (v := nI 4) (q := 2) dX11_refuse_1 (by decide) rfl ?_
        refine sti_n_2 (q := 3) dX11_refuse_2 rfl rfl rfl ?_
        refine tt_iload_n (q := 4) dX11_refuse_3 rfl rfl ?_
        refine tt_if_le (q := 7) (t := 23) dX11_refuse_4 rfl rfl (fun c => absurd c (by decide)) (fun c => ?_)
        clear c
        refine tt_iload_n (q := 8) dX11_refuse_7 rfl rfl ?_
        refine tt_bipush (q := 10) dX11_refuse_8 bi_6 rfl ?_
        refine tt_icmp_gt (q := 13) (t := 23) dX11_refuse_10 rfl rfl (fun c => absurd c (by decide)) (fun c => ?_)
        clear c
        refine tt_aload_n (q := 14) dX11_refuse_13 rfl rfl ?_
        refine tt_getR (q := 17) dX11_refuse_14 fl_X11_96 or_0_11 (Nat.le_of_ble_eq_true rfl) rfl rfl ?_
        refine tt_iload_n (q := 18) dX11_refuse_17 rfl rfl ?_
        refine tt_dup2 (q := 19) dX11_refuse_18 rfl rfl rfl ?_
        refine tt_iald (q := 20) dX11_refuse_19 ia_101 (Nat.le_of_ble_eq_true rfl) rfl (Nat.le_of_ble_eq_true rfl : 4 < 7) rfl ?_
        refine tt_iconst (q := 21) dX11_refuse_20 ki_1 rfl ?_
        refine tt_iadd (q := 22) dX11_refuse_21 rfl ?_
        refine tt_iast (q := 23) dX11_refuse_22 ia_101 (Nat.le_of_ble_eq_true rfl) rfl (Nat.le_of_ble_eq_true rfl : 4 < 7) rfl ?_
        replace h := h _ rfl
        refine tt_iload_n (q := 24) dX11_refuse_23 rfl rfl ?_
        refine tt_iret dX11_refuse_24 ⟨rfl, _, rfl, ?_⟩
        exact tt_iret dX11_held_34 ⟨rfl, _, rfl, h⟩

theorem g_X11_heldUp_0 {post : SG → Int32 → Prop} {σ : SG} {a : Int32} (h : ((a < 0 → (∀ s6 : SG, s6 = up σ 101 1 ((σ 101 1) + (nI 1)) → post s6 (-1 : Int32))) ∧ (¬ a < 0 → (((σ 36 0) ≤ a → (∀ s10 : SG, s10 = up σ 101 1 ((σ 101 1) + (nI 1)) → post s10 (-1 : Int32))) ∧ (¬ (σ 36 0) ≤ a → (∃ p13 : SG → Int32 → Prop, IN_X0_allAbove AF σ [.ref 85, .int a] p13 ∧ ∀ (t12 : SG) (r11 : Int32), p13 t12 r11 → (∀ s16 : SG, s16 = up t12 85 0 (nI 0) → post s16 r11))))))) : T_X11_heldUp AF post 0 [.ref 0, .int a, dum] [] σ := by
  refine tt_aload_n (q := 1) dX11_heldUp_0 rfl rfl ?_
  refine tt_getR (q := 4) dX11_heldUp_1 fl_X11_37 or_0_3 (Nat.le_of_ble_eq_true rfl) rfl rfl ?_
  refine tt_iload_n (q := 5) dX11_heldUp_4 rfl rfl ?_
  refine callVi_1 (q := 8) dX11_heldUp_5 (Or.inl ⟨rfl, rfl, ⟨⟨_, _, rfl, rfl, (Nat.le_of_ble_eq_true rfl), rc_36⟩, Nat.le_of_ble_eq_true rfl, ?_⟩⟩) (Nat.le_of_ble_eq_true rfl) rfl (fun t2 r1 ht2 => ht2)
  refine (show TT cX5_has RX5 false CT0 CN0 _ _ _ none 0 [_, _] [] _ _ from ?_)
  refine tt_iload_n (q := 1) dX5_has_0 rfl rfl ?_
  refine tt_if_lt (q := 4) (t := 16) dX5_has_1 rfl rfl (fun c => ?_) (fun c => ?_)
  · replace h := h.1 c
    refine tt_iconst (q := 17) dX5_has_16 ki_0 rfl ?_
    refine tt_iret dX5_has_17 ⟨rfl, _, rfl, Or.inl nI_0, ?_⟩
    refine tt_if_ne (q := 11) (t := 17) dX11_heldUp_8 rfl rfl (fun c => absurd c (by decide)) (fun c => ?_)
    clear c
    refine tt_aload_n (q := 12) dX11_heldUp_11 rfl rfl ?_
    refine tt_iconst (q := 13) dX11_heldUp_12 ki_m1 rfl ?_
    refine callVi_1 (q := 16) dX11_heldUp_13 (Or.inr (Or.inl ⟨rfl, rfl, ⟨⟨_, _, rfl, rfl, (Nat.le_of_ble_eq_true rfl), rc_0⟩, Nat.le_of_ble_eq_true rfl, ?_⟩⟩)) (Nat.le_of_ble_eq_true rfl) rfl (fun t5 r4 ht5 => ht5)
    refine (show TT cX11_refuse RX11 false CT0 CN0 _ _ _ none 0 [_, _, dum] [] _ _ from ?_)
    refine tt_iload_n (q := 1) dX11_refuse_0 rfl rfl ?_
    refine tt_inegE (v := nI 1) (q := 2) dX11_refuse_1 (by decide) rfl ?_
    refine sti_n_2 (q := 3) dX11_refuse_2 rfl rfl rfl ?_
    refine tt_iload_n (q := 4) dX11_refuse_3 rfl rfl ?_
    refine tt_if_le (q := 7) (t := 23) dX11_refuse_4 rfl rfl (fun c => absurd c (by decide)) (fun c => ?_)
    clear c
    refine tt_iload_n (q := 8) dX11_refuse_7 rfl rfl ?_
    refine tt_bipush (q := 10) dX11_refuse_8 bi_6 rfl ?_
    refine tt_icmp_gt (q := 13) (t := 23) dX11_refuse_10 rfl rfl (fun c => absurd c (by decide)) (fun c => ?_)
    clear c
    refine tt_aload_n (q := 14) dX11_refuse_13 rfl rfl ?_
    refine tt_getR (q := 17) dX11_refuse_14 fl_X11_96 or_0_11 (Nat.le_of_ble_eq_true rfl) rfl rfl ?_
    refine tt_iload_n (q := 18) dX11_refuse_17 rfl rfl ?_
    refine tt_dup2 (q := 19) dX11_refuse_18 rfl rfl rfl ?_
    refine tt_iald (q := 20) dX11_refuse_19 ia_101 (Nat.le_of_ble_eq_true rfl) rfl (Nat.le_of_ble_eq_true rfl : 1 < 7) rfl ?_
    refine tt_iconst (q := 21) dX11_refuse_20 ki_1 rfl ?_
    refine tt_iadd (q := 22) dX11_refuse_21 rfl ?_
    refine tt_iast (q := 23) dX11_refuse_22 ia_101 (Nat.le_of_ble_eq_true rfl) rfl (Nat.le_of_ble_eq_true rfl : 1 < 7) rfl ?_
    replace h := h _ rfl
    refine tt_iload_n (q := 24) dX11_refuse_23 rfl rfl ?_
    refine tt_iret dX11_refuse_24 ⟨rfl, _, rfl, ?_⟩
    exact tt_iret dX11_heldUp_16 ⟨rfl, _, rfl, h⟩
  · replace h := h.2 c
    refine tt_iload_n (q := 5) dX5_has_4 rfl rfl ?_
    refine tt_aload_n (q := 6) dX5_has_5 rfl rfl ?_
    refine tt_getI (q := 9) dX5_has_6 fl_X5_34 oi_36_0 (Nat.le_of_ble_eq_true rfl) rfl ?_
    refine tt_icmp_ge (q := 12) (t := 16) dX5_has_9 rfl rfl (fun c => ?_) (fun c => ?_)
    · replace h := h.1 c
      refine tt_iconst (q := 17) dX5_has_16 ki_0 rfl ?_
      refine tt_iret dX5_has_17 ⟨rfl, _, rfl, Or.inl nI_0, ?_⟩
      refine tt_if_ne (q := 11) (t := 17) dX11_heldUp_8 rfl rfl (fun c => absurd c (by decide)) (fun c => ?_)
      clear c
      refine tt_aload_n (q := 12) dX11_heldUp_11 rfl rfl ?_
      refine tt_iconst (q := 13) dX11_heldUp_12 ki_m1 rfl ?_
      refine callVi_1 (q := 16) dX11_heldUp_13 (Or.inr (Or.inl ⟨rfl, rfl, ⟨⟨_, _, rfl, rfl, (Nat.le_of_ble_eq_true rfl), rc_0⟩, Nat.le_of_ble_eq_true rfl, ?_⟩⟩)) (Nat.le_of_ble_eq_true rfl) rfl (fun t9 r8 ht9 => ht9)
      refine (show TT cX11_refuse RX11 false CT0 CN0 _ _ _ none 0 [_, _, dum] [] _ _ from ?_)
      refine tt_iload_n (q := 1) dX11_refuse_0 rfl rfl ?_
      refine tt_inegE (v := nI 1) (q := 2) dX11_refuse_1 (by decide) rfl ?_
      refine sti_n_2 (q := 3) dX11_refuse_2 rfl rfl rfl ?_
      refine tt_iload_n (q := 4) dX11_refuse_3 rfl rfl ?_
      refine tt_if_le (q := 7) (t := 23) dX11_refuse_4 rfl rfl (fun c => absurd c (by decide)) (fun c => ?_)
      clear c
      refine tt_iload_n (q := 8) dX11_refuse_7 rfl rfl ?_
      refine tt_bipush (q := 10) dX11_refuse_8 bi_6 rfl ?_
      refine tt_icmp_gt (q := 13) (t := 23) dX11_refuse_10 rfl rfl (fun c => absurd c (by decide)) (fun c => ?_)
      clear c
      refine tt_aload_n (q := 14) dX11_refuse_13 rfl rfl ?_
      refine tt_getR (q := 17) dX11_refuse_14 fl_X11_96 or_0_11 (Nat.le_of_ble_eq_true rfl) rfl rfl ?_
      refine tt_iload_n (q := 18) dX11_refuse_17 rfl rfl ?_
      refine tt_dup2 (q := 19) dX11_refuse_18 rfl rfl rfl ?_
      refine tt_iald (q := 20) dX11_refuse_19 ia_101 (Nat.le_of_ble_eq_true rfl) rfl (Nat.le_of_ble_eq_true rfl : 1 < 7) rfl ?_
      refine tt_iconst (q := 21) dX11_refuse_20 ki_1 rfl ?_
      refine tt_iadd (q := 22) dX11_refuse_21 rfl ?_
      refine tt_iast (q := 23) dX11_refuse_22 ia_101 (Nat.le_of_ble_eq_true rfl) rfl (Nat.le_of_ble_eq_true rfl : 1 < 7) rfl ?_
      replace h := h _ rfl
      refine tt_iload_n (q := 24) dX11_refuse_23 rfl rfl ?_
      refine tt_iret dX11_refuse_24 ⟨rfl, _, rfl, ?_⟩
      exact tt_iret dX11_heldUp_16 ⟨rfl, _, rfl, h⟩
    · replace h := h.2 c
      refine tt_iconst (q := 13) dX5_has_12 ki_1 rfl ?_
      refine tt_goto (t := 17) dX5_has_13 rfl ?_
      refine tt_iret dX5_has_17 ⟨rfl, _, rfl, Or.inr rfl, ?_⟩
      refine tt_if_ne (q := 11) (t := 17) dX11_heldUp_8 rfl rfl (fun c => ?_) (fun c => absurd c (by decide))
      clear c
      refine tt_aload_n (q := 18) dX11_heldUp_17 rfl rfl ?_
      refine tt_getR (q := 21) dX11_heldUp_18 fl_X11_85 or_0_9 (Nat.le_of_ble_eq_true rfl) rfl rfl ?_
      refine tt_iload_n (q := 22) dX11_heldUp_21 rfl rfl ?_
      obtain ⟨p13, hp14, h⟩ := h
      refine callVi_1 (q := 25) dX11_heldUp_22 (Or.inr (Or.inr (⟨rfl, rfl, hp14⟩))) (Nat.le_of_ble_eq_true rfl) rfl (fun t12 r11 hr15 => ?_)
      replace h := h t12 r11 hr15
      refine sti_n_2 (q := 26) dX11_heldUp_25 rfl rfl rfl ?_
      refine tt_aload_n (q := 27) dX11_heldUp_26 rfl rfl ?_
      refine tt_getR (q := 30) dX11_heldUp_27 fl_X11_85 or_0_9 (Nat.le_of_ble_eq_true rfl) rfl rfl ?_
      refine tt_iconst (q := 31) dX11_heldUp_30 ki_0 rfl ?_
      refine tt_putI (q := 34) dX11_heldUp_31 fl_X11_282 oi_85_0 (fp_0_0 _) (Nat.le_of_ble_eq_true rfl) rfl ?_
      replace h := h _ rfl
      refine tt_iload_n (q := 35) dX11_heldUp_34 rfl rfl ?_
      exact tt_iret dX11_heldUp_35 ⟨rfl, _, rfl, h⟩

theorem g_X11_image_0 {post : SG → Int32 → Prop} {σ : SG} (h : (∀ s1 : SG, s1 = up σ 87 0 (nI 1) → (∀ s2 : SG, s2 = up s1 87 1 (s1 7 0) → (∀ s3 : SG, s3 = up s2 87 2 (s2 36 0) → (∀ s4 : SG, s4 = up s3 87 3 (s3 77 0) → (∀ s5 : SG, s5 = up s4 87 4 (s4 0 12) → (∀ s8 : SG, s8 = cpy s5 63 0 90 0 6 → (∀ s9 : SG, s9 = cpy s8 64 0 91 0 6 → (∀ s10 : SG, s10 = cpy s9 66 0 93 0 6 → (∀ s11 : SG, s11 = cpy s10 67 0 94 0 6 → (∀ s12 : SG, s12 = cpy s11 68 0 95 0 6 → (∀ s13 : SG, s13 = cpy s12 69 0 96 0 6 → (∀ s14 : SG, s14 = cpy s13 70 0 97 0 6 → (∀ s15 : SG, s15 = cpy s14 71 0 98 0 6 → (∀ s16 : SG, s16 = cpy s15 72 0 99 0 2 → (∀ s17 : SG, s17 = cpy s16 80 0 100 0 4 → post s17 (s17 36 0))))))))))))))))) : T_X11_image AF post 0 [.ref 0] [] σ := by
  refine tt_aload_n (q := 1) dX11_image_0 rfl rfl ?_
  refine tt_getR (q := 4) dX11_image_1 fl_X11_92 or_0_10 (Nat.le_of_ble_eq_true rfl) rfl rfl ?_
  refine tt_iconst (q := 5) dX11_image_4 ki_1 rfl ?_
  refine tt_putI (q := 8) dX11_image_5 fl_X11_290 oi_87_0 fp_3_0_1 (Nat.le_of_ble_eq_true rfl) rfl ?_
  replace h := h _ rfl
  refine tt_aload_n (q := 9) dX11_image_8 rfl rfl ?_
  refine tt_getR (q := 12) dX11_image_9 fl_X11_92 or_0_10 (Nat.le_of_ble_eq_true rfl) rfl rfl ?_
  refine tt_aload_n (q := 13) dX11_image_12 rfl rfl ?_
  refine tt_getR (q := 16) dX11_image_13 fl_X11_28 or_0_2 (Nat.le_of_ble_eq_true rfl) rfl rfl ?_
  refine tt_getI (q := 19) dX11_image_16 fl_X11_119 oi_7_0 (Nat.le_of_ble_eq_true rfl) rfl ?_
  refine tt_putI (q := 22) dX11_image_19 fl_X11_294 oi_87_1 (fp_3_1 _) (Nat.le_of_ble_eq_true rfl) rfl ?_
  replace h := h _ rfl
  refine tt_aload_n (q := 23) dX11_image_22 rfl rfl ?_
  refine tt_getR (q := 26) dX11_image_23 fl_X11_92 or_0_10 (Nat.le_of_ble_eq_true rfl) rfl rfl ?_
  refine tt_aload_n (q := 27) dX11_image_26 rfl rfl ?_
  refine tt_getR (q := 30) dX11_image_27 fl_X11_37 or_0_3 (Nat.le_of_ble_eq_true rfl) rfl rfl ?_
  refine tt_getI (q := 33) dX11_image_30 fl_X11_137 oi_36_0 (Nat.le_of_ble_eq_true rfl) rfl ?_
  refine tt_putI (q := 36) dX11_image_33 fl_X11_296 oi_87_2 (fp_3_2 _) (Nat.le_of_ble_eq_true rfl) rfl ?_
  replace h := h _ rfl
  refine tt_aload_n (q := 37) dX11_image_36 rfl rfl ?_
  refine tt_getR (q := 40) dX11_image_37 fl_X11_92 or_0_10 (Nat.le_of_ble_eq_true rfl) rfl rfl ?_
  refine tt_aload_n (q := 41) dX11_image_40 rfl rfl ?_
  refine tt_getR (q := 44) dX11_image_41 fl_X11_62 or_0_6 (Nat.le_of_ble_eq_true rfl) rfl rfl ?_
  refine tt_getI (q := 47) dX11_image_44 fl_X11_232 oi_77_0 (Nat.le_of_ble_eq_true rfl) rfl ?_
  refine tt_putI (q := 50) dX11_image_47 fl_X11_298 oi_87_3 (fp_3_3 _) (Nat.le_of_ble_eq_true rfl) rfl ?_
  replace h := h _ rfl
  refine tt_aload_n (q := 51) dX11_image_50 rfl rfl ?_
  refine tt_getR (q := 54) dX11_image_51 fl_X11_92 or_0_10 (Nat.le_of_ble_eq_true rfl) rfl rfl ?_
  refine tt_aload_n (q := 55) dX11_image_54 rfl rfl ?_
  refine tt_getI (q := 58) dX11_image_55 fl_X11_100 oi_0_12 (Nat.le_of_ble_eq_true rfl) rfl ?_
  refine tt_putI (q := 61) dX11_image_58 fl_X11_301 oi_87_4 (fp_3_4 _) (Nat.le_of_ble_eq_true rfl) rfl ?_
  replace h := h _ rfl
  refine tt_aload_n (q := 62) dX11_image_61 rfl rfl ?_
  refine tt_getR (q := 65) dX11_image_62 fl_X11_92 or_0_10 (Nat.le_of_ble_eq_true rfl) rfl rfl ?_
  refine tt_getR (q := 68) dX11_image_65 fl_X11_304 or_87_5 (Nat.le_of_ble_eq_true rfl) rfl rfl ?_
  refine tt_aload_n (q := 69) dX11_image_68 rfl rfl ?_
  refine tt_getR (q := 72) dX11_image_69 fl_X11_44 or_0_4 (Nat.le_of_ble_eq_true rfl) rfl rfl ?_
  refine callVvI_1 (q := 75) dX11_image_72 (⟨rfl, rfl, ⟨⟨_, _, rfl, rfl, (Nat.le_of_ble_eq_true rfl), rc_88⟩, Nat.le_of_ble_eq_true rfl, ?_⟩⟩) (Nat.le_of_ble_eq_true rfl) rfl (fun t7 ht7 => ht7)
  refine (show TT cX2_copy RX2 false CT0 CN0 _ _ _ none 0 [_, _, dum] [] _ _ from ?_)
  refine tt_aload_n (q := 1) dX2_copy_0 rfl rfl ?_
  refine tt_getR (q := 4) dX2_copy_1 fl_X2_11 or_61_0 (Nat.le_of_ble_eq_true rfl) rfl rfl ?_
  refine tt_iconst (q := 5) dX2_copy_4 ki_0 rfl ?_
  refine tt_aald (q := 6) dX2_copy_5 ig_62 (Nat.le_of_ble_eq_true rfl) rfl (Nat.le_of_ble_eq_true rfl : 0 < 2) rfl ?_
  refine tt_iconst (q := 7) dX2_copy_6 ki_0 rfl ?_
  refine tt_aload_n (q := 8) dX2_copy_7 rfl rfl ?_
  refine tt_getR (q := 11) dX2_copy_8 fl_X2_11 or_88_0 (Nat.le_of_ble_eq_true rfl) rfl rfl ?_
  refine tt_iconst (q := 12) dX2_copy_11 ki_0 rfl ?_
  refine tt_aald (q := 13) dX2_copy_12 ig_89 (Nat.le_of_ble_eq_true rfl) rfl (Nat.le_of_ble_eq_true rfl : 0 < 2) rfl ?_
  refine tt_iconst (q := 14) dX2_copy_13 ki_0 rfl ?_
  refine tt_bipush (q := 16) dX2_copy_14 bi_6 rfl ?_
  refine tt_copy (q := 19) dX2_copy_16 lcp_X2_27 (gi_62 _ (Nat.le_of_ble_eq_true rfl : 0 < 2)) (gi_89 _ (Nat.le_of_ble_eq_true rfl : 0 < 2)) (gl_62 _ (Nat.le_of_ble_eq_true rfl : 0 < 2)) (gl_89 _ (Nat.le_of_ble_eq_true rfl : 0 < 2)) rfl rfl rfl (by decide) (by decide) (Nat.le_of_ble_eq_true rfl) rfl ?_
  replace h := h _ rfl
  refine tt_aload_n (q := 20) dX2_copy_19 rfl rfl ?_
  refine tt_getR (q := 23) dX2_copy_20 fl_X2_11 or_61_0 (Nat.le_of_ble_eq_true rfl) rfl rfl ?_
  refine tt_iconst (q := 24) dX2_copy_23 ki_1 rfl ?_
  refine tt_aald (q := 25) dX2_copy_24 ig_62 (Nat.le_of_ble_eq_true rfl) rfl (Nat.le_of_ble_eq_true rfl : 1 < 2) rfl ?_
  refine tt_iconst (q := 26) dX2_copy_25 ki_0 rfl ?_
  refine tt_aload_n (q := 27) dX2_copy_26 rfl rfl ?_
  refine tt_getR (q := 30) dX2_copy_27 fl_X2_11 or_88_0 (Nat.le_of_ble_eq_true rfl) rfl rfl ?_
  refine tt_iconst (q := 31) dX2_copy_30 ki_1 rfl ?_
  refine tt_aald (q := 32) dX2_copy_31 ig_89 (Nat.le_of_ble_eq_true rfl) rfl (Nat.le_of_ble_eq_true rfl : 1 < 2) rfl ?_
  refine tt_iconst (q := 33) dX2_copy_32 ki_0 rfl ?_
  refine tt_bipush (q := 35) dX2_copy_33 bi_6 rfl ?_
  refine tt_copy (q := 38) dX2_copy_35 lcp_X2_27 (gi_62 _ (Nat.le_of_ble_eq_true rfl : 1 < 2)) (gi_89 _ (Nat.le_of_ble_eq_true rfl : 1 < 2)) (gl_62 _ (Nat.le_of_ble_eq_true rfl : 1 < 2)) (gl_89 _ (Nat.le_of_ble_eq_true rfl : 1 < 2)) rfl rfl rfl (by decide) (by decide) (Nat.le_of_ble_eq_true rfl) rfl ?_
  replace h := h _ rfl
  refine tt_iconst (q := 39) dX2_copy_38 ki_0 rfl ?_
  refine sti_n_2 (q := 40) dX2_copy_39 rfl rfl rfl ?_
  refine tt_iload_n (q := 41) dX2_copy_40 rfl rfl ?_
  refine tt_bipush (q := 43) dX2_copy_41 bi_6 rfl ?_
  refine tt_icmp_ge (q := 46) (t := 71) dX2_copy_43 rfl rfl (fun c => absurd c (by decide)) (fun c => ?_)
  clear c
  refine tt_aload_n (q := 47) dX2_copy_46 rfl rfl ?_
  refine tt_getR (q := 50) dX2_copy_47 fl_X2_16 or_61_1 (Nat.le_of_ble_eq_true rfl) rfl rfl ?_
  refine tt_iload_n (q := 51) dX2_copy_50 rfl rfl ?_
  refine tt_aald (q := 52) dX2_copy_51 ig_65 (Nat.le_of_ble_eq_true rfl) rfl (Nat.le_of_ble_eq_true rfl : 0 < 6) rfl ?_
  refine tt_iconst (q := 53) dX2_copy_52 ki_0 rfl ?_
  refine tt_aload_n (q := 54) dX2_copy_53 rfl rfl ?_
  refine tt_getR (q := 57) dX2_copy_54 fl_X2_16 or_88_1 (Nat.le_of_ble_eq_true rfl) rfl rfl ?_
  refine tt_iload_n (q := 58) dX2_copy_57 rfl rfl ?_
  refine tt_aald (q := 59) dX2_copy_58 ig_92 (Nat.le_of_ble_eq_true rfl) rfl (Nat.le_of_ble_eq_true rfl : 0 < 6) rfl ?_
  refine tt_iconst (q := 60) dX2_copy_59 ki_0 rfl ?_
  refine tt_bipush (q := 62) dX2_copy_60 bi_6 rfl ?_
  refine tt_copy (q := 65) dX2_copy_62 lcp_X2_27 (gi_65 _ (Nat.le_of_ble_eq_true rfl : 0 < 6)) (gi_92 _ (Nat.le_of_ble_eq_true rfl : 0 < 6)) (gl_65 _ (Nat.le_of_ble_eq_true rfl : 0 < 6)) (gl_92 _ (Nat.le_of_ble_eq_true rfl : 0 < 6)) rfl rfl rfl (by decide) (by decide) (Nat.le_of_ble_eq_true rfl) rfl ?_
  replace h := h _ rfl
  refine inc_2 (v := nI 1) (q := 68) dX2_copy_65 (by decide) rfl rfl ?_
  refine tt_goto (t := 40) dX2_copy_68 rfl ?_
  refine tt_iload_n (q := 41) dX2_copy_40 rfl rfl ?_
  refine tt_bipush (q := 43) dX2_copy_41 bi_6 rfl ?_
  refine tt_icmp_ge (q := 46) (t := 71) dX2_copy_43 rfl rfl (fun c => absurd c (by decide)) (fun c => ?_)
  clear c
  refine tt_aload_n (q := 47) dX2_copy_46 rfl rfl ?_
  refine tt_getR (q := 50) dX2_copy_47 fl_X2_16 or_61_1 (Nat.le_of_ble_eq_true rfl) rfl rfl ?_
  refine tt_iload_n (q := 51) dX2_copy_50 rfl rfl ?_
  refine tt_aald (q := 52) dX2_copy_51 ig_65 (Nat.le_of_ble_eq_true rfl) rfl (Nat.le_of_ble_eq_true rfl : 1 < 6) rfl ?_
  refine tt_iconst (q := 53) dX2_copy_52 ki_0 rfl ?_
  refine tt_aload_n (q := 54) dX2_copy_53 rfl rfl ?_
  refine tt_getR (q := 57) dX2_copy_54 fl_X2_16 or_88_1 (Nat.le_of_ble_eq_true rfl) rfl rfl ?_
  refine tt_iload_n (q := 58) dX2_copy_57 rfl rfl ?_
  refine tt_aald (q := 59) dX2_copy_58 ig_92 (Nat.le_of_ble_eq_true rfl) rfl (Nat.le_of_ble_eq_true rfl : 1 < 6) rfl ?_
  refine tt_iconst (q := 60) dX2_copy_59 ki_0 rfl ?_
  refine tt_bipush (q := 62) dX2_copy_60 bi_6 rfl ?_
  refine tt_copy (q := 65) dX2_copy_62 lcp_X2_27 (gi_65 _ (Nat.le_of_ble_eq_true rfl : 1 < 6)) (gi_92 _ (Nat.le_of_ble_eq_true rfl : 1 < 6)) (gl_65 _ (Nat.le_of_ble_eq_true rfl : 1 < 6)) (gl_92 _ (Nat.le_of_ble_eq_true rfl : 1 < 6)) rfl rfl rfl (by decide) (by decide) (Nat.le_of_ble_eq_true rfl) rfl ?_
  replace h := h _ rfl
  refine inc_2 (v := nI 2) (q := 68) dX2_copy_65 (by decide) rfl rfl ?_
  refine tt_goto (t := 40) dX2_copy_68 rfl ?_
  refine tt_iload_n (q := 41) dX2_copy_40 rfl rfl ?_
  refine tt_bipush (q := 43) dX2_copy_41 bi_6 rfl ?_
  refine tt_icmp_ge (q := 46) (t := 71) dX2_copy_43 rfl rfl (fun c => absurd c (by decide)) (fun c => ?_)
  clear c
  refine tt_aload_n (q := 47) dX2_copy_46 rfl rfl ?_
  refine tt_getR (q := 50) dX2_copy_47 fl_X2_16 or_61_1 (Nat.le_of_ble_eq_true rfl) rfl rfl ?_
  refine tt_iload_n (q := 51) dX2_copy_50 rfl rfl ?_
  refine tt_aald (q := 52) dX2_copy_51 ig_65 (Nat.le_of_ble_eq_true rfl) rfl (Nat.le_of_ble_eq_true rfl : 2 < 6) rfl ?_
  refine tt_iconst (q := 53) dX2_copy_52 ki_0 rfl ?_
  refine tt_aload_n (q := 54) dX2_copy_53 rfl rfl ?_
  refine tt_getR (q := 57) dX2_copy_54 fl_X2_16 or_88_1 (Nat.le_of_ble_eq_true rfl) rfl rfl ?_
  refine tt_iload_n (q := 58) dX2_copy_57 rfl rfl ?_
  refine tt_aald (q := 59) dX2_copy_58 ig_92 (Nat.le_of_ble_eq_true rfl) rfl (Nat.le_of_ble_eq_true rfl : 2 < 6) rfl ?_
  refine tt_iconst (q := 60) dX2_copy_59 ki_0 rfl ?_
  refine tt_bipush (q := 62) dX2_copy_60 bi_6 rfl ?_
  refine tt_copy (q := 65) dX2_copy_62 lcp_X2_27 (gi_65 _ (Nat.le_of_ble_eq_true rfl : 2 < 6)) (gi_92 _ (Nat.le_of_ble_eq_true rfl : 2 < 6)) (gl_65 _ (Nat.le_of_ble_eq_true rfl : 2 < 6)) (gl_92 _ (Nat.le_of_ble_eq_true rfl : 2 < 6)) rfl rfl rfl (by decide) (by decide) (Nat.le_of_ble_eq_true rfl) rfl ?_
  replace h := h _ rfl
  refine inc_2 (v := nI 3) (q := 68) dX2_copy_65 (by decide) rfl rfl ?_
  refine tt_goto (t := 40) dX2_copy_68 rfl ?_
  refine tt_iload_n (q := 41) dX2_copy_40 rfl rfl ?_
  refine tt_bipush (q := 43) dX2_copy_41 bi_6 rfl ?_
  refine tt_icmp_ge (q := 46) (t := 71) dX2_copy_43 rfl rfl (fun c => absurd c (by decide)) (fun c => ?_)
  clear c
  refine tt_aload_n (q := 47) dX2_copy_46 rfl rfl ?_
  refine tt_getR (q := 50) dX2_copy_47 fl_X2_16 or_61_1 (Nat.le_of_ble_eq_true rfl) rfl rfl ?_
  refine tt_iload_n (q := 51) dX2_copy_50 rfl rfl ?_
  refine tt_aald (q := 52) dX2_copy_51 ig_65 (Nat.le_of_ble_eq_true rfl) rfl (Nat.le_of_ble_eq_true rfl : 3 < 6) rfl ?_
  refine tt_iconst (q := 53) dX2_copy_52 ki_0 rfl ?_
  refine tt_aload_n (q := 54) dX2_copy_53 rfl rfl ?_
  refine tt_getR (q := 57) dX2_copy_54 fl_X2_16 or_88_1 (Nat.le_of_ble_eq_true rfl) rfl rfl ?_
  refine tt_iload_n (q := 58) dX2_copy_57 rfl rfl ?_
  refine tt_aald (q := 59) dX2_copy_58 ig_92 (Nat.le_of_ble_eq_true rfl) rfl (Nat.le_of_ble_eq_true rfl : 3 < 6) rfl ?_
  refine tt_iconst (q := 60) dX2_copy_59 ki_0 rfl ?_
  refine tt_bipush (q := 62) dX2_copy_60 bi_6 rfl ?_
  refine tt_copy (q := 65) dX2_copy_62 lcp_X2_27 (gi_65 _ (Nat.le_of_ble_eq_true rfl : 3 < 6)) (gi_92 _ (Nat.le_of_ble_eq_true rfl : 3 < 6)) (gl_65 _ (Nat.le_of_ble_eq_true rfl : 3 < 6)) (gl_92 _ (Nat.le_of_ble_eq_true rfl : 3 < 6)) rfl rfl rfl (by decide) (by decide) (Nat.le_of_ble_eq_true rfl) rfl ?_
  replace h := h _ rfl
  refine inc_2 (v := nI 4) (q := 68) dX2_copy_65 (by decide) rfl rfl ?_
  refine tt_goto (t := 40) dX2_copy_68 rfl ?_
  refine tt_iload_n (q := 41) dX2_copy_40 rfl rfl ?_
  refine tt_bipush (q := 43) dX2_copy_41 bi_6 rfl ?_
  refine tt_icmp_ge (q := 46) (t := 71) dX2_copy_43 rfl rfl (fun c => absurd c (by decide)) (fun c => ?_)
  clear c
  refine tt_aload_n (q := 47) dX2_copy_46 rfl rfl ?_
  refine tt_getR (q := 50) dX2_copy_47 fl_X2_16 or_61_1 (Nat.le_of_ble_eq_true rfl) rfl rfl ?_
  refine tt_iload_n (q := 51) dX2_copy_50 rfl rfl ?_
  refine tt_aald (q := 52) dX2_copy_51 ig_65 (Nat.le_of_ble_eq_true rfl) rfl (Nat.le_of_ble_eq_true rfl : 4 < 6) rfl ?_
  refine tt_iconst (q := 53) dX2_copy_52 ki_0 rfl ?_
  refine tt_aload_n (q := 54) dX2_copy_53 rfl rfl ?_
  refine tt_getR (q := 57) dX2_copy_54 fl_X2_16 or_88_1 (Nat.le_of_ble_eq_true rfl) rfl rfl ?_
  refine tt_iload_n (q := 58) dX2_copy_57 rfl rfl ?_
  refine tt_aald (q := 59) dX2_copy_58 ig_92 (Nat.le_of_ble_eq_true rfl) rfl (Nat.le_of_ble_eq_true rfl : 4 < 6) rfl ?_
  refine tt_iconst (q := 60) dX2_copy_59 ki_0 rfl ?_
  refine tt_bipush (q := 62) dX2_copy_60 bi_6 rfl ?_
  refine tt_copy (q := 65) dX2_copy_62 lcp_X2_27 (gi_65 _ (Nat.le_of_ble_eq_true rfl : 4 < 6)) (gi_92 _ (Nat.le_of_ble_eq_true rfl : 4 < 6)) (gl_65 _ (Nat.le_of_ble_eq_true rfl : 4 < 6)) (gl_92 _ (Nat.le_of_ble_eq_true rfl : 4 < 6)) rfl rfl rfl (by decide) (by decide) (Nat.le_of_ble_eq_true rfl) rfl ?_
  replace h := h _ rfl
  refine inc_2 (v := nI 5) (q := 68) dX2_copy_65 (by decide) rfl rfl ?_
  refine tt_goto (t := 40) dX2_copy_68 rfl ?_
  refine tt_iload_n (q := 41) dX2_copy_40 rfl rfl ?_
  refine tt_bipush (q := 43) dX2_copy_41 bi_6 rfl ?_
  refine tt_icmp_ge (q := 46) (t := 71) dX2_copy_43 rfl rfl (fun c => absurd c (by decide)) (fun c => ?_)
  clear c
  refine tt_aload_n (q := 47) dX2_copy_46 rfl rfl ?_
  refine tt_getR (q := 50) dX2_copy_47 fl_X2_16 or_61_1 (Nat.le_of_ble_eq_true rfl) rfl rfl ?_
  refine tt_iload_n (q := 51) dX2_copy_50 rfl rfl ?_
  refine tt_aald (q := 52) dX2_copy_51 ig_65 (Nat.le_of_ble_eq_true rfl) rfl (Nat.le_of_ble_eq_true rfl : 5 < 6) rfl ?_
  refine tt_iconst (q := 53) dX2_copy_52 ki_0 rfl ?_
  refine tt_aload_n (q := 54) dX2_copy_53 rfl rfl ?_
  refine tt_getR (q := 57) dX2_copy_54 fl_X2_16 or_88_1 (Nat.le_of_ble_eq_true rfl) rfl rfl ?_
  refine tt_iload_n (q := 58) dX2_copy_57 rfl rfl ?_
  refine tt_aald (q := 59) dX2_copy_58 ig_92 (Nat.le_of_ble_eq_true rfl) rfl (Nat.le_of_ble_eq_true rfl : 5 < 6) rfl ?_
  refine tt_iconst (q := 60) dX2_copy_59 ki_0 rfl ?_
  refine tt_bipush (q := 62) dX2_copy_60 bi_6 rfl ?_
  refine tt_copy (q := 65) dX2_copy_62 lcp_X2_27 (gi_65 _ (Nat.le_of_ble_eq_true rfl : 5 < 6)) (gi_92 _ (Nat.le_of_ble_eq_true rfl : 5 < 6)) (gl_65 _ (Nat.le_of_ble_eq_true rfl : 5 < 6)) (gl_92 _ (Nat.le_of_ble_eq_true rfl : 5 < 6)) rfl rfl rfl (by decide) (by decide) (Nat.le_of_ble_eq_true rfl) rfl ?_
  replace h := h _ rfl
  refine inc_2 (v := nI 6) (q := 68) dX2_copy_65 (by decide) rfl rfl ?_
  refine tt_goto (t := 40) dX2_copy_68 rfl ?_
  refine tt_iload_n (q := 41) dX2_copy_40 rfl rfl ?_
  refine tt_bipush (q := 43) dX2_copy_41 bi_6 rfl ?_
  refine tt_icmp_ge (q := 46) (t := 71) dX2_copy_43 rfl rfl (fun c => ?_) (fun c => absurd c (by decide))
  clear c
  refine tt_aload_n (q := 72) dX2_copy_71 rfl rfl ?_
  refine tt_getR (q := 75) dX2_copy_72 fl_X2_19 or_61_2 (Nat.le_of_ble_eq_true rfl) rfl rfl ?_
  refine tt_iconst (q := 76) dX2_copy_75 ki_0 rfl ?_
  refine tt_aload_n (q := 77) dX2_copy_76 rfl rfl ?_
  refine tt_getR (q := 80) dX2_copy_77 fl_X2_19 or_88_2 (Nat.le_of_ble_eq_true rfl) rfl rfl ?_
  refine tt_iconst (q := 81) dX2_copy_80 ki_0 rfl ?_
  refine tt_iconst (q := 82) dX2_copy_81 ki_2 rfl ?_
  refine tt_copy (q := 85) dX2_copy_82 lcp_X2_27 ia_72 ia_99 (Nat.le_of_ble_eq_true rfl) (Nat.le_of_ble_eq_true rfl) rfl rfl rfl (by decide) (by decide) (Nat.le_of_ble_eq_true rfl) rfl ?_
  replace h := h _ rfl
  refine tt_vret dX2_copy_85 ⟨rfl, rfl, ?_⟩
  refine tt_aload_n (q := 76) dX11_image_75 rfl rfl ?_
  refine tt_getR (q := 79) dX11_image_76 fl_X11_62 or_0_6 (Nat.le_of_ble_eq_true rfl) rfl rfl ?_
  refine tt_getR (q := 82) dX11_image_79 fl_X11_263 or_77_3 (Nat.le_of_ble_eq_true rfl) rfl rfl ?_
  refine tt_iconst (q := 83) dX11_image_82 ki_0 rfl ?_
  refine tt_aload_n (q := 84) dX11_image_83 rfl rfl ?_
  refine tt_getR (q := 87) dX11_image_84 fl_X11_92 or_0_10 (Nat.le_of_ble_eq_true rfl) rfl rfl ?_
  refine tt_getR (q := 90) dX11_image_87 fl_X11_309 or_87_6 (Nat.le_of_ble_eq_true rfl) rfl rfl ?_
  refine tt_iconst (q := 91) dX11_image_90 ki_0 rfl ?_
  refine tt_iconst (q := 92) dX11_image_91 ki_4 rfl ?_
  refine tt_copy (q := 95) dX11_image_92 lcp_X11_310 ia_80 ia_100 (Nat.le_of_ble_eq_true rfl) (Nat.le_of_ble_eq_true rfl) rfl rfl rfl (by decide) (by decide) (Nat.le_of_ble_eq_true rfl) rfl ?_
  replace h := h _ rfl
  refine tt_aload_n (q := 96) dX11_image_95 rfl rfl ?_
  refine tt_getR (q := 99) dX11_image_96 fl_X11_37 or_0_3 (Nat.le_of_ble_eq_true rfl) rfl rfl ?_
  refine tt_getI (q := 102) dX11_image_99 fl_X11_137 oi_36_0 (Nat.le_of_ble_eq_true rfl) rfl ?_
  exact tt_iret dX11_image_102 ⟨rfl, _, rfl, h⟩

theorem g_X11_on_0 {post : SG → Int32 → Prop} {σ : SG} (h : ((¬ (σ 87 0) = 0 → (∀ s4 : SG, s4 = up σ 7 0 (σ 87 1) → (∃ p7 : SG → Int32 → Prop, IN_X9_measure AF s4 [.ref 7] p7 ∧ ∀ t6 : SG, p7 t6 0 → (∀ s10 : SG, s10 = up t6 36 0 (t6 87 2) → (∀ s11 : SG, s11 = up s10 77 0 (s10 87 3) → (∀ s12 : SG, s12 = up s11 0 12 (s11 87 4) → (∀ s15 : SG, s15 = cpy s12 90 0 63 0 6 → (∀ s16 : SG, s16 = cpy s15 91 0 64 0 6 → (∀ s17 : SG, s17 = cpy s16 93 0 66 0 6 → (∀ s18 : SG, s18 = cpy s17 94 0 67 0 6 → (∀ s19 : SG, s19 = cpy s18 95 0 68 0 6 → (∀ s20 : SG, s20 = cpy s19 96 0 69 0 6 → (∀ s21 : SG, s21 = cpy s20 97 0 70 0 6 → (∀ s22 : SG, s22 = cpy s21 98 0 71 0 6 → (∀ s23 : SG, s23 = cpy s22 99 0 72 0 2 → (∀ s24 : SG, s24 = cpy s23 100 0 80 0 4 → post s24 (s24 36 0))))))))))))))))) ∧ ((σ 87 0) = 0 → (∀ s27 : SG, s27 = up σ 101 3 ((σ 101 3) + (nI 1)) → post s27 (-3 : Int32))))) : T_X11_on AF post 0 [.ref 0] [] σ := by
  refine tt_aload_n (q := 1) dX11_on_0 rfl rfl ?_
  refine tt_getR (q := 4) dX11_on_1 fl_X11_92 or_0_10 (Nat.le_of_ble_eq_true rfl) rfl rfl ?_
  refine tt_getI (q := 7) dX11_on_4 fl_X11_290 oi_87_0 (Nat.le_of_ble_eq_true rfl) rfl ?_
  refine tt_if_ne (q := 10) (t := 17) dX11_on_7 rfl rfl (fun c => ?_) (fun c => ?_)
  · replace h := h.1 c
    refine tt_aload_n (q := 18) dX11_on_17 rfl rfl ?_
    refine tt_getR (q := 21) dX11_on_18 fl_X11_28 or_0_2 (Nat.le_of_ble_eq_true rfl) rfl rfl ?_
    refine tt_aload_n (q := 22) dX11_on_21 rfl rfl ?_
    refine tt_getR (q := 25) dX11_on_22 fl_X11_92 or_0_10 (Nat.le_of_ble_eq_true rfl) rfl rfl ?_
    refine tt_getI (q := 28) dX11_on_25 fl_X11_294 oi_87_1 (Nat.le_of_ble_eq_true rfl) rfl ?_
    refine callVvI_1 (q := 31) dX11_on_28 (Or.inr (Or.inl ⟨rfl, rfl, ⟨⟨_, _, rfl, rfl, (Nat.le_of_ble_eq_true rfl), rc_7⟩, Nat.le_of_ble_eq_true rfl, ?_⟩⟩)) (Nat.le_of_ble_eq_true rfl) rfl (fun t3 ht3 => ht3)
    refine (show TT cX9_goBackTo RX9 false CT_X9_goBackTo CN0 _ _ _ none 0 [_, _] [] _ _ from ?_)
    refine tt_aload_n (q := 1) dX9_goBackTo_0 rfl rfl ?_
    refine tt_iload_n (q := 2) dX9_goBackTo_1 rfl rfl ?_
    refine tt_putI (q := 5) dX9_goBackTo_2 fl_X9_33 oi_7_0 (fp_9_0 _) (Nat.le_of_ble_eq_true rfl) rfl ?_
    replace h := h _ rfl
    refine tt_aload_n (q := 6) dX9_goBackTo_5 rfl rfl ?_
    obtain ⟨p7, hp8, h⟩ := h
    refine callVv_0 (q := 9) dX9_goBackTo_6 (⟨rfl, rfl, hp8⟩) (Nat.le_of_ble_eq_true rfl) rfl (fun t6 hr9 => ?_)
    replace h := h t6 hr9
    refine tt_vret dX9_goBackTo_9 ⟨rfl, rfl, ?_⟩
    refine tt_aload_n (q := 32) dX11_on_31 rfl rfl ?_
    refine tt_getR (q := 35) dX11_on_32 fl_X11_37 or_0_3 (Nat.le_of_ble_eq_true rfl) rfl rfl ?_
    refine tt_aload_n (q := 36) dX11_on_35 rfl rfl ?_
    refine tt_getR (q := 39) dX11_on_36 fl_X11_92 or_0_10 (Nat.le_of_ble_eq_true rfl) rfl rfl ?_
    refine tt_getI (q := 42) dX11_on_39 fl_X11_296 oi_87_2 (Nat.le_of_ble_eq_true rfl) rfl ?_
    refine tt_putI (q := 45) dX11_on_42 fl_X11_137 oi_36_0 (fp_5_0 _) (Nat.le_of_ble_eq_true rfl) rfl ?_
    replace h := h _ rfl
    refine tt_aload_n (q := 46) dX11_on_45 rfl rfl ?_
    refine tt_getR (q := 49) dX11_on_46 fl_X11_62 or_0_6 (Nat.le_of_ble_eq_true rfl) rfl rfl ?_
    refine tt_aload_n (q := 50) dX11_on_49 rfl rfl ?_
    refine tt_getR (q := 53) dX11_on_50 fl_X11_92 or_0_10 (Nat.le_of_ble_eq_true rfl) rfl rfl ?_
    refine tt_getI (q := 56) dX11_on_53 fl_X11_298 oi_87_3 (Nat.le_of_ble_eq_true rfl) rfl ?_
    refine tt_putI (q := 59) dX11_on_56 fl_X11_232 oi_77_0 (fp_10_0 _) (Nat.le_of_ble_eq_true rfl) rfl ?_
    replace h := h _ rfl
    refine tt_aload_n (q := 60) dX11_on_59 rfl rfl ?_
    refine tt_aload_n (q := 61) dX11_on_60 rfl rfl ?_
    refine tt_getR (q := 64) dX11_on_61 fl_X11_92 or_0_10 (Nat.le_of_ble_eq_true rfl) rfl rfl ?_
    refine tt_getI (q := 67) dX11_on_64 fl_X11_301 oi_87_4 (Nat.le_of_ble_eq_true rfl) rfl ?_
    refine tt_putI (q := 70) dX11_on_67 fl_X11_100 oi_0_12 (fp_11_12 _) (Nat.le_of_ble_eq_true rfl) rfl ?_
    replace h := h _ rfl
    refine tt_aload_n (q := 71) dX11_on_70 rfl rfl ?_
    refine tt_getR (q := 74) dX11_on_71 fl_X11_44 or_0_4 (Nat.le_of_ble_eq_true rfl) rfl rfl ?_
    refine tt_aload_n (q := 75) dX11_on_74 rfl rfl ?_
    refine tt_getR (q := 78) dX11_on_75 fl_X11_92 or_0_10 (Nat.le_of_ble_eq_true rfl) rfl rfl ?_
    refine tt_getR (q := 81) dX11_on_78 fl_X11_304 or_87_5 (Nat.le_of_ble_eq_true rfl) rfl rfl ?_
    refine callVvI_1 (q := 84) dX11_on_81 (Or.inr (Or.inr (⟨rfl, rfl, ⟨⟨_, _, rfl, rfl, (Nat.le_of_ble_eq_true rfl), rc_61⟩, Nat.le_of_ble_eq_true rfl, ?_⟩⟩))) (Nat.le_of_ble_eq_true rfl) rfl (fun t14 ht14 => ht14)
    refine (show TT cX2_copy RX2 false CT0 CN0 _ _ _ none 0 [_, _, dum] [] _ _ from ?_)
    refine tt_aload_n (q := 1) dX2_copy_0 rfl rfl ?_
    refine tt_getR (q := 4) dX2_copy_1 fl_X2_11 or_88_0 (Nat.le_of_ble_eq_true rfl) rfl rfl ?_
    refine tt_iconst (q := 5) dX2_copy_4 ki_0 rfl ?_
    refine tt_aald (q := 6) dX2_copy_5 ig_89 (Nat.le_of_ble_eq_true rfl) rfl (Nat.le_of_ble_eq_true rfl : 0 < 2) rfl ?_
    refine tt_iconst (q := 7) dX2_copy_6 ki_0 rfl ?_
    refine tt_aload_n (q := 8) dX2_copy_7 rfl rfl ?_
    refine tt_getR (q := 11) dX2_copy_8 fl_X2_11 or_61_0 (Nat.le_of_ble_eq_true rfl) rfl rfl ?_
    refine tt_iconst (q := 12) dX2_copy_11 ki_0 rfl ?_
    refine tt_aald (q := 13) dX2_copy_12 ig_62 (Nat.le_of_ble_eq_true rfl) rfl (Nat.le_of_ble_eq_true rfl : 0 < 2) rfl ?_
    refine tt_iconst (q := 14) dX2_copy_13 ki_0 rfl ?_
    refine tt_bipush (q := 16) dX2_copy_14 bi_6 rfl ?_
    refine tt_copy (q := 19) dX2_copy_16 lcp_X2_27 (gi_89 _ (Nat.le_of_ble_eq_true rfl : 0 < 2)) (gi_62 _ (Nat.le_of_ble_eq_true rfl : 0 < 2)) (gl_89 _ (Nat.le_of_ble_eq_true rfl : 0 < 2)) (gl_62 _ (Nat.le_of_ble_eq_true rfl : 0 < 2)) rfl rfl rfl (by decide) (by decide) (Nat.le_of_ble_eq_true rfl) rfl ?_
    replace h := h _ rfl
    refine tt_aload_n (q := 20) dX2_copy_19 rfl rfl ?_
    refine tt_getR (q := 23) dX2_copy_20 fl_X2_11 or_88_0 (Nat.le_of_ble_eq_true rfl) rfl rfl ?_
    refine tt_iconst (q := 24) dX2_copy_23 ki_1 rfl ?_
    refine tt_aald (q := 25) dX2_copy_24 ig_89 (Nat.le_of_ble_eq_true rfl) rfl (Nat.le_of_ble_eq_true rfl : 1 < 2) rfl ?_
    refine tt_iconst (q := 26) dX2_copy_25 ki_0 rfl ?_
    refine tt_aload_n (q := 27) dX2_copy_26 rfl rfl ?_
    refine tt_getR (q := 30) dX2_copy_27 fl_X2_11 or_61_0 (Nat.le_of_ble_eq_true rfl) rfl rfl ?_
    refine tt_iconst (q := 31) dX2_copy_30 ki_1 rfl ?_
    refine tt_aald (q := 32) dX2_copy_31 ig_62 (Nat.le_of_ble_eq_true rfl) rfl (Nat.le_of_ble_eq_true rfl : 1 < 2) rfl ?_
    refine tt_iconst (q := 33) dX2_copy_32 ki_0 rfl ?_
    refine tt_bipush (q := 35) dX2_copy_33 bi_6 rfl ?_
    refine tt_copy (q := 38) dX2_copy_35 lcp_X2_27 (gi_89 _ (Nat.le_of_ble_eq_true rfl : 1 < 2)) (gi_62 _ (Nat.le_of_ble_eq_true rfl : 1 < 2)) (gl_89 _ (Nat.le_of_ble_eq_true rfl : 1 < 2)) (gl_62 _ (Nat.le_of_ble_eq_true rfl : 1 < 2)) rfl rfl rfl (by decide) (by decide) (Nat.le_of_ble_eq_true rfl) rfl ?_
    replace h := h _ rfl
    refine tt_iconst (q := 39) dX2_copy_38 ki_0 rfl ?_
    refine sti_n_2 (q := 40) dX2_copy_39 rfl rfl rfl ?_
    refine tt_iload_n (q := 41) dX2_copy_40 rfl rfl ?_
    refine tt_bipush (q := 43) dX2_copy_41 bi_6 rfl ?_
    refine tt_icmp_ge (q := 46) (t := 71) dX2_copy_43 rfl rfl (fun c => absurd c (by decide)) (fun c => ?_)
    clear c
    refine tt_aload_n (q := 47) dX2_copy_46 rfl rfl ?_
    refine tt_getR (q := 50) dX2_copy_47 fl_X2_16 or_88_1 (Nat.le_of_ble_eq_true rfl) rfl rfl ?_
    refine tt_iload_n (q := 51) dX2_copy_50 rfl rfl ?_
    refine tt_aald (q := 52) dX2_copy_51 ig_92 (Nat.le_of_ble_eq_true rfl) rfl (Nat.le_of_ble_eq_true rfl : 0 < 6) rfl ?_
    refine tt_iconst (q := 53) dX2_copy_52 ki_0 rfl ?_
    refine tt_aload_n (q := 54) dX2_copy_53 rfl rfl ?_
    refine tt_getR (q := 57) dX2_copy_54 fl_X2_16 or_61_1 (Nat.le_of_ble_eq_true rfl) rfl rfl ?_
    refine tt_iload_n (q := 58) dX2_copy_57 rfl rfl ?_
    refine tt_aald (q := 59) dX2_copy_58 ig_65 (Nat.le_of_ble_eq_true rfl) rfl (Nat.le_of_ble_eq_true rfl : 0 < 6) rfl ?_
    refine tt_iconst (q := 60) dX2_copy_59 ki_0 rfl ?_
    refine tt_bipush (q := 62) dX2_copy_60 bi_6 rfl ?_
    refine tt_copy (q := 65) dX2_copy_62 lcp_X2_27 (gi_92 _ (Nat.le_of_ble_eq_true rfl : 0 < 6)) (gi_65 _ (Nat.le_of_ble_eq_true rfl : 0 < 6)) (gl_92 _ (Nat.le_of_ble_eq_true rfl : 0 < 6)) (gl_65 _ (Nat.le_of_ble_eq_true rfl : 0 < 6)) rfl rfl rfl (by decide) (by decide) (Nat.le_of_ble_eq_true rfl) rfl ?_
    replace h := h _ rfl
    refine inc_2 (v := nI 1) (q := 68) dX2_copy_65 (by decide) rfl rfl ?_
    refine tt_goto (t := 40) dX2_copy_68 rfl ?_
    refine tt_iload_n (q := 41) dX2_copy_40 rfl rfl ?_
    refine tt_bipush (q := 43) dX2_copy_41 bi_6 rfl ?_
    refine tt_icmp_ge (q := 46) (t := 71) dX2_copy_43 rfl rfl (fun c => absurd c (by decide)) (fun c => ?_)
    clear c
    refine tt_aload_n (q := 47) dX2_copy_46 rfl rfl ?_
    refine tt_getR (q := 50) dX2_copy_47 fl_X2_16 or_88_1 (Nat.le_of_ble_eq_true rfl) rfl rfl ?_
    refine tt_iload_n (q := 51) dX2_copy_50 rfl rfl ?_
    refine tt_aald (q := 52) dX2_copy_51 ig_92 (Nat.le_of_ble_eq_true rfl) rfl (Nat.le_of_ble_eq_true rfl : 1 < 6) rfl ?_
    refine tt_iconst (q := 53) dX2_copy_52 ki_0 rfl ?_
    refine tt_aload_n (q := 54) dX2_copy_53 rfl rfl ?_
    refine tt_getR (q := 57) dX2_copy_54 fl_X2_16 or_61_1 (Nat.le_of_ble_eq_true rfl) rfl rfl ?_
    refine tt_iload_n (q := 58) dX2_copy_57 rfl rfl ?_
    refine tt_aald (q := 59) dX2_copy_58 ig_65 (Nat.le_of_ble_eq_true rfl) rfl (Nat.le_of_ble_eq_true rfl : 1 < 6) rfl ?_
    refine tt_iconst (q := 60) dX2_copy_59 ki_0 rfl ?_
    refine tt_bipush (q := 62) dX2_copy_60 bi_6 rfl ?_
    refine tt_copy (q := 65) dX2_copy_62 lcp_X2_27 (gi_92 _ (Nat.le_of_ble_eq_true rfl : 1 < 6)) (gi_65 _ (Nat.le_of_ble_eq_true rfl : 1 < 6)) (gl_92 _ (Nat.le_of_ble_eq_true rfl : 1 < 6)) (gl_65 _ (Nat.le_of_ble_eq_true rfl : 1 < 6)) rfl rfl rfl (by decide) (by decide) (Nat.le_of_ble_eq_true rfl) rfl ?_
    replace h := h _ rfl
    refine inc_2 (v := nI 2) (q := 68) dX2_copy_65 (by decide) rfl rfl ?_
    refine tt_goto (t := 40) dX2_copy_68 rfl ?_
    refine tt_iload_n (q := 41) dX2_copy_40 rfl rfl ?_
    refine tt_bipush (q := 43) dX2_copy_41 bi_6 rfl ?_
    refine tt_icmp_ge (q := 46) (t := 71) dX2_copy_43 rfl rfl (fun c => absurd c (by decide)) (fun c => ?_)
    clear c
    refine tt_aload_n (q := 47) dX2_copy_46 rfl rfl ?_
    refine tt_getR (q := 50) dX2_copy_47 fl_X2_16 or_88_1 (Nat.le_of_ble_eq_true rfl) rfl rfl ?_
    refine tt_iload_n (q := 51) dX2_copy_50 rfl rfl ?_
    refine tt_aald (q := 52) dX2_copy_51 ig_92 (Nat.le_of_ble_eq_true rfl) rfl (Nat.le_of_ble_eq_true rfl : 2 < 6) rfl ?_
    refine tt_iconst (q := 53) dX2_copy_52 ki_0 rfl ?_
    refine tt_aload_n (q := 54) dX2_copy_53 rfl rfl ?_
    refine tt_getR (q := 57) dX2_copy_54 fl_X2_16 or_61_1 (Nat.le_of_ble_eq_true rfl) rfl rfl ?_
    refine tt_iload_n (q := 58) dX2_copy_57 rfl rfl ?_
    refine tt_aald (q := 59) dX2_copy_58 ig_65 (Nat.le_of_ble_eq_true rfl) rfl (Nat.le_of_ble_eq_true rfl : 2 < 6) rfl ?_
    refine tt_iconst (q := 60) dX2_copy_59 ki_0 rfl ?_
    refine tt_bipush (q := 62) dX2_copy_60 bi_6 rfl ?_
    refine tt_copy (q := 65) dX2_copy_62 lcp_X2_27 (gi_92 _ (Nat.le_of_ble_eq_true rfl : 2 < 6)) (gi_65 _ (Nat.le_of_ble_eq_true rfl : 2 < 6)) (gl_92 _ (Nat.le_of_ble_eq_true rfl : 2 < 6)) (gl_65 _ (Nat.le_of_ble_eq_true rfl : 2 < 6)) rfl rfl rfl (by decide) (by decide) (Nat.le_of_ble_eq_true rfl) rfl ?_
    replace h := h _ rfl
    refine inc_2 (v := nI 3) (q := 68) dX2_copy_65 (by decide) rfl rfl ?_
    refine tt_goto (t := 40) dX2_copy_68 rfl ?_
    refine tt_iload_n (q := 41) dX2_copy_40 rfl rfl ?_
    refine tt_bipush (q := 43) dX2_copy_41 bi_6 rfl ?_
    refine tt_icmp_ge (q := 46) (t := 71) dX2_copy_43 rfl rfl (fun c => absurd c (by decide)) (fun c => ?_)
    clear c
    refine tt_aload_n (q := 47) dX2_copy_46 rfl rfl ?_
    refine tt_getR (q := 50) dX2_copy_47 fl_X2_16 or_88_1 (Nat.le_of_ble_eq_true rfl) rfl rfl ?_
    refine tt_iload_n (q := 51) dX2_copy_50 rfl rfl ?_
    refine tt_aald (q := 52) dX2_copy_51 ig_92 (Nat.le_of_ble_eq_true rfl) rfl (Nat.le_of_ble_eq_true rfl : 3 < 6) rfl ?_
    refine tt_iconst (q := 53) dX2_copy_52 ki_0 rfl ?_
    refine tt_aload_n (q := 54) dX2_copy_53 rfl rfl ?_
    refine tt_getR (q := 57) dX2_copy_54 fl_X2_16 or_61_1 (Nat.le_of_ble_eq_true rfl) rfl rfl ?_
    refine tt_iload_n (q := 58) dX2_copy_57 rfl rfl ?_
    refine tt_aald (q := 59) dX2_copy_58 ig_65 (Nat.le_of_ble_eq_true rfl) rfl (Nat.le_of_ble_eq_true rfl : 3 < 6) rfl ?_
    refine tt_iconst (q := 60) dX2_copy_59 ki_0 rfl ?_
    refine tt_bipush (q := 62) dX2_copy_60 bi_6 rfl ?_
    refine tt_copy (q := 65) dX2_copy_62 lcp_X2_27 (gi_92 _ (Nat.le_of_ble_eq_true rfl : 3 < 6)) (gi_65 _ (Nat.le_of_ble_eq_true rfl : 3 < 6)) (gl_92 _ (Nat.le_of_ble_eq_true rfl : 3 < 6)) (gl_65 _ (Nat.le_of_ble_eq_true rfl : 3 < 6)) rfl rfl rfl (by decide) (by decide) (Nat.le_of_ble_eq_true rfl) rfl ?_
    replace h := h _ rfl
    refine inc_2 (v := nI 4) (q := 68) dX2_copy_65 (by decide) rfl rfl ?_
    refine tt_goto (t := 40) dX2_copy_68 rfl ?_
    refine tt_iload_n (q := 41) dX2_copy_40 rfl rfl ?_
    refine tt_bipush (q := 43) dX2_copy_41 bi_6 rfl ?_
    refine tt_icmp_ge (q := 46) (t := 71) dX2_copy_43 rfl rfl (fun c => absurd c (by decide)) (fun c => ?_)
    clear c
    refine tt_aload_n (q := 47) dX2_copy_46 rfl rfl ?_
    refine tt_getR (q := 50) dX2_copy_47 fl_X2_16 or_88_1 (Nat.le_of_ble_eq_true rfl) rfl rfl ?_
    refine tt_iload_n (q := 51) dX2_copy_50 rfl rfl ?_
    refine tt_aald (q := 52) dX2_copy_51 ig_92 (Nat.le_of_ble_eq_true rfl) rfl (Nat.le_of_ble_eq_true rfl : 4 < 6) rfl ?_
    refine tt_iconst (q := 53) dX2_copy_52 ki_0 rfl ?_
    refine tt_aload_n (q := 54) dX2_copy_53 rfl rfl ?_
    refine tt_getR (q := 57) dX2_copy_54 fl_X2_16 or_61_1 (Nat.le_of_ble_eq_true rfl) rfl rfl ?_
    refine tt_iload_n (q := 58) dX2_copy_57 rfl rfl ?_
    refine tt_aald (q := 59) dX2_copy_58 ig_65 (Nat.le_of_ble_eq_true rfl) rfl (Nat.le_of_ble_eq_true rfl : 4 < 6) rfl ?_
    refine tt_iconst (q := 60) dX2_copy_59 ki_0 rfl ?_
    refine tt_bipush (q := 62) dX2_copy_60 bi_6 rfl ?_
    refine tt_copy (q := 65) dX2_copy_62 lcp_X2_27 (gi_92 _ (Nat.le_of_ble_eq_true rfl : 4 < 6)) (gi_65 _ (Nat.le_of_ble_eq_true rfl : 4 < 6)) (gl_92 _ (Nat.le_of_ble_eq_true rfl : 4 < 6)) (gl_65 _ (Nat.le_of_ble_eq_true rfl : 4 < 6)) rfl rfl rfl (by decide) (by decide) (Nat.le_of_ble_eq_true rfl) rfl ?_
    replace h := h _ rfl
    refine inc_2 (v := nI 5) (q := 68) dX2_copy_65 (by decide) rfl rfl ?_
    refine tt_goto (t := 40) dX2_copy_68 rfl ?_
    refine tt_iload_n (q := 41) dX2_copy_40 rfl rfl ?_
    refine tt_bipush (q := 43) dX2_copy_41 bi_6 rfl ?_
    refine tt_icmp_ge (q := 46) (t := 71) dX2_copy_43 rfl rfl (fun c => absurd c (by decide)) (fun c => ?_)
    clear c
    refine tt_aload_n (q := 47) dX2_copy_46 rfl rfl ?_
    refine tt_getR (q := 50) dX2_copy_47 fl_X2_16 or_88_1 (Nat.le_of_ble_eq_true rfl) rfl rfl ?_
    refine tt_iload_n (q := 51) dX2_copy_50 rfl rfl ?_
    refine tt_aald (q := 52) dX2_copy_51 ig_92 (Nat.le_of_ble_eq_true rfl) rfl (Nat.le_of_ble_eq_true rfl : 5 < 6) rfl ?_
    refine tt_iconst (q := 53) dX2_copy_52 ki_0 rfl ?_
    refine tt_aload_n (q := 54) dX2_copy_53 rfl rfl ?_
    refine tt_getR (q := 57) dX2_copy_54 fl_X2_16 or_61_1 (Nat.le_of_ble_eq_true rfl) rfl rfl ?_
    refine tt_iload_n (q := 58) dX2_copy_57 rfl rfl ?_
    refine tt_aald (q := 59) dX2_copy_58 ig_65 (Nat.le_of_ble_eq_true rfl) rfl (Nat.le_of_ble_eq_true rfl : 5 < 6) rfl ?_
    refine tt_iconst (q := 60) dX2_copy_59 ki_0 rfl ?_
    refine tt_bipush (q := 62) dX2_copy_60 bi_6 rfl ?_
    refine tt_copy (q := 65) dX2_copy_62 lcp_X2_27 (gi_92 _ (Nat.le_of_ble_eq_true rfl : 5 < 6)) (gi_65 _ (Nat.le_of_ble_eq_true rfl : 5 < 6)) (gl_92 _ (Nat.le_of_ble_eq_true rfl : 5 < 6)) (gl_65 _ (Nat.le_of_ble_eq_true rfl : 5 < 6)) rfl rfl rfl (by decide) (by decide) (Nat.le_of_ble_eq_true rfl) rfl ?_
    replace h := h _ rfl
    refine inc_2 (v := nI 6) (q := 68) dX2_copy_65 (by decide) rfl rfl ?_
    refine tt_goto (t := 40) dX2_copy_68 rfl ?_
    refine tt_iload_n (q := 41) dX2_copy_40 rfl rfl ?_
    refine tt_bipush (q := 43) dX2_copy_41 bi_6 rfl ?_
    refine tt_icmp_ge (q := 46) (t := 71) dX2_copy_43 rfl rfl (fun c => ?_) (fun c => absurd c (by decide))
    clear c
    refine tt_aload_n (q := 72) dX2_copy_71 rfl rfl ?_
    refine tt_getR (q := 75) dX2_copy_72 fl_X2_19 or_88_2 (Nat.le_of_ble_eq_true rfl) rfl rfl ?_
    refine tt_iconst (q := 76) dX2_copy_75 ki_0 rfl ?_
    refine tt_aload_n (q := 77) dX2_copy_76 rfl rfl ?_
    refine tt_getR (q := 80) dX2_copy_77 fl_X2_19 or_61_2 (Nat.le_of_ble_eq_true rfl) rfl rfl ?_
    refine tt_iconst (q := 81) dX2_copy_80 ki_0 rfl ?_
    refine tt_iconst (q := 82) dX2_copy_81 ki_2 rfl ?_
    refine tt_copy (q := 85) dX2_copy_82 lcp_X2_27 ia_99 ia_72 (Nat.le_of_ble_eq_true rfl) (Nat.le_of_ble_eq_true rfl) rfl rfl rfl (by decide) (by decide) (Nat.le_of_ble_eq_true rfl) rfl ?_
    replace h := h _ rfl
    refine tt_vret dX2_copy_85 ⟨rfl, rfl, ?_⟩
    refine tt_aload_n (q := 85) dX11_on_84 rfl rfl ?_
    refine tt_getR (q := 88) dX11_on_85 fl_X11_92 or_0_10 (Nat.le_of_ble_eq_true rfl) rfl rfl ?_
    refine tt_getR (q := 91) dX11_on_88 fl_X11_309 or_87_6 (Nat.le_of_ble_eq_true rfl) rfl rfl ?_
    refine tt_iconst (q := 92) dX11_on_91 ki_0 rfl ?_
    refine tt_aload_n (q := 93) dX11_on_92 rfl rfl ?_
    refine tt_getR (q := 96) dX11_on_93 fl_X11_62 or_0_6 (Nat.le_of_ble_eq_true rfl) rfl rfl ?_
    refine tt_getR (q := 99) dX11_on_96 fl_X11_263 or_77_3 (Nat.le_of_ble_eq_true rfl) rfl rfl ?_
    refine tt_iconst (q := 100) dX11_on_99 ki_0 rfl ?_
    refine tt_iconst (q := 101) dX11_on_100 ki_4 rfl ?_
    refine tt_copy (q := 104) dX11_on_101 lcp_X11_310 ia_100 ia_80 (Nat.le_of_ble_eq_true rfl) (Nat.le_of_ble_eq_true rfl) rfl rfl rfl (by decide) (by decide) (Nat.le_of_ble_eq_true rfl) rfl ?_
    replace h := h _ rfl
    refine tt_aload_n (q := 105) dX11_on_104 rfl rfl ?_
    refine tt_getR (q := 108) dX11_on_105 fl_X11_37 or_0_3 (Nat.le_of_ble_eq_true rfl) rfl rfl ?_
    refine tt_getI (q := 111) dX11_on_108 fl_X11_137 oi_36_0 (Nat.le_of_ble_eq_true rfl) rfl ?_
    exact tt_iret dX11_on_111 ⟨rfl, _, rfl, h⟩
  · replace h := h.2 c
    refine tt_aload_n (q := 11) dX11_on_10 rfl rfl ?_
    refine tt_bipush (q := 13) dX11_on_11 bi_m3 rfl ?_
    refine callVi_1 (q := 16) dX11_on_13 (Or.inl ⟨rfl, rfl, ⟨⟨_, _, rfl, rfl, (Nat.le_of_ble_eq_true rfl), rc_0⟩, Nat.le_of_ble_eq_true rfl, ?_⟩⟩) (Nat.le_of_ble_eq_true rfl) rfl (fun t26 r25 ht26 => ht26)
    refine (show TT cX11_refuse RX11 false CT0 CN0 _ _ _ none 0 [_, _, dum] [] _ _ from ?_)
    refine tt_iload_n (q := 1) dX11_refuse_0 rfl rfl ?_
    refine tt_inegE (v := nI 3) (q := 2) dX11_refuse_1 (by decide) rfl ?_
    refine sti_n_2 (q := 3) dX11_refuse_2 rfl rfl rfl ?_
    refine tt_iload_n (q := 4) dX11_refuse_3 rfl rfl ?_
    refine tt_if_le (q := 7) (t := 23) dX11_refuse_4 rfl rfl (fun c => absurd c (by decide)) (fun c => ?_)
    clear c
    refine tt_iload_n (q := 8) dX11_refuse_7 rfl rfl ?_
    refine tt_bipush (q := 10) dX11_refuse_8 bi_6 rfl ?_
    refine tt_icmp_gt (q := 13) (t := 23) dX11_refuse_10 rfl rfl (fun c => absurd c (by decide)) (fun c => ?_)
    clear c
    refine tt_aload_n (q := 14) dX11_refuse_13 rfl rfl ?_
    refine tt_getR (q := 17) dX11_refuse_14 fl_X11_96 or_0_11 (Nat.le_of_ble_eq_true rfl) rfl rfl ?_
    refine tt_iload_n (q := 18) dX11_refuse_17 rfl rfl ?_
    refine tt_dup2 (q := 19) dX11_refuse_18 rfl rfl rfl ?_
    refine tt_iald (q := 20) dX11_refuse_19 ia_101 (Nat.le_of_ble_eq_true rfl) rfl (Nat.le_of_ble_eq_true rfl : 3 < 7) rfl ?_
    refine tt_iconst (q := 21) dX11_refuse_20 ki_1 rfl ?_
    refine tt_iadd (q := 22) dX11_refuse_21 rfl ?_
    refine tt_iast (q := 23) dX11_refuse_22 ia_101 (Nat.le_of_ble_eq_true rfl) rfl (Nat.le_of_ble_eq_true rfl : 3 < 7) rfl ?_
    replace h := h _ rfl
    refine tt_iload_n (q := 24) dX11_refuse_23 rfl rfl ?_
    refine tt_iret dX11_refuse_24 ⟨rfl, _, rfl, ?_⟩
    exact tt_iret dX11_on_16 ⟨rfl, _, rfl, h⟩

theorem g_X11_count_0 {post : SG → Int32 → Prop} {σ : SG} {a : Int32} (h : ((a = nI 0 → post σ (σ 7 0)) ∧ (a = nI 1 → post σ (σ 36 0)) ∧ (a = nI 2 → post σ (σ 77 0)) ∧ (a = nI 3 → (∃ j2 : Nat, (σ 0 12) = nI j2 ∧ j2 < 720 ∧ (∃ p6 : SG → Int32 → Prop, IN_J6_bitCount_0f7a4 AF σ [.int (σ 5 j2)] p6 ∧ ∀ (t5 : SG) (r4 : Int32), p6 t5 r4 → post t5 r4))) ∧ (a = nI 4 → post σ (σ 83 0)) ∧ (a = nI 5 → post σ (σ 85 0)) ∧ (a = nI 6 → post σ (σ 1 1)) ∧ ((¬ a = nI 0 ∧ ¬ a = nI 1 ∧ ¬ a = nI 2 ∧ ¬ a = nI 3 ∧ ¬ a = nI 4 ∧ ¬ a = nI 5 ∧ ¬ a = nI 6) → ((a ≤ (nI 10) → post σ (-9 : Int32)) ∧ (¬ a ≤ (nI 10) → (((nI 16) < a → post σ (-9 : Int32)) ∧ (¬ (nI 16) < a → (∃ j12 : Nat, (a - (nI 10)) = nI j12 ∧ j12 < 7 ∧ post σ (σ 101 j12))))))))) : T_X11_count AF post 0 [.ref 0, .int a] [] σ := by
  refine tt_iload_n (q := 1) dX11_count_0 rfl rfl ?_
  by_cases c0 : a = nI 0
  · replace h := h.1 c0
    refine tt_tswI (t := 44) (off := 43) dX11_count_1 (by rw [c0]; decide) (by rw [c0]; decide) (by rw [c0]; decide) rfl ?_
    refine tt_aload_n (q := 45) dX11_count_44 rfl rfl ?_
    refine tt_getR (q := 48) dX11_count_45 fl_X11_28 or_0_2 (Nat.le_of_ble_eq_true rfl) rfl rfl ?_
    refine tt_getI (q := 51) dX11_count_48 fl_X11_119 oi_7_0 (Nat.le_of_ble_eq_true rfl) rfl ?_
    exact tt_iret dX11_count_51 ⟨rfl, _, rfl, h⟩
  by_cases c1 : a = nI 1
  · replace h := h.2.1 c1
    refine tt_tswI (t := 52) (off := 51) dX11_count_1 (by rw [c1]; decide) (by rw [c1]; decide) (by rw [c1]; decide) rfl ?_
    refine tt_aload_n (q := 53) dX11_count_52 rfl rfl ?_
    refine tt_getR (q := 56) dX11_count_53 fl_X11_37 or_0_3 (Nat.le_of_ble_eq_true rfl) rfl rfl ?_
    refine tt_getI (q := 59) dX11_count_56 fl_X11_137 oi_36_0 (Nat.le_of_ble_eq_true rfl) rfl ?_
    exact tt_iret dX11_count_59 ⟨rfl, _, rfl, h⟩
  by_cases c2 : a = nI 2
  · replace h := h.2.2.1 c2
    refine tt_tswI (t := 60) (off := 59) dX11_count_1 (by rw [c2]; decide) (by rw [c2]; decide) (by rw [c2]; decide) rfl ?_
    refine tt_aload_n (q := 61) dX11_count_60 rfl rfl ?_
    refine tt_getR (q := 64) dX11_count_61 fl_X11_62 or_0_6 (Nat.le_of_ble_eq_true rfl) rfl rfl ?_
    refine tt_getI (q := 67) dX11_count_64 fl_X11_232 oi_77_0 (Nat.le_of_ble_eq_true rfl) rfl ?_
    exact tt_iret dX11_count_67 ⟨rfl, _, rfl, h⟩
  by_cases c3 : a = nI 3
  · replace h := h.2.2.2.1 c3
    refine tt_tswI (t := 68) (off := 67) dX11_count_1 (by rw [c3]; decide) (by rw [c3]; decide) (by rw [c3]; decide) rfl ?_
    refine tt_aload_n (q := 69) dX11_count_68 rfl rfl ?_
    refine tt_getR (q := 72) dX11_count_69 fl_X11_19 or_0_1 (Nat.le_of_ble_eq_true rfl) rfl rfl ?_
    refine tt_getR (q := 75) dX11_count_72 fl_X11_173 or_3_1 (Nat.le_of_ble_eq_true rfl) rfl rfl ?_
    refine tt_aload_n (q := 76) dX11_count_75 rfl rfl ?_
    refine tt_getI (q := 79) dX11_count_76 fl_X11_100 oi_0_12 (Nat.le_of_ble_eq_true rfl) rfl ?_
    obtain ⟨j2, e3, l1, h⟩ := h
    refine tt_iald (q := 80) dX11_count_79 ia_5 (Nat.le_of_ble_eq_true rfl) e3 l1 rfl ?_
    obtain ⟨p6, hp7, h⟩ := h
    refine callSi_1 (q := 83) dX11_count_80 (⟨rfl, rfl, hp7⟩) (Nat.le_of_ble_eq_true rfl) rfl (fun t5 r4 hr8 => ?_)
    replace h := h t5 r4 hr8
    exact tt_iret dX11_count_83 ⟨rfl, _, rfl, h⟩
  by_cases c4 : a = nI 4
  · replace h := h.2.2.2.2.1 c4
    refine tt_tswI (t := 84) (off := 83) dX11_count_1 (by rw [c4]; decide) (by rw [c4]; decide) (by rw [c4]; decide) rfl ?_
    refine tt_aload_n (q := 85) dX11_count_84 rfl rfl ?_
    refine tt_getR (q := 88) dX11_count_85 fl_X11_76 or_0_8 (Nat.le_of_ble_eq_true rfl) rfl rfl ?_
    refine tt_getI (q := 91) dX11_count_88 fl_X11_273 oi_83_0 (Nat.le_of_ble_eq_true rfl) rfl ?_
    exact tt_iret dX11_count_91 ⟨rfl, _, rfl, h⟩
  by_cases c5 : a = nI 5
  · replace h := h.2.2.2.2.2.1 c5
    refine tt_tswI (t := 92) (off := 91) dX11_count_1 (by rw [c5]; decide) (by rw [c5]; decide) (by rw [c5]; decide) rfl ?_
    refine tt_aload_n (q := 93) dX11_count_92 rfl rfl ?_
    refine tt_getR (q := 96) dX11_count_93 fl_X11_85 or_0_9 (Nat.le_of_ble_eq_true rfl) rfl rfl ?_
    refine tt_getI (q := 99) dX11_count_96 fl_X11_282 oi_85_0 (Nat.le_of_ble_eq_true rfl) rfl ?_
    exact tt_iret dX11_count_99 ⟨rfl, _, rfl, h⟩
  by_cases c6 : a = nI 6
  · replace h := h.2.2.2.2.2.2.1 c6
    refine tt_tswI (t := 100) (off := 99) dX11_count_1 (by rw [c6]; decide) (by rw [c6]; decide) (by rw [c6]; decide) rfl ?_
    refine tt_aload_n (q := 101) dX11_count_100 rfl rfl ?_
    refine tt_getR (q := 104) dX11_count_101 fl_X11_12 or_0_0 (Nat.le_of_ble_eq_true rfl) rfl rfl ?_
    refine tt_getI (q := 107) dX11_count_104 fl_X11_112 oi_1_1 (Nat.le_of_ble_eq_true rfl) rfl ?_
    exact tt_iret dX11_count_107 ⟨rfl, _, rfl, h⟩
  replace h := h.2.2.2.2.2.2.2 ⟨c0, c1, c2, c3, c4, c5, c6⟩
  refine tt_tswO (t := 108) dX11_count_1 (tsw_out_6 ⟨c0, c1, c2, c3, c4, c5, c6⟩) rfl ?_
  refine tt_iload_n (q := 109) dX11_count_108 rfl rfl ?_
  refine tt_bipush (q := 111) dX11_count_109 bi_10 rfl ?_
  refine tt_icmp_le (q := 114) (t := 132) dX11_count_111 rfl rfl (fun c => ?_) (fun c => ?_)
  · replace h := h.1 c
    refine tt_bipush (q := 134) dX11_count_132 bi_m9 rfl ?_
    exact tt_iret dX11_count_134 ⟨rfl, _, rfl, h⟩
  · replace h := h.2 c
    refine tt_iload_n (q := 115) dX11_count_114 rfl rfl ?_
    refine tt_bipush (q := 117) dX11_count_115 bi_16 rfl ?_
    refine tt_icmp_gt (q := 120) (t := 132) dX11_count_117 rfl rfl (fun c => ?_) (fun c => ?_)
    · replace h := h.1 c
      refine tt_bipush (q := 134) dX11_count_132 bi_m9 rfl ?_
      exact tt_iret dX11_count_134 ⟨rfl, _, rfl, h⟩
    · replace h := h.2 c
      refine tt_aload_n (q := 121) dX11_count_120 rfl rfl ?_
      refine tt_getR (q := 124) dX11_count_121 fl_X11_96 or_0_11 (Nat.le_of_ble_eq_true rfl) rfl rfl ?_
      refine tt_iload_n (q := 125) dX11_count_124 rfl rfl ?_
      refine tt_bipush (q := 127) dX11_count_125 bi_10 rfl ?_
      refine tt_isub (q := 128) dX11_count_127 rfl ?_
      obtain ⟨j12, e13, l11, h⟩ := h
      refine tt_iald (q := 129) dX11_count_128 ia_101 (Nat.le_of_ble_eq_true rfl) e13 l11 rfl ?_
      refine tt_goto (t := 134) dX11_count_129 rfl ?_
      exact tt_iret dX11_count_134 ⟨rfl, _, rfl, h⟩

theorem g_X11_leastTerms_0 {post : SG → Int32 → Prop} {σ : SG} {a : Nat} {b : Nat} {pt : Int32} (h : T_X11_leastTerms AF post 2 [.int (nI a), .int (nI b), .int pt, .int (nI b)] [] σ) : T_X11_leastTerms AF post 0 [.int (nI a), .int (nI b), .int pt, dum] [] σ := by
  refine tt_iload_n (q := 1) dX11_leastTerms_0 rfl rfl ?_
  refine sti_n_3 (q := 2) dX11_leastTerms_1 rfl rfl rfl ?_
  exact h
theorem g_X11_leastTerms_2 {post : SG → Int32 → Prop} {σ : SG} {a : Nat} {b : Nat} {pt : Int32} {dv : Nat} (h : (dv < 2 ^ 31 ∧ ((dv ≤ 1 → (dv < 2 ^ 31 ∧ ((1 ≤ dv → ((¬ pt = 0 → (b < 2 ^ 31 ∧ 0 < dv ∧ dv < 2 ^ 31 ∧ post σ (nI (b / dv)))) ∧ (pt = 0 → (a < 2 ^ 31 ∧ 0 < dv ∧ dv < 2 ^ 31 ∧ post σ (nI (a / dv)))))) ∧ (dv < 1 → post σ pt)))) ∧ (1 < dv → (a < 2 ^ 31 ∧ 0 < dv ∧ dv < 2 ^ 31 ∧ (a % dv < 2 ^ 31 ∧ ((¬ a % dv = 0 → T_X11_leastTerms AF post 2 [.int (nI a), .int (nI b), .int pt, .int ((nI dv) + (-1))] [] σ) ∧ (a % dv = 0 → (b < 2 ^ 31 ∧ 0 < dv ∧ dv < 2 ^ 31 ∧ (b % dv < 2 ^ 31 ∧ ((b % dv = 0 → (dv < 2 ^ 31 ∧ ((1 ≤ dv → ((¬ pt = 0 → (b < 2 ^ 31 ∧ 0 < dv ∧ dv < 2 ^ 31 ∧ post σ (nI (b / dv)))) ∧ (pt = 0 → (a < 2 ^ 31 ∧ 0 < dv ∧ dv < 2 ^ 31 ∧ post σ (nI (a / dv)))))) ∧ (dv < 1 → post σ pt)))) ∧ (¬ b % dv = 0 → T_X11_leastTerms AF post 2 [.int (nI a), .int (nI b), .int pt, .int ((nI dv) + (-1))] [] σ)))))))))))) : T_X11_leastTerms AF post 2 [.int (nI a), .int (nI b), .int pt, .int (nI dv)] [] σ := by
  refine tt_iload_n (q := 3) dX11_leastTerms_2 rfl rfl ?_
  refine tt_iconst (q := 4) dX11_leastTerms_3 ki_1 rfl ?_
  obtain ⟨l2, h⟩ := h
  refine tt_icmp_le (q := 7) (t := 25) dX11_leastTerms_4 rfl rfl (fun c => ?_) (fun c => ?_)
  · replace h := h.1 ((nI_leI l2 (by decide)).1 c)
    refine tt_iload_n (q := 26) dX11_leastTerms_25 rfl rfl ?_
    refine tt_iconst (q := 27) dX11_leastTerms_26 ki_1 rfl ?_
    obtain ⟨l4, h⟩ := h
    refine tt_icmp_ge (q := 30) (t := 32) dX11_leastTerms_27 rfl rfl (fun c => ?_) (fun c => ?_)
    · replace h := h.1 ((nI_leI (by decide) l4).1 c)
      refine tt_iload_n (q := 33) dX11_leastTerms_32 rfl rfl ?_
      refine tt_if_ne (q := 36) (t := 42) dX11_leastTerms_33 rfl rfl (fun c => ?_) (fun c => ?_)
      · replace h := h.1 c
        refine tt_iload_n (q := 43) dX11_leastTerms_42 rfl rfl ?_
        refine tt_iload_n (q := 44) dX11_leastTerms_43 rfl rfl ?_
        obtain ⟨l6, l7, l8, h⟩ := h
        refine tt_idivN (q := 45) dX11_leastTerms_44 l6 l7 l8 rfl ?_
        exact tt_iret dX11_leastTerms_45 ⟨rfl, _, rfl, h⟩
      · replace h := h.2 c
        refine tt_iload_n (q := 37) dX11_leastTerms_36 rfl rfl ?_
        refine tt_iload_n (q := 38) dX11_leastTerms_37 rfl rfl ?_
        obtain ⟨l9, l10, l11, h⟩ := h
        refine tt_idivN (q := 39) dX11_leastTerms_38 l9 l10 l11 rfl ?_
        refine tt_goto (t := 45) dX11_leastTerms_39 rfl ?_
        exact tt_iret dX11_leastTerms_45 ⟨rfl, _, rfl, h⟩
    · replace h := h.2 (Nat.lt_of_not_le (fun z => c ((nI_leI (by decide) l4).2 z)))
      refine tt_iload_n (q := 31) dX11_leastTerms_30 rfl rfl ?_
      exact tt_iret dX11_leastTerms_31 ⟨rfl, _, rfl, h⟩
  · replace h := h.2 (Nat.lt_of_not_le (fun z => c ((nI_leI l2 (by decide)).2 z)))
    refine tt_iload_n (q := 8) dX11_leastTerms_7 rfl rfl ?_
    refine tt_iload_n (q := 9) dX11_leastTerms_8 rfl rfl ?_
    obtain ⟨l12, l13, l14, h⟩ := h
    refine tt_iremN (q := 10) dX11_leastTerms_9 l12 l13 l14 rfl ?_
    obtain ⟨l16, h⟩ := h
    refine tt_if_ne (q := 13) (t := 19) dX11_leastTerms_10 rfl rfl (fun c => ?_) (fun c => ?_)
    · replace h := h.1 (fun z => c ((nI_eq l16 (by decide)).2 z))
      refine inc_3 (q := 22) dX11_leastTerms_19 (nI_incIm1 _) rfl rfl ?_
      refine tt_goto (t := 2) dX11_leastTerms_22 rfl ?_
      exact h
    · replace h := h.2 ((nI_eq l16 (by decide)).1 c)
      refine tt_iload_n (q := 14) dX11_leastTerms_13 rfl rfl ?_
      refine tt_iload_n (q := 15) dX11_leastTerms_14 rfl rfl ?_
      obtain ⟨l17, l18, l19, h⟩ := h
      refine tt_iremN (q := 16) dX11_leastTerms_15 l17 l18 l19 rfl ?_
      obtain ⟨l21, h⟩ := h
      refine tt_if_eq (q := 19) (t := 25) dX11_leastTerms_16 rfl rfl (fun c => ?_) (fun c => ?_)
      · replace h := h.1 ((nI_eq l21 (by decide)).1 c)
        refine tt_iload_n (q := 26) dX11_leastTerms_25 rfl rfl ?_
        refine tt_iconst (q := 27) dX11_leastTerms_26 ki_1 rfl ?_
        obtain ⟨l23, h⟩ := h
        refine tt_icmp_ge (q := 30) (t := 32) dX11_leastTerms_27 rfl rfl (fun c => ?_) (fun c => ?_)
        · replace h := h.1 ((nI_leI (by decide) l23).1 c)
          refine tt_iload_n (q := 33) dX11_leastTerms_32 rfl rfl ?_
          refine tt_if_ne (q := 36) (t := 42) dX11_leastTerms_33 rfl rfl (fun c => ?_) (fun c => ?_)
          · replace h := h.1 c
            refine tt_iload_n (q := 43) dX11_leastTerms_42 rfl rfl ?_
            refine tt_iload_n (q := 44) dX11_leastTerms_43 rfl rfl ?_
            obtain ⟨l25, l26, l27, h⟩ := h
            refine tt_idivN (q := 45) dX11_leastTerms_44 l25 l26 l27 rfl ?_
            exact tt_iret dX11_leastTerms_45 ⟨rfl, _, rfl, h⟩
          · replace h := h.2 c
            refine tt_iload_n (q := 37) dX11_leastTerms_36 rfl rfl ?_
            refine tt_iload_n (q := 38) dX11_leastTerms_37 rfl rfl ?_
            obtain ⟨l28, l29, l30, h⟩ := h
            refine tt_idivN (q := 39) dX11_leastTerms_38 l28 l29 l30 rfl ?_
            refine tt_goto (t := 45) dX11_leastTerms_39 rfl ?_
            exact tt_iret dX11_leastTerms_45 ⟨rfl, _, rfl, h⟩
        · replace h := h.2 (Nat.lt_of_not_le (fun z => c ((nI_leI (by decide) l23).2 z)))
          refine tt_iload_n (q := 31) dX11_leastTerms_30 rfl rfl ?_
          exact tt_iret dX11_leastTerms_31 ⟨rfl, _, rfl, h⟩
      · replace h := h.2 (fun z => c ((nI_eq l21 (by decide)).2 z))
        refine inc_3 (q := 22) dX11_leastTerms_19 (nI_incIm1 _) rfl rfl ?_
        refine tt_goto (t := 2) dX11_leastTerms_22 rfl ?_
        exact h
