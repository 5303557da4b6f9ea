theorem g_X5_goal_0 {post : SG → Int32 → Prop} {σ : SG} {r : Nat} {p : Nat} (h : T_X5_goal AF post 5 [.ref 36, .int (nI r), .int (nI p), .int (nI p), .int (nI 0)] [] σ) : T_X5_goal AF post 0 [.ref 36, .int (nI r), .int (nI p), dum, dum] [] σ := by
  refine tt_iload_n (q := 1) dX5_goal_0 rfl rfl ?_
  refine sti_n_3 (q := 2) dX5_goal_1 rfl rfl rfl ?_
  refine tt_iconst (q := 3) dX5_goal_2 ki_0 rfl ?_
  refine sti_4 (q := 5) dX5_goal_3 rfl rfl ?_
  exact h
theorem g_X5_goal_5 {post : SG → Int32 → Prop} {σ : SG} {r : Nat} {p : Nat} {x : Nat} {i : Nat} (h : (r < 10 ∧ (((σ 37 r) ≤ (nI i) → post σ (nI x)) ∧ (¬ (σ 37 r) ≤ (nI i) → (r < 10 ∧ (i < 8 ∧ (∃ j6 : Nat, σ (38 + 1 + r) i = nI j6 ∧ j6 < 12 ∧ (x < 6 ∧ T_X5_goal AF post 5 [.ref 36, .int (nI r), .int (nI p), .int (σ (8 + 1 + j6) x), .int (nI (i + 1))] [] σ)))))))) : T_X5_goal AF post 5 [.ref 36, .int (nI r), .int (nI p), .int (nI x), .int (nI i)] [] σ := by
  refine tt_iload (q := 7) dX5_goal_5 rfl rfl ?_
  refine tt_aload_n (q := 8) dX5_goal_7 rfl rfl ?_
  refine tt_getR (q := 11) dX5_goal_8 fl_X5_9 or_36_1 (Nat.le_of_ble_eq_true rfl) rfl rfl ?_
  refine tt_iload_n (q := 12) dX5_goal_11 rfl rfl ?_
  obtain ⟨l1, h⟩ := h
  refine tt_iald (q := 13) dX5_goal_12 ia_37 (Nat.le_of_ble_eq_true rfl) rfl l1 rfl ?_
  refine tt_icmp_ge (q := 16) (t := 42) dX5_goal_13 rfl rfl (fun c => ?_) (fun c => ?_)
  · replace h := h.1 c
    refine tt_iload_n (q := 43) dX5_goal_42 rfl rfl ?_
    exact tt_iret dX5_goal_43 ⟨rfl, _, rfl, h⟩
  · replace h := h.2 c
    refine tt_aload_n (q := 17) dX5_goal_16 rfl rfl ?_
    refine tt_getR (q := 20) dX5_goal_17 fl_X5_26 or_36_5 (Nat.le_of_ble_eq_true rfl) rfl rfl ?_
    refine tt_getR (q := 23) dX5_goal_20 fl_X5_43 or_7_1 (Nat.le_of_ble_eq_true rfl) rfl rfl ?_
    refine tt_aload_n (q := 24) dX5_goal_23 rfl rfl ?_
    refine tt_getR (q := 27) dX5_goal_24 fl_X5_17 or_36_2 (Nat.le_of_ble_eq_true rfl) rfl rfl ?_
    refine tt_iload_n (q := 28) dX5_goal_27 rfl rfl ?_
    obtain ⟨l3, h⟩ := h
    refine tt_aald (q := 29) dX5_goal_28 ig_38 (Nat.le_of_ble_eq_true rfl) rfl l3 rfl ?_
    refine tt_iload (q := 31) dX5_goal_29 rfl rfl ?_
    obtain ⟨l4, h⟩ := h
    refine tt_iald (q := 32) dX5_goal_31 (gi_38 _ l3) (gl_38 _ l3) rfl l4 rfl ?_
    obtain ⟨j6, e7, l5, h⟩ := h
    refine tt_aald (q := 33) dX5_goal_32 ig_8 (Nat.le_of_ble_eq_true rfl) e7 l5 rfl ?_
    refine tt_iload_n (q := 34) dX5_goal_33 rfl rfl ?_
    obtain ⟨l8, h⟩ := h
    refine tt_iald (q := 35) dX5_goal_34 (gi_8 _ l5) (gl_8 _ l5) rfl l8 rfl ?_
    refine sti_n_3 (q := 36) dX5_goal_35 rfl rfl rfl ?_
    refine inc_4 (v := nI (i + 1)) (q := 39) dX5_goal_36 (nI_inc1 _) rfl rfl ?_
    refine tt_goto (t := 5) dX5_goal_39 rfl ?_
    exact h
theorem g_X11_does_0 {post : SG → Int32 → Prop} {σ : SG} {r : Int32} {p : Int32} (h : ((r < 0 → (∀ s6 : SG, s6 = up σ 101 1 ((σ 101 1) + (nI 1)) → post s6 (-1 : Int32))) ∧ (¬ r < 0 → (((σ 36 0) ≤ r → (∀ s10 : SG, s10 = up σ 101 1 ((σ 101 1) + (nI 1)) → post s10 (-1 : Int32))) ∧ (¬ (σ 36 0) ≤ r → ((p < 0 → (∀ s16 : SG, s16 = up σ 101 1 ((σ 101 1) + (nI 1)) → post s16 (-1 : Int32))) ∧ (¬ p < 0 → (((nI 6) ≤ p → (∀ s20 : SG, s20 = up σ 101 1 ((σ 101 1) + (nI 1)) → post s20 (-1 : Int32))) ∧ (¬ (nI 6) ≤ p → (∃ p23 : SG → Int32 → Prop, IN_X5_goal AF σ [.ref 36, .int r, .int p] p23 ∧ ∀ (t22 : SG) (r21 : Int32), p23 t22 r21 → post t22 r21)))))))))) : T_X11_does AF post 0 [.ref 0, .int r, .int p] [] σ := by
  refine tt_aload_n (q := 1) dX11_does_0 rfl rfl ?_
  refine tt_getR (q := 4) dX11_does_1 fl_X11_37 or_0_3 (Nat.le_of_ble_eq_true rfl) rfl rfl ?_
  refine tt_iload_n (q := 5) dX11_does_4 rfl rfl ?_
  refine callVi_1 (q := 8) dX11_does_5 (Or.inl ⟨rfl, rfl, ⟨⟨_, _, rfl, rfl, (Nat.le_of_ble_eq_true rfl), rc_36⟩, Nat.le_of_ble_eq_true rfl, ?_⟩⟩) (by decide) rfl (fun t2 r1 ht2 => ht2)
  refine (show TT cX5_has RX5 false CT0 CN0 _ _ _ none 0 [.ref 36, .int r] [] _ _ from ?_)
  refine tt_iload_n (q := 1) dX5_has_0 rfl rfl ?_
  refine tt_if_lt (q := 4) (t := 16) dX5_has_1 rfl rfl (fun c => ?_) (fun c => ?_)
  · replace h := h.1 c
    refine tt_iconst (q := 17) dX5_has_16 ki_0 rfl ?_
    refine tt_iret dX5_has_17 ⟨rfl, _, rfl, Or.inl nI_0, ?_⟩
    refine tt_if_eq (q := 11) (t := 18) dX11_does_8 rfl rfl (fun c => ?_) (fun c => absurd c (by decide))
    clear c
    refine tt_aload_n (q := 19) dX11_does_18 rfl rfl ?_
    refine tt_iconst (q := 20) dX11_does_19 ki_m1 rfl ?_
    refine callVi_1 (q := 23) dX11_does_20 (Or.inr (Or.inr (Or.inl ⟨rfl, rfl, ⟨⟨_, _, rfl, rfl, (Nat.le_of_ble_eq_true rfl), rc_0⟩, Nat.le_of_ble_eq_true rfl, ?_⟩⟩))) (by decide) rfl (fun t5 r4 ht5 => ht5)
    refine (show TT cX11_refuse RX11 false CT0 CN0 _ _ _ none 0 [.ref 0, .int (-1 : Int32), dum] [] _ _ from ?_)
    refine tt_iload_n (q := 1) dX11_refuse_0 rfl rfl ?_
    refine tt_inegE (v := nI 1) (q := 2) dX11_refuse_1 (by decide) rfl ?_
    refine sti_n_2 (q := 3) dX11_refuse_2 rfl rfl rfl ?_
    refine tt_iload_n (q := 4) dX11_refuse_3 rfl rfl ?_
    refine tt_if_le (q := 7) (t := 23) dX11_refuse_4 rfl rfl (fun c => absurd c (by decide)) (fun c => ?_)
    clear c
    refine tt_iload_n (q := 8) dX11_refuse_7 rfl rfl ?_
    refine tt_bipush (q := 10) dX11_refuse_8 bi_6 rfl ?_
    refine tt_icmp_gt (q := 13) (t := 23) dX11_refuse_10 rfl rfl (fun c => absurd c (by decide)) (fun c => ?_)
    clear c
    refine tt_aload_n (q := 14) dX11_refuse_13 rfl rfl ?_
    refine tt_getR (q := 17) dX11_refuse_14 fl_X11_96 or_0_11 (Nat.le_of_ble_eq_true rfl) rfl rfl ?_
    refine tt_iload_n (q := 18) dX11_refuse_17 rfl rfl ?_
    refine tt_dup2 (q := 19) dX11_refuse_18 rfl rfl rfl ?_
    refine tt_iald (q := 20) dX11_refuse_19 ia_101 (Nat.le_of_ble_eq_true rfl) rfl (Nat.le_of_ble_eq_true rfl : 1 < 7) rfl ?_
    refine tt_iconst (q := 21) dX11_refuse_20 ki_1 rfl ?_
    refine tt_iadd (q := 22) dX11_refuse_21 rfl ?_
    refine tt_iast (q := 23) dX11_refuse_22 ia_101 (Nat.le_of_ble_eq_true rfl) rfl (Nat.le_of_ble_eq_true rfl : 1 < 7) rfl ?_
    replace h := h _ rfl
    refine tt_iload_n (q := 24) dX11_refuse_23 rfl rfl ?_
    refine tt_iret dX11_refuse_24 ⟨rfl, _, rfl, ?_⟩
    exact tt_iret dX11_does_23 ⟨rfl, _, rfl, h⟩
  · replace h := h.2 c
    refine tt_iload_n (q := 5) dX5_has_4 rfl rfl ?_
    refine tt_aload_n (q := 6) dX5_has_5 rfl rfl ?_
    refine tt_getI (q := 9) dX5_has_6 fl_X5_34 oi_36_0 (Nat.le_of_ble_eq_true rfl) rfl ?_
    refine tt_icmp_ge (q := 12) (t := 16) dX5_has_9 rfl rfl (fun c => ?_) (fun c => ?_)
    · replace h := h.1 c
      refine tt_iconst (q := 17) dX5_has_16 ki_0 rfl ?_
      refine tt_iret dX5_has_17 ⟨rfl, _, rfl, Or.inl nI_0, ?_⟩
      refine tt_if_eq (q := 11) (t := 18) dX11_does_8 rfl rfl (fun c => ?_) (fun c => absurd c (by decide))
      clear c
      refine tt_aload_n (q := 19) dX11_does_18 rfl rfl ?_
      refine tt_iconst (q := 20) dX11_does_19 ki_m1 rfl ?_
      refine callVi_1 (q := 23) dX11_does_20 (Or.inr (Or.inr (Or.inl ⟨rfl, rfl, ⟨⟨_, _, rfl, rfl, (Nat.le_of_ble_eq_true rfl), rc_0⟩, Nat.le_of_ble_eq_true rfl, ?_⟩⟩))) (by decide) rfl (fun t9 r8 ht9 => ht9)
      refine (show TT cX11_refuse RX11 false CT0 CN0 _ _ _ none 0 [.ref 0, .int (-1 : Int32), dum] [] _ _ from ?_)
      refine tt_iload_n (q := 1) dX11_refuse_0 rfl rfl ?_
      refine tt_inegE (v := nI 1) (q := 2) dX11_refuse_1 (by decide) rfl ?_
      refine sti_n_2 (q := 3) dX11_refuse_2 rfl rfl rfl ?_
      refine tt_iload_n (q := 4) dX11_refuse_3 rfl rfl ?_
      refine tt_if_le (q := 7) (t := 23) dX11_refuse_4 rfl rfl (fun c => absurd c (by decide)) (fun c => ?_)
      clear c
      refine tt_iload_n (q := 8) dX11_refuse_7 rfl rfl ?_
      refine tt_bipush (q := 10) dX11_refuse_8 bi_6 rfl ?_
      refine tt_icmp_gt (q := 13) (t := 23) dX11_refuse_10 rfl rfl (fun c => absurd c (by decide)) (fun c => ?_)
      clear c
      refine tt_aload_n (q := 14) dX11_refuse_13 rfl rfl ?_
      refine tt_getR (q := 17) dX11_refuse_14 fl_X11_96 or_0_11 (Nat.le_of_ble_eq_true rfl) rfl rfl ?_
      refine tt_iload_n (q := 18) dX11_refuse_17 rfl rfl ?_
      refine tt_dup2 (q := 19) dX11_refuse_18 rfl rfl rfl ?_
      refine tt_iald (q := 20) dX11_refuse_19 ia_101 (Nat.le_of_ble_eq_true rfl) rfl (Nat.le_of_ble_eq_true rfl : 1 < 7) rfl ?_
      refine tt_iconst (q := 21) dX11_refuse_20 ki_1 rfl ?_
      refine tt_iadd (q := 22) dX11_refuse_21 rfl ?_
      refine tt_iast (q := 23) dX11_refuse_22 ia_101 (Nat.le_of_ble_eq_true rfl) rfl (Nat.le_of_ble_eq_true rfl : 1 < 7) rfl ?_
      replace h := h _ rfl
      refine tt_iload_n (q := 24) dX11_refuse_23 rfl rfl ?_
      refine tt_iret dX11_refuse_24 ⟨rfl, _, rfl, ?_⟩
      exact tt_iret dX11_does_23 ⟨rfl, _, rfl, h⟩
    · replace h := h.2 c
      refine tt_iconst (q := 13) dX5_has_12 ki_1 rfl ?_
      refine tt_goto (t := 17) dX5_has_13 rfl ?_
      refine tt_iret dX5_has_17 ⟨rfl, _, rfl, Or.inr rfl, ?_⟩
      refine tt_if_eq (q := 11) (t := 18) dX11_does_8 rfl rfl (fun c => absurd c (by decide)) (fun c => ?_)
      clear c
      refine tt_iload_n (q := 12) dX11_does_11 rfl rfl ?_
      refine callSi_1 (q := 15) dX11_does_12 (Or.inr (Or.inl ⟨rfl, rfl, ⟨rfl, Nat.le_of_ble_eq_true rfl, ?_⟩⟩)) (by decide) rfl (fun t12 r11 ht12 => ht12)
      refine (show TT cX11_isPlace RX11 false CT0 CN0 _ _ _ none 0 [.int p] [] _ _ from ?_)
      refine tt_iload_n (q := 1) dX11_isPlace_0 rfl rfl ?_
      refine tt_if_lt (q := 4) (t := 14) dX11_isPlace_1 rfl rfl (fun c => ?_) (fun c => ?_)
      · replace h := h.1 c
        refine tt_iconst (q := 15) dX11_isPlace_14 ki_0 rfl ?_
        refine tt_iret dX11_isPlace_15 ⟨rfl, _, rfl, Or.inl nI_0, ?_⟩
        refine tt_if_ne (q := 18) (t := 24) dX11_does_15 rfl rfl (fun c => absurd c (by decide)) (fun c => ?_)
        clear c
        refine tt_aload_n (q := 19) dX11_does_18 rfl rfl ?_
        refine tt_iconst (q := 20) dX11_does_19 ki_m1 rfl ?_
        refine callVi_1 (q := 23) dX11_does_20 (Or.inr (Or.inr (Or.inl ⟨rfl, rfl, ⟨⟨_, _, rfl, rfl, (Nat.le_of_ble_eq_true rfl), rc_0⟩, Nat.le_of_ble_eq_true rfl, ?_⟩⟩))) (by decide) rfl (fun t15 r14 ht15 => ht15)
        refine (show TT cX11_refuse RX11 false CT0 CN0 _ _ _ none 0 [.ref 0, .int (-1 : Int32), dum] [] _ _ from ?_)
        refine tt_iload_n (q := 1) dX11_refuse_0 rfl rfl ?_
        refine tt_inegE (v := nI 1) (q := 2) dX11_refuse_1 (by decide) rfl ?_
        refine sti_n_2 (q := 3) dX11_refuse_2 rfl rfl rfl ?_
        refine tt_iload_n (q := 4) dX11_refuse_3 rfl rfl ?_
        refine tt_if_le (q := 7) (t := 23) dX11_refuse_4 rfl rfl (fun c => absurd c (by decide)) (fun c => ?_)
        clear c
        refine tt_iload_n (q := 8) dX11_refuse_7 rfl rfl ?_
        refine tt_bipush (q := 10) dX11_refuse_8 bi_6 rfl ?_
        refine tt_icmp_gt (q := 13) (t := 23) dX11_refuse_10 rfl rfl (fun c => absurd c (by decide)) (fun c => ?_)
        clear c
        refine tt_aload_n (q := 14) dX11_refuse_13 rfl rfl ?_
        refine tt_getR (q := 17) dX11_refuse_14 fl_X11_96 or_0_11 (Nat.le_of_ble_eq_true rfl) rfl rfl ?_
        refine tt_iload_n (q := 18) dX11_refuse_17 rfl rfl ?_
        refine tt_dup2 (q := 19) dX11_refuse_18 rfl rfl rfl ?_
        refine tt_iald (q := 20) dX11_refuse_19 ia_101 (Nat.le_of_ble_eq_true rfl) rfl (Nat.le_of_ble_eq_true rfl : 1 < 7) rfl ?_
        refine tt_iconst (q := 21) dX11_refuse_20 ki_1 rfl ?_
        refine tt_iadd (q := 22) dX11_refuse_21 rfl ?_
        refine tt_iast (q := 23) dX11_refuse_22 ia_101 (Nat.le_of_ble_eq_true rfl) rfl (Nat.le_of_ble_eq_true rfl : 1 < 7) rfl ?_
        replace h := h _ rfl
        refine tt_iload_n (q := 24) dX11_refuse_23 rfl rfl ?_
        refine tt_iret dX11_refuse_24 ⟨rfl, _, rfl, ?_⟩
        exact tt_iret dX11_does_23 ⟨rfl, _, rfl, h⟩
      · replace h := h.2 c
        refine tt_iload_n (q := 5) dX11_isPlace_4 rfl rfl ?_
        refine tt_bipush (q := 7) dX11_isPlace_5 bi_6 rfl ?_
        refine tt_icmp_ge (q := 10) (t := 14) dX11_isPlace_7 rfl rfl (fun c => ?_) (fun c => ?_)
        · replace h := h.1 c
          refine tt_iconst (q := 15) dX11_isPlace_14 ki_0 rfl ?_
          refine tt_iret dX11_isPlace_15 ⟨rfl, _, rfl, Or.inl nI_0, ?_⟩
          refine tt_if_ne (q := 18) (t := 24) dX11_does_15 rfl rfl (fun c => absurd c (by decide)) (fun c => ?_)
          clear c
          refine tt_aload_n (q := 19) dX11_does_18 rfl rfl ?_
          refine tt_iconst (q := 20) dX11_does_19 ki_m1 rfl ?_
          refine callVi_1 (q := 23) dX11_does_20 (Or.inr (Or.inr (Or.inl ⟨rfl, rfl, ⟨⟨_, _, rfl, rfl, (Nat.le_of_ble_eq_true rfl), rc_0⟩, Nat.le_of_ble_eq_true rfl, ?_⟩⟩))) (by decide) rfl (fun t19 r18 ht19 => ht19)
          refine (show TT cX11_refuse RX11 false CT0 CN0 _ _ _ none 0 [.ref 0, .int (-1 : Int32), dum] [] _ _ from ?_)
          refine tt_iload_n (q := 1) dX11_refuse_0 rfl rfl ?_
          refine tt_inegE (v := nI 1) (q := 2) dX11_refuse_1 (by decide) rfl ?_
          refine sti_n_2 (q := 3) dX11_refuse_2 rfl rfl rfl ?_
          refine tt_iload_n (q := 4) dX11_refuse_3 rfl rfl ?_
          refine tt_if_le (q := 7) (t := 23) dX11_refuse_4 rfl rfl (fun c => absurd c (by decide)) (fun c => ?_)
          clear c
          refine tt_iload_n (q := 8) dX11_refuse_7 rfl rfl ?_
          refine tt_bipush (q := 10) dX11_refuse_8 bi_6 rfl ?_
          refine tt_icmp_gt (q := 13) (t := 23) dX11_refuse_10 rfl rfl (fun c => absurd c (by decide)) (fun c => ?_)
          clear c
          refine tt_aload_n (q := 14) dX11_refuse_13 rfl rfl ?_
          refine tt_getR (q := 17) dX11_refuse_14 fl_X11_96 or_0_11 (Nat.le_of_ble_eq_true rfl) rfl rfl ?_
          refine tt_iload_n (q := 18) dX11_refuse_17 rfl rfl ?_
          refine tt_dup2 (q := 19) dX11_refuse_18 rfl rfl rfl ?_
          refine tt_iald (q := 20) dX11_refuse_19 ia_101 (Nat.le_of_ble_eq_true rfl) rfl (Nat.le_of_ble_eq_true rfl : 1 < 7) rfl ?_
          refine tt_iconst (q := 21) dX11_refuse_20 ki_1 rfl ?_
          refine tt_iadd (q := 22) dX11_refuse_21 rfl ?_
          refine tt_iast (q := 23) dX11_refuse_22 ia_101 (Nat.le_of_ble_eq_true rfl) rfl (Nat.le_of_ble_eq_true rfl : 1 < 7) rfl ?_
          replace h := h _ rfl
          refine tt_iload_n (q := 24) dX11_refuse_23 rfl rfl ?_
          refine tt_iret dX11_refuse_24 ⟨rfl, _, rfl, ?_⟩
          exact tt_iret dX11_does_23 ⟨rfl, _, rfl, h⟩
        · replace h := h.2 c
          refine tt_iconst (q := 11) dX11_isPlace_10 ki_1 rfl ?_
          refine tt_goto (t := 15) dX11_isPlace_11 rfl ?_
          refine tt_iret dX11_isPlace_15 ⟨rfl, _, rfl, Or.inr rfl, ?_⟩
          refine tt_if_ne (q := 18) (t := 24) dX11_does_15 rfl rfl (fun c => ?_) (fun c => absurd c (by decide))
          clear c
          refine tt_aload_n (q := 25) dX11_does_24 rfl rfl ?_
          refine tt_getR (q := 28) dX11_does_25 fl_X11_37 or_0_3 (Nat.le_of_ble_eq_true rfl) rfl rfl ?_
          refine tt_iload_n (q := 29) dX11_does_28 rfl rfl ?_
          refine tt_iload_n (q := 30) dX11_does_29 rfl rfl ?_
          obtain ⟨p23, hp24, h⟩ := h
          refine callVi_2 (q := 33) dX11_does_30 (Or.inr (Or.inr (Or.inr (⟨rfl, rfl, hp24⟩)))) (by decide) rfl (fun t22 r21 hr25 => ?_)
          replace h := h t22 r21 hr25
          exact tt_iret dX11_does_33 ⟨rfl, _, rfl, h⟩
