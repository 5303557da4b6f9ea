/-! segments, by program -/
theorem g_X12_feed_0 {post : SG → Int32 → Prop} {σ : SG} {n : Int32} {b : Int64} (h : (((nI 1) ≤ n → (((nI 8) < n → (∀ s5 : SG, s5 = up σ 103 6 ((σ 103 6) + (nI 1)) → post s5 (-6 : Int32))) ∧ (¬ (nI 8) < n → ((((σ 102 6) + n) ≤ (nI 16) → T_X12_feed AF post 39 [.ref 102, .int n, .long b, dum, .int (nI 0)] [] σ) ∧ (¬ ((σ 102 6) + n) ≤ (nI 16) → (∀ s9 : SG, s9 = up σ 103 6 ((σ 103 6) + (nI 1)) → post s9 (-6 : Int32))))))) ∧ (¬ (nI 1) ≤ n → (∀ s12 : SG, s12 = up σ 103 4 ((σ 103 4) + (nI 1)) → post s12 (-4 : Int32))))) : T_X12_feed AF post 0 [.ref 102, .int n, .long b, dum, dum] [] σ := by
  refine tt_iload_n (q := 1) dX12_feed_0 rfl rfl ?_
  refine tt_iconst (q := 2) dX12_feed_1 ki_1 rfl ?_
  refine tt_icmp_ge (q := 5) (t := 12) dX12_feed_2 rfl rfl (fun c => ?_) (fun c => ?_)
  · replace h := h.1 c
    refine tt_iload_n (q := 13) dX12_feed_12 rfl rfl ?_
    refine tt_bipush (q := 15) dX12_feed_13 bi_8 rfl ?_
    refine tt_icmp_gt (q := 18) (t := 29) dX12_feed_15 rfl rfl (fun c => ?_) (fun c => ?_)
    · replace h := h.1 c
      refine tt_aload_n (q := 30) dX12_feed_29 rfl rfl ?_
      refine tt_bipush (q := 32) dX12_feed_30 bi_m6 rfl ?_
      refine callVi_1 (q := 35) dX12_feed_32 (⟨rfl, rfl, ⟨⟨_, _, rfl, rfl, (Nat.le_of_ble_eq_true rfl), rc_102⟩, Nat.le_of_ble_eq_true rfl, ?_⟩⟩) (Nat.le_of_ble_eq_true rfl) rfl (fun t4 r3 ht4 => ht4)
      refine (show TT cX12_refuse RX12 false CT0 CN0 _ _ _ none 0 [_, _] [] _ _ from ?_)
      refine tt_aload_n (q := 1) dX12_refuse_0 rfl rfl ?_
      refine tt_getR (q := 4) dX12_refuse_1 fl_X12_7 or_102_0 (Nat.le_of_ble_eq_true rfl) rfl rfl ?_
      refine tt_iload_n (q := 5) dX12_refuse_4 rfl rfl ?_
      refine tt_inegE (v := nI 6) (q := 6) dX12_refuse_5 (by decide) rfl ?_
      refine tt_dup2 (q := 7) dX12_refuse_6 rfl rfl rfl ?_
      refine tt_iald (q := 8) dX12_refuse_7 ia_103 (Nat.le_of_ble_eq_true rfl) rfl (Nat.le_of_ble_eq_true rfl : 6 < 7) rfl ?_
      refine tt_iconst (q := 9) dX12_refuse_8 ki_1 rfl ?_
      refine tt_iadd (q := 10) dX12_refuse_9 rfl ?_
      refine tt_iast (q := 11) dX12_refuse_10 ia_103 (Nat.le_of_ble_eq_true rfl) rfl (Nat.le_of_ble_eq_true rfl : 6 < 7) rfl ?_
      replace h := h _ rfl
      refine tt_iload_n (q := 12) dX12_refuse_11 rfl rfl ?_
      refine tt_iret dX12_refuse_12 ⟨rfl, _, rfl, ?_⟩
      exact tt_iret dX12_feed_35 ⟨rfl, _, rfl, h⟩
    · replace h := h.2 c
      refine tt_aload_n (q := 19) dX12_feed_18 rfl rfl ?_
      refine tt_getI (q := 22) dX12_feed_19 fl_X12_69 oi_102_6 (Nat.le_of_ble_eq_true rfl) rfl ?_
      refine tt_iload_n (q := 23) dX12_feed_22 rfl rfl ?_
      refine tt_iadd (q := 24) dX12_feed_23 rfl ?_
      refine tt_bipush (q := 26) dX12_feed_24 bi_16 rfl ?_
      refine tt_icmp_le (q := 29) (t := 36) dX12_feed_26 rfl rfl (fun c => ?_) (fun c => ?_)
      · replace h := h.1 c
        refine tt_iconst (q := 37) dX12_feed_36 ki_0 rfl ?_
        refine sti_4 (q := 39) dX12_feed_37 rfl rfl ?_
        exact h
      · replace h := h.2 c
        refine tt_aload_n (q := 30) dX12_feed_29 rfl rfl ?_
        refine tt_bipush (q := 32) dX12_feed_30 bi_m6 rfl ?_
        refine callVi_1 (q := 35) dX12_feed_32 (⟨rfl, rfl, ⟨⟨_, _, rfl, rfl, (Nat.le_of_ble_eq_true rfl), rc_102⟩, Nat.le_of_ble_eq_true rfl, ?_⟩⟩) (Nat.le_of_ble_eq_true rfl) rfl (fun t8 r7 ht8 => ht8)
        refine (show TT cX12_refuse RX12 false CT0 CN0 _ _ _ none 0 [_, _] [] _ _ from ?_)
        refine tt_aload_n (q := 1) dX12_refuse_0 rfl rfl ?_
        refine tt_getR (q := 4) dX12_refuse_1 fl_X12_7 or_102_0 (Nat.le_of_ble_eq_true rfl) rfl rfl ?_
        refine tt_iload_n (q := 5) dX12_refuse_4 rfl rfl ?_
        refine tt_inegE (v := nI 6) (q := 6) dX12_refuse_5 (by decide) rfl ?_
        refine tt_dup2 (q := 7) dX12_refuse_6 rfl rfl rfl ?_
        refine tt_iald (q := 8) dX12_refuse_7 ia_103 (Nat.le_of_ble_eq_true rfl) rfl (Nat.le_of_ble_eq_true rfl : 6 < 7) rfl ?_
        refine tt_iconst (q := 9) dX12_refuse_8 ki_1 rfl ?_
        refine tt_iadd (q := 10) dX12_refuse_9 rfl ?_
        refine tt_iast (q := 11) dX12_refuse_10 ia_103 (Nat.le_of_ble_eq_true rfl) rfl (Nat.le_of_ble_eq_true rfl : 6 < 7) rfl ?_
        replace h := h _ rfl
        refine tt_iload_n (q := 12) dX12_refuse_11 rfl rfl ?_
        refine tt_iret dX12_refuse_12 ⟨rfl, _, rfl, ?_⟩
        exact tt_iret dX12_feed_35 ⟨rfl, _, rfl, h⟩
  · replace h := h.2 c
    refine tt_aload_n (q := 6) dX12_feed_5 rfl rfl ?_
    refine tt_bipush (q := 8) dX12_feed_6 bi_m4 rfl ?_
    refine callVi_1 (q := 11) dX12_feed_8 (⟨rfl, rfl, ⟨⟨_, _, rfl, rfl, (Nat.le_of_ble_eq_true rfl), rc_102⟩, Nat.le_of_ble_eq_true rfl, ?_⟩⟩) (Nat.le_of_ble_eq_true rfl) rfl (fun t11 r10 ht11 => ht11)
    refine (show TT cX12_refuse RX12 false CT0 CN0 _ _ _ none 0 [_, _] [] _ _ from ?_)
    refine tt_aload_n (q := 1) dX12_refuse_0 rfl rfl ?_
    refine tt_getR (q := 4) dX12_refuse_1 fl_X12_7 or_102_0 (Nat.le_of_ble_eq_true rfl) rfl rfl ?_
    refine tt_iload_n (q := 5) dX12_refuse_4 rfl rfl ?_
    refine tt_inegE (v := nI 4) (q := 6) dX12_refuse_5 (by decide) rfl ?_
    refine tt_dup2 (q := 7) dX12_refuse_6 rfl rfl rfl ?_
    refine tt_iald (q := 8) dX12_refuse_7 ia_103 (Nat.le_of_ble_eq_true rfl) rfl (Nat.le_of_ble_eq_true rfl : 4 < 7) rfl ?_
    refine tt_iconst (q := 9) dX12_refuse_8 ki_1 rfl ?_
    refine tt_iadd (q := 10) dX12_refuse_9 rfl ?_
    refine tt_iast (q := 11) dX12_refuse_10 ia_103 (Nat.le_of_ble_eq_true rfl) rfl (Nat.le_of_ble_eq_true rfl : 4 < 7) rfl ?_
    replace h := h _ rfl
    refine tt_iload_n (q := 12) dX12_refuse_11 rfl rfl ?_
    refine tt_iret dX12_refuse_12 ⟨rfl, _, rfl, ?_⟩
    exact tt_iret dX12_feed_11 ⟨rfl, _, rfl, h⟩
theorem g_X12_feed_39 {post : SG → Int32 → Prop} {σ : SG} {n : Nat} {b : Int64} {k : Nat} (h : (k < 2 ^ 31 ∧ (n < 2 ^ 31 ∧ ((n ≤ k → post σ (σ 102 6)) ∧ (k < n → (∃ j5 : Nat, (σ 102 6) = nI j5 ∧ j5 < 16 ∧ (∀ s7 : SG, s7 = up σ 106 j5 (((b >>> ((nI (8 * k)).toInt64 &&& 63)) &&& (255 : Int64)).toInt32) → (∀ s8 : SG, s8 = up s7 102 6 ((s7 102 6) + (nI 1)) → T_X12_feed AF post 39 [.ref 102, .int (nI n), .long b, dum, .int (nI (k + 1))] [] s8)))))))) : T_X12_feed AF post 39 [.ref 102, .int (nI n), .long b, dum, .int (nI k)] [] σ := by
  refine tt_iload (q := 41) dX12_feed_39 rfl rfl ?_
  refine tt_iload_n (q := 42) dX12_feed_41 rfl rfl ?_
  obtain ⟨l2, h⟩ := h
  obtain ⟨l3, h⟩ := h
  refine tt_icmp_ge (q := 45) (t := 82) dX12_feed_42 rfl rfl (fun c => ?_) (fun c => ?_)
  · replace h := h.1 ((nI_leI l3 l2).1 c)
    refine tt_aload_n (q := 83) dX12_feed_82 rfl rfl ?_
    refine tt_getI (q := 86) dX12_feed_83 fl_X12_69 oi_102_6 (Nat.le_of_ble_eq_true rfl) rfl ?_
    exact tt_iret dX12_feed_86 ⟨rfl, _, rfl, h⟩
  · replace h := h.2 (Nat.lt_of_not_le (fun z => c ((nI_leI l3 l2).2 z)))
    refine tt_aload_n (q := 46) dX12_feed_45 rfl rfl ?_
    refine tt_getR (q := 49) dX12_feed_46 fl_X12_19 or_102_4 (Nat.le_of_ble_eq_true rfl) rfl rfl ?_
    refine tt_aload_n (q := 50) dX12_feed_49 rfl rfl ?_
    refine tt_getI (q := 53) dX12_feed_50 fl_X12_69 oi_102_6 (Nat.le_of_ble_eq_true rfl) rfl ?_
    refine tt_lload_n (q := 54) dX12_feed_53 rfl rfl ?_
    refine tt_bipush (q := 56) dX12_feed_54 bi_8 rfl ?_
    refine tt_iload (q := 58) dX12_feed_56 rfl rfl ?_
    refine tt_imulN (q := 59) dX12_feed_58 rfl ?_
    refine tt_lshr (q := 60) dX12_feed_59 rfl ?_
    refine tt_ldc2 (q := 63) dX12_feed_60 lct_X12_73 rfl ?_
    refine tt_land (q := 64) dX12_feed_63 rfl ?_
    refine tt_l2i (q := 65) dX12_feed_64 rfl ?_
    obtain ⟨j5, e6, l4, h⟩ := h
    refine tt_iast (q := 66) dX12_feed_65 ia_106 (Nat.le_of_ble_eq_true rfl) e6 l4 rfl ?_
    replace h := h _ rfl
    refine tt_aload_n (q := 67) dX12_feed_66 rfl rfl ?_
    refine tt_dup (q := 68) dX12_feed_67 rfl rfl ?_
    refine tt_getI (q := 71) dX12_feed_68 fl_X12_69 oi_102_6 (Nat.le_of_ble_eq_true rfl) rfl ?_
    refine tt_iconst (q := 72) dX12_feed_71 ki_1 rfl ?_
    refine tt_iadd (q := 73) dX12_feed_72 rfl ?_
    refine tt_putI (q := 76) dX12_feed_73 fl_X12_69 oi_102_6 (fp_12_6 _) (Nat.le_of_ble_eq_true rfl) rfl ?_
    replace h := h _ rfl
    refine inc_4 (q := 79) dX12_feed_76 (nI_inc1 _) rfl rfl ?_
    refine tt_goto (t := 39) dX12_feed_79 rfl ?_
    exact h

theorem g_X12_sign_0 {post : SG → Int32 → Prop} {σ : SG} (h : (((σ 102 7) < (σ 102 6) → (∃ j3 : Nat, (σ 102 7) = nI j3 ∧ j3 < 16 ∧ post σ (σ 106 j3))) ∧ (¬ (σ 102 7) < (σ 102 6) → post σ (-1 : Int32)))) : T_X12_sign AF post 0 [.ref 102] [] σ := by
  refine tt_aload_n (q := 1) dX12_sign_0 rfl rfl ?_
  refine tt_getI (q := 4) dX12_sign_1 fl_X12_75 oi_102_7 (Nat.le_of_ble_eq_true rfl) rfl ?_
  refine tt_aload_n (q := 5) dX12_sign_4 rfl rfl ?_
  refine tt_getI (q := 8) dX12_sign_5 fl_X12_69 oi_102_6 (Nat.le_of_ble_eq_true rfl) rfl ?_
  refine tt_icmp_lt (q := 11) (t := 15) dX12_sign_8 rfl rfl (fun c => ?_) (fun c => ?_)
  · replace h := h.1 c
    refine tt_aload_n (q := 16) dX12_sign_15 rfl rfl ?_
    refine tt_getR (q := 19) dX12_sign_16 fl_X12_19 or_102_4 (Nat.le_of_ble_eq_true rfl) rfl rfl ?_
    refine tt_aload_n (q := 20) dX12_sign_19 rfl rfl ?_
    refine tt_getI (q := 23) dX12_sign_20 fl_X12_75 oi_102_7 (Nat.le_of_ble_eq_true rfl) rfl ?_
    obtain ⟨j3, e4, l2, h⟩ := h
    refine tt_iald (q := 24) dX12_sign_23 ia_106 (Nat.le_of_ble_eq_true rfl) e4 l2 rfl ?_
    exact tt_iret dX12_sign_24 ⟨rfl, _, rfl, h⟩
  · replace h := h.2 c
    refine tt_iconst (q := 12) dX12_sign_11 ki_m1 rfl ?_
    refine tt_goto (t := 24) dX12_sign_12 rfl ?_
    exact tt_iret dX12_sign_24 ⟨rfl, _, rfl, h⟩

theorem g_X12_readsRing_0 {post : SG → Int32 → Prop} {σ : SG} (h : (∃ p3 : SG → Int32 → Prop, IN_X12_sign AF σ [.ref 102] p3 ∧ ∀ (t2 : SG) (r1 : Int32), p3 t2 r1 → ((r1 = (nI 40) → (∀ s7 : SG, s7 = up t2 102 7 ((t2 102 7) + (nI 1)) → T_X12_readsRing AF post 29 [.ref 102, .int (-9 : Int32), .int (-9 : Int32), .int (nI 0), dum] [] s7)) ∧ (¬ r1 = (nI 40) → post t2 (nI 0))))) : T_X12_readsRing AF post 0 [.ref 102, dum, dum, dum, dum] [] σ := by
  refine tt_aload_n (q := 1) dX12_readsRing_0 rfl rfl ?_
  obtain ⟨p3, hp4, h⟩ := h
  refine callVi_0 (q := 4) dX12_readsRing_1 (⟨rfl, rfl, hp4⟩) (Nat.le_of_ble_eq_true rfl) rfl (fun t2 r1 hr5 => ?_)
  replace h := h t2 r1 hr5
  refine tt_bipush (q := 6) dX12_readsRing_4 bi_40 rfl ?_
  refine tt_icmp_eq (q := 9) (t := 11) dX12_readsRing_6 rfl rfl (fun c => ?_) (fun c => ?_)
  · replace h := h.1 c
    refine tt_aload_n (q := 12) dX12_readsRing_11 rfl rfl ?_
    refine tt_dup (q := 13) dX12_readsRing_12 rfl rfl ?_
    refine tt_getI (q := 16) dX12_readsRing_13 fl_X12_75 oi_102_7 (Nat.le_of_ble_eq_true rfl) rfl ?_
    refine tt_iconst (q := 17) dX12_readsRing_16 ki_1 rfl ?_
    refine tt_iadd (q := 18) dX12_readsRing_17 rfl ?_
    refine tt_putI (q := 21) dX12_readsRing_18 fl_X12_75 oi_102_7 (fp_12_7 _) (Nat.le_of_ble_eq_true rfl) rfl ?_
    replace h := h _ rfl
    refine tt_bipush (q := 23) dX12_readsRing_21 bi_m9 rfl ?_
    refine sti_n_1 (q := 24) dX12_readsRing_23 rfl rfl rfl ?_
    refine tt_bipush (q := 26) dX12_readsRing_24 bi_m9 rfl ?_
    refine sti_n_2 (q := 27) dX12_readsRing_26 rfl rfl rfl ?_
    refine tt_iconst (q := 28) dX12_readsRing_27 ki_0 rfl ?_
    refine sti_n_3 (q := 29) dX12_readsRing_28 rfl rfl rfl ?_
    exact h
  · replace h := h.2 c
    refine tt_iconst (q := 10) dX12_readsRing_9 ki_0 rfl ?_
    exact tt_iret dX12_readsRing_10 ⟨rfl, _, rfl, Or.inl nI_0, h⟩
theorem g_X12_readsRing_29 {post : SG → Int32 → Prop} {σ : SG} {fi : Int32} {la : Int32} {n : Nat} (h : (∃ p3 : SG → Int32 → Prop, IN_X12_sign AF σ [.ref 102] p3 ∧ ∀ (t2 : SG) (r1 : Int32), p3 t2 r1 → ((r1 < (nI 97) → (∃ p9 : SG → Int32 → Prop, IN_X12_sign AF t2 [.ref 102] p9 ∧ ∀ (t8 : SG) (r7 : Int32), p9 t8 r7 → ((¬ r7 = (nI 41) → post t8 (nI 0)) ∧ (r7 = (nI 41) → (n < 2 ^ 31 ∧ ((2 ≤ n → (∃ j16 : Nat, la = nI j16 ∧ j16 < 9 ∧ (∀ s18 : SG, s18 = up t8 107 j16 fi → (∀ s19 : SG, s19 = up s18 102 7 ((s18 102 7) + (nI 1)) → post s19 (nI 1))))) ∧ (n < 2 → post t8 (nI 0)))))))) ∧ (¬ r1 < (nI 97) → (∃ p22 : SG → Int32 → Prop, IN_X12_sign AF t2 [.ref 102] p22 ∧ ∀ (t21 : SG) (r20 : Int32), p22 t21 r20 → (((nI 102) < r20 → (∃ p28 : SG → Int32 → Prop, IN_X12_sign AF t21 [.ref 102] p28 ∧ ∀ (t27 : SG) (r26 : Int32), p28 t27 r26 → ((¬ r26 = (nI 41) → post t27 (nI 0)) ∧ (r26 = (nI 41) → (n < 2 ^ 31 ∧ ((2 ≤ n → (∃ j35 : Nat, la = nI j35 ∧ j35 < 9 ∧ (∀ s37 : SG, s37 = up t27 107 j35 fi → (∀ s38 : SG, s38 = up s37 102 7 ((s37 102 7) + (nI 1)) → post s38 (nI 1))))) ∧ (n < 2 → post t27 (nI 0)))))))) ∧ (¬ (nI 102) < r20 → (∃ p41 : SG → Int32 → Prop, IN_X12_sign AF t21 [.ref 102] p41 ∧ ∀ (t40 : SG) (r39 : Int32), p41 t40 r39 → ((¬ (((t40 102 8) >>> ((r39 - (nI 97)) &&& 31)) &&& (nI 1)) = (nI 1) → (∀ s45 : SG, s45 = up t40 102 8 ((t40 102 8) ||| ((nI 1) <<< ((r39 - (nI 97)) &&& 31))) → (n < 2 ^ 31 ∧ ((¬ n = 0 → (∃ j49 : Nat, la = nI j49 ∧ j49 < 9 ∧ (∀ s51 : SG, s51 = up s45 107 j49 (r39 - (nI 97)) → (∀ s52 : SG, s52 = up s51 102 7 ((s51 102 7) + (nI 1)) → T_X12_readsRing AF post 29 [.ref 102, .int fi, .int (r39 - (nI 97)), .int (nI (n + 1)), dum] [] s52)))) ∧ (n = 0 → (∀ s53 : SG, s53 = up s45 102 7 ((s45 102 7) + (nI 1)) → T_X12_readsRing AF post 29 [.ref 102, .int (r39 - (nI 97)), .int (r39 - (nI 97)), .int (nI (n + 1)), dum] [] s53)))))) ∧ ((((t40 102 8) >>> ((r39 - (nI 97)) &&& 31)) &&& (nI 1)) = (nI 1) → post t40 (nI 0))))))))))) : T_X12_readsRing AF post 29 [.ref 102, .int fi, .int la, .int (nI n), dum] [] σ := by
  refine tt_aload_n (q := 30) dX12_readsRing_29 rfl rfl ?_
  obtain ⟨p3, hp4, h⟩ := h
  refine callVi_0 (q := 33) dX12_readsRing_30 (⟨rfl, rfl, hp4⟩) (Nat.le_of_ble_eq_true rfl) rfl (fun t2 r1 hr5 => ?_)
  replace h := h t2 r1 hr5
  refine tt_bipush (q := 35) dX12_readsRing_33 bi_97 rfl ?_
  refine tt_icmp_lt (q := 38) (t := 121) dX12_readsRing_35 rfl rfl (fun c => ?_) (fun c => ?_)
  · replace h := h.1 c
    refine tt_aload_n (q := 122) dX12_readsRing_121 rfl rfl ?_
    obtain ⟨p9, hp10, h⟩ := h
    refine callVi_0 (q := 125) dX12_readsRing_122 (⟨rfl, rfl, hp10⟩) (Nat.le_of_ble_eq_true rfl) rfl (fun t8 r7 hr11 => ?_)
    replace h := h t8 r7 hr11
    refine tt_bipush (q := 127) dX12_readsRing_125 bi_41 rfl ?_
    refine tt_icmp_ne (q := 130) (t := 135) dX12_readsRing_127 rfl rfl (fun c => ?_) (fun c => ?_)
    · replace h := h.1 c
      refine tt_iconst (q := 136) dX12_readsRing_135 ki_0 rfl ?_
      exact tt_iret dX12_readsRing_136 ⟨rfl, _, rfl, Or.inl nI_0, h⟩
    · replace h := h.2 c
      refine tt_iload_n (q := 131) dX12_readsRing_130 rfl rfl ?_
      refine tt_iconst (q := 132) dX12_readsRing_131 ki_2 rfl ?_
      obtain ⟨l14, h⟩ := h
      refine tt_icmp_ge (q := 135) (t := 137) dX12_readsRing_132 rfl rfl (fun c => ?_) (fun c => ?_)
      · replace h := h.1 ((nI_leI (by decide) l14).1 c)
        refine tt_aload_n (q := 138) dX12_readsRing_137 rfl rfl ?_
        refine tt_getR (q := 141) dX12_readsRing_138 fl_X12_22 or_102_5 (Nat.le_of_ble_eq_true rfl) rfl rfl ?_
        refine tt_iload_n (q := 142) dX12_readsRing_141 rfl rfl ?_
        refine tt_iload_n (q := 143) dX12_readsRing_142 rfl rfl ?_
        obtain ⟨j16, e17, l15, h⟩ := h
        refine tt_iast (q := 144) dX12_readsRing_143 ia_107 (Nat.le_of_ble_eq_true rfl) e17 l15 rfl ?_
        replace h := h _ rfl
        refine tt_aload_n (q := 145) dX12_readsRing_144 rfl rfl ?_
        refine tt_dup (q := 146) dX12_readsRing_145 rfl rfl ?_
        refine tt_getI (q := 149) dX12_readsRing_146 fl_X12_75 oi_102_7 (Nat.le_of_ble_eq_true rfl) rfl ?_
        refine tt_iconst (q := 150) dX12_readsRing_149 ki_1 rfl ?_
        refine tt_iadd (q := 151) dX12_readsRing_150 rfl ?_
        refine tt_putI (q := 154) dX12_readsRing_151 fl_X12_75 oi_102_7 (fp_12_7 _) (Nat.le_of_ble_eq_true rfl) rfl ?_
        replace h := h _ rfl
        refine tt_iconst (q := 155) dX12_readsRing_154 ki_1 rfl ?_
        exact tt_iret dX12_readsRing_155 ⟨rfl, _, rfl, Or.inr rfl, h⟩
      · replace h := h.2 (Nat.lt_of_not_le (fun z => c ((nI_leI (by decide) l14).2 z)))
        refine tt_iconst (q := 136) dX12_readsRing_135 ki_0 rfl ?_
        exact tt_iret dX12_readsRing_136 ⟨rfl, _, rfl, Or.inl nI_0, h⟩
  · replace h := h.2 c
    refine tt_aload_n (q := 39) dX12_readsRing_38 rfl rfl ?_
    obtain ⟨p22, hp23, h⟩ := h
    refine callVi_0 (q := 42) dX12_readsRing_39 (⟨rfl, rfl, hp23⟩) (Nat.le_of_ble_eq_true rfl) rfl (fun t21 r20 hr24 => ?_)
    replace h := h t21 r20 hr24
    refine tt_bipush (q := 44) dX12_readsRing_42 bi_102 rfl ?_
    refine tt_icmp_gt (q := 47) (t := 121) dX12_readsRing_44 rfl rfl (fun c => ?_) (fun c => ?_)
    · replace h := h.1 c
      refine tt_aload_n (q := 122) dX12_readsRing_121 rfl rfl ?_
      obtain ⟨p28, hp29, h⟩ := h
      refine callVi_0 (q := 125) dX12_readsRing_122 (⟨rfl, rfl, hp29⟩) (Nat.le_of_ble_eq_true rfl) rfl (fun t27 r26 hr30 => ?_)
      replace h := h t27 r26 hr30
      refine tt_bipush (q := 127) dX12_readsRing_125 bi_41 rfl ?_
      refine tt_icmp_ne (q := 130) (t := 135) dX12_readsRing_127 rfl rfl (fun c => ?_) (fun c => ?_)
      · replace h := h.1 c
        refine tt_iconst (q := 136) dX12_readsRing_135 ki_0 rfl ?_
        exact tt_iret dX12_readsRing_136 ⟨rfl, _, rfl, Or.inl nI_0, h⟩
      · replace h := h.2 c
        refine tt_iload_n (q := 131) dX12_readsRing_130 rfl rfl ?_
        refine tt_iconst (q := 132) dX12_readsRing_131 ki_2 rfl ?_
        obtain ⟨l33, h⟩ := h
        refine tt_icmp_ge (q := 135) (t := 137) dX12_readsRing_132 rfl rfl (fun c => ?_) (fun c => ?_)
        · replace h := h.1 ((nI_leI (by decide) l33).1 c)
          refine tt_aload_n (q := 138) dX12_readsRing_137 rfl rfl ?_
          refine tt_getR (q := 141) dX12_readsRing_138 fl_X12_22 or_102_5 (Nat.le_of_ble_eq_true rfl) rfl rfl ?_
          refine tt_iload_n (q := 142) dX12_readsRing_141 rfl rfl ?_
          refine tt_iload_n (q := 143) dX12_readsRing_142 rfl rfl ?_
          obtain ⟨j35, e36, l34, h⟩ := h
          refine tt_iast (q := 144) dX12_readsRing_143 ia_107 (Nat.le_of_ble_eq_true rfl) e36 l34 rfl ?_
          replace h := h _ rfl
          refine tt_aload_n (q := 145) dX12_readsRing_144 rfl rfl ?_
          refine tt_dup (q := 146) dX12_readsRing_145 rfl rfl ?_
          refine tt_getI (q := 149) dX12_readsRing_146 fl_X12_75 oi_102_7 (Nat.le_of_ble_eq_true rfl) rfl ?_
          refine tt_iconst (q := 150) dX12_readsRing_149 ki_1 rfl ?_
          refine tt_iadd (q := 151) dX12_readsRing_150 rfl ?_
          refine tt_putI (q := 154) dX12_readsRing_151 fl_X12_75 oi_102_7 (fp_12_7 _) (Nat.le_of_ble_eq_true rfl) rfl ?_
          replace h := h _ rfl
          refine tt_iconst (q := 155) dX12_readsRing_154 ki_1 rfl ?_
          exact tt_iret dX12_readsRing_155 ⟨rfl, _, rfl, Or.inr rfl, h⟩
        · replace h := h.2 (Nat.lt_of_not_le (fun z => c ((nI_leI (by decide) l33).2 z)))
          refine tt_iconst (q := 136) dX12_readsRing_135 ki_0 rfl ?_
          exact tt_iret dX12_readsRing_136 ⟨rfl, _, rfl, Or.inl nI_0, h⟩
    · replace h := h.2 c
      refine tt_aload_n (q := 48) dX12_readsRing_47 rfl rfl ?_
      obtain ⟨p41, hp42, h⟩ := h
      refine callVi_0 (q := 51) dX12_readsRing_48 (⟨rfl, rfl, hp42⟩) (Nat.le_of_ble_eq_true rfl) rfl (fun t40 r39 hr43 => ?_)
      replace h := h t40 r39 hr43
      refine tt_bipush (q := 53) dX12_readsRing_51 bi_97 rfl ?_
      refine tt_isub (q := 54) dX12_readsRing_53 rfl ?_
      refine sti_4 (q := 56) dX12_readsRing_54 rfl rfl ?_
      refine tt_aload_n (q := 57) dX12_readsRing_56 rfl rfl ?_
      refine tt_getI (q := 60) dX12_readsRing_57 fl_X12_82 oi_102_8 (Nat.le_of_ble_eq_true rfl) rfl ?_
      refine tt_iload (q := 62) dX12_readsRing_60 rfl rfl ?_
      refine tt_ishr (q := 63) dX12_readsRing_62 rfl ?_
      refine tt_iconst (q := 64) dX12_readsRing_63 ki_1 rfl ?_
      refine tt_iand (q := 65) dX12_readsRing_64 rfl ?_
      refine tt_iconst (q := 66) dX12_readsRing_65 ki_1 rfl ?_
      refine tt_icmp_ne (q := 69) (t := 71) dX12_readsRing_66 rfl rfl (fun c => ?_) (fun c => ?_)
      · replace h := h.1 c
        refine tt_aload_n (q := 72) dX12_readsRing_71 rfl rfl ?_
        refine tt_dup (q := 73) dX12_readsRing_72 rfl rfl ?_
        refine tt_getI (q := 76) dX12_readsRing_73 fl_X12_82 oi_102_8 (Nat.le_of_ble_eq_true rfl) rfl ?_
        refine tt_iconst (q := 77) dX12_readsRing_76 ki_1 rfl ?_
        refine tt_iload (q := 79) dX12_readsRing_77 rfl rfl ?_
        refine tt_ishl (q := 80) dX12_readsRing_79 rfl ?_
        refine tt_ior (q := 81) dX12_readsRing_80 rfl ?_
        refine tt_putI (q := 84) dX12_readsRing_81 fl_X12_82 oi_102_8 (fp_12_8 _) (Nat.le_of_ble_eq_true rfl) rfl ?_
        replace h := h _ rfl
        refine tt_iload_n (q := 85) dX12_readsRing_84 rfl rfl ?_
        obtain ⟨l47, h⟩ := h
        refine tt_if_ne (q := 88) (t := 94) dX12_readsRing_85 rfl rfl (fun c => ?_) (fun c => ?_)
        · replace h := h.1 (fun z => c ((nI_eq l47 (by decide)).2 z))
          refine tt_aload_n (q := 95) dX12_readsRing_94 rfl rfl ?_
          refine tt_getR (q := 98) dX12_readsRing_95 fl_X12_22 or_102_5 (Nat.le_of_ble_eq_true rfl) rfl rfl ?_
          refine tt_iload_n (q := 99) dX12_readsRing_98 rfl rfl ?_
          refine tt_iload (q := 101) dX12_readsRing_99 rfl rfl ?_
          obtain ⟨j49, e50, l48, h⟩ := h
          refine tt_iast (q := 102) dX12_readsRing_101 ia_107 (Nat.le_of_ble_eq_true rfl) e50 l48 rfl ?_
          replace h := h _ rfl
          refine tt_iload (q := 104) dX12_readsRing_102 rfl rfl ?_
          refine sti_n_2 (q := 105) dX12_readsRing_104 rfl rfl rfl ?_
          refine inc_3 (q := 108) dX12_readsRing_105 (nI_inc1 _) rfl rfl ?_
          refine tt_aload_n (q := 109) dX12_readsRing_108 rfl rfl ?_
          refine tt_dup (q := 110) dX12_readsRing_109 rfl rfl ?_
          refine tt_getI (q := 113) dX12_readsRing_110 fl_X12_75 oi_102_7 (Nat.le_of_ble_eq_true rfl) rfl ?_
          refine tt_iconst (q := 114) dX12_readsRing_113 ki_1 rfl ?_
          refine tt_iadd (q := 115) dX12_readsRing_114 rfl ?_
          refine tt_putI (q := 118) dX12_readsRing_115 fl_X12_75 oi_102_7 (fp_12_7 _) (Nat.le_of_ble_eq_true rfl) rfl ?_
          replace h := h _ rfl
          refine tt_goto (t := 29) dX12_readsRing_118 rfl ?_
          refine tt_wk (L2 := [_, _, _, _, dum]) ⟨Or.inl rfl, Or.inl rfl, Or.inl rfl, Or.inl rfl, Or.inr rfl, trivial⟩ ?_
          exact h
        · replace h := h.2 ((nI_eq l47 (by decide)).1 c)
          refine tt_iload (q := 90) dX12_readsRing_88 rfl rfl ?_
          refine sti_n_1 (q := 91) dX12_readsRing_90 rfl rfl rfl ?_
          refine tt_goto (t := 102) dX12_readsRing_91 rfl ?_
          refine tt_iload (q := 104) dX12_readsRing_102 rfl rfl ?_
          refine sti_n_2 (q := 105) dX12_readsRing_104 rfl rfl rfl ?_
          refine inc_3 (q := 108) dX12_readsRing_105 (nI_inc1 _) rfl rfl ?_
          refine tt_aload_n (q := 109) dX12_readsRing_108 rfl rfl ?_
          refine tt_dup (q := 110) dX12_readsRing_109 rfl rfl ?_
          refine tt_getI (q := 113) dX12_readsRing_110 fl_X12_75 oi_102_7 (Nat.le_of_ble_eq_true rfl) rfl ?_
          refine tt_iconst (q := 114) dX12_readsRing_113 ki_1 rfl ?_
          refine tt_iadd (q := 115) dX12_readsRing_114 rfl ?_
          refine tt_putI (q := 118) dX12_readsRing_115 fl_X12_75 oi_102_7 (fp_12_7 _) (Nat.le_of_ble_eq_true rfl) rfl ?_
          replace h := h _ rfl
          refine tt_goto (t := 29) dX12_readsRing_118 rfl ?_
          refine tt_wk (L2 := [_, _, _, _, dum]) ⟨Or.inl rfl, Or.inl rfl, Or.inl rfl, Or.inl rfl, Or.inr rfl, trivial⟩ ?_
          exact h
      · replace h := h.2 c
        refine tt_iconst (q := 70) dX12_readsRing_69 ki_0 rfl ?_
        exact tt_iret dX12_readsRing_70 ⟨rfl, _, rfl, Or.inl nI_0, h⟩

theorem g_X12_readsTurn_0 {post : SG → Int32 → Prop} {σ : SG} (h : (∀ s1 : SG, s1 = up σ 102 7 (nI 0) → (∀ s2 : SG, s2 = up s1 102 8 (nI 0) → (∀ s3 : SG, s3 = up s2 107 0 (nI 0) → (∀ s4 : SG, s4 = up s3 107 1 (nI 1) → (∀ s5 : SG, s5 = up s4 107 2 (nI 2) → (∀ s6 : SG, s6 = up s5 107 3 (nI 3) → (∀ s7 : SG, s7 = up s6 107 4 (nI 4) → (∀ s8 : SG, s8 = up s7 107 5 (nI 5) → T_X12_readsTurn AF post 31 [.ref 102, dum] [] s8))))))))) : T_X12_readsTurn AF post 0 [.ref 102, dum] [] σ := by
  refine tt_aload_n (q := 1) dX12_readsTurn_0 rfl rfl ?_
  refine tt_iconst (q := 2) dX12_readsTurn_1 ki_0 rfl ?_
  refine tt_putI (q := 5) dX12_readsTurn_2 fl_X12_75 oi_102_7 (fp_12_7 _) (Nat.le_of_ble_eq_true rfl) rfl ?_
  replace h := h _ rfl
  refine tt_aload_n (q := 6) dX12_readsTurn_5 rfl rfl ?_
  refine tt_iconst (q := 7) dX12_readsTurn_6 ki_0 rfl ?_
  refine tt_putI (q := 10) dX12_readsTurn_7 fl_X12_82 oi_102_8 (fp_12_8 _) (Nat.le_of_ble_eq_true rfl) rfl ?_
  replace h := h _ rfl
  refine tt_iconst (q := 11) dX12_readsTurn_10 ki_0 rfl ?_
  refine sti_n_1 (q := 12) dX12_readsTurn_11 rfl rfl rfl ?_
  refine tt_iload_n (q := 13) dX12_readsTurn_12 rfl rfl ?_
  refine tt_bipush (q := 15) dX12_readsTurn_13 bi_6 rfl ?_
  refine tt_icmp_ge (q := 18) (t := 31) dX12_readsTurn_15 rfl rfl (fun c => absurd c (by decide)) (fun c => ?_)
  clear c
  refine tt_aload_n (q := 19) dX12_readsTurn_18 rfl rfl ?_
  refine tt_getR (q := 22) dX12_readsTurn_19 fl_X12_22 or_102_5 (Nat.le_of_ble_eq_true rfl) rfl rfl ?_
  refine tt_iload_n (q := 23) dX12_readsTurn_22 rfl rfl ?_
  refine tt_iload_n (q := 24) dX12_readsTurn_23 rfl rfl ?_
  refine tt_iast (q := 25) dX12_readsTurn_24 ia_107 (Nat.le_of_ble_eq_true rfl) rfl (Nat.le_of_ble_eq_true rfl : 0 < 9) rfl ?_
  replace h := h _ rfl
  refine inc_1 (v := nI 1) (q := 28) dX12_readsTurn_25 (by decide) rfl rfl ?_
  refine tt_goto (t := 12) dX12_readsTurn_28 rfl ?_
  refine tt_iload_n (q := 13) dX12_readsTurn_12 rfl rfl ?_
  refine tt_bipush (q := 15) dX12_readsTurn_13 bi_6 rfl ?_
  refine tt_icmp_ge (q := 18) (t := 31) dX12_readsTurn_15 rfl rfl (fun c => absurd c (by decide)) (fun c => ?_)
  clear c
  refine tt_aload_n (q := 19) dX12_readsTurn_18 rfl rfl ?_
  refine tt_getR (q := 22) dX12_readsTurn_19 fl_X12_22 or_102_5 (Nat.le_of_ble_eq_true rfl) rfl rfl ?_
  refine tt_iload_n (q := 23) dX12_readsTurn_22 rfl rfl ?_
  refine tt_iload_n (q := 24) dX12_readsTurn_23 rfl rfl ?_
  refine tt_iast (q := 25) dX12_readsTurn_24 ia_107 (Nat.le_of_ble_eq_true rfl) rfl (Nat.le_of_ble_eq_true rfl : 1 < 9) rfl ?_
  replace h := h _ rfl
  refine inc_1 (v := nI 2) (q := 28) dX12_readsTurn_25 (by decide) rfl rfl ?_
  refine tt_goto (t := 12) dX12_readsTurn_28 rfl ?_
  refine tt_iload_n (q := 13) dX12_readsTurn_12 rfl rfl ?_
  refine tt_bipush (q := 15) dX12_readsTurn_13 bi_6 rfl ?_
  refine tt_icmp_ge (q := 18) (t := 31) dX12_readsTurn_15 rfl rfl (fun c => absurd c (by decide)) (fun c => ?_)
  clear c
  refine tt_aload_n (q := 19) dX12_readsTurn_18 rfl rfl ?_
  refine tt_getR (q := 22) dX12_readsTurn_19 fl_X12_22 or_102_5 (Nat.le_of_ble_eq_true rfl) rfl rfl ?_
  refine tt_iload_n (q := 23) dX12_readsTurn_22 rfl rfl ?_
  refine tt_iload_n (q := 24) dX12_readsTurn_23 rfl rfl ?_
  refine tt_iast (q := 25) dX12_readsTurn_24 ia_107 (Nat.le_of_ble_eq_true rfl) rfl (Nat.le_of_ble_eq_true rfl : 2 < 9) rfl ?_
  replace h := h _ rfl
  refine inc_1 (v := nI 3) (q := 28) dX12_readsTurn_25 (by decide) rfl rfl ?_
  refine tt_goto (t := 12) dX12_readsTurn_28 rfl ?_
  refine tt_iload_n (q := 13) dX12_readsTurn_12 rfl rfl ?_
  refine tt_bipush (q := 15) dX12_readsTurn_13 bi_6 rfl ?_
  refine tt_icmp_ge (q := 18) (t := 31) dX12_readsTurn_15 rfl rfl (fun c => absurd c (by decide)) (fun c => ?_)
  clear c
  refine tt_aload_n (q := 19) dX12_readsTurn_18 rfl rfl ?_
  refine tt_getR (q := 22) dX12_readsTurn_19 fl_X12_22 or_102_5 (Nat.le_of_ble_eq_true rfl) rfl rfl ?_
  refine tt_iload_n (q := 23) dX12_readsTurn_22 rfl rfl ?_
  refine tt_iload_n (q := 24) dX12_readsTurn_23 rfl rfl ?_
  refine tt_iast (q := 25) dX12_readsTurn_24 ia_107 (Nat.le_of_ble_eq_true rfl) rfl (Nat.le_of_ble_eq_true rfl : 3 < 9) rfl ?_
  replace h := h _ rfl
  refine inc_1 (v := nI 4) (q := 28) dX12_readsTurn_25 (by decide) rfl rfl ?_
  refine tt_goto (t := 12) dX12_readsTurn_28 rfl ?_
  refine tt_iload_n (q := 13) dX12_readsTurn_12 rfl rfl ?_
  refine tt_bipush (q := 15) dX12_readsTurn_13 bi_6 rfl ?_
  refine tt_icmp_ge (q := 18) (t := 31) dX12_readsTurn_15 rfl rfl (fun c => absurd c (by decide)) (fun c => ?_)
  clear c
  refine tt_aload_n (q := 19) dX12_readsTurn_18 rfl rfl ?_
  refine tt_getR (q := 22) dX12_readsTurn_19 fl_X12_22 or_102_5 (Nat.le_of_ble_eq_true rfl) rfl rfl ?_
  refine tt_iload_n (q := 23) dX12_readsTurn_22 rfl rfl ?_
  refine tt_iload_n (q := 24) dX12_readsTurn_23 rfl rfl ?_
  refine tt_iast (q := 25) dX12_readsTurn_24 ia_107 (Nat.le_of_ble_eq_true rfl) rfl (Nat.le_of_ble_eq_true rfl : 4 < 9) rfl ?_
  replace h := h _ rfl
  refine inc_1 (v := nI 5) (q := 28) dX12_readsTurn_25 (by decide) rfl rfl ?_
  refine tt_goto (t := 12) dX12_readsTurn_28 rfl ?_
  refine tt_iload_n (q := 13) dX12_readsTurn_12 rfl rfl ?_
  refine tt_bipush (q := 15) dX12_readsTurn_13 bi_6 rfl ?_
  refine tt_icmp_ge (q := 18) (t := 31) dX12_readsTurn_15 rfl rfl (fun c => absurd c (by decide)) (fun c => ?_)
  clear c
  refine tt_aload_n (q := 19) dX12_readsTurn_18 rfl rfl ?_
  refine tt_getR (q := 22) dX12_readsTurn_19 fl_X12_22 or_102_5 (Nat.le_of_ble_eq_true rfl) rfl rfl ?_
  refine tt_iload_n (q := 23) dX12_readsTurn_22 rfl rfl ?_
  refine tt_iload_n (q := 24) dX12_readsTurn_23 rfl rfl ?_
  refine tt_iast (q := 25) dX12_readsTurn_24 ia_107 (Nat.le_of_ble_eq_true rfl) rfl (Nat.le_of_ble_eq_true rfl : 5 < 9) rfl ?_
  replace h := h _ rfl
  refine inc_1 (v := nI 6) (q := 28) dX12_readsTurn_25 (by decide) rfl rfl ?_
  refine tt_goto (t := 12) dX12_readsTurn_28 rfl ?_
  refine tt_iload_n (q := 13) dX12_readsTurn_12 rfl rfl ?_
  refine tt_bipush (q := 15) dX12_readsTurn_13 bi_6 rfl ?_
  refine tt_icmp_ge (q := 18) (t := 31) dX12_readsTurn_15 rfl rfl (fun c => ?_) (fun c => absurd c (by decide))
  clear c
  refine tt_wk (L2 := [_, dum]) ⟨Or.inl rfl, Or.inr rfl, trivial⟩ ?_
  exact h
theorem g_X12_readsTurn_31 {post : SG → Int32 → Prop} {σ : SG} (h : (∃ p3 : SG → Int32 → Prop, IN_X12_readsRing AF σ [.ref 102] p3 ∧ ∀ (t2 : SG) (r1 : Int32), p3 t2 r1 → ((¬ r1 = 0 → (((t2 102 7) < (t2 102 6) → T_X12_readsTurn AF post 31 [.ref 102, dum] [] t2) ∧ (¬ (t2 102 7) < (t2 102 6) → post t2 (nI 1)))) ∧ (r1 = 0 → post t2 (nI 0))))) : T_X12_readsTurn AF post 31 [.ref 102, dum] [] σ := by
  refine tt_aload_n (q := 32) dX12_readsTurn_31 rfl rfl ?_
  obtain ⟨p3, hp4, h⟩ := h
  refine callVi_0 (q := 35) dX12_readsTurn_32 (⟨rfl, rfl, hp4⟩) (Nat.le_of_ble_eq_true rfl) rfl (fun t2 r1 hr5 => ?_)
  replace h := h t2 r1 hr5
  refine tt_if_ne (q := 38) (t := 40) dX12_readsTurn_35 rfl rfl (fun c => ?_) (fun c => ?_)
  · replace h := h.1 c
    refine tt_aload_n (q := 41) dX12_readsTurn_40 rfl rfl ?_
    refine tt_getI (q := 44) dX12_readsTurn_41 fl_X12_75 oi_102_7 (Nat.le_of_ble_eq_true rfl) rfl ?_
    refine tt_aload_n (q := 45) dX12_readsTurn_44 rfl rfl ?_
    refine tt_getI (q := 48) dX12_readsTurn_45 fl_X12_69 oi_102_6 (Nat.le_of_ble_eq_true rfl) rfl ?_
    refine tt_icmp_lt (q := 51) (t := 31) dX12_readsTurn_48 rfl rfl (fun c => ?_) (fun c => ?_)
    · replace h := h.1 c
      exact h
    · replace h := h.2 c
      refine tt_iconst (q := 52) dX12_readsTurn_51 ki_1 rfl ?_
      exact tt_iret dX12_readsTurn_52 ⟨rfl, _, rfl, Or.inr rfl, h⟩
  · replace h := h.2 c
    refine tt_iconst (q := 39) dX12_readsTurn_38 ki_0 rfl ?_
    exact tt_iret dX12_readsTurn_39 ⟨rfl, _, rfl, Or.inl nI_0, h⟩

theorem g_X12_turn_0 {post : SG → Int32 → Prop} {σ : SG} (h : ((¬ (σ 104 0) = (nI 6) → (∃ p4 : SG → Int32 → Prop, IN_X12_readsTurn AF σ [.ref 102] p4 ∧ ∀ (t3 : SG) (r2 : Int32), p4 t3 r2 → (∀ s7 : SG, s7 = up t3 102 6 (nI 0) → ((¬ r2 = 0 → (∃ j10 : Nat, (((nI 11) + ((nI 6) * (s7 104 0))) + (nI 0)) = nI j10 ∧ j10 < 197 ∧ (∀ s12 : SG, s12 = up s7 104 j10 (s7 107 0) → (∃ j14 : Nat, (((nI 11) + ((nI 6) * (s12 104 0))) + (nI 1)) = nI j14 ∧ j14 < 197 ∧ (∀ s16 : SG, s16 = up s12 104 j14 (s12 107 1) → (∃ j18 : Nat, (((nI 11) + ((nI 6) * (s16 104 0))) + (nI 2)) = nI j18 ∧ j18 < 197 ∧ (∀ s20 : SG, s20 = up s16 104 j18 (s16 107 2) → (∃ j22 : Nat, (((nI 11) + ((nI 6) * (s20 104 0))) + (nI 3)) = nI j22 ∧ j22 < 197 ∧ (∀ s24 : SG, s24 = up s20 104 j22 (s20 107 3) → (∃ j26 : Nat, (((nI 11) + ((nI 6) * (s24 104 0))) + (nI 4)) = nI j26 ∧ j26 < 197 ∧ (∀ s28 : SG, s28 = up s24 104 j26 (s24 107 4) → (∃ j30 : Nat, (((nI 11) + ((nI 6) * (s28 104 0))) + (nI 5)) = nI j30 ∧ j30 < 197 ∧ (∀ s32 : SG, s32 = up s28 104 j30 (s28 107 5) → (∀ s33 : SG, s33 = up s32 104 0 ((s32 104 0) + (nI 1)) → post s33 ((s33 104 0) - (nI 1)))))))))))))))) ∧ (r2 = 0 → post s7 ((-20 : Int32) - (s7 102 7))))))) ∧ ((σ 104 0) = (nI 6) → (∀ s36 : SG, s36 = up σ 103 6 ((σ 103 6) + (nI 1)) → post s36 (-6 : Int32))))) : T_X12_turn AF post 0 [.ref 102, dum, dum] [] σ := by
  refine tt_aload_n (q := 1) dX12_turn_0 rfl rfl ?_
  refine tt_getR (q := 4) dX12_turn_1 fl_X12_13 or_102_1 (Nat.le_of_ble_eq_true rfl) rfl rfl ?_
  refine tt_iconst (q := 5) dX12_turn_4 ki_0 rfl ?_
  refine tt_iald (q := 6) dX12_turn_5 ia_104 (Nat.le_of_ble_eq_true rfl) rfl (Nat.le_of_ble_eq_true rfl : 0 < 197) rfl ?_
  refine tt_bipush (q := 8) dX12_turn_6 bi_6 rfl ?_
  refine tt_icmp_ne (q := 11) (t := 18) dX12_turn_8 rfl rfl (fun c => ?_) (fun c => ?_)
  · replace h := h.1 c
    refine tt_aload_n (q := 19) dX12_turn_18 rfl rfl ?_
    obtain ⟨p4, hp5, h⟩ := h
    refine callVi_0 (q := 22) dX12_turn_19 (Or.inr (⟨rfl, rfl, hp5⟩)) (Nat.le_of_ble_eq_true rfl) rfl (fun t3 r2 hr6 => ?_)
    replace h := h t3 r2 hr6
    refine sti_n_1 (q := 23) dX12_turn_22 rfl rfl rfl ?_
    refine tt_aload_n (q := 24) dX12_turn_23 rfl rfl ?_
    refine tt_iconst (q := 25) dX12_turn_24 ki_0 rfl ?_
    refine tt_putI (q := 28) dX12_turn_25 fl_X12_69 oi_102_6 (fp_12_6 _) (Nat.le_of_ble_eq_true rfl) rfl ?_
    replace h := h _ rfl
    refine tt_iload_n (q := 29) dX12_turn_28 rfl rfl ?_
    refine tt_if_ne (q := 32) (t := 40) dX12_turn_29 rfl rfl (fun c => ?_) (fun c => ?_)
    · replace h := h.1 c
      refine tt_iconst (q := 41) dX12_turn_40 ki_0 rfl ?_
      refine sti_n_2 (q := 42) dX12_turn_41 rfl rfl rfl ?_
      refine tt_iload_n (q := 43) dX12_turn_42 rfl rfl ?_
      refine tt_bipush (q := 45) dX12_turn_43 bi_6 rfl ?_
      refine tt_icmp_ge (q := 48) (t := 79) dX12_turn_45 rfl rfl (fun c => absurd c (by decide)) (fun c => ?_)
      clear c
      refine tt_aload_n (q := 49) dX12_turn_48 rfl rfl ?_
      refine tt_getR (q := 52) dX12_turn_49 fl_X12_13 or_102_1 (Nat.le_of_ble_eq_true rfl) rfl rfl ?_
      refine tt_bipush (q := 54) dX12_turn_52 bi_11 rfl ?_
      refine tt_bipush (q := 56) dX12_turn_54 bi_6 rfl ?_
      refine tt_aload_n (q := 57) dX12_turn_56 rfl rfl ?_
      refine tt_getR (q := 60) dX12_turn_57 fl_X12_13 or_102_1 (Nat.le_of_ble_eq_true rfl) rfl rfl ?_
      refine tt_iconst (q := 61) dX12_turn_60 ki_0 rfl ?_
      refine tt_iald (q := 62) dX12_turn_61 ia_104 (Nat.le_of_ble_eq_true rfl) rfl (Nat.le_of_ble_eq_true rfl : 0 < 197) rfl ?_
      refine tt_imul (q := 63) dX12_turn_62 rfl ?_
      refine tt_iadd (q := 64) dX12_turn_63 rfl ?_
      refine tt_iload_n (q := 65) dX12_turn_64 rfl rfl ?_
      refine tt_iadd (q := 66) dX12_turn_65 rfl ?_
      refine tt_aload_n (q := 67) dX12_turn_66 rfl rfl ?_
      refine tt_getR (q := 70) dX12_turn_67 fl_X12_22 or_102_5 (Nat.le_of_ble_eq_true rfl) rfl rfl ?_
      refine tt_iload_n (q := 71) dX12_turn_70 rfl rfl ?_
      refine tt_iald (q := 72) dX12_turn_71 ia_107 (Nat.le_of_ble_eq_true rfl) rfl (Nat.le_of_ble_eq_true rfl : 0 < 9) rfl ?_
      obtain ⟨j10, e11, l9, h⟩ := h
      refine tt_iast (q := 73) dX12_turn_72 ia_104 (Nat.le_of_ble_eq_true rfl) e11 l9 rfl ?_
      replace h := h _ rfl
      refine inc_2 (v := nI 1) (q := 76) dX12_turn_73 (by decide) rfl rfl ?_
      refine tt_goto (t := 42) dX12_turn_76 rfl ?_
      refine tt_iload_n (q := 43) dX12_turn_42 rfl rfl ?_
      refine tt_bipush (q := 45) dX12_turn_43 bi_6 rfl ?_
      refine tt_icmp_ge (q := 48) (t := 79) dX12_turn_45 rfl rfl (fun c => absurd c (by decide)) (fun c => ?_)
      clear c
      refine tt_aload_n (q := 49) dX12_turn_48 rfl rfl ?_
      refine tt_getR (q := 52) dX12_turn_49 fl_X12_13 or_102_1 (Nat.le_of_ble_eq_true rfl) rfl rfl ?_
      refine tt_bipush (q := 54) dX12_turn_52 bi_11 rfl ?_
      refine tt_bipush (q := 56) dX12_turn_54 bi_6 rfl ?_
      refine tt_aload_n (q := 57) dX12_turn_56 rfl rfl ?_
      refine tt_getR (q := 60) dX12_turn_57 fl_X12_13 or_102_1 (Nat.le_of_ble_eq_true rfl) rfl rfl ?_
      refine tt_iconst (q := 61) dX12_turn_60 ki_0 rfl ?_
      refine tt_iald (q := 62) dX12_turn_61 ia_104 (Nat.le_of_ble_eq_true rfl) rfl (Nat.le_of_ble_eq_true rfl : 0 < 197) rfl ?_
      refine tt_imul (q := 63) dX12_turn_62 rfl ?_
      refine tt_iadd (q := 64) dX12_turn_63 rfl ?_
      refine tt_iload_n (q := 65) dX12_turn_64 rfl rfl ?_
      refine tt_iadd (q := 66) dX12_turn_65 rfl ?_
      refine tt_aload_n (q := 67) dX12_turn_66 rfl rfl ?_
      refine tt_getR (q := 70) dX12_turn_67 fl_X12_22 or_102_5 (Nat.le_of_ble_eq_true rfl) rfl rfl ?_
      refine tt_iload_n (q := 71) dX12_turn_70 rfl rfl ?_
      refine tt_iald (q := 72) dX12_turn_71 ia_107 (Nat.le_of_ble_eq_true rfl) rfl (Nat.le_of_ble_eq_true rfl : 1 < 9) rfl ?_
      obtain ⟨j14, e15, l13, h⟩ := h
      refine tt_iast (q := 73) dX12_turn_72 ia_104 (Nat.le_of_ble_eq_true rfl) e15 l13 rfl ?_
      replace h := h _ rfl
      refine inc_2 (v := nI 2) (q := 76) dX12_turn_73 (by decide) rfl rfl ?_
      refine tt_goto (t := 42) dX12_turn_76 rfl ?_
      refine tt_iload_n (q := 43) dX12_turn_42 rfl rfl ?_
      refine tt_bipush (q := 45) dX12_turn_43 bi_6 rfl ?_
      refine tt_icmp_ge (q := 48) (t := 79) dX12_turn_45 rfl rfl (fun c => absurd c (by decide)) (fun c => ?_)
      clear c
      refine tt_aload_n (q := 49) dX12_turn_48 rfl rfl ?_
      refine tt_getR (q := 52) dX12_turn_49 fl_X12_13 or_102_1 (Nat.le_of_ble_eq_true rfl) rfl rfl ?_
      refine tt_bipush (q := 54) dX12_turn_52 bi_11 rfl ?_
      refine tt_bipush (q := 56) dX12_turn_54 bi_6 rfl ?_
      refine tt_aload_n (q := 57) dX12_turn_56 rfl rfl ?_
      refine tt_getR (q := 60) dX12_turn_57 fl_X12_13 or_102_1 (Nat.le_of_ble_eq_true rfl) rfl rfl ?_
      refine tt_iconst (q := 61) dX12_turn_60 ki_0 rfl ?_
      refine tt_iald (q := 62) dX12_turn_61 ia_104 (Nat.le_of_ble_eq_true rfl) rfl (Nat.le_of_ble_eq_true rfl : 0 < 197) rfl ?_
      refine tt_imul (q := 63) dX12_turn_62 rfl ?_
      refine tt_iadd (q := 64) dX12_turn_63 rfl ?_
      refine tt_iload_n (q := 65) dX12_turn_64 rfl rfl ?_
      refine tt_iadd (q := 66) dX12_turn_65 rfl ?_
      refine tt_aload_n (q := 67) dX12_turn_66 rfl rfl ?_
      refine tt_getR (q := 70) dX12_turn_67 fl_X12_22 or_102_5 (Nat.le_of_ble_eq_true rfl) rfl rfl ?_
      refine tt_iload_n (q := 71) dX12_turn_70 rfl rfl ?_
      refine tt_iald (q := 72) dX12_turn_71 ia_107 (Nat.le_of_ble_eq_true rfl) rfl (Nat.le_of_ble_eq_true rfl : 2 < 9) rfl ?_
      obtain ⟨j18, e19, l17, h⟩ := h
      refine tt_iast (q := 73) dX12_turn_72 ia_104 (Nat.le_of_ble_eq_true rfl) e19 l17 rfl ?_
      replace h := h _ rfl
      refine inc_2 (v := nI 3) (q := 76) dX12_turn_73 (by decide) rfl rfl ?_
      refine tt_goto (t := 42) dX12_turn_76 rfl ?_
      refine tt_iload_n (q := 43) dX12_turn_42 rfl rfl ?_
      refine tt_bipush (q := 45) dX12_turn_43 bi_6 rfl ?_
      refine tt_icmp_ge (q := 48) (t := 79) dX12_turn_45 rfl rfl (fun c => absurd c (by decide)) (fun c => ?_)
      clear c
      refine tt_aload_n (q := 49) dX12_turn_48 rfl rfl ?_
      refine tt_getR (q := 52) dX12_turn_49 fl_X12_13 or_102_1 (Nat.le_of_ble_eq_true rfl) rfl rfl ?_
      refine tt_bipush (q := 54) dX12_turn_52 bi_11 rfl ?_
      refine tt_bipush (q := 56) dX12_turn_54 bi_6 rfl ?_
      refine tt_aload_n (q := 57) dX12_turn_56 rfl rfl ?_
      refine tt_getR (q := 60) dX12_turn_57 fl_X12_13 or_102_1 (Nat.le_of_ble_eq_true rfl) rfl rfl ?_
      refine tt_iconst (q := 61) dX12_turn_60 ki_0 rfl ?_
      refine tt_iald (q := 62) dX12_turn_61 ia_104 (Nat.le_of_ble_eq_true rfl) rfl (Nat.le_of_ble_eq_true rfl : 0 < 197) rfl ?_
      refine tt_imul (q := 63) dX12_turn_62 rfl ?_
      refine tt_iadd (q := 64) dX12_turn_63 rfl ?_
      refine tt_iload_n (q := 65) dX12_turn_64 rfl rfl ?_
      refine tt_iadd (q := 66) dX12_turn_65 rfl ?_
      refine tt_aload_n (q := 67) dX12_turn_66 rfl rfl ?_
      refine tt_getR (q := 70) dX12_turn_67 fl_X12_22 or_102_5 (Nat.le_of_ble_eq_true rfl) rfl rfl ?_
      refine tt_iload_n (q := 71) dX12_turn_70 rfl rfl ?_
      refine tt_iald (q := 72) dX12_turn_71 ia_107 (Nat.le_of_ble_eq_true rfl) rfl (Nat.le_of_ble_eq_true rfl : 3 < 9) rfl ?_
      obtain ⟨j22, e23, l21, h⟩ := h
      refine tt_iast (q := 73) dX12_turn_72 ia_104 (Nat.le_of_ble_eq_true rfl) e23 l21 rfl ?_
      replace h := h _ rfl
      refine inc_2 (v := nI 4) (q := 76) dX12_turn_73 (by decide) rfl rfl ?_
      refine tt_goto (t := 42) dX12_turn_76 rfl ?_
      refine tt_iload_n (q := 43) dX12_turn_42 rfl rfl ?_
      refine tt_bipush (q := 45) dX12_turn_43 bi_6 rfl ?_
      refine tt_icmp_ge (q := 48) (t := 79) dX12_turn_45 rfl rfl (fun c => absurd c (by decide)) (fun c => ?_)
      clear c
      refine tt_aload_n (q := 49) dX12_turn_48 rfl rfl ?_
      refine tt_getR (q := 52) dX12_turn_49 fl_X12_13 or_102_1 (Nat.le_of_ble_eq_true rfl) rfl rfl ?_
      refine tt_bipush (q := 54) dX12_turn_52 bi_11 rfl ?_
      refine tt_bipush (q := 56) dX12_turn_54 bi_6 rfl ?_
      refine tt_aload_n (q := 57) dX12_turn_56 rfl rfl ?_
      refine tt_getR (q := 60) dX12_turn_57 fl_X12_13 or_102_1 (Nat.le_of_ble_eq_true rfl) rfl rfl ?_
      refine tt_iconst (q := 61) dX12_turn_60 ki_0 rfl ?_
      refine tt_iald (q := 62) dX12_turn_61 ia_104 (Nat.le_of_ble_eq_true rfl) rfl (Nat.le_of_ble_eq_true rfl : 0 < 197) rfl ?_
      refine tt_imul (q := 63) dX12_turn_62 rfl ?_
      refine tt_iadd (q := 64) dX12_turn_63 rfl ?_
      refine tt_iload_n (q := 65) dX12_turn_64 rfl rfl ?_
      refine tt_iadd (q := 66) dX12_turn_65 rfl ?_
      refine tt_aload_n (q := 67) dX12_turn_66 rfl rfl ?_
      refine tt_getR (q := 70) dX12_turn_67 fl_X12_22 or_102_5 (Nat.le_of_ble_eq_true rfl) rfl rfl ?_
      refine tt_iload_n (q := 71) dX12_turn_70 rfl rfl ?_
      refine tt_iald (q := 72) dX12_turn_71 ia_107 (Nat.le_of_ble_eq_true rfl) rfl (Nat.le_of_ble_eq_true rfl : 4 < 9) rfl ?_
      obtain ⟨j26, e27, l25, h⟩ := h
      refine tt_iast (q := 73) dX12_turn_72 ia_104 (Nat.le_of_ble_eq_true rfl) e27 l25 rfl ?_
      replace h := h _ rfl
      refine inc_2 (v := nI 5) (q := 76) dX12_turn_73 (by decide) rfl rfl ?_
      refine tt_goto (t := 42) dX12_turn_76 rfl ?_
      refine tt_iload_n (q := 43) dX12_turn_42 rfl rfl ?_
      refine tt_bipush (q := 45) dX12_turn_43 bi_6 rfl ?_
      refine tt_icmp_ge (q := 48) (t := 79) dX12_turn_45 rfl rfl (fun c => absurd c (by decide)) (fun c => ?_)
      clear c
      refine tt_aload_n (q := 49) dX12_turn_48 rfl rfl ?_
      refine tt_getR (q := 52) dX12_turn_49 fl_X12_13 or_102_1 (Nat.le_of_ble_eq_true rfl) rfl rfl ?_
      refine tt_bipush (q := 54) dX12_turn_52 bi_11 rfl ?_
      refine tt_bipush (q := 56) dX12_turn_54 bi_6 rfl ?_
      refine tt_aload_n (q := 57) dX12_turn_56 rfl rfl ?_
      refine tt_getR (q := 60) dX12_turn_57 fl_X12_13 or_102_1 (Nat.le_of_ble_eq_true rfl) rfl rfl ?_
      refine tt_iconst (q := 61) dX12_turn_60 ki_0 rfl ?_
      refine tt_iald (q := 62) dX12_turn_61 ia_104 (Nat.le_of_ble_eq_true rfl) rfl (Nat.le_of_ble_eq_true rfl : 0 < 197) rfl ?_
      refine tt_imul (q := 63) dX12_turn_62 rfl ?_
      refine tt_iadd (q := 64) dX12_turn_63 rfl ?_
      refine tt_iload_n (q := 65) dX12_turn_64 rfl rfl ?_
      refine tt_iadd (q := 66) dX12_turn_65 rfl ?_
      refine tt_aload_n (q := 67) dX12_turn_66 rfl rfl ?_
      refine tt_getR (q := 70) dX12_turn_67 fl_X12_22 or_102_5 (Nat.le_of_ble_eq_true rfl) rfl rfl ?_
      refine tt_iload_n (q := 71) dX12_turn_70 rfl rfl ?_
      refine tt_iald (q := 72) dX12_turn_71 ia_107 (Nat.le_of_ble_eq_true rfl) rfl (Nat.le_of_ble_eq_true rfl : 5 < 9) rfl ?_
      obtain ⟨j30, e31, l29, h⟩ := h
      refine tt_iast (q := 73) dX12_turn_72 ia_104 (Nat.le_of_ble_eq_true rfl) e31 l29 rfl ?_
      replace h := h _ rfl
      refine inc_2 (v := nI 6) (q := 76) dX12_turn_73 (by decide) rfl rfl ?_
      refine tt_goto (t := 42) dX12_turn_76 rfl ?_
      refine tt_iload_n (q := 43) dX12_turn_42 rfl rfl ?_
      refine tt_bipush (q := 45) dX12_turn_43 bi_6 rfl ?_
      refine tt_icmp_ge (q := 48) (t := 79) dX12_turn_45 rfl rfl (fun c => ?_) (fun c => absurd c (by decide))
      clear c
      refine tt_aload_n (q := 80) dX12_turn_79 rfl rfl ?_
      refine tt_getR (q := 83) dX12_turn_80 fl_X12_13 or_102_1 (Nat.le_of_ble_eq_true rfl) rfl rfl ?_
      refine tt_iconst (q := 84) dX12_turn_83 ki_0 rfl ?_
      refine tt_dup2 (q := 85) dX12_turn_84 rfl rfl rfl ?_
      refine tt_iald (q := 86) dX12_turn_85 ia_104 (Nat.le_of_ble_eq_true rfl) rfl (Nat.le_of_ble_eq_true rfl : 0 < 197) rfl ?_
      refine tt_iconst (q := 87) dX12_turn_86 ki_1 rfl ?_
      refine tt_iadd (q := 88) dX12_turn_87 rfl ?_
      refine tt_iast (q := 89) dX12_turn_88 ia_104 (Nat.le_of_ble_eq_true rfl) rfl (Nat.le_of_ble_eq_true rfl : 0 < 197) rfl ?_
      replace h := h _ rfl
      refine tt_aload_n (q := 90) dX12_turn_89 rfl rfl ?_
      refine tt_getR (q := 93) dX12_turn_90 fl_X12_13 or_102_1 (Nat.le_of_ble_eq_true rfl) rfl rfl ?_
      refine tt_iconst (q := 94) dX12_turn_93 ki_0 rfl ?_
      refine tt_iald (q := 95) dX12_turn_94 ia_104 (Nat.le_of_ble_eq_true rfl) rfl (Nat.le_of_ble_eq_true rfl : 0 < 197) rfl ?_
      refine tt_iconst (q := 96) dX12_turn_95 ki_1 rfl ?_
      refine tt_isub (q := 97) dX12_turn_96 rfl ?_
      exact tt_iret dX12_turn_97 ⟨rfl, _, rfl, h⟩
    · replace h := h.2 c
      refine tt_bipush (q := 34) dX12_turn_32 bi_m20 rfl ?_
      refine tt_aload_n (q := 35) dX12_turn_34 rfl rfl ?_
      refine tt_getI (q := 38) dX12_turn_35 fl_X12_75 oi_102_7 (Nat.le_of_ble_eq_true rfl) rfl ?_
      refine tt_isub (q := 39) dX12_turn_38 rfl ?_
      exact tt_iret dX12_turn_39 ⟨rfl, _, rfl, h⟩
  · replace h := h.2 c
    refine tt_aload_n (q := 12) dX12_turn_11 rfl rfl ?_
    refine tt_bipush (q := 14) dX12_turn_12 bi_m6 rfl ?_
    refine callVi_1 (q := 17) dX12_turn_14 (Or.inl ⟨rfl, rfl, ⟨⟨_, _, rfl, rfl, (Nat.le_of_ble_eq_true rfl), rc_102⟩, Nat.le_of_ble_eq_true rfl, ?_⟩⟩) (Nat.le_of_ble_eq_true rfl) rfl (fun t35 r34 ht35 => ht35)
    refine (show TT cX12_refuse RX12 false CT0 CN0 _ _ _ none 0 [_, _] [] _ _ from ?_)
    refine tt_aload_n (q := 1) dX12_refuse_0 rfl rfl ?_
    refine tt_getR (q := 4) dX12_refuse_1 fl_X12_7 or_102_0 (Nat.le_of_ble_eq_true rfl) rfl rfl ?_
    refine tt_iload_n (q := 5) dX12_refuse_4 rfl rfl ?_
    refine tt_inegE (v := nI 6) (q := 6) dX12_refuse_5 (by decide) rfl ?_
    refine tt_dup2 (q := 7) dX12_refuse_6 rfl rfl rfl ?_
    refine tt_iald (q := 8) dX12_refuse_7 ia_103 (Nat.le_of_ble_eq_true rfl) rfl (Nat.le_of_ble_eq_true rfl : 6 < 7) rfl ?_
    refine tt_iconst (q := 9) dX12_refuse_8 ki_1 rfl ?_
    refine tt_iadd (q := 10) dX12_refuse_9 rfl ?_
    refine tt_iast (q := 11) dX12_refuse_10 ia_103 (Nat.le_of_ble_eq_true rfl) rfl (Nat.le_of_ble_eq_true rfl : 6 < 7) rfl ?_
    replace h := h _ rfl
    refine tt_iload_n (q := 12) dX12_refuse_11 rfl rfl ?_
    refine tt_iret dX12_refuse_12 ⟨rfl, _, rfl, ?_⟩
    exact tt_iret dX12_turn_17 ⟨rfl, _, rfl, h⟩

theorem g_X12_readsRow_0 {post : SG → Int32 → Prop} {σ : SG} (h : (∀ s1 : SG, s1 = up σ 102 7 (nI 0) → T_X12_readsRow AF post 7 [.ref 102, .int (nI 0), dum, dum] [] s1)) : T_X12_readsRow AF post 0 [.ref 102, dum, dum, dum] [] σ := by
  refine tt_aload_n (q := 1) dX12_readsRow_0 rfl rfl ?_
  refine tt_iconst (q := 2) dX12_readsRow_1 ki_0 rfl ?_
  refine tt_putI (q := 5) dX12_readsRow_2 fl_X12_75 oi_102_7 (fp_12_7 _) (Nat.le_of_ble_eq_true rfl) rfl ?_
  replace h := h _ rfl
  refine tt_iconst (q := 6) dX12_readsRow_5 ki_0 rfl ?_
  refine sti_n_1 (q := 7) dX12_readsRow_6 rfl rfl rfl ?_
  exact h
theorem g_X12_readsRow_7 {post : SG → Int32 → Prop} {σ : SG} {n : Nat} (h : (∃ p3 : SG → Int32 → Prop, IN_X12_sign AF σ [.ref 102] p3 ∧ ∀ (t2 : SG) (r1 : Int32), p3 t2 r1 → (∃ p8 : SG → Int32 → Prop, IN_X12_sign AF t2 [.ref 102] p8 ∧ ∀ (t7 : SG) (r6 : Int32), p8 t7 r6 → ((r6 < (nI 48) → post t7 (nI 0)) ∧ (¬ r6 < (nI 48) → (((r1 - (nI 48)) < 0 → post t7 (nI 0)) ∧ (¬ (r1 - (nI 48)) < 0 → (((t7 104 0) ≤ (r1 - (nI 48)) → post t7 (nI 0)) ∧ (¬ (t7 104 0) ≤ (r1 - (nI 48)) → (n < 2 ^ 31 ∧ ((¬ n = 8 → (∀ s18 : SG, s18 = up t7 102 7 ((t7 102 7) + (nI 1)) → (∃ p21 : SG → Int32 → Prop, IN_X12_sign AF s18 [.ref 102] p21 ∧ ∀ (t20 : SG) (r19 : Int32), p21 t20 r19 → ((¬ r19 = (nI 39) → (∀ s25 : SG, s25 = up t20 102 7 ((t20 102 7) + (nI 0)) → (n + 1 < 9 ∧ (∀ s27 : SG, s27 = up s25 107 (n + 1) (((nI 2) * (r1 - (nI 48))) + (nI 0)) → (((s27 102 7) < (s27 102 6) → T_X12_readsRow AF post 7 [.ref 102, .int (nI (n + 1)), dum, dum] [] s27) ∧ (¬ (s27 102 7) < (s27 102 6) → (∀ s29 : SG, s29 = up s27 107 0 (nI (n + 1)) → post s29 (nI 1)))))))) ∧ (r19 = (nI 39) → (∀ s30 : SG, s30 = up t20 102 7 ((t20 102 7) + (nI 1)) → (n + 1 < 9 ∧ (∀ s32 : SG, s32 = up s30 107 (n + 1) (((nI 2) * (r1 - (nI 48))) + (nI 1)) → (((s32 102 7) < (s32 102 6) → T_X12_readsRow AF post 7 [.ref 102, .int (nI (n + 1)), dum, dum] [] s32) ∧ (¬ (s32 102 7) < (s32 102 6) → (∀ s34 : SG, s34 = up s32 107 0 (nI (n + 1)) → post s34 (nI 1)))))))))))) ∧ (n = 8 → post t7 (nI 0))))))))))))) : T_X12_readsRow AF post 7 [.ref 102, .int (nI n), dum, dum] [] σ := by
  refine tt_aload_n (q := 8) dX12_readsRow_7 rfl rfl ?_
  obtain ⟨p3, hp4, h⟩ := h
  refine callVi_0 (q := 11) dX12_readsRow_8 (Or.inl ⟨rfl, rfl, hp4⟩) (Nat.le_of_ble_eq_true rfl) rfl (fun t2 r1 hr5 => ?_)
  replace h := h t2 r1 hr5
  refine tt_bipush (q := 13) dX12_readsRow_11 bi_48 rfl ?_
  refine tt_isub (q := 14) dX12_readsRow_13 rfl ?_
  refine sti_n_2 (q := 15) dX12_readsRow_14 rfl rfl rfl ?_
  refine tt_aload_n (q := 16) dX12_readsRow_15 rfl rfl ?_
  obtain ⟨p8, hp9, h⟩ := h
  refine callVi_0 (q := 19) dX12_readsRow_16 (Or.inl ⟨rfl, rfl, hp9⟩) (Nat.le_of_ble_eq_true rfl) rfl (fun t7 r6 hr10 => ?_)
  replace h := h t7 r6 hr10
  refine tt_bipush (q := 21) dX12_readsRow_19 bi_48 rfl ?_
  refine tt_icmp_lt (q := 24) (t := 43) dX12_readsRow_21 rfl rfl (fun c => ?_) (fun c => ?_)
  · replace h := h.1 c
    refine tt_iconst (q := 44) dX12_readsRow_43 ki_0 rfl ?_
    exact tt_iret dX12_readsRow_44 ⟨rfl, _, rfl, Or.inl nI_0, h⟩
  · replace h := h.2 c
    refine tt_iload_n (q := 25) dX12_readsRow_24 rfl rfl ?_
    refine tt_aload_n (q := 26) dX12_readsRow_25 rfl rfl ?_
    refine tt_getR (q := 29) dX12_readsRow_26 fl_X12_13 or_102_1 (Nat.le_of_ble_eq_true rfl) rfl rfl ?_
    refine tt_iconst (q := 30) dX12_readsRow_29 ki_0 rfl ?_
    refine tt_iald (q := 31) dX12_readsRow_30 ia_104 (Nat.le_of_ble_eq_true rfl) rfl (Nat.le_of_ble_eq_true rfl : 0 < 197) rfl ?_
    refine callSi_2 (q := 34) dX12_readsRow_31 (Or.inr (⟨rfl, rfl, ⟨rfl, Nat.le_of_ble_eq_true rfl, ?_⟩⟩)) (Nat.le_of_ble_eq_true rfl) rfl (fun t13 r12 ht13 => ht13)
    refine (show TT cX12_isIn RX12 false CT0 CN0 _ _ _ none 0 [_, _] [] _ _ from ?_)
    refine tt_iload_n (q := 1) dX12_isIn_0 rfl rfl ?_
    refine tt_if_lt (q := 4) (t := 13) dX12_isIn_1 rfl rfl (fun c => ?_) (fun c => ?_)
    · replace h := h.1 c
      refine tt_iconst (q := 14) dX12_isIn_13 ki_0 rfl ?_
      refine tt_iret dX12_isIn_14 ⟨rfl, _, rfl, Or.inl nI_0, ?_⟩
      refine tt_if_eq (q := 37) (t := 43) dX12_readsRow_34 rfl rfl (fun c => ?_) (fun c => absurd c (by decide))
      clear c
      refine tt_iconst (q := 44) dX12_readsRow_43 ki_0 rfl ?_
      exact tt_iret dX12_readsRow_44 ⟨rfl, _, rfl, Or.inl nI_0, h⟩
    · replace h := h.2 c
      refine tt_iload_n (q := 5) dX12_isIn_4 rfl rfl ?_
      refine tt_iload_n (q := 6) dX12_isIn_5 rfl rfl ?_
      refine tt_icmp_ge (q := 9) (t := 13) dX12_isIn_6 rfl rfl (fun c => ?_) (fun c => ?_)
      · replace h := h.1 c
        refine tt_iconst (q := 14) dX12_isIn_13 ki_0 rfl ?_
        refine tt_iret dX12_isIn_14 ⟨rfl, _, rfl, Or.inl nI_0, ?_⟩
        refine tt_if_eq (q := 37) (t := 43) dX12_readsRow_34 rfl rfl (fun c => ?_) (fun c => absurd c (by decide))
        clear c
        refine tt_iconst (q := 44) dX12_readsRow_43 ki_0 rfl ?_
        exact tt_iret dX12_readsRow_44 ⟨rfl, _, rfl, Or.inl nI_0, h⟩
      · replace h := h.2 c
        refine tt_iconst (q := 10) dX12_isIn_9 ki_1 rfl ?_
        refine tt_goto (t := 14) dX12_isIn_10 rfl ?_
        refine tt_iret dX12_isIn_14 ⟨rfl, _, rfl, Or.inr rfl, ?_⟩
        refine tt_if_eq (q := 37) (t := 43) dX12_readsRow_34 rfl rfl (fun c => absurd c (by decide)) (fun c => ?_)
        clear c
        refine tt_iload_n (q := 38) dX12_readsRow_37 rfl rfl ?_
        refine tt_bipush (q := 40) dX12_readsRow_38 bi_8 rfl ?_
        obtain ⟨l17, h⟩ := h
        refine tt_icmp_ne (q := 43) (t := 45) dX12_readsRow_40 rfl rfl (fun c => ?_) (fun c => ?_)
        · replace h := h.1 (fun z => c ((nI_eq l17 (by decide)).2 z))
          refine tt_aload_n (q := 46) dX12_readsRow_45 rfl rfl ?_
          refine tt_dup (q := 47) dX12_readsRow_46 rfl rfl ?_
          refine tt_getI (q := 50) dX12_readsRow_47 fl_X12_75 oi_102_7 (Nat.le_of_ble_eq_true rfl) rfl ?_
          refine tt_iconst (q := 51) dX12_readsRow_50 ki_1 rfl ?_
          refine tt_iadd (q := 52) dX12_readsRow_51 rfl ?_
          refine tt_putI (q := 55) dX12_readsRow_52 fl_X12_75 oi_102_7 (fp_12_7 _) (Nat.le_of_ble_eq_true rfl) rfl ?_
          replace h := h _ rfl
          refine tt_aload_n (q := 56) dX12_readsRow_55 rfl rfl ?_
          obtain ⟨p21, hp22, h⟩ := h
          refine callVi_0 (q := 59) dX12_readsRow_56 (Or.inl ⟨rfl, rfl, hp22⟩) (Nat.le_of_ble_eq_true rfl) rfl (fun t20 r19 hr23 => ?_)
          replace h := h t20 r19 hr23
          refine tt_bipush (q := 61) dX12_readsRow_59 bi_39 rfl ?_
          refine tt_icmp_ne (q := 64) (t := 68) dX12_readsRow_61 rfl rfl (fun c => ?_) (fun c => ?_)
          · replace h := h.1 c
            refine tt_iconst (q := 69) dX12_readsRow_68 ki_0 rfl ?_
            refine sti_n_3 (q := 70) dX12_readsRow_69 rfl rfl rfl ?_
            refine tt_aload_n (q := 71) dX12_readsRow_70 rfl rfl ?_
            refine tt_dup (q := 72) dX12_readsRow_71 rfl rfl ?_
            refine tt_getI (q := 75) dX12_readsRow_72 fl_X12_75 oi_102_7 (Nat.le_of_ble_eq_true rfl) rfl ?_
            refine tt_iload_n (q := 76) dX12_readsRow_75 rfl rfl ?_
            refine tt_if_eq (q := 79) (t := 83) dX12_readsRow_76 rfl rfl (fun c => ?_) (fun c => absurd c (by decide))
            clear c
            refine tt_iconst (q := 84) dX12_readsRow_83 ki_0 rfl ?_
            refine tt_iadd (q := 85) dX12_readsRow_84 rfl ?_
            refine tt_putI (q := 88) dX12_readsRow_85 fl_X12_75 oi_102_7 (fp_12_7 _) (Nat.le_of_ble_eq_true rfl) rfl ?_
            replace h := h _ rfl
            refine inc_1 (q := 91) dX12_readsRow_88 (nI_inc1 _) rfl rfl ?_
            refine tt_aload_n (q := 92) dX12_readsRow_91 rfl rfl ?_
            refine tt_getR (q := 95) dX12_readsRow_92 fl_X12_22 or_102_5 (Nat.le_of_ble_eq_true rfl) rfl rfl ?_
            refine tt_iload_n (q := 96) dX12_readsRow_95 rfl rfl ?_
            refine tt_iconst (q := 97) dX12_readsRow_96 ki_2 rfl ?_
            refine tt_iload_n (q := 98) dX12_readsRow_97 rfl rfl ?_
            refine tt_imul (q := 99) dX12_readsRow_98 rfl ?_
            refine tt_iload_n (q := 100) dX12_readsRow_99 rfl rfl ?_
            refine tt_if_eq (q := 103) (t := 107) dX12_readsRow_100 rfl rfl (fun c => ?_) (fun c => absurd c (by decide))
            clear c
            refine tt_iconst (q := 108) dX12_readsRow_107 ki_0 rfl ?_
            refine tt_iadd (q := 109) dX12_readsRow_108 rfl ?_
            obtain ⟨l26, h⟩ := h
            refine tt_iast (q := 110) dX12_readsRow_109 ia_107 (Nat.le_of_ble_eq_true rfl) rfl l26 rfl ?_
            replace h := h _ rfl
            refine tt_aload_n (q := 111) dX12_readsRow_110 rfl rfl ?_
            refine tt_getI (q := 114) dX12_readsRow_111 fl_X12_75 oi_102_7 (Nat.le_of_ble_eq_true rfl) rfl ?_
            refine tt_aload_n (q := 115) dX12_readsRow_114 rfl rfl ?_
            refine tt_getI (q := 118) dX12_readsRow_115 fl_X12_69 oi_102_6 (Nat.le_of_ble_eq_true rfl) rfl ?_
            refine tt_icmp_lt (q := 121) (t := 7) dX12_readsRow_118 rfl rfl (fun c => ?_) (fun c => ?_)
            · replace h := h.1 c
              refine tt_wk (L2 := [_, _, dum, dum]) ⟨Or.inl rfl, Or.inl rfl, Or.inr rfl, Or.inr rfl, trivial⟩ ?_
              exact h
            · replace h := h.2 c
              refine tt_aload_n (q := 122) dX12_readsRow_121 rfl rfl ?_
              refine tt_getR (q := 125) dX12_readsRow_122 fl_X12_22 or_102_5 (Nat.le_of_ble_eq_true rfl) rfl rfl ?_
              refine tt_iconst (q := 126) dX12_readsRow_125 ki_0 rfl ?_
              refine tt_iload_n (q := 127) dX12_readsRow_126 rfl rfl ?_
              refine tt_iast (q := 128) dX12_readsRow_127 ia_107 (Nat.le_of_ble_eq_true rfl) rfl (Nat.le_of_ble_eq_true rfl : 0 < 9) rfl ?_
              replace h := h _ rfl
              refine tt_iconst (q := 129) dX12_readsRow_128 ki_1 rfl ?_
              exact tt_iret dX12_readsRow_129 ⟨rfl, _, rfl, Or.inr rfl, h⟩
          · replace h := h.2 c
            refine tt_iconst (q := 65) dX12_readsRow_64 ki_1 rfl ?_
            refine tt_goto (t := 69) dX12_readsRow_65 rfl ?_
            refine sti_n_3 (q := 70) dX12_readsRow_69 rfl rfl rfl ?_
            refine tt_aload_n (q := 71) dX12_readsRow_70 rfl rfl ?_
            refine tt_dup (q := 72) dX12_readsRow_71 rfl rfl ?_
            refine tt_getI (q := 75) dX12_readsRow_72 fl_X12_75 oi_102_7 (Nat.le_of_ble_eq_true rfl) rfl ?_
            refine tt_iload_n (q := 76) dX12_readsRow_75 rfl rfl ?_
            refine tt_if_eq (q := 79) (t := 83) dX12_readsRow_76 rfl rfl (fun c => absurd c (by decide)) (fun c => ?_)
            clear c
            refine tt_iconst (q := 80) dX12_readsRow_79 ki_1 rfl ?_
            refine tt_goto (t := 84) dX12_readsRow_80 rfl ?_
            refine tt_iadd (q := 85) dX12_readsRow_84 rfl ?_
            refine tt_putI (q := 88) dX12_readsRow_85 fl_X12_75 oi_102_7 (fp_12_7 _) (Nat.le_of_ble_eq_true rfl) rfl ?_
            replace h := h _ rfl
            refine inc_1 (q := 91) dX12_readsRow_88 (nI_inc1 _) rfl rfl ?_
            refine tt_aload_n (q := 92) dX12_readsRow_91 rfl rfl ?_
            refine tt_getR (q := 95) dX12_readsRow_92 fl_X12_22 or_102_5 (Nat.le_of_ble_eq_true rfl) rfl rfl ?_
            refine tt_iload_n (q := 96) dX12_readsRow_95 rfl rfl ?_
            refine tt_iconst (q := 97) dX12_readsRow_96 ki_2 rfl ?_
            refine tt_iload_n (q := 98) dX12_readsRow_97 rfl rfl ?_
            refine tt_imul (q := 99) dX12_readsRow_98 rfl ?_
            refine tt_iload_n (q := 100) dX12_readsRow_99 rfl rfl ?_
            refine tt_if_eq (q := 103) (t := 107) dX12_readsRow_100 rfl rfl (fun c => absurd c (by decide)) (fun c => ?_)
            clear c
            refine tt_iconst (q := 104) dX12_readsRow_103 ki_1 rfl ?_
            refine tt_goto (t := 108) dX12_readsRow_104 rfl ?_
            refine tt_iadd (q := 109) dX12_readsRow_108 rfl ?_
            obtain ⟨l31, h⟩ := h
            refine tt_iast (q := 110) dX12_readsRow_109 ia_107 (Nat.le_of_ble_eq_true rfl) rfl l31 rfl ?_
            replace h := h _ rfl
            refine tt_aload_n (q := 111) dX12_readsRow_110 rfl rfl ?_
            refine tt_getI (q := 114) dX12_readsRow_111 fl_X12_75 oi_102_7 (Nat.le_of_ble_eq_true rfl) rfl ?_
            refine tt_aload_n (q := 115) dX12_readsRow_114 rfl rfl ?_
            refine tt_getI (q := 118) dX12_readsRow_115 fl_X12_69 oi_102_6 (Nat.le_of_ble_eq_true rfl) rfl ?_
            refine tt_icmp_lt (q := 121) (t := 7) dX12_readsRow_118 rfl rfl (fun c => ?_) (fun c => ?_)
            · replace h := h.1 c
              refine tt_wk (L2 := [_, _, dum, dum]) ⟨Or.inl rfl, Or.inl rfl, Or.inr rfl, Or.inr rfl, trivial⟩ ?_
              exact h
            · replace h := h.2 c
              refine tt_aload_n (q := 122) dX12_readsRow_121 rfl rfl ?_
              refine tt_getR (q := 125) dX12_readsRow_122 fl_X12_22 or_102_5 (Nat.le_of_ble_eq_true rfl) rfl rfl ?_
              refine tt_iconst (q := 126) dX12_readsRow_125 ki_0 rfl ?_
              refine tt_iload_n (q := 127) dX12_readsRow_126 rfl rfl ?_
              refine tt_iast (q := 128) dX12_readsRow_127 ia_107 (Nat.le_of_ble_eq_true rfl) rfl (Nat.le_of_ble_eq_true rfl : 0 < 9) rfl ?_
              replace h := h _ rfl
              refine tt_iconst (q := 129) dX12_readsRow_128 ki_1 rfl ?_
              exact tt_iret dX12_readsRow_129 ⟨rfl, _, rfl, Or.inr rfl, h⟩
        · replace h := h.2 ((nI_eq l17 (by decide)).1 c)
          refine tt_iconst (q := 44) dX12_readsRow_43 ki_0 rfl ?_
          exact tt_iret dX12_readsRow_44 ⟨rfl, _, rfl, Or.inl nI_0, h⟩

theorem g_X12_row_0 {post : SG → Int32 → Prop} {σ : SG} (h : ((¬ (σ 104 1) = (nI 10) → (∃ p4 : SG → Int32 → Prop, IN_X12_readsRow AF σ [.ref 102] p4 ∧ ∀ (t3 : SG) (r2 : Int32), p4 t3 r2 → (∀ s7 : SG, s7 = up t3 102 6 (nI 0) → ((¬ r2 = 0 → T_X12_row AF post 42 [.ref 102, dum, .int (nI 0)] [] s7) ∧ (r2 = 0 → post s7 ((-20 : Int32) - (s7 102 7))))))) ∧ ((σ 104 1) = (nI 10) → (∀ s11 : SG, s11 = up σ 103 6 ((σ 103 6) + (nI 1)) → post s11 (-6 : Int32))))) : T_X12_row AF post 0 [.ref 102, dum, dum] [] σ := by
  refine tt_aload_n (q := 1) dX12_row_0 rfl rfl ?_
  refine tt_getR (q := 4) dX12_row_1 fl_X12_13 or_102_1 (Nat.le_of_ble_eq_true rfl) rfl rfl ?_
  refine tt_iconst (q := 5) dX12_row_4 ki_1 rfl ?_
  refine tt_iald (q := 6) dX12_row_5 ia_104 (Nat.le_of_ble_eq_true rfl) rfl (Nat.le_of_ble_eq_true rfl : 1 < 197) rfl ?_
  refine tt_bipush (q := 8) dX12_row_6 bi_10 rfl ?_
  refine tt_icmp_ne (q := 11) (t := 18) dX12_row_8 rfl rfl (fun c => ?_) (fun c => ?_)
  · replace h := h.1 c
    refine tt_aload_n (q := 19) dX12_row_18 rfl rfl ?_
    obtain ⟨p4, hp5, h⟩ := h
    refine callVi_0 (q := 22) dX12_row_19 (Or.inr (⟨rfl, rfl, hp5⟩)) (Nat.le_of_ble_eq_true rfl) rfl (fun t3 r2 hr6 => ?_)
    replace h := h t3 r2 hr6
    refine sti_n_1 (q := 23) dX12_row_22 rfl rfl rfl ?_
    refine tt_aload_n (q := 24) dX12_row_23 rfl rfl ?_
    refine tt_iconst (q := 25) dX12_row_24 ki_0 rfl ?_
    refine tt_putI (q := 28) dX12_row_25 fl_X12_69 oi_102_6 (fp_12_6 _) (Nat.le_of_ble_eq_true rfl) rfl ?_
    replace h := h _ rfl
    refine tt_iload_n (q := 29) dX12_row_28 rfl rfl ?_
    refine tt_if_ne (q := 32) (t := 40) dX12_row_29 rfl rfl (fun c => ?_) (fun c => ?_)
    · replace h := h.1 c
      refine tt_iconst (q := 41) dX12_row_40 ki_0 rfl ?_
      refine sti_n_2 (q := 42) dX12_row_41 rfl rfl rfl ?_
      refine tt_wk (L2 := [_, dum, _]) ⟨Or.inl rfl, Or.inr rfl, Or.inl rfl, trivial⟩ ?_
      exact h
    · replace h := h.2 c
      refine tt_bipush (q := 34) dX12_row_32 bi_m20 rfl ?_
      refine tt_aload_n (q := 35) dX12_row_34 rfl rfl ?_
      refine tt_getI (q := 38) dX12_row_35 fl_X12_75 oi_102_7 (Nat.le_of_ble_eq_true rfl) rfl ?_
      refine tt_isub (q := 39) dX12_row_38 rfl ?_
      exact tt_iret dX12_row_39 ⟨rfl, _, rfl, h⟩
  · replace h := h.2 c
    refine tt_aload_n (q := 12) dX12_row_11 rfl rfl ?_
    refine tt_bipush (q := 14) dX12_row_12 bi_m6 rfl ?_
    refine callVi_1 (q := 17) dX12_row_14 (Or.inl ⟨rfl, rfl, ⟨⟨_, _, rfl, rfl, (Nat.le_of_ble_eq_true rfl), rc_102⟩, Nat.le_of_ble_eq_true rfl, ?_⟩⟩) (Nat.le_of_ble_eq_true rfl) rfl (fun t10 r9 ht10 => ht10)
    refine (show TT cX12_refuse RX12 false CT0 CN0 _ _ _ none 0 [_, _] [] _ _ from ?_)
    refine tt_aload_n (q := 1) dX12_refuse_0 rfl rfl ?_
    refine tt_getR (q := 4) dX12_refuse_1 fl_X12_7 or_102_0 (Nat.le_of_ble_eq_true rfl) rfl rfl ?_
    refine tt_iload_n (q := 5) dX12_refuse_4 rfl rfl ?_
    refine tt_inegE (v := nI 6) (q := 6) dX12_refuse_5 (by decide) rfl ?_
    refine tt_dup2 (q := 7) dX12_refuse_6 rfl rfl rfl ?_
    refine tt_iald (q := 8) dX12_refuse_7 ia_103 (Nat.le_of_ble_eq_true rfl) rfl (Nat.le_of_ble_eq_true rfl : 6 < 7) rfl ?_
    refine tt_iconst (q := 9) dX12_refuse_8 ki_1 rfl ?_
    refine tt_iadd (q := 10) dX12_refuse_9 rfl ?_
    refine tt_iast (q := 11) dX12_refuse_10 ia_103 (Nat.le_of_ble_eq_true rfl) rfl (Nat.le_of_ble_eq_true rfl : 6 < 7) rfl ?_
    replace h := h _ rfl
    refine tt_iload_n (q := 12) dX12_refuse_11 rfl rfl ?_
    refine tt_iret dX12_refuse_12 ⟨rfl, _, rfl, ?_⟩
    exact tt_iret dX12_row_17 ⟨rfl, _, rfl, h⟩
theorem g_X12_row_42 {post : SG → Int32 → Prop} {σ : SG} {i : Nat} (h : (((σ 107 0) < (nI i) → (∀ s2 : SG, s2 = up σ 104 1 ((σ 104 1) + (nI 1)) → post s2 ((s2 104 1) - (nI 1)))) ∧ (¬ (σ 107 0) < (nI i) → (i < 9 ∧ (∃ j5 : Nat, (((nI 95) + ((nI 9) * (σ 104 1))) + (nI i)) = nI j5 ∧ j5 < 197 ∧ (∀ s7 : SG, s7 = up σ 104 j5 (σ 107 i) → T_X12_row AF post 42 [.ref 102, dum, .int (nI (i + 1))] [] s7)))))) : T_X12_row AF post 42 [.ref 102, dum, .int (nI i)] [] σ := by
  refine tt_iload_n (q := 43) dX12_row_42 rfl rfl ?_
  refine tt_aload_n (q := 44) dX12_row_43 rfl rfl ?_
  refine tt_getR (q := 47) dX12_row_44 fl_X12_22 or_102_5 (Nat.le_of_ble_eq_true rfl) rfl rfl ?_
  refine tt_iconst (q := 48) dX12_row_47 ki_0 rfl ?_
  refine tt_iald (q := 49) dX12_row_48 ia_107 (Nat.le_of_ble_eq_true rfl) rfl (Nat.le_of_ble_eq_true rfl : 0 < 9) rfl ?_
  refine tt_icmp_gt (q := 52) (t := 83) dX12_row_49 rfl rfl (fun c => ?_) (fun c => ?_)
  · replace h := h.1 c
    refine tt_aload_n (q := 84) dX12_row_83 rfl rfl ?_
    refine tt_getR (q := 87) dX12_row_84 fl_X12_13 or_102_1 (Nat.le_of_ble_eq_true rfl) rfl rfl ?_
    refine tt_iconst (q := 88) dX12_row_87 ki_1 rfl ?_
    refine tt_dup2 (q := 89) dX12_row_88 rfl rfl rfl ?_
    refine tt_iald (q := 90) dX12_row_89 ia_104 (Nat.le_of_ble_eq_true rfl) rfl (Nat.le_of_ble_eq_true rfl : 1 < 197) rfl ?_
    refine tt_iconst (q := 91) dX12_row_90 ki_1 rfl ?_
    refine tt_iadd (q := 92) dX12_row_91 rfl ?_
    refine tt_iast (q := 93) dX12_row_92 ia_104 (Nat.le_of_ble_eq_true rfl) rfl (Nat.le_of_ble_eq_true rfl : 1 < 197) rfl ?_
    replace h := h _ rfl
    refine tt_aload_n (q := 94) dX12_row_93 rfl rfl ?_
    refine tt_getR (q := 97) dX12_row_94 fl_X12_13 or_102_1 (Nat.le_of_ble_eq_true rfl) rfl rfl ?_
    refine tt_iconst (q := 98) dX12_row_97 ki_1 rfl ?_
    refine tt_iald (q := 99) dX12_row_98 ia_104 (Nat.le_of_ble_eq_true rfl) rfl (Nat.le_of_ble_eq_true rfl : 1 < 197) rfl ?_
    refine tt_iconst (q := 100) dX12_row_99 ki_1 rfl ?_
    refine tt_isub (q := 101) dX12_row_100 rfl ?_
    exact tt_iret dX12_row_101 ⟨rfl, _, rfl, h⟩
  · replace h := h.2 c
    refine tt_aload_n (q := 53) dX12_row_52 rfl rfl ?_
    refine tt_getR (q := 56) dX12_row_53 fl_X12_13 or_102_1 (Nat.le_of_ble_eq_true rfl) rfl rfl ?_
    refine tt_bipush (q := 58) dX12_row_56 bi_95 rfl ?_
    refine tt_bipush (q := 60) dX12_row_58 bi_9 rfl ?_
    refine tt_aload_n (q := 61) dX12_row_60 rfl rfl ?_
    refine tt_getR (q := 64) dX12_row_61 fl_X12_13 or_102_1 (Nat.le_of_ble_eq_true rfl) rfl rfl ?_
    refine tt_iconst (q := 65) dX12_row_64 ki_1 rfl ?_
    refine tt_iald (q := 66) dX12_row_65 ia_104 (Nat.le_of_ble_eq_true rfl) rfl (Nat.le_of_ble_eq_true rfl : 1 < 197) rfl ?_
    refine tt_imul (q := 67) dX12_row_66 rfl ?_
    refine tt_iadd (q := 68) dX12_row_67 rfl ?_
    refine tt_iload_n (q := 69) dX12_row_68 rfl rfl ?_
    refine tt_iadd (q := 70) dX12_row_69 rfl ?_
    refine tt_aload_n (q := 71) dX12_row_70 rfl rfl ?_
    refine tt_getR (q := 74) dX12_row_71 fl_X12_22 or_102_5 (Nat.le_of_ble_eq_true rfl) rfl rfl ?_
    refine tt_iload_n (q := 75) dX12_row_74 rfl rfl ?_
    obtain ⟨l3, h⟩ := h
    refine tt_iald (q := 76) dX12_row_75 ia_107 (Nat.le_of_ble_eq_true rfl) rfl l3 rfl ?_
    obtain ⟨j5, e6, l4, h⟩ := h
    refine tt_iast (q := 77) dX12_row_76 ia_104 (Nat.le_of_ble_eq_true rfl) e6 l4 rfl ?_
    replace h := h _ rfl
    refine inc_2 (q := 80) dX12_row_77 (nI_inc1 _) rfl rfl ?_
    refine tt_goto (t := 42) dX12_row_80 rfl ?_
    exact h

theorem g_X12_goesTo_0 {post : SG → Int32 → Prop} {σ : SG} {m : Nat} {p : Nat} (h : (m < 2 ^ 31 ∧ (m < 2 ^ 31 ∧ (m % 2 < 2 ^ 31 ∧ ((¬ m % 2 = 0 → (11 + (6 * (m / 2)) + 0 < 197 ∧ ((¬ (σ 104 (11 + (6 * (m / 2)) + 0)) = (nI p) → (11 + (6 * (m / 2)) + 1 < 197 ∧ ((¬ (σ 104 (11 + (6 * (m / 2)) + 1)) = (nI p) → (11 + (6 * (m / 2)) + 2 < 197 ∧ ((¬ (σ 104 (11 + (6 * (m / 2)) + 2)) = (nI p) → (11 + (6 * (m / 2)) + 3 < 197 ∧ ((¬ (σ 104 (11 + (6 * (m / 2)) + 3)) = (nI p) → (11 + (6 * (m / 2)) + 4 < 197 ∧ ((¬ (σ 104 (11 + (6 * (m / 2)) + 4)) = (nI p) → (11 + (6 * (m / 2)) + 5 < 197 ∧ ((¬ (σ 104 (11 + (6 * (m / 2)) + 5)) = (nI p) → post σ (nI p)) ∧ ((σ 104 (11 + (6 * (m / 2)) + 5)) = (nI p) → post σ (nI 5))))) ∧ ((σ 104 (11 + (6 * (m / 2)) + 4)) = (nI p) → post σ (nI 4))))) ∧ ((σ 104 (11 + (6 * (m / 2)) + 3)) = (nI p) → post σ (nI 3))))) ∧ ((σ 104 (11 + (6 * (m / 2)) + 2)) = (nI p) → post σ (nI 2))))) ∧ ((σ 104 (11 + (6 * (m / 2)) + 1)) = (nI p) → post σ (nI 1))))) ∧ ((σ 104 (11 + (6 * (m / 2)) + 0)) = (nI p) → post σ (nI 0))))) ∧ (m % 2 = 0 → (11 + (6 * (m / 2)) + p < 197 ∧ post σ (σ 104 (11 + (6 * (m / 2)) + p))))))))) : T_X12_goesTo AF post 0 [.ref 102, .int (nI m), .int (nI p), dum, dum] [] σ := by
  refine tt_bipush (q := 2) dX12_goesTo_0 bi_11 rfl ?_
  refine tt_bipush (q := 4) dX12_goesTo_2 bi_6 rfl ?_
  refine tt_iload_n (q := 5) dX12_goesTo_4 rfl rfl ?_
  refine tt_iconst (q := 6) dX12_goesTo_5 ki_2 rfl ?_
  obtain ⟨l1, h⟩ := h
  refine tt_idivN (q := 7) dX12_goesTo_6 l1 (by decide) (by decide) rfl ?_
  refine tt_imulN (q := 8) dX12_goesTo_7 rfl ?_
  refine tt_iaddN (q := 9) dX12_goesTo_8 rfl ?_
  refine sti_n_3 (q := 10) dX12_goesTo_9 rfl rfl rfl ?_
  refine tt_iload_n (q := 11) dX12_goesTo_10 rfl rfl ?_
  refine tt_iconst (q := 12) dX12_goesTo_11 ki_2 rfl ?_
  obtain ⟨l2, h⟩ := h
  refine tt_iremN (q := 13) dX12_goesTo_12 l2 (by decide) (by decide) rfl ?_
  obtain ⟨l4, h⟩ := h
  refine tt_if_ne (q := 16) (t := 25) dX12_goesTo_13 rfl rfl (fun c => ?_) (fun c => ?_)
  · replace h := h.1 (fun z => c ((nI_eq l4 (by decide)).2 z))
    refine tt_iconst (q := 26) dX12_goesTo_25 ki_0 rfl ?_
    refine sti_4 (q := 28) dX12_goesTo_26 rfl rfl ?_
    refine tt_iload (q := 30) dX12_goesTo_28 rfl rfl ?_
    refine tt_bipush (q := 32) dX12_goesTo_30 bi_6 rfl ?_
    refine tt_icmp_ge (q := 35) (t := 57) dX12_goesTo_32 rfl rfl (fun c => absurd c (by decide)) (fun c => ?_)
    clear c
    refine tt_aload_n (q := 36) dX12_goesTo_35 rfl rfl ?_
    refine tt_getR (q := 39) dX12_goesTo_36 fl_X12_13 or_102_1 (Nat.le_of_ble_eq_true rfl) rfl rfl ?_
    refine tt_iload_n (q := 40) dX12_goesTo_39 rfl rfl ?_
    refine tt_iload (q := 42) dX12_goesTo_40 rfl rfl ?_
    refine tt_iaddN (q := 43) dX12_goesTo_42 rfl ?_
    obtain ⟨l5, h⟩ := h
    refine tt_iald (q := 44) dX12_goesTo_43 ia_104 (Nat.le_of_ble_eq_true rfl) rfl l5 rfl ?_
    refine tt_iload_n (q := 45) dX12_goesTo_44 rfl rfl ?_
    refine tt_icmp_ne (q := 48) (t := 51) dX12_goesTo_45 rfl rfl (fun c => ?_) (fun c => ?_)
    · replace h := h.1 c
      refine inc_4 (v := nI 1) (q := 54) dX12_goesTo_51 (by decide) rfl rfl ?_
      refine tt_goto (t := 28) dX12_goesTo_54 rfl ?_
      refine tt_iload (q := 30) dX12_goesTo_28 rfl rfl ?_
      refine tt_bipush (q := 32) dX12_goesTo_30 bi_6 rfl ?_
      refine tt_icmp_ge (q := 35) (t := 57) dX12_goesTo_32 rfl rfl (fun c => absurd c (by decide)) (fun c => ?_)
      clear c
      refine tt_aload_n (q := 36) dX12_goesTo_35 rfl rfl ?_
      refine tt_getR (q := 39) dX12_goesTo_36 fl_X12_13 or_102_1 (Nat.le_of_ble_eq_true rfl) rfl rfl ?_
      refine tt_iload_n (q := 40) dX12_goesTo_39 rfl rfl ?_
      refine tt_iload (q := 42) dX12_goesTo_40 rfl rfl ?_
      refine tt_iaddN (q := 43) dX12_goesTo_42 rfl ?_
      obtain ⟨l7, h⟩ := h
      refine tt_iald (q := 44) dX12_goesTo_43 ia_104 (Nat.le_of_ble_eq_true rfl) rfl l7 rfl ?_
      refine tt_iload_n (q := 45) dX12_goesTo_44 rfl rfl ?_
      refine tt_icmp_ne (q := 48) (t := 51) dX12_goesTo_45 rfl rfl (fun c => ?_) (fun c => ?_)
      · replace h := h.1 c
        refine inc_4 (v := nI 2) (q := 54) dX12_goesTo_51 (by decide) rfl rfl ?_
        refine tt_goto (t := 28) dX12_goesTo_54 rfl ?_
        refine tt_iload (q := 30) dX12_goesTo_28 rfl rfl ?_
        refine tt_bipush (q := 32) dX12_goesTo_30 bi_6 rfl ?_
        refine tt_icmp_ge (q := 35) (t := 57) dX12_goesTo_32 rfl rfl (fun c => absurd c (by decide)) (fun c => ?_)
        clear c
        refine tt_aload_n (q := 36) dX12_goesTo_35 rfl rfl ?_
        refine tt_getR (q := 39) dX12_goesTo_36 fl_X12_13 or_102_1 (Nat.le_of_ble_eq_true rfl) rfl rfl ?_
        refine tt_iload_n (q := 40) dX12_goesTo_39 rfl rfl ?_
        refine tt_iload (q := 42) dX12_goesTo_40 rfl rfl ?_
        refine tt_iaddN (q := 43) dX12_goesTo_42 rfl ?_
        obtain ⟨l9, h⟩ := h
        refine tt_iald (q := 44) dX12_goesTo_43 ia_104 (Nat.le_of_ble_eq_true rfl) rfl l9 rfl ?_
        refine tt_iload_n (q := 45) dX12_goesTo_44 rfl rfl ?_
        refine tt_icmp_ne (q := 48) (t := 51) dX12_goesTo_45 rfl rfl (fun c => ?_) (fun c => ?_)
        · replace h := h.1 c
          refine inc_4 (v := nI 3) (q := 54) dX12_goesTo_51 (by decide) rfl rfl ?_
          refine tt_goto (t := 28) dX12_goesTo_54 rfl ?_
          refine tt_iload (q := 30) dX12_goesTo_28 rfl rfl ?_
          refine tt_bipush (q := 32) dX12_goesTo_30 bi_6 rfl ?_
          refine tt_icmp_ge (q := 35) (t := 57) dX12_goesTo_32 rfl rfl (fun c => absurd c (by decide)) (fun c => ?_)
          clear c
          refine tt_aload_n (q := 36) dX12_goesTo_35 rfl rfl ?_
          refine tt_getR (q := 39) dX12_goesTo_36 fl_X12_13 or_102_1 (Nat.le_of_ble_eq_true rfl) rfl rfl ?_
          refine tt_iload_n (q := 40) dX12_goesTo_39 rfl rfl ?_
          refine tt_iload (q := 42) dX12_goesTo_40 rfl rfl ?_
          refine tt_iaddN (q := 43) dX12_goesTo_42 rfl ?_
          obtain ⟨l11, h⟩ := h
          refine tt_iald (q := 44) dX12_goesTo_43 ia_104 (Nat.le_of_ble_eq_true rfl) rfl l11 rfl ?_
          refine tt_iload_n (q := 45) dX12_goesTo_44 rfl rfl ?_
          refine tt_icmp_ne (q := 48) (t := 51) dX12_goesTo_45 rfl rfl (fun c => ?_) (fun c => ?_)
          · replace h := h.1 c
            refine inc_4 (v := nI 4) (q := 54) dX12_goesTo_51 (by decide) rfl rfl ?_
            refine tt_goto (t := 28) dX12_goesTo_54 rfl ?_
            refine tt_iload (q := 30) dX12_goesTo_28 rfl rfl ?_
            refine tt_bipush (q := 32) dX12_goesTo_30 bi_6 rfl ?_
            refine tt_icmp_ge (q := 35) (t := 57) dX12_goesTo_32 rfl rfl (fun c => absurd c (by decide)) (fun c => ?_)
            clear c
            refine tt_aload_n (q := 36) dX12_goesTo_35 rfl rfl ?_
            refine tt_getR (q := 39) dX12_goesTo_36 fl_X12_13 or_102_1 (Nat.le_of_ble_eq_true rfl) rfl rfl ?_
            refine tt_iload_n (q := 40) dX12_goesTo_39 rfl rfl ?_
            refine tt_iload (q := 42) dX12_goesTo_40 rfl rfl ?_
            refine tt_iaddN (q := 43) dX12_goesTo_42 rfl ?_
            obtain ⟨l13, h⟩ := h
            refine tt_iald (q := 44) dX12_goesTo_43 ia_104 (Nat.le_of_ble_eq_true rfl) rfl l13 rfl ?_
            refine tt_iload_n (q := 45) dX12_goesTo_44 rfl rfl ?_
            refine tt_icmp_ne (q := 48) (t := 51) dX12_goesTo_45 rfl rfl (fun c => ?_) (fun c => ?_)
            · replace h := h.1 c
              refine inc_4 (v := nI 5) (q := 54) dX12_goesTo_51 (by decide) rfl rfl ?_
              refine tt_goto (t := 28) dX12_goesTo_54 rfl ?_
              refine tt_iload (q := 30) dX12_goesTo_28 rfl rfl ?_
              refine tt_bipush (q := 32) dX12_goesTo_30 bi_6 rfl ?_
              refine tt_icmp_ge (q := 35) (t := 57) dX12_goesTo_32 rfl rfl (fun c => absurd c (by decide)) (fun c => ?_)
              clear c
              refine tt_aload_n (q := 36) dX12_goesTo_35 rfl rfl ?_
              refine tt_getR (q := 39) dX12_goesTo_36 fl_X12_13 or_102_1 (Nat.le_of_ble_eq_true rfl) rfl rfl ?_
              refine tt_iload_n (q := 40) dX12_goesTo_39 rfl rfl ?_
              refine tt_iload (q := 42) dX12_goesTo_40 rfl rfl ?_
              refine tt_iaddN (q := 43) dX12_goesTo_42 rfl ?_
              obtain ⟨l15, h⟩ := h
              refine tt_iald (q := 44) dX12_goesTo_43 ia_104 (Nat.le_of_ble_eq_true rfl) rfl l15 rfl ?_
              refine tt_iload_n (q := 45) dX12_goesTo_44 rfl rfl ?_
              refine tt_icmp_ne (q := 48) (t := 51) dX12_goesTo_45 rfl rfl (fun c => ?_) (fun c => ?_)
              · replace h := h.1 c
                refine inc_4 (v := nI 6) (q := 54) dX12_goesTo_51 (by decide) rfl rfl ?_
                refine tt_goto (t := 28) dX12_goesTo_54 rfl ?_
                refine tt_iload (q := 30) dX12_goesTo_28 rfl rfl ?_
                refine tt_bipush (q := 32) dX12_goesTo_30 bi_6 rfl ?_
                refine tt_icmp_ge (q := 35) (t := 57) dX12_goesTo_32 rfl rfl (fun c => ?_) (fun c => absurd c (by decide))
                clear c
                refine tt_iload_n (q := 58) dX12_goesTo_57 rfl rfl ?_
                exact tt_iret dX12_goesTo_58 ⟨rfl, _, rfl, h⟩
              · replace h := h.2 c
                refine tt_iload (q := 50) dX12_goesTo_48 rfl rfl ?_
                exact tt_iret dX12_goesTo_50 ⟨rfl, _, rfl, h⟩
            · replace h := h.2 c
              refine tt_iload (q := 50) dX12_goesTo_48 rfl rfl ?_
              exact tt_iret dX12_goesTo_50 ⟨rfl, _, rfl, h⟩
          · replace h := h.2 c
            refine tt_iload (q := 50) dX12_goesTo_48 rfl rfl ?_
            exact tt_iret dX12_goesTo_50 ⟨rfl, _, rfl, h⟩
        · replace h := h.2 c
          refine tt_iload (q := 50) dX12_goesTo_48 rfl rfl ?_
          exact tt_iret dX12_goesTo_50 ⟨rfl, _, rfl, h⟩
      · replace h := h.2 c
        refine tt_iload (q := 50) dX12_goesTo_48 rfl rfl ?_
        exact tt_iret dX12_goesTo_50 ⟨rfl, _, rfl, h⟩
    · replace h := h.2 c
      refine tt_iload (q := 50) dX12_goesTo_48 rfl rfl ?_
      exact tt_iret dX12_goesTo_50 ⟨rfl, _, rfl, h⟩
  · replace h := h.2 ((nI_eq l4 (by decide)).1 c)
    refine tt_aload_n (q := 17) dX12_goesTo_16 rfl rfl ?_
    refine tt_getR (q := 20) dX12_goesTo_17 fl_X12_13 or_102_1 (Nat.le_of_ble_eq_true rfl) rfl rfl ?_
    refine tt_iload_n (q := 21) dX12_goesTo_20 rfl rfl ?_
    refine tt_iload_n (q := 22) dX12_goesTo_21 rfl rfl ?_
    refine tt_iaddN (q := 23) dX12_goesTo_22 rfl ?_
    obtain ⟨l17, h⟩ := h
    refine tt_iald (q := 24) dX12_goesTo_23 ia_104 (Nat.le_of_ble_eq_true rfl) rfl l17 rfl ?_
    exact tt_iret dX12_goesTo_24 ⟨rfl, _, rfl, h⟩

theorem g_X12_goes_0 {post : SG → Int32 → Prop} {σ : SG} {a : Int32} {b : Int32} (h : ((a < 0 → (∀ s8 : SG, s8 = up σ 103 1 ((σ 103 1) + (nI 1)) → post s8 (-1 : Int32))) ∧ (¬ a < 0 → ((((nI 2) * (σ 104 0)) ≤ a → (∀ s12 : SG, s12 = up σ 103 1 ((σ 103 1) + (nI 1)) → post s12 (-1 : Int32))) ∧ (¬ ((nI 2) * (σ 104 0)) ≤ a → ((b < 0 → (∀ s20 : SG, s20 = up σ 103 1 ((σ 103 1) + (nI 1)) → post s20 (-1 : Int32))) ∧ (¬ b < 0 → (((nI 6) ≤ b → (∀ s24 : SG, s24 = up σ 103 1 ((σ 103 1) + (nI 1)) → post s24 (-1 : Int32))) ∧ (¬ (nI 6) ≤ b → (∃ p27 : SG → Int32 → Prop, IN_X12_goesTo AF σ [.ref 102, .int a, .int b] p27 ∧ ∀ (t26 : SG) (r25 : Int32), p27 t26 r25 → post t26 r25)))))))))) : T_X12_goes AF post 0 [.ref 102, .int a, .int b] [] σ := by
  refine tt_aload_n (q := 1) dX12_goes_0 rfl rfl ?_
  refine tt_iload_n (q := 2) dX12_goes_1 rfl rfl ?_
  refine callVi_1 (q := 5) dX12_goes_2 (Or.inl ⟨rfl, rfl, ⟨⟨_, _, rfl, rfl, (Nat.le_of_ble_eq_true rfl), rc_102⟩, Nat.le_of_ble_eq_true rfl, ?_⟩⟩) (Nat.le_of_ble_eq_true rfl) rfl (fun t2 r1 ht2 => ht2)
  refine (show TT cX12_isMove RX12 false CT_X12_isMove CN0 _ _ _ none 0 [_, _] [] _ _ from ?_)
  refine tt_iload_n (q := 1) dX12_isMove_0 rfl rfl ?_
  refine tt_iconst (q := 2) dX12_isMove_1 ki_2 rfl ?_
  refine tt_aload_n (q := 3) dX12_isMove_2 rfl rfl ?_
  refine tt_getR (q := 6) dX12_isMove_3 fl_X12_13 or_102_1 (Nat.le_of_ble_eq_true rfl) rfl rfl ?_
  refine tt_iconst (q := 7) dX12_isMove_6 ki_0 rfl ?_
  refine tt_iald (q := 8) dX12_isMove_7 ia_104 (Nat.le_of_ble_eq_true rfl) rfl (Nat.le_of_ble_eq_true rfl : 0 < 197) rfl ?_
  refine tt_imul (q := 9) dX12_isMove_8 rfl ?_
  refine callSi_2 (q := 12) dX12_isMove_9 (⟨rfl, rfl, ⟨rfl, Nat.le_of_ble_eq_true rfl, ?_⟩⟩) (Nat.le_of_ble_eq_true rfl) rfl (fun t4 r3 ht4 => ht4)
  refine (show TT cX12_isIn RX12 false CT0 CN0 _ _ _ none 0 [_, _] [] _ _ from ?_)
  refine tt_iload_n (q := 1) dX12_isIn_0 rfl rfl ?_
  refine tt_if_lt (q := 4) (t := 13) dX12_isIn_1 rfl rfl (fun c => ?_) (fun c => ?_)
  · replace h := h.1 c
    refine tt_iconst (q := 14) dX12_isIn_13 ki_0 rfl ?_
    refine tt_iret dX12_isIn_14 ⟨rfl, _, rfl, Or.inl nI_0, ?_⟩
    refine tt_iret dX12_isMove_12 ⟨rfl, _, rfl, Or.inl nI_0, ?_⟩
    refine tt_if_eq (q := 8) (t := 24) dX12_goes_5 rfl rfl (fun c => ?_) (fun c => absurd c (by decide))
    clear c
    refine tt_aload_n (q := 25) dX12_goes_24 rfl rfl ?_
    refine tt_iconst (q := 26) dX12_goes_25 ki_m1 rfl ?_
    refine callVi_1 (q := 29) dX12_goes_26 (Or.inr (Or.inr (Or.inr (⟨rfl, rfl, ⟨⟨_, _, rfl, rfl, (Nat.le_of_ble_eq_true rfl), rc_102⟩, Nat.le_of_ble_eq_true rfl, ?_⟩⟩)))) (Nat.le_of_ble_eq_true rfl) rfl (fun t7 r6 ht7 => ht7)
    refine (show TT cX12_refuse RX12 false CT0 CN0 _ _ _ none 0 [_, _] [] _ _ from ?_)
    refine tt_aload_n (q := 1) dX12_refuse_0 rfl rfl ?_
    refine tt_getR (q := 4) dX12_refuse_1 fl_X12_7 or_102_0 (Nat.le_of_ble_eq_true rfl) rfl rfl ?_
    refine tt_iload_n (q := 5) dX12_refuse_4 rfl rfl ?_
    refine tt_inegE (v := nI 1) (q := 6) dX12_refuse_5 (by decide) rfl ?_
    refine tt_dup2 (q := 7) dX12_refuse_6 rfl rfl rfl ?_
    refine tt_iald (q := 8) dX12_refuse_7 ia_103 (Nat.le_of_ble_eq_true rfl) rfl (Nat.le_of_ble_eq_true rfl : 1 < 7) rfl ?_
    refine tt_iconst (q := 9) dX12_refuse_8 ki_1 rfl ?_
    refine tt_iadd (q := 10) dX12_refuse_9 rfl ?_
    refine tt_iast (q := 11) dX12_refuse_10 ia_103 (Nat.le_of_ble_eq_true rfl) rfl (Nat.le_of_ble_eq_true rfl : 1 < 7) rfl ?_
    replace h := h _ rfl
    refine tt_iload_n (q := 12) dX12_refuse_11 rfl rfl ?_
    refine tt_iret dX12_refuse_12 ⟨rfl, _, rfl, ?_⟩
    exact tt_iret dX12_goes_29 ⟨rfl, _, rfl, h⟩
  · replace h := h.2 c
    refine tt_iload_n (q := 5) dX12_isIn_4 rfl rfl ?_
    refine tt_iload_n (q := 6) dX12_isIn_5 rfl rfl ?_
    refine tt_icmp_ge (q := 9) (t := 13) dX12_isIn_6 rfl rfl (fun c => ?_) (fun c => ?_)
    · replace h := h.1 c
      refine tt_iconst (q := 14) dX12_isIn_13 ki_0 rfl ?_
      refine tt_iret dX12_isIn_14 ⟨rfl, _, rfl, Or.inl nI_0, ?_⟩
      refine tt_iret dX12_isMove_12 ⟨rfl, _, rfl, Or.inl nI_0, ?_⟩
      refine tt_if_eq (q := 8) (t := 24) dX12_goes_5 rfl rfl (fun c => ?_) (fun c => absurd c (by decide))
      clear c
      refine tt_aload_n (q := 25) dX12_goes_24 rfl rfl ?_
      refine tt_iconst (q := 26) dX12_goes_25 ki_m1 rfl ?_
      refine callVi_1 (q := 29) dX12_goes_26 (Or.inr (Or.inr (Or.inr (⟨rfl, rfl, ⟨⟨_, _, rfl, rfl, (Nat.le_of_ble_eq_true rfl), rc_102⟩, Nat.le_of_ble_eq_true rfl, ?_⟩⟩)))) (Nat.le_of_ble_eq_true rfl) rfl (fun t11 r10 ht11 => ht11)
      refine (show TT cX12_refuse RX12 false CT0 CN0 _ _ _ none 0 [_, _] [] _ _ from ?_)
      refine tt_aload_n (q := 1) dX12_refuse_0 rfl rfl ?_
      refine tt_getR (q := 4) dX12_refuse_1 fl_X12_7 or_102_0 (Nat.le_of_ble_eq_true rfl) rfl rfl ?_
      refine tt_iload_n (q := 5) dX12_refuse_4 rfl rfl ?_
      refine tt_inegE (v := nI 1) (q := 6) dX12_refuse_5 (by decide) rfl ?_
      refine tt_dup2 (q := 7) dX12_refuse_6 rfl rfl rfl ?_
      refine tt_iald (q := 8) dX12_refuse_7 ia_103 (Nat.le_of_ble_eq_true rfl) rfl (Nat.le_of_ble_eq_true rfl : 1 < 7) rfl ?_
      refine tt_iconst (q := 9) dX12_refuse_8 ki_1 rfl ?_
      refine tt_iadd (q := 10) dX12_refuse_9 rfl ?_
      refine tt_iast (q := 11) dX12_refuse_10 ia_103 (Nat.le_of_ble_eq_true rfl) rfl (Nat.le_of_ble_eq_true rfl : 1 < 7) rfl ?_
      replace h := h _ rfl
      refine tt_iload_n (q := 12) dX12_refuse_11 rfl rfl ?_
      refine tt_iret dX12_refuse_12 ⟨rfl, _, rfl, ?_⟩
      exact tt_iret dX12_goes_29 ⟨rfl, _, rfl, h⟩
    · replace h := h.2 c
      refine tt_iconst (q := 10) dX12_isIn_9 ki_1 rfl ?_
      refine tt_goto (t := 14) dX12_isIn_10 rfl ?_
      refine tt_iret dX12_isIn_14 ⟨rfl, _, rfl, Or.inr rfl, ?_⟩
      refine tt_iret dX12_isMove_12 ⟨rfl, _, rfl, Or.inr rfl, ?_⟩
      refine tt_if_eq (q := 8) (t := 24) dX12_goes_5 rfl rfl (fun c => absurd c (by decide)) (fun c => ?_)
      clear c
      refine tt_iload_n (q := 9) dX12_goes_8 rfl rfl ?_
      refine callSi_1 (q := 12) dX12_goes_9 (Or.inr (Or.inl ⟨rfl, rfl, ⟨rfl, Nat.le_of_ble_eq_true rfl, ?_⟩⟩)) (Nat.le_of_ble_eq_true rfl) rfl (fun t14 r13 ht14 => ht14)
      refine (show TT cX12_isPlace RX12 false CT_X12_isPlace CN0 _ _ _ none 0 [_] [] _ _ from ?_)
      refine tt_iload_n (q := 1) dX12_isPlace_0 rfl rfl ?_
      refine tt_bipush (q := 3) dX12_isPlace_1 bi_6 rfl ?_
      refine callSi_2 (q := 6) dX12_isPlace_3 (⟨rfl, rfl, ⟨rfl, Nat.le_of_ble_eq_true rfl, ?_⟩⟩) (Nat.le_of_ble_eq_true rfl) rfl (fun t16 r15 ht16 => ht16)
      refine (show TT cX12_isIn RX12 false CT0 CN0 _ _ _ none 0 [_, _] [] _ _ from ?_)
      refine tt_iload_n (q := 1) dX12_isIn_0 rfl rfl ?_
      refine tt_if_lt (q := 4) (t := 13) dX12_isIn_1 rfl rfl (fun c => ?_) (fun c => ?_)
      · replace h := h.1 c
        refine tt_iconst (q := 14) dX12_isIn_13 ki_0 rfl ?_
        refine tt_iret dX12_isIn_14 ⟨rfl, _, rfl, Or.inl nI_0, ?_⟩
        refine tt_iret dX12_isPlace_6 ⟨rfl, _, rfl, Or.inl nI_0, ?_⟩
        refine tt_if_eq (q := 15) (t := 24) dX12_goes_12 rfl rfl (fun c => ?_) (fun c => absurd c (by decide))
        clear c
        refine tt_aload_n (q := 25) dX12_goes_24 rfl rfl ?_
        refine tt_iconst (q := 26) dX12_goes_25 ki_m1 rfl ?_
        refine callVi_1 (q := 29) dX12_goes_26 (Or.inr (Or.inr (Or.inr (⟨rfl, rfl, ⟨⟨_, _, rfl, rfl, (Nat.le_of_ble_eq_true rfl), rc_102⟩, Nat.le_of_ble_eq_true rfl, ?_⟩⟩)))) (Nat.le_of_ble_eq_true rfl) rfl (fun t19 r18 ht19 => ht19)
        refine (show TT cX12_refuse RX12 false CT0 CN0 _ _ _ none 0 [_, _] [] _ _ from ?_)
        refine tt_aload_n (q := 1) dX12_refuse_0 rfl rfl ?_
        refine tt_getR (q := 4) dX12_refuse_1 fl_X12_7 or_102_0 (Nat.le_of_ble_eq_true rfl) rfl rfl ?_
        refine tt_iload_n (q := 5) dX12_refuse_4 rfl rfl ?_
        refine tt_inegE (v := nI 1) (q := 6) dX12_refuse_5 (by decide) rfl ?_
        refine tt_dup2 (q := 7) dX12_refuse_6 rfl rfl rfl ?_
        refine tt_iald (q := 8) dX12_refuse_7 ia_103 (Nat.le_of_ble_eq_true rfl) rfl (Nat.le_of_ble_eq_true rfl : 1 < 7) rfl ?_
        refine tt_iconst (q := 9) dX12_refuse_8 ki_1 rfl ?_
        refine tt_iadd (q := 10) dX12_refuse_9 rfl ?_
        refine tt_iast (q := 11) dX12_refuse_10 ia_103 (Nat.le_of_ble_eq_true rfl) rfl (Nat.le_of_ble_eq_true rfl : 1 < 7) rfl ?_
        replace h := h _ rfl
        refine tt_iload_n (q := 12) dX12_refuse_11 rfl rfl ?_
        refine tt_iret dX12_refuse_12 ⟨rfl, _, rfl, ?_⟩
        exact tt_iret dX12_goes_29 ⟨rfl, _, rfl, h⟩
      · replace h := h.2 c
        refine tt_iload_n (q := 5) dX12_isIn_4 rfl rfl ?_
        refine tt_iload_n (q := 6) dX12_isIn_5 rfl rfl ?_
        refine tt_icmp_ge (q := 9) (t := 13) dX12_isIn_6 rfl rfl (fun c => ?_) (fun c => ?_)
        · replace h := h.1 c
          refine tt_iconst (q := 14) dX12_isIn_13 ki_0 rfl ?_
          refine tt_iret dX12_isIn_14 ⟨rfl, _, rfl, Or.inl nI_0, ?_⟩
          refine tt_iret dX12_isPlace_6 ⟨rfl, _, rfl, Or.inl nI_0, ?_⟩
          refine tt_if_eq (q := 15) (t := 24) dX12_goes_12 rfl rfl (fun c => ?_) (fun c => absurd c (by decide))
          clear c
          refine tt_aload_n (q := 25) dX12_goes_24 rfl rfl ?_
          refine tt_iconst (q := 26) dX12_goes_25 ki_m1 rfl ?_
          refine callVi_1 (q := 29) dX12_goes_26 (Or.inr (Or.inr (Or.inr (⟨rfl, rfl, ⟨⟨_, _, rfl, rfl, (Nat.le_of_ble_eq_true rfl), rc_102⟩, Nat.le_of_ble_eq_true rfl, ?_⟩⟩)))) (Nat.le_of_ble_eq_true rfl) rfl (fun t23 r22 ht23 => ht23)
          refine (show TT cX12_refuse RX12 false CT0 CN0 _ _ _ none 0 [_, _] [] _ _ from ?_)
          refine tt_aload_n (q := 1) dX12_refuse_0 rfl rfl ?_
          refine tt_getR (q := 4) dX12_refuse_1 fl_X12_7 or_102_0 (Nat.le_of_ble_eq_true rfl) rfl rfl ?_
          refine tt_iload_n (q := 5) dX12_refuse_4 rfl rfl ?_
          refine tt_inegE (v := nI 1) (q := 6) dX12_refuse_5 (by decide) rfl ?_
          refine tt_dup2 (q := 7) dX12_refuse_6 rfl rfl rfl ?_
          refine tt_iald (q := 8) dX12_refuse_7 ia_103 (Nat.le_of_ble_eq_true rfl) rfl (Nat.le_of_ble_eq_true rfl : 1 < 7) rfl ?_
          refine tt_iconst (q := 9) dX12_refuse_8 ki_1 rfl ?_
          refine tt_iadd (q := 10) dX12_refuse_9 rfl ?_
          refine tt_iast (q := 11) dX12_refuse_10 ia_103 (Nat.le_of_ble_eq_true rfl) rfl (Nat.le_of_ble_eq_true rfl : 1 < 7) rfl ?_
          replace h := h _ rfl
          refine tt_iload_n (q := 12) dX12_refuse_11 rfl rfl ?_
          refine tt_iret dX12_refuse_12 ⟨rfl, _, rfl, ?_⟩
          exact tt_iret dX12_goes_29 ⟨rfl, _, rfl, h⟩
        · replace h := h.2 c
          refine tt_iconst (q := 10) dX12_isIn_9 ki_1 rfl ?_
          refine tt_goto (t := 14) dX12_isIn_10 rfl ?_
          refine tt_iret dX12_isIn_14 ⟨rfl, _, rfl, Or.inr rfl, ?_⟩
          refine tt_iret dX12_isPlace_6 ⟨rfl, _, rfl, Or.inr rfl, ?_⟩
          refine tt_if_eq (q := 15) (t := 24) dX12_goes_12 rfl rfl (fun c => absurd c (by decide)) (fun c => ?_)
          clear c
          refine tt_aload_n (q := 16) dX12_goes_15 rfl rfl ?_
          refine tt_iload_n (q := 17) dX12_goes_16 rfl rfl ?_
          refine tt_iload_n (q := 18) dX12_goes_17 rfl rfl ?_
          obtain ⟨p27, hp28, h⟩ := h
          refine callVi_2 (q := 21) dX12_goes_18 (Or.inr (Or.inr (Or.inl ⟨rfl, rfl, hp28⟩))) (Nat.le_of_ble_eq_true rfl) rfl (fun t26 r25 hr29 => ?_)
          replace h := h t26 r25 hr29
          refine tt_goto (t := 29) dX12_goes_21 rfl ?_
          exact tt_iret dX12_goes_29 ⟨rfl, _, rfl, h⟩

theorem g_X12_rowOf_0 {post : SG → Int32 → Prop} {σ : SG} {a : Int32} {b : Int32} (h : ((a < 0 → (∀ s8 : SG, s8 = up σ 103 1 ((σ 103 1) + (nI 1)) → post s8 (-1 : Int32))) ∧ (¬ a < 0 → (((σ 104 1) ≤ a → (∀ s12 : SG, s12 = up σ 103 1 ((σ 103 1) + (nI 1)) → post s12 (-1 : Int32))) ∧ (¬ (σ 104 1) ≤ a → ((¬ b = (-1 : Int32) → (∃ j17 : Nat, ((nI 95) + ((nI 9) * a)) = nI j17 ∧ j17 < 197 ∧ ((b < 0 → post σ (-9 : Int32)) ∧ (¬ b < 0 → (((σ 104 j17) ≤ b → post σ (-9 : Int32)) ∧ (¬ (σ 104 j17) ≤ b → (∃ j26 : Nat, ((((nI 95) + ((nI 9) * a)) + (nI 1)) + b) = nI j26 ∧ j26 < 197 ∧ post σ (σ 104 j26)))))))) ∧ (b = (-1 : Int32) → (∃ j31 : Nat, ((nI 95) + ((nI 9) * a)) = nI j31 ∧ j31 < 197 ∧ post σ (σ 104 j31))))))))) : T_X12_rowOf AF post 0 [.ref 102, .int a, .int b] [] σ := by
  refine tt_aload_n (q := 1) dX12_rowOf_0 rfl rfl ?_
  refine tt_iload_n (q := 2) dX12_rowOf_1 rfl rfl ?_
  refine callVi_1 (q := 5) dX12_rowOf_2 (Or.inl ⟨rfl, rfl, ⟨⟨_, _, rfl, rfl, (Nat.le_of_ble_eq_true rfl), rc_102⟩, Nat.le_of_ble_eq_true rfl, ?_⟩⟩) (Nat.le_of_ble_eq_true rfl) rfl (fun t2 r1 ht2 => ht2)
  refine (show TT cX12_isRow RX12 false CT_X12_isRow CN0 _ _ _ none 0 [_, _] [] _ _ from ?_)
  refine tt_iload_n (q := 1) dX12_isRow_0 rfl rfl ?_
  refine tt_aload_n (q := 2) dX12_isRow_1 rfl rfl ?_
  refine tt_getR (q := 5) dX12_isRow_2 fl_X12_13 or_102_1 (Nat.le_of_ble_eq_true rfl) rfl rfl ?_
  refine tt_iconst (q := 6) dX12_isRow_5 ki_1 rfl ?_
  refine tt_iald (q := 7) dX12_isRow_6 ia_104 (Nat.le_of_ble_eq_true rfl) rfl (Nat.le_of_ble_eq_true rfl : 1 < 197) rfl ?_
  refine callSi_2 (q := 10) dX12_isRow_7 (⟨rfl, rfl, ⟨rfl, Nat.le_of_ble_eq_true rfl, ?_⟩⟩) (Nat.le_of_ble_eq_true rfl) rfl (fun t4 r3 ht4 => ht4)
  refine (show TT cX12_isIn RX12 false CT0 CN0 _ _ _ none 0 [_, _] [] _ _ from ?_)
  refine tt_iload_n (q := 1) dX12_isIn_0 rfl rfl ?_
  refine tt_if_lt (q := 4) (t := 13) dX12_isIn_1 rfl rfl (fun c => ?_) (fun c => ?_)
  · replace h := h.1 c
    refine tt_iconst (q := 14) dX12_isIn_13 ki_0 rfl ?_
    refine tt_iret dX12_isIn_14 ⟨rfl, _, rfl, Or.inl nI_0, ?_⟩
    refine tt_iret dX12_isRow_10 ⟨rfl, _, rfl, Or.inl nI_0, ?_⟩
    refine tt_if_ne (q := 8) (t := 16) dX12_rowOf_5 rfl rfl (fun c => absurd c (by decide)) (fun c => ?_)
    clear c
    refine tt_aload_n (q := 9) dX12_rowOf_8 rfl rfl ?_
    refine tt_iconst (q := 10) dX12_rowOf_9 ki_m1 rfl ?_
    refine callVi_1 (q := 13) dX12_rowOf_10 (Or.inr (Or.inl ⟨rfl, rfl, ⟨⟨_, _, rfl, rfl, (Nat.le_of_ble_eq_true rfl), rc_102⟩, Nat.le_of_ble_eq_true rfl, ?_⟩⟩)) (Nat.le_of_ble_eq_true rfl) rfl (fun t7 r6 ht7 => ht7)
    refine (show TT cX12_refuse RX12 false CT0 CN0 _ _ _ none 0 [_, _] [] _ _ from ?_)
    refine tt_aload_n (q := 1) dX12_refuse_0 rfl rfl ?_
    refine tt_getR (q := 4) dX12_refuse_1 fl_X12_7 or_102_0 (Nat.le_of_ble_eq_true rfl) rfl rfl ?_
    refine tt_iload_n (q := 5) dX12_refuse_4 rfl rfl ?_
    refine tt_inegE (v := nI 1) (q := 6) dX12_refuse_5 (by decide) rfl ?_
    refine tt_dup2 (q := 7) dX12_refuse_6 rfl rfl rfl ?_
    refine tt_iald (q := 8) dX12_refuse_7 ia_103 (Nat.le_of_ble_eq_true rfl) rfl (Nat.le_of_ble_eq_true rfl : 1 < 7) rfl ?_
    refine tt_iconst (q := 9) dX12_refuse_8 ki_1 rfl ?_
    refine tt_iadd (q := 10) dX12_refuse_9 rfl ?_
    refine tt_iast (q := 11) dX12_refuse_10 ia_103 (Nat.le_of_ble_eq_true rfl) rfl (Nat.le_of_ble_eq_true rfl : 1 < 7) rfl ?_
    replace h := h _ rfl
    refine tt_iload_n (q := 12) dX12_refuse_11 rfl rfl ?_
    refine tt_iret dX12_refuse_12 ⟨rfl, _, rfl, ?_⟩
    refine tt_goto (t := 52) dX12_rowOf_13 rfl ?_
    exact tt_iret dX12_rowOf_52 ⟨rfl, _, rfl, h⟩
  · replace h := h.2 c
    refine tt_iload_n (q := 5) dX12_isIn_4 rfl rfl ?_
    refine tt_iload_n (q := 6) dX12_isIn_5 rfl rfl ?_
    refine tt_icmp_ge (q := 9) (t := 13) dX12_isIn_6 rfl rfl (fun c => ?_) (fun c => ?_)
    · replace h := h.1 c
      refine tt_iconst (q := 14) dX12_isIn_13 ki_0 rfl ?_
      refine tt_iret dX12_isIn_14 ⟨rfl, _, rfl, Or.inl nI_0, ?_⟩
      refine tt_iret dX12_isRow_10 ⟨rfl, _, rfl, Or.inl nI_0, ?_⟩
      refine tt_if_ne (q := 8) (t := 16) dX12_rowOf_5 rfl rfl (fun c => absurd c (by decide)) (fun c => ?_)
      clear c
      refine tt_aload_n (q := 9) dX12_rowOf_8 rfl rfl ?_
      refine tt_iconst (q := 10) dX12_rowOf_9 ki_m1 rfl ?_
      refine callVi_1 (q := 13) dX12_rowOf_10 (Or.inr (Or.inl ⟨rfl, rfl, ⟨⟨_, _, rfl, rfl, (Nat.le_of_ble_eq_true rfl), rc_102⟩, Nat.le_of_ble_eq_true rfl, ?_⟩⟩)) (Nat.le_of_ble_eq_true rfl) rfl (fun t11 r10 ht11 => ht11)
      refine (show TT cX12_refuse RX12 false CT0 CN0 _ _ _ none 0 [_, _] [] _ _ from ?_)
      refine tt_aload_n (q := 1) dX12_refuse_0 rfl rfl ?_
      refine tt_getR (q := 4) dX12_refuse_1 fl_X12_7 or_102_0 (Nat.le_of_ble_eq_true rfl) rfl rfl ?_
      refine tt_iload_n (q := 5) dX12_refuse_4 rfl rfl ?_
      refine tt_inegE (v := nI 1) (q := 6) dX12_refuse_5 (by decide) rfl ?_
      refine tt_dup2 (q := 7) dX12_refuse_6 rfl rfl rfl ?_
      refine tt_iald (q := 8) dX12_refuse_7 ia_103 (Nat.le_of_ble_eq_true rfl) rfl (Nat.le_of_ble_eq_true rfl : 1 < 7) rfl ?_
      refine tt_iconst (q := 9) dX12_refuse_8 ki_1 rfl ?_
      refine tt_iadd (q := 10) dX12_refuse_9 rfl ?_
      refine tt_iast (q := 11) dX12_refuse_10 ia_103 (Nat.le_of_ble_eq_true rfl) rfl (Nat.le_of_ble_eq_true rfl : 1 < 7) rfl ?_
      replace h := h _ rfl
      refine tt_iload_n (q := 12) dX12_refuse_11 rfl rfl ?_
      refine tt_iret dX12_refuse_12 ⟨rfl, _, rfl, ?_⟩
      refine tt_goto (t := 52) dX12_rowOf_13 rfl ?_
      exact tt_iret dX12_rowOf_52 ⟨rfl, _, rfl, h⟩
    · replace h := h.2 c
      refine tt_iconst (q := 10) dX12_isIn_9 ki_1 rfl ?_
      refine tt_goto (t := 14) dX12_isIn_10 rfl ?_
      refine tt_iret dX12_isIn_14 ⟨rfl, _, rfl, Or.inr rfl, ?_⟩
      refine tt_iret dX12_isRow_10 ⟨rfl, _, rfl, Or.inr rfl, ?_⟩
      refine tt_if_ne (q := 8) (t := 16) dX12_rowOf_5 rfl rfl (fun c => ?_) (fun c => absurd c (by decide))
      clear c
      refine tt_iload_n (q := 17) dX12_rowOf_16 rfl rfl ?_
      refine tt_iconst (q := 18) dX12_rowOf_17 ki_m1 rfl ?_
      refine tt_icmp_ne (q := 21) (t := 29) dX12_rowOf_18 rfl rfl (fun c => ?_) (fun c => ?_)
      · replace h := h.1 c
        refine tt_iload_n (q := 30) dX12_rowOf_29 rfl rfl ?_
        refine tt_aload_n (q := 31) dX12_rowOf_30 rfl rfl ?_
        refine tt_iload_n (q := 32) dX12_rowOf_31 rfl rfl ?_
        refine callVi_1 (q := 35) dX12_rowOf_32 (Or.inr (Or.inr (Or.inl ⟨rfl, rfl, ⟨⟨_, _, rfl, rfl, (Nat.le_of_ble_eq_true rfl), rc_102⟩, Nat.le_of_ble_eq_true rfl, ?_⟩⟩))) (Nat.le_of_ble_eq_true rfl) rfl (fun t15 r14 ht15 => ht15)
        refine (show TT cX12_size RX12 false CT0 CN0 _ _ _ none 0 [_, _] [] _ _ from ?_)
        refine tt_aload_n (q := 1) dX12_size_0 rfl rfl ?_
        refine tt_getR (q := 4) dX12_size_1 fl_X12_13 or_102_1 (Nat.le_of_ble_eq_true rfl) rfl rfl ?_
        refine tt_bipush (q := 6) dX12_size_4 bi_95 rfl ?_
        refine tt_bipush (q := 8) dX12_size_6 bi_9 rfl ?_
        refine tt_iload_n (q := 9) dX12_size_8 rfl rfl ?_
        refine tt_imul (q := 10) dX12_size_9 rfl ?_
        refine tt_iadd (q := 11) dX12_size_10 rfl ?_
        obtain ⟨j17, e18, l16, h⟩ := h
        refine tt_iald (q := 12) dX12_size_11 ia_104 (Nat.le_of_ble_eq_true rfl) e18 l16 rfl ?_
        refine tt_iret dX12_size_12 ⟨rfl, _, rfl, ?_⟩
        refine callSi_2 (q := 38) dX12_rowOf_35 (Or.inr (Or.inr (Or.inr (Or.inl ⟨rfl, rfl, ⟨rfl, Nat.le_of_ble_eq_true rfl, ?_⟩⟩)))) (Nat.le_of_ble_eq_true rfl) rfl (fun t20 r19 ht20 => ht20)
        refine (show TT cX12_isIn RX12 false CT0 CN0 _ _ _ none 0 [_, _] [] _ _ from ?_)
        refine tt_iload_n (q := 1) dX12_isIn_0 rfl rfl ?_
        refine tt_if_lt (q := 4) (t := 13) dX12_isIn_1 rfl rfl (fun c => ?_) (fun c => ?_)
        · replace h := h.1 c
          refine tt_iconst (q := 14) dX12_isIn_13 ki_0 rfl ?_
          refine tt_iret dX12_isIn_14 ⟨rfl, _, rfl, Or.inl nI_0, ?_⟩
          refine tt_if_eq (q := 41) (t := 50) dX12_rowOf_38 rfl rfl (fun c => ?_) (fun c => absurd c (by decide))
          clear c
          refine tt_bipush (q := 52) dX12_rowOf_50 bi_m9 rfl ?_
          exact tt_iret dX12_rowOf_52 ⟨rfl, _, rfl, h⟩
        · replace h := h.2 c
          refine tt_iload_n (q := 5) dX12_isIn_4 rfl rfl ?_
          refine tt_iload_n (q := 6) dX12_isIn_5 rfl rfl ?_
          refine tt_icmp_ge (q := 9) (t := 13) dX12_isIn_6 rfl rfl (fun c => ?_) (fun c => ?_)
          · replace h := h.1 c
            refine tt_iconst (q := 14) dX12_isIn_13 ki_0 rfl ?_
            refine tt_iret dX12_isIn_14 ⟨rfl, _, rfl, Or.inl nI_0, ?_⟩
            refine tt_if_eq (q := 41) (t := 50) dX12_rowOf_38 rfl rfl (fun c => ?_) (fun c => absurd c (by decide))
            clear c
            refine tt_bipush (q := 52) dX12_rowOf_50 bi_m9 rfl ?_
            exact tt_iret dX12_rowOf_52 ⟨rfl, _, rfl, h⟩
          · replace h := h.2 c
            refine tt_iconst (q := 10) dX12_isIn_9 ki_1 rfl ?_
            refine tt_goto (t := 14) dX12_isIn_10 rfl ?_
            refine tt_iret dX12_isIn_14 ⟨rfl, _, rfl, Or.inr rfl, ?_⟩
            refine tt_if_eq (q := 41) (t := 50) dX12_rowOf_38 rfl rfl (fun c => absurd c (by decide)) (fun c => ?_)
            clear c
            refine tt_aload_n (q := 42) dX12_rowOf_41 rfl rfl ?_
            refine tt_iload_n (q := 43) dX12_rowOf_42 rfl rfl ?_
            refine tt_iload_n (q := 44) dX12_rowOf_43 rfl rfl ?_
            refine callVi_2 (q := 47) dX12_rowOf_44 (Or.inr (Or.inr (Or.inr (Or.inr (⟨rfl, rfl, ⟨⟨_, _, rfl, rfl, (Nat.le_of_ble_eq_true rfl), rc_102⟩, Nat.le_of_ble_eq_true rfl, ?_⟩⟩))))) (Nat.le_of_ble_eq_true rfl) rfl (fun t24 r23 ht24 => ht24)
            refine (show TT cX12_moveOf RX12 false CT0 CN0 _ _ _ none 0 [_, _, _] [] _ _ from ?_)
            refine tt_aload_n (q := 1) dX12_moveOf_0 rfl rfl ?_
            refine tt_getR (q := 4) dX12_moveOf_1 fl_X12_13 or_102_1 (Nat.le_of_ble_eq_true rfl) rfl rfl ?_
            refine tt_bipush (q := 6) dX12_moveOf_4 bi_95 rfl ?_
            refine tt_bipush (q := 8) dX12_moveOf_6 bi_9 rfl ?_
            refine tt_iload_n (q := 9) dX12_moveOf_8 rfl rfl ?_
            refine tt_imul (q := 10) dX12_moveOf_9 rfl ?_
            refine tt_iadd (q := 11) dX12_moveOf_10 rfl ?_
            refine tt_iconst (q := 12) dX12_moveOf_11 ki_1 rfl ?_
            refine tt_iadd (q := 13) dX12_moveOf_12 rfl ?_
            refine tt_iload_n (q := 14) dX12_moveOf_13 rfl rfl ?_
            refine tt_iadd (q := 15) dX12_moveOf_14 rfl ?_
            obtain ⟨j26, e27, l25, h⟩ := h
            refine tt_iald (q := 16) dX12_moveOf_15 ia_104 (Nat.le_of_ble_eq_true rfl) e27 l25 rfl ?_
            refine tt_iret dX12_moveOf_16 ⟨rfl, _, rfl, ?_⟩
            refine tt_goto (t := 52) dX12_rowOf_47 rfl ?_
            exact tt_iret dX12_rowOf_52 ⟨rfl, _, rfl, h⟩
      · replace h := h.2 c
        refine tt_aload_n (q := 22) dX12_rowOf_21 rfl rfl ?_
        refine tt_iload_n (q := 23) dX12_rowOf_22 rfl rfl ?_
        refine callVi_1 (q := 26) dX12_rowOf_23 (Or.inr (Or.inr (Or.inl ⟨rfl, rfl, ⟨⟨_, _, rfl, rfl, (Nat.le_of_ble_eq_true rfl), rc_102⟩, Nat.le_of_ble_eq_true rfl, ?_⟩⟩))) (Nat.le_of_ble_eq_true rfl) rfl (fun t29 r28 ht29 => ht29)
        refine (show TT cX12_size RX12 false CT0 CN0 _ _ _ none 0 [_, _] [] _ _ from ?_)
        refine tt_aload_n (q := 1) dX12_size_0 rfl rfl ?_
        refine tt_getR (q := 4) dX12_size_1 fl_X12_13 or_102_1 (Nat.le_of_ble_eq_true rfl) rfl rfl ?_
        refine tt_bipush (q := 6) dX12_size_4 bi_95 rfl ?_
        refine tt_bipush (q := 8) dX12_size_6 bi_9 rfl ?_
        refine tt_iload_n (q := 9) dX12_size_8 rfl rfl ?_
        refine tt_imul (q := 10) dX12_size_9 rfl ?_
        refine tt_iadd (q := 11) dX12_size_10 rfl ?_
        obtain ⟨j31, e32, l30, h⟩ := h
        refine tt_iald (q := 12) dX12_size_11 ia_104 (Nat.le_of_ble_eq_true rfl) e32 l30 rfl ?_
        refine tt_iret dX12_size_12 ⟨rfl, _, rfl, ?_⟩
        refine tt_goto (t := 52) dX12_rowOf_26 rfl ?_
        exact tt_iret dX12_rowOf_52 ⟨rfl, _, rfl, h⟩

theorem g_X12_doesTo_0 {post : SG → Int32 → Prop} {σ : SG} {r : Nat} {p : Nat} (h : T_X12_doesTo AF post 5 [.ref 102, .int (nI r), .int (nI p), .int (nI p), .int (nI 0)] [] σ) : T_X12_doesTo AF post 0 [.ref 102, .int (nI r), .int (nI p), dum, dum] [] σ := by
  refine tt_iload_n (q := 1) dX12_doesTo_0 rfl rfl ?_
  refine sti_n_3 (q := 2) dX12_doesTo_1 rfl rfl rfl ?_
  refine tt_iconst (q := 3) dX12_doesTo_2 ki_0 rfl ?_
  refine sti_4 (q := 5) dX12_doesTo_3 rfl rfl ?_
  exact h
theorem g_X12_doesTo_5 {post : SG → Int32 → Prop} {σ : SG} {r : Nat} {p : Nat} {q : Nat} {i : Nat} (h : (95 + (9 * r) < 197 ∧ (((σ 104 (95 + (9 * r))) ≤ (nI i) → post σ (nI q)) ∧ (¬ (σ 104 (95 + (9 * r))) ≤ (nI i) → (95 + (9 * r) + 1 + i < 197 ∧ (∃ p10 : SG → Int32 → Prop, IN_X12_goesTo AF σ [.ref 102, .int (σ 104 (95 + (9 * r) + 1 + i)), .int (nI q)] p10 ∧ ∀ (t9 : SG) (r8 : Int32), p10 t9 r8 → T_X12_doesTo AF post 5 [.ref 102, .int (nI r), .int (nI p), .int r8, .int (nI (i + 1))] [] t9)))))) : T_X12_doesTo AF post 5 [.ref 102, .int (nI r), .int (nI p), .int (nI q), .int (nI i)] [] σ := by
  refine tt_iload (q := 7) dX12_doesTo_5 rfl rfl ?_
  refine tt_aload_n (q := 8) dX12_doesTo_7 rfl rfl ?_
  refine tt_iload_n (q := 9) dX12_doesTo_8 rfl rfl ?_
  refine callVi_1 (q := 12) dX12_doesTo_9 (Or.inl ⟨rfl, rfl, ⟨⟨_, _, rfl, rfl, (Nat.le_of_ble_eq_true rfl), rc_102⟩, Nat.le_of_ble_eq_true rfl, ?_⟩⟩) (Nat.le_of_ble_eq_true rfl) rfl (fun t2 r1 ht2 => ht2)
  refine (show TT cX12_size RX12 false CT0 CN0 _ _ _ none 0 [_, _] [] _ _ from ?_)
  refine tt_aload_n (q := 1) dX12_size_0 rfl rfl ?_
  refine tt_getR (q := 4) dX12_size_1 fl_X12_13 or_102_1 (Nat.le_of_ble_eq_true rfl) rfl rfl ?_
  refine tt_bipush (q := 6) dX12_size_4 bi_95 rfl ?_
  refine tt_bipush (q := 8) dX12_size_6 bi_9 rfl ?_
  refine tt_iload_n (q := 9) dX12_size_8 rfl rfl ?_
  refine tt_imulN (q := 10) dX12_size_9 rfl ?_
  refine tt_iaddN (q := 11) dX12_size_10 rfl ?_
  obtain ⟨l3, h⟩ := h
  refine tt_iald (q := 12) dX12_size_11 ia_104 (Nat.le_of_ble_eq_true rfl) rfl l3 rfl ?_
  refine tt_iret dX12_size_12 ⟨rfl, _, rfl, ?_⟩
  refine tt_icmp_ge (q := 15) (t := 34) dX12_doesTo_12 rfl rfl (fun c => ?_) (fun c => ?_)
  · replace h := h.1 c
    refine tt_iload_n (q := 35) dX12_doesTo_34 rfl rfl ?_
    exact tt_iret dX12_doesTo_35 ⟨rfl, _, rfl, h⟩
  · replace h := h.2 c
    refine tt_aload_n (q := 16) dX12_doesTo_15 rfl rfl ?_
    refine tt_aload_n (q := 17) dX12_doesTo_16 rfl rfl ?_
    refine tt_iload_n (q := 18) dX12_doesTo_17 rfl rfl ?_
    refine tt_iload (q := 20) dX12_doesTo_18 rfl rfl ?_
    refine callVi_2 (q := 23) dX12_doesTo_20 (Or.inr (Or.inl ⟨rfl, rfl, ⟨⟨_, _, rfl, rfl, (Nat.le_of_ble_eq_true rfl), rc_102⟩, Nat.le_of_ble_eq_true rfl, ?_⟩⟩)) (Nat.le_of_ble_eq_true rfl) rfl (fun t6 r5 ht6 => ht6)
    refine (show TT cX12_moveOf RX12 false CT0 CN0 _ _ _ none 0 [_, _, _] [] _ _ from ?_)
    refine tt_aload_n (q := 1) dX12_moveOf_0 rfl rfl ?_
    refine tt_getR (q := 4) dX12_moveOf_1 fl_X12_13 or_102_1 (Nat.le_of_ble_eq_true rfl) rfl rfl ?_
    refine tt_bipush (q := 6) dX12_moveOf_4 bi_95 rfl ?_
    refine tt_bipush (q := 8) dX12_moveOf_6 bi_9 rfl ?_
    refine tt_iload_n (q := 9) dX12_moveOf_8 rfl rfl ?_
    refine tt_imulN (q := 10) dX12_moveOf_9 rfl ?_
    refine tt_iaddN (q := 11) dX12_moveOf_10 rfl ?_
    refine tt_iconst (q := 12) dX12_moveOf_11 ki_1 rfl ?_
    refine tt_iaddN (q := 13) dX12_moveOf_12 rfl ?_
    refine tt_iload_n (q := 14) dX12_moveOf_13 rfl rfl ?_
    refine tt_iaddN (q := 15) dX12_moveOf_14 rfl ?_
    obtain ⟨l7, h⟩ := h
    refine tt_iald (q := 16) dX12_moveOf_15 ia_104 (Nat.le_of_ble_eq_true rfl) rfl l7 rfl ?_
    refine tt_iret dX12_moveOf_16 ⟨rfl, _, rfl, ?_⟩
    refine tt_iload_n (q := 24) dX12_doesTo_23 rfl rfl ?_
    obtain ⟨p10, hp11, h⟩ := h
    refine callVi_2 (q := 27) dX12_doesTo_24 (Or.inr (Or.inr (⟨rfl, rfl, hp11⟩))) (Nat.le_of_ble_eq_true rfl) rfl (fun t9 r8 hr12 => ?_)
    replace h := h t9 r8 hr12
    refine sti_n_3 (q := 28) dX12_doesTo_27 rfl rfl rfl ?_
    refine inc_4 (q := 31) dX12_doesTo_28 (nI_inc1 _) rfl rfl ?_
    refine tt_goto (t := 5) dX12_doesTo_31 rfl ?_
    exact h

theorem g_X12_does_0 {post : SG → Int32 → Prop} {σ : SG} {a : Int32} {b : Int32} (h : ((a < 0 → (∀ s8 : SG, s8 = up σ 103 1 ((σ 103 1) + (nI 1)) → post s8 (-1 : Int32))) ∧ (¬ a < 0 → (((σ 104 1) ≤ a → (∀ s12 : SG, s12 = up σ 103 1 ((σ 103 1) + (nI 1)) → post s12 (-1 : Int32))) ∧ (¬ (σ 104 1) ≤ a → ((b < 0 → (∀ s20 : SG, s20 = up σ 103 1 ((σ 103 1) + (nI 1)) → post s20 (-1 : Int32))) ∧ (¬ b < 0 → (((nI 6) ≤ b → (∀ s24 : SG, s24 = up σ 103 1 ((σ 103 1) + (nI 1)) → post s24 (-1 : Int32))) ∧ (¬ (nI 6) ≤ b → (∃ p27 : SG → Int32 → Prop, IN_X12_doesTo AF σ [.ref 102, .int a, .int b] p27 ∧ ∀ (t26 : SG) (r25 : Int32), p27 t26 r25 → post t26 r25)))))))))) : T_X12_does AF post 0 [.ref 102, .int a, .int b] [] σ := by
  refine tt_aload_n (q := 1) dX12_does_0 rfl rfl ?_
  refine tt_iload_n (q := 2) dX12_does_1 rfl rfl ?_
  refine callVi_1 (q := 5) dX12_does_2 (Or.inl ⟨rfl, rfl, ⟨⟨_, _, rfl, rfl, (Nat.le_of_ble_eq_true rfl), rc_102⟩, Nat.le_of_ble_eq_true rfl, ?_⟩⟩) (Nat.le_of_ble_eq_true rfl) rfl (fun t2 r1 ht2 => ht2)
  refine (show TT cX12_isRow RX12 false CT_X12_isRow CN0 _ _ _ none 0 [_, _] [] _ _ from ?_)
  refine tt_iload_n (q := 1) dX12_isRow_0 rfl rfl ?_
  refine tt_aload_n (q := 2) dX12_isRow_1 rfl rfl ?_
  refine tt_getR (q := 5) dX12_isRow_2 fl_X12_13 or_102_1 (Nat.le_of_ble_eq_true rfl) rfl rfl ?_
  refine tt_iconst (q := 6) dX12_isRow_5 ki_1 rfl ?_
  refine tt_iald (q := 7) dX12_isRow_6 ia_104 (Nat.le_of_ble_eq_true rfl) rfl (Nat.le_of_ble_eq_true rfl : 1 < 197) rfl ?_
  refine callSi_2 (q := 10) dX12_isRow_7 (⟨rfl, rfl, ⟨rfl, Nat.le_of_ble_eq_true rfl, ?_⟩⟩) (Nat.le_of_ble_eq_true rfl) rfl (fun t4 r3 ht4 => ht4)
  refine (show TT cX12_isIn RX12 false CT0 CN0 _ _ _ none 0 [_, _] [] _ _ from ?_)
  refine tt_iload_n (q := 1) dX12_isIn_0 rfl rfl ?_
  refine tt_if_lt (q := 4) (t := 13) dX12_isIn_1 rfl rfl (fun c => ?_) (fun c => ?_)
  · replace h := h.1 c
    refine tt_iconst (q := 14) dX12_isIn_13 ki_0 rfl ?_
    refine tt_iret dX12_isIn_14 ⟨rfl, _, rfl, Or.inl nI_0, ?_⟩
    refine tt_iret dX12_isRow_10 ⟨rfl, _, rfl, Or.inl nI_0, ?_⟩
    refine tt_if_eq (q := 8) (t := 24) dX12_does_5 rfl rfl (fun c => ?_) (fun c => absurd c (by decide))
    clear c
    refine tt_aload_n (q := 25) dX12_does_24 rfl rfl ?_
    refine tt_iconst (q := 26) dX12_does_25 ki_m1 rfl ?_
    refine callVi_1 (q := 29) dX12_does_26 (Or.inr (Or.inr (Or.inr (⟨rfl, rfl, ⟨⟨_, _, rfl, rfl, (Nat.le_of_ble_eq_true rfl), rc_102⟩, Nat.le_of_ble_eq_true rfl, ?_⟩⟩)))) (Nat.le_of_ble_eq_true rfl) rfl (fun t7 r6 ht7 => ht7)
    refine (show TT cX12_refuse RX12 false CT0 CN0 _ _ _ none 0 [_, _] [] _ _ from ?_)
    refine tt_aload_n (q := 1) dX12_refuse_0 rfl rfl ?_
    refine tt_getR (q := 4) dX12_refuse_1 fl_X12_7 or_102_0 (Nat.le_of_ble_eq_true rfl) rfl rfl ?_
    refine tt_iload_n (q := 5) dX12_refuse_4 rfl rfl ?_
    refine tt_inegE (v := nI 1) (q := 6) dX12_refuse_5 (by decide) rfl ?_
    refine tt_dup2 (q := 7) dX12_refuse_6 rfl rfl rfl ?_
    refine tt_iald (q := 8) dX12_refuse_7 ia_103 (Nat.le_of_ble_eq_true rfl) rfl (Nat.le_of_ble_eq_true rfl : 1 < 7) rfl ?_
    refine tt_iconst (q := 9) dX12_refuse_8 ki_1 rfl ?_
    refine tt_iadd (q := 10) dX12_refuse_9 rfl ?_
    refine tt_iast (q := 11) dX12_refuse_10 ia_103 (Nat.le_of_ble_eq_true rfl) rfl (Nat.le_of_ble_eq_true rfl : 1 < 7) rfl ?_
    replace h := h _ rfl
    refine tt_iload_n (q := 12) dX12_refuse_11 rfl rfl ?_
    refine tt_iret dX12_refuse_12 ⟨rfl, _, rfl, ?_⟩
    exact tt_iret dX12_does_29 ⟨rfl, _, rfl, h⟩
  · replace h := h.2 c
    refine tt_iload_n (q := 5) dX12_isIn_4 rfl rfl ?_
    refine tt_iload_n (q := 6) dX12_isIn_5 rfl rfl ?_
    refine tt_icmp_ge (q := 9) (t := 13) dX12_isIn_6 rfl rfl (fun c => ?_) (fun c => ?_)
    · replace h := h.1 c
      refine tt_iconst (q := 14) dX12_isIn_13 ki_0 rfl ?_
      refine tt_iret dX12_isIn_14 ⟨rfl, _, rfl, Or.inl nI_0, ?_⟩
      refine tt_iret dX12_isRow_10 ⟨rfl, _, rfl, Or.inl nI_0, ?_⟩
      refine tt_if_eq (q := 8) (t := 24) dX12_does_5 rfl rfl (fun c => ?_) (fun c => absurd c (by decide))
      clear c
      refine tt_aload_n (q := 25) dX12_does_24 rfl rfl ?_
      refine tt_iconst (q := 26) dX12_does_25 ki_m1 rfl ?_
      refine callVi_1 (q := 29) dX12_does_26 (Or.inr (Or.inr (Or.inr (⟨rfl, rfl, ⟨⟨_, _, rfl, rfl, (Nat.le_of_ble_eq_true rfl), rc_102⟩, Nat.le_of_ble_eq_true rfl, ?_⟩⟩)))) (Nat.le_of_ble_eq_true rfl) rfl (fun t11 r10 ht11 => ht11)
      refine (show TT cX12_refuse RX12 false CT0 CN0 _ _ _ none 0 [_, _] [] _ _ from ?_)
      refine tt_aload_n (q := 1) dX12_refuse_0 rfl rfl ?_
      refine tt_getR (q := 4) dX12_refuse_1 fl_X12_7 or_102_0 (Nat.le_of_ble_eq_true rfl) rfl rfl ?_
      refine tt_iload_n (q := 5) dX12_refuse_4 rfl rfl ?_
      refine tt_inegE (v := nI 1) (q := 6) dX12_refuse_5 (by decide) rfl ?_
      refine tt_dup2 (q := 7) dX12_refuse_6 rfl rfl rfl ?_
      refine tt_iald (q := 8) dX12_refuse_7 ia_103 (Nat.le_of_ble_eq_true rfl) rfl (Nat.le_of_ble_eq_true rfl : 1 < 7) rfl ?_
      refine tt_iconst (q := 9) dX12_refuse_8 ki_1 rfl ?_
      refine tt_iadd (q := 10) dX12_refuse_9 rfl ?_
      refine tt_iast (q := 11) dX12_refuse_10 ia_103 (Nat.le_of_ble_eq_true rfl) rfl (Nat.le_of_ble_eq_true rfl : 1 < 7) rfl ?_
      replace h := h _ rfl
      refine tt_iload_n (q := 12) dX12_refuse_11 rfl rfl ?_
      refine tt_iret dX12_refuse_12 ⟨rfl, _, rfl, ?_⟩
      exact tt_iret dX12_does_29 ⟨rfl, _, rfl, h⟩
    · replace h := h.2 c
      refine tt_iconst (q := 10) dX12_isIn_9 ki_1 rfl ?_
      refine tt_goto (t := 14) dX12_isIn_10 rfl ?_
      refine tt_iret dX12_isIn_14 ⟨rfl, _, rfl, Or.inr rfl, ?_⟩
      refine tt_iret dX12_isRow_10 ⟨rfl, _, rfl, Or.inr rfl, ?_⟩
      refine tt_if_eq (q := 8) (t := 24) dX12_does_5 rfl rfl (fun c => absurd c (by decide)) (fun c => ?_)
      clear c
      refine tt_iload_n (q := 9) dX12_does_8 rfl rfl ?_
      refine callSi_1 (q := 12) dX12_does_9 (Or.inr (Or.inl ⟨rfl, rfl, ⟨rfl, Nat.le_of_ble_eq_true rfl, ?_⟩⟩)) (Nat.le_of_ble_eq_true rfl) rfl (fun t14 r13 ht14 => ht14)
      refine (show TT cX12_isPlace RX12 false CT_X12_isPlace CN0 _ _ _ none 0 [_] [] _ _ from ?_)
      refine tt_iload_n (q := 1) dX12_isPlace_0 rfl rfl ?_
      refine tt_bipush (q := 3) dX12_isPlace_1 bi_6 rfl ?_
      refine callSi_2 (q := 6) dX12_isPlace_3 (⟨rfl, rfl, ⟨rfl, Nat.le_of_ble_eq_true rfl, ?_⟩⟩) (Nat.le_of_ble_eq_true rfl) rfl (fun t16 r15 ht16 => ht16)
      refine (show TT cX12_isIn RX12 false CT0 CN0 _ _ _ none 0 [_, _] [] _ _ from ?_)
      refine tt_iload_n (q := 1) dX12_isIn_0 rfl rfl ?_
      refine tt_if_lt (q := 4) (t := 13) dX12_isIn_1 rfl rfl (fun c => ?_) (fun c => ?_)
      · replace h := h.1 c
        refine tt_iconst (q := 14) dX12_isIn_13 ki_0 rfl ?_
        refine tt_iret dX12_isIn_14 ⟨rfl, _, rfl, Or.inl nI_0, ?_⟩
        refine tt_iret dX12_isPlace_6 ⟨rfl, _, rfl, Or.inl nI_0, ?_⟩
        refine tt_if_eq (q := 15) (t := 24) dX12_does_12 rfl rfl (fun c => ?_) (fun c => absurd c (by decide))
        clear c
        refine tt_aload_n (q := 25) dX12_does_24 rfl rfl ?_
        refine tt_iconst (q := 26) dX12_does_25 ki_m1 rfl ?_
        refine callVi_1 (q := 29) dX12_does_26 (Or.inr (Or.inr (Or.inr (⟨rfl, rfl, ⟨⟨_, _, rfl, rfl, (Nat.le_of_ble_eq_true rfl), rc_102⟩, Nat.le_of_ble_eq_true rfl, ?_⟩⟩)))) (Nat.le_of_ble_eq_true rfl) rfl (fun t19 r18 ht19 => ht19)
        refine (show TT cX12_refuse RX12 false CT0 CN0 _ _ _ none 0 [_, _] [] _ _ from ?_)
        refine tt_aload_n (q := 1) dX12_refuse_0 rfl rfl ?_
        refine tt_getR (q := 4) dX12_refuse_1 fl_X12_7 or_102_0 (Nat.le_of_ble_eq_true rfl) rfl rfl ?_
        refine tt_iload_n (q := 5) dX12_refuse_4 rfl rfl ?_
        refine tt_inegE (v := nI 1) (q := 6) dX12_refuse_5 (by decide) rfl ?_
        refine tt_dup2 (q := 7) dX12_refuse_6 rfl rfl rfl ?_
        refine tt_iald (q := 8) dX12_refuse_7 ia_103 (Nat.le_of_ble_eq_true rfl) rfl (Nat.le_of_ble_eq_true rfl : 1 < 7) rfl ?_
        refine tt_iconst (q := 9) dX12_refuse_8 ki_1 rfl ?_
        refine tt_iadd (q := 10) dX12_refuse_9 rfl ?_
        refine tt_iast (q := 11) dX12_refuse_10 ia_103 (Nat.le_of_ble_eq_true rfl) rfl (Nat.le_of_ble_eq_true rfl : 1 < 7) rfl ?_
        replace h := h _ rfl
        refine tt_iload_n (q := 12) dX12_refuse_11 rfl rfl ?_
        refine tt_iret dX12_refuse_12 ⟨rfl, _, rfl, ?_⟩
        exact tt_iret dX12_does_29 ⟨rfl, _, rfl, h⟩
      · replace h := h.2 c
        refine tt_iload_n (q := 5) dX12_isIn_4 rfl rfl ?_
        refine tt_iload_n (q := 6) dX12_isIn_5 rfl rfl ?_
        refine tt_icmp_ge (q := 9) (t := 13) dX12_isIn_6 rfl rfl (fun c => ?_) (fun c => ?_)
        · replace h := h.1 c
          refine tt_iconst (q := 14) dX12_isIn_13 ki_0 rfl ?_
          refine tt_iret dX12_isIn_14 ⟨rfl, _, rfl, Or.inl nI_0, ?_⟩
          refine tt_iret dX12_isPlace_6 ⟨rfl, _, rfl, Or.inl nI_0, ?_⟩
          refine tt_if_eq (q := 15) (t := 24) dX12_does_12 rfl rfl (fun c => ?_) (fun c => absurd c (by decide))
          clear c
          refine tt_aload_n (q := 25) dX12_does_24 rfl rfl ?_
          refine tt_iconst (q := 26) dX12_does_25 ki_m1 rfl ?_
          refine callVi_1 (q := 29) dX12_does_26 (Or.inr (Or.inr (Or.inr (⟨rfl, rfl, ⟨⟨_, _, rfl, rfl, (Nat.le_of_ble_eq_true rfl), rc_102⟩, Nat.le_of_ble_eq_true rfl, ?_⟩⟩)))) (Nat.le_of_ble_eq_true rfl) rfl (fun t23 r22 ht23 => ht23)
          refine (show TT cX12_refuse RX12 false CT0 CN0 _ _ _ none 0 [_, _] [] _ _ from ?_)
          refine tt_aload_n (q := 1) dX12_refuse_0 rfl rfl ?_
          refine tt_getR (q := 4) dX12_refuse_1 fl_X12_7 or_102_0 (Nat.le_of_ble_eq_true rfl) rfl rfl ?_
          refine tt_iload_n (q := 5) dX12_refuse_4 rfl rfl ?_
          refine tt_inegE (v := nI 1) (q := 6) dX12_refuse_5 (by decide) rfl ?_
          refine tt_dup2 (q := 7) dX12_refuse_6 rfl rfl rfl ?_
          refine tt_iald (q := 8) dX12_refuse_7 ia_103 (Nat.le_of_ble_eq_true rfl) rfl (Nat.le_of_ble_eq_true rfl : 1 < 7) rfl ?_
          refine tt_iconst (q := 9) dX12_refuse_8 ki_1 rfl ?_
          refine tt_iadd (q := 10) dX12_refuse_9 rfl ?_
          refine tt_iast (q := 11) dX12_refuse_10 ia_103 (Nat.le_of_ble_eq_true rfl) rfl (Nat.le_of_ble_eq_true rfl : 1 < 7) rfl ?_
          replace h := h _ rfl
          refine tt_iload_n (q := 12) dX12_refuse_11 rfl rfl ?_
          refine tt_iret dX12_refuse_12 ⟨rfl, _, rfl, ?_⟩
          exact tt_iret dX12_does_29 ⟨rfl, _, rfl, h⟩
        · replace h := h.2 c
          refine tt_iconst (q := 10) dX12_isIn_9 ki_1 rfl ?_
          refine tt_goto (t := 14) dX12_isIn_10 rfl ?_
          refine tt_iret dX12_isIn_14 ⟨rfl, _, rfl, Or.inr rfl, ?_⟩
          refine tt_iret dX12_isPlace_6 ⟨rfl, _, rfl, Or.inr rfl, ?_⟩
          refine tt_if_eq (q := 15) (t := 24) dX12_does_12 rfl rfl (fun c => absurd c (by decide)) (fun c => ?_)
          clear c
          refine tt_aload_n (q := 16) dX12_does_15 rfl rfl ?_
          refine tt_iload_n (q := 17) dX12_does_16 rfl rfl ?_
          refine tt_iload_n (q := 18) dX12_does_17 rfl rfl ?_
          obtain ⟨p27, hp28, h⟩ := h
          refine callVi_2 (q := 21) dX12_does_18 (Or.inr (Or.inr (Or.inl ⟨rfl, rfl, hp28⟩))) (Nat.le_of_ble_eq_true rfl) rfl (fun t26 r25 hr29 => ?_)
          replace h := h t26 r25 hr29
          refine tt_goto (t := 29) dX12_does_21 rfl ?_
          exact tt_iret dX12_does_29 ⟨rfl, _, rfl, h⟩

theorem g_X12_order_0 {post : SG → Int32 → Prop} {σ : SG} {r : Int32} (h : ((r < 0 → (∀ s8 : SG, s8 = up σ 103 1 ((σ 103 1) + (nI 1)) → post s8 (-1 : Int32))) ∧ (¬ r < 0 → (((σ 104 1) ≤ r → (∀ s12 : SG, s12 = up σ 103 1 ((σ 103 1) + (nI 1)) → post s12 (-1 : Int32))) ∧ (¬ (σ 104 1) ≤ r → (∀ s13 : SG, s13 = up σ 107 0 (nI 0) → (∀ s14 : SG, s14 = up s13 107 1 (nI 1) → (∀ s15 : SG, s15 = up s14 107 2 (nI 2) → (∀ s16 : SG, s16 = up s15 107 3 (nI 3) → (∀ s17 : SG, s17 = up s16 107 4 (nI 4) → (∀ s18 : SG, s18 = up s17 107 5 (nI 5) → T_X12_order AF post 43 [.ref 102, .int r, .int (nI 0), .int (nI 0), dum] [] s18))))))))))) : T_X12_order AF post 0 [.ref 102, .int r, dum, dum, dum] [] σ := by
  refine tt_aload_n (q := 1) dX12_order_0 rfl rfl ?_
  refine tt_iload_n (q := 2) dX12_order_1 rfl rfl ?_
  refine callVi_1 (q := 5) dX12_order_2 (Or.inl ⟨rfl, rfl, ⟨⟨_, _, rfl, rfl, (Nat.le_of_ble_eq_true rfl), rc_102⟩, Nat.le_of_ble_eq_true rfl, ?_⟩⟩) (Nat.le_of_ble_eq_true rfl) rfl (fun t2 r1 ht2 => ht2)
  refine (show TT cX12_isRow RX12 false CT_X12_isRow CN0 _ _ _ none 0 [_, _] [] _ _ from ?_)
  refine tt_iload_n (q := 1) dX12_isRow_0 rfl rfl ?_
  refine tt_aload_n (q := 2) dX12_isRow_1 rfl rfl ?_
  refine tt_getR (q := 5) dX12_isRow_2 fl_X12_13 or_102_1 (Nat.le_of_ble_eq_true rfl) rfl rfl ?_
  refine tt_iconst (q := 6) dX12_isRow_5 ki_1 rfl ?_
  refine tt_iald (q := 7) dX12_isRow_6 ia_104 (Nat.le_of_ble_eq_true rfl) rfl (Nat.le_of_ble_eq_true rfl : 1 < 197) rfl ?_
  refine callSi_2 (q := 10) dX12_isRow_7 (⟨rfl, rfl, ⟨rfl, Nat.le_of_ble_eq_true rfl, ?_⟩⟩) (Nat.le_of_ble_eq_true rfl) rfl (fun t4 r3 ht4 => ht4)
  refine (show TT cX12_isIn RX12 false CT0 CN0 _ _ _ none 0 [_, _] [] _ _ from ?_)
  refine tt_iload_n (q := 1) dX12_isIn_0 rfl rfl ?_
  refine tt_if_lt (q := 4) (t := 13) dX12_isIn_1 rfl rfl (fun c => ?_) (fun c => ?_)
  · replace h := h.1 c
    refine tt_iconst (q := 14) dX12_isIn_13 ki_0 rfl ?_
    refine tt_iret dX12_isIn_14 ⟨rfl, _, rfl, Or.inl nI_0, ?_⟩
    refine tt_iret dX12_isRow_10 ⟨rfl, _, rfl, Or.inl nI_0, ?_⟩
    refine tt_if_ne (q := 8) (t := 14) dX12_order_5 rfl rfl (fun c => absurd c (by decide)) (fun c => ?_)
    clear c
    refine tt_aload_n (q := 9) dX12_order_8 rfl rfl ?_
    refine tt_iconst (q := 10) dX12_order_9 ki_m1 rfl ?_
    refine callVi_1 (q := 13) dX12_order_10 (Or.inr (Or.inl ⟨rfl, rfl, ⟨⟨_, _, rfl, rfl, (Nat.le_of_ble_eq_true rfl), rc_102⟩, Nat.le_of_ble_eq_true rfl, ?_⟩⟩)) (Nat.le_of_ble_eq_true rfl) rfl (fun t7 r6 ht7 => ht7)
    refine (show TT cX12_refuse RX12 false CT0 CN0 _ _ _ none 0 [_, _] [] _ _ from ?_)
    refine tt_aload_n (q := 1) dX12_refuse_0 rfl rfl ?_
    refine tt_getR (q := 4) dX12_refuse_1 fl_X12_7 or_102_0 (Nat.le_of_ble_eq_true rfl) rfl rfl ?_
    refine tt_iload_n (q := 5) dX12_refuse_4 rfl rfl ?_
    refine tt_inegE (v := nI 1) (q := 6) dX12_refuse_5 (by decide) rfl ?_
    refine tt_dup2 (q := 7) dX12_refuse_6 rfl rfl rfl ?_
    refine tt_iald (q := 8) dX12_refuse_7 ia_103 (Nat.le_of_ble_eq_true rfl) rfl (Nat.le_of_ble_eq_true rfl : 1 < 7) rfl ?_
    refine tt_iconst (q := 9) dX12_refuse_8 ki_1 rfl ?_
    refine tt_iadd (q := 10) dX12_refuse_9 rfl ?_
    refine tt_iast (q := 11) dX12_refuse_10 ia_103 (Nat.le_of_ble_eq_true rfl) rfl (Nat.le_of_ble_eq_true rfl : 1 < 7) rfl ?_
    replace h := h _ rfl
    refine tt_iload_n (q := 12) dX12_refuse_11 rfl rfl ?_
    refine tt_iret dX12_refuse_12 ⟨rfl, _, rfl, ?_⟩
    exact tt_iret dX12_order_13 ⟨rfl, _, rfl, h⟩
  · replace h := h.2 c
    refine tt_iload_n (q := 5) dX12_isIn_4 rfl rfl ?_
    refine tt_iload_n (q := 6) dX12_isIn_5 rfl rfl ?_
    refine tt_icmp_ge (q := 9) (t := 13) dX12_isIn_6 rfl rfl (fun c => ?_) (fun c => ?_)
    · replace h := h.1 c
      refine tt_iconst (q := 14) dX12_isIn_13 ki_0 rfl ?_
      refine tt_iret dX12_isIn_14 ⟨rfl, _, rfl, Or.inl nI_0, ?_⟩
      refine tt_iret dX12_isRow_10 ⟨rfl, _, rfl, Or.inl nI_0, ?_⟩
      refine tt_if_ne (q := 8) (t := 14) dX12_order_5 rfl rfl (fun c => absurd c (by decide)) (fun c => ?_)
      clear c
      refine tt_aload_n (q := 9) dX12_order_8 rfl rfl ?_
      refine tt_iconst (q := 10) dX12_order_9 ki_m1 rfl ?_
      refine callVi_1 (q := 13) dX12_order_10 (Or.inr (Or.inl ⟨rfl, rfl, ⟨⟨_, _, rfl, rfl, (Nat.le_of_ble_eq_true rfl), rc_102⟩, Nat.le_of_ble_eq_true rfl, ?_⟩⟩)) (Nat.le_of_ble_eq_true rfl) rfl (fun t11 r10 ht11 => ht11)
      refine (show TT cX12_refuse RX12 false CT0 CN0 _ _ _ none 0 [_, _] [] _ _ from ?_)
      refine tt_aload_n (q := 1) dX12_refuse_0 rfl rfl ?_
      refine tt_getR (q := 4) dX12_refuse_1 fl_X12_7 or_102_0 (Nat.le_of_ble_eq_true rfl) rfl rfl ?_
      refine tt_iload_n (q := 5) dX12_refuse_4 rfl rfl ?_
      refine tt_inegE (v := nI 1) (q := 6) dX12_refuse_5 (by decide) rfl ?_
      refine tt_dup2 (q := 7) dX12_refuse_6 rfl rfl rfl ?_
      refine tt_iald (q := 8) dX12_refuse_7 ia_103 (Nat.le_of_ble_eq_true rfl) rfl (Nat.le_of_ble_eq_true rfl : 1 < 7) rfl ?_
      refine tt_iconst (q := 9) dX12_refuse_8 ki_1 rfl ?_
      refine tt_iadd (q := 10) dX12_refuse_9 rfl ?_
      refine tt_iast (q := 11) dX12_refuse_10 ia_103 (Nat.le_of_ble_eq_true rfl) rfl (Nat.le_of_ble_eq_true rfl : 1 < 7) rfl ?_
      replace h := h _ rfl
      refine tt_iload_n (q := 12) dX12_refuse_11 rfl rfl ?_
      refine tt_iret dX12_refuse_12 ⟨rfl, _, rfl, ?_⟩
      exact tt_iret dX12_order_13 ⟨rfl, _, rfl, h⟩
    · replace h := h.2 c
      refine tt_iconst (q := 10) dX12_isIn_9 ki_1 rfl ?_
      refine tt_goto (t := 14) dX12_isIn_10 rfl ?_
      refine tt_iret dX12_isIn_14 ⟨rfl, _, rfl, Or.inr rfl, ?_⟩
      refine tt_iret dX12_isRow_10 ⟨rfl, _, rfl, Or.inr rfl, ?_⟩
      refine tt_if_ne (q := 8) (t := 14) dX12_order_5 rfl rfl (fun c => ?_) (fun c => absurd c (by decide))
      clear c
      refine tt_iconst (q := 15) dX12_order_14 ki_0 rfl ?_
      refine sti_n_2 (q := 16) dX12_order_15 rfl rfl rfl ?_
      refine tt_iconst (q := 17) dX12_order_16 ki_0 rfl ?_
      refine sti_n_3 (q := 18) dX12_order_17 rfl rfl rfl ?_
      refine tt_iconst (q := 19) dX12_order_18 ki_0 rfl ?_
      refine sti_4 (q := 21) dX12_order_19 rfl rfl ?_
      refine tt_iload (q := 23) dX12_order_21 rfl rfl ?_
      refine tt_bipush (q := 25) dX12_order_23 bi_6 rfl ?_
      refine tt_icmp_ge (q := 28) (t := 43) dX12_order_25 rfl rfl (fun c => absurd c (by decide)) (fun c => ?_)
      clear c
      refine tt_aload_n (q := 29) dX12_order_28 rfl rfl ?_
      refine tt_getR (q := 32) dX12_order_29 fl_X12_22 or_102_5 (Nat.le_of_ble_eq_true rfl) rfl rfl ?_
      refine tt_iload (q := 34) dX12_order_32 rfl rfl ?_
      refine tt_iload (q := 36) dX12_order_34 rfl rfl ?_
      refine tt_iast (q := 37) dX12_order_36 ia_107 (Nat.le_of_ble_eq_true rfl) rfl (Nat.le_of_ble_eq_true rfl : 0 < 9) rfl ?_
      replace h := h _ rfl
      refine inc_4 (v := nI 1) (q := 40) dX12_order_37 (by decide) rfl rfl ?_
      refine tt_goto (t := 21) dX12_order_40 rfl ?_
      refine tt_iload (q := 23) dX12_order_21 rfl rfl ?_
      refine tt_bipush (q := 25) dX12_order_23 bi_6 rfl ?_
      refine tt_icmp_ge (q := 28) (t := 43) dX12_order_25 rfl rfl (fun c => absurd c (by decide)) (fun c => ?_)
      clear c
      refine tt_aload_n (q := 29) dX12_order_28 rfl rfl ?_
      refine tt_getR (q := 32) dX12_order_29 fl_X12_22 or_102_5 (Nat.le_of_ble_eq_true rfl) rfl rfl ?_
      refine tt_iload (q := 34) dX12_order_32 rfl rfl ?_
      refine tt_iload (q := 36) dX12_order_34 rfl rfl ?_
      refine tt_iast (q := 37) dX12_order_36 ia_107 (Nat.le_of_ble_eq_true rfl) rfl (Nat.le_of_ble_eq_true rfl : 1 < 9) rfl ?_
      replace h := h _ rfl
      refine inc_4 (v := nI 2) (q := 40) dX12_order_37 (by decide) rfl rfl ?_
      refine tt_goto (t := 21) dX12_order_40 rfl ?_
      refine tt_iload (q := 23) dX12_order_21 rfl rfl ?_
      refine tt_bipush (q := 25) dX12_order_23 bi_6 rfl ?_
      refine tt_icmp_ge (q := 28) (t := 43) dX12_order_25 rfl rfl (fun c => absurd c (by decide)) (fun c => ?_)
      clear c
      refine tt_aload_n (q := 29) dX12_order_28 rfl rfl ?_
      refine tt_getR (q := 32) dX12_order_29 fl_X12_22 or_102_5 (Nat.le_of_ble_eq_true rfl) rfl rfl ?_
      refine tt_iload (q := 34) dX12_order_32 rfl rfl ?_
      refine tt_iload (q := 36) dX12_order_34 rfl rfl ?_
      refine tt_iast (q := 37) dX12_order_36 ia_107 (Nat.le_of_ble_eq_true rfl) rfl (Nat.le_of_ble_eq_true rfl : 2 < 9) rfl ?_
      replace h := h _ rfl
      refine inc_4 (v := nI 3) (q := 40) dX12_order_37 (by decide) rfl rfl ?_
      refine tt_goto (t := 21) dX12_order_40 rfl ?_
      refine tt_iload (q := 23) dX12_order_21 rfl rfl ?_
      refine tt_bipush (q := 25) dX12_order_23 bi_6 rfl ?_
      refine tt_icmp_ge (q := 28) (t := 43) dX12_order_25 rfl rfl (fun c => absurd c (by decide)) (fun c => ?_)
      clear c
      refine tt_aload_n (q := 29) dX12_order_28 rfl rfl ?_
      refine tt_getR (q := 32) dX12_order_29 fl_X12_22 or_102_5 (Nat.le_of_ble_eq_true rfl) rfl rfl ?_
      refine tt_iload (q := 34) dX12_order_32 rfl rfl ?_
      refine tt_iload (q := 36) dX12_order_34 rfl rfl ?_
      refine tt_iast (q := 37) dX12_order_36 ia_107 (Nat.le_of_ble_eq_true rfl) rfl (Nat.le_of_ble_eq_true rfl : 3 < 9) rfl ?_
      replace h := h _ rfl
      refine inc_4 (v := nI 4) (q := 40) dX12_order_37 (by decide) rfl rfl ?_
      refine tt_goto (t := 21) dX12_order_40 rfl ?_
      refine tt_iload (q := 23) dX12_order_21 rfl rfl ?_
      refine tt_bipush (q := 25) dX12_order_23 bi_6 rfl ?_
      refine tt_icmp_ge (q := 28) (t := 43) dX12_order_25 rfl rfl (fun c => absurd c (by decide)) (fun c => ?_)
      clear c
      refine tt_aload_n (q := 29) dX12_order_28 rfl rfl ?_
      refine tt_getR (q := 32) dX12_order_29 fl_X12_22 or_102_5 (Nat.le_of_ble_eq_true rfl) rfl rfl ?_
      refine tt_iload (q := 34) dX12_order_32 rfl rfl ?_
      refine tt_iload (q := 36) dX12_order_34 rfl rfl ?_
      refine tt_iast (q := 37) dX12_order_36 ia_107 (Nat.le_of_ble_eq_true rfl) rfl (Nat.le_of_ble_eq_true rfl : 4 < 9) rfl ?_
      replace h := h _ rfl
      refine inc_4 (v := nI 5) (q := 40) dX12_order_37 (by decide) rfl rfl ?_
      refine tt_goto (t := 21) dX12_order_40 rfl ?_
      refine tt_iload (q := 23) dX12_order_21 rfl rfl ?_
      refine tt_bipush (q := 25) dX12_order_23 bi_6 rfl ?_
      refine tt_icmp_ge (q := 28) (t := 43) dX12_order_25 rfl rfl (fun c => absurd c (by decide)) (fun c => ?_)
      clear c
      refine tt_aload_n (q := 29) dX12_order_28 rfl rfl ?_
      refine tt_getR (q := 32) dX12_order_29 fl_X12_22 or_102_5 (Nat.le_of_ble_eq_true rfl) rfl rfl ?_
      refine tt_iload (q := 34) dX12_order_32 rfl rfl ?_
      refine tt_iload (q := 36) dX12_order_34 rfl rfl ?_
      refine tt_iast (q := 37) dX12_order_36 ia_107 (Nat.le_of_ble_eq_true rfl) rfl (Nat.le_of_ble_eq_true rfl : 5 < 9) rfl ?_
      replace h := h _ rfl
      refine inc_4 (v := nI 6) (q := 40) dX12_order_37 (by decide) rfl rfl ?_
      refine tt_goto (t := 21) dX12_order_40 rfl ?_
      refine tt_iload (q := 23) dX12_order_21 rfl rfl ?_
      refine tt_bipush (q := 25) dX12_order_23 bi_6 rfl ?_
      refine tt_icmp_ge (q := 28) (t := 43) dX12_order_25 rfl rfl (fun c => ?_) (fun c => absurd c (by decide))
      clear c
      refine tt_wk (L2 := [_, _, _, _, dum]) ⟨Or.inl rfl, Or.inl rfl, Or.inl rfl, Or.inl rfl, Or.inr rfl, trivial⟩ ?_
      exact h
theorem g_X12_order_43 {post : SG → Int32 → Prop} {σ : SG} {r : Nat} {n : Nat} {ho : Int32} (h : ((¬ ho = 0 → post σ (nI n)) ∧ (ho = 0 → T_X12_order AF post 52 [.ref 102, .int (nI r), .int (nI n), .int (nI 1), .int (nI 0)] [] σ))) : T_X12_order AF post 43 [.ref 102, .int (nI r), .int (nI n), .int ho, dum] [] σ := by
  refine tt_iload_n (q := 44) dX12_order_43 rfl rfl ?_
  refine tt_if_ne (q := 47) (t := 112) dX12_order_44 rfl rfl (fun c => ?_) (fun c => ?_)
  · replace h := h.1 c
    refine tt_iload_n (q := 113) dX12_order_112 rfl rfl ?_
    exact tt_iret dX12_order_113 ⟨rfl, _, rfl, h⟩
  · replace h := h.2 c
    refine tt_iconst (q := 48) dX12_order_47 ki_1 rfl ?_
    refine sti_n_3 (q := 49) dX12_order_48 rfl rfl rfl ?_
    refine tt_iconst (q := 50) dX12_order_49 ki_0 rfl ?_
    refine sti_4 (q := 52) dX12_order_50 rfl rfl ?_
    exact h
theorem g_X12_order_52 {post : SG → Int32 → Prop} {σ : SG} {r : Nat} {n : Nat} {ho : Int32} {p : Nat} (h : (p < 2 ^ 31 ∧ ((6 ≤ p → T_X12_order AF post 43 [.ref 102, .int (nI r), .int (nI (n + 1)), .int ho, dum] [] σ) ∧ (p < 6 → (p < 9 ∧ (∃ p6 : SG → Int32 → Prop, IN_X12_doesTo AF σ [.ref 102, .int (nI r), .int (σ 107 p)] p6 ∧ ∀ (t5 : SG) (r4 : Int32), p6 t5 r4 → (p < 9 ∧ (∀ s10 : SG, s10 = up t5 107 p r4 → ((ho = 0 → T_X12_order AF post 52 [.ref 102, .int (nI r), .int (nI n), .int (nI 0), .int (nI (p + 1))] [] s10) ∧ (¬ ho = 0 → (p < 9 ∧ ((¬ (s10 107 p) = (nI p) → T_X12_order AF post 52 [.ref 102, .int (nI r), .int (nI n), .int (nI 0), .int (nI (p + 1))] [] s10) ∧ ((s10 107 p) = (nI p) → T_X12_order AF post 52 [.ref 102, .int (nI r), .int (nI n), .int (nI 1), .int (nI (p + 1))] [] s10))))))))))))) : T_X12_order AF post 52 [.ref 102, .int (nI r), .int (nI n), .int ho, .int (nI p)] [] σ := by
  refine tt_iload (q := 54) dX12_order_52 rfl rfl ?_
  refine tt_bipush (q := 56) dX12_order_54 bi_6 rfl ?_
  obtain ⟨l2, h⟩ := h
  refine tt_icmp_ge (q := 59) (t := 106) dX12_order_56 rfl rfl (fun c => ?_) (fun c => ?_)
  · replace h := h.1 ((nI_leI (by decide) l2).1 c)
    refine inc_2 (q := 109) dX12_order_106 (nI_inc1 _) rfl rfl ?_
    refine tt_goto (t := 43) dX12_order_109 rfl ?_
    refine tt_wk (L2 := [_, _, _, _, dum]) ⟨Or.inl rfl, Or.inl rfl, Or.inl rfl, Or.inl rfl, Or.inr rfl, trivial⟩ ?_
    exact h
  · replace h := h.2 (Nat.lt_of_not_le (fun z => c ((nI_leI (by decide) l2).2 z)))
    refine tt_aload_n (q := 60) dX12_order_59 rfl rfl ?_
    refine tt_getR (q := 63) dX12_order_60 fl_X12_22 or_102_5 (Nat.le_of_ble_eq_true rfl) rfl rfl ?_
    refine tt_iload (q := 65) dX12_order_63 rfl rfl ?_
    refine tt_aload_n (q := 66) dX12_order_65 rfl rfl ?_
    refine tt_iload_n (q := 67) dX12_order_66 rfl rfl ?_
    refine tt_aload_n (q := 68) dX12_order_67 rfl rfl ?_
    refine tt_getR (q := 71) dX12_order_68 fl_X12_22 or_102_5 (Nat.le_of_ble_eq_true rfl) rfl rfl ?_
    refine tt_iload (q := 73) dX12_order_71 rfl rfl ?_
    obtain ⟨l3, h⟩ := h
    refine tt_iald (q := 74) dX12_order_73 ia_107 (Nat.le_of_ble_eq_true rfl) rfl l3 rfl ?_
    obtain ⟨p6, hp7, h⟩ := h
    refine callVi_2 (q := 77) dX12_order_74 (Or.inr (Or.inr (⟨rfl, rfl, hp7⟩))) (Nat.le_of_ble_eq_true rfl) rfl (fun t5 r4 hr8 => ?_)
    replace h := h t5 r4 hr8
    obtain ⟨l9, h⟩ := h
    refine tt_iast (q := 78) dX12_order_77 ia_107 (Nat.le_of_ble_eq_true rfl) rfl l9 rfl ?_
    replace h := h _ rfl
    refine tt_iload_n (q := 79) dX12_order_78 rfl rfl ?_
    refine tt_if_eq (q := 82) (t := 98) dX12_order_79 rfl rfl (fun c => ?_) (fun c => ?_)
    · replace h := h.1 c
      refine tt_iconst (q := 99) dX12_order_98 ki_0 rfl ?_
      refine sti_n_3 (q := 100) dX12_order_99 rfl rfl rfl ?_
      refine inc_4 (q := 103) dX12_order_100 (nI_inc1 _) rfl rfl ?_
      refine tt_goto (t := 52) dX12_order_103 rfl ?_
      exact h
    · replace h := h.2 c
      refine tt_aload_n (q := 83) dX12_order_82 rfl rfl ?_
      refine tt_getR (q := 86) dX12_order_83 fl_X12_22 or_102_5 (Nat.le_of_ble_eq_true rfl) rfl rfl ?_
      refine tt_iload (q := 88) dX12_order_86 rfl rfl ?_
      obtain ⟨l12, h⟩ := h
      refine tt_iald (q := 89) dX12_order_88 ia_107 (Nat.le_of_ble_eq_true rfl) rfl l12 rfl ?_
      refine tt_iload (q := 91) dX12_order_89 rfl rfl ?_
      refine tt_icmp_ne (q := 94) (t := 98) dX12_order_91 rfl rfl (fun c => ?_) (fun c => ?_)
      · replace h := h.1 c
        refine tt_iconst (q := 99) dX12_order_98 ki_0 rfl ?_
        refine sti_n_3 (q := 100) dX12_order_99 rfl rfl rfl ?_
        refine inc_4 (q := 103) dX12_order_100 (nI_inc1 _) rfl rfl ?_
        refine tt_goto (t := 52) dX12_order_103 rfl ?_
        exact h
      · replace h := h.2 c
        refine tt_iconst (q := 95) dX12_order_94 ki_1 rfl ?_
        refine tt_goto (t := 99) dX12_order_95 rfl ?_
        refine sti_n_3 (q := 100) dX12_order_99 rfl rfl rfl ?_
        refine inc_4 (q := 103) dX12_order_100 (nI_inc1 _) rfl rfl ?_
        refine tt_goto (t := 52) dX12_order_103 rfl ?_
        exact h

theorem g_X12_keeps_0 {post : SG → Int32 → Prop} {σ : SG} {r : Int32} (h : ((r < 0 → (∀ s8 : SG, s8 = up σ 103 1 ((σ 103 1) + (nI 1)) → post s8 (-1 : Int32))) ∧ (¬ r < 0 → (((σ 104 1) ≤ r → (∀ s12 : SG, s12 = up σ 103 1 ((σ 103 1) + (nI 1)) → post s12 (-1 : Int32))) ∧ (¬ (σ 104 1) ≤ r → T_X12_keeps AF post 18 [.ref 102, .int r, .int (nI 0), .int (nI 0)] [] σ))))) : T_X12_keeps AF post 0 [.ref 102, .int r, dum, dum] [] σ := by
  refine tt_aload_n (q := 1) dX12_keeps_0 rfl rfl ?_
  refine tt_iload_n (q := 2) dX12_keeps_1 rfl rfl ?_
  refine callVi_1 (q := 5) dX12_keeps_2 (Or.inl ⟨rfl, rfl, ⟨⟨_, _, rfl, rfl, (Nat.le_of_ble_eq_true rfl), rc_102⟩, Nat.le_of_ble_eq_true rfl, ?_⟩⟩) (Nat.le_of_ble_eq_true rfl) rfl (fun t2 r1 ht2 => ht2)
  refine (show TT cX12_isRow RX12 false CT_X12_isRow CN0 _ _ _ none 0 [_, _] [] _ _ from ?_)
  refine tt_iload_n (q := 1) dX12_isRow_0 rfl rfl ?_
  refine tt_aload_n (q := 2) dX12_isRow_1 rfl rfl ?_
  refine tt_getR (q := 5) dX12_isRow_2 fl_X12_13 or_102_1 (Nat.le_of_ble_eq_true rfl) rfl rfl ?_
  refine tt_iconst (q := 6) dX12_isRow_5 ki_1 rfl ?_
  refine tt_iald (q := 7) dX12_isRow_6 ia_104 (Nat.le_of_ble_eq_true rfl) rfl (Nat.le_of_ble_eq_true rfl : 1 < 197) rfl ?_
  refine callSi_2 (q := 10) dX12_isRow_7 (⟨rfl, rfl, ⟨rfl, Nat.le_of_ble_eq_true rfl, ?_⟩⟩) (Nat.le_of_ble_eq_true rfl) rfl (fun t4 r3 ht4 => ht4)
  refine (show TT cX12_isIn RX12 false CT0 CN0 _ _ _ none 0 [_, _] [] _ _ from ?_)
  refine tt_iload_n (q := 1) dX12_isIn_0 rfl rfl ?_
  refine tt_if_lt (q := 4) (t := 13) dX12_isIn_1 rfl rfl (fun c => ?_) (fun c => ?_)
  · replace h := h.1 c
    refine tt_iconst (q := 14) dX12_isIn_13 ki_0 rfl ?_
    refine tt_iret dX12_isIn_14 ⟨rfl, _, rfl, Or.inl nI_0, ?_⟩
    refine tt_iret dX12_isRow_10 ⟨rfl, _, rfl, Or.inl nI_0, ?_⟩
    refine tt_if_ne (q := 8) (t := 14) dX12_keeps_5 rfl rfl (fun c => absurd c (by decide)) (fun c => ?_)
    clear c
    refine tt_aload_n (q := 9) dX12_keeps_8 rfl rfl ?_
    refine tt_iconst (q := 10) dX12_keeps_9 ki_m1 rfl ?_
    refine callVi_1 (q := 13) dX12_keeps_10 (Or.inr (Or.inl ⟨rfl, rfl, ⟨⟨_, _, rfl, rfl, (Nat.le_of_ble_eq_true rfl), rc_102⟩, Nat.le_of_ble_eq_true rfl, ?_⟩⟩)) (Nat.le_of_ble_eq_true rfl) rfl (fun t7 r6 ht7 => ht7)
    refine (show TT cX12_refuse RX12 false CT0 CN0 _ _ _ none 0 [_, _] [] _ _ from ?_)
    refine tt_aload_n (q := 1) dX12_refuse_0 rfl rfl ?_
    refine tt_getR (q := 4) dX12_refuse_1 fl_X12_7 or_102_0 (Nat.le_of_ble_eq_true rfl) rfl rfl ?_
    refine tt_iload_n (q := 5) dX12_refuse_4 rfl rfl ?_
    refine tt_inegE (v := nI 1) (q := 6) dX12_refuse_5 (by decide) rfl ?_
    refine tt_dup2 (q := 7) dX12_refuse_6 rfl rfl rfl ?_
    refine tt_iald (q := 8) dX12_refuse_7 ia_103 (Nat.le_of_ble_eq_true rfl) rfl (Nat.le_of_ble_eq_true rfl : 1 < 7) rfl ?_
    refine tt_iconst (q := 9) dX12_refuse_8 ki_1 rfl ?_
    refine tt_iadd (q := 10) dX12_refuse_9 rfl ?_
    refine tt_iast (q := 11) dX12_refuse_10 ia_103 (Nat.le_of_ble_eq_true rfl) rfl (Nat.le_of_ble_eq_true rfl : 1 < 7) rfl ?_
    replace h := h _ rfl
    refine tt_iload_n (q := 12) dX12_refuse_11 rfl rfl ?_
    refine tt_iret dX12_refuse_12 ⟨rfl, _, rfl, ?_⟩
    exact tt_iret dX12_keeps_13 ⟨rfl, _, rfl, h⟩
  · replace h := h.2 c
    refine tt_iload_n (q := 5) dX12_isIn_4 rfl rfl ?_
    refine tt_iload_n (q := 6) dX12_isIn_5 rfl rfl ?_
    refine tt_icmp_ge (q := 9) (t := 13) dX12_isIn_6 rfl rfl (fun c => ?_) (fun c => ?_)
    · replace h := h.1 c
      refine tt_iconst (q := 14) dX12_isIn_13 ki_0 rfl ?_
      refine tt_iret dX12_isIn_14 ⟨rfl, _, rfl, Or.inl nI_0, ?_⟩
      refine tt_iret dX12_isRow_10 ⟨rfl, _, rfl, Or.inl nI_0, ?_⟩
      refine tt_if_ne (q := 8) (t := 14) dX12_keeps_5 rfl rfl (fun c => absurd c (by decide)) (fun c => ?_)
      clear c
      refine tt_aload_n (q := 9) dX12_keeps_8 rfl rfl ?_
      refine tt_iconst (q := 10) dX12_keeps_9 ki_m1 rfl ?_
      refine callVi_1 (q := 13) dX12_keeps_10 (Or.inr (Or.inl ⟨rfl, rfl, ⟨⟨_, _, rfl, rfl, (Nat.le_of_ble_eq_true rfl), rc_102⟩, Nat.le_of_ble_eq_true rfl, ?_⟩⟩)) (Nat.le_of_ble_eq_true rfl) rfl (fun t11 r10 ht11 => ht11)
      refine (show TT cX12_refuse RX12 false CT0 CN0 _ _ _ none 0 [_, _] [] _ _ from ?_)
      refine tt_aload_n (q := 1) dX12_refuse_0 rfl rfl ?_
      refine tt_getR (q := 4) dX12_refuse_1 fl_X12_7 or_102_0 (Nat.le_of_ble_eq_true rfl) rfl rfl ?_
      refine tt_iload_n (q := 5) dX12_refuse_4 rfl rfl ?_
      refine tt_inegE (v := nI 1) (q := 6) dX12_refuse_5 (by decide) rfl ?_
      refine tt_dup2 (q := 7) dX12_refuse_6 rfl rfl rfl ?_
      refine tt_iald (q := 8) dX12_refuse_7 ia_103 (Nat.le_of_ble_eq_true rfl) rfl (Nat.le_of_ble_eq_true rfl : 1 < 7) rfl ?_
      refine tt_iconst (q := 9) dX12_refuse_8 ki_1 rfl ?_
      refine tt_iadd (q := 10) dX12_refuse_9 rfl ?_
      refine tt_iast (q := 11) dX12_refuse_10 ia_103 (Nat.le_of_ble_eq_true rfl) rfl (Nat.le_of_ble_eq_true rfl : 1 < 7) rfl ?_
      replace h := h _ rfl
      refine tt_iload_n (q := 12) dX12_refuse_11 rfl rfl ?_
      refine tt_iret dX12_refuse_12 ⟨rfl, _, rfl, ?_⟩
      exact tt_iret dX12_keeps_13 ⟨rfl, _, rfl, h⟩
    · replace h := h.2 c
      refine tt_iconst (q := 10) dX12_isIn_9 ki_1 rfl ?_
      refine tt_goto (t := 14) dX12_isIn_10 rfl ?_
      refine tt_iret dX12_isIn_14 ⟨rfl, _, rfl, Or.inr rfl, ?_⟩
      refine tt_iret dX12_isRow_10 ⟨rfl, _, rfl, Or.inr rfl, ?_⟩
      refine tt_if_ne (q := 8) (t := 14) dX12_keeps_5 rfl rfl (fun c => ?_) (fun c => absurd c (by decide))
      clear c
      refine tt_iconst (q := 15) dX12_keeps_14 ki_0 rfl ?_
      refine sti_n_2 (q := 16) dX12_keeps_15 rfl rfl rfl ?_
      refine tt_iconst (q := 17) dX12_keeps_16 ki_0 rfl ?_
      refine sti_n_3 (q := 18) dX12_keeps_17 rfl rfl rfl ?_
      exact h
theorem g_X12_keeps_18 {post : SG → Int32 → Prop} {σ : SG} {r : Nat} {set : Int32} {p : Nat} (h : (p < 2 ^ 31 ∧ ((6 ≤ p → post σ set) ∧ (p < 6 → (∃ p5 : SG → Int32 → Prop, IN_X12_doesTo AF σ [.ref 102, .int (nI r), .int (nI p)] p5 ∧ ∀ (t4 : SG) (r3 : Int32), p5 t4 r3 → ((¬ r3 = (nI p) → T_X12_keeps AF post 18 [.ref 102, .int (nI r), .int (set ||| (nI 0)), .int (nI (p + 1))] [] t4) ∧ (r3 = (nI p) → T_X12_keeps AF post 18 [.ref 102, .int (nI r), .int (set ||| ((nI 1) <<< ((nI p) &&& 31))), .int (nI (p + 1))] [] t4))))))) : T_X12_keeps AF post 18 [.ref 102, .int (nI r), .int set, .int (nI p)] [] σ := by
  refine tt_iload_n (q := 19) dX12_keeps_18 rfl rfl ?_
  refine tt_bipush (q := 21) dX12_keeps_19 bi_6 rfl ?_
  obtain ⟨l2, h⟩ := h
  refine tt_icmp_ge (q := 24) (t := 50) dX12_keeps_21 rfl rfl (fun c => ?_) (fun c => ?_)
  · replace h := h.1 ((nI_leI (by decide) l2).1 c)
    refine tt_iload_n (q := 51) dX12_keeps_50 rfl rfl ?_
    exact tt_iret dX12_keeps_51 ⟨rfl, _, rfl, h⟩
  · replace h := h.2 (Nat.lt_of_not_le (fun z => c ((nI_leI (by decide) l2).2 z)))
    refine tt_iload_n (q := 25) dX12_keeps_24 rfl rfl ?_
    refine tt_aload_n (q := 26) dX12_keeps_25 rfl rfl ?_
    refine tt_iload_n (q := 27) dX12_keeps_26 rfl rfl ?_
    refine tt_iload_n (q := 28) dX12_keeps_27 rfl rfl ?_
    obtain ⟨p5, hp6, h⟩ := h
    refine callVi_2 (q := 31) dX12_keeps_28 (Or.inr (Or.inr (⟨rfl, rfl, hp6⟩))) (Nat.le_of_ble_eq_true rfl) rfl (fun t4 r3 hr7 => ?_)
    replace h := h t4 r3 hr7
    refine tt_iload_n (q := 32) dX12_keeps_31 rfl rfl ?_
    refine tt_icmp_ne (q := 35) (t := 41) dX12_keeps_32 rfl rfl (fun c => ?_) (fun c => ?_)
    · replace h := h.1 c
      refine tt_iconst (q := 42) dX12_keeps_41 ki_0 rfl ?_
      refine tt_ior (q := 43) dX12_keeps_42 rfl ?_
      refine sti_n_2 (q := 44) dX12_keeps_43 rfl rfl rfl ?_
      refine inc_3 (q := 47) dX12_keeps_44 (nI_inc1 _) rfl rfl ?_
      refine tt_goto (t := 18) dX12_keeps_47 rfl ?_
      exact h
    · replace h := h.2 c
      refine tt_iconst (q := 36) dX12_keeps_35 ki_1 rfl ?_
      refine tt_iload_n (q := 37) dX12_keeps_36 rfl rfl ?_
      refine tt_ishl (q := 38) dX12_keeps_37 rfl ?_
      refine tt_goto (t := 42) dX12_keeps_38 rfl ?_
      refine tt_ior (q := 43) dX12_keeps_42 rfl ?_
      refine sti_n_2 (q := 44) dX12_keeps_43 rfl rfl rfl ?_
      refine inc_3 (q := 47) dX12_keeps_44 (nI_inc1 _) rfl rfl ?_
      refine tt_goto (t := 18) dX12_keeps_47 rfl ?_
      exact h

theorem g_X12_now_0 {post : SG → Int32 → Prop} {σ : SG} {a : Int32} (h : ((a < 0 → (∀ s8 : SG, s8 = up σ 103 1 ((σ 103 1) + (nI 1)) → post s8 (-1 : Int32))) ∧ (¬ a < 0 → (((nI 6) ≤ a → (∀ s12 : SG, s12 = up σ 103 1 ((σ 103 1) + (nI 1)) → post s12 (-1 : Int32))) ∧ (¬ (nI 6) ≤ a → (∃ j14 : Nat, ((nI 5) + a) = nI j14 ∧ j14 < 197 ∧ post σ (σ 104 j14))))))) : T_X12_now AF post 0 [.ref 102, .int a] [] σ := by
  refine tt_iload_n (q := 1) dX12_now_0 rfl rfl ?_
  refine callSi_1 (q := 4) dX12_now_1 (Or.inl ⟨rfl, rfl, ⟨rfl, Nat.le_of_ble_eq_true rfl, ?_⟩⟩) (Nat.le_of_ble_eq_true rfl) rfl (fun t2 r1 ht2 => ht2)
  refine (show TT cX12_isPlace RX12 false CT_X12_isPlace CN0 _ _ _ none 0 [_] [] _ _ from ?_)
  refine tt_iload_n (q := 1) dX12_isPlace_0 rfl rfl ?_
  refine tt_bipush (q := 3) dX12_isPlace_1 bi_6 rfl ?_
  refine callSi_2 (q := 6) dX12_isPlace_3 (⟨rfl, rfl, ⟨rfl, Nat.le_of_ble_eq_true rfl, ?_⟩⟩) (Nat.le_of_ble_eq_true rfl) rfl (fun t4 r3 ht4 => ht4)
  refine (show TT cX12_isIn RX12 false CT0 CN0 _ _ _ none 0 [_, _] [] _ _ from ?_)
  refine tt_iload_n (q := 1) dX12_isIn_0 rfl rfl ?_
  refine tt_if_lt (q := 4) (t := 13) dX12_isIn_1 rfl rfl (fun c => ?_) (fun c => ?_)
  · replace h := h.1 c
    refine tt_iconst (q := 14) dX12_isIn_13 ki_0 rfl ?_
    refine tt_iret dX12_isIn_14 ⟨rfl, _, rfl, Or.inl nI_0, ?_⟩
    refine tt_iret dX12_isPlace_6 ⟨rfl, _, rfl, Or.inl nI_0, ?_⟩
    refine tt_if_eq (q := 7) (t := 18) dX12_now_4 rfl rfl (fun c => ?_) (fun c => absurd c (by decide))
    clear c
    refine tt_aload_n (q := 19) dX12_now_18 rfl rfl ?_
    refine tt_iconst (q := 20) dX12_now_19 ki_m1 rfl ?_
    refine callVi_1 (q := 23) dX12_now_20 (Or.inr (⟨rfl, rfl, ⟨⟨_, _, rfl, rfl, (Nat.le_of_ble_eq_true rfl), rc_102⟩, Nat.le_of_ble_eq_true rfl, ?_⟩⟩)) (Nat.le_of_ble_eq_true rfl) rfl (fun t7 r6 ht7 => ht7)
    refine (show TT cX12_refuse RX12 false CT0 CN0 _ _ _ none 0 [_, _] [] _ _ from ?_)
    refine tt_aload_n (q := 1) dX12_refuse_0 rfl rfl ?_
    refine tt_getR (q := 4) dX12_refuse_1 fl_X12_7 or_102_0 (Nat.le_of_ble_eq_true rfl) rfl rfl ?_
    refine tt_iload_n (q := 5) dX12_refuse_4 rfl rfl ?_
    refine tt_inegE (v := nI 1) (q := 6) dX12_refuse_5 (by decide) rfl ?_
    refine tt_dup2 (q := 7) dX12_refuse_6 rfl rfl rfl ?_
    refine tt_iald (q := 8) dX12_refuse_7 ia_103 (Nat.le_of_ble_eq_true rfl) rfl (Nat.le_of_ble_eq_true rfl : 1 < 7) rfl ?_
    refine tt_iconst (q := 9) dX12_refuse_8 ki_1 rfl ?_
    refine tt_iadd (q := 10) dX12_refuse_9 rfl ?_
    refine tt_iast (q := 11) dX12_refuse_10 ia_103 (Nat.le_of_ble_eq_true rfl) rfl (Nat.le_of_ble_eq_true rfl : 1 < 7) rfl ?_
    replace h := h _ rfl
    refine tt_iload_n (q := 12) dX12_refuse_11 rfl rfl ?_
    refine tt_iret dX12_refuse_12 ⟨rfl, _, rfl, ?_⟩
    exact tt_iret dX12_now_23 ⟨rfl, _, rfl, h⟩
  · replace h := h.2 c
    refine tt_iload_n (q := 5) dX12_isIn_4 rfl rfl ?_
    refine tt_iload_n (q := 6) dX12_isIn_5 rfl rfl ?_
    refine tt_icmp_ge (q := 9) (t := 13) dX12_isIn_6 rfl rfl (fun c => ?_) (fun c => ?_)
    · replace h := h.1 c
      refine tt_iconst (q := 14) dX12_isIn_13 ki_0 rfl ?_
      refine tt_iret dX12_isIn_14 ⟨rfl, _, rfl, Or.inl nI_0, ?_⟩
      refine tt_iret dX12_isPlace_6 ⟨rfl, _, rfl, Or.inl nI_0, ?_⟩
      refine tt_if_eq (q := 7) (t := 18) dX12_now_4 rfl rfl (fun c => ?_) (fun c => absurd c (by decide))
      clear c
      refine tt_aload_n (q := 19) dX12_now_18 rfl rfl ?_
      refine tt_iconst (q := 20) dX12_now_19 ki_m1 rfl ?_
      refine callVi_1 (q := 23) dX12_now_20 (Or.inr (⟨rfl, rfl, ⟨⟨_, _, rfl, rfl, (Nat.le_of_ble_eq_true rfl), rc_102⟩, Nat.le_of_ble_eq_true rfl, ?_⟩⟩)) (Nat.le_of_ble_eq_true rfl) rfl (fun t11 r10 ht11 => ht11)
      refine (show TT cX12_refuse RX12 false CT0 CN0 _ _ _ none 0 [_, _] [] _ _ from ?_)
      refine tt_aload_n (q := 1) dX12_refuse_0 rfl rfl ?_
      refine tt_getR (q := 4) dX12_refuse_1 fl_X12_7 or_102_0 (Nat.le_of_ble_eq_true rfl) rfl rfl ?_
      refine tt_iload_n (q := 5) dX12_refuse_4 rfl rfl ?_
      refine tt_inegE (v := nI 1) (q := 6) dX12_refuse_5 (by decide) rfl ?_
      refine tt_dup2 (q := 7) dX12_refuse_6 rfl rfl rfl ?_
      refine tt_iald (q := 8) dX12_refuse_7 ia_103 (Nat.le_of_ble_eq_true rfl) rfl (Nat.le_of_ble_eq_true rfl : 1 < 7) rfl ?_
      refine tt_iconst (q := 9) dX12_refuse_8 ki_1 rfl ?_
      refine tt_iadd (q := 10) dX12_refuse_9 rfl ?_
      refine tt_iast (q := 11) dX12_refuse_10 ia_103 (Nat.le_of_ble_eq_true rfl) rfl (Nat.le_of_ble_eq_true rfl : 1 < 7) rfl ?_
      replace h := h _ rfl
      refine tt_iload_n (q := 12) dX12_refuse_11 rfl rfl ?_
      refine tt_iret dX12_refuse_12 ⟨rfl, _, rfl, ?_⟩
      exact tt_iret dX12_now_23 ⟨rfl, _, rfl, h⟩
    · replace h := h.2 c
      refine tt_iconst (q := 10) dX12_isIn_9 ki_1 rfl ?_
      refine tt_goto (t := 14) dX12_isIn_10 rfl ?_
      refine tt_iret dX12_isIn_14 ⟨rfl, _, rfl, Or.inr rfl, ?_⟩
      refine tt_iret dX12_isPlace_6 ⟨rfl, _, rfl, Or.inr rfl, ?_⟩
      refine tt_if_eq (q := 7) (t := 18) dX12_now_4 rfl rfl (fun c => absurd c (by decide)) (fun c => ?_)
      clear c
      refine tt_aload_n (q := 8) dX12_now_7 rfl rfl ?_
      refine tt_getR (q := 11) dX12_now_8 fl_X12_13 or_102_1 (Nat.le_of_ble_eq_true rfl) rfl rfl ?_
      refine tt_iconst (q := 12) dX12_now_11 ki_5 rfl ?_
      refine tt_iload_n (q := 13) dX12_now_12 rfl rfl ?_
      refine tt_iadd (q := 14) dX12_now_13 rfl ?_
      obtain ⟨j14, e15, l13, h⟩ := h
      refine tt_iald (q := 15) dX12_now_14 ia_104 (Nat.le_of_ble_eq_true rfl) e15 l13 rfl ?_
      refine tt_goto (t := 23) dX12_now_15 rfl ?_
      exact tt_iret dX12_now_23 ⟨rfl, _, rfl, h⟩

theorem g_X12_makes_0 {post : SG → Int32 → Prop} {σ : SG} {k : Nat} {n : Nat} (hia_k : IA k n) (hk_k : k < AF.1) {fr : Nat} {m : Nat} (h : (∃ p3 : SG → Int32 → Prop, IN_X12_goesTo AF σ [.ref 102, .int (nI m), .int (nI 0)] p3 ∧ ∀ (t2 : SG) (r1 : Int32), p3 t2 r1 → (fr + 0 < n ∧ (∃ j8 : Nat, r1 = nI j8 ∧ j8 < 6 ∧ (∀ s10 : SG, s10 = up t2 108 j8 (t2 k (fr + 0)) → (∃ p13 : SG → Int32 → Prop, IN_X12_goesTo AF s10 [.ref 102, .int (nI m), .int (nI 1)] p13 ∧ ∀ (t12 : SG) (r11 : Int32), p13 t12 r11 → (fr + 1 < n ∧ (∃ j18 : Nat, r11 = nI j18 ∧ j18 < 6 ∧ (∀ s20 : SG, s20 = up t12 108 j18 (t12 k (fr + 1)) → (∃ p23 : SG → Int32 → Prop, IN_X12_goesTo AF s20 [.ref 102, .int (nI m), .int (nI 2)] p23 ∧ ∀ (t22 : SG) (r21 : Int32), p23 t22 r21 → (fr + 2 < n ∧ (∃ j28 : Nat, r21 = nI j28 ∧ j28 < 6 ∧ (∀ s30 : SG, s30 = up t22 108 j28 (t22 k (fr + 2)) → (∃ p33 : SG → Int32 → Prop, IN_X12_goesTo AF s30 [.ref 102, .int (nI m), .int (nI 3)] p33 ∧ ∀ (t32 : SG) (r31 : Int32), p33 t32 r31 → (fr + 3 < n ∧ (∃ j38 : Nat, r31 = nI j38 ∧ j38 < 6 ∧ (∀ s40 : SG, s40 = up t32 108 j38 (t32 k (fr + 3)) → (∃ p43 : SG → Int32 → Prop, IN_X12_goesTo AF s40 [.ref 102, .int (nI m), .int (nI 4)] p43 ∧ ∀ (t42 : SG) (r41 : Int32), p43 t42 r41 → (fr + 4 < n ∧ (∃ j48 : Nat, r41 = nI j48 ∧ j48 < 6 ∧ (∀ s50 : SG, s50 = up t42 108 j48 (t42 k (fr + 4)) → (∃ p53 : SG → Int32 → Prop, IN_X12_goesTo AF s50 [.ref 102, .int (nI m), .int (nI 5)] p53 ∧ ∀ (t52 : SG) (r51 : Int32), p53 t52 r51 → (fr + 5 < n ∧ (∃ j58 : Nat, r51 = nI j58 ∧ j58 < 6 ∧ (∀ s60 : SG, s60 = up t52 108 j58 (t52 k (fr + 5)) → (fr + 0 < n ∧ (∀ s62 : SG, s62 = up s60 k (fr + 0) (s60 108 0) → (fr + 1 < n ∧ (∀ s64 : SG, s64 = up s62 k (fr + 1) (s62 108 1) → (fr + 2 < n ∧ (∀ s66 : SG, s66 = up s64 k (fr + 2) (s64 108 2) → (fr + 3 < n ∧ (∀ s68 : SG, s68 = up s66 k (fr + 3) (s66 108 3) → (fr + 4 < n ∧ (∀ s70 : SG, s70 = up s68 k (fr + 4) (s68 108 4) → (fr + 5 < n ∧ (∀ s72 : SG, s72 = up s70 k (fr + 5) (s70 108 5) → post s72 0))))))))))))))))))))))))))))))))))))) : T_X12_makes AF post 0 [.ref 102, .ref k, .int (nI fr), .int (nI m), dum] [] σ := by
  refine tt_iconst (q := 1) dX12_makes_0 ki_0 rfl ?_
  refine sti_4 (q := 3) dX12_makes_1 rfl rfl ?_
  refine tt_iload (q := 5) dX12_makes_3 rfl rfl ?_
  refine tt_bipush (q := 7) dX12_makes_5 bi_6 rfl ?_
  refine tt_icmp_ge (q := 10) (t := 34) dX12_makes_7 rfl rfl (fun c => absurd c (by decide)) (fun c => ?_)
  clear c
  refine tt_aload_n (q := 11) dX12_makes_10 rfl rfl ?_
  refine tt_getR (q := 14) dX12_makes_11 fl_X12_25 or_102_9 (Nat.le_of_ble_eq_true rfl) rfl rfl ?_
  refine tt_aload_n (q := 15) dX12_makes_14 rfl rfl ?_
  refine tt_iload_n (q := 16) dX12_makes_15 rfl rfl ?_
  refine tt_iload (q := 18) dX12_makes_16 rfl rfl ?_
  obtain ⟨p3, hp4, h⟩ := h
  refine callVi_2 (q := 21) dX12_makes_18 (⟨rfl, rfl, hp4⟩) (Nat.le_of_ble_eq_true rfl) rfl (fun t2 r1 hr5 => ?_)
  replace h := h t2 r1 hr5
  refine tt_aload_n (q := 22) dX12_makes_21 rfl rfl ?_
  refine tt_iload_n (q := 23) dX12_makes_22 rfl rfl ?_
  refine tt_iload (q := 25) dX12_makes_23 rfl rfl ?_
  refine tt_iaddN (q := 26) dX12_makes_25 rfl ?_
  obtain ⟨l6, h⟩ := h
  refine tt_iald (q := 27) dX12_makes_26 hia_k hk_k rfl l6 rfl ?_
  obtain ⟨j8, e9, l7, h⟩ := h
  refine tt_iast (q := 28) dX12_makes_27 ia_108 (Nat.le_of_ble_eq_true rfl) e9 l7 rfl ?_
  replace h := h _ rfl
  refine inc_4 (v := nI 1) (q := 31) dX12_makes_28 (by decide) rfl rfl ?_
  refine tt_goto (t := 3) dX12_makes_31 rfl ?_
  refine tt_iload (q := 5) dX12_makes_3 rfl rfl ?_
  refine tt_bipush (q := 7) dX12_makes_5 bi_6 rfl ?_
  refine tt_icmp_ge (q := 10) (t := 34) dX12_makes_7 rfl rfl (fun c => absurd c (by decide)) (fun c => ?_)
  clear c
  refine tt_aload_n (q := 11) dX12_makes_10 rfl rfl ?_
  refine tt_getR (q := 14) dX12_makes_11 fl_X12_25 or_102_9 (Nat.le_of_ble_eq_true rfl) rfl rfl ?_
  refine tt_aload_n (q := 15) dX12_makes_14 rfl rfl ?_
  refine tt_iload_n (q := 16) dX12_makes_15 rfl rfl ?_
  refine tt_iload (q := 18) dX12_makes_16 rfl rfl ?_
  obtain ⟨p13, hp14, h⟩ := h
  refine callVi_2 (q := 21) dX12_makes_18 (⟨rfl, rfl, hp14⟩) (Nat.le_of_ble_eq_true rfl) rfl (fun t12 r11 hr15 => ?_)
  replace h := h t12 r11 hr15
  refine tt_aload_n (q := 22) dX12_makes_21 rfl rfl ?_
  refine tt_iload_n (q := 23) dX12_makes_22 rfl rfl ?_
  refine tt_iload (q := 25) dX12_makes_23 rfl rfl ?_
  refine tt_iaddN (q := 26) dX12_makes_25 rfl ?_
  obtain ⟨l16, h⟩ := h
  refine tt_iald (q := 27) dX12_makes_26 hia_k hk_k rfl l16 rfl ?_
  obtain ⟨j18, e19, l17, h⟩ := h
  refine tt_iast (q := 28) dX12_makes_27 ia_108 (Nat.le_of_ble_eq_true rfl) e19 l17 rfl ?_
  replace h := h _ rfl
  refine inc_4 (v := nI 2) (q := 31) dX12_makes_28 (by decide) rfl rfl ?_
  refine tt_goto (t := 3) dX12_makes_31 rfl ?_
  refine tt_iload (q := 5) dX12_makes_3 rfl rfl ?_
  refine tt_bipush (q := 7) dX12_makes_5 bi_6 rfl ?_
  refine tt_icmp_ge (q := 10) (t := 34) dX12_makes_7 rfl rfl (fun c => absurd c (by decide)) (fun c => ?_)
  clear c
  refine tt_aload_n (q := 11) dX12_makes_10 rfl rfl ?_
  refine tt_getR (q := 14) dX12_makes_11 fl_X12_25 or_102_9 (Nat.le_of_ble_eq_true rfl) rfl rfl ?_
  refine tt_aload_n (q := 15) dX12_makes_14 rfl rfl ?_
  refine tt_iload_n (q := 16) dX12_makes_15 rfl rfl ?_
  refine tt_iload (q := 18) dX12_makes_16 rfl rfl ?_
  obtain ⟨p23, hp24, h⟩ := h
  refine callVi_2 (q := 21) dX12_makes_18 (⟨rfl, rfl, hp24⟩) (Nat.le_of_ble_eq_true rfl) rfl (fun t22 r21 hr25 => ?_)
  replace h := h t22 r21 hr25
  refine tt_aload_n (q := 22) dX12_makes_21 rfl rfl ?_
  refine tt_iload_n (q := 23) dX12_makes_22 rfl rfl ?_
  refine tt_iload (q := 25) dX12_makes_23 rfl rfl ?_
  refine tt_iaddN (q := 26) dX12_makes_25 rfl ?_
  obtain ⟨l26, h⟩ := h
  refine tt_iald (q := 27) dX12_makes_26 hia_k hk_k rfl l26 rfl ?_
  obtain ⟨j28, e29, l27, h⟩ := h
  refine tt_iast (q := 28) dX12_makes_27 ia_108 (Nat.le_of_ble_eq_true rfl) e29 l27 rfl ?_
  replace h := h _ rfl
  refine inc_4 (v := nI 3) (q := 31) dX12_makes_28 (by decide) rfl rfl ?_
  refine tt_goto (t := 3) dX12_makes_31 rfl ?_
  refine tt_iload (q := 5) dX12_makes_3 rfl rfl ?_
  refine tt_bipush (q := 7) dX12_makes_5 bi_6 rfl ?_
  refine tt_icmp_ge (q := 10) (t := 34) dX12_makes_7 rfl rfl (fun c => absurd c (by decide)) (fun c => ?_)
  clear c
  refine tt_aload_n (q := 11) dX12_makes_10 rfl rfl ?_
  refine tt_getR (q := 14) dX12_makes_11 fl_X12_25 or_102_9 (Nat.le_of_ble_eq_true rfl) rfl rfl ?_
  refine tt_aload_n (q := 15) dX12_makes_14 rfl rfl ?_
  refine tt_iload_n (q := 16) dX12_makes_15 rfl rfl ?_
  refine tt_iload (q := 18) dX12_makes_16 rfl rfl ?_
  obtain ⟨p33, hp34, h⟩ := h
  refine callVi_2 (q := 21) dX12_makes_18 (⟨rfl, rfl, hp34⟩) (Nat.le_of_ble_eq_true rfl) rfl (fun t32 r31 hr35 => ?_)
  replace h := h t32 r31 hr35
  refine tt_aload_n (q := 22) dX12_makes_21 rfl rfl ?_
  refine tt_iload_n (q := 23) dX12_makes_22 rfl rfl ?_
  refine tt_iload (q := 25) dX12_makes_23 rfl rfl ?_
  refine tt_iaddN (q := 26) dX12_makes_25 rfl ?_
  obtain ⟨l36, h⟩ := h
  refine tt_iald (q := 27) dX12_makes_26 hia_k hk_k rfl l36 rfl ?_
  obtain ⟨j38, e39, l37, h⟩ := h
  refine tt_iast (q := 28) dX12_makes_27 ia_108 (Nat.le_of_ble_eq_true rfl) e39 l37 rfl ?_
  replace h := h _ rfl
  refine inc_4 (v := nI 4) (q := 31) dX12_makes_28 (by decide) rfl rfl ?_
  refine tt_goto (t := 3) dX12_makes_31 rfl ?_
  refine tt_iload (q := 5) dX12_makes_3 rfl rfl ?_
  refine tt_bipush (q := 7) dX12_makes_5 bi_6 rfl ?_
  refine tt_icmp_ge (q := 10) (t := 34) dX12_makes_7 rfl rfl (fun c => absurd c (by decide)) (fun c => ?_)
  clear c
  refine tt_aload_n (q := 11) dX12_makes_10 rfl rfl ?_
  refine tt_getR (q := 14) dX12_makes_11 fl_X12_25 or_102_9 (Nat.le_of_ble_eq_true rfl) rfl rfl ?_
  refine tt_aload_n (q := 15) dX12_makes_14 rfl rfl ?_
  refine tt_iload_n (q := 16) dX12_makes_15 rfl rfl ?_
  refine tt_iload (q := 18) dX12_makes_16 rfl rfl ?_
  obtain ⟨p43, hp44, h⟩ := h
  refine callVi_2 (q := 21) dX12_makes_18 (⟨rfl, rfl, hp44⟩) (Nat.le_of_ble_eq_true rfl) rfl (fun t42 r41 hr45 => ?_)
  replace h := h t42 r41 hr45
  refine tt_aload_n (q := 22) dX12_makes_21 rfl rfl ?_
  refine tt_iload_n (q := 23) dX12_makes_22 rfl rfl ?_
  refine tt_iload (q := 25) dX12_makes_23 rfl rfl ?_
  refine tt_iaddN (q := 26) dX12_makes_25 rfl ?_
  obtain ⟨l46, h⟩ := h
  refine tt_iald (q := 27) dX12_makes_26 hia_k hk_k rfl l46 rfl ?_
  obtain ⟨j48, e49, l47, h⟩ := h
  refine tt_iast (q := 28) dX12_makes_27 ia_108 (Nat.le_of_ble_eq_true rfl) e49 l47 rfl ?_
  replace h := h _ rfl
  refine inc_4 (v := nI 5) (q := 31) dX12_makes_28 (by decide) rfl rfl ?_
  refine tt_goto (t := 3) dX12_makes_31 rfl ?_
  refine tt_iload (q := 5) dX12_makes_3 rfl rfl ?_
  refine tt_bipush (q := 7) dX12_makes_5 bi_6 rfl ?_
  refine tt_icmp_ge (q := 10) (t := 34) dX12_makes_7 rfl rfl (fun c => absurd c (by decide)) (fun c => ?_)
  clear c
  refine tt_aload_n (q := 11) dX12_makes_10 rfl rfl ?_
  refine tt_getR (q := 14) dX12_makes_11 fl_X12_25 or_102_9 (Nat.le_of_ble_eq_true rfl) rfl rfl ?_
  refine tt_aload_n (q := 15) dX12_makes_14 rfl rfl ?_
  refine tt_iload_n (q := 16) dX12_makes_15 rfl rfl ?_
  refine tt_iload (q := 18) dX12_makes_16 rfl rfl ?_
  obtain ⟨p53, hp54, h⟩ := h
  refine callVi_2 (q := 21) dX12_makes_18 (⟨rfl, rfl, hp54⟩) (Nat.le_of_ble_eq_true rfl) rfl (fun t52 r51 hr55 => ?_)
  replace h := h t52 r51 hr55
  refine tt_aload_n (q := 22) dX12_makes_21 rfl rfl ?_
  refine tt_iload_n (q := 23) dX12_makes_22 rfl rfl ?_
  refine tt_iload (q := 25) dX12_makes_23 rfl rfl ?_
  refine tt_iaddN (q := 26) dX12_makes_25 rfl ?_
  obtain ⟨l56, h⟩ := h
  refine tt_iald (q := 27) dX12_makes_26 hia_k hk_k rfl l56 rfl ?_
  obtain ⟨j58, e59, l57, h⟩ := h
  refine tt_iast (q := 28) dX12_makes_27 ia_108 (Nat.le_of_ble_eq_true rfl) e59 l57 rfl ?_
  replace h := h _ rfl
  refine inc_4 (v := nI 6) (q := 31) dX12_makes_28 (by decide) rfl rfl ?_
  refine tt_goto (t := 3) dX12_makes_31 rfl ?_
  refine tt_iload (q := 5) dX12_makes_3 rfl rfl ?_
  refine tt_bipush (q := 7) dX12_makes_5 bi_6 rfl ?_
  refine tt_icmp_ge (q := 10) (t := 34) dX12_makes_7 rfl rfl (fun c => ?_) (fun c => absurd c (by decide))
  clear c
  refine tt_iconst (q := 35) dX12_makes_34 ki_0 rfl ?_
  refine sti_4 (q := 37) dX12_makes_35 rfl rfl ?_
  refine tt_iload (q := 39) dX12_makes_37 rfl rfl ?_
  refine tt_bipush (q := 41) dX12_makes_39 bi_6 rfl ?_
  refine tt_icmp_ge (q := 44) (t := 63) dX12_makes_41 rfl rfl (fun c => absurd c (by decide)) (fun c => ?_)
  clear c
  refine tt_aload_n (q := 45) dX12_makes_44 rfl rfl ?_
  refine tt_iload_n (q := 46) dX12_makes_45 rfl rfl ?_
  refine tt_iload (q := 48) dX12_makes_46 rfl rfl ?_
  refine tt_iaddN (q := 49) dX12_makes_48 rfl ?_
  refine tt_aload_n (q := 50) dX12_makes_49 rfl rfl ?_
  refine tt_getR (q := 53) dX12_makes_50 fl_X12_25 or_102_9 (Nat.le_of_ble_eq_true rfl) rfl rfl ?_
  refine tt_iload (q := 55) dX12_makes_53 rfl rfl ?_
  refine tt_iald (q := 56) dX12_makes_55 ia_108 (Nat.le_of_ble_eq_true rfl) rfl (Nat.le_of_ble_eq_true rfl : 0 < 6) rfl ?_
  obtain ⟨l61, h⟩ := h
  refine tt_iast (q := 57) dX12_makes_56 hia_k hk_k rfl l61 rfl ?_
  replace h := h _ rfl
  refine inc_4 (v := nI 1) (q := 60) dX12_makes_57 (by decide) rfl rfl ?_
  refine tt_goto (t := 37) dX12_makes_60 rfl ?_
  refine tt_iload (q := 39) dX12_makes_37 rfl rfl ?_
  refine tt_bipush (q := 41) dX12_makes_39 bi_6 rfl ?_
  refine tt_icmp_ge (q := 44) (t := 63) dX12_makes_41 rfl rfl (fun c => absurd c (by decide)) (fun c => ?_)
  clear c
  refine tt_aload_n (q := 45) dX12_makes_44 rfl rfl ?_
  refine tt_iload_n (q := 46) dX12_makes_45 rfl rfl ?_
  refine tt_iload (q := 48) dX12_makes_46 rfl rfl ?_
  refine tt_iaddN (q := 49) dX12_makes_48 rfl ?_
  refine tt_aload_n (q := 50) dX12_makes_49 rfl rfl ?_
  refine tt_getR (q := 53) dX12_makes_50 fl_X12_25 or_102_9 (Nat.le_of_ble_eq_true rfl) rfl rfl ?_
  refine tt_iload (q := 55) dX12_makes_53 rfl rfl ?_
  refine tt_iald (q := 56) dX12_makes_55 ia_108 (Nat.le_of_ble_eq_true rfl) rfl (Nat.le_of_ble_eq_true rfl : 1 < 6) rfl ?_
  obtain ⟨l63, h⟩ := h
  refine tt_iast (q := 57) dX12_makes_56 hia_k hk_k rfl l63 rfl ?_
  replace h := h _ rfl
  refine inc_4 (v := nI 2) (q := 60) dX12_makes_57 (by decide) rfl rfl ?_
  refine tt_goto (t := 37) dX12_makes_60 rfl ?_
  refine tt_iload (q := 39) dX12_makes_37 rfl rfl ?_
  refine tt_bipush (q := 41) dX12_makes_39 bi_6 rfl ?_
  refine tt_icmp_ge (q := 44) (t := 63) dX12_makes_41 rfl rfl (fun c => absurd c (by decide)) (fun c => ?_)
  clear c
  refine tt_aload_n (q := 45) dX12_makes_44 rfl rfl ?_
  refine tt_iload_n (q := 46) dX12_makes_45 rfl rfl ?_
  refine tt_iload (q := 48) dX12_makes_46 rfl rfl ?_
  refine tt_iaddN (q := 49) dX12_makes_48 rfl ?_
  refine tt_aload_n (q := 50) dX12_makes_49 rfl rfl ?_
  refine tt_getR (q := 53) dX12_makes_50 fl_X12_25 or_102_9 (Nat.le_of_ble_eq_true rfl) rfl rfl ?_
  refine tt_iload (q := 55) dX12_makes_53 rfl rfl ?_
  refine tt_iald (q := 56) dX12_makes_55 ia_108 (Nat.le_of_ble_eq_true rfl) rfl (Nat.le_of_ble_eq_true rfl : 2 < 6) rfl ?_
  obtain ⟨l65, h⟩ := h
  refine tt_iast (q := 57) dX12_makes_56 hia_k hk_k rfl l65 rfl ?_
  replace h := h _ rfl
  refine inc_4 (v := nI 3) (q := 60) dX12_makes_57 (by decide) rfl rfl ?_
  refine tt_goto (t := 37) dX12_makes_60 rfl ?_
  refine tt_iload (q := 39) dX12_makes_37 rfl rfl ?_
  refine tt_bipush (q := 41) dX12_makes_39 bi_6 rfl ?_
  refine tt_icmp_ge (q := 44) (t := 63) dX12_makes_41 rfl rfl (fun c => absurd c (by decide)) (fun c => ?_)
  clear c
  refine tt_aload_n (q := 45) dX12_makes_44 rfl rfl ?_
  refine tt_iload_n (q := 46) dX12_makes_45 rfl rfl ?_
  refine tt_iload (q := 48) dX12_makes_46 rfl rfl ?_
  refine tt_iaddN (q := 49) dX12_makes_48 rfl ?_
  refine tt_aload_n (q := 50) dX12_makes_49 rfl rfl ?_
  refine tt_getR (q := 53) dX12_makes_50 fl_X12_25 or_102_9 (Nat.le_of_ble_eq_true rfl) rfl rfl ?_
  refine tt_iload (q := 55) dX12_makes_53 rfl rfl ?_
  refine tt_iald (q := 56) dX12_makes_55 ia_108 (Nat.le_of_ble_eq_true rfl) rfl (Nat.le_of_ble_eq_true rfl : 3 < 6) rfl ?_
  obtain ⟨l67, h⟩ := h
  refine tt_iast (q := 57) dX12_makes_56 hia_k hk_k rfl l67 rfl ?_
  replace h := h _ rfl
  refine inc_4 (v := nI 4) (q := 60) dX12_makes_57 (by decide) rfl rfl ?_
  refine tt_goto (t := 37) dX12_makes_60 rfl ?_
  refine tt_iload (q := 39) dX12_makes_37 rfl rfl ?_
  refine tt_bipush (q := 41) dX12_makes_39 bi_6 rfl ?_
  refine tt_icmp_ge (q := 44) (t := 63) dX12_makes_41 rfl rfl (fun c => absurd c (by decide)) (fun c => ?_)
  clear c
  refine tt_aload_n (q := 45) dX12_makes_44 rfl rfl ?_
  refine tt_iload_n (q := 46) dX12_makes_45 rfl rfl ?_
  refine tt_iload (q := 48) dX12_makes_46 rfl rfl ?_
  refine tt_iaddN (q := 49) dX12_makes_48 rfl ?_
  refine tt_aload_n (q := 50) dX12_makes_49 rfl rfl ?_
  refine tt_getR (q := 53) dX12_makes_50 fl_X12_25 or_102_9 (Nat.le_of_ble_eq_true rfl) rfl rfl ?_
  refine tt_iload (q := 55) dX12_makes_53 rfl rfl ?_
  refine tt_iald (q := 56) dX12_makes_55 ia_108 (Nat.le_of_ble_eq_true rfl) rfl (Nat.le_of_ble_eq_true rfl : 4 < 6) rfl ?_
  obtain ⟨l69, h⟩ := h
  refine tt_iast (q := 57) dX12_makes_56 hia_k hk_k rfl l69 rfl ?_
  replace h := h _ rfl
  refine inc_4 (v := nI 5) (q := 60) dX12_makes_57 (by decide) rfl rfl ?_
  refine tt_goto (t := 37) dX12_makes_60 rfl ?_
  refine tt_iload (q := 39) dX12_makes_37 rfl rfl ?_
  refine tt_bipush (q := 41) dX12_makes_39 bi_6 rfl ?_
  refine tt_icmp_ge (q := 44) (t := 63) dX12_makes_41 rfl rfl (fun c => absurd c (by decide)) (fun c => ?_)
  clear c
  refine tt_aload_n (q := 45) dX12_makes_44 rfl rfl ?_
  refine tt_iload_n (q := 46) dX12_makes_45 rfl rfl ?_
  refine tt_iload (q := 48) dX12_makes_46 rfl rfl ?_
  refine tt_iaddN (q := 49) dX12_makes_48 rfl ?_
  refine tt_aload_n (q := 50) dX12_makes_49 rfl rfl ?_
  refine tt_getR (q := 53) dX12_makes_50 fl_X12_25 or_102_9 (Nat.le_of_ble_eq_true rfl) rfl rfl ?_
  refine tt_iload (q := 55) dX12_makes_53 rfl rfl ?_
  refine tt_iald (q := 56) dX12_makes_55 ia_108 (Nat.le_of_ble_eq_true rfl) rfl (Nat.le_of_ble_eq_true rfl : 5 < 6) rfl ?_
  obtain ⟨l71, h⟩ := h
  refine tt_iast (q := 57) dX12_makes_56 hia_k hk_k rfl l71 rfl ?_
  replace h := h _ rfl
  refine inc_4 (v := nI 6) (q := 60) dX12_makes_57 (by decide) rfl rfl ?_
  refine tt_goto (t := 37) dX12_makes_60 rfl ?_
  refine tt_iload (q := 39) dX12_makes_37 rfl rfl ?_
  refine tt_bipush (q := 41) dX12_makes_39 bi_6 rfl ?_
  refine tt_icmp_ge (q := 44) (t := 63) dX12_makes_41 rfl rfl (fun c => ?_) (fun c => absurd c (by decide))
  clear c
  exact tt_vret dX12_makes_63 ⟨rfl, rfl, h⟩

theorem g_X12_makesRow_0 {post : SG → Int32 → Prop} {σ : SG} {k : Nat} {n : Nat} (hia_k : IA k n) (hk_k : k < AF.1) {fr : Nat} {r : Nat} (h : T_X12_makesRow AF post 3 [.ref 102, .ref k, .int (nI fr), .int (nI r), .int (nI 0)] [] σ) : T_X12_makesRow AF post 0 [.ref 102, .ref k, .int (nI fr), .int (nI r), dum] [] σ := by
  refine tt_iconst (q := 1) dX12_makesRow_0 ki_0 rfl ?_
  refine sti_4 (q := 3) dX12_makesRow_1 rfl rfl ?_
  exact h
theorem g_X12_makesRow_3 {post : SG → Int32 → Prop} {σ : SG} {k : Nat} {n : Nat} (hia_k : IA k n) (hk_k : k < AF.1) {fr : Nat} {r : Nat} {i : Nat} (h : (95 + (9 * r) < 197 ∧ (((σ 104 (95 + (9 * r))) ≤ (nI i) → post σ 0) ∧ (¬ (σ 104 (95 + (9 * r))) ≤ (nI i) → (95 + (9 * r) + 1 + i < 197 ∧ (∃ p10 : SG → Int32 → Prop, IN_X12_makes AF σ [.ref 102, .ref k, .int (nI fr), .int (σ 104 (95 + (9 * r) + 1 + i))] p10 ∧ ∀ t9 : SG, p10 t9 0 → T_X12_makesRow AF post 3 [.ref 102, .ref k, .int (nI fr), .int (nI r), .int (nI (i + 1))] [] t9)))))) : T_X12_makesRow AF post 3 [.ref 102, .ref k, .int (nI fr), .int (nI r), .int (nI i)] [] σ := by
  refine tt_iload (q := 5) dX12_makesRow_3 rfl rfl ?_
  refine tt_aload_n (q := 6) dX12_makesRow_5 rfl rfl ?_
  refine tt_iload_n (q := 7) dX12_makesRow_6 rfl rfl ?_
  refine callVi_1 (q := 10) dX12_makesRow_7 (Or.inl ⟨rfl, rfl, ⟨⟨_, _, rfl, rfl, (Nat.le_of_ble_eq_true rfl), rc_102⟩, Nat.le_of_ble_eq_true rfl, ?_⟩⟩) (Nat.le_of_ble_eq_true rfl) rfl (fun t2 r1 ht2 => ht2)
  refine (show TT cX12_size RX12 false CT0 CN0 _ _ _ none 0 [_, _] [] _ _ from ?_)
  refine tt_aload_n (q := 1) dX12_size_0 rfl rfl ?_
  refine tt_getR (q := 4) dX12_size_1 fl_X12_13 or_102_1 (Nat.le_of_ble_eq_true rfl) rfl rfl ?_
  refine tt_bipush (q := 6) dX12_size_4 bi_95 rfl ?_
  refine tt_bipush (q := 8) dX12_size_6 bi_9 rfl ?_
  refine tt_iload_n (q := 9) dX12_size_8 rfl rfl ?_
  refine tt_imulN (q := 10) dX12_size_9 rfl ?_
  refine tt_iaddN (q := 11) dX12_size_10 rfl ?_
  obtain ⟨l3, h⟩ := h
  refine tt_iald (q := 12) dX12_size_11 ia_104 (Nat.le_of_ble_eq_true rfl) rfl l3 rfl ?_
  refine tt_iret dX12_size_12 ⟨rfl, _, rfl, ?_⟩
  refine tt_icmp_ge (q := 13) (t := 32) dX12_makesRow_10 rfl rfl (fun c => ?_) (fun c => ?_)
  · replace h := h.1 c
    exact tt_vret dX12_makesRow_32 ⟨rfl, rfl, h⟩
  · replace h := h.2 c
    refine tt_aload_n (q := 14) dX12_makesRow_13 rfl rfl ?_
    refine tt_aload_n (q := 15) dX12_makesRow_14 rfl rfl ?_
    refine tt_iload_n (q := 16) dX12_makesRow_15 rfl rfl ?_
    refine tt_aload_n (q := 17) dX12_makesRow_16 rfl rfl ?_
    refine tt_iload_n (q := 18) dX12_makesRow_17 rfl rfl ?_
    refine tt_iload (q := 20) dX12_makesRow_18 rfl rfl ?_
    refine callVi_2 (q := 23) dX12_makesRow_20 (Or.inr (Or.inl ⟨rfl, rfl, ⟨⟨_, _, rfl, rfl, (Nat.le_of_ble_eq_true rfl), rc_102⟩, Nat.le_of_ble_eq_true rfl, ?_⟩⟩)) (Nat.le_of_ble_eq_true rfl) rfl (fun t6 r5 ht6 => ht6)
    refine (show TT cX12_moveOf RX12 false CT0 CN0 _ _ _ none 0 [_, _, _] [] _ _ from ?_)
    refine tt_aload_n (q := 1) dX12_moveOf_0 rfl rfl ?_
    refine tt_getR (q := 4) dX12_moveOf_1 fl_X12_13 or_102_1 (Nat.le_of_ble_eq_true rfl) rfl rfl ?_
    refine tt_bipush (q := 6) dX12_moveOf_4 bi_95 rfl ?_
    refine tt_bipush (q := 8) dX12_moveOf_6 bi_9 rfl ?_
    refine tt_iload_n (q := 9) dX12_moveOf_8 rfl rfl ?_
    refine tt_imulN (q := 10) dX12_moveOf_9 rfl ?_
    refine tt_iaddN (q := 11) dX12_moveOf_10 rfl ?_
    refine tt_iconst (q := 12) dX12_moveOf_11 ki_1 rfl ?_
    refine tt_iaddN (q := 13) dX12_moveOf_12 rfl ?_
    refine tt_iload_n (q := 14) dX12_moveOf_13 rfl rfl ?_
    refine tt_iaddN (q := 15) dX12_moveOf_14 rfl ?_
    obtain ⟨l7, h⟩ := h
    refine tt_iald (q := 16) dX12_moveOf_15 ia_104 (Nat.le_of_ble_eq_true rfl) rfl l7 rfl ?_
    refine tt_iret dX12_moveOf_16 ⟨rfl, _, rfl, ?_⟩
    obtain ⟨p10, hp11, h⟩ := h
    refine callVv_3 (q := 26) dX12_makesRow_23 (Or.inr (Or.inr (⟨rfl, rfl, hp11⟩))) (Nat.le_of_ble_eq_true rfl) rfl (fun t9 hr12 => ?_)
    replace h := h t9 hr12
    refine inc_4 (q := 29) dX12_makesRow_26 (nI_inc1 _) rfl rfl ?_
    refine tt_goto (t := 3) dX12_makesRow_29 rfl ?_
    exact h

theorem g_X12_isSolved_0 {post : SG → Int32 → Prop} {σ : SG} {k : Nat} {n : Nat} (hia_k : IA k n) (hk_k : k < AF.1) {fr : Nat} (h : (fr + 0 < n ∧ (((σ k (fr + 0)) = (nI 0) → (fr + 1 < n ∧ (((σ k (fr + 1)) = (nI 1) → (fr + 2 < n ∧ (((σ k (fr + 2)) = (nI 2) → (fr + 3 < n ∧ (((σ k (fr + 3)) = (nI 3) → (fr + 4 < n ∧ (((σ k (fr + 4)) = (nI 4) → (fr + 5 < n ∧ (((σ k (fr + 5)) = (nI 5) → post σ (nI 1)) ∧ (¬ (σ k (fr + 5)) = (nI 5) → post σ (nI 0))))) ∧ (¬ (σ k (fr + 4)) = (nI 4) → post σ (nI 0))))) ∧ (¬ (σ k (fr + 3)) = (nI 3) → post σ (nI 0))))) ∧ (¬ (σ k (fr + 2)) = (nI 2) → post σ (nI 0))))) ∧ (¬ (σ k (fr + 1)) = (nI 1) → post σ (nI 0))))) ∧ (¬ (σ k (fr + 0)) = (nI 0) → post σ (nI 0))))) : T_X12_isSolved AF post 0 [.ref k, .int (nI fr), dum] [] σ := by
  refine tt_iconst (q := 1) dX12_isSolved_0 ki_0 rfl ?_
  refine sti_n_2 (q := 2) dX12_isSolved_1 rfl rfl rfl ?_
  refine tt_iload_n (q := 3) dX12_isSolved_2 rfl rfl ?_
  refine tt_bipush (q := 5) dX12_isSolved_3 bi_6 rfl ?_
  refine tt_icmp_ge (q := 8) (t := 25) dX12_isSolved_5 rfl rfl (fun c => absurd c (by decide)) (fun c => ?_)
  clear c
  refine tt_aload_n (q := 9) dX12_isSolved_8 rfl rfl ?_
  refine tt_iload_n (q := 10) dX12_isSolved_9 rfl rfl ?_
  refine tt_iload_n (q := 11) dX12_isSolved_10 rfl rfl ?_
  refine tt_iaddN (q := 12) dX12_isSolved_11 rfl ?_
  obtain ⟨l1, h⟩ := h
  refine tt_iald (q := 13) dX12_isSolved_12 hia_k hk_k rfl l1 rfl ?_
  refine tt_iload_n (q := 14) dX12_isSolved_13 rfl rfl ?_
  refine tt_icmp_eq (q := 17) (t := 19) dX12_isSolved_14 rfl rfl (fun c => ?_) (fun c => ?_)
  · replace h := h.1 c
    refine inc_2 (v := nI 1) (q := 22) dX12_isSolved_19 (by decide) rfl rfl ?_
    refine tt_goto (t := 2) dX12_isSolved_22 rfl ?_
    refine tt_iload_n (q := 3) dX12_isSolved_2 rfl rfl ?_
    refine tt_bipush (q := 5) dX12_isSolved_3 bi_6 rfl ?_
    refine tt_icmp_ge (q := 8) (t := 25) dX12_isSolved_5 rfl rfl (fun c => absurd c (by decide)) (fun c => ?_)
    clear c
    refine tt_aload_n (q := 9) dX12_isSolved_8 rfl rfl ?_
    refine tt_iload_n (q := 10) dX12_isSolved_9 rfl rfl ?_
    refine tt_iload_n (q := 11) dX12_isSolved_10 rfl rfl ?_
    refine tt_iaddN (q := 12) dX12_isSolved_11 rfl ?_
    obtain ⟨l3, h⟩ := h
    refine tt_iald (q := 13) dX12_isSolved_12 hia_k hk_k rfl l3 rfl ?_
    refine tt_iload_n (q := 14) dX12_isSolved_13 rfl rfl ?_
    refine tt_icmp_eq (q := 17) (t := 19) dX12_isSolved_14 rfl rfl (fun c => ?_) (fun c => ?_)
    · replace h := h.1 c
      refine inc_2 (v := nI 2) (q := 22) dX12_isSolved_19 (by decide) rfl rfl ?_
      refine tt_goto (t := 2) dX12_isSolved_22 rfl ?_
      refine tt_iload_n (q := 3) dX12_isSolved_2 rfl rfl ?_
      refine tt_bipush (q := 5) dX12_isSolved_3 bi_6 rfl ?_
      refine tt_icmp_ge (q := 8) (t := 25) dX12_isSolved_5 rfl rfl (fun c => absurd c (by decide)) (fun c => ?_)
      clear c
      refine tt_aload_n (q := 9) dX12_isSolved_8 rfl rfl ?_
      refine tt_iload_n (q := 10) dX12_isSolved_9 rfl rfl ?_
      refine tt_iload_n (q := 11) dX12_isSolved_10 rfl rfl ?_
      refine tt_iaddN (q := 12) dX12_isSolved_11 rfl ?_
      obtain ⟨l5, h⟩ := h
      refine tt_iald (q := 13) dX12_isSolved_12 hia_k hk_k rfl l5 rfl ?_
      refine tt_iload_n (q := 14) dX12_isSolved_13 rfl rfl ?_
      refine tt_icmp_eq (q := 17) (t := 19) dX12_isSolved_14 rfl rfl (fun c => ?_) (fun c => ?_)
      · replace h := h.1 c
        refine inc_2 (v := nI 3) (q := 22) dX12_isSolved_19 (by decide) rfl rfl ?_
        refine tt_goto (t := 2) dX12_isSolved_22 rfl ?_
        refine tt_iload_n (q := 3) dX12_isSolved_2 rfl rfl ?_
        refine tt_bipush (q := 5) dX12_isSolved_3 bi_6 rfl ?_
        refine tt_icmp_ge (q := 8) (t := 25) dX12_isSolved_5 rfl rfl (fun c => absurd c (by decide)) (fun c => ?_)
        clear c
        refine tt_aload_n (q := 9) dX12_isSolved_8 rfl rfl ?_
        refine tt_iload_n (q := 10) dX12_isSolved_9 rfl rfl ?_
        refine tt_iload_n (q := 11) dX12_isSolved_10 rfl rfl ?_
        refine tt_iaddN (q := 12) dX12_isSolved_11 rfl ?_
        obtain ⟨l7, h⟩ := h
        refine tt_iald (q := 13) dX12_isSolved_12 hia_k hk_k rfl l7 rfl ?_
        refine tt_iload_n (q := 14) dX12_isSolved_13 rfl rfl ?_
        refine tt_icmp_eq (q := 17) (t := 19) dX12_isSolved_14 rfl rfl (fun c => ?_) (fun c => ?_)
        · replace h := h.1 c
          refine inc_2 (v := nI 4) (q := 22) dX12_isSolved_19 (by decide) rfl rfl ?_
          refine tt_goto (t := 2) dX12_isSolved_22 rfl ?_
          refine tt_iload_n (q := 3) dX12_isSolved_2 rfl rfl ?_
          refine tt_bipush (q := 5) dX12_isSolved_3 bi_6 rfl ?_
          refine tt_icmp_ge (q := 8) (t := 25) dX12_isSolved_5 rfl rfl (fun c => absurd c (by decide)) (fun c => ?_)
          clear c
          refine tt_aload_n (q := 9) dX12_isSolved_8 rfl rfl ?_
          refine tt_iload_n (q := 10) dX12_isSolved_9 rfl rfl ?_
          refine tt_iload_n (q := 11) dX12_isSolved_10 rfl rfl ?_
          refine tt_iaddN (q := 12) dX12_isSolved_11 rfl ?_
          obtain ⟨l9, h⟩ := h
          refine tt_iald (q := 13) dX12_isSolved_12 hia_k hk_k rfl l9 rfl ?_
          refine tt_iload_n (q := 14) dX12_isSolved_13 rfl rfl ?_
          refine tt_icmp_eq (q := 17) (t := 19) dX12_isSolved_14 rfl rfl (fun c => ?_) (fun c => ?_)
          · replace h := h.1 c
            refine inc_2 (v := nI 5) (q := 22) dX12_isSolved_19 (by decide) rfl rfl ?_
            refine tt_goto (t := 2) dX12_isSolved_22 rfl ?_
            refine tt_iload_n (q := 3) dX12_isSolved_2 rfl rfl ?_
            refine tt_bipush (q := 5) dX12_isSolved_3 bi_6 rfl ?_
            refine tt_icmp_ge (q := 8) (t := 25) dX12_isSolved_5 rfl rfl (fun c => absurd c (by decide)) (fun c => ?_)
            clear c
            refine tt_aload_n (q := 9) dX12_isSolved_8 rfl rfl ?_
            refine tt_iload_n (q := 10) dX12_isSolved_9 rfl rfl ?_
            refine tt_iload_n (q := 11) dX12_isSolved_10 rfl rfl ?_
            refine tt_iaddN (q := 12) dX12_isSolved_11 rfl ?_
            obtain ⟨l11, h⟩ := h
            refine tt_iald (q := 13) dX12_isSolved_12 hia_k hk_k rfl l11 rfl ?_
            refine tt_iload_n (q := 14) dX12_isSolved_13 rfl rfl ?_
            refine tt_icmp_eq (q := 17) (t := 19) dX12_isSolved_14 rfl rfl (fun c => ?_) (fun c => ?_)
            · replace h := h.1 c
              refine inc_2 (v := nI 6) (q := 22) dX12_isSolved_19 (by decide) rfl rfl ?_
              refine tt_goto (t := 2) dX12_isSolved_22 rfl ?_
              refine tt_iload_n (q := 3) dX12_isSolved_2 rfl rfl ?_
              refine tt_bipush (q := 5) dX12_isSolved_3 bi_6 rfl ?_
              refine tt_icmp_ge (q := 8) (t := 25) dX12_isSolved_5 rfl rfl (fun c => ?_) (fun c => absurd c (by decide))
              clear c
              refine tt_iconst (q := 26) dX12_isSolved_25 ki_1 rfl ?_
              exact tt_iret dX12_isSolved_26 ⟨rfl, _, rfl, Or.inr rfl, h⟩
            · replace h := h.2 c
              refine tt_iconst (q := 18) dX12_isSolved_17 ki_0 rfl ?_
              exact tt_iret dX12_isSolved_18 ⟨rfl, _, rfl, Or.inl nI_0, h⟩
          · replace h := h.2 c
            refine tt_iconst (q := 18) dX12_isSolved_17 ki_0 rfl ?_
            exact tt_iret dX12_isSolved_18 ⟨rfl, _, rfl, Or.inl nI_0, h⟩
        · replace h := h.2 c
          refine tt_iconst (q := 18) dX12_isSolved_17 ki_0 rfl ?_
          exact tt_iret dX12_isSolved_18 ⟨rfl, _, rfl, Or.inl nI_0, h⟩
      · replace h := h.2 c
        refine tt_iconst (q := 18) dX12_isSolved_17 ki_0 rfl ?_
        exact tt_iret dX12_isSolved_18 ⟨rfl, _, rfl, Or.inl nI_0, h⟩
    · replace h := h.2 c
      refine tt_iconst (q := 18) dX12_isSolved_17 ki_0 rfl ?_
      exact tt_iret dX12_isSolved_18 ⟨rfl, _, rfl, Or.inl nI_0, h⟩
  · replace h := h.2 c
    refine tt_iconst (q := 18) dX12_isSolved_17 ki_0 rfl ?_
    exact tt_iret dX12_isSolved_18 ⟨rfl, _, rfl, Or.inl nI_0, h⟩

theorem g_X12_make_0 {post : SG → Int32 → Prop} {σ : SG} {a : Int32} (h : ((a < 0 → (∀ s8 : SG, s8 = up σ 103 1 ((σ 103 1) + (nI 1)) → post s8 (-1 : Int32))) ∧ (¬ a < 0 → ((((nI 2) * (σ 104 0)) ≤ a → (∀ s12 : SG, s12 = up σ 103 1 ((σ 103 1) + (nI 1)) → post s12 (-1 : Int32))) ∧ (¬ ((nI 2) * (σ 104 0)) ≤ a → (∃ p15 : SG → Int32 → Prop, IN_X12_makes AF σ [.ref 102, .ref 104, .int (nI 5), .int a] p15 ∧ ∀ t14 : SG, p15 t14 0 → (∃ p20 : SG → Int32 → Prop, IN_X12_isSolved AF t14 [.ref 104, .int (nI 5)] p20 ∧ ∀ (t19 : SG) (r18 : Int32), p20 t19 r18 → ((r18 = 0 → post t19 (nI 0)) ∧ (¬ r18 = 0 → post t19 (nI 1)))))))))) : T_X12_make AF post 0 [.ref 102, .int a] [] σ := by
  refine tt_aload_n (q := 1) dX12_make_0 rfl rfl ?_
  refine tt_iload_n (q := 2) dX12_make_1 rfl rfl ?_
  refine callVi_1 (q := 5) dX12_make_2 (Or.inl ⟨rfl, rfl, ⟨⟨_, _, rfl, rfl, (Nat.le_of_ble_eq_true rfl), rc_102⟩, Nat.le_of_ble_eq_true rfl, ?_⟩⟩) (Nat.le_of_ble_eq_true rfl) rfl (fun t2 r1 ht2 => ht2)
  refine (show TT cX12_isMove RX12 false CT_X12_isMove CN0 _ _ _ none 0 [_, _] [] _ _ from ?_)
  refine tt_iload_n (q := 1) dX12_isMove_0 rfl rfl ?_
  refine tt_iconst (q := 2) dX12_isMove_1 ki_2 rfl ?_
  refine tt_aload_n (q := 3) dX12_isMove_2 rfl rfl ?_
  refine tt_getR (q := 6) dX12_isMove_3 fl_X12_13 or_102_1 (Nat.le_of_ble_eq_true rfl) rfl rfl ?_
  refine tt_iconst (q := 7) dX12_isMove_6 ki_0 rfl ?_
  refine tt_iald (q := 8) dX12_isMove_7 ia_104 (Nat.le_of_ble_eq_true rfl) rfl (Nat.le_of_ble_eq_true rfl : 0 < 197) rfl ?_
  refine tt_imul (q := 9) dX12_isMove_8 rfl ?_
  refine callSi_2 (q := 12) dX12_isMove_9 (⟨rfl, rfl, ⟨rfl, Nat.le_of_ble_eq_true rfl, ?_⟩⟩) (Nat.le_of_ble_eq_true rfl) rfl (fun t4 r3 ht4 => ht4)
  refine (show TT cX12_isIn RX12 false CT0 CN0 _ _ _ none 0 [_, _] [] _ _ from ?_)
  refine tt_iload_n (q := 1) dX12_isIn_0 rfl rfl ?_
  refine tt_if_lt (q := 4) (t := 13) dX12_isIn_1 rfl rfl (fun c => ?_) (fun c => ?_)
  · replace h := h.1 c
    refine tt_iconst (q := 14) dX12_isIn_13 ki_0 rfl ?_
    refine tt_iret dX12_isIn_14 ⟨rfl, _, rfl, Or.inl nI_0, ?_⟩
    refine tt_iret dX12_isMove_12 ⟨rfl, _, rfl, Or.inl nI_0, ?_⟩
    refine tt_if_ne (q := 8) (t := 14) dX12_make_5 rfl rfl (fun c => absurd c (by decide)) (fun c => ?_)
    clear c
    refine tt_aload_n (q := 9) dX12_make_8 rfl rfl ?_
    refine tt_iconst (q := 10) dX12_make_9 ki_m1 rfl ?_
    refine callVi_1 (q := 13) dX12_make_10 (Or.inr (Or.inl ⟨rfl, rfl, ⟨⟨_, _, rfl, rfl, (Nat.le_of_ble_eq_true rfl), rc_102⟩, Nat.le_of_ble_eq_true rfl, ?_⟩⟩)) (Nat.le_of_ble_eq_true rfl) rfl (fun t7 r6 ht7 => ht7)
    refine (show TT cX12_refuse RX12 false CT0 CN0 _ _ _ none 0 [_, _] [] _ _ from ?_)
    refine tt_aload_n (q := 1) dX12_refuse_0 rfl rfl ?_
    refine tt_getR (q := 4) dX12_refuse_1 fl_X12_7 or_102_0 (Nat.le_of_ble_eq_true rfl) rfl rfl ?_
    refine tt_iload_n (q := 5) dX12_refuse_4 rfl rfl ?_
    refine tt_inegE (v := nI 1) (q := 6) dX12_refuse_5 (by decide) rfl ?_
    refine tt_dup2 (q := 7) dX12_refuse_6 rfl rfl rfl ?_
    refine tt_iald (q := 8) dX12_refuse_7 ia_103 (Nat.le_of_ble_eq_true rfl) rfl (Nat.le_of_ble_eq_true rfl : 1 < 7) rfl ?_
    refine tt_iconst (q := 9) dX12_refuse_8 ki_1 rfl ?_
    refine tt_iadd (q := 10) dX12_refuse_9 rfl ?_
    refine tt_iast (q := 11) dX12_refuse_10 ia_103 (Nat.le_of_ble_eq_true rfl) rfl (Nat.le_of_ble_eq_true rfl : 1 < 7) rfl ?_
    replace h := h _ rfl
    refine tt_iload_n (q := 12) dX12_refuse_11 rfl rfl ?_
    refine tt_iret dX12_refuse_12 ⟨rfl, _, rfl, ?_⟩
    exact tt_iret dX12_make_13 ⟨rfl, _, rfl, h⟩
  · replace h := h.2 c
    refine tt_iload_n (q := 5) dX12_isIn_4 rfl rfl ?_
    refine tt_iload_n (q := 6) dX12_isIn_5 rfl rfl ?_
    refine tt_icmp_ge (q := 9) (t := 13) dX12_isIn_6 rfl rfl (fun c => ?_) (fun c => ?_)
    · replace h := h.1 c
      refine tt_iconst (q := 14) dX12_isIn_13 ki_0 rfl ?_
      refine tt_iret dX12_isIn_14 ⟨rfl, _, rfl, Or.inl nI_0, ?_⟩
      refine tt_iret dX12_isMove_12 ⟨rfl, _, rfl, Or.inl nI_0, ?_⟩
      refine tt_if_ne (q := 8) (t := 14) dX12_make_5 rfl rfl (fun c => absurd c (by decide)) (fun c => ?_)
      clear c
      refine tt_aload_n (q := 9) dX12_make_8 rfl rfl ?_
      refine tt_iconst (q := 10) dX12_make_9 ki_m1 rfl ?_
      refine callVi_1 (q := 13) dX12_make_10 (Or.inr (Or.inl ⟨rfl, rfl, ⟨⟨_, _, rfl, rfl, (Nat.le_of_ble_eq_true rfl), rc_102⟩, Nat.le_of_ble_eq_true rfl, ?_⟩⟩)) (Nat.le_of_ble_eq_true rfl) rfl (fun t11 r10 ht11 => ht11)
      refine (show TT cX12_refuse RX12 false CT0 CN0 _ _ _ none 0 [_, _] [] _ _ from ?_)
      refine tt_aload_n (q := 1) dX12_refuse_0 rfl rfl ?_
      refine tt_getR (q := 4) dX12_refuse_1 fl_X12_7 or_102_0 (Nat.le_of_ble_eq_true rfl) rfl rfl ?_
      refine tt_iload_n (q := 5) dX12_refuse_4 rfl rfl ?_
      refine tt_inegE (v := nI 1) (q := 6) dX12_refuse_5 (by decide) rfl ?_
      refine tt_dup2 (q := 7) dX12_refuse_6 rfl rfl rfl ?_
      refine tt_iald (q := 8) dX12_refuse_7 ia_103 (Nat.le_of_ble_eq_true rfl) rfl (Nat.le_of_ble_eq_true rfl : 1 < 7) rfl ?_
      refine tt_iconst (q := 9) dX12_refuse_8 ki_1 rfl ?_
      refine tt_iadd (q := 10) dX12_refuse_9 rfl ?_
      refine tt_iast (q := 11) dX12_refuse_10 ia_103 (Nat.le_of_ble_eq_true rfl) rfl (Nat.le_of_ble_eq_true rfl : 1 < 7) rfl ?_
      replace h := h _ rfl
      refine tt_iload_n (q := 12) dX12_refuse_11 rfl rfl ?_
      refine tt_iret dX12_refuse_12 ⟨rfl, _, rfl, ?_⟩
      exact tt_iret dX12_make_13 ⟨rfl, _, rfl, h⟩
    · replace h := h.2 c
      refine tt_iconst (q := 10) dX12_isIn_9 ki_1 rfl ?_
      refine tt_goto (t := 14) dX12_isIn_10 rfl ?_
      refine tt_iret dX12_isIn_14 ⟨rfl, _, rfl, Or.inr rfl, ?_⟩
      refine tt_iret dX12_isMove_12 ⟨rfl, _, rfl, Or.inr rfl, ?_⟩
      refine tt_if_ne (q := 8) (t := 14) dX12_make_5 rfl rfl (fun c => ?_) (fun c => absurd c (by decide))
      clear c
      refine tt_aload_n (q := 15) dX12_make_14 rfl rfl ?_
      refine tt_aload_n (q := 16) dX12_make_15 rfl rfl ?_
      refine tt_getR (q := 19) dX12_make_16 fl_X12_13 or_102_1 (Nat.le_of_ble_eq_true rfl) rfl rfl ?_
      refine tt_iconst (q := 20) dX12_make_19 ki_5 rfl ?_
      refine tt_iload_n (q := 21) dX12_make_20 rfl rfl ?_
      obtain ⟨p15, hp16, h⟩ := h
      refine callVv_3 (q := 24) dX12_make_21 (Or.inr (Or.inr (Or.inl ⟨rfl, rfl, hp16⟩))) (Nat.le_of_ble_eq_true rfl) rfl (fun t14 hr17 => ?_)
      replace h := h t14 hr17
      refine tt_aload_n (q := 25) dX12_make_24 rfl rfl ?_
      refine tt_getR (q := 28) dX12_make_25 fl_X12_13 or_102_1 (Nat.le_of_ble_eq_true rfl) rfl rfl ?_
      refine tt_iconst (q := 29) dX12_make_28 ki_5 rfl ?_
      obtain ⟨p20, hp21, h⟩ := h
      refine callSi_2 (q := 32) dX12_make_29 (Or.inr (Or.inr (Or.inr (⟨rfl, rfl, hp21⟩)))) (Nat.le_of_ble_eq_true rfl) rfl (fun t19 r18 hr22 => ?_)
      replace h := h t19 r18 hr22
      refine tt_if_eq (q := 35) (t := 39) dX12_make_32 rfl rfl (fun c => ?_) (fun c => ?_)
      · replace h := h.1 c
        refine tt_iconst (q := 40) dX12_make_39 ki_0 rfl ?_
        exact tt_iret dX12_make_40 ⟨rfl, _, rfl, h⟩
      · replace h := h.2 c
        refine tt_iconst (q := 36) dX12_make_35 ki_1 rfl ?_
        refine tt_goto (t := 40) dX12_make_36 rfl ?_
        exact tt_iret dX12_make_40 ⟨rfl, _, rfl, h⟩

theorem g_X12_makeRow_0 {post : SG → Int32 → Prop} {σ : SG} {a : Int32} (h : ((a < 0 → (∀ s8 : SG, s8 = up σ 103 1 ((σ 103 1) + (nI 1)) → post s8 (-1 : Int32))) ∧ (¬ a < 0 → (((σ 104 1) ≤ a → (∀ s12 : SG, s12 = up σ 103 1 ((σ 103 1) + (nI 1)) → post s12 (-1 : Int32))) ∧ (¬ (σ 104 1) ≤ a → (∃ p15 : SG → Int32 → Prop, IN_X12_makesRow AF σ [.ref 102, .ref 104, .int (nI 5), .int a] p15 ∧ ∀ t14 : SG, p15 t14 0 → (∃ p20 : SG → Int32 → Prop, IN_X12_isSolved AF t14 [.ref 104, .int (nI 5)] p20 ∧ ∀ (t19 : SG) (r18 : Int32), p20 t19 r18 → ((r18 = 0 → post t19 (nI 0)) ∧ (¬ r18 = 0 → post t19 (nI 1)))))))))) : T_X12_makeRow AF post 0 [.ref 102, .int a] [] σ := by
  refine tt_aload_n (q := 1) dX12_makeRow_0 rfl rfl ?_
  refine tt_iload_n (q := 2) dX12_makeRow_1 rfl rfl ?_
  refine callVi_1 (q := 5) dX12_makeRow_2 (Or.inl ⟨rfl, rfl, ⟨⟨_, _, rfl, rfl, (Nat.le_of_ble_eq_true rfl), rc_102⟩, Nat.le_of_ble_eq_true rfl, ?_⟩⟩) (Nat.le_of_ble_eq_true rfl) rfl (fun t2 r1 ht2 => ht2)
  refine (show TT cX12_isRow RX12 false CT_X12_isRow CN0 _ _ _ none 0 [_, _] [] _ _ from ?_)
  refine tt_iload_n (q := 1) dX12_isRow_0 rfl rfl ?_
  refine tt_aload_n (q := 2) dX12_isRow_1 rfl rfl ?_
  refine tt_getR (q := 5) dX12_isRow_2 fl_X12_13 or_102_1 (Nat.le_of_ble_eq_true rfl) rfl rfl ?_
  refine tt_iconst (q := 6) dX12_isRow_5 ki_1 rfl ?_
  refine tt_iald (q := 7) dX12_isRow_6 ia_104 (Nat.le_of_ble_eq_true rfl) rfl (Nat.le_of_ble_eq_true rfl : 1 < 197) rfl ?_
  refine callSi_2 (q := 10) dX12_isRow_7 (⟨rfl, rfl, ⟨rfl, Nat.le_of_ble_eq_true rfl, ?_⟩⟩) (Nat.le_of_ble_eq_true rfl) rfl (fun t4 r3 ht4 => ht4)
  refine (show TT cX12_isIn RX12 false CT0 CN0 _ _ _ none 0 [_, _] [] _ _ from ?_)
  refine tt_iload_n (q := 1) dX12_isIn_0 rfl rfl ?_
  refine tt_if_lt (q := 4) (t := 13) dX12_isIn_1 rfl rfl (fun c => ?_) (fun c => ?_)
  · replace h := h.1 c
    refine tt_iconst (q := 14) dX12_isIn_13 ki_0 rfl ?_
    refine tt_iret dX12_isIn_14 ⟨rfl, _, rfl, Or.inl nI_0, ?_⟩
    refine tt_iret dX12_isRow_10 ⟨rfl, _, rfl, Or.inl nI_0, ?_⟩
    refine tt_if_ne (q := 8) (t := 14) dX12_makeRow_5 rfl rfl (fun c => absurd c (by decide)) (fun c => ?_)
    clear c
    refine tt_aload_n (q := 9) dX12_makeRow_8 rfl rfl ?_
    refine tt_iconst (q := 10) dX12_makeRow_9 ki_m1 rfl ?_
    refine callVi_1 (q := 13) dX12_makeRow_10 (Or.inr (Or.inl ⟨rfl, rfl, ⟨⟨_, _, rfl, rfl, (Nat.le_of_ble_eq_true rfl), rc_102⟩, Nat.le_of_ble_eq_true rfl, ?_⟩⟩)) (Nat.le_of_ble_eq_true rfl) rfl (fun t7 r6 ht7 => ht7)
    refine (show TT cX12_refuse RX12 false CT0 CN0 _ _ _ none 0 [_, _] [] _ _ from ?_)
    refine tt_aload_n (q := 1) dX12_refuse_0 rfl rfl ?_
    refine tt_getR (q := 4) dX12_refuse_1 fl_X12_7 or_102_0 (Nat.le_of_ble_eq_true rfl) rfl rfl ?_
    refine tt_iload_n (q := 5) dX12_refuse_4 rfl rfl ?_
    refine tt_inegE (v := nI 1) (q := 6) dX12_refuse_5 (by decide) rfl ?_
    refine tt_dup2 (q := 7) dX12_refuse_6 rfl rfl rfl ?_
    refine tt_iald (q := 8) dX12_refuse_7 ia_103 (Nat.le_of_ble_eq_true rfl) rfl (Nat.le_of_ble_eq_true rfl : 1 < 7) rfl ?_
    refine tt_iconst (q := 9) dX12_refuse_8 ki_1 rfl ?_
    refine tt_iadd (q := 10) dX12_refuse_9 rfl ?_
    refine tt_iast (q := 11) dX12_refuse_10 ia_103 (Nat.le_of_ble_eq_true rfl) rfl (Nat.le_of_ble_eq_true rfl : 1 < 7) rfl ?_
    replace h := h _ rfl
    refine tt_iload_n (q := 12) dX12_refuse_11 rfl rfl ?_
    refine tt_iret dX12_refuse_12 ⟨rfl, _, rfl, ?_⟩
    exact tt_iret dX12_makeRow_13 ⟨rfl, _, rfl, h⟩
  · replace h := h.2 c
    refine tt_iload_n (q := 5) dX12_isIn_4 rfl rfl ?_
    refine tt_iload_n (q := 6) dX12_isIn_5 rfl rfl ?_
    refine tt_icmp_ge (q := 9) (t := 13) dX12_isIn_6 rfl rfl (fun c => ?_) (fun c => ?_)
    · replace h := h.1 c
      refine tt_iconst (q := 14) dX12_isIn_13 ki_0 rfl ?_
      refine tt_iret dX12_isIn_14 ⟨rfl, _, rfl, Or.inl nI_0, ?_⟩
      refine tt_iret dX12_isRow_10 ⟨rfl, _, rfl, Or.inl nI_0, ?_⟩
      refine tt_if_ne (q := 8) (t := 14) dX12_makeRow_5 rfl rfl (fun c => absurd c (by decide)) (fun c => ?_)
      clear c
      refine tt_aload_n (q := 9) dX12_makeRow_8 rfl rfl ?_
      refine tt_iconst (q := 10) dX12_makeRow_9 ki_m1 rfl ?_
      refine callVi_1 (q := 13) dX12_makeRow_10 (Or.inr (Or.inl ⟨rfl, rfl, ⟨⟨_, _, rfl, rfl, (Nat.le_of_ble_eq_true rfl), rc_102⟩, Nat.le_of_ble_eq_true rfl, ?_⟩⟩)) (Nat.le_of_ble_eq_true rfl) rfl (fun t11 r10 ht11 => ht11)
      refine (show TT cX12_refuse RX12 false CT0 CN0 _ _ _ none 0 [_, _] [] _ _ from ?_)
      refine tt_aload_n (q := 1) dX12_refuse_0 rfl rfl ?_
      refine tt_getR (q := 4) dX12_refuse_1 fl_X12_7 or_102_0 (Nat.le_of_ble_eq_true rfl) rfl rfl ?_
      refine tt_iload_n (q := 5) dX12_refuse_4 rfl rfl ?_
      refine tt_inegE (v := nI 1) (q := 6) dX12_refuse_5 (by decide) rfl ?_
      refine tt_dup2 (q := 7) dX12_refuse_6 rfl rfl rfl ?_
      refine tt_iald (q := 8) dX12_refuse_7 ia_103 (Nat.le_of_ble_eq_true rfl) rfl (Nat.le_of_ble_eq_true rfl : 1 < 7) rfl ?_
      refine tt_iconst (q := 9) dX12_refuse_8 ki_1 rfl ?_
      refine tt_iadd (q := 10) dX12_refuse_9 rfl ?_
      refine tt_iast (q := 11) dX12_refuse_10 ia_103 (Nat.le_of_ble_eq_true rfl) rfl (Nat.le_of_ble_eq_true rfl : 1 < 7) rfl ?_
      replace h := h _ rfl
      refine tt_iload_n (q := 12) dX12_refuse_11 rfl rfl ?_
      refine tt_iret dX12_refuse_12 ⟨rfl, _, rfl, ?_⟩
      exact tt_iret dX12_makeRow_13 ⟨rfl, _, rfl, h⟩
    · replace h := h.2 c
      refine tt_iconst (q := 10) dX12_isIn_9 ki_1 rfl ?_
      refine tt_goto (t := 14) dX12_isIn_10 rfl ?_
      refine tt_iret dX12_isIn_14 ⟨rfl, _, rfl, Or.inr rfl, ?_⟩
      refine tt_iret dX12_isRow_10 ⟨rfl, _, rfl, Or.inr rfl, ?_⟩
      refine tt_if_ne (q := 8) (t := 14) dX12_makeRow_5 rfl rfl (fun c => ?_) (fun c => absurd c (by decide))
      clear c
      refine tt_aload_n (q := 15) dX12_makeRow_14 rfl rfl ?_
      refine tt_aload_n (q := 16) dX12_makeRow_15 rfl rfl ?_
      refine tt_getR (q := 19) dX12_makeRow_16 fl_X12_13 or_102_1 (Nat.le_of_ble_eq_true rfl) rfl rfl ?_
      refine tt_iconst (q := 20) dX12_makeRow_19 ki_5 rfl ?_
      refine tt_iload_n (q := 21) dX12_makeRow_20 rfl rfl ?_
      obtain ⟨p15, hp16, h⟩ := h
      refine callVv_3 (q := 24) dX12_makeRow_21 (Or.inr (Or.inr (Or.inl ⟨rfl, rfl, hp16⟩))) (Nat.le_of_ble_eq_true rfl) rfl (fun t14 hr17 => ?_)
      replace h := h t14 hr17
      refine tt_aload_n (q := 25) dX12_makeRow_24 rfl rfl ?_
      refine tt_getR (q := 28) dX12_makeRow_25 fl_X12_13 or_102_1 (Nat.le_of_ble_eq_true rfl) rfl rfl ?_
      refine tt_iconst (q := 29) dX12_makeRow_28 ki_5 rfl ?_
      obtain ⟨p20, hp21, h⟩ := h
      refine callSi_2 (q := 32) dX12_makeRow_29 (Or.inr (Or.inr (Or.inr (⟨rfl, rfl, hp21⟩)))) (Nat.le_of_ble_eq_true rfl) rfl (fun t19 r18 hr22 => ?_)
      replace h := h t19 r18 hr22
      refine tt_if_eq (q := 35) (t := 39) dX12_makeRow_32 rfl rfl (fun c => ?_) (fun c => ?_)
      · replace h := h.1 c
        refine tt_iconst (q := 40) dX12_makeRow_39 ki_0 rfl ?_
        exact tt_iret dX12_makeRow_40 ⟨rfl, _, rfl, h⟩
      · replace h := h.2 c
        refine tt_iconst (q := 36) dX12_makeRow_35 ki_1 rfl ?_
        refine tt_goto (t := 40) dX12_makeRow_36 rfl ?_
        exact tt_iret dX12_makeRow_40 ⟨rfl, _, rfl, h⟩

theorem g_X12_puts_0 {post : SG → Int32 → Prop} {σ : SG} {k : Nat} {n : Nat} (hia_k : IA k n) (hk_k : k < AF.1) {fr : Nat} {o : Nat} (h : T_X12_puts AF post 13 [.ref k, .int (nI fr), .int (nI o), .int (nI o), .int (nI 120), .int (nI 63), .int (nI 0), dum, dum] [] σ) : T_X12_puts AF post 0 [.ref k, .int (nI fr), .int (nI o), dum, dum, dum, dum, dum, dum] [] σ := by
  refine tt_iload_n (q := 1) dX12_puts_0 rfl rfl ?_
  refine sti_n_3 (q := 2) dX12_puts_1 rfl rfl rfl ?_
  refine tt_bipush (q := 4) dX12_puts_2 bi_120 rfl ?_
  refine sti_4 (q := 6) dX12_puts_4 rfl rfl ?_
  refine tt_bipush (q := 8) dX12_puts_6 bi_63 rfl ?_
  refine sti_5 (q := 10) dX12_puts_8 rfl rfl ?_
  refine tt_iconst (q := 11) dX12_puts_10 ki_0 rfl ?_
  refine sti_6 (q := 13) dX12_puts_11 rfl rfl ?_
  exact h
theorem g_X12_puts_13 {post : SG → Int32 → Prop} {σ : SG} {k : Nat} {n : Nat} (hia_k : IA k n) (hk_k : k < AF.1) {fr : Nat} {o : Nat} {rs : Nat} {bw : Nat} {left : Int32} {p : Nat} (h : (p < 2 ^ 31 ∧ ((6 ≤ p → post σ 0) ∧ (p < 6 → (rs < 2 ^ 31 ∧ 0 < bw ∧ bw < 2 ^ 31 ∧ (rs < 2 ^ 31 ∧ 0 < bw ∧ bw < 2 ^ 31 ∧ (p < 2 ^ 31 ∧ ((5 ≤ p → T_X12_puts AF post 53 [.ref k, .int (nI fr), .int (nI o), .int (nI (rs % bw)), .int (nI 1), .int left, .int (nI p), .int (nI (rs / bw)), .int (nI 0)] [] σ) ∧ (p < 5 → (p ≤ 5 ∧ (bw < 2 ^ 31 ∧ 0 < 5 - p ∧ 5 - p < 2 ^ 31 ∧ T_X12_puts AF post 53 [.ref k, .int (nI fr), .int (nI o), .int (nI (rs % bw)), .int (nI (bw / (5 - p))), .int left, .int (nI p), .int (nI (rs / bw)), .int (nI 0)] [] σ))))))))))) : T_X12_puts AF post 13 [.ref k, .int (nI fr), .int (nI o), .int (nI rs), .int (nI bw), .int left, .int (nI p), dum, dum] [] σ := by
  refine tt_iload (q := 15) dX12_puts_13 rfl rfl ?_
  refine tt_bipush (q := 17) dX12_puts_15 bi_6 rfl ?_
  obtain ⟨l2, h⟩ := h
  refine tt_icmp_ge (q := 20) (t := 120) dX12_puts_17 rfl rfl (fun c => ?_) (fun c => ?_)
  · replace h := h.1 ((nI_leI (by decide) l2).1 c)
    exact tt_vret dX12_puts_120 ⟨rfl, rfl, h⟩
  · replace h := h.2 (Nat.lt_of_not_le (fun z => c ((nI_leI (by decide) l2).2 z)))
    refine tt_iload_n (q := 21) dX12_puts_20 rfl rfl ?_
    refine tt_iload (q := 23) dX12_puts_21 rfl rfl ?_
    obtain ⟨l3, l4, l5, h⟩ := h
    refine tt_idivN (q := 24) dX12_puts_23 l3 l4 l5 rfl ?_
    refine sti_7 (q := 26) dX12_puts_24 rfl rfl ?_
    refine tt_iload_n (q := 27) dX12_puts_26 rfl rfl ?_
    refine tt_iload (q := 29) dX12_puts_27 rfl rfl ?_
    obtain ⟨l6, l7, l8, h⟩ := h
    refine tt_iremN (q := 30) dX12_puts_29 l6 l7 l8 rfl ?_
    refine sti_n_3 (q := 31) dX12_puts_30 rfl rfl rfl ?_
    refine tt_iload (q := 33) dX12_puts_31 rfl rfl ?_
    refine tt_iconst (q := 34) dX12_puts_33 ki_5 rfl ?_
    obtain ⟨l10, h⟩ := h
    refine tt_icmp_ge (q := 37) (t := 47) dX12_puts_34 rfl rfl (fun c => ?_) (fun c => ?_)
    · replace h := h.1 ((nI_leI (by decide) l10).1 c)
      refine tt_iconst (q := 48) dX12_puts_47 ki_1 rfl ?_
      refine sti_4 (q := 50) dX12_puts_48 rfl rfl ?_
      refine tt_iconst (q := 51) dX12_puts_50 ki_0 rfl ?_
      refine sti_8 (q := 53) dX12_puts_51 rfl rfl ?_
      exact h
    · replace h := h.2 (Nat.lt_of_not_le (fun z => c ((nI_leI (by decide) l10).2 z)))
      refine tt_iload (q := 39) dX12_puts_37 rfl rfl ?_
      refine tt_iconst (q := 40) dX12_puts_39 ki_5 rfl ?_
      refine tt_iload (q := 42) dX12_puts_40 rfl rfl ?_
      obtain ⟨l11, h⟩ := h
      refine tt_isubN (q := 43) dX12_puts_42 l11 rfl ?_
      obtain ⟨l12, l13, l14, h⟩ := h
      refine tt_idivN (q := 44) dX12_puts_43 l12 l13 l14 rfl ?_
      refine tt_goto (t := 48) dX12_puts_44 rfl ?_
      refine sti_4 (q := 50) dX12_puts_48 rfl rfl ?_
      refine tt_iconst (q := 51) dX12_puts_50 ki_0 rfl ?_
      refine sti_8 (q := 53) dX12_puts_51 rfl rfl ?_
      exact h
theorem g_X12_puts_53 {post : SG → Int32 → Prop} {σ : SG} {k : Nat} {n : Nat} (hia_k : IA k n) (hk_k : k < AF.1) {fr : Nat} {o : Nat} {rs : Nat} {bw : Nat} {left : Int32} {p : Nat} {kk : Nat} {pc : Nat} (h : ((((left >>> ((nI pc) &&& 31)) &&& (nI 1)) = 0 → ((¬ ((left >>> ((nI pc) &&& 31)) &&& (nI 1)) = (nI 1) → (0 ≤ kk ∧ T_X12_puts AF post 53 [.ref k, .int (nI fr), .int (nI o), .int (nI rs), .int (nI bw), .int left, .int (nI p), .int (nI (kk - 0)), .int (nI (pc + 1))] [] σ)) ∧ (((left >>> ((nI pc) &&& 31)) &&& (nI 1)) = (nI 1) → (1 ≤ kk ∧ T_X12_puts AF post 53 [.ref k, .int (nI fr), .int (nI o), .int (nI rs), .int (nI bw), .int left, .int (nI p), .int (nI (kk - 1)), .int (nI (pc + 1))] [] σ)))) ∧ (¬ ((left >>> ((nI pc) &&& 31)) &&& (nI 1)) = 0 → (((nI kk) ≤ 0 → (fr + p < n ∧ (∀ s7 : SG, s7 = up σ k (fr + p) (nI pc) → T_X12_puts AF post 13 [.ref k, .int (nI fr), .int (nI o), .int (nI rs), .int (nI bw), .int (left &&& (((nI 1) <<< ((nI pc) &&& 31)) ^^^ (-1 : Int32))), .int (nI (p + 1)), dum, dum] [] s7))) ∧ (¬ (nI kk) ≤ 0 → ((¬ ((left >>> ((nI pc) &&& 31)) &&& (nI 1)) = (nI 1) → (0 ≤ kk ∧ T_X12_puts AF post 53 [.ref k, .int (nI fr), .int (nI o), .int (nI rs), .int (nI bw), .int left, .int (nI p), .int (nI (kk - 0)), .int (nI (pc + 1))] [] σ)) ∧ (((left >>> ((nI pc) &&& 31)) &&& (nI 1)) = (nI 1) → (1 ≤ kk ∧ T_X12_puts AF post 53 [.ref k, .int (nI fr), .int (nI o), .int (nI rs), .int (nI bw), .int left, .int (nI p), .int (nI (kk - 1)), .int (nI (pc + 1))] [] σ)))))))) : T_X12_puts AF post 53 [.ref k, .int (nI fr), .int (nI o), .int (nI rs), .int (nI bw), .int left, .int (nI p), .int (nI kk), .int (nI pc)] [] σ := by
  refine tt_iload (q := 55) dX12_puts_53 rfl rfl ?_
  refine tt_iload (q := 57) dX12_puts_55 rfl rfl ?_
  refine tt_ishr (q := 58) dX12_puts_57 rfl ?_
  refine tt_iconst (q := 59) dX12_puts_58 ki_1 rfl ?_
  refine tt_iand (q := 60) dX12_puts_59 rfl ?_
  refine tt_if_eq (q := 63) (t := 68) dX12_puts_60 rfl rfl (fun c => ?_) (fun c => ?_)
  · replace h := h.1 c
    refine tt_iload (q := 70) dX12_puts_68 rfl rfl ?_
    refine tt_iload (q := 72) dX12_puts_70 rfl rfl ?_
    refine tt_iload (q := 74) dX12_puts_72 rfl rfl ?_
    refine tt_ishr (q := 75) dX12_puts_74 rfl ?_
    refine tt_iconst (q := 76) dX12_puts_75 ki_1 rfl ?_
    refine tt_iand (q := 77) dX12_puts_76 rfl ?_
    refine tt_iconst (q := 78) dX12_puts_77 ki_1 rfl ?_
    refine tt_icmp_ne (q := 81) (t := 85) dX12_puts_78 rfl rfl (fun c => ?_) (fun c => ?_)
    · replace h := h.1 c
      refine tt_iconst (q := 86) dX12_puts_85 ki_0 rfl ?_
      obtain ⟨l3, h⟩ := h
      refine tt_isubN (q := 87) dX12_puts_86 l3 rfl ?_
      refine sti_7 (q := 89) dX12_puts_87 rfl rfl ?_
      refine inc_8 (q := 92) dX12_puts_89 (nI_inc1 _) rfl rfl ?_
      refine tt_goto (t := 53) dX12_puts_92 rfl ?_
      exact h
    · replace h := h.2 c
      refine tt_iconst (q := 82) dX12_puts_81 ki_1 rfl ?_
      refine tt_goto (t := 86) dX12_puts_82 rfl ?_
      obtain ⟨l4, h⟩ := h
      refine tt_isubN (q := 87) dX12_puts_86 l4 rfl ?_
      refine sti_7 (q := 89) dX12_puts_87 rfl rfl ?_
      refine inc_8 (q := 92) dX12_puts_89 (nI_inc1 _) rfl rfl ?_
      refine tt_goto (t := 53) dX12_puts_92 rfl ?_
      exact h
  · replace h := h.2 c
    refine tt_iload (q := 65) dX12_puts_63 rfl rfl ?_
    refine tt_if_le (q := 68) (t := 95) dX12_puts_65 rfl rfl (fun c => ?_) (fun c => ?_)
    · replace h := h.1 c
      refine tt_aload_n (q := 96) dX12_puts_95 rfl rfl ?_
      refine tt_iload_n (q := 97) dX12_puts_96 rfl rfl ?_
      refine tt_iload (q := 99) dX12_puts_97 rfl rfl ?_
      refine tt_iaddN (q := 100) dX12_puts_99 rfl ?_
      refine tt_iload (q := 102) dX12_puts_100 rfl rfl ?_
      obtain ⟨l6, h⟩ := h
      refine tt_iast (q := 103) dX12_puts_102 hia_k hk_k rfl l6 rfl ?_
      replace h := h _ rfl
      refine tt_iload (q := 105) dX12_puts_103 rfl rfl ?_
      refine tt_iconst (q := 106) dX12_puts_105 ki_1 rfl ?_
      refine tt_iload (q := 108) dX12_puts_106 rfl rfl ?_
      refine tt_ishl (q := 109) dX12_puts_108 rfl ?_
      refine tt_iconst (q := 110) dX12_puts_109 ki_m1 rfl ?_
      refine tt_ixor (q := 111) dX12_puts_110 rfl ?_
      refine tt_iand (q := 112) dX12_puts_111 rfl ?_
      refine sti_5 (q := 114) dX12_puts_112 rfl rfl ?_
      refine inc_6 (q := 117) dX12_puts_114 (nI_inc1 _) rfl rfl ?_
      refine tt_goto (t := 13) dX12_puts_117 rfl ?_
      refine tt_wk (L2 := [_, _, _, _, _, _, _, dum, dum]) ⟨Or.inl rfl, Or.inl rfl, Or.inl rfl, Or.inl rfl, Or.inl rfl, Or.inl rfl, Or.inl rfl, Or.inr rfl, Or.inr rfl, trivial⟩ ?_
      exact h
    · replace h := h.2 c
      refine tt_iload (q := 70) dX12_puts_68 rfl rfl ?_
      refine tt_iload (q := 72) dX12_puts_70 rfl rfl ?_
      refine tt_iload (q := 74) dX12_puts_72 rfl rfl ?_
      refine tt_ishr (q := 75) dX12_puts_74 rfl ?_
      refine tt_iconst (q := 76) dX12_puts_75 ki_1 rfl ?_
      refine tt_iand (q := 77) dX12_puts_76 rfl ?_
      refine tt_iconst (q := 78) dX12_puts_77 ki_1 rfl ?_
      refine tt_icmp_ne (q := 81) (t := 85) dX12_puts_78 rfl rfl (fun c => ?_) (fun c => ?_)
      · replace h := h.1 c
        refine tt_iconst (q := 86) dX12_puts_85 ki_0 rfl ?_
        obtain ⟨l9, h⟩ := h
        refine tt_isubN (q := 87) dX12_puts_86 l9 rfl ?_
        refine sti_7 (q := 89) dX12_puts_87 rfl rfl ?_
        refine inc_8 (q := 92) dX12_puts_89 (nI_inc1 _) rfl rfl ?_
        refine tt_goto (t := 53) dX12_puts_92 rfl ?_
        exact h
      · replace h := h.2 c
        refine tt_iconst (q := 82) dX12_puts_81 ki_1 rfl ?_
        refine tt_goto (t := 86) dX12_puts_82 rfl ?_
        obtain ⟨l10, h⟩ := h
        refine tt_isubN (q := 87) dX12_puts_86 l10 rfl ?_
        refine sti_7 (q := 89) dX12_puts_87 rfl rfl ?_
        refine inc_8 (q := 92) dX12_puts_89 (nI_inc1 _) rfl rfl ?_
        refine tt_goto (t := 53) dX12_puts_92 rfl ?_
        exact h

theorem g_X12_numberOf_0 {post : SG → Int32 → Prop} {σ : SG} {k : Nat} {n : Nat} (hia_k : IA k n) (hk_k : k < AF.1) {fr : Nat} (h : T_X12_numberOf AF post 4 [.ref k, .int (nI fr), .int (nI 0), .int (nI 0), dum, dum] [] σ) : T_X12_numberOf AF post 0 [.ref k, .int (nI fr), dum, dum, dum, dum] [] σ := by
  refine tt_iconst (q := 1) dX12_numberOf_0 ki_0 rfl ?_
  refine sti_n_2 (q := 2) dX12_numberOf_1 rfl rfl rfl ?_
  refine tt_iconst (q := 3) dX12_numberOf_2 ki_0 rfl ?_
  refine sti_n_3 (q := 4) dX12_numberOf_3 rfl rfl rfl ?_
  exact h
theorem g_X12_numberOf_4 {post : SG → Int32 → Prop} {σ : SG} {k : Nat} {n : Nat} (hia_k : IA k n) (hk_k : k < AF.1) {fr : Nat} {v : Nat} {p : Nat} (h : (p < 2 ^ 31 ∧ ((6 ≤ p → post σ (nI v)) ∧ (p < 6 → T_X12_numberOf AF post 18 [.ref k, .int (nI fr), .int (nI v), .int (nI p), .int (nI 0), .int (nI (p + 1))] [] σ)))) : T_X12_numberOf AF post 4 [.ref k, .int (nI fr), .int (nI v), .int (nI p), dum, dum] [] σ := by
  refine tt_iload_n (q := 5) dX12_numberOf_4 rfl rfl ?_
  refine tt_bipush (q := 7) dX12_numberOf_5 bi_6 rfl ?_
  obtain ⟨l2, h⟩ := h
  refine tt_icmp_ge (q := 10) (t := 71) dX12_numberOf_7 rfl rfl (fun c => ?_) (fun c => ?_)
  · replace h := h.1 ((nI_leI (by decide) l2).1 c)
    refine tt_iload_n (q := 72) dX12_numberOf_71 rfl rfl ?_
    exact tt_iret dX12_numberOf_72 ⟨rfl, _, rfl, h⟩
  · replace h := h.2 (Nat.lt_of_not_le (fun z => c ((nI_leI (by decide) l2).2 z)))
    refine tt_iconst (q := 11) dX12_numberOf_10 ki_0 rfl ?_
    refine sti_4 (q := 13) dX12_numberOf_11 rfl rfl ?_
    refine tt_iload_n (q := 14) dX12_numberOf_13 rfl rfl ?_
    refine tt_iconst (q := 15) dX12_numberOf_14 ki_1 rfl ?_
    refine tt_iaddN (q := 16) dX12_numberOf_15 rfl ?_
    refine sti_5 (q := 18) dX12_numberOf_16 rfl rfl ?_
    exact h
theorem g_X12_numberOf_18 {post : SG → Int32 → Prop} {σ : SG} {k : Nat} {n : Nat} (hia_k : IA k n) (hk_k : k < AF.1) {fr : Nat} {v : Nat} {p : Nat} {le : Nat} {q : Nat} (h : (q < 2 ^ 31 ∧ ((6 ≤ q → (p ≤ 6 ∧ T_X12_numberOf AF post 4 [.ref k, .int (nI fr), .int (nI (v * (6 - p) + le)), .int (nI (p + 1)), dum, dum] [] σ)) ∧ (q < 6 → (fr + q < n ∧ (fr + p < n ∧ (((σ k (fr + p)) ≤ (σ k (fr + q)) → T_X12_numberOf AF post 18 [.ref k, .int (nI fr), .int (nI v), .int (nI p), .int (nI (le + 0)), .int (nI (q + 1))] [] σ) ∧ (¬ (σ k (fr + p)) ≤ (σ k (fr + q)) → T_X12_numberOf AF post 18 [.ref k, .int (nI fr), .int (nI v), .int (nI p), .int (nI (le + 1)), .int (nI (q + 1))] [] σ)))))))) : T_X12_numberOf AF post 18 [.ref k, .int (nI fr), .int (nI v), .int (nI p), .int (nI le), .int (nI q)] [] σ := by
  refine tt_iload (q := 20) dX12_numberOf_18 rfl rfl ?_
  refine tt_bipush (q := 22) dX12_numberOf_20 bi_6 rfl ?_
  obtain ⟨l2, h⟩ := h
  refine tt_icmp_ge (q := 25) (t := 55) dX12_numberOf_22 rfl rfl (fun c => ?_) (fun c => ?_)
  · replace h := h.1 ((nI_leI (by decide) l2).1 c)
    refine tt_iload_n (q := 56) dX12_numberOf_55 rfl rfl ?_
    refine tt_bipush (q := 58) dX12_numberOf_56 bi_6 rfl ?_
    refine tt_iload_n (q := 59) dX12_numberOf_58 rfl rfl ?_
    obtain ⟨l3, h⟩ := h
    refine tt_isubN (q := 60) dX12_numberOf_59 l3 rfl ?_
    refine tt_imulN (q := 61) dX12_numberOf_60 rfl ?_
    refine tt_iload (q := 63) dX12_numberOf_61 rfl rfl ?_
    refine tt_iaddN (q := 64) dX12_numberOf_63 rfl ?_
    refine sti_n_2 (q := 65) dX12_numberOf_64 rfl rfl rfl ?_
    refine inc_3 (q := 68) dX12_numberOf_65 (nI_inc1 _) rfl rfl ?_
    refine tt_goto (t := 4) dX12_numberOf_68 rfl ?_
    refine tt_wk (L2 := [_, _, _, _, dum, dum]) ⟨Or.inl rfl, Or.inl rfl, Or.inl rfl, Or.inl rfl, Or.inr rfl, Or.inr rfl, trivial⟩ ?_
    exact h
  · replace h := h.2 (Nat.lt_of_not_le (fun z => c ((nI_leI (by decide) l2).2 z)))
    refine tt_iload (q := 27) dX12_numberOf_25 rfl rfl ?_
    refine tt_aload_n (q := 28) dX12_numberOf_27 rfl rfl ?_
    refine tt_iload_n (q := 29) dX12_numberOf_28 rfl rfl ?_
    refine tt_iload (q := 31) dX12_numberOf_29 rfl rfl ?_
    refine tt_iaddN (q := 32) dX12_numberOf_31 rfl ?_
    obtain ⟨l4, h⟩ := h
    refine tt_iald (q := 33) dX12_numberOf_32 hia_k hk_k rfl l4 rfl ?_
    refine tt_aload_n (q := 34) dX12_numberOf_33 rfl rfl ?_
    refine tt_iload_n (q := 35) dX12_numberOf_34 rfl rfl ?_
    refine tt_iload_n (q := 36) dX12_numberOf_35 rfl rfl ?_
    refine tt_iaddN (q := 37) dX12_numberOf_36 rfl ?_
    obtain ⟨l5, h⟩ := h
    refine tt_iald (q := 38) dX12_numberOf_37 hia_k hk_k rfl l5 rfl ?_
    refine tt_icmp_ge (q := 41) (t := 45) dX12_numberOf_38 rfl rfl (fun c => ?_) (fun c => ?_)
    · replace h := h.1 c
      refine tt_iconst (q := 46) dX12_numberOf_45 ki_0 rfl ?_
      refine tt_iaddN (q := 47) dX12_numberOf_46 rfl ?_
      refine sti_4 (q := 49) dX12_numberOf_47 rfl rfl ?_
      refine inc_5 (q := 52) dX12_numberOf_49 (nI_inc1 _) rfl rfl ?_
      refine tt_goto (t := 18) dX12_numberOf_52 rfl ?_
      exact h
    · replace h := h.2 c
      refine tt_iconst (q := 42) dX12_numberOf_41 ki_1 rfl ?_
      refine tt_goto (t := 46) dX12_numberOf_42 rfl ?_
      refine tt_iaddN (q := 47) dX12_numberOf_46 rfl ?_
      refine sti_4 (q := 49) dX12_numberOf_47 rfl rfl ?_
      refine inc_5 (q := 52) dX12_numberOf_49 (nI_inc1 _) rfl rfl ?_
      refine tt_goto (t := 18) dX12_numberOf_52 rfl ?_
      exact h

theorem g_X12_put_0 {post : SG → Int32 → Prop} {σ : SG} {a : Int32} (h : (((nI 0) ≤ a → ((a ≤ (nI 719) → (∃ p7 : SG → Int32 → Prop, IN_X12_puts AF σ [.ref 104, .int (nI 5), .int a] p7 ∧ ∀ t6 : SG, p7 t6 0 → ((¬ a = 0 → post t6 (nI 0)) ∧ (a = 0 → post t6 (nI 1))))) ∧ (¬ a ≤ (nI 719) → (∀ s13 : SG, s13 = up σ 103 6 ((σ 103 6) + (nI 1)) → post s13 (-6 : Int32))))) ∧ (¬ (nI 0) ≤ a → (∀ s16 : SG, s16 = up σ 103 4 ((σ 103 4) + (nI 1)) → post s16 (-4 : Int32))))) : T_X12_put AF post 0 [.ref 102, .int a, dum] [] σ := by
  refine tt_iload_n (q := 1) dX12_put_0 rfl rfl ?_
  refine tt_iconst (q := 2) dX12_put_1 ki_0 rfl ?_
  refine tt_sipush (q := 5) dX12_put_2 si_719 rfl ?_
  refine callSi_3 (q := 8) dX12_put_5 (Or.inl ⟨rfl, rfl, ⟨rfl, Nat.le_of_ble_eq_true rfl, ?_⟩⟩) (Nat.le_of_ble_eq_true rfl) rfl (fun t2 r1 ht2 => ht2)
  refine (show TT cX12_within RX12 false CT0 CN0 _ _ _ none 0 [_, _, _] [] _ _ from ?_)
  refine tt_iload_n (q := 1) dX12_within_0 rfl rfl ?_
  refine tt_iload_n (q := 2) dX12_within_1 rfl rfl ?_
  refine tt_icmp_ge (q := 5) (t := 10) dX12_within_2 rfl rfl (fun c => ?_) (fun c => ?_)
  · replace h := h.1 c
    refine tt_iload_n (q := 11) dX12_within_10 rfl rfl ?_
    refine tt_iload_n (q := 12) dX12_within_11 rfl rfl ?_
    refine tt_icmp_le (q := 15) (t := 20) dX12_within_12 rfl rfl (fun c => ?_) (fun c => ?_)
    · replace h := h.1 c
      refine tt_iconst (q := 21) dX12_within_20 ki_0 rfl ?_
      refine tt_iret dX12_within_21 ⟨rfl, _, rfl, ?_⟩
      refine sti_n_2 (q := 9) dX12_put_8 rfl rfl rfl ?_
      refine tt_iload_n (q := 10) dX12_put_9 rfl rfl ?_
      refine tt_if_eq (q := 13) (t := 19) dX12_put_10 rfl rfl (fun c => ?_) (fun c => absurd c (by decide))
      clear c
      refine tt_aload_n (q := 20) dX12_put_19 rfl rfl ?_
      refine tt_getR (q := 23) dX12_put_20 fl_X12_13 or_102_1 (Nat.le_of_ble_eq_true rfl) rfl rfl ?_
      refine tt_iconst (q := 24) dX12_put_23 ki_5 rfl ?_
      refine tt_iload_n (q := 25) dX12_put_24 rfl rfl ?_
      obtain ⟨p7, hp8, h⟩ := h
      refine callSv_3 (q := 28) dX12_put_25 (Or.inr (Or.inr (⟨rfl, rfl, hp8⟩))) (Nat.le_of_ble_eq_true rfl) rfl (fun t6 hr9 => ?_)
      replace h := h t6 hr9
      refine tt_iload_n (q := 29) dX12_put_28 rfl rfl ?_
      refine tt_if_ne (q := 32) (t := 36) dX12_put_29 rfl rfl (fun c => ?_) (fun c => ?_)
      · replace h := h.1 c
        refine tt_iconst (q := 37) dX12_put_36 ki_0 rfl ?_
        exact tt_iret dX12_put_37 ⟨rfl, _, rfl, h⟩
      · replace h := h.2 c
        refine tt_iconst (q := 33) dX12_put_32 ki_1 rfl ?_
        refine tt_goto (t := 37) dX12_put_33 rfl ?_
        exact tt_iret dX12_put_37 ⟨rfl, _, rfl, h⟩
    · replace h := h.2 c
      refine tt_bipush (q := 17) dX12_within_15 bi_m6 rfl ?_
      refine tt_goto (t := 21) dX12_within_17 rfl ?_
      refine tt_iret dX12_within_21 ⟨rfl, _, rfl, ?_⟩
      refine sti_n_2 (q := 9) dX12_put_8 rfl rfl rfl ?_
      refine tt_iload_n (q := 10) dX12_put_9 rfl rfl ?_
      refine tt_if_eq (q := 13) (t := 19) dX12_put_10 rfl rfl (fun c => absurd c (by decide)) (fun c => ?_)
      clear c
      refine tt_aload_n (q := 14) dX12_put_13 rfl rfl ?_
      refine tt_iload_n (q := 15) dX12_put_14 rfl rfl ?_
      refine callVi_1 (q := 18) dX12_put_15 (Or.inr (Or.inl ⟨rfl, rfl, ⟨⟨_, _, rfl, rfl, (Nat.le_of_ble_eq_true rfl), rc_102⟩, Nat.le_of_ble_eq_true rfl, ?_⟩⟩)) (Nat.le_of_ble_eq_true rfl) rfl (fun t12 r11 ht12 => ht12)
      refine (show TT cX12_refuse RX12 false CT0 CN0 _ _ _ none 0 [_, _] [] _ _ from ?_)
      refine tt_aload_n (q := 1) dX12_refuse_0 rfl rfl ?_
      refine tt_getR (q := 4) dX12_refuse_1 fl_X12_7 or_102_0 (Nat.le_of_ble_eq_true rfl) rfl rfl ?_
      refine tt_iload_n (q := 5) dX12_refuse_4 rfl rfl ?_
      refine tt_inegE (v := nI 6) (q := 6) dX12_refuse_5 (by decide) rfl ?_
      refine tt_dup2 (q := 7) dX12_refuse_6 rfl rfl rfl ?_
      refine tt_iald (q := 8) dX12_refuse_7 ia_103 (Nat.le_of_ble_eq_true rfl) rfl (Nat.le_of_ble_eq_true rfl : 6 < 7) rfl ?_
      refine tt_iconst (q := 9) dX12_refuse_8 ki_1 rfl ?_
      refine tt_iadd (q := 10) dX12_refuse_9 rfl ?_
      refine tt_iast (q := 11) dX12_refuse_10 ia_103 (Nat.le_of_ble_eq_true rfl) rfl (Nat.le_of_ble_eq_true rfl : 6 < 7) rfl ?_
      replace h := h _ rfl
      refine tt_iload_n (q := 12) dX12_refuse_11 rfl rfl ?_
      refine tt_iret dX12_refuse_12 ⟨rfl, _, rfl, ?_⟩
      exact tt_iret dX12_put_18 ⟨rfl, _, rfl, h⟩
  · replace h := h.2 c
    refine tt_bipush (q := 7) dX12_within_5 bi_m4 rfl ?_
    refine tt_goto (t := 21) dX12_within_7 rfl ?_
    refine tt_iret dX12_within_21 ⟨rfl, _, rfl, ?_⟩
    refine sti_n_2 (q := 9) dX12_put_8 rfl rfl rfl ?_
    refine tt_iload_n (q := 10) dX12_put_9 rfl rfl ?_
    refine tt_if_eq (q := 13) (t := 19) dX12_put_10 rfl rfl (fun c => absurd c (by decide)) (fun c => ?_)
    clear c
    refine tt_aload_n (q := 14) dX12_put_13 rfl rfl ?_
    refine tt_iload_n (q := 15) dX12_put_14 rfl rfl ?_
    refine callVi_1 (q := 18) dX12_put_15 (Or.inr (Or.inl ⟨rfl, rfl, ⟨⟨_, _, rfl, rfl, (Nat.le_of_ble_eq_true rfl), rc_102⟩, Nat.le_of_ble_eq_true rfl, ?_⟩⟩)) (Nat.le_of_ble_eq_true rfl) rfl (fun t15 r14 ht15 => ht15)
    refine (show TT cX12_refuse RX12 false CT0 CN0 _ _ _ none 0 [_, _] [] _ _ from ?_)
    refine tt_aload_n (q := 1) dX12_refuse_0 rfl rfl ?_
    refine tt_getR (q := 4) dX12_refuse_1 fl_X12_7 or_102_0 (Nat.le_of_ble_eq_true rfl) rfl rfl ?_
    refine tt_iload_n (q := 5) dX12_refuse_4 rfl rfl ?_
    refine tt_inegE (v := nI 4) (q := 6) dX12_refuse_5 (by decide) rfl ?_
    refine tt_dup2 (q := 7) dX12_refuse_6 rfl rfl rfl ?_
    refine tt_iald (q := 8) dX12_refuse_7 ia_103 (Nat.le_of_ble_eq_true rfl) rfl (Nat.le_of_ble_eq_true rfl : 4 < 7) rfl ?_
    refine tt_iconst (q := 9) dX12_refuse_8 ki_1 rfl ?_
    refine tt_iadd (q := 10) dX12_refuse_9 rfl ?_
    refine tt_iast (q := 11) dX12_refuse_10 ia_103 (Nat.le_of_ble_eq_true rfl) rfl (Nat.le_of_ble_eq_true rfl : 4 < 7) rfl ?_
    replace h := h _ rfl
    refine tt_iload_n (q := 12) dX12_refuse_11 rfl rfl ?_
    refine tt_iret dX12_refuse_12 ⟨rfl, _, rfl, ?_⟩
    exact tt_iret dX12_put_18 ⟨rfl, _, rfl, h⟩

theorem g_X12_time_0 {post : SG → Int32 → Prop} {σ : SG} {a : Int32} {b : Int32} {c : Int32} (h : ((a < 0 → (∀ s6 : SG, s6 = up σ 103 1 ((σ 103 1) + (nI 1)) → post s6 (-1 : Int32))) ∧ (¬ a < 0 → (((σ 104 0) ≤ a → (∀ s10 : SG, s10 = up σ 103 1 ((σ 103 1) + (nI 1)) → post s10 (-1 : Int32))) ∧ (¬ (σ 104 0) ≤ a → ((b < 0 → (∀ s16 : SG, s16 = up σ 103 2 ((σ 103 2) + (nI 1)) → post s16 (-2 : Int32))) ∧ (¬ b < 0 → (((nI 2) ≤ b → (∀ s20 : SG, s20 = up σ 103 2 ((σ 103 2) + (nI 1)) → post s20 (-2 : Int32))) ∧ (¬ (nI 2) ≤ b → ((((nI 1) - b) ≤ c → ((c ≤ (nI 99) → ((¬ b = 0 → (∃ j27 : Nat, ((nI 53) + a) = nI j27 ∧ j27 < 197 ∧ (∃ j30 : Nat, ((nI 53) + a) = nI j30 ∧ j30 < 197 ∧ (∀ s32 : SG, s32 = up σ 104 j30 c → post s32 (σ 104 j27))))) ∧ (b = 0 → (∃ j34 : Nat, ((nI 47) + a) = nI j34 ∧ j34 < 197 ∧ (∃ j37 : Nat, ((nI 47) + a) = nI j37 ∧ j37 < 197 ∧ (∀ s39 : SG, s39 = up σ 104 j37 c → post s39 (σ 104 j34))))))) ∧ (¬ c ≤ (nI 99) → (∀ s42 : SG, s42 = up σ 103 6 ((σ 103 6) + (nI 1)) → post s42 (-6 : Int32))))) ∧ (¬ ((nI 1) - b) ≤ c → (∀ s45 : SG, s45 = up σ 103 4 ((σ 103 4) + (nI 1)) → post s45 (-4 : Int32))))))))))))) : T_X12_time AF post 0 [.ref 102, .int a, .int b, .int c, dum, dum, dum] [] σ := by
  refine tt_iload_n (q := 1) dX12_time_0 rfl rfl ?_
  refine tt_aload_n (q := 2) dX12_time_1 rfl rfl ?_
  refine tt_getR (q := 5) dX12_time_2 fl_X12_13 or_102_1 (Nat.le_of_ble_eq_true rfl) rfl rfl ?_
  refine tt_iconst (q := 6) dX12_time_5 ki_0 rfl ?_
  refine tt_iald (q := 7) dX12_time_6 ia_104 (Nat.le_of_ble_eq_true rfl) rfl (Nat.le_of_ble_eq_true rfl : 0 < 197) rfl ?_
  refine callSi_2 (q := 10) dX12_time_7 (Or.inl ⟨rfl, rfl, ⟨rfl, Nat.le_of_ble_eq_true rfl, ?_⟩⟩) (Nat.le_of_ble_eq_true rfl) rfl (fun t2 r1 ht2 => ht2)
  refine (show TT cX12_isIn RX12 false CT0 CN0 _ _ _ none 0 [_, _] [] _ _ from ?_)
  refine tt_iload_n (q := 1) dX12_isIn_0 rfl rfl ?_
  refine tt_if_lt (q := 4) (t := 13) dX12_isIn_1 rfl rfl (fun c => ?_) (fun c => ?_)
  · replace h := h.1 c
    refine tt_iconst (q := 14) dX12_isIn_13 ki_0 rfl ?_
    refine tt_iret dX12_isIn_14 ⟨rfl, _, rfl, Or.inl nI_0, ?_⟩
    refine tt_if_ne (q := 13) (t := 19) dX12_time_10 rfl rfl (fun c => absurd c (by decide)) (fun c => ?_)
    clear c
    refine tt_aload_n (q := 14) dX12_time_13 rfl rfl ?_
    refine tt_iconst (q := 15) dX12_time_14 ki_m1 rfl ?_
    refine callVi_1 (q := 18) dX12_time_15 (Or.inr (Or.inl ⟨rfl, rfl, ⟨⟨_, _, rfl, rfl, (Nat.le_of_ble_eq_true rfl), rc_102⟩, Nat.le_of_ble_eq_true rfl, ?_⟩⟩)) (Nat.le_of_ble_eq_true rfl) rfl (fun t5 r4 ht5 => ht5)
    refine (show TT cX12_refuse RX12 false CT0 CN0 _ _ _ none 0 [_, _] [] _ _ from ?_)
    refine tt_aload_n (q := 1) dX12_refuse_0 rfl rfl ?_
    refine tt_getR (q := 4) dX12_refuse_1 fl_X12_7 or_102_0 (Nat.le_of_ble_eq_true rfl) rfl rfl ?_
    refine tt_iload_n (q := 5) dX12_refuse_4 rfl rfl ?_
    refine tt_inegE (v := nI 1) (q := 6) dX12_refuse_5 (by decide) rfl ?_
    refine tt_dup2 (q := 7) dX12_refuse_6 rfl rfl rfl ?_
    refine tt_iald (q := 8) dX12_refuse_7 ia_103 (Nat.le_of_ble_eq_true rfl) rfl (Nat.le_of_ble_eq_true rfl : 1 < 7) rfl ?_
    refine tt_iconst (q := 9) dX12_refuse_8 ki_1 rfl ?_
    refine tt_iadd (q := 10) dX12_refuse_9 rfl ?_
    refine tt_iast (q := 11) dX12_refuse_10 ia_103 (Nat.le_of_ble_eq_true rfl) rfl (Nat.le_of_ble_eq_true rfl : 1 < 7) rfl ?_
    replace h := h _ rfl
    refine tt_iload_n (q := 12) dX12_refuse_11 rfl rfl ?_
    refine tt_iret dX12_refuse_12 ⟨rfl, _, rfl, ?_⟩
    exact tt_iret dX12_time_18 ⟨rfl, _, rfl, h⟩
  · replace h := h.2 c
    refine tt_iload_n (q := 5) dX12_isIn_4 rfl rfl ?_
    refine tt_iload_n (q := 6) dX12_isIn_5 rfl rfl ?_
    refine tt_icmp_ge (q := 9) (t := 13) dX12_isIn_6 rfl rfl (fun c => ?_) (fun c => ?_)
    · replace h := h.1 c
      refine tt_iconst (q := 14) dX12_isIn_13 ki_0 rfl ?_
      refine tt_iret dX12_isIn_14 ⟨rfl, _, rfl, Or.inl nI_0, ?_⟩
      refine tt_if_ne (q := 13) (t := 19) dX12_time_10 rfl rfl (fun c => absurd c (by decide)) (fun c => ?_)
      clear c
      refine tt_aload_n (q := 14) dX12_time_13 rfl rfl ?_
      refine tt_iconst (q := 15) dX12_time_14 ki_m1 rfl ?_
      refine callVi_1 (q := 18) dX12_time_15 (Or.inr (Or.inl ⟨rfl, rfl, ⟨⟨_, _, rfl, rfl, (Nat.le_of_ble_eq_true rfl), rc_102⟩, Nat.le_of_ble_eq_true rfl, ?_⟩⟩)) (Nat.le_of_ble_eq_true rfl) rfl (fun t9 r8 ht9 => ht9)
      refine (show TT cX12_refuse RX12 false CT0 CN0 _ _ _ none 0 [_, _] [] _ _ from ?_)
      refine tt_aload_n (q := 1) dX12_refuse_0 rfl rfl ?_
      refine tt_getR (q := 4) dX12_refuse_1 fl_X12_7 or_102_0 (Nat.le_of_ble_eq_true rfl) rfl rfl ?_
      refine tt_iload_n (q := 5) dX12_refuse_4 rfl rfl ?_
      refine tt_inegE (v := nI 1) (q := 6) dX12_refuse_5 (by decide) rfl ?_
      refine tt_dup2 (q := 7) dX12_refuse_6 rfl rfl rfl ?_
      refine tt_iald (q := 8) dX12_refuse_7 ia_103 (Nat.le_of_ble_eq_true rfl) rfl (Nat.le_of_ble_eq_true rfl : 1 < 7) rfl ?_
      refine tt_iconst (q := 9) dX12_refuse_8 ki_1 rfl ?_
      refine tt_iadd (q := 10) dX12_refuse_9 rfl ?_
      refine tt_iast (q := 11) dX12_refuse_10 ia_103 (Nat.le_of_ble_eq_true rfl) rfl (Nat.le_of_ble_eq_true rfl : 1 < 7) rfl ?_
      replace h := h _ rfl
      refine tt_iload_n (q := 12) dX12_refuse_11 rfl rfl ?_
      refine tt_iret dX12_refuse_12 ⟨rfl, _, rfl, ?_⟩
      exact tt_iret dX12_time_18 ⟨rfl, _, rfl, h⟩
    · replace h := h.2 c
      refine tt_iconst (q := 10) dX12_isIn_9 ki_1 rfl ?_
      refine tt_goto (t := 14) dX12_isIn_10 rfl ?_
      refine tt_iret dX12_isIn_14 ⟨rfl, _, rfl, Or.inr rfl, ?_⟩
      refine tt_if_ne (q := 13) (t := 19) dX12_time_10 rfl rfl (fun c => ?_) (fun c => absurd c (by decide))
      clear c
      refine tt_iload_n (q := 20) dX12_time_19 rfl rfl ?_
      refine tt_iconst (q := 21) dX12_time_20 ki_2 rfl ?_
      refine callSi_2 (q := 24) dX12_time_21 (Or.inl ⟨rfl, rfl, ⟨rfl, Nat.le_of_ble_eq_true rfl, ?_⟩⟩) (Nat.le_of_ble_eq_true rfl) rfl (fun t12 r11 ht12 => ht12)
      refine (show TT cX12_isIn RX12 false CT0 CN0 _ _ _ none 0 [_, _] [] _ _ from ?_)
      refine tt_iload_n (q := 1) dX12_isIn_0 rfl rfl ?_
      refine tt_if_lt (q := 4) (t := 13) dX12_isIn_1 rfl rfl (fun c => ?_) (fun c => ?_)
      · replace h := h.1 c
        refine tt_iconst (q := 14) dX12_isIn_13 ki_0 rfl ?_
        refine tt_iret dX12_isIn_14 ⟨rfl, _, rfl, Or.inl nI_0, ?_⟩
        refine tt_if_ne (q := 27) (t := 34) dX12_time_24 rfl rfl (fun c => absurd c (by decide)) (fun c => ?_)
        clear c
        refine tt_aload_n (q := 28) dX12_time_27 rfl rfl ?_
        refine tt_bipush (q := 30) dX12_time_28 bi_m2 rfl ?_
        refine callVi_1 (q := 33) dX12_time_30 (Or.inr (Or.inl ⟨rfl, rfl, ⟨⟨_, _, rfl, rfl, (Nat.le_of_ble_eq_true rfl), rc_102⟩, Nat.le_of_ble_eq_true rfl, ?_⟩⟩)) (Nat.le_of_ble_eq_true rfl) rfl (fun t15 r14 ht15 => ht15)
        refine (show TT cX12_refuse RX12 false CT0 CN0 _ _ _ none 0 [_, _] [] _ _ from ?_)
        refine tt_aload_n (q := 1) dX12_refuse_0 rfl rfl ?_
        refine tt_getR (q := 4) dX12_refuse_1 fl_X12_7 or_102_0 (Nat.le_of_ble_eq_true rfl) rfl rfl ?_
        refine tt_iload_n (q := 5) dX12_refuse_4 rfl rfl ?_
        refine tt_inegE (v := nI 2) (q := 6) dX12_refuse_5 (by decide) rfl ?_
        refine tt_dup2 (q := 7) dX12_refuse_6 rfl rfl rfl ?_
        refine tt_iald (q := 8) dX12_refuse_7 ia_103 (Nat.le_of_ble_eq_true rfl) rfl (Nat.le_of_ble_eq_true rfl : 2 < 7) rfl ?_
        refine tt_iconst (q := 9) dX12_refuse_8 ki_1 rfl ?_
        refine tt_iadd (q := 10) dX12_refuse_9 rfl ?_
        refine tt_iast (q := 11) dX12_refuse_10 ia_103 (Nat.le_of_ble_eq_true rfl) rfl (Nat.le_of_ble_eq_true rfl : 2 < 7) rfl ?_
        replace h := h _ rfl
        refine tt_iload_n (q := 12) dX12_refuse_11 rfl rfl ?_
        refine tt_iret dX12_refuse_12 ⟨rfl, _, rfl, ?_⟩
        exact tt_iret dX12_time_33 ⟨rfl, _, rfl, h⟩
      · replace h := h.2 c
        refine tt_iload_n (q := 5) dX12_isIn_4 rfl rfl ?_
        refine tt_iload_n (q := 6) dX12_isIn_5 rfl rfl ?_
        refine tt_icmp_ge (q := 9) (t := 13) dX12_isIn_6 rfl rfl (fun c => ?_) (fun c => ?_)
        · replace h := h.1 c
          refine tt_iconst (q := 14) dX12_isIn_13 ki_0 rfl ?_
          refine tt_iret dX12_isIn_14 ⟨rfl, _, rfl, Or.inl nI_0, ?_⟩
          refine tt_if_ne (q := 27) (t := 34) dX12_time_24 rfl rfl (fun c => absurd c (by decide)) (fun c => ?_)
          clear c
          refine tt_aload_n (q := 28) dX12_time_27 rfl rfl ?_
          refine tt_bipush (q := 30) dX12_time_28 bi_m2 rfl ?_
          refine callVi_1 (q := 33) dX12_time_30 (Or.inr (Or.inl ⟨rfl, rfl, ⟨⟨_, _, rfl, rfl, (Nat.le_of_ble_eq_true rfl), rc_102⟩, Nat.le_of_ble_eq_true rfl, ?_⟩⟩)) (Nat.le_of_ble_eq_true rfl) rfl (fun t19 r18 ht19 => ht19)
          refine (show TT cX12_refuse RX12 false CT0 CN0 _ _ _ none 0 [_, _] [] _ _ from ?_)
          refine tt_aload_n (q := 1) dX12_refuse_0 rfl rfl ?_
          refine tt_getR (q := 4) dX12_refuse_1 fl_X12_7 or_102_0 (Nat.le_of_ble_eq_true rfl) rfl rfl ?_
          refine tt_iload_n (q := 5) dX12_refuse_4 rfl rfl ?_
          refine tt_inegE (v := nI 2) (q := 6) dX12_refuse_5 (by decide) rfl ?_
          refine tt_dup2 (q := 7) dX12_refuse_6 rfl rfl rfl ?_
          refine tt_iald (q := 8) dX12_refuse_7 ia_103 (Nat.le_of_ble_eq_true rfl) rfl (Nat.le_of_ble_eq_true rfl : 2 < 7) rfl ?_
          refine tt_iconst (q := 9) dX12_refuse_8 ki_1 rfl ?_
          refine tt_iadd (q := 10) dX12_refuse_9 rfl ?_
          refine tt_iast (q := 11) dX12_refuse_10 ia_103 (Nat.le_of_ble_eq_true rfl) rfl (Nat.le_of_ble_eq_true rfl : 2 < 7) rfl ?_
          replace h := h _ rfl
          refine tt_iload_n (q := 12) dX12_refuse_11 rfl rfl ?_
          refine tt_iret dX12_refuse_12 ⟨rfl, _, rfl, ?_⟩
          exact tt_iret dX12_time_33 ⟨rfl, _, rfl, h⟩
        · replace h := h.2 c
          refine tt_iconst (q := 10) dX12_isIn_9 ki_1 rfl ?_
          refine tt_goto (t := 14) dX12_isIn_10 rfl ?_
          refine tt_iret dX12_isIn_14 ⟨rfl, _, rfl, Or.inr rfl, ?_⟩
          refine tt_if_ne (q := 27) (t := 34) dX12_time_24 rfl rfl (fun c => ?_) (fun c => absurd c (by decide))
          clear c
          refine tt_iload_n (q := 35) dX12_time_34 rfl rfl ?_
          refine tt_iconst (q := 36) dX12_time_35 ki_1 rfl ?_
          refine tt_iload_n (q := 37) dX12_time_36 rfl rfl ?_
          refine tt_isub (q := 38) dX12_time_37 rfl ?_
          refine tt_bipush (q := 40) dX12_time_38 bi_99 rfl ?_
          refine callSi_3 (q := 43) dX12_time_40 (Or.inr (Or.inr (⟨rfl, rfl, ⟨rfl, Nat.le_of_ble_eq_true rfl, ?_⟩⟩))) (Nat.le_of_ble_eq_true rfl) rfl (fun t22 r21 ht22 => ht22)
          refine (show TT cX12_within RX12 false CT0 CN0 _ _ _ none 0 [_, _, _] [] _ _ from ?_)
          refine tt_iload_n (q := 1) dX12_within_0 rfl rfl ?_
          refine tt_iload_n (q := 2) dX12_within_1 rfl rfl ?_
          refine tt_icmp_ge (q := 5) (t := 10) dX12_within_2 rfl rfl (fun c => ?_) (fun c => ?_)
          · replace h := h.1 c
            refine tt_iload_n (q := 11) dX12_within_10 rfl rfl ?_
            refine tt_iload_n (q := 12) dX12_within_11 rfl rfl ?_
            refine tt_icmp_le (q := 15) (t := 20) dX12_within_12 rfl rfl (fun c => ?_) (fun c => ?_)
            · replace h := h.1 c
              refine tt_iconst (q := 21) dX12_within_20 ki_0 rfl ?_
              refine tt_iret dX12_within_21 ⟨rfl, _, rfl, ?_⟩
              refine sti_4 (q := 45) dX12_time_43 rfl rfl ?_
              refine tt_iload (q := 47) dX12_time_45 rfl rfl ?_
              refine tt_if_eq (q := 50) (t := 57) dX12_time_47 rfl rfl (fun c => ?_) (fun c => absurd c (by decide))
              clear c
              refine tt_iload_n (q := 58) dX12_time_57 rfl rfl ?_
              refine tt_if_ne (q := 61) (t := 66) dX12_time_58 rfl rfl (fun c => ?_) (fun c => ?_)
              · replace h := h.1 c
                refine tt_bipush (q := 68) dX12_time_66 bi_53 rfl ?_
                refine tt_iload_n (q := 69) dX12_time_68 rfl rfl ?_
                refine tt_iadd (q := 70) dX12_time_69 rfl ?_
                refine sti_5 (q := 72) dX12_time_70 rfl rfl ?_
                refine tt_aload_n (q := 73) dX12_time_72 rfl rfl ?_
                refine tt_getR (q := 76) dX12_time_73 fl_X12_13 or_102_1 (Nat.le_of_ble_eq_true rfl) rfl rfl ?_
                refine tt_iload (q := 78) dX12_time_76 rfl rfl ?_
                obtain ⟨j27, e28, l26, h⟩ := h
                refine tt_iald (q := 79) dX12_time_78 ia_104 (Nat.le_of_ble_eq_true rfl) e28 l26 rfl ?_
                refine sti_6 (q := 81) dX12_time_79 rfl rfl ?_
                refine tt_aload_n (q := 82) dX12_time_81 rfl rfl ?_
                refine tt_getR (q := 85) dX12_time_82 fl_X12_13 or_102_1 (Nat.le_of_ble_eq_true rfl) rfl rfl ?_
                refine tt_iload (q := 87) dX12_time_85 rfl rfl ?_
                refine tt_iload_n (q := 88) dX12_time_87 rfl rfl ?_
                obtain ⟨j30, e31, l29, h⟩ := h
                refine tt_iast (q := 89) dX12_time_88 ia_104 (Nat.le_of_ble_eq_true rfl) e31 l29 rfl ?_
                replace h := h _ rfl
                refine tt_iload (q := 91) dX12_time_89 rfl rfl ?_
                exact tt_iret dX12_time_91 ⟨rfl, _, rfl, h⟩
              · replace h := h.2 c
                refine tt_bipush (q := 63) dX12_time_61 bi_47 rfl ?_
                refine tt_goto (t := 68) dX12_time_63 rfl ?_
                refine tt_iload_n (q := 69) dX12_time_68 rfl rfl ?_
                refine tt_iadd (q := 70) dX12_time_69 rfl ?_
                refine sti_5 (q := 72) dX12_time_70 rfl rfl ?_
                refine tt_aload_n (q := 73) dX12_time_72 rfl rfl ?_
                refine tt_getR (q := 76) dX12_time_73 fl_X12_13 or_102_1 (Nat.le_of_ble_eq_true rfl) rfl rfl ?_
                refine tt_iload (q := 78) dX12_time_76 rfl rfl ?_
                obtain ⟨j34, e35, l33, h⟩ := h
                refine tt_iald (q := 79) dX12_time_78 ia_104 (Nat.le_of_ble_eq_true rfl) e35 l33 rfl ?_
                refine sti_6 (q := 81) dX12_time_79 rfl rfl ?_
                refine tt_aload_n (q := 82) dX12_time_81 rfl rfl ?_
                refine tt_getR (q := 85) dX12_time_82 fl_X12_13 or_102_1 (Nat.le_of_ble_eq_true rfl) rfl rfl ?_
                refine tt_iload (q := 87) dX12_time_85 rfl rfl ?_
                refine tt_iload_n (q := 88) dX12_time_87 rfl rfl ?_
                obtain ⟨j37, e38, l36, h⟩ := h
                refine tt_iast (q := 89) dX12_time_88 ia_104 (Nat.le_of_ble_eq_true rfl) e38 l36 rfl ?_
                replace h := h _ rfl
                refine tt_iload (q := 91) dX12_time_89 rfl rfl ?_
                exact tt_iret dX12_time_91 ⟨rfl, _, rfl, h⟩
            · replace h := h.2 c
              refine tt_bipush (q := 17) dX12_within_15 bi_m6 rfl ?_
              refine tt_goto (t := 21) dX12_within_17 rfl ?_
              refine tt_iret dX12_within_21 ⟨rfl, _, rfl, ?_⟩
              refine sti_4 (q := 45) dX12_time_43 rfl rfl ?_
              refine tt_iload (q := 47) dX12_time_45 rfl rfl ?_
              refine tt_if_eq (q := 50) (t := 57) dX12_time_47 rfl rfl (fun c => absurd c (by decide)) (fun c => ?_)
              clear c
              refine tt_aload_n (q := 51) dX12_time_50 rfl rfl ?_
              refine tt_iload (q := 53) dX12_time_51 rfl rfl ?_
              refine callVi_1 (q := 56) dX12_time_53 (Or.inr (Or.inl ⟨rfl, rfl, ⟨⟨_, _, rfl, rfl, (Nat.le_of_ble_eq_true rfl), rc_102⟩, Nat.le_of_ble_eq_true rfl, ?_⟩⟩)) (Nat.le_of_ble_eq_true rfl) rfl (fun t41 r40 ht41 => ht41)
              refine (show TT cX12_refuse RX12 false CT0 CN0 _ _ _ none 0 [_, _] [] _ _ from ?_)
              refine tt_aload_n (q := 1) dX12_refuse_0 rfl rfl ?_
              refine tt_getR (q := 4) dX12_refuse_1 fl_X12_7 or_102_0 (Nat.le_of_ble_eq_true rfl) rfl rfl ?_
              refine tt_iload_n (q := 5) dX12_refuse_4 rfl rfl ?_
              refine tt_inegE (v := nI 6) (q := 6) dX12_refuse_5 (by decide) rfl ?_
              refine tt_dup2 (q := 7) dX12_refuse_6 rfl rfl rfl ?_
              refine tt_iald (q := 8) dX12_refuse_7 ia_103 (Nat.le_of_ble_eq_true rfl) rfl (Nat.le_of_ble_eq_true rfl : 6 < 7) rfl ?_
              refine tt_iconst (q := 9) dX12_refuse_8 ki_1 rfl ?_
              refine tt_iadd (q := 10) dX12_refuse_9 rfl ?_
              refine tt_iast (q := 11) dX12_refuse_10 ia_103 (Nat.le_of_ble_eq_true rfl) rfl (Nat.le_of_ble_eq_true rfl : 6 < 7) rfl ?_
              replace h := h _ rfl
              refine tt_iload_n (q := 12) dX12_refuse_11 rfl rfl ?_
              refine tt_iret dX12_refuse_12 ⟨rfl, _, rfl, ?_⟩
              exact tt_iret dX12_time_56 ⟨rfl, _, rfl, h⟩
          · replace h := h.2 c
            refine tt_bipush (q := 7) dX12_within_5 bi_m4 rfl ?_
            refine tt_goto (t := 21) dX12_within_7 rfl ?_
            refine tt_iret dX12_within_21 ⟨rfl, _, rfl, ?_⟩
            refine sti_4 (q := 45) dX12_time_43 rfl rfl ?_
            refine tt_iload (q := 47) dX12_time_45 rfl rfl ?_
            refine tt_if_eq (q := 50) (t := 57) dX12_time_47 rfl rfl (fun c => absurd c (by decide)) (fun c => ?_)
            clear c
            refine tt_aload_n (q := 51) dX12_time_50 rfl rfl ?_
            refine tt_iload (q := 53) dX12_time_51 rfl rfl ?_
            refine callVi_1 (q := 56) dX12_time_53 (Or.inr (Or.inl ⟨rfl, rfl, ⟨⟨_, _, rfl, rfl, (Nat.le_of_ble_eq_true rfl), rc_102⟩, Nat.le_of_ble_eq_true rfl, ?_⟩⟩)) (Nat.le_of_ble_eq_true rfl) rfl (fun t44 r43 ht44 => ht44)
            refine (show TT cX12_refuse RX12 false CT0 CN0 _ _ _ none 0 [_, _] [] _ _ from ?_)
            refine tt_aload_n (q := 1) dX12_refuse_0 rfl rfl ?_
            refine tt_getR (q := 4) dX12_refuse_1 fl_X12_7 or_102_0 (Nat.le_of_ble_eq_true rfl) rfl rfl ?_
            refine tt_iload_n (q := 5) dX12_refuse_4 rfl rfl ?_
            refine tt_inegE (v := nI 4) (q := 6) dX12_refuse_5 (by decide) rfl ?_
            refine tt_dup2 (q := 7) dX12_refuse_6 rfl rfl rfl ?_
            refine tt_iald (q := 8) dX12_refuse_7 ia_103 (Nat.le_of_ble_eq_true rfl) rfl (Nat.le_of_ble_eq_true rfl : 4 < 7) rfl ?_
            refine tt_iconst (q := 9) dX12_refuse_8 ki_1 rfl ?_
            refine tt_iadd (q := 10) dX12_refuse_9 rfl ?_
            refine tt_iast (q := 11) dX12_refuse_10 ia_103 (Nat.le_of_ble_eq_true rfl) rfl (Nat.le_of_ble_eq_true rfl : 4 < 7) rfl ?_
            replace h := h _ rfl
            refine tt_iload_n (q := 12) dX12_refuse_11 rfl rfl ?_
            refine tt_iret dX12_refuse_12 ⟨rfl, _, rfl, ?_⟩
            exact tt_iret dX12_time_56 ⟨rfl, _, rfl, h⟩

theorem g_X12_after_0 {post : SG → Int32 → Prop} {σ : SG} {a : Int32} {b : Int32} {c : Int32} (h : ((a < 0 → (∀ s6 : SG, s6 = up σ 103 1 ((σ 103 1) + (nI 1)) → post s6 (nI 1000000001))) ∧ (¬ a < 0 → (((σ 104 0) ≤ a → (∀ s10 : SG, s10 = up σ 103 1 ((σ 103 1) + (nI 1)) → post s10 (nI 1000000001))) ∧ (¬ (σ 104 0) ≤ a → ((b < 0 → (∀ s16 : SG, s16 = up σ 103 1 ((σ 103 1) + (nI 1)) → post s16 (nI 1000000001))) ∧ (¬ b < 0 → (((σ 104 0) ≤ b → (∀ s20 : SG, s20 = up σ 103 1 ((σ 103 1) + (nI 1)) → post s20 (nI 1000000001))) ∧ (¬ (σ 104 0) ≤ b → (((-9 : Int32) ≤ c → ((c ≤ (nI 99) → (∃ j26 : Nat, (((nI 59) + ((nI 6) * a)) + b) = nI j26 ∧ j26 < 197 ∧ (∃ j29 : Nat, (((nI 59) + ((nI 6) * a)) + b) = nI j29 ∧ j29 < 197 ∧ (∀ s31 : SG, s31 = up σ 104 j29 c → post s31 (σ 104 j26))))) ∧ (¬ c ≤ (nI 99) → (∀ s34 : SG, s34 = up σ 103 6 ((σ 103 6) + (nI 1)) → post s34 (nI 1000000006))))) ∧ (¬ (-9 : Int32) ≤ c → (∀ s37 : SG, s37 = up σ 103 4 ((σ 103 4) + (nI 1)) → post s37 (nI 1000000004))))))))))))) : T_X12_after AF post 0 [.ref 102, .int a, .int b, .int c, dum, dum] [] σ := by
  refine tt_iload_n (q := 1) dX12_after_0 rfl rfl ?_
  refine tt_aload_n (q := 2) dX12_after_1 rfl rfl ?_
  refine tt_getR (q := 5) dX12_after_2 fl_X12_13 or_102_1 (Nat.le_of_ble_eq_true rfl) rfl rfl ?_
  refine tt_iconst (q := 6) dX12_after_5 ki_0 rfl ?_
  refine tt_iald (q := 7) dX12_after_6 ia_104 (Nat.le_of_ble_eq_true rfl) rfl (Nat.le_of_ble_eq_true rfl : 0 < 197) rfl ?_
  refine callSi_2 (q := 10) dX12_after_7 (Or.inl ⟨rfl, rfl, ⟨rfl, Nat.le_of_ble_eq_true rfl, ?_⟩⟩) (Nat.le_of_ble_eq_true rfl) rfl (fun t2 r1 ht2 => ht2)
  refine (show TT cX12_isIn RX12 false CT0 CN0 _ _ _ none 0 [_, _] [] _ _ from ?_)
  refine tt_iload_n (q := 1) dX12_isIn_0 rfl rfl ?_
  refine tt_if_lt (q := 4) (t := 13) dX12_isIn_1 rfl rfl (fun c => ?_) (fun c => ?_)
  · replace h := h.1 c
    refine tt_iconst (q := 14) dX12_isIn_13 ki_0 rfl ?_
    refine tt_iret dX12_isIn_14 ⟨rfl, _, rfl, Or.inl nI_0, ?_⟩
    refine tt_if_eq (q := 13) (t := 37) dX12_after_10 rfl rfl (fun c => ?_) (fun c => absurd c (by decide))
    clear c
    refine tt_iconst (q := 38) dX12_after_37 ki_m1 rfl ?_
    refine sti_4 (q := 40) dX12_after_38 rfl rfl ?_
    refine tt_iload (q := 42) dX12_after_40 rfl rfl ?_
    refine tt_if_eq (q := 45) (t := 55) dX12_after_42 rfl rfl (fun c => absurd c (by decide)) (fun c => ?_)
    clear c
    refine tt_ldc (q := 47) dX12_after_45 lct_X12_136 rfl ?_
    refine tt_aload_n (q := 48) dX12_after_47 rfl rfl ?_
    refine tt_iload (q := 50) dX12_after_48 rfl rfl ?_
    refine callVi_1 (q := 53) dX12_after_50 (Or.inr (Or.inr (⟨rfl, rfl, ⟨⟨_, _, rfl, rfl, (Nat.le_of_ble_eq_true rfl), rc_102⟩, Nat.le_of_ble_eq_true rfl, ?_⟩⟩))) (Nat.le_of_ble_eq_true rfl) rfl (fun t5 r4 ht5 => ht5)
    refine (show TT cX12_refuse RX12 false CT0 CN0 _ _ _ none 0 [_, _] [] _ _ from ?_)
    refine tt_aload_n (q := 1) dX12_refuse_0 rfl rfl ?_
    refine tt_getR (q := 4) dX12_refuse_1 fl_X12_7 or_102_0 (Nat.le_of_ble_eq_true rfl) rfl rfl ?_
    refine tt_iload_n (q := 5) dX12_refuse_4 rfl rfl ?_
    refine tt_inegE (v := nI 1) (q := 6) dX12_refuse_5 (by decide) rfl ?_
    refine tt_dup2 (q := 7) dX12_refuse_6 rfl rfl rfl ?_
    refine tt_iald (q := 8) dX12_refuse_7 ia_103 (Nat.le_of_ble_eq_true rfl) rfl (Nat.le_of_ble_eq_true rfl : 1 < 7) rfl ?_
    refine tt_iconst (q := 9) dX12_refuse_8 ki_1 rfl ?_
    refine tt_iadd (q := 10) dX12_refuse_9 rfl ?_
    refine tt_iast (q := 11) dX12_refuse_10 ia_103 (Nat.le_of_ble_eq_true rfl) rfl (Nat.le_of_ble_eq_true rfl : 1 < 7) rfl ?_
    replace h := h _ rfl
    refine tt_iload_n (q := 12) dX12_refuse_11 rfl rfl ?_
    refine tt_iret dX12_refuse_12 ⟨rfl, _, rfl, ?_⟩
    refine tt_isubE (v := nI 1000000001) (q := 54) dX12_after_53 (by decide) rfl ?_
    exact tt_iret dX12_after_54 ⟨rfl, _, rfl, h⟩
  · replace h := h.2 c
    refine tt_iload_n (q := 5) dX12_isIn_4 rfl rfl ?_
    refine tt_iload_n (q := 6) dX12_isIn_5 rfl rfl ?_
    refine tt_icmp_ge (q := 9) (t := 13) dX12_isIn_6 rfl rfl (fun c => ?_) (fun c => ?_)
    · replace h := h.1 c
      refine tt_iconst (q := 14) dX12_isIn_13 ki_0 rfl ?_
      refine tt_iret dX12_isIn_14 ⟨rfl, _, rfl, Or.inl nI_0, ?_⟩
      refine tt_if_eq (q := 13) (t := 37) dX12_after_10 rfl rfl (fun c => ?_) (fun c => absurd c (by decide))
      clear c
      refine tt_iconst (q := 38) dX12_after_37 ki_m1 rfl ?_
      refine sti_4 (q := 40) dX12_after_38 rfl rfl ?_
      refine tt_iload (q := 42) dX12_after_40 rfl rfl ?_
      refine tt_if_eq (q := 45) (t := 55) dX12_after_42 rfl rfl (fun c => absurd c (by decide)) (fun c => ?_)
      clear c
      refine tt_ldc (q := 47) dX12_after_45 lct_X12_136 rfl ?_
      refine tt_aload_n (q := 48) dX12_after_47 rfl rfl ?_
      refine tt_iload (q := 50) dX12_after_48 rfl rfl ?_
      refine callVi_1 (q := 53) dX12_after_50 (Or.inr (Or.inr (⟨rfl, rfl, ⟨⟨_, _, rfl, rfl, (Nat.le_of_ble_eq_true rfl), rc_102⟩, Nat.le_of_ble_eq_true rfl, ?_⟩⟩))) (Nat.le_of_ble_eq_true rfl) rfl (fun t9 r8 ht9 => ht9)
      refine (show TT cX12_refuse RX12 false CT0 CN0 _ _ _ none 0 [_, _] [] _ _ from ?_)
      refine tt_aload_n (q := 1) dX12_refuse_0 rfl rfl ?_
      refine tt_getR (q := 4) dX12_refuse_1 fl_X12_7 or_102_0 (Nat.le_of_ble_eq_true rfl) rfl rfl ?_
      refine tt_iload_n (q := 5) dX12_refuse_4 rfl rfl ?_
      refine tt_inegE (v := nI 1) (q := 6) dX12_refuse_5 (by decide) rfl ?_
      refine tt_dup2 (q := 7) dX12_refuse_6 rfl rfl rfl ?_
      refine tt_iald (q := 8) dX12_refuse_7 ia_103 (Nat.le_of_ble_eq_true rfl) rfl (Nat.le_of_ble_eq_true rfl : 1 < 7) rfl ?_
      refine tt_iconst (q := 9) dX12_refuse_8 ki_1 rfl ?_
      refine tt_iadd (q := 10) dX12_refuse_9 rfl ?_
      refine tt_iast (q := 11) dX12_refuse_10 ia_103 (Nat.le_of_ble_eq_true rfl) rfl (Nat.le_of_ble_eq_true rfl : 1 < 7) rfl ?_
      replace h := h _ rfl
      refine tt_iload_n (q := 12) dX12_refuse_11 rfl rfl ?_
      refine tt_iret dX12_refuse_12 ⟨rfl, _, rfl, ?_⟩
      refine tt_isubE (v := nI 1000000001) (q := 54) dX12_after_53 (by decide) rfl ?_
      exact tt_iret dX12_after_54 ⟨rfl, _, rfl, h⟩
    · replace h := h.2 c
      refine tt_iconst (q := 10) dX12_isIn_9 ki_1 rfl ?_
      refine tt_goto (t := 14) dX12_isIn_10 rfl ?_
      refine tt_iret dX12_isIn_14 ⟨rfl, _, rfl, Or.inr rfl, ?_⟩
      refine tt_if_eq (q := 13) (t := 37) dX12_after_10 rfl rfl (fun c => absurd c (by decide)) (fun c => ?_)
      clear c
      refine tt_iload_n (q := 14) dX12_after_13 rfl rfl ?_
      refine tt_aload_n (q := 15) dX12_after_14 rfl rfl ?_
      refine tt_getR (q := 18) dX12_after_15 fl_X12_13 or_102_1 (Nat.le_of_ble_eq_true rfl) rfl rfl ?_
      refine tt_iconst (q := 19) dX12_after_18 ki_0 rfl ?_
      refine tt_iald (q := 20) dX12_after_19 ia_104 (Nat.le_of_ble_eq_true rfl) rfl (Nat.le_of_ble_eq_true rfl : 0 < 197) rfl ?_
      refine callSi_2 (q := 23) dX12_after_20 (Or.inl ⟨rfl, rfl, ⟨rfl, Nat.le_of_ble_eq_true rfl, ?_⟩⟩) (Nat.le_of_ble_eq_true rfl) rfl (fun t12 r11 ht12 => ht12)
      refine (show TT cX12_isIn RX12 false CT0 CN0 _ _ _ none 0 [_, _] [] _ _ from ?_)
      refine tt_iload_n (q := 1) dX12_isIn_0 rfl rfl ?_
      refine tt_if_lt (q := 4) (t := 13) dX12_isIn_1 rfl rfl (fun c => ?_) (fun c => ?_)
      · replace h := h.1 c
        refine tt_iconst (q := 14) dX12_isIn_13 ki_0 rfl ?_
        refine tt_iret dX12_isIn_14 ⟨rfl, _, rfl, Or.inl nI_0, ?_⟩
        refine tt_if_eq (q := 26) (t := 37) dX12_after_23 rfl rfl (fun c => ?_) (fun c => absurd c (by decide))
        clear c
        refine tt_iconst (q := 38) dX12_after_37 ki_m1 rfl ?_
        refine sti_4 (q := 40) dX12_after_38 rfl rfl ?_
        refine tt_iload (q := 42) dX12_after_40 rfl rfl ?_
        refine tt_if_eq (q := 45) (t := 55) dX12_after_42 rfl rfl (fun c => absurd c (by decide)) (fun c => ?_)
        clear c
        refine tt_ldc (q := 47) dX12_after_45 lct_X12_136 rfl ?_
        refine tt_aload_n (q := 48) dX12_after_47 rfl rfl ?_
        refine tt_iload (q := 50) dX12_after_48 rfl rfl ?_
        refine callVi_1 (q := 53) dX12_after_50 (Or.inr (Or.inr (⟨rfl, rfl, ⟨⟨_, _, rfl, rfl, (Nat.le_of_ble_eq_true rfl), rc_102⟩, Nat.le_of_ble_eq_true rfl, ?_⟩⟩))) (Nat.le_of_ble_eq_true rfl) rfl (fun t15 r14 ht15 => ht15)
        refine (show TT cX12_refuse RX12 false CT0 CN0 _ _ _ none 0 [_, _] [] _ _ from ?_)
        refine tt_aload_n (q := 1) dX12_refuse_0 rfl rfl ?_
        refine tt_getR (q := 4) dX12_refuse_1 fl_X12_7 or_102_0 (Nat.le_of_ble_eq_true rfl) rfl rfl ?_
        refine tt_iload_n (q := 5) dX12_refuse_4 rfl rfl ?_
        refine tt_inegE (v := nI 1) (q := 6) dX12_refuse_5 (by decide) rfl ?_
        refine tt_dup2 (q := 7) dX12_refuse_6 rfl rfl rfl ?_
        refine tt_iald (q := 8) dX12_refuse_7 ia_103 (Nat.le_of_ble_eq_true rfl) rfl (Nat.le_of_ble_eq_true rfl : 1 < 7) rfl ?_
        refine tt_iconst (q := 9) dX12_refuse_8 ki_1 rfl ?_
        refine tt_iadd (q := 10) dX12_refuse_9 rfl ?_
        refine tt_iast (q := 11) dX12_refuse_10 ia_103 (Nat.le_of_ble_eq_true rfl) rfl (Nat.le_of_ble_eq_true rfl : 1 < 7) rfl ?_
        replace h := h _ rfl
        refine tt_iload_n (q := 12) dX12_refuse_11 rfl rfl ?_
        refine tt_iret dX12_refuse_12 ⟨rfl, _, rfl, ?_⟩
        refine tt_isubE (v := nI 1000000001) (q := 54) dX12_after_53 (by decide) rfl ?_
        exact tt_iret dX12_after_54 ⟨rfl, _, rfl, h⟩
      · replace h := h.2 c
        refine tt_iload_n (q := 5) dX12_isIn_4 rfl rfl ?_
        refine tt_iload_n (q := 6) dX12_isIn_5 rfl rfl ?_
        refine tt_icmp_ge (q := 9) (t := 13) dX12_isIn_6 rfl rfl (fun c => ?_) (fun c => ?_)
        · replace h := h.1 c
          refine tt_iconst (q := 14) dX12_isIn_13 ki_0 rfl ?_
          refine tt_iret dX12_isIn_14 ⟨rfl, _, rfl, Or.inl nI_0, ?_⟩
          refine tt_if_eq (q := 26) (t := 37) dX12_after_23 rfl rfl (fun c => ?_) (fun c => absurd c (by decide))
          clear c
          refine tt_iconst (q := 38) dX12_after_37 ki_m1 rfl ?_
          refine sti_4 (q := 40) dX12_after_38 rfl rfl ?_
          refine tt_iload (q := 42) dX12_after_40 rfl rfl ?_
          refine tt_if_eq (q := 45) (t := 55) dX12_after_42 rfl rfl (fun c => absurd c (by decide)) (fun c => ?_)
          clear c
          refine tt_ldc (q := 47) dX12_after_45 lct_X12_136 rfl ?_
          refine tt_aload_n (q := 48) dX12_after_47 rfl rfl ?_
          refine tt_iload (q := 50) dX12_after_48 rfl rfl ?_
          refine callVi_1 (q := 53) dX12_after_50 (Or.inr (Or.inr (⟨rfl, rfl, ⟨⟨_, _, rfl, rfl, (Nat.le_of_ble_eq_true rfl), rc_102⟩, Nat.le_of_ble_eq_true rfl, ?_⟩⟩))) (Nat.le_of_ble_eq_true rfl) rfl (fun t19 r18 ht19 => ht19)
          refine (show TT cX12_refuse RX12 false CT0 CN0 _ _ _ none 0 [_, _] [] _ _ from ?_)
          refine tt_aload_n (q := 1) dX12_refuse_0 rfl rfl ?_
          refine tt_getR (q := 4) dX12_refuse_1 fl_X12_7 or_102_0 (Nat.le_of_ble_eq_true rfl) rfl rfl ?_
          refine tt_iload_n (q := 5) dX12_refuse_4 rfl rfl ?_
          refine tt_inegE (v := nI 1) (q := 6) dX12_refuse_5 (by decide) rfl ?_
          refine tt_dup2 (q := 7) dX12_refuse_6 rfl rfl rfl ?_
          refine tt_iald (q := 8) dX12_refuse_7 ia_103 (Nat.le_of_ble_eq_true rfl) rfl (Nat.le_of_ble_eq_true rfl : 1 < 7) rfl ?_
          refine tt_iconst (q := 9) dX12_refuse_8 ki_1 rfl ?_
          refine tt_iadd (q := 10) dX12_refuse_9 rfl ?_
          refine tt_iast (q := 11) dX12_refuse_10 ia_103 (Nat.le_of_ble_eq_true rfl) rfl (Nat.le_of_ble_eq_true rfl : 1 < 7) rfl ?_
          replace h := h _ rfl
          refine tt_iload_n (q := 12) dX12_refuse_11 rfl rfl ?_
          refine tt_iret dX12_refuse_12 ⟨rfl, _, rfl, ?_⟩
          refine tt_isubE (v := nI 1000000001) (q := 54) dX12_after_53 (by decide) rfl ?_
          exact tt_iret dX12_after_54 ⟨rfl, _, rfl, h⟩
        · replace h := h.2 c
          refine tt_iconst (q := 10) dX12_isIn_9 ki_1 rfl ?_
          refine tt_goto (t := 14) dX12_isIn_10 rfl ?_
          refine tt_iret dX12_isIn_14 ⟨rfl, _, rfl, Or.inr rfl, ?_⟩
          refine tt_if_eq (q := 26) (t := 37) dX12_after_23 rfl rfl (fun c => absurd c (by decide)) (fun c => ?_)
          clear c
          refine tt_iload_n (q := 27) dX12_after_26 rfl rfl ?_
          refine tt_bipush (q := 29) dX12_after_27 bi_m9 rfl ?_
          refine tt_bipush (q := 31) dX12_after_29 bi_99 rfl ?_
          refine callSi_3 (q := 34) dX12_after_31 (Or.inr (Or.inl ⟨rfl, rfl, ⟨rfl, Nat.le_of_ble_eq_true rfl, ?_⟩⟩)) (Nat.le_of_ble_eq_true rfl) rfl (fun t22 r21 ht22 => ht22)
          refine (show TT cX12_within RX12 false CT0 CN0 _ _ _ none 0 [_, _, _] [] _ _ from ?_)
          refine tt_iload_n (q := 1) dX12_within_0 rfl rfl ?_
          refine tt_iload_n (q := 2) dX12_within_1 rfl rfl ?_
          refine tt_icmp_ge (q := 5) (t := 10) dX12_within_2 rfl rfl (fun c => ?_) (fun c => ?_)
          · replace h := h.1 c
            refine tt_iload_n (q := 11) dX12_within_10 rfl rfl ?_
            refine tt_iload_n (q := 12) dX12_within_11 rfl rfl ?_
            refine tt_icmp_le (q := 15) (t := 20) dX12_within_12 rfl rfl (fun c => ?_) (fun c => ?_)
            · replace h := h.1 c
              refine tt_iconst (q := 21) dX12_within_20 ki_0 rfl ?_
              refine tt_iret dX12_within_21 ⟨rfl, _, rfl, ?_⟩
              refine tt_goto (t := 38) dX12_after_34 rfl ?_
              refine sti_4 (q := 40) dX12_after_38 rfl rfl ?_
              refine tt_iload (q := 42) dX12_after_40 rfl rfl ?_
              refine tt_if_eq (q := 45) (t := 55) dX12_after_42 rfl rfl (fun c => ?_) (fun c => absurd c (by decide))
              clear c
              refine tt_aload_n (q := 56) dX12_after_55 rfl rfl ?_
              refine tt_getR (q := 59) dX12_after_56 fl_X12_13 or_102_1 (Nat.le_of_ble_eq_true rfl) rfl rfl ?_
              refine tt_bipush (q := 61) dX12_after_59 bi_59 rfl ?_
              refine tt_bipush (q := 63) dX12_after_61 bi_6 rfl ?_
              refine tt_iload_n (q := 64) dX12_after_63 rfl rfl ?_
              refine tt_imul (q := 65) dX12_after_64 rfl ?_
              refine tt_iadd (q := 66) dX12_after_65 rfl ?_
              refine tt_iload_n (q := 67) dX12_after_66 rfl rfl ?_
              refine tt_iadd (q := 68) dX12_after_67 rfl ?_
              obtain ⟨j26, e27, l25, h⟩ := h
              refine tt_iald (q := 69) dX12_after_68 ia_104 (Nat.le_of_ble_eq_true rfl) e27 l25 rfl ?_
              refine sti_5 (q := 71) dX12_after_69 rfl rfl ?_
              refine tt_aload_n (q := 72) dX12_after_71 rfl rfl ?_
              refine tt_getR (q := 75) dX12_after_72 fl_X12_13 or_102_1 (Nat.le_of_ble_eq_true rfl) rfl rfl ?_
              refine tt_bipush (q := 77) dX12_after_75 bi_59 rfl ?_
              refine tt_bipush (q := 79) dX12_after_77 bi_6 rfl ?_
              refine tt_iload_n (q := 80) dX12_after_79 rfl rfl ?_
              refine tt_imul (q := 81) dX12_after_80 rfl ?_
              refine tt_iadd (q := 82) dX12_after_81 rfl ?_
              refine tt_iload_n (q := 83) dX12_after_82 rfl rfl ?_
              refine tt_iadd (q := 84) dX12_after_83 rfl ?_
              refine tt_iload_n (q := 85) dX12_after_84 rfl rfl ?_
              obtain ⟨j29, e30, l28, h⟩ := h
              refine tt_iast (q := 86) dX12_after_85 ia_104 (Nat.le_of_ble_eq_true rfl) e30 l28 rfl ?_
              replace h := h _ rfl
              refine tt_iload (q := 88) dX12_after_86 rfl rfl ?_
              exact tt_iret dX12_after_88 ⟨rfl, _, rfl, h⟩
            · replace h := h.2 c
              refine tt_bipush (q := 17) dX12_within_15 bi_m6 rfl ?_
              refine tt_goto (t := 21) dX12_within_17 rfl ?_
              refine tt_iret dX12_within_21 ⟨rfl, _, rfl, ?_⟩
              refine tt_goto (t := 38) dX12_after_34 rfl ?_
              refine sti_4 (q := 40) dX12_after_38 rfl rfl ?_
              refine tt_iload (q := 42) dX12_after_40 rfl rfl ?_
              refine tt_if_eq (q := 45) (t := 55) dX12_after_42 rfl rfl (fun c => absurd c (by decide)) (fun c => ?_)
              clear c
              refine tt_ldc (q := 47) dX12_after_45 lct_X12_136 rfl ?_
              refine tt_aload_n (q := 48) dX12_after_47 rfl rfl ?_
              refine tt_iload (q := 50) dX12_after_48 rfl rfl ?_
              refine callVi_1 (q := 53) dX12_after_50 (Or.inr (Or.inr (⟨rfl, rfl, ⟨⟨_, _, rfl, rfl, (Nat.le_of_ble_eq_true rfl), rc_102⟩, Nat.le_of_ble_eq_true rfl, ?_⟩⟩))) (Nat.le_of_ble_eq_true rfl) rfl (fun t33 r32 ht33 => ht33)
              refine (show TT cX12_refuse RX12 false CT0 CN0 _ _ _ none 0 [_, _] [] _ _ from ?_)
              refine tt_aload_n (q := 1) dX12_refuse_0 rfl rfl ?_
              refine tt_getR (q := 4) dX12_refuse_1 fl_X12_7 or_102_0 (Nat.le_of_ble_eq_true rfl) rfl rfl ?_
              refine tt_iload_n (q := 5) dX12_refuse_4 rfl rfl ?_
              refine tt_inegE (v := nI 6) (q := 6) dX12_refuse_5 (by decide) rfl ?_
              refine tt_dup2 (q := 7) dX12_refuse_6 rfl rfl rfl ?_
              refine tt_iald (q := 8) dX12_refuse_7 ia_103 (Nat.le_of_ble_eq_true rfl) rfl (Nat.le_of_ble_eq_true rfl : 6 < 7) rfl ?_
              refine tt_iconst (q := 9) dX12_refuse_8 ki_1 rfl ?_
              refine tt_iadd (q := 10) dX12_refuse_9 rfl ?_
              refine tt_iast (q := 11) dX12_refuse_10 ia_103 (Nat.le_of_ble_eq_true rfl) rfl (Nat.le_of_ble_eq_true rfl : 6 < 7) rfl ?_
              replace h := h _ rfl
              refine tt_iload_n (q := 12) dX12_refuse_11 rfl rfl ?_
              refine tt_iret dX12_refuse_12 ⟨rfl, _, rfl, ?_⟩
              refine tt_isubE (v := nI 1000000006) (q := 54) dX12_after_53 (by decide) rfl ?_
              exact tt_iret dX12_after_54 ⟨rfl, _, rfl, h⟩
          · replace h := h.2 c
            refine tt_bipush (q := 7) dX12_within_5 bi_m4 rfl ?_
            refine tt_goto (t := 21) dX12_within_7 rfl ?_
            refine tt_iret dX12_within_21 ⟨rfl, _, rfl, ?_⟩
            refine tt_goto (t := 38) dX12_after_34 rfl ?_
            refine sti_4 (q := 40) dX12_after_38 rfl rfl ?_
            refine tt_iload (q := 42) dX12_after_40 rfl rfl ?_
            refine tt_if_eq (q := 45) (t := 55) dX12_after_42 rfl rfl (fun c => absurd c (by decide)) (fun c => ?_)
            clear c
            refine tt_ldc (q := 47) dX12_after_45 lct_X12_136 rfl ?_
            refine tt_aload_n (q := 48) dX12_after_47 rfl rfl ?_
            refine tt_iload (q := 50) dX12_after_48 rfl rfl ?_
            refine callVi_1 (q := 53) dX12_after_50 (Or.inr (Or.inr (⟨rfl, rfl, ⟨⟨_, _, rfl, rfl, (Nat.le_of_ble_eq_true rfl), rc_102⟩, Nat.le_of_ble_eq_true rfl, ?_⟩⟩))) (Nat.le_of_ble_eq_true rfl) rfl (fun t36 r35 ht36 => ht36)
            refine (show TT cX12_refuse RX12 false CT0 CN0 _ _ _ none 0 [_, _] [] _ _ from ?_)
            refine tt_aload_n (q := 1) dX12_refuse_0 rfl rfl ?_
            refine tt_getR (q := 4) dX12_refuse_1 fl_X12_7 or_102_0 (Nat.le_of_ble_eq_true rfl) rfl rfl ?_
            refine tt_iload_n (q := 5) dX12_refuse_4 rfl rfl ?_
            refine tt_inegE (v := nI 4) (q := 6) dX12_refuse_5 (by decide) rfl ?_
            refine tt_dup2 (q := 7) dX12_refuse_6 rfl rfl rfl ?_
            refine tt_iald (q := 8) dX12_refuse_7 ia_103 (Nat.le_of_ble_eq_true rfl) rfl (Nat.le_of_ble_eq_true rfl : 4 < 7) rfl ?_
            refine tt_iconst (q := 9) dX12_refuse_8 ki_1 rfl ?_
            refine tt_iadd (q := 10) dX12_refuse_9 rfl ?_
            refine tt_iast (q := 11) dX12_refuse_10 ia_103 (Nat.le_of_ble_eq_true rfl) rfl (Nat.le_of_ble_eq_true rfl : 4 < 7) rfl ?_
            replace h := h _ rfl
            refine tt_iload_n (q := 12) dX12_refuse_11 rfl rfl ?_
            refine tt_iret dX12_refuse_12 ⟨rfl, _, rfl, ?_⟩
            refine tt_isubE (v := nI 1000000004) (q := 54) dX12_after_53 (by decide) rfl ?_
            exact tt_iret dX12_after_54 ⟨rfl, _, rfl, h⟩

theorem g_X12_locks_0 {post : SG → Int32 → Prop} {σ : SG} {a : Int32} {b : Int32} (h : ((a < 0 → (∀ s6 : SG, s6 = up σ 103 2 ((σ 103 2) + (nI 1)) → post s6 (-2 : Int32))) ∧ (¬ a < 0 → (((nI 2) ≤ a → (∀ s10 : SG, s10 = up σ 103 2 ((σ 103 2) + (nI 1)) → post s10 (-2 : Int32))) ∧ (¬ (nI 2) ≤ a → ((¬ a = 0 → (((nI 0) ≤ b → ((b ≤ (nI 99) → (∃ j17 : Nat, ((nI 3) + a) = nI j17 ∧ j17 < 197 ∧ (∃ j20 : Nat, ((nI 3) + a) = nI j20 ∧ j20 < 197 ∧ (∀ s22 : SG, s22 = up σ 104 j20 b → post s22 (σ 104 j17))))) ∧ (¬ b ≤ (nI 99) → (∀ s25 : SG, s25 = up σ 103 6 ((σ 103 6) + (nI 1)) → post s25 (-6 : Int32))))) ∧ (¬ (nI 0) ≤ b → (∀ s28 : SG, s28 = up σ 103 4 ((σ 103 4) + (nI 1)) → post s28 (-4 : Int32))))) ∧ (a = 0 → (((nI 0) ≤ b → ((b ≤ (nI 100) → (∃ j34 : Nat, ((nI 3) + a) = nI j34 ∧ j34 < 197 ∧ (∃ j37 : Nat, ((nI 3) + a) = nI j37 ∧ j37 < 197 ∧ (∀ s39 : SG, s39 = up σ 104 j37 b → post s39 (σ 104 j34))))) ∧ (¬ b ≤ (nI 100) → (∀ s42 : SG, s42 = up σ 103 6 ((σ 103 6) + (nI 1)) → post s42 (-6 : Int32))))) ∧ (¬ (nI 0) ≤ b → (∀ s45 : SG, s45 = up σ 103 4 ((σ 103 4) + (nI 1)) → post s45 (-4 : Int32))))))))))) : T_X12_locks AF post 0 [.ref 102, .int a, .int b, dum, dum] [] σ := by
  refine tt_iload_n (q := 1) dX12_locks_0 rfl rfl ?_
  refine tt_iconst (q := 2) dX12_locks_1 ki_2 rfl ?_
  refine callSi_2 (q := 5) dX12_locks_2 (Or.inl ⟨rfl, rfl, ⟨rfl, Nat.le_of_ble_eq_true rfl, ?_⟩⟩) (Nat.le_of_ble_eq_true rfl) rfl (fun t2 r1 ht2 => ht2)
  refine (show TT cX12_isIn RX12 false CT0 CN0 _ _ _ none 0 [_, _] [] _ _ from ?_)
  refine tt_iload_n (q := 1) dX12_isIn_0 rfl rfl ?_
  refine tt_if_lt (q := 4) (t := 13) dX12_isIn_1 rfl rfl (fun c => ?_) (fun c => ?_)
  · replace h := h.1 c
    refine tt_iconst (q := 14) dX12_isIn_13 ki_0 rfl ?_
    refine tt_iret dX12_isIn_14 ⟨rfl, _, rfl, Or.inl nI_0, ?_⟩
    refine tt_if_ne (q := 8) (t := 15) dX12_locks_5 rfl rfl (fun c => absurd c (by decide)) (fun c => ?_)
    clear c
    refine tt_aload_n (q := 9) dX12_locks_8 rfl rfl ?_
    refine tt_bipush (q := 11) dX12_locks_9 bi_m2 rfl ?_
    refine callVi_1 (q := 14) dX12_locks_11 (Or.inr (Or.inl ⟨rfl, rfl, ⟨⟨_, _, rfl, rfl, (Nat.le_of_ble_eq_true rfl), rc_102⟩, Nat.le_of_ble_eq_true rfl, ?_⟩⟩)) (Nat.le_of_ble_eq_true rfl) rfl (fun t5 r4 ht5 => ht5)
    refine (show TT cX12_refuse RX12 false CT0 CN0 _ _ _ none 0 [_, _] [] _ _ from ?_)
    refine tt_aload_n (q := 1) dX12_refuse_0 rfl rfl ?_
    refine tt_getR (q := 4) dX12_refuse_1 fl_X12_7 or_102_0 (Nat.le_of_ble_eq_true rfl) rfl rfl ?_
    refine tt_iload_n (q := 5) dX12_refuse_4 rfl rfl ?_
    refine tt_inegE (v := nI 2) (q := 6) dX12_refuse_5 (by decide) rfl ?_
    refine tt_dup2 (q := 7) dX12_refuse_6 rfl rfl rfl ?_
    refine tt_iald (q := 8) dX12_refuse_7 ia_103 (Nat.le_of_ble_eq_true rfl) rfl (Nat.le_of_ble_eq_true rfl : 2 < 7) rfl ?_
    refine tt_iconst (q := 9) dX12_refuse_8 ki_1 rfl ?_
    refine tt_iadd (q := 10) dX12_refuse_9 rfl ?_
    refine tt_iast (q := 11) dX12_refuse_10 ia_103 (Nat.le_of_ble_eq_true rfl) rfl (Nat.le_of_ble_eq_true rfl : 2 < 7) rfl ?_
    replace h := h _ rfl
    refine tt_iload_n (q := 12) dX12_refuse_11 rfl rfl ?_
    refine tt_iret dX12_refuse_12 ⟨rfl, _, rfl, ?_⟩
    exact tt_iret dX12_locks_14 ⟨rfl, _, rfl, h⟩
  · replace h := h.2 c
    refine tt_iload_n (q := 5) dX12_isIn_4 rfl rfl ?_
    refine tt_iload_n (q := 6) dX12_isIn_5 rfl rfl ?_
    refine tt_icmp_ge (q := 9) (t := 13) dX12_isIn_6 rfl rfl (fun c => ?_) (fun c => ?_)
    · replace h := h.1 c
      refine tt_iconst (q := 14) dX12_isIn_13 ki_0 rfl ?_
      refine tt_iret dX12_isIn_14 ⟨rfl, _, rfl, Or.inl nI_0, ?_⟩
      refine tt_if_ne (q := 8) (t := 15) dX12_locks_5 rfl rfl (fun c => absurd c (by decide)) (fun c => ?_)
      clear c
      refine tt_aload_n (q := 9) dX12_locks_8 rfl rfl ?_
      refine tt_bipush (q := 11) dX12_locks_9 bi_m2 rfl ?_
      refine callVi_1 (q := 14) dX12_locks_11 (Or.inr (Or.inl ⟨rfl, rfl, ⟨⟨_, _, rfl, rfl, (Nat.le_of_ble_eq_true rfl), rc_102⟩, Nat.le_of_ble_eq_true rfl, ?_⟩⟩)) (Nat.le_of_ble_eq_true rfl) rfl (fun t9 r8 ht9 => ht9)
      refine (show TT cX12_refuse RX12 false CT0 CN0 _ _ _ none 0 [_, _] [] _ _ from ?_)
      refine tt_aload_n (q := 1) dX12_refuse_0 rfl rfl ?_
      refine tt_getR (q := 4) dX12_refuse_1 fl_X12_7 or_102_0 (Nat.le_of_ble_eq_true rfl) rfl rfl ?_
      refine tt_iload_n (q := 5) dX12_refuse_4 rfl rfl ?_
      refine tt_inegE (v := nI 2) (q := 6) dX12_refuse_5 (by decide) rfl ?_
      refine tt_dup2 (q := 7) dX12_refuse_6 rfl rfl rfl ?_
      refine tt_iald (q := 8) dX12_refuse_7 ia_103 (Nat.le_of_ble_eq_true rfl) rfl (Nat.le_of_ble_eq_true rfl : 2 < 7) rfl ?_
      refine tt_iconst (q := 9) dX12_refuse_8 ki_1 rfl ?_
      refine tt_iadd (q := 10) dX12_refuse_9 rfl ?_
      refine tt_iast (q := 11) dX12_refuse_10 ia_103 (Nat.le_of_ble_eq_true rfl) rfl (Nat.le_of_ble_eq_true rfl : 2 < 7) rfl ?_
      replace h := h _ rfl
      refine tt_iload_n (q := 12) dX12_refuse_11 rfl rfl ?_
      refine tt_iret dX12_refuse_12 ⟨rfl, _, rfl, ?_⟩
      exact tt_iret dX12_locks_14 ⟨rfl, _, rfl, h⟩
    · replace h := h.2 c
      refine tt_iconst (q := 10) dX12_isIn_9 ki_1 rfl ?_
      refine tt_goto (t := 14) dX12_isIn_10 rfl ?_
      refine tt_iret dX12_isIn_14 ⟨rfl, _, rfl, Or.inr rfl, ?_⟩
      refine tt_if_ne (q := 8) (t := 15) dX12_locks_5 rfl rfl (fun c => ?_) (fun c => absurd c (by decide))
      clear c
      refine tt_iload_n (q := 16) dX12_locks_15 rfl rfl ?_
      refine tt_iconst (q := 17) dX12_locks_16 ki_0 rfl ?_
      refine tt_iload_n (q := 18) dX12_locks_17 rfl rfl ?_
      refine tt_if_ne (q := 21) (t := 26) dX12_locks_18 rfl rfl (fun c => ?_) (fun c => ?_)
      · replace h := h.1 c
        refine tt_bipush (q := 28) dX12_locks_26 bi_99 rfl ?_
        refine callSi_3 (q := 31) dX12_locks_28 (Or.inr (Or.inr (⟨rfl, rfl, ⟨rfl, Nat.le_of_ble_eq_true rfl, ?_⟩⟩))) (Nat.le_of_ble_eq_true rfl) rfl (fun t13 r12 ht13 => ht13)
        refine (show TT cX12_within RX12 false CT0 CN0 _ _ _ none 0 [_, _, _] [] _ _ from ?_)
        refine tt_iload_n (q := 1) dX12_within_0 rfl rfl ?_
        refine tt_iload_n (q := 2) dX12_within_1 rfl rfl ?_
        refine tt_icmp_ge (q := 5) (t := 10) dX12_within_2 rfl rfl (fun c => ?_) (fun c => ?_)
        · replace h := h.1 c
          refine tt_iload_n (q := 11) dX12_within_10 rfl rfl ?_
          refine tt_iload_n (q := 12) dX12_within_11 rfl rfl ?_
          refine tt_icmp_le (q := 15) (t := 20) dX12_within_12 rfl rfl (fun c => ?_) (fun c => ?_)
          · replace h := h.1 c
            refine tt_iconst (q := 21) dX12_within_20 ki_0 rfl ?_
            refine tt_iret dX12_within_21 ⟨rfl, _, rfl, ?_⟩
            refine sti_n_3 (q := 32) dX12_locks_31 rfl rfl rfl ?_
            refine tt_iload_n (q := 33) dX12_locks_32 rfl rfl ?_
            refine tt_if_eq (q := 36) (t := 42) dX12_locks_33 rfl rfl (fun c => ?_) (fun c => absurd c (by decide))
            clear c
            refine tt_aload_n (q := 43) dX12_locks_42 rfl rfl ?_
            refine tt_getR (q := 46) dX12_locks_43 fl_X12_13 or_102_1 (Nat.le_of_ble_eq_true rfl) rfl rfl ?_
            refine tt_iconst (q := 47) dX12_locks_46 ki_3 rfl ?_
            refine tt_iload_n (q := 48) dX12_locks_47 rfl rfl ?_
            refine tt_iadd (q := 49) dX12_locks_48 rfl ?_
            obtain ⟨j17, e18, l16, h⟩ := h
            refine tt_iald (q := 50) dX12_locks_49 ia_104 (Nat.le_of_ble_eq_true rfl) e18 l16 rfl ?_
            refine sti_4 (q := 52) dX12_locks_50 rfl rfl ?_
            refine tt_aload_n (q := 53) dX12_locks_52 rfl rfl ?_
            refine tt_getR (q := 56) dX12_locks_53 fl_X12_13 or_102_1 (Nat.le_of_ble_eq_true rfl) rfl rfl ?_
            refine tt_iconst (q := 57) dX12_locks_56 ki_3 rfl ?_
            refine tt_iload_n (q := 58) dX12_locks_57 rfl rfl ?_
            refine tt_iadd (q := 59) dX12_locks_58 rfl ?_
            refine tt_iload_n (q := 60) dX12_locks_59 rfl rfl ?_
            obtain ⟨j20, e21, l19, h⟩ := h
            refine tt_iast (q := 61) dX12_locks_60 ia_104 (Nat.le_of_ble_eq_true rfl) e21 l19 rfl ?_
            replace h := h _ rfl
            refine tt_iload (q := 63) dX12_locks_61 rfl rfl ?_
            exact tt_iret dX12_locks_63 ⟨rfl, _, rfl, h⟩
          · replace h := h.2 c
            refine tt_bipush (q := 17) dX12_within_15 bi_m6 rfl ?_
            refine tt_goto (t := 21) dX12_within_17 rfl ?_
            refine tt_iret dX12_within_21 ⟨rfl, _, rfl, ?_⟩
            refine sti_n_3 (q := 32) dX12_locks_31 rfl rfl rfl ?_
            refine tt_iload_n (q := 33) dX12_locks_32 rfl rfl ?_
            refine tt_if_eq (q := 36) (t := 42) dX12_locks_33 rfl rfl (fun c => absurd c (by decide)) (fun c => ?_)
            clear c
            refine tt_aload_n (q := 37) dX12_locks_36 rfl rfl ?_
            refine tt_iload_n (q := 38) dX12_locks_37 rfl rfl ?_
            refine callVi_1 (q := 41) dX12_locks_38 (Or.inr (Or.inl ⟨rfl, rfl, ⟨⟨_, _, rfl, rfl, (Nat.le_of_ble_eq_true rfl), rc_102⟩, Nat.le_of_ble_eq_true rfl, ?_⟩⟩)) (Nat.le_of_ble_eq_true rfl) rfl (fun t24 r23 ht24 => ht24)
            refine (show TT cX12_refuse RX12 false CT0 CN0 _ _ _ none 0 [_, _] [] _ _ from ?_)
            refine tt_aload_n (q := 1) dX12_refuse_0 rfl rfl ?_
            refine tt_getR (q := 4) dX12_refuse_1 fl_X12_7 or_102_0 (Nat.le_of_ble_eq_true rfl) rfl rfl ?_
            refine tt_iload_n (q := 5) dX12_refuse_4 rfl rfl ?_
            refine tt_inegE (v := nI 6) (q := 6) dX12_refuse_5 (by decide) rfl ?_
            refine tt_dup2 (q := 7) dX12_refuse_6 rfl rfl rfl ?_
            refine tt_iald (q := 8) dX12_refuse_7 ia_103 (Nat.le_of_ble_eq_true rfl) rfl (Nat.le_of_ble_eq_true rfl : 6 < 7) rfl ?_
            refine tt_iconst (q := 9) dX12_refuse_8 ki_1 rfl ?_
            refine tt_iadd (q := 10) dX12_refuse_9 rfl ?_
            refine tt_iast (q := 11) dX12_refuse_10 ia_103 (Nat.le_of_ble_eq_true rfl) rfl (Nat.le_of_ble_eq_true rfl : 6 < 7) rfl ?_
            replace h := h _ rfl
            refine tt_iload_n (q := 12) dX12_refuse_11 rfl rfl ?_
            refine tt_iret dX12_refuse_12 ⟨rfl, _, rfl, ?_⟩
            exact tt_iret dX12_locks_41 ⟨rfl, _, rfl, h⟩
        · replace h := h.2 c
          refine tt_bipush (q := 7) dX12_within_5 bi_m4 rfl ?_
          refine tt_goto (t := 21) dX12_within_7 rfl ?_
          refine tt_iret dX12_within_21 ⟨rfl, _, rfl, ?_⟩
          refine sti_n_3 (q := 32) dX12_locks_31 rfl rfl rfl ?_
          refine tt_iload_n (q := 33) dX12_locks_32 rfl rfl ?_
          refine tt_if_eq (q := 36) (t := 42) dX12_locks_33 rfl rfl (fun c => absurd c (by decide)) (fun c => ?_)
          clear c
          refine tt_aload_n (q := 37) dX12_locks_36 rfl rfl ?_
          refine tt_iload_n (q := 38) dX12_locks_37 rfl rfl ?_
          refine callVi_1 (q := 41) dX12_locks_38 (Or.inr (Or.inl ⟨rfl, rfl, ⟨⟨_, _, rfl, rfl, (Nat.le_of_ble_eq_true rfl), rc_102⟩, Nat.le_of_ble_eq_true rfl, ?_⟩⟩)) (Nat.le_of_ble_eq_true rfl) rfl (fun t27 r26 ht27 => ht27)
          refine (show TT cX12_refuse RX12 false CT0 CN0 _ _ _ none 0 [_, _] [] _ _ from ?_)
          refine tt_aload_n (q := 1) dX12_refuse_0 rfl rfl ?_
          refine tt_getR (q := 4) dX12_refuse_1 fl_X12_7 or_102_0 (Nat.le_of_ble_eq_true rfl) rfl rfl ?_
          refine tt_iload_n (q := 5) dX12_refuse_4 rfl rfl ?_
          refine tt_inegE (v := nI 4) (q := 6) dX12_refuse_5 (by decide) rfl ?_
          refine tt_dup2 (q := 7) dX12_refuse_6 rfl rfl rfl ?_
          refine tt_iald (q := 8) dX12_refuse_7 ia_103 (Nat.le_of_ble_eq_true rfl) rfl (Nat.le_of_ble_eq_true rfl : 4 < 7) rfl ?_
          refine tt_iconst (q := 9) dX12_refuse_8 ki_1 rfl ?_
          refine tt_iadd (q := 10) dX12_refuse_9 rfl ?_
          refine tt_iast (q := 11) dX12_refuse_10 ia_103 (Nat.le_of_ble_eq_true rfl) rfl (Nat.le_of_ble_eq_true rfl : 4 < 7) rfl ?_
          replace h := h _ rfl
          refine tt_iload_n (q := 12) dX12_refuse_11 rfl rfl ?_
          refine tt_iret dX12_refuse_12 ⟨rfl, _, rfl, ?_⟩
          exact tt_iret dX12_locks_41 ⟨rfl, _, rfl, h⟩
      · replace h := h.2 c
        refine tt_bipush (q := 23) dX12_locks_21 bi_100 rfl ?_
        refine tt_goto (t := 28) dX12_locks_23 rfl ?_
        refine callSi_3 (q := 31) dX12_locks_28 (Or.inr (Or.inr (⟨rfl, rfl, ⟨rfl, Nat.le_of_ble_eq_true rfl, ?_⟩⟩))) (Nat.le_of_ble_eq_true rfl) rfl (fun t30 r29 ht30 => ht30)
        refine (show TT cX12_within RX12 false CT0 CN0 _ _ _ none 0 [_, _, _] [] _ _ from ?_)
        refine tt_iload_n (q := 1) dX12_within_0 rfl rfl ?_
        refine tt_iload_n (q := 2) dX12_within_1 rfl rfl ?_
        refine tt_icmp_ge (q := 5) (t := 10) dX12_within_2 rfl rfl (fun c => ?_) (fun c => ?_)
        · replace h := h.1 c
          refine tt_iload_n (q := 11) dX12_within_10 rfl rfl ?_
          refine tt_iload_n (q := 12) dX12_within_11 rfl rfl ?_
          refine tt_icmp_le (q := 15) (t := 20) dX12_within_12 rfl rfl (fun c => ?_) (fun c => ?_)
          · replace h := h.1 c
            refine tt_iconst (q := 21) dX12_within_20 ki_0 rfl ?_
            refine tt_iret dX12_within_21 ⟨rfl, _, rfl, ?_⟩
            refine sti_n_3 (q := 32) dX12_locks_31 rfl rfl rfl ?_
            refine tt_iload_n (q := 33) dX12_locks_32 rfl rfl ?_
            refine tt_if_eq (q := 36) (t := 42) dX12_locks_33 rfl rfl (fun c => ?_) (fun c => absurd c (by decide))
            clear c
            refine tt_aload_n (q := 43) dX12_locks_42 rfl rfl ?_
            refine tt_getR (q := 46) dX12_locks_43 fl_X12_13 or_102_1 (Nat.le_of_ble_eq_true rfl) rfl rfl ?_
            refine tt_iconst (q := 47) dX12_locks_46 ki_3 rfl ?_
            refine tt_iload_n (q := 48) dX12_locks_47 rfl rfl ?_
            refine tt_iadd (q := 49) dX12_locks_48 rfl ?_
            obtain ⟨j34, e35, l33, h⟩ := h
            refine tt_iald (q := 50) dX12_locks_49 ia_104 (Nat.le_of_ble_eq_true rfl) e35 l33 rfl ?_
            refine sti_4 (q := 52) dX12_locks_50 rfl rfl ?_
            refine tt_aload_n (q := 53) dX12_locks_52 rfl rfl ?_
            refine tt_getR (q := 56) dX12_locks_53 fl_X12_13 or_102_1 (Nat.le_of_ble_eq_true rfl) rfl rfl ?_
            refine tt_iconst (q := 57) dX12_locks_56 ki_3 rfl ?_
            refine tt_iload_n (q := 58) dX12_locks_57 rfl rfl ?_
            refine tt_iadd (q := 59) dX12_locks_58 rfl ?_
            refine tt_iload_n (q := 60) dX12_locks_59 rfl rfl ?_
            obtain ⟨j37, e38, l36, h⟩ := h
            refine tt_iast (q := 61) dX12_locks_60 ia_104 (Nat.le_of_ble_eq_true rfl) e38 l36 rfl ?_
            replace h := h _ rfl
            refine tt_iload (q := 63) dX12_locks_61 rfl rfl ?_
            exact tt_iret dX12_locks_63 ⟨rfl, _, rfl, h⟩
          · replace h := h.2 c
            refine tt_bipush (q := 17) dX12_within_15 bi_m6 rfl ?_
            refine tt_goto (t := 21) dX12_within_17 rfl ?_
            refine tt_iret dX12_within_21 ⟨rfl, _, rfl, ?_⟩
            refine sti_n_3 (q := 32) dX12_locks_31 rfl rfl rfl ?_
            refine tt_iload_n (q := 33) dX12_locks_32 rfl rfl ?_
            refine tt_if_eq (q := 36) (t := 42) dX12_locks_33 rfl rfl (fun c => absurd c (by decide)) (fun c => ?_)
            clear c
            refine tt_aload_n (q := 37) dX12_locks_36 rfl rfl ?_
            refine tt_iload_n (q := 38) dX12_locks_37 rfl rfl ?_
            refine callVi_1 (q := 41) dX12_locks_38 (Or.inr (Or.inl ⟨rfl, rfl, ⟨⟨_, _, rfl, rfl, (Nat.le_of_ble_eq_true rfl), rc_102⟩, Nat.le_of_ble_eq_true rfl, ?_⟩⟩)) (Nat.le_of_ble_eq_true rfl) rfl (fun t41 r40 ht41 => ht41)
            refine (show TT cX12_refuse RX12 false CT0 CN0 _ _ _ none 0 [_, _] [] _ _ from ?_)
            refine tt_aload_n (q := 1) dX12_refuse_0 rfl rfl ?_
            refine tt_getR (q := 4) dX12_refuse_1 fl_X12_7 or_102_0 (Nat.le_of_ble_eq_true rfl) rfl rfl ?_
            refine tt_iload_n (q := 5) dX12_refuse_4 rfl rfl ?_
            refine tt_inegE (v := nI 6) (q := 6) dX12_refuse_5 (by decide) rfl ?_
            refine tt_dup2 (q := 7) dX12_refuse_6 rfl rfl rfl ?_
            refine tt_iald (q := 8) dX12_refuse_7 ia_103 (Nat.le_of_ble_eq_true rfl) rfl (Nat.le_of_ble_eq_true rfl : 6 < 7) rfl ?_
            refine tt_iconst (q := 9) dX12_refuse_8 ki_1 rfl ?_
            refine tt_iadd (q := 10) dX12_refuse_9 rfl ?_
            refine tt_iast (q := 11) dX12_refuse_10 ia_103 (Nat.le_of_ble_eq_true rfl) rfl (Nat.le_of_ble_eq_true rfl : 6 < 7) rfl ?_
            replace h := h _ rfl
            refine tt_iload_n (q := 12) dX12_refuse_11 rfl rfl ?_
            refine tt_iret dX12_refuse_12 ⟨rfl, _, rfl, ?_⟩
            exact tt_iret dX12_locks_41 ⟨rfl, _, rfl, h⟩
        · replace h := h.2 c
          refine tt_bipush (q := 7) dX12_within_5 bi_m4 rfl ?_
          refine tt_goto (t := 21) dX12_within_7 rfl ?_
          refine tt_iret dX12_within_21 ⟨rfl, _, rfl, ?_⟩
          refine sti_n_3 (q := 32) dX12_locks_31 rfl rfl rfl ?_
          refine tt_iload_n (q := 33) dX12_locks_32 rfl rfl ?_
          refine tt_if_eq (q := 36) (t := 42) dX12_locks_33 rfl rfl (fun c => absurd c (by decide)) (fun c => ?_)
          clear c
          refine tt_aload_n (q := 37) dX12_locks_36 rfl rfl ?_
          refine tt_iload_n (q := 38) dX12_locks_37 rfl rfl ?_
          refine callVi_1 (q := 41) dX12_locks_38 (Or.inr (Or.inl ⟨rfl, rfl, ⟨⟨_, _, rfl, rfl, (Nat.le_of_ble_eq_true rfl), rc_102⟩, Nat.le_of_ble_eq_true rfl, ?_⟩⟩)) (Nat.le_of_ble_eq_true rfl) rfl (fun t44 r43 ht44 => ht44)
          refine (show TT cX12_refuse RX12 false CT0 CN0 _ _ _ none 0 [_, _] [] _ _ from ?_)
          refine tt_aload_n (q := 1) dX12_refuse_0 rfl rfl ?_
          refine tt_getR (q := 4) dX12_refuse_1 fl_X12_7 or_102_0 (Nat.le_of_ble_eq_true rfl) rfl rfl ?_
          refine tt_iload_n (q := 5) dX12_refuse_4 rfl rfl ?_
          refine tt_inegE (v := nI 4) (q := 6) dX12_refuse_5 (by decide) rfl ?_
          refine tt_dup2 (q := 7) dX12_refuse_6 rfl rfl rfl ?_
          refine tt_iald (q := 8) dX12_refuse_7 ia_103 (Nat.le_of_ble_eq_true rfl) rfl (Nat.le_of_ble_eq_true rfl : 4 < 7) rfl ?_
          refine tt_iconst (q := 9) dX12_refuse_8 ki_1 rfl ?_
          refine tt_iadd (q := 10) dX12_refuse_9 rfl ?_
          refine tt_iast (q := 11) dX12_refuse_10 ia_103 (Nat.le_of_ble_eq_true rfl) rfl (Nat.le_of_ble_eq_true rfl : 4 < 7) rfl ?_
          replace h := h _ rfl
          refine tt_iload_n (q := 12) dX12_refuse_11 rfl rfl ?_
          refine tt_iret dX12_refuse_12 ⟨rfl, _, rfl, ?_⟩
          exact tt_iret dX12_locks_41 ⟨rfl, _, rfl, h⟩

theorem g_X12_takes_0 {post : SG → Int32 → Prop} {σ : SG} {a : Int32} {m : Nat} (h : (m < 2 ^ 31 ∧ (47 + (m / 2) < 197 ∧ (m < 2 ^ 31 ∧ (m % 2 < 2 ^ 31 ∧ ((¬ m % 2 = 1 → ((0 ≤ a → (m < 2 ^ 31 ∧ (∃ j11 : Nat, (((nI 59) + ((nI 6) * (a / (nI 2)))) + (nI (m / 2))) = nI j11 ∧ j11 < 197 ∧ (((nI 1) ≤ (((σ 104 (47 + (m / 2))) + (nI 0)) + (σ 104 j11)) → post σ (((σ 104 (47 + (m / 2))) + (nI 0)) + (σ 104 j11))) ∧ (¬ (nI 1) ≤ (((σ 104 (47 + (m / 2))) + (nI 0)) + (σ 104 j11)) → post σ (nI 1)))))) ∧ (¬ 0 ≤ a → (((nI 1) ≤ (((σ 104 (47 + (m / 2))) + (nI 0)) + (nI 0)) → post σ (((σ 104 (47 + (m / 2))) + (nI 0)) + (nI 0))) ∧ (¬ (nI 1) ≤ (((σ 104 (47 + (m / 2))) + (nI 0)) + (nI 0)) → post σ (nI 1)))))) ∧ (m % 2 = 1 → (m < 2 ^ 31 ∧ (53 + (m / 2) < 197 ∧ ((0 ≤ a → (m < 2 ^ 31 ∧ (∃ j22 : Nat, (((nI 59) + ((nI 6) * (a / (nI 2)))) + (nI (m / 2))) = nI j22 ∧ j22 < 197 ∧ (((nI 1) ≤ (((σ 104 (47 + (m / 2))) + (σ 104 (53 + (m / 2)))) + (σ 104 j22)) → post σ (((σ 104 (47 + (m / 2))) + (σ 104 (53 + (m / 2)))) + (σ 104 j22))) ∧ (¬ (nI 1) ≤ (((σ 104 (47 + (m / 2))) + (σ 104 (53 + (m / 2)))) + (σ 104 j22)) → post σ (nI 1)))))) ∧ (¬ 0 ≤ a → (((nI 1) ≤ (((σ 104 (47 + (m / 2))) + (σ 104 (53 + (m / 2)))) + (nI 0)) → post σ (((σ 104 (47 + (m / 2))) + (σ 104 (53 + (m / 2)))) + (nI 0))) ∧ (¬ (nI 1) ≤ (((σ 104 (47 + (m / 2))) + (σ 104 (53 + (m / 2)))) + (nI 0)) → post σ (nI 1)))))))))))))) : T_X12_takes AF post 0 [.ref 102, .int a, .int (nI m), dum] [] σ := by
  refine tt_aload_n (q := 1) dX12_takes_0 rfl rfl ?_
  refine tt_getR (q := 4) dX12_takes_1 fl_X12_13 or_102_1 (Nat.le_of_ble_eq_true rfl) rfl rfl ?_
  refine tt_bipush (q := 6) dX12_takes_4 bi_47 rfl ?_
  refine tt_iload_n (q := 7) dX12_takes_6 rfl rfl ?_
  refine tt_iconst (q := 8) dX12_takes_7 ki_2 rfl ?_
  obtain ⟨l1, h⟩ := h
  refine tt_idivN (q := 9) dX12_takes_8 l1 (by decide) (by decide) rfl ?_
  refine tt_iaddN (q := 10) dX12_takes_9 rfl ?_
  obtain ⟨l2, h⟩ := h
  refine tt_iald (q := 11) dX12_takes_10 ia_104 (Nat.le_of_ble_eq_true rfl) rfl l2 rfl ?_
  refine tt_iload_n (q := 12) dX12_takes_11 rfl rfl ?_
  refine tt_iconst (q := 13) dX12_takes_12 ki_2 rfl ?_
  obtain ⟨l3, h⟩ := h
  refine tt_iremN (q := 14) dX12_takes_13 l3 (by decide) (by decide) rfl ?_
  refine tt_iconst (q := 15) dX12_takes_14 ki_1 rfl ?_
  obtain ⟨l5, h⟩ := h
  refine tt_icmp_ne (q := 18) (t := 32) dX12_takes_15 rfl rfl (fun c => ?_) (fun c => ?_)
  · replace h := h.1 (fun z => c ((nI_eq l5 (by decide)).2 z))
    refine tt_iconst (q := 33) dX12_takes_32 ki_0 rfl ?_
    refine tt_iadd (q := 34) dX12_takes_33 rfl ?_
    refine tt_iload_n (q := 35) dX12_takes_34 rfl rfl ?_
    refine tt_if_ge (q := 38) (t := 42) dX12_takes_35 rfl rfl (fun c => ?_) (fun c => ?_)
    · replace h := h.1 c
      refine tt_aload_n (q := 43) dX12_takes_42 rfl rfl ?_
      refine tt_iload_n (q := 44) dX12_takes_43 rfl rfl ?_
      refine tt_iload_n (q := 45) dX12_takes_44 rfl rfl ?_
      refine callVi_2 (q := 48) dX12_takes_45 (⟨rfl, rfl, ⟨⟨_, _, rfl, rfl, (Nat.le_of_ble_eq_true rfl), rc_102⟩, Nat.le_of_ble_eq_true rfl, ?_⟩⟩) (Nat.le_of_ble_eq_true rfl) rfl (fun t8 r7 ht8 => ht8)
      refine (show TT cX12_afterOf RX12 false CT0 CN0 _ _ _ none 0 [_, _, _] [] _ _ from ?_)
      refine tt_aload_n (q := 1) dX12_afterOf_0 rfl rfl ?_
      refine tt_getR (q := 4) dX12_afterOf_1 fl_X12_13 or_102_1 (Nat.le_of_ble_eq_true rfl) rfl rfl ?_
      refine tt_bipush (q := 6) dX12_afterOf_4 bi_59 rfl ?_
      refine tt_bipush (q := 8) dX12_afterOf_6 bi_6 rfl ?_
      refine tt_iload_n (q := 9) dX12_afterOf_8 rfl rfl ?_
      refine tt_iconst (q := 10) dX12_afterOf_9 ki_2 rfl ?_
      refine tt_idiv (q := 11) dX12_afterOf_10 (by decide) rfl ?_
      refine tt_imul (q := 12) dX12_afterOf_11 rfl ?_
      refine tt_iadd (q := 13) dX12_afterOf_12 rfl ?_
      refine tt_iload_n (q := 14) dX12_afterOf_13 rfl rfl ?_
      refine tt_iconst (q := 15) dX12_afterOf_14 ki_2 rfl ?_
      obtain ⟨l9, h⟩ := h
      refine tt_idivN (q := 16) dX12_afterOf_15 l9 (by decide) (by decide) rfl ?_
      refine tt_iadd (q := 17) dX12_afterOf_16 rfl ?_
      obtain ⟨j11, e12, l10, h⟩ := h
      refine tt_iald (q := 18) dX12_afterOf_17 ia_104 (Nat.le_of_ble_eq_true rfl) e12 l10 rfl ?_
      refine tt_iret dX12_afterOf_18 ⟨rfl, _, rfl, ?_⟩
      refine tt_iadd (q := 49) dX12_takes_48 rfl ?_
      refine sti_n_3 (q := 50) dX12_takes_49 rfl rfl rfl ?_
      refine tt_iload_n (q := 51) dX12_takes_50 rfl rfl ?_
      refine tt_iconst (q := 52) dX12_takes_51 ki_1 rfl ?_
      refine tt_icmp_ge (q := 55) (t := 59) dX12_takes_52 rfl rfl (fun c => ?_) (fun c => ?_)
      · replace h := h.1 c
        refine tt_iload_n (q := 60) dX12_takes_59 rfl rfl ?_
        exact tt_iret dX12_takes_60 ⟨rfl, _, rfl, h⟩
      · replace h := h.2 c
        refine tt_iconst (q := 56) dX12_takes_55 ki_1 rfl ?_
        refine tt_goto (t := 60) dX12_takes_56 rfl ?_
        exact tt_iret dX12_takes_60 ⟨rfl, _, rfl, h⟩
    · replace h := h.2 c
      refine tt_iconst (q := 39) dX12_takes_38 ki_0 rfl ?_
      refine tt_goto (t := 48) dX12_takes_39 rfl ?_
      refine tt_iadd (q := 49) dX12_takes_48 rfl ?_
      refine sti_n_3 (q := 50) dX12_takes_49 rfl rfl rfl ?_
      refine tt_iload_n (q := 51) dX12_takes_50 rfl rfl ?_
      refine tt_iconst (q := 52) dX12_takes_51 ki_1 rfl ?_
      refine tt_icmp_ge (q := 55) (t := 59) dX12_takes_52 rfl rfl (fun c => ?_) (fun c => ?_)
      · replace h := h.1 c
        refine tt_iload_n (q := 60) dX12_takes_59 rfl rfl ?_
        exact tt_iret dX12_takes_60 ⟨rfl, _, rfl, h⟩
      · replace h := h.2 c
        refine tt_iconst (q := 56) dX12_takes_55 ki_1 rfl ?_
        refine tt_goto (t := 60) dX12_takes_56 rfl ?_
        exact tt_iret dX12_takes_60 ⟨rfl, _, rfl, h⟩
  · replace h := h.2 ((nI_eq l5 (by decide)).1 c)
    refine tt_aload_n (q := 19) dX12_takes_18 rfl rfl ?_
    refine tt_getR (q := 22) dX12_takes_19 fl_X12_13 or_102_1 (Nat.le_of_ble_eq_true rfl) rfl rfl ?_
    refine tt_bipush (q := 24) dX12_takes_22 bi_53 rfl ?_
    refine tt_iload_n (q := 25) dX12_takes_24 rfl rfl ?_
    refine tt_iconst (q := 26) dX12_takes_25 ki_2 rfl ?_
    obtain ⟨l15, h⟩ := h
    refine tt_idivN (q := 27) dX12_takes_26 l15 (by decide) (by decide) rfl ?_
    refine tt_iaddN (q := 28) dX12_takes_27 rfl ?_
    obtain ⟨l16, h⟩ := h
    refine tt_iald (q := 29) dX12_takes_28 ia_104 (Nat.le_of_ble_eq_true rfl) rfl l16 rfl ?_
    refine tt_goto (t := 33) dX12_takes_29 rfl ?_
    refine tt_iadd (q := 34) dX12_takes_33 rfl ?_
    refine tt_iload_n (q := 35) dX12_takes_34 rfl rfl ?_
    refine tt_if_ge (q := 38) (t := 42) dX12_takes_35 rfl rfl (fun c => ?_) (fun c => ?_)
    · replace h := h.1 c
      refine tt_aload_n (q := 43) dX12_takes_42 rfl rfl ?_
      refine tt_iload_n (q := 44) dX12_takes_43 rfl rfl ?_
      refine tt_iload_n (q := 45) dX12_takes_44 rfl rfl ?_
      refine callVi_2 (q := 48) dX12_takes_45 (⟨rfl, rfl, ⟨⟨_, _, rfl, rfl, (Nat.le_of_ble_eq_true rfl), rc_102⟩, Nat.le_of_ble_eq_true rfl, ?_⟩⟩) (Nat.le_of_ble_eq_true rfl) rfl (fun t19 r18 ht19 => ht19)
      refine (show TT cX12_afterOf RX12 false CT0 CN0 _ _ _ none 0 [_, _, _] [] _ _ from ?_)
      refine tt_aload_n (q := 1) dX12_afterOf_0 rfl rfl ?_
      refine tt_getR (q := 4) dX12_afterOf_1 fl_X12_13 or_102_1 (Nat.le_of_ble_eq_true rfl) rfl rfl ?_
      refine tt_bipush (q := 6) dX12_afterOf_4 bi_59 rfl ?_
      refine tt_bipush (q := 8) dX12_afterOf_6 bi_6 rfl ?_
      refine tt_iload_n (q := 9) dX12_afterOf_8 rfl rfl ?_
      refine tt_iconst (q := 10) dX12_afterOf_9 ki_2 rfl ?_
      refine tt_idiv (q := 11) dX12_afterOf_10 (by decide) rfl ?_
      refine tt_imul (q := 12) dX12_afterOf_11 rfl ?_
      refine tt_iadd (q := 13) dX12_afterOf_12 rfl ?_
      refine tt_iload_n (q := 14) dX12_afterOf_13 rfl rfl ?_
      refine tt_iconst (q := 15) dX12_afterOf_14 ki_2 rfl ?_
      obtain ⟨l20, h⟩ := h
      refine tt_idivN (q := 16) dX12_afterOf_15 l20 (by decide) (by decide) rfl ?_
      refine tt_iadd (q := 17) dX12_afterOf_16 rfl ?_
      obtain ⟨j22, e23, l21, h⟩ := h
      refine tt_iald (q := 18) dX12_afterOf_17 ia_104 (Nat.le_of_ble_eq_true rfl) e23 l21 rfl ?_
      refine tt_iret dX12_afterOf_18 ⟨rfl, _, rfl, ?_⟩
      refine tt_iadd (q := 49) dX12_takes_48 rfl ?_
      refine sti_n_3 (q := 50) dX12_takes_49 rfl rfl rfl ?_
      refine tt_iload_n (q := 51) dX12_takes_50 rfl rfl ?_
      refine tt_iconst (q := 52) dX12_takes_51 ki_1 rfl ?_
      refine tt_icmp_ge (q := 55) (t := 59) dX12_takes_52 rfl rfl (fun c => ?_) (fun c => ?_)
      · replace h := h.1 c
        refine tt_iload_n (q := 60) dX12_takes_59 rfl rfl ?_
        exact tt_iret dX12_takes_60 ⟨rfl, _, rfl, h⟩
      · replace h := h.2 c
        refine tt_iconst (q := 56) dX12_takes_55 ki_1 rfl ?_
        refine tt_goto (t := 60) dX12_takes_56 rfl ?_
        exact tt_iret dX12_takes_60 ⟨rfl, _, rfl, h⟩
    · replace h := h.2 c
      refine tt_iconst (q := 39) dX12_takes_38 ki_0 rfl ?_
      refine tt_goto (t := 48) dX12_takes_39 rfl ?_
      refine tt_iadd (q := 49) dX12_takes_48 rfl ?_
      refine sti_n_3 (q := 50) dX12_takes_49 rfl rfl rfl ?_
      refine tt_iload_n (q := 51) dX12_takes_50 rfl rfl ?_
      refine tt_iconst (q := 52) dX12_takes_51 ki_1 rfl ?_
      refine tt_icmp_ge (q := 55) (t := 59) dX12_takes_52 rfl rfl (fun c => ?_) (fun c => ?_)
      · replace h := h.1 c
        refine tt_iload_n (q := 60) dX12_takes_59 rfl rfl ?_
        exact tt_iret dX12_takes_60 ⟨rfl, _, rfl, h⟩
      · replace h := h.2 c
        refine tt_iconst (q := 56) dX12_takes_55 ki_1 rfl ?_
        refine tt_goto (t := 60) dX12_takes_56 rfl ?_
        exact tt_iret dX12_takes_60 ⟨rfl, _, rfl, h⟩

theorem g_X12_kind_0 {post : SG → Int32 → Prop} {σ : SG} {a : Int32} {b : Int32} (h : ((a < 0 → (∀ s8 : SG, s8 = up σ 103 1 ((σ 103 1) + (nI 1)) → post s8 (-1 : Int32))) ∧ (¬ a < 0 → (((σ 104 1) ≤ a → (∀ s12 : SG, s12 = up σ 103 1 ((σ 103 1) + (nI 1)) → post s12 (-1 : Int32))) ∧ (¬ (σ 104 1) ≤ a → (∃ j16 : Nat, ((nI 95) + ((nI 9) * a)) = nI j16 ∧ j16 < 197 ∧ ((b < 0 → post σ (-9 : Int32)) ∧ (¬ b < 0 → (((σ 104 j16) ≤ b → post σ (-9 : Int32)) ∧ (¬ (σ 104 j16) ≤ b → ((¬ b = 0 → (∃ j26 : Nat, ((((nI 95) + ((nI 9) * a)) + (nI 1)) + (b - (nI 1))) = nI j26 ∧ j26 < 197 ∧ (∃ j31 : Nat, ((((nI 95) + ((nI 9) * a)) + (nI 1)) + b) = nI j31 ∧ j31 < 197 ∧ ((¬ ((σ 104 j26) / (nI 2)) = ((σ 104 j31) / (nI 2)) → (∃ j37 : Nat, (((nI 59) + ((nI 6) * ((σ 104 j26) / (nI 2)))) + ((σ 104 j31) / (nI 2))) = nI j37 ∧ j37 < 197 ∧ ((0 ≤ (σ 104 j37) → (((σ 104 j37) ≤ 0 → post σ (nI 0)) ∧ (¬ (σ 104 j37) ≤ 0 → post σ (nI 2)))) ∧ (¬ 0 ≤ (σ 104 j37) → post σ (nI 1))))) ∧ (((σ 104 j26) / (nI 2)) = ((σ 104 j31) / (nI 2)) → (((σ 104 j26) = (σ 104 j31) → (∃ j45 : Nat, (((nI 59) + ((nI 6) * ((σ 104 j26) / (nI 2)))) + ((σ 104 j31) / (nI 2))) = nI j45 ∧ j45 < 197 ∧ ((0 ≤ (σ 104 j45) → (((σ 104 j45) ≤ 0 → post σ (nI 0)) ∧ (¬ (σ 104 j45) ≤ 0 → post σ (nI 2)))) ∧ (¬ 0 ≤ (σ 104 j45) → post σ (nI 1))))) ∧ (¬ (σ 104 j26) = (σ 104 j31) → post σ (nI 3)))))))) ∧ (b = 0 → post σ (nI 0))))))))))))) : T_X12_kind AF post 0 [.ref 102, .int a, .int b, dum, dum, dum] [] σ := by
  refine tt_aload_n (q := 1) dX12_kind_0 rfl rfl ?_
  refine tt_iload_n (q := 2) dX12_kind_1 rfl rfl ?_
  refine callVi_1 (q := 5) dX12_kind_2 (Or.inl ⟨rfl, rfl, ⟨⟨_, _, rfl, rfl, (Nat.le_of_ble_eq_true rfl), rc_102⟩, Nat.le_of_ble_eq_true rfl, ?_⟩⟩) (Nat.le_of_ble_eq_true rfl) rfl (fun t2 r1 ht2 => ht2)
  refine (show TT cX12_isRow RX12 false CT_X12_isRow CN0 _ _ _ none 0 [_, _] [] _ _ from ?_)
  refine tt_iload_n (q := 1) dX12_isRow_0 rfl rfl ?_
  refine tt_aload_n (q := 2) dX12_isRow_1 rfl rfl ?_
  refine tt_getR (q := 5) dX12_isRow_2 fl_X12_13 or_102_1 (Nat.le_of_ble_eq_true rfl) rfl rfl ?_
  refine tt_iconst (q := 6) dX12_isRow_5 ki_1 rfl ?_
  refine tt_iald (q := 7) dX12_isRow_6 ia_104 (Nat.le_of_ble_eq_true rfl) rfl (Nat.le_of_ble_eq_true rfl : 1 < 197) rfl ?_
  refine callSi_2 (q := 10) dX12_isRow_7 (⟨rfl, rfl, ⟨rfl, Nat.le_of_ble_eq_true rfl, ?_⟩⟩) (Nat.le_of_ble_eq_true rfl) rfl (fun t4 r3 ht4 => ht4)
  refine (show TT cX12_isIn RX12 false CT0 CN0 _ _ _ none 0 [_, _] [] _ _ from ?_)
  refine tt_iload_n (q := 1) dX12_isIn_0 rfl rfl ?_
  refine tt_if_lt (q := 4) (t := 13) dX12_isIn_1 rfl rfl (fun c => ?_) (fun c => ?_)
  · replace h := h.1 c
    refine tt_iconst (q := 14) dX12_isIn_13 ki_0 rfl ?_
    refine tt_iret dX12_isIn_14 ⟨rfl, _, rfl, Or.inl nI_0, ?_⟩
    refine tt_iret dX12_isRow_10 ⟨rfl, _, rfl, Or.inl nI_0, ?_⟩
    refine tt_if_ne (q := 8) (t := 14) dX12_kind_5 rfl rfl (fun c => absurd c (by decide)) (fun c => ?_)
    clear c
    refine tt_aload_n (q := 9) dX12_kind_8 rfl rfl ?_
    refine tt_iconst (q := 10) dX12_kind_9 ki_m1 rfl ?_
    refine callVi_1 (q := 13) dX12_kind_10 (Or.inr (Or.inl ⟨rfl, rfl, ⟨⟨_, _, rfl, rfl, (Nat.le_of_ble_eq_true rfl), rc_102⟩, Nat.le_of_ble_eq_true rfl, ?_⟩⟩)) (Nat.le_of_ble_eq_true rfl) rfl (fun t7 r6 ht7 => ht7)
    refine (show TT cX12_refuse RX12 false CT0 CN0 _ _ _ none 0 [_, _] [] _ _ from ?_)
    refine tt_aload_n (q := 1) dX12_refuse_0 rfl rfl ?_
    refine tt_getR (q := 4) dX12_refuse_1 fl_X12_7 or_102_0 (Nat.le_of_ble_eq_true rfl) rfl rfl ?_
    refine tt_iload_n (q := 5) dX12_refuse_4 rfl rfl ?_
    refine tt_inegE (v := nI 1) (q := 6) dX12_refuse_5 (by decide) rfl ?_
    refine tt_dup2 (q := 7) dX12_refuse_6 rfl rfl rfl ?_
    refine tt_iald (q := 8) dX12_refuse_7 ia_103 (Nat.le_of_ble_eq_true rfl) rfl (Nat.le_of_ble_eq_true rfl : 1 < 7) rfl ?_
    refine tt_iconst (q := 9) dX12_refuse_8 ki_1 rfl ?_
    refine tt_iadd (q := 10) dX12_refuse_9 rfl ?_
    refine tt_iast (q := 11) dX12_refuse_10 ia_103 (Nat.le_of_ble_eq_true rfl) rfl (Nat.le_of_ble_eq_true rfl : 1 < 7) rfl ?_
    replace h := h _ rfl
    refine tt_iload_n (q := 12) dX12_refuse_11 rfl rfl ?_
    refine tt_iret dX12_refuse_12 ⟨rfl, _, rfl, ?_⟩
    exact tt_iret dX12_kind_13 ⟨rfl, _, rfl, h⟩
  · replace h := h.2 c
    refine tt_iload_n (q := 5) dX12_isIn_4 rfl rfl ?_
    refine tt_iload_n (q := 6) dX12_isIn_5 rfl rfl ?_
    refine tt_icmp_ge (q := 9) (t := 13) dX12_isIn_6 rfl rfl (fun c => ?_) (fun c => ?_)
    · replace h := h.1 c
      refine tt_iconst (q := 14) dX12_isIn_13 ki_0 rfl ?_
      refine tt_iret dX12_isIn_14 ⟨rfl, _, rfl, Or.inl nI_0, ?_⟩
      refine tt_iret dX12_isRow_10 ⟨rfl, _, rfl, Or.inl nI_0, ?_⟩
      refine tt_if_ne (q := 8) (t := 14) dX12_kind_5 rfl rfl (fun c => absurd c (by decide)) (fun c => ?_)
      clear c
      refine tt_aload_n (q := 9) dX12_kind_8 rfl rfl ?_
      refine tt_iconst (q := 10) dX12_kind_9 ki_m1 rfl ?_
      refine callVi_1 (q := 13) dX12_kind_10 (Or.inr (Or.inl ⟨rfl, rfl, ⟨⟨_, _, rfl, rfl, (Nat.le_of_ble_eq_true rfl), rc_102⟩, Nat.le_of_ble_eq_true rfl, ?_⟩⟩)) (Nat.le_of_ble_eq_true rfl) rfl (fun t11 r10 ht11 => ht11)
      refine (show TT cX12_refuse RX12 false CT0 CN0 _ _ _ none 0 [_, _] [] _ _ from ?_)
      refine tt_aload_n (q := 1) dX12_refuse_0 rfl rfl ?_
      refine tt_getR (q := 4) dX12_refuse_1 fl_X12_7 or_102_0 (Nat.le_of_ble_eq_true rfl) rfl rfl ?_
      refine tt_iload_n (q := 5) dX12_refuse_4 rfl rfl ?_
      refine tt_inegE (v := nI 1) (q := 6) dX12_refuse_5 (by decide) rfl ?_
      refine tt_dup2 (q := 7) dX12_refuse_6 rfl rfl rfl ?_
      refine tt_iald (q := 8) dX12_refuse_7 ia_103 (Nat.le_of_ble_eq_true rfl) rfl (Nat.le_of_ble_eq_true rfl : 1 < 7) rfl ?_
      refine tt_iconst (q := 9) dX12_refuse_8 ki_1 rfl ?_
      refine tt_iadd (q := 10) dX12_refuse_9 rfl ?_
      refine tt_iast (q := 11) dX12_refuse_10 ia_103 (Nat.le_of_ble_eq_true rfl) rfl (Nat.le_of_ble_eq_true rfl : 1 < 7) rfl ?_
      replace h := h _ rfl
      refine tt_iload_n (q := 12) dX12_refuse_11 rfl rfl ?_
      refine tt_iret dX12_refuse_12 ⟨rfl, _, rfl, ?_⟩
      exact tt_iret dX12_kind_13 ⟨rfl, _, rfl, h⟩
    · replace h := h.2 c
      refine tt_iconst (q := 10) dX12_isIn_9 ki_1 rfl ?_
      refine tt_goto (t := 14) dX12_isIn_10 rfl ?_
      refine tt_iret dX12_isIn_14 ⟨rfl, _, rfl, Or.inr rfl, ?_⟩
      refine tt_iret dX12_isRow_10 ⟨rfl, _, rfl, Or.inr rfl, ?_⟩
      refine tt_if_ne (q := 8) (t := 14) dX12_kind_5 rfl rfl (fun c => ?_) (fun c => absurd c (by decide))
      clear c
      refine tt_iload_n (q := 15) dX12_kind_14 rfl rfl ?_
      refine tt_aload_n (q := 16) dX12_kind_15 rfl rfl ?_
      refine tt_iload_n (q := 17) dX12_kind_16 rfl rfl ?_
      refine callVi_1 (q := 20) dX12_kind_17 (Or.inr (Or.inr (Or.inl ⟨rfl, rfl, ⟨⟨_, _, rfl, rfl, (Nat.le_of_ble_eq_true rfl), rc_102⟩, Nat.le_of_ble_eq_true rfl, ?_⟩⟩))) (Nat.le_of_ble_eq_true rfl) rfl (fun t14 r13 ht14 => ht14)
      refine (show TT cX12_size RX12 false CT0 CN0 _ _ _ none 0 [_, _] [] _ _ from ?_)
      refine tt_aload_n (q := 1) dX12_size_0 rfl rfl ?_
      refine tt_getR (q := 4) dX12_size_1 fl_X12_13 or_102_1 (Nat.le_of_ble_eq_true rfl) rfl rfl ?_
      refine tt_bipush (q := 6) dX12_size_4 bi_95 rfl ?_
      refine tt_bipush (q := 8) dX12_size_6 bi_9 rfl ?_
      refine tt_iload_n (q := 9) dX12_size_8 rfl rfl ?_
      refine tt_imul (q := 10) dX12_size_9 rfl ?_
      refine tt_iadd (q := 11) dX12_size_10 rfl ?_
      obtain ⟨j16, e17, l15, h⟩ := h
      refine tt_iald (q := 12) dX12_size_11 ia_104 (Nat.le_of_ble_eq_true rfl) e17 l15 rfl ?_
      refine tt_iret dX12_size_12 ⟨rfl, _, rfl, ?_⟩
      refine callSi_2 (q := 23) dX12_kind_20 (Or.inr (Or.inr (Or.inr (Or.inl ⟨rfl, rfl, ⟨rfl, Nat.le_of_ble_eq_true rfl, ?_⟩⟩)))) (Nat.le_of_ble_eq_true rfl) rfl (fun t19 r18 ht19 => ht19)
      refine (show TT cX12_isIn RX12 false CT0 CN0 _ _ _ none 0 [_, _] [] _ _ from ?_)
      refine tt_iload_n (q := 1) dX12_isIn_0 rfl rfl ?_
      refine tt_if_lt (q := 4) (t := 13) dX12_isIn_1 rfl rfl (fun c => ?_) (fun c => ?_)
      · replace h := h.1 c
        refine tt_iconst (q := 14) dX12_isIn_13 ki_0 rfl ?_
        refine tt_iret dX12_isIn_14 ⟨rfl, _, rfl, Or.inl nI_0, ?_⟩
        refine tt_if_ne (q := 26) (t := 29) dX12_kind_23 rfl rfl (fun c => absurd c (by decide)) (fun c => ?_)
        clear c
        refine tt_bipush (q := 28) dX12_kind_26 bi_m9 rfl ?_
        exact tt_iret dX12_kind_28 ⟨rfl, _, rfl, h⟩
      · replace h := h.2 c
        refine tt_iload_n (q := 5) dX12_isIn_4 rfl rfl ?_
        refine tt_iload_n (q := 6) dX12_isIn_5 rfl rfl ?_
        refine tt_icmp_ge (q := 9) (t := 13) dX12_isIn_6 rfl rfl (fun c => ?_) (fun c => ?_)
        · replace h := h.1 c
          refine tt_iconst (q := 14) dX12_isIn_13 ki_0 rfl ?_
          refine tt_iret dX12_isIn_14 ⟨rfl, _, rfl, Or.inl nI_0, ?_⟩
          refine tt_if_ne (q := 26) (t := 29) dX12_kind_23 rfl rfl (fun c => absurd c (by decide)) (fun c => ?_)
          clear c
          refine tt_bipush (q := 28) dX12_kind_26 bi_m9 rfl ?_
          exact tt_iret dX12_kind_28 ⟨rfl, _, rfl, h⟩
        · replace h := h.2 c
          refine tt_iconst (q := 10) dX12_isIn_9 ki_1 rfl ?_
          refine tt_goto (t := 14) dX12_isIn_10 rfl ?_
          refine tt_iret dX12_isIn_14 ⟨rfl, _, rfl, Or.inr rfl, ?_⟩
          refine tt_if_ne (q := 26) (t := 29) dX12_kind_23 rfl rfl (fun c => ?_) (fun c => absurd c (by decide))
          clear c
          refine tt_iload_n (q := 30) dX12_kind_29 rfl rfl ?_
          refine tt_if_ne (q := 33) (t := 35) dX12_kind_30 rfl rfl (fun c => ?_) (fun c => ?_)
          · replace h := h.1 c
            refine tt_aload_n (q := 36) dX12_kind_35 rfl rfl ?_
            refine tt_iload_n (q := 37) dX12_kind_36 rfl rfl ?_
            refine tt_iload_n (q := 38) dX12_kind_37 rfl rfl ?_
            refine tt_iconst (q := 39) dX12_kind_38 ki_1 rfl ?_
            refine tt_isub (q := 40) dX12_kind_39 rfl ?_
            refine callVi_2 (q := 43) dX12_kind_40 (Or.inr (Or.inr (Or.inr (Or.inr (Or.inl ⟨rfl, rfl, ⟨⟨_, _, rfl, rfl, (Nat.le_of_ble_eq_true rfl), rc_102⟩, Nat.le_of_ble_eq_true rfl, ?_⟩⟩))))) (Nat.le_of_ble_eq_true rfl) rfl (fun t24 r23 ht24 => ht24)
            refine (show TT cX12_moveOf RX12 false CT0 CN0 _ _ _ none 0 [_, _, _] [] _ _ from ?_)
            refine tt_aload_n (q := 1) dX12_moveOf_0 rfl rfl ?_
            refine tt_getR (q := 4) dX12_moveOf_1 fl_X12_13 or_102_1 (Nat.le_of_ble_eq_true rfl) rfl rfl ?_
            refine tt_bipush (q := 6) dX12_moveOf_4 bi_95 rfl ?_
            refine tt_bipush (q := 8) dX12_moveOf_6 bi_9 rfl ?_
            refine tt_iload_n (q := 9) dX12_moveOf_8 rfl rfl ?_
            refine tt_imul (q := 10) dX12_moveOf_9 rfl ?_
            refine tt_iadd (q := 11) dX12_moveOf_10 rfl ?_
            refine tt_iconst (q := 12) dX12_moveOf_11 ki_1 rfl ?_
            refine tt_iadd (q := 13) dX12_moveOf_12 rfl ?_
            refine tt_iload_n (q := 14) dX12_moveOf_13 rfl rfl ?_
            refine tt_iadd (q := 15) dX12_moveOf_14 rfl ?_
            obtain ⟨j26, e27, l25, h⟩ := h
            refine tt_iald (q := 16) dX12_moveOf_15 ia_104 (Nat.le_of_ble_eq_true rfl) e27 l25 rfl ?_
            refine tt_iret dX12_moveOf_16 ⟨rfl, _, rfl, ?_⟩
            refine sti_n_3 (q := 44) dX12_kind_43 rfl rfl rfl ?_
            refine tt_aload_n (q := 45) dX12_kind_44 rfl rfl ?_
            refine tt_iload_n (q := 46) dX12_kind_45 rfl rfl ?_
            refine tt_iload_n (q := 47) dX12_kind_46 rfl rfl ?_
            refine callVi_2 (q := 50) dX12_kind_47 (Or.inr (Or.inr (Or.inr (Or.inr (Or.inl ⟨rfl, rfl, ⟨⟨_, _, rfl, rfl, (Nat.le_of_ble_eq_true rfl), rc_102⟩, Nat.le_of_ble_eq_true rfl, ?_⟩⟩))))) (Nat.le_of_ble_eq_true rfl) rfl (fun t29 r28 ht29 => ht29)
            refine (show TT cX12_moveOf RX12 false CT0 CN0 _ _ _ none 0 [_, _, _] [] _ _ from ?_)
            refine tt_aload_n (q := 1) dX12_moveOf_0 rfl rfl ?_
            refine tt_getR (q := 4) dX12_moveOf_1 fl_X12_13 or_102_1 (Nat.le_of_ble_eq_true rfl) rfl rfl ?_
            refine tt_bipush (q := 6) dX12_moveOf_4 bi_95 rfl ?_
            refine tt_bipush (q := 8) dX12_moveOf_6 bi_9 rfl ?_
            refine tt_iload_n (q := 9) dX12_moveOf_8 rfl rfl ?_
            refine tt_imul (q := 10) dX12_moveOf_9 rfl ?_
            refine tt_iadd (q := 11) dX12_moveOf_10 rfl ?_
            refine tt_iconst (q := 12) dX12_moveOf_11 ki_1 rfl ?_
            refine tt_iadd (q := 13) dX12_moveOf_12 rfl ?_
            refine tt_iload_n (q := 14) dX12_moveOf_13 rfl rfl ?_
            refine tt_iadd (q := 15) dX12_moveOf_14 rfl ?_
            obtain ⟨j31, e32, l30, h⟩ := h
            refine tt_iald (q := 16) dX12_moveOf_15 ia_104 (Nat.le_of_ble_eq_true rfl) e32 l30 rfl ?_
            refine tt_iret dX12_moveOf_16 ⟨rfl, _, rfl, ?_⟩
            refine sti_4 (q := 52) dX12_kind_50 rfl rfl ?_
            refine tt_iload_n (q := 53) dX12_kind_52 rfl rfl ?_
            refine tt_iconst (q := 54) dX12_kind_53 ki_2 rfl ?_
            refine tt_idiv (q := 55) dX12_kind_54 (by decide) rfl ?_
            refine tt_iload (q := 57) dX12_kind_55 rfl rfl ?_
            refine tt_iconst (q := 58) dX12_kind_57 ki_2 rfl ?_
            refine tt_idiv (q := 59) dX12_kind_58 (by decide) rfl ?_
            refine tt_icmp_ne (q := 62) (t := 70) dX12_kind_59 rfl rfl (fun c => ?_) (fun c => ?_)
            · replace h := h.1 c
              refine tt_aload_n (q := 71) dX12_kind_70 rfl rfl ?_
              refine tt_iload_n (q := 72) dX12_kind_71 rfl rfl ?_
              refine tt_iload (q := 74) dX12_kind_72 rfl rfl ?_
              refine callVi_2 (q := 77) dX12_kind_74 (Or.inr (Or.inr (Or.inr (Or.inr (Or.inr (⟨rfl, rfl, ⟨⟨_, _, rfl, rfl, (Nat.le_of_ble_eq_true rfl), rc_102⟩, Nat.le_of_ble_eq_true rfl, ?_⟩⟩)))))) (Nat.le_of_ble_eq_true rfl) rfl (fun t35 r34 ht35 => ht35)
              refine (show TT cX12_afterOf RX12 false CT0 CN0 _ _ _ none 0 [_, _, _] [] _ _ from ?_)
              refine tt_aload_n (q := 1) dX12_afterOf_0 rfl rfl ?_
              refine tt_getR (q := 4) dX12_afterOf_1 fl_X12_13 or_102_1 (Nat.le_of_ble_eq_true rfl) rfl rfl ?_
              refine tt_bipush (q := 6) dX12_afterOf_4 bi_59 rfl ?_
              refine tt_bipush (q := 8) dX12_afterOf_6 bi_6 rfl ?_
              refine tt_iload_n (q := 9) dX12_afterOf_8 rfl rfl ?_
              refine tt_iconst (q := 10) dX12_afterOf_9 ki_2 rfl ?_
              refine tt_idiv (q := 11) dX12_afterOf_10 (by decide) rfl ?_
              refine tt_imul (q := 12) dX12_afterOf_11 rfl ?_
              refine tt_iadd (q := 13) dX12_afterOf_12 rfl ?_
              refine tt_iload_n (q := 14) dX12_afterOf_13 rfl rfl ?_
              refine tt_iconst (q := 15) dX12_afterOf_14 ki_2 rfl ?_
              refine tt_idiv (q := 16) dX12_afterOf_15 (by decide) rfl ?_
              refine tt_iadd (q := 17) dX12_afterOf_16 rfl ?_
              obtain ⟨j37, e38, l36, h⟩ := h
              refine tt_iald (q := 18) dX12_afterOf_17 ia_104 (Nat.le_of_ble_eq_true rfl) e38 l36 rfl ?_
              refine tt_iret dX12_afterOf_18 ⟨rfl, _, rfl, ?_⟩
              refine sti_5 (q := 79) dX12_kind_77 rfl rfl ?_
              refine tt_iload (q := 81) dX12_kind_79 rfl rfl ?_
              refine tt_if_ge (q := 84) (t := 88) dX12_kind_81 rfl rfl (fun c => ?_) (fun c => ?_)
              · replace h := h.1 c
                refine tt_iload (q := 90) dX12_kind_88 rfl rfl ?_
                refine tt_if_le (q := 93) (t := 97) dX12_kind_90 rfl rfl (fun c => ?_) (fun c => ?_)
                · replace h := h.1 c
                  refine tt_iconst (q := 98) dX12_kind_97 ki_0 rfl ?_
                  exact tt_iret dX12_kind_98 ⟨rfl, _, rfl, h⟩
                · replace h := h.2 c
                  refine tt_iconst (q := 94) dX12_kind_93 ki_2 rfl ?_
                  refine tt_goto (t := 98) dX12_kind_94 rfl ?_
                  exact tt_iret dX12_kind_98 ⟨rfl, _, rfl, h⟩
              · replace h := h.2 c
                refine tt_iconst (q := 85) dX12_kind_84 ki_1 rfl ?_
                refine tt_goto (t := 98) dX12_kind_85 rfl ?_
                exact tt_iret dX12_kind_98 ⟨rfl, _, rfl, h⟩
            · replace h := h.2 c
              refine tt_iload_n (q := 63) dX12_kind_62 rfl rfl ?_
              refine tt_iload (q := 65) dX12_kind_63 rfl rfl ?_
              refine tt_icmp_eq (q := 68) (t := 70) dX12_kind_65 rfl rfl (fun c => ?_) (fun c => ?_)
              · replace h := h.1 c
                refine tt_aload_n (q := 71) dX12_kind_70 rfl rfl ?_
                refine tt_iload_n (q := 72) dX12_kind_71 rfl rfl ?_
                refine tt_iload (q := 74) dX12_kind_72 rfl rfl ?_
                refine callVi_2 (q := 77) dX12_kind_74 (Or.inr (Or.inr (Or.inr (Or.inr (Or.inr (⟨rfl, rfl, ⟨⟨_, _, rfl, rfl, (Nat.le_of_ble_eq_true rfl), rc_102⟩, Nat.le_of_ble_eq_true rfl, ?_⟩⟩)))))) (Nat.le_of_ble_eq_true rfl) rfl (fun t43 r42 ht43 => ht43)
                refine (show TT cX12_afterOf RX12 false CT0 CN0 _ _ _ none 0 [_, _, _] [] _ _ from ?_)
                refine tt_aload_n (q := 1) dX12_afterOf_0 rfl rfl ?_
                refine tt_getR (q := 4) dX12_afterOf_1 fl_X12_13 or_102_1 (Nat.le_of_ble_eq_true rfl) rfl rfl ?_
                refine tt_bipush (q := 6) dX12_afterOf_4 bi_59 rfl ?_
                refine tt_bipush (q := 8) dX12_afterOf_6 bi_6 rfl ?_
                refine tt_iload_n (q := 9) dX12_afterOf_8 rfl rfl ?_
                refine tt_iconst (q := 10) dX12_afterOf_9 ki_2 rfl ?_
                refine tt_idiv (q := 11) dX12_afterOf_10 (by decide) rfl ?_
                refine tt_imul (q := 12) dX12_afterOf_11 rfl ?_
                refine tt_iadd (q := 13) dX12_afterOf_12 rfl ?_
                refine tt_iload_n (q := 14) dX12_afterOf_13 rfl rfl ?_
                refine tt_iconst (q := 15) dX12_afterOf_14 ki_2 rfl ?_
                refine tt_idiv (q := 16) dX12_afterOf_15 (by decide) rfl ?_
                refine tt_iadd (q := 17) dX12_afterOf_16 rfl ?_
                obtain ⟨j45, e46, l44, h⟩ := h
                refine tt_iald (q := 18) dX12_afterOf_17 ia_104 (Nat.le_of_ble_eq_true rfl) e46 l44 rfl ?_
                refine tt_iret dX12_afterOf_18 ⟨rfl, _, rfl, ?_⟩
                refine sti_5 (q := 79) dX12_kind_77 rfl rfl ?_
                refine tt_iload (q := 81) dX12_kind_79 rfl rfl ?_
                refine tt_if_ge (q := 84) (t := 88) dX12_kind_81 rfl rfl (fun c => ?_) (fun c => ?_)
                · replace h := h.1 c
                  refine tt_iload (q := 90) dX12_kind_88 rfl rfl ?_
                  refine tt_if_le (q := 93) (t := 97) dX12_kind_90 rfl rfl (fun c => ?_) (fun c => ?_)
                  · replace h := h.1 c
                    refine tt_iconst (q := 98) dX12_kind_97 ki_0 rfl ?_
                    exact tt_iret dX12_kind_98 ⟨rfl, _, rfl, h⟩
                  · replace h := h.2 c
                    refine tt_iconst (q := 94) dX12_kind_93 ki_2 rfl ?_
                    refine tt_goto (t := 98) dX12_kind_94 rfl ?_
                    exact tt_iret dX12_kind_98 ⟨rfl, _, rfl, h⟩
                · replace h := h.2 c
                  refine tt_iconst (q := 85) dX12_kind_84 ki_1 rfl ?_
                  refine tt_goto (t := 98) dX12_kind_85 rfl ?_
                  exact tt_iret dX12_kind_98 ⟨rfl, _, rfl, h⟩
              · replace h := h.2 c
                refine tt_iconst (q := 69) dX12_kind_68 ki_3 rfl ?_
                exact tt_iret dX12_kind_69 ⟨rfl, _, rfl, h⟩
          · replace h := h.2 c
            refine tt_iconst (q := 34) dX12_kind_33 ki_0 rfl ?_
            exact tt_iret dX12_kind_34 ⟨rfl, _, rfl, h⟩

theorem g_X12_secondsOf_0 {post : SG → Int32 → Prop} {σ : SG} {r : Nat} (h : T_X12_secondsOf AF post 4 [.ref 102, .int (nI r), .int (nI 0), .int (nI 0)] [] σ) : T_X12_secondsOf AF post 0 [.ref 102, .int (nI r), dum, dum] [] σ := by
  refine tt_iconst (q := 1) dX12_secondsOf_0 ki_0 rfl ?_
  refine sti_n_2 (q := 2) dX12_secondsOf_1 rfl rfl rfl ?_
  refine tt_iconst (q := 3) dX12_secondsOf_2 ki_0 rfl ?_
  refine sti_n_3 (q := 4) dX12_secondsOf_3 rfl rfl rfl ?_
  exact h
theorem g_X12_secondsOf_4 {post : SG → Int32 → Prop} {σ : SG} {r : Nat} {v : Int32} {i : Nat} (h : (95 + (9 * r) < 197 ∧ (((σ 104 (95 + (9 * r))) ≤ (nI i) → post σ v) ∧ (¬ (σ 104 (95 + (9 * r))) ≤ (nI i) → (i < 2 ^ 31 ∧ ((¬ i = 0 → (1 ≤ i ∧ (95 + (9 * r) + 1 + (i - 1) < 197 ∧ (95 + (9 * r) + 1 + i < 197 ∧ (∃ p18 : SG → Int32 → Prop, IN_X12_takes AF σ [.ref 102, .int (σ 104 (95 + (9 * r) + 1 + (i - 1))), .int (σ 104 (95 + (9 * r) + 1 + i))] p18 ∧ ∀ (t17 : SG) (r16 : Int32), p18 t17 r16 → T_X12_secondsOf AF post 4 [.ref 102, .int (nI r), .int (v + r16), .int (nI (i + 1))] [] t17))))) ∧ (i = 0 → (95 + (9 * r) + 1 + i < 197 ∧ (∃ p26 : SG → Int32 → Prop, IN_X12_takes AF σ [.ref 102, .int (-9 : Int32), .int (σ 104 (95 + (9 * r) + 1 + i))] p26 ∧ ∀ (t25 : SG) (r24 : Int32), p26 t25 r24 → T_X12_secondsOf AF post 4 [.ref 102, .int (nI r), .int (v + r24), .int (nI (i + 1))] [] t25))))))))) : T_X12_secondsOf AF post 4 [.ref 102, .int (nI r), .int v, .int (nI i)] [] σ := by
  refine tt_iload_n (q := 5) dX12_secondsOf_4 rfl rfl ?_
  refine tt_aload_n (q := 6) dX12_secondsOf_5 rfl rfl ?_
  refine tt_iload_n (q := 7) dX12_secondsOf_6 rfl rfl ?_
  refine callVi_1 (q := 10) dX12_secondsOf_7 (Or.inl ⟨rfl, rfl, ⟨⟨_, _, rfl, rfl, (Nat.le_of_ble_eq_true rfl), rc_102⟩, Nat.le_of_ble_eq_true rfl, ?_⟩⟩) (Nat.le_of_ble_eq_true rfl) rfl (fun t2 r1 ht2 => ht2)
  refine (show TT cX12_size RX12 false CT0 CN0 _ _ _ none 0 [_, _] [] _ _ from ?_)
  refine tt_aload_n (q := 1) dX12_size_0 rfl rfl ?_
  refine tt_getR (q := 4) dX12_size_1 fl_X12_13 or_102_1 (Nat.le_of_ble_eq_true rfl) rfl rfl ?_
  refine tt_bipush (q := 6) dX12_size_4 bi_95 rfl ?_
  refine tt_bipush (q := 8) dX12_size_6 bi_9 rfl ?_
  refine tt_iload_n (q := 9) dX12_size_8 rfl rfl ?_
  refine tt_imulN (q := 10) dX12_size_9 rfl ?_
  refine tt_iaddN (q := 11) dX12_size_10 rfl ?_
  obtain ⟨l3, h⟩ := h
  refine tt_iald (q := 12) dX12_size_11 ia_104 (Nat.le_of_ble_eq_true rfl) rfl l3 rfl ?_
  refine tt_iret dX12_size_12 ⟨rfl, _, rfl, ?_⟩
  refine tt_icmp_ge (q := 13) (t := 28) dX12_secondsOf_10 rfl rfl (fun c => ?_) (fun c => ?_)
  · replace h := h.1 c
    refine tt_iload_n (q := 29) dX12_secondsOf_28 rfl rfl ?_
    exact tt_iret dX12_secondsOf_29 ⟨rfl, _, rfl, h⟩
  · replace h := h.2 c
    refine tt_iload_n (q := 14) dX12_secondsOf_13 rfl rfl ?_
    refine tt_aload_n (q := 15) dX12_secondsOf_14 rfl rfl ?_
    refine tt_iload_n (q := 16) dX12_secondsOf_15 rfl rfl ?_
    refine tt_iload_n (q := 17) dX12_secondsOf_16 rfl rfl ?_
    refine callVi_2 (q := 20) dX12_secondsOf_17 (Or.inr (⟨rfl, rfl, ⟨⟨_, _, rfl, rfl, (Nat.le_of_ble_eq_true rfl), rc_102⟩, Nat.le_of_ble_eq_true rfl, ?_⟩⟩)) (Nat.le_of_ble_eq_true rfl) rfl (fun t6 r5 ht6 => ht6)
    refine (show TT cX12_takesOf RX12 false CT_X12_takesOf CN0 _ _ _ none 0 [_, _, _] [] _ _ from ?_)
    refine tt_aload_n (q := 1) dX12_takesOf_0 rfl rfl ?_
    refine tt_iload_n (q := 2) dX12_takesOf_1 rfl rfl ?_
    obtain ⟨l8, h⟩ := h
    refine tt_if_ne (q := 5) (t := 10) dX12_takesOf_2 rfl rfl (fun c => ?_) (fun c => ?_)
    · replace h := h.1 (fun z => c ((nI_eq l8 (by decide)).2 z))
      refine tt_aload_n (q := 11) dX12_takesOf_10 rfl rfl ?_
      refine tt_iload_n (q := 12) dX12_takesOf_11 rfl rfl ?_
      refine tt_iload_n (q := 13) dX12_takesOf_12 rfl rfl ?_
      refine tt_iconst (q := 14) dX12_takesOf_13 ki_1 rfl ?_
      obtain ⟨l9, h⟩ := h
      refine tt_isubN (q := 15) dX12_takesOf_14 l9 rfl ?_
      refine callVi_2 (q := 18) dX12_takesOf_15 (Or.inl ⟨rfl, rfl, ⟨⟨_, _, rfl, rfl, (Nat.le_of_ble_eq_true rfl), rc_102⟩, Nat.le_of_ble_eq_true rfl, ?_⟩⟩) (Nat.le_of_ble_eq_true rfl) rfl (fun t11 r10 ht11 => ht11)
      refine (show TT cX12_moveOf RX12 false CT0 CN0 _ _ _ none 0 [_, _, _] [] _ _ from ?_)
      refine tt_aload_n (q := 1) dX12_moveOf_0 rfl rfl ?_
      refine tt_getR (q := 4) dX12_moveOf_1 fl_X12_13 or_102_1 (Nat.le_of_ble_eq_true rfl) rfl rfl ?_
      refine tt_bipush (q := 6) dX12_moveOf_4 bi_95 rfl ?_
      refine tt_bipush (q := 8) dX12_moveOf_6 bi_9 rfl ?_
      refine tt_iload_n (q := 9) dX12_moveOf_8 rfl rfl ?_
      refine tt_imulN (q := 10) dX12_moveOf_9 rfl ?_
      refine tt_iaddN (q := 11) dX12_moveOf_10 rfl ?_
      refine tt_iconst (q := 12) dX12_moveOf_11 ki_1 rfl ?_
      refine tt_iaddN (q := 13) dX12_moveOf_12 rfl ?_
      refine tt_iload_n (q := 14) dX12_moveOf_13 rfl rfl ?_
      refine tt_iaddN (q := 15) dX12_moveOf_14 rfl ?_
      obtain ⟨l12, h⟩ := h
      refine tt_iald (q := 16) dX12_moveOf_15 ia_104 (Nat.le_of_ble_eq_true rfl) rfl l12 rfl ?_
      refine tt_iret dX12_moveOf_16 ⟨rfl, _, rfl, ?_⟩
      refine tt_aload_n (q := 19) dX12_takesOf_18 rfl rfl ?_
      refine tt_iload_n (q := 20) dX12_takesOf_19 rfl rfl ?_
      refine tt_iload_n (q := 21) dX12_takesOf_20 rfl rfl ?_
      refine callVi_2 (q := 24) dX12_takesOf_21 (Or.inl ⟨rfl, rfl, ⟨⟨_, _, rfl, rfl, (Nat.le_of_ble_eq_true rfl), rc_102⟩, Nat.le_of_ble_eq_true rfl, ?_⟩⟩) (Nat.le_of_ble_eq_true rfl) rfl (fun t14 r13 ht14 => ht14)
      refine (show TT cX12_moveOf RX12 false CT0 CN0 _ _ _ none 0 [_, _, _] [] _ _ from ?_)
      refine tt_aload_n (q := 1) dX12_moveOf_0 rfl rfl ?_
      refine tt_getR (q := 4) dX12_moveOf_1 fl_X12_13 or_102_1 (Nat.le_of_ble_eq_true rfl) rfl rfl ?_
      refine tt_bipush (q := 6) dX12_moveOf_4 bi_95 rfl ?_
      refine tt_bipush (q := 8) dX12_moveOf_6 bi_9 rfl ?_
      refine tt_iload_n (q := 9) dX12_moveOf_8 rfl rfl ?_
      refine tt_imulN (q := 10) dX12_moveOf_9 rfl ?_
      refine tt_iaddN (q := 11) dX12_moveOf_10 rfl ?_
      refine tt_iconst (q := 12) dX12_moveOf_11 ki_1 rfl ?_
      refine tt_iaddN (q := 13) dX12_moveOf_12 rfl ?_
      refine tt_iload_n (q := 14) dX12_moveOf_13 rfl rfl ?_
      refine tt_iaddN (q := 15) dX12_moveOf_14 rfl ?_
      obtain ⟨l15, h⟩ := h
      refine tt_iald (q := 16) dX12_moveOf_15 ia_104 (Nat.le_of_ble_eq_true rfl) rfl l15 rfl ?_
      refine tt_iret dX12_moveOf_16 ⟨rfl, _, rfl, ?_⟩
      obtain ⟨p18, hp19, h⟩ := h
      refine callVi_2 (q := 27) dX12_takesOf_24 (Or.inr (⟨rfl, rfl, hp19⟩)) (Nat.le_of_ble_eq_true rfl) rfl (fun t17 r16 hr20 => ?_)
      replace h := h t17 r16 hr20
      refine tt_iret dX12_takesOf_27 ⟨rfl, _, rfl, ?_⟩
      refine tt_iadd (q := 21) dX12_secondsOf_20 rfl ?_
      refine sti_n_2 (q := 22) dX12_secondsOf_21 rfl rfl rfl ?_
      refine inc_3 (q := 25) dX12_secondsOf_22 (nI_inc1 _) rfl rfl ?_
      refine tt_goto (t := 4) dX12_secondsOf_25 rfl ?_
      exact h
    · replace h := h.2 ((nI_eq l8 (by decide)).1 c)
      refine tt_bipush (q := 7) dX12_takesOf_5 bi_m9 rfl ?_
      refine tt_goto (t := 18) dX12_takesOf_7 rfl ?_
      refine tt_aload_n (q := 19) dX12_takesOf_18 rfl rfl ?_
      refine tt_iload_n (q := 20) dX12_takesOf_19 rfl rfl ?_
      refine tt_iload_n (q := 21) dX12_takesOf_20 rfl rfl ?_
      refine callVi_2 (q := 24) dX12_takesOf_21 (Or.inl ⟨rfl, rfl, ⟨⟨_, _, rfl, rfl, (Nat.le_of_ble_eq_true rfl), rc_102⟩, Nat.le_of_ble_eq_true rfl, ?_⟩⟩) (Nat.le_of_ble_eq_true rfl) rfl (fun t22 r21 ht22 => ht22)
      refine (show TT cX12_moveOf RX12 false CT0 CN0 _ _ _ none 0 [_, _, _] [] _ _ from ?_)
      refine tt_aload_n (q := 1) dX12_moveOf_0 rfl rfl ?_
      refine tt_getR (q := 4) dX12_moveOf_1 fl_X12_13 or_102_1 (Nat.le_of_ble_eq_true rfl) rfl rfl ?_
      refine tt_bipush (q := 6) dX12_moveOf_4 bi_95 rfl ?_
      refine tt_bipush (q := 8) dX12_moveOf_6 bi_9 rfl ?_
      refine tt_iload_n (q := 9) dX12_moveOf_8 rfl rfl ?_
      refine tt_imulN (q := 10) dX12_moveOf_9 rfl ?_
      refine tt_iaddN (q := 11) dX12_moveOf_10 rfl ?_
      refine tt_iconst (q := 12) dX12_moveOf_11 ki_1 rfl ?_
      refine tt_iaddN (q := 13) dX12_moveOf_12 rfl ?_
      refine tt_iload_n (q := 14) dX12_moveOf_13 rfl rfl ?_
      refine tt_iaddN (q := 15) dX12_moveOf_14 rfl ?_
      obtain ⟨l23, h⟩ := h
      refine tt_iald (q := 16) dX12_moveOf_15 ia_104 (Nat.le_of_ble_eq_true rfl) rfl l23 rfl ?_
      refine tt_iret dX12_moveOf_16 ⟨rfl, _, rfl, ?_⟩
      obtain ⟨p26, hp27, h⟩ := h
      refine callVi_2 (q := 27) dX12_takesOf_24 (Or.inr (⟨rfl, rfl, hp27⟩)) (Nat.le_of_ble_eq_true rfl) rfl (fun t25 r24 hr28 => ?_)
      replace h := h t25 r24 hr28
      refine tt_iret dX12_takesOf_27 ⟨rfl, _, rfl, ?_⟩
      refine tt_iadd (q := 21) dX12_secondsOf_20 rfl ?_
      refine sti_n_2 (q := 22) dX12_secondsOf_21 rfl rfl rfl ?_
      refine inc_3 (q := 25) dX12_secondsOf_22 (nI_inc1 _) rfl rfl ?_
      refine tt_goto (t := 4) dX12_secondsOf_25 rfl ?_
      exact h

theorem g_X12_seconds_0 {post : SG → Int32 → Prop} {σ : SG} {a : Int32} (h : ((a < 0 → (∀ s8 : SG, s8 = up σ 103 1 ((σ 103 1) + (nI 1)) → post s8 (-1 : Int32))) ∧ (¬ a < 0 → (((σ 104 1) ≤ a → (∀ s12 : SG, s12 = up σ 103 1 ((σ 103 1) + (nI 1)) → post s12 (-1 : Int32))) ∧ (¬ (σ 104 1) ≤ a → (∃ p15 : SG → Int32 → Prop, IN_X12_secondsOf AF σ [.ref 102, .int a] p15 ∧ ∀ (t14 : SG) (r13 : Int32), p15 t14 r13 → post t14 r13)))))) : T_X12_seconds AF post 0 [.ref 102, .int a] [] σ := by
  refine tt_aload_n (q := 1) dX12_seconds_0 rfl rfl ?_
  refine tt_iload_n (q := 2) dX12_seconds_1 rfl rfl ?_
  refine callVi_1 (q := 5) dX12_seconds_2 (Or.inl ⟨rfl, rfl, ⟨⟨_, _, rfl, rfl, (Nat.le_of_ble_eq_true rfl), rc_102⟩, Nat.le_of_ble_eq_true rfl, ?_⟩⟩) (Nat.le_of_ble_eq_true rfl) rfl (fun t2 r1 ht2 => ht2)
  refine (show TT cX12_isRow RX12 false CT_X12_isRow CN0 _ _ _ none 0 [_, _] [] _ _ from ?_)
  refine tt_iload_n (q := 1) dX12_isRow_0 rfl rfl ?_
  refine tt_aload_n (q := 2) dX12_isRow_1 rfl rfl ?_
  refine tt_getR (q := 5) dX12_isRow_2 fl_X12_13 or_102_1 (Nat.le_of_ble_eq_true rfl) rfl rfl ?_
  refine tt_iconst (q := 6) dX12_isRow_5 ki_1 rfl ?_
  refine tt_iald (q := 7) dX12_isRow_6 ia_104 (Nat.le_of_ble_eq_true rfl) rfl (Nat.le_of_ble_eq_true rfl : 1 < 197) rfl ?_
  refine callSi_2 (q := 10) dX12_isRow_7 (⟨rfl, rfl, ⟨rfl, Nat.le_of_ble_eq_true rfl, ?_⟩⟩) (Nat.le_of_ble_eq_true rfl) rfl (fun t4 r3 ht4 => ht4)
  refine (show TT cX12_isIn RX12 false CT0 CN0 _ _ _ none 0 [_, _] [] _ _ from ?_)
  refine tt_iload_n (q := 1) dX12_isIn_0 rfl rfl ?_
  refine tt_if_lt (q := 4) (t := 13) dX12_isIn_1 rfl rfl (fun c => ?_) (fun c => ?_)
  · replace h := h.1 c
    refine tt_iconst (q := 14) dX12_isIn_13 ki_0 rfl ?_
    refine tt_iret dX12_isIn_14 ⟨rfl, _, rfl, Or.inl nI_0, ?_⟩
    refine tt_iret dX12_isRow_10 ⟨rfl, _, rfl, Or.inl nI_0, ?_⟩
    refine tt_if_eq (q := 8) (t := 16) dX12_seconds_5 rfl rfl (fun c => ?_) (fun c => absurd c (by decide))
    clear c
    refine tt_aload_n (q := 17) dX12_seconds_16 rfl rfl ?_
    refine tt_iconst (q := 18) dX12_seconds_17 ki_m1 rfl ?_
    refine callVi_1 (q := 21) dX12_seconds_18 (Or.inr (Or.inr (⟨rfl, rfl, ⟨⟨_, _, rfl, rfl, (Nat.le_of_ble_eq_true rfl), rc_102⟩, Nat.le_of_ble_eq_true rfl, ?_⟩⟩))) (Nat.le_of_ble_eq_true rfl) rfl (fun t7 r6 ht7 => ht7)
    refine (show TT cX12_refuse RX12 false CT0 CN0 _ _ _ none 0 [_, _] [] _ _ from ?_)
    refine tt_aload_n (q := 1) dX12_refuse_0 rfl rfl ?_
    refine tt_getR (q := 4) dX12_refuse_1 fl_X12_7 or_102_0 (Nat.le_of_ble_eq_true rfl) rfl rfl ?_
    refine tt_iload_n (q := 5) dX12_refuse_4 rfl rfl ?_
    refine tt_inegE (v := nI 1) (q := 6) dX12_refuse_5 (by decide) rfl ?_
    refine tt_dup2 (q := 7) dX12_refuse_6 rfl rfl rfl ?_
    refine tt_iald (q := 8) dX12_refuse_7 ia_103 (Nat.le_of_ble_eq_true rfl) rfl (Nat.le_of_ble_eq_true rfl : 1 < 7) rfl ?_
    refine tt_iconst (q := 9) dX12_refuse_8 ki_1 rfl ?_
    refine tt_iadd (q := 10) dX12_refuse_9 rfl ?_
    refine tt_iast (q := 11) dX12_refuse_10 ia_103 (Nat.le_of_ble_eq_true rfl) rfl (Nat.le_of_ble_eq_true rfl : 1 < 7) rfl ?_
    replace h := h _ rfl
    refine tt_iload_n (q := 12) dX12_refuse_11 rfl rfl ?_
    refine tt_iret dX12_refuse_12 ⟨rfl, _, rfl, ?_⟩
    exact tt_iret dX12_seconds_21 ⟨rfl, _, rfl, h⟩
  · replace h := h.2 c
    refine tt_iload_n (q := 5) dX12_isIn_4 rfl rfl ?_
    refine tt_iload_n (q := 6) dX12_isIn_5 rfl rfl ?_
    refine tt_icmp_ge (q := 9) (t := 13) dX12_isIn_6 rfl rfl (fun c => ?_) (fun c => ?_)
    · replace h := h.1 c
      refine tt_iconst (q := 14) dX12_isIn_13 ki_0 rfl ?_
      refine tt_iret dX12_isIn_14 ⟨rfl, _, rfl, Or.inl nI_0, ?_⟩
      refine tt_iret dX12_isRow_10 ⟨rfl, _, rfl, Or.inl nI_0, ?_⟩
      refine tt_if_eq (q := 8) (t := 16) dX12_seconds_5 rfl rfl (fun c => ?_) (fun c => absurd c (by decide))
      clear c
      refine tt_aload_n (q := 17) dX12_seconds_16 rfl rfl ?_
      refine tt_iconst (q := 18) dX12_seconds_17 ki_m1 rfl ?_
      refine callVi_1 (q := 21) dX12_seconds_18 (Or.inr (Or.inr (⟨rfl, rfl, ⟨⟨_, _, rfl, rfl, (Nat.le_of_ble_eq_true rfl), rc_102⟩, Nat.le_of_ble_eq_true rfl, ?_⟩⟩))) (Nat.le_of_ble_eq_true rfl) rfl (fun t11 r10 ht11 => ht11)
      refine (show TT cX12_refuse RX12 false CT0 CN0 _ _ _ none 0 [_, _] [] _ _ from ?_)
      refine tt_aload_n (q := 1) dX12_refuse_0 rfl rfl ?_
      refine tt_getR (q := 4) dX12_refuse_1 fl_X12_7 or_102_0 (Nat.le_of_ble_eq_true rfl) rfl rfl ?_
      refine tt_iload_n (q := 5) dX12_refuse_4 rfl rfl ?_
      refine tt_inegE (v := nI 1) (q := 6) dX12_refuse_5 (by decide) rfl ?_
      refine tt_dup2 (q := 7) dX12_refuse_6 rfl rfl rfl ?_
      refine tt_iald (q := 8) dX12_refuse_7 ia_103 (Nat.le_of_ble_eq_true rfl) rfl (Nat.le_of_ble_eq_true rfl : 1 < 7) rfl ?_
      refine tt_iconst (q := 9) dX12_refuse_8 ki_1 rfl ?_
      refine tt_iadd (q := 10) dX12_refuse_9 rfl ?_
      refine tt_iast (q := 11) dX12_refuse_10 ia_103 (Nat.le_of_ble_eq_true rfl) rfl (Nat.le_of_ble_eq_true rfl : 1 < 7) rfl ?_
      replace h := h _ rfl
      refine tt_iload_n (q := 12) dX12_refuse_11 rfl rfl ?_
      refine tt_iret dX12_refuse_12 ⟨rfl, _, rfl, ?_⟩
      exact tt_iret dX12_seconds_21 ⟨rfl, _, rfl, h⟩
    · replace h := h.2 c
      refine tt_iconst (q := 10) dX12_isIn_9 ki_1 rfl ?_
      refine tt_goto (t := 14) dX12_isIn_10 rfl ?_
      refine tt_iret dX12_isIn_14 ⟨rfl, _, rfl, Or.inr rfl, ?_⟩
      refine tt_iret dX12_isRow_10 ⟨rfl, _, rfl, Or.inr rfl, ?_⟩
      refine tt_if_eq (q := 8) (t := 16) dX12_seconds_5 rfl rfl (fun c => absurd c (by decide)) (fun c => ?_)
      clear c
      refine tt_aload_n (q := 9) dX12_seconds_8 rfl rfl ?_
      refine tt_iload_n (q := 10) dX12_seconds_9 rfl rfl ?_
      obtain ⟨p15, hp16, h⟩ := h
      refine callVi_1 (q := 13) dX12_seconds_10 (Or.inr (Or.inl ⟨rfl, rfl, hp16⟩)) (Nat.le_of_ble_eq_true rfl) rfl (fun t14 r13 hr17 => ?_)
      replace h := h t14 r13 hr17
      refine tt_goto (t := 21) dX12_seconds_13 rfl ?_
      exact tt_iret dX12_seconds_21 ⟨rfl, _, rfl, h⟩

theorem g_X12_mean_0 {post : SG → Int32 → Prop} {σ : SG} {a : Int32} (h : ((a < 0 → (∀ s8 : SG, s8 = up σ 103 1 ((σ 103 1) + (nI 1)) → post s8 (-1 : Int32))) ∧ (¬ a < 0 → (((σ 104 1) ≤ a → (∀ s12 : SG, s12 = up σ 103 1 ((σ 103 1) + (nI 1)) → post s12 (-1 : Int32))) ∧ (¬ (σ 104 1) ≤ a → (∃ p15 : SG → Int32 → Prop, IN_X12_secondsOf AF σ [.ref 102, .int a] p15 ∧ ∀ (t14 : SG) (r13 : Int32), p15 t14 r13 → (∃ j21 : Nat, ((nI 95) + ((nI 9) * a)) = nI j21 ∧ j21 < 197 ∧ post t14 (((nI 100) * r13) + (((t14 104 j21) * (t14 104 3)) * (t14 104 4)))))))))) : T_X12_mean AF post 0 [.ref 102, .int a] [] σ := by
  refine tt_aload_n (q := 1) dX12_mean_0 rfl rfl ?_
  refine tt_iload_n (q := 2) dX12_mean_1 rfl rfl ?_
  refine callVi_1 (q := 5) dX12_mean_2 (Or.inl ⟨rfl, rfl, ⟨⟨_, _, rfl, rfl, (Nat.le_of_ble_eq_true rfl), rc_102⟩, Nat.le_of_ble_eq_true rfl, ?_⟩⟩) (Nat.le_of_ble_eq_true rfl) rfl (fun t2 r1 ht2 => ht2)
  refine (show TT cX12_isRow RX12 false CT_X12_isRow CN0 _ _ _ none 0 [_, _] [] _ _ from ?_)
  refine tt_iload_n (q := 1) dX12_isRow_0 rfl rfl ?_
  refine tt_aload_n (q := 2) dX12_isRow_1 rfl rfl ?_
  refine tt_getR (q := 5) dX12_isRow_2 fl_X12_13 or_102_1 (Nat.le_of_ble_eq_true rfl) rfl rfl ?_
  refine tt_iconst (q := 6) dX12_isRow_5 ki_1 rfl ?_
  refine tt_iald (q := 7) dX12_isRow_6 ia_104 (Nat.le_of_ble_eq_true rfl) rfl (Nat.le_of_ble_eq_true rfl : 1 < 197) rfl ?_
  refine callSi_2 (q := 10) dX12_isRow_7 (⟨rfl, rfl, ⟨rfl, Nat.le_of_ble_eq_true rfl, ?_⟩⟩) (Nat.le_of_ble_eq_true rfl) rfl (fun t4 r3 ht4 => ht4)
  refine (show TT cX12_isIn RX12 false CT0 CN0 _ _ _ none 0 [_, _] [] _ _ from ?_)
  refine tt_iload_n (q := 1) dX12_isIn_0 rfl rfl ?_
  refine tt_if_lt (q := 4) (t := 13) dX12_isIn_1 rfl rfl (fun c => ?_) (fun c => ?_)
  · replace h := h.1 c
    refine tt_iconst (q := 14) dX12_isIn_13 ki_0 rfl ?_
    refine tt_iret dX12_isIn_14 ⟨rfl, _, rfl, Or.inl nI_0, ?_⟩
    refine tt_iret dX12_isRow_10 ⟨rfl, _, rfl, Or.inl nI_0, ?_⟩
    refine tt_if_eq (q := 8) (t := 39) dX12_mean_5 rfl rfl (fun c => ?_) (fun c => absurd c (by decide))
    clear c
    refine tt_aload_n (q := 40) dX12_mean_39 rfl rfl ?_
    refine tt_iconst (q := 41) dX12_mean_40 ki_m1 rfl ?_
    refine callVi_1 (q := 44) dX12_mean_41 (Or.inr (Or.inr (Or.inr (⟨rfl, rfl, ⟨⟨_, _, rfl, rfl, (Nat.le_of_ble_eq_true rfl), rc_102⟩, Nat.le_of_ble_eq_true rfl, ?_⟩⟩)))) (Nat.le_of_ble_eq_true rfl) rfl (fun t7 r6 ht7 => ht7)
    refine (show TT cX12_refuse RX12 false CT0 CN0 _ _ _ none 0 [_, _] [] _ _ from ?_)
    refine tt_aload_n (q := 1) dX12_refuse_0 rfl rfl ?_
    refine tt_getR (q := 4) dX12_refuse_1 fl_X12_7 or_102_0 (Nat.le_of_ble_eq_true rfl) rfl rfl ?_
    refine tt_iload_n (q := 5) dX12_refuse_4 rfl rfl ?_
    refine tt_inegE (v := nI 1) (q := 6) dX12_refuse_5 (by decide) rfl ?_
    refine tt_dup2 (q := 7) dX12_refuse_6 rfl rfl rfl ?_
    refine tt_iald (q := 8) dX12_refuse_7 ia_103 (Nat.le_of_ble_eq_true rfl) rfl (Nat.le_of_ble_eq_true rfl : 1 < 7) rfl ?_
    refine tt_iconst (q := 9) dX12_refuse_8 ki_1 rfl ?_
    refine tt_iadd (q := 10) dX12_refuse_9 rfl ?_
    refine tt_iast (q := 11) dX12_refuse_10 ia_103 (Nat.le_of_ble_eq_true rfl) rfl (Nat.le_of_ble_eq_true rfl : 1 < 7) rfl ?_
    replace h := h _ rfl
    refine tt_iload_n (q := 12) dX12_refuse_11 rfl rfl ?_
    refine tt_iret dX12_refuse_12 ⟨rfl, _, rfl, ?_⟩
    exact tt_iret dX12_mean_44 ⟨rfl, _, rfl, h⟩
  · replace h := h.2 c
    refine tt_iload_n (q := 5) dX12_isIn_4 rfl rfl ?_
    refine tt_iload_n (q := 6) dX12_isIn_5 rfl rfl ?_
    refine tt_icmp_ge (q := 9) (t := 13) dX12_isIn_6 rfl rfl (fun c => ?_) (fun c => ?_)
    · replace h := h.1 c
      refine tt_iconst (q := 14) dX12_isIn_13 ki_0 rfl ?_
      refine tt_iret dX12_isIn_14 ⟨rfl, _, rfl, Or.inl nI_0, ?_⟩
      refine tt_iret dX12_isRow_10 ⟨rfl, _, rfl, Or.inl nI_0, ?_⟩
      refine tt_if_eq (q := 8) (t := 39) dX12_mean_5 rfl rfl (fun c => ?_) (fun c => absurd c (by decide))
      clear c
      refine tt_aload_n (q := 40) dX12_mean_39 rfl rfl ?_
      refine tt_iconst (q := 41) dX12_mean_40 ki_m1 rfl ?_
      refine callVi_1 (q := 44) dX12_mean_41 (Or.inr (Or.inr (Or.inr (⟨rfl, rfl, ⟨⟨_, _, rfl, rfl, (Nat.le_of_ble_eq_true rfl), rc_102⟩, Nat.le_of_ble_eq_true rfl, ?_⟩⟩)))) (Nat.le_of_ble_eq_true rfl) rfl (fun t11 r10 ht11 => ht11)
      refine (show TT cX12_refuse RX12 false CT0 CN0 _ _ _ none 0 [_, _] [] _ _ from ?_)
      refine tt_aload_n (q := 1) dX12_refuse_0 rfl rfl ?_
      refine tt_getR (q := 4) dX12_refuse_1 fl_X12_7 or_102_0 (Nat.le_of_ble_eq_true rfl) rfl rfl ?_
      refine tt_iload_n (q := 5) dX12_refuse_4 rfl rfl ?_
      refine tt_inegE (v := nI 1) (q := 6) dX12_refuse_5 (by decide) rfl ?_
      refine tt_dup2 (q := 7) dX12_refuse_6 rfl rfl rfl ?_
      refine tt_iald (q := 8) dX12_refuse_7 ia_103 (Nat.le_of_ble_eq_true rfl) rfl (Nat.le_of_ble_eq_true rfl : 1 < 7) rfl ?_
      refine tt_iconst (q := 9) dX12_refuse_8 ki_1 rfl ?_
      refine tt_iadd (q := 10) dX12_refuse_9 rfl ?_
      refine tt_iast (q := 11) dX12_refuse_10 ia_103 (Nat.le_of_ble_eq_true rfl) rfl (Nat.le_of_ble_eq_true rfl : 1 < 7) rfl ?_
      replace h := h _ rfl
      refine tt_iload_n (q := 12) dX12_refuse_11 rfl rfl ?_
      refine tt_iret dX12_refuse_12 ⟨rfl, _, rfl, ?_⟩
      exact tt_iret dX12_mean_44 ⟨rfl, _, rfl, h⟩
    · replace h := h.2 c
      refine tt_iconst (q := 10) dX12_isIn_9 ki_1 rfl ?_
      refine tt_goto (t := 14) dX12_isIn_10 rfl ?_
      refine tt_iret dX12_isIn_14 ⟨rfl, _, rfl, Or.inr rfl, ?_⟩
      refine tt_iret dX12_isRow_10 ⟨rfl, _, rfl, Or.inr rfl, ?_⟩
      refine tt_if_eq (q := 8) (t := 39) dX12_mean_5 rfl rfl (fun c => absurd c (by decide)) (fun c => ?_)
      clear c
      refine tt_bipush (q := 10) dX12_mean_8 bi_100 rfl ?_
      refine tt_aload_n (q := 11) dX12_mean_10 rfl rfl ?_
      refine tt_iload_n (q := 12) dX12_mean_11 rfl rfl ?_
      obtain ⟨p15, hp16, h⟩ := h
      refine callVi_1 (q := 15) dX12_mean_12 (Or.inr (Or.inl ⟨rfl, rfl, hp16⟩)) (Nat.le_of_ble_eq_true rfl) rfl (fun t14 r13 hr17 => ?_)
      replace h := h t14 r13 hr17
      refine tt_imul (q := 16) dX12_mean_15 rfl ?_
      refine tt_aload_n (q := 17) dX12_mean_16 rfl rfl ?_
      refine tt_iload_n (q := 18) dX12_mean_17 rfl rfl ?_
      refine callVi_1 (q := 21) dX12_mean_18 (Or.inr (Or.inr (Or.inl ⟨rfl, rfl, ⟨⟨_, _, rfl, rfl, (Nat.le_of_ble_eq_true rfl), rc_102⟩, Nat.le_of_ble_eq_true rfl, ?_⟩⟩))) (Nat.le_of_ble_eq_true rfl) rfl (fun t19 r18 ht19 => ht19)
      refine (show TT cX12_size RX12 false CT0 CN0 _ _ _ none 0 [_, _] [] _ _ from ?_)
      refine tt_aload_n (q := 1) dX12_size_0 rfl rfl ?_
      refine tt_getR (q := 4) dX12_size_1 fl_X12_13 or_102_1 (Nat.le_of_ble_eq_true rfl) rfl rfl ?_
      refine tt_bipush (q := 6) dX12_size_4 bi_95 rfl ?_
      refine tt_bipush (q := 8) dX12_size_6 bi_9 rfl ?_
      refine tt_iload_n (q := 9) dX12_size_8 rfl rfl ?_
      refine tt_imul (q := 10) dX12_size_9 rfl ?_
      refine tt_iadd (q := 11) dX12_size_10 rfl ?_
      obtain ⟨j21, e22, l20, h⟩ := h
      refine tt_iald (q := 12) dX12_size_11 ia_104 (Nat.le_of_ble_eq_true rfl) e22 l20 rfl ?_
      refine tt_iret dX12_size_12 ⟨rfl, _, rfl, ?_⟩
      refine tt_aload_n (q := 22) dX12_mean_21 rfl rfl ?_
      refine tt_getR (q := 25) dX12_mean_22 fl_X12_13 or_102_1 (Nat.le_of_ble_eq_true rfl) rfl rfl ?_
      refine tt_iconst (q := 26) dX12_mean_25 ki_3 rfl ?_
      refine tt_iald (q := 27) dX12_mean_26 ia_104 (Nat.le_of_ble_eq_true rfl) rfl (Nat.le_of_ble_eq_true rfl : 3 < 197) rfl ?_
      refine tt_imul (q := 28) dX12_mean_27 rfl ?_
      refine tt_aload_n (q := 29) dX12_mean_28 rfl rfl ?_
      refine tt_getR (q := 32) dX12_mean_29 fl_X12_13 or_102_1 (Nat.le_of_ble_eq_true rfl) rfl rfl ?_
      refine tt_iconst (q := 33) dX12_mean_32 ki_4 rfl ?_
      refine tt_iald (q := 34) dX12_mean_33 ia_104 (Nat.le_of_ble_eq_true rfl) rfl (Nat.le_of_ble_eq_true rfl : 4 < 197) rfl ?_
      refine tt_imul (q := 35) dX12_mean_34 rfl ?_
      refine tt_iadd (q := 36) dX12_mean_35 rfl ?_
      refine tt_goto (t := 44) dX12_mean_36 rfl ?_
      exact tt_iret dX12_mean_44 ⟨rfl, _, rfl, h⟩

theorem g_X12_drawn_0 {post : SG → Int32 → Prop} {σ : SG} {r : Int32} {z : Int32} (h : ((r < 0 → (∀ s8 : SG, s8 = up σ 103 1 ((σ 103 1) + (nI 1)) → post s8 (-1 : Int32))) ∧ (¬ r < 0 → (((σ 104 1) ≤ r → (∀ s12 : SG, s12 = up σ 103 1 ((σ 103 1) + (nI 1)) → post s12 (-1 : Int32))) ∧ (¬ (σ 104 1) ≤ r → (∃ p15 : SG → Int32 → Prop, IN_X12_secondsOf AF σ [.ref 102, .int r] p15 ∧ ∀ (t14 : SG) (r13 : Int32), p15 t14 r13 → T_X12_drawn AF post 26 [.ref 102, .int r, .int z, .int z, .int r13, .int (nI 0)] [] t14)))))) : T_X12_drawn AF post 0 [.ref 102, .int r, .int z, dum, dum, dum] [] σ := by
  refine tt_aload_n (q := 1) dX12_drawn_0 rfl rfl ?_
  refine tt_iload_n (q := 2) dX12_drawn_1 rfl rfl ?_
  refine callVi_1 (q := 5) dX12_drawn_2 (Or.inl ⟨rfl, rfl, ⟨⟨_, _, rfl, rfl, (Nat.le_of_ble_eq_true rfl), rc_102⟩, Nat.le_of_ble_eq_true rfl, ?_⟩⟩) (Nat.le_of_ble_eq_true rfl) rfl (fun t2 r1 ht2 => ht2)
  refine (show TT cX12_isRow RX12 false CT_X12_isRow CN0 _ _ _ none 0 [_, _] [] _ _ from ?_)
  refine tt_iload_n (q := 1) dX12_isRow_0 rfl rfl ?_
  refine tt_aload_n (q := 2) dX12_isRow_1 rfl rfl ?_
  refine tt_getR (q := 5) dX12_isRow_2 fl_X12_13 or_102_1 (Nat.le_of_ble_eq_true rfl) rfl rfl ?_
  refine tt_iconst (q := 6) dX12_isRow_5 ki_1 rfl ?_
  refine tt_iald (q := 7) dX12_isRow_6 ia_104 (Nat.le_of_ble_eq_true rfl) rfl (Nat.le_of_ble_eq_true rfl : 1 < 197) rfl ?_
  refine callSi_2 (q := 10) dX12_isRow_7 (⟨rfl, rfl, ⟨rfl, Nat.le_of_ble_eq_true rfl, ?_⟩⟩) (Nat.le_of_ble_eq_true rfl) rfl (fun t4 r3 ht4 => ht4)
  refine (show TT cX12_isIn RX12 false CT0 CN0 _ _ _ none 0 [_, _] [] _ _ from ?_)
  refine tt_iload_n (q := 1) dX12_isIn_0 rfl rfl ?_
  refine tt_if_lt (q := 4) (t := 13) dX12_isIn_1 rfl rfl (fun c => ?_) (fun c => ?_)
  · replace h := h.1 c
    refine tt_iconst (q := 14) dX12_isIn_13 ki_0 rfl ?_
    refine tt_iret dX12_isIn_14 ⟨rfl, _, rfl, Or.inl nI_0, ?_⟩
    refine tt_iret dX12_isRow_10 ⟨rfl, _, rfl, Or.inl nI_0, ?_⟩
    refine tt_if_ne (q := 8) (t := 14) dX12_drawn_5 rfl rfl (fun c => absurd c (by decide)) (fun c => ?_)
    clear c
    refine tt_aload_n (q := 9) dX12_drawn_8 rfl rfl ?_
    refine tt_iconst (q := 10) dX12_drawn_9 ki_m1 rfl ?_
    refine callVi_1 (q := 13) dX12_drawn_10 (Or.inr (Or.inl ⟨rfl, rfl, ⟨⟨_, _, rfl, rfl, (Nat.le_of_ble_eq_true rfl), rc_102⟩, Nat.le_of_ble_eq_true rfl, ?_⟩⟩)) (Nat.le_of_ble_eq_true rfl) rfl (fun t7 r6 ht7 => ht7)
    refine (show TT cX12_refuse RX12 false CT0 CN0 _ _ _ none 0 [_, _] [] _ _ from ?_)
    refine tt_aload_n (q := 1) dX12_refuse_0 rfl rfl ?_
    refine tt_getR (q := 4) dX12_refuse_1 fl_X12_7 or_102_0 (Nat.le_of_ble_eq_true rfl) rfl rfl ?_
    refine tt_iload_n (q := 5) dX12_refuse_4 rfl rfl ?_
    refine tt_inegE (v := nI 1) (q := 6) dX12_refuse_5 (by decide) rfl ?_
    refine tt_dup2 (q := 7) dX12_refuse_6 rfl rfl rfl ?_
    refine tt_iald (q := 8) dX12_refuse_7 ia_103 (Nat.le_of_ble_eq_true rfl) rfl (Nat.le_of_ble_eq_true rfl : 1 < 7) rfl ?_
    refine tt_iconst (q := 9) dX12_refuse_8 ki_1 rfl ?_
    refine tt_iadd (q := 10) dX12_refuse_9 rfl ?_
    refine tt_iast (q := 11) dX12_refuse_10 ia_103 (Nat.le_of_ble_eq_true rfl) rfl (Nat.le_of_ble_eq_true rfl : 1 < 7) rfl ?_
    replace h := h _ rfl
    refine tt_iload_n (q := 12) dX12_refuse_11 rfl rfl ?_
    refine tt_iret dX12_refuse_12 ⟨rfl, _, rfl, ?_⟩
    exact tt_iret dX12_drawn_13 ⟨rfl, _, rfl, h⟩
  · replace h := h.2 c
    refine tt_iload_n (q := 5) dX12_isIn_4 rfl rfl ?_
    refine tt_iload_n (q := 6) dX12_isIn_5 rfl rfl ?_
    refine tt_icmp_ge (q := 9) (t := 13) dX12_isIn_6 rfl rfl (fun c => ?_) (fun c => ?_)
    · replace h := h.1 c
      refine tt_iconst (q := 14) dX12_isIn_13 ki_0 rfl ?_
      refine tt_iret dX12_isIn_14 ⟨rfl, _, rfl, Or.inl nI_0, ?_⟩
      refine tt_iret dX12_isRow_10 ⟨rfl, _, rfl, Or.inl nI_0, ?_⟩
      refine tt_if_ne (q := 8) (t := 14) dX12_drawn_5 rfl rfl (fun c => absurd c (by decide)) (fun c => ?_)
      clear c
      refine tt_aload_n (q := 9) dX12_drawn_8 rfl rfl ?_
      refine tt_iconst (q := 10) dX12_drawn_9 ki_m1 rfl ?_
      refine callVi_1 (q := 13) dX12_drawn_10 (Or.inr (Or.inl ⟨rfl, rfl, ⟨⟨_, _, rfl, rfl, (Nat.le_of_ble_eq_true rfl), rc_102⟩, Nat.le_of_ble_eq_true rfl, ?_⟩⟩)) (Nat.le_of_ble_eq_true rfl) rfl (fun t11 r10 ht11 => ht11)
      refine (show TT cX12_refuse RX12 false CT0 CN0 _ _ _ none 0 [_, _] [] _ _ from ?_)
      refine tt_aload_n (q := 1) dX12_refuse_0 rfl rfl ?_
      refine tt_getR (q := 4) dX12_refuse_1 fl_X12_7 or_102_0 (Nat.le_of_ble_eq_true rfl) rfl rfl ?_
      refine tt_iload_n (q := 5) dX12_refuse_4 rfl rfl ?_
      refine tt_inegE (v := nI 1) (q := 6) dX12_refuse_5 (by decide) rfl ?_
      refine tt_dup2 (q := 7) dX12_refuse_6 rfl rfl rfl ?_
      refine tt_iald (q := 8) dX12_refuse_7 ia_103 (Nat.le_of_ble_eq_true rfl) rfl (Nat.le_of_ble_eq_true rfl : 1 < 7) rfl ?_
      refine tt_iconst (q := 9) dX12_refuse_8 ki_1 rfl ?_
      refine tt_iadd (q := 10) dX12_refuse_9 rfl ?_
      refine tt_iast (q := 11) dX12_refuse_10 ia_103 (Nat.le_of_ble_eq_true rfl) rfl (Nat.le_of_ble_eq_true rfl : 1 < 7) rfl ?_
      replace h := h _ rfl
      refine tt_iload_n (q := 12) dX12_refuse_11 rfl rfl ?_
      refine tt_iret dX12_refuse_12 ⟨rfl, _, rfl, ?_⟩
      exact tt_iret dX12_drawn_13 ⟨rfl, _, rfl, h⟩
    · replace h := h.2 c
      refine tt_iconst (q := 10) dX12_isIn_9 ki_1 rfl ?_
      refine tt_goto (t := 14) dX12_isIn_10 rfl ?_
      refine tt_iret dX12_isIn_14 ⟨rfl, _, rfl, Or.inr rfl, ?_⟩
      refine tt_iret dX12_isRow_10 ⟨rfl, _, rfl, Or.inr rfl, ?_⟩
      refine tt_if_ne (q := 8) (t := 14) dX12_drawn_5 rfl rfl (fun c => ?_) (fun c => absurd c (by decide))
      clear c
      refine tt_iload_n (q := 15) dX12_drawn_14 rfl rfl ?_
      refine sti_n_3 (q := 16) dX12_drawn_15 rfl rfl rfl ?_
      refine tt_aload_n (q := 17) dX12_drawn_16 rfl rfl ?_
      refine tt_iload_n (q := 18) dX12_drawn_17 rfl rfl ?_
      obtain ⟨p15, hp16, h⟩ := h
      refine callVi_1 (q := 21) dX12_drawn_18 (Or.inr (Or.inr (Or.inl ⟨rfl, rfl, hp16⟩))) (Nat.le_of_ble_eq_true rfl) rfl (fun t14 r13 hr17 => ?_)
      replace h := h t14 r13 hr17
      refine sti_4 (q := 23) dX12_drawn_21 rfl rfl ?_
      refine tt_iconst (q := 24) dX12_drawn_23 ki_0 rfl ?_
      refine sti_5 (q := 26) dX12_drawn_24 rfl rfl ?_
      exact h
theorem g_X12_drawn_26 {post : SG → Int32 → Prop} {σ : SG} {r : Nat} {z : Int32} {sd : Int32} {v : Int32} {i : Nat} (h : (95 + (9 * r) < 197 ∧ (((σ 104 (95 + (9 * r))) ≤ (nI i) → post σ v) ∧ (¬ (σ 104 (95 + (9 * r))) ≤ (nI i) → (((σ 104 3) ≤ (((((sd * (1664525 : Int32)) + (1013904223 : Int32)) &&& (2147483647 : Int32)) / (nI 256)) - ((((sd * (1664525 : Int32)) + (1013904223 : Int32)) &&& (2147483647 : Int32)) / (nI 256)) / (nI 100) * (nI 100)) → T_X12_drawn AF post 26 [.ref 102, .int (nI r), .int z, .int ((sd * (1664525 : Int32)) + (1013904223 : Int32)), .int (v + (nI 0)), .int (nI (i + 1))] [] σ) ∧ (¬ (σ 104 3) ≤ (((((sd * (1664525 : Int32)) + (1013904223 : Int32)) &&& (2147483647 : Int32)) / (nI 256)) - ((((sd * (1664525 : Int32)) + (1013904223 : Int32)) &&& (2147483647 : Int32)) / (nI 256)) / (nI 100) * (nI 100)) → T_X12_drawn AF post 26 [.ref 102, .int (nI r), .int z, .int ((sd * (1664525 : Int32)) + (1013904223 : Int32)), .int (v + (σ 104 4)), .int (nI (i + 1))] [] σ)))))) : T_X12_drawn AF post 26 [.ref 102, .int (nI r), .int z, .int sd, .int v, .int (nI i)] [] σ := by
  refine tt_iload (q := 28) dX12_drawn_26 rfl rfl ?_
  refine tt_aload_n (q := 29) dX12_drawn_28 rfl rfl ?_
  refine tt_iload_n (q := 30) dX12_drawn_29 rfl rfl ?_
  refine callVi_1 (q := 33) dX12_drawn_30 (Or.inr (Or.inr (Or.inr (⟨rfl, rfl, ⟨⟨_, _, rfl, rfl, (Nat.le_of_ble_eq_true rfl), rc_102⟩, Nat.le_of_ble_eq_true rfl, ?_⟩⟩)))) (Nat.le_of_ble_eq_true rfl) rfl (fun t2 r1 ht2 => ht2)
  refine (show TT cX12_size RX12 false CT0 CN0 _ _ _ none 0 [_, _] [] _ _ from ?_)
  refine tt_aload_n (q := 1) dX12_size_0 rfl rfl ?_
  refine tt_getR (q := 4) dX12_size_1 fl_X12_13 or_102_1 (Nat.le_of_ble_eq_true rfl) rfl rfl ?_
  refine tt_bipush (q := 6) dX12_size_4 bi_95 rfl ?_
  refine tt_bipush (q := 8) dX12_size_6 bi_9 rfl ?_
  refine tt_iload_n (q := 9) dX12_size_8 rfl rfl ?_
  refine tt_imulN (q := 10) dX12_size_9 rfl ?_
  refine tt_iaddN (q := 11) dX12_size_10 rfl ?_
  obtain ⟨l3, h⟩ := h
  refine tt_iald (q := 12) dX12_size_11 ia_104 (Nat.le_of_ble_eq_true rfl) rfl l3 rfl ?_
  refine tt_iret dX12_size_12 ⟨rfl, _, rfl, ?_⟩
  refine tt_icmp_ge (q := 36) (t := 85) dX12_drawn_33 rfl rfl (fun c => ?_) (fun c => ?_)
  · replace h := h.1 c
    refine tt_iload (q := 87) dX12_drawn_85 rfl rfl ?_
    exact tt_iret dX12_drawn_87 ⟨rfl, _, rfl, h⟩
  · replace h := h.2 c
    refine tt_iload_n (q := 37) dX12_drawn_36 rfl rfl ?_
    refine tt_ldc (q := 39) dX12_drawn_37 lct_X12_149 rfl ?_
    refine tt_imul (q := 40) dX12_drawn_39 rfl ?_
    refine tt_ldc (q := 42) dX12_drawn_40 lct_X12_150 rfl ?_
    refine tt_iadd (q := 43) dX12_drawn_42 rfl ?_
    refine sti_n_3 (q := 44) dX12_drawn_43 rfl rfl rfl ?_
    refine tt_iload (q := 46) dX12_drawn_44 rfl rfl ?_
    refine tt_iload_n (q := 47) dX12_drawn_46 rfl rfl ?_
    refine tt_ldc (q := 49) dX12_drawn_47 lct_X12_151 rfl ?_
    refine tt_iand (q := 50) dX12_drawn_49 rfl ?_
    refine tt_sipush (q := 53) dX12_drawn_50 si_256 rfl ?_
    refine tt_idiv (q := 54) dX12_drawn_53 (by decide) rfl ?_
    refine tt_bipush (q := 56) dX12_drawn_54 bi_100 rfl ?_
    refine tt_irem (q := 57) dX12_drawn_56 (by decide) rfl ?_
    refine tt_aload_n (q := 58) dX12_drawn_57 rfl rfl ?_
    refine tt_getR (q := 61) dX12_drawn_58 fl_X12_13 or_102_1 (Nat.le_of_ble_eq_true rfl) rfl rfl ?_
    refine tt_iconst (q := 62) dX12_drawn_61 ki_3 rfl ?_
    refine tt_iald (q := 63) dX12_drawn_62 ia_104 (Nat.le_of_ble_eq_true rfl) rfl (Nat.le_of_ble_eq_true rfl : 3 < 197) rfl ?_
    refine tt_icmp_ge (q := 66) (t := 75) dX12_drawn_63 rfl rfl (fun c => ?_) (fun c => ?_)
    · replace h := h.1 c
      refine tt_iconst (q := 76) dX12_drawn_75 ki_0 rfl ?_
      refine tt_iadd (q := 77) dX12_drawn_76 rfl ?_
      refine sti_4 (q := 79) dX12_drawn_77 rfl rfl ?_
      refine inc_5 (q := 82) dX12_drawn_79 (nI_inc1 _) rfl rfl ?_
      refine tt_goto (t := 26) dX12_drawn_82 rfl ?_
      exact h
    · replace h := h.2 c
      refine tt_aload_n (q := 67) dX12_drawn_66 rfl rfl ?_
      refine tt_getR (q := 70) dX12_drawn_67 fl_X12_13 or_102_1 (Nat.le_of_ble_eq_true rfl) rfl rfl ?_
      refine tt_iconst (q := 71) dX12_drawn_70 ki_4 rfl ?_
      refine tt_iald (q := 72) dX12_drawn_71 ia_104 (Nat.le_of_ble_eq_true rfl) rfl (Nat.le_of_ble_eq_true rfl : 4 < 197) rfl ?_
      refine tt_goto (t := 76) dX12_drawn_72 rfl ?_
      refine tt_iadd (q := 77) dX12_drawn_76 rfl ?_
      refine sti_4 (q := 79) dX12_drawn_77 rfl rfl ?_
      refine inc_5 (q := 82) dX12_drawn_79 (nI_inc1 _) rfl rfl ?_
      refine tt_goto (t := 26) dX12_drawn_82 rfl ?_
      exact h

theorem g_X12_tries_0 {post : SG → Int32 → Prop} {σ : SG} {k : Nat} {n : Nat} {tm : Nat} {d : Nat} (h : (((nI k) ≤ 0 → (k < 2 ^ 31 ∧ (n < 2 ^ 31 ∧ ((k = n → post σ 0) ∧ (¬ k = n → (((σ 102 16) ≤ 0 → T_X12_tries d AF post 156 [.ref 102, .int (nI k), .int (nI n), .int (nI tm), .int (nI 0), dum] [] σ) ∧ (¬ (σ 102 16) ≤ 0 → (((nI tm) < (σ 102 15) → T_X12_tries d AF post 156 [.ref 102, .int (nI k), .int (nI n), .int (nI tm), .int (nI 0), dum] [] σ) ∧ (¬ (nI tm) < (σ 102 15) → post σ 0))))))))) ∧ (¬ (nI k) ≤ 0 → (6 * k + 0 < 36 ∧ ((¬ (σ 112 (6 * k + 0)) = (σ 111 0) → (k < 2 ^ 31 ∧ (n < 2 ^ 31 ∧ ((k = n → post σ 0) ∧ (¬ k = n → (((σ 102 16) ≤ 0 → T_X12_tries d AF post 156 [.ref 102, .int (nI k), .int (nI n), .int (nI tm), .int (nI 0), dum] [] σ) ∧ (¬ (σ 102 16) ≤ 0 → (((nI tm) < (σ 102 15) → T_X12_tries d AF post 156 [.ref 102, .int (nI k), .int (nI n), .int (nI tm), .int (nI 0), dum] [] σ) ∧ (¬ (nI tm) < (σ 102 15) → post σ 0))))))))) ∧ ((σ 112 (6 * k + 0)) = (σ 111 0) → (6 * k + 1 < 36 ∧ ((¬ (σ 112 (6 * k + 1)) = (σ 111 1) → (k < 2 ^ 31 ∧ (n < 2 ^ 31 ∧ ((k = n → post σ 0) ∧ (¬ k = n → (((σ 102 16) ≤ 0 → T_X12_tries d AF post 156 [.ref 102, .int (nI k), .int (nI n), .int (nI tm), .int (nI 0), dum] [] σ) ∧ (¬ (σ 102 16) ≤ 0 → (((nI tm) < (σ 102 15) → T_X12_tries d AF post 156 [.ref 102, .int (nI k), .int (nI n), .int (nI tm), .int (nI 0), dum] [] σ) ∧ (¬ (nI tm) < (σ 102 15) → post σ 0))))))))) ∧ ((σ 112 (6 * k + 1)) = (σ 111 1) → (6 * k + 2 < 36 ∧ ((¬ (σ 112 (6 * k + 2)) = (σ 111 2) → (k < 2 ^ 31 ∧ (n < 2 ^ 31 ∧ ((k = n → post σ 0) ∧ (¬ k = n → (((σ 102 16) ≤ 0 → T_X12_tries d AF post 156 [.ref 102, .int (nI k), .int (nI n), .int (nI tm), .int (nI 0), dum] [] σ) ∧ (¬ (σ 102 16) ≤ 0 → (((nI tm) < (σ 102 15) → T_X12_tries d AF post 156 [.ref 102, .int (nI k), .int (nI n), .int (nI tm), .int (nI 0), dum] [] σ) ∧ (¬ (nI tm) < (σ 102 15) → post σ 0))))))))) ∧ ((σ 112 (6 * k + 2)) = (σ 111 2) → (6 * k + 3 < 36 ∧ ((¬ (σ 112 (6 * k + 3)) = (σ 111 3) → (k < 2 ^ 31 ∧ (n < 2 ^ 31 ∧ ((k = n → post σ 0) ∧ (¬ k = n → (((σ 102 16) ≤ 0 → T_X12_tries d AF post 156 [.ref 102, .int (nI k), .int (nI n), .int (nI tm), .int (nI 0), dum] [] σ) ∧ (¬ (σ 102 16) ≤ 0 → (((nI tm) < (σ 102 15) → T_X12_tries d AF post 156 [.ref 102, .int (nI k), .int (nI n), .int (nI tm), .int (nI 0), dum] [] σ) ∧ (¬ (nI tm) < (σ 102 15) → post σ 0))))))))) ∧ ((σ 112 (6 * k + 3)) = (σ 111 3) → (6 * k + 4 < 36 ∧ ((¬ (σ 112 (6 * k + 4)) = (σ 111 4) → (k < 2 ^ 31 ∧ (n < 2 ^ 31 ∧ ((k = n → post σ 0) ∧ (¬ k = n → (((σ 102 16) ≤ 0 → T_X12_tries d AF post 156 [.ref 102, .int (nI k), .int (nI n), .int (nI tm), .int (nI 0), dum] [] σ) ∧ (¬ (σ 102 16) ≤ 0 → (((nI tm) < (σ 102 15) → T_X12_tries d AF post 156 [.ref 102, .int (nI k), .int (nI n), .int (nI tm), .int (nI 0), dum] [] σ) ∧ (¬ (nI tm) < (σ 102 15) → post σ 0))))))))) ∧ ((σ 112 (6 * k + 4)) = (σ 111 4) → (6 * k + 5 < 36 ∧ ((¬ (σ 112 (6 * k + 5)) = (σ 111 5) → (k < 2 ^ 31 ∧ (n < 2 ^ 31 ∧ ((k = n → post σ 0) ∧ (¬ k = n → (((σ 102 16) ≤ 0 → T_X12_tries d AF post 156 [.ref 102, .int (nI k), .int (nI n), .int (nI tm), .int (nI 0), dum] [] σ) ∧ (¬ (σ 102 16) ≤ 0 → (((nI tm) < (σ 102 15) → T_X12_tries d AF post 156 [.ref 102, .int (nI k), .int (nI n), .int (nI tm), .int (nI 0), dum] [] σ) ∧ (¬ (nI tm) < (σ 102 15) → post σ 0))))))))) ∧ ((σ 112 (6 * k + 5)) = (σ 111 5) → (((σ 102 16) = 0 → (∀ s50 : SG, s50 = up σ 102 16 (nI k) → (∀ s51 : SG, s51 = up s50 102 15 (nI tm) → T_X12_tries d AF post 106 [.ref 102, .int (nI k), .int (nI n), .int (nI tm), dum, .int (nI 0)] [] s51))) ∧ (¬ (σ 102 16) = 0 → (((nI tm) < (σ 102 15) → (∀ s53 : SG, s53 = up σ 102 16 (nI k) → (∀ s54 : SG, s54 = up s53 102 15 (nI tm) → T_X12_tries d AF post 106 [.ref 102, .int (nI k), .int (nI n), .int (nI tm), dum, .int (nI 0)] [] s54))) ∧ (¬ (nI tm) < (σ 102 15) → ((¬ (nI tm) = (σ 102 15) → (k < 2 ^ 31 ∧ (n < 2 ^ 31 ∧ ((k = n → post σ 0) ∧ (¬ k = n → (((σ 102 16) ≤ 0 → T_X12_tries d AF post 156 [.ref 102, .int (nI k), .int (nI n), .int (nI tm), .int (nI 0), dum] [] σ) ∧ (¬ (σ 102 16) ≤ 0 → (((nI tm) < (σ 102 15) → T_X12_tries d AF post 156 [.ref 102, .int (nI k), .int (nI n), .int (nI tm), .int (nI 0), dum] [] σ) ∧ (¬ (nI tm) < (σ 102 15) → post σ 0))))))))) ∧ ((nI tm) = (σ 102 15) → (((σ 102 16) ≤ (nI k) → (k < 2 ^ 31 ∧ (n < 2 ^ 31 ∧ ((k = n → post σ 0) ∧ (¬ k = n → (((σ 102 16) ≤ 0 → T_X12_tries d AF post 156 [.ref 102, .int (nI k), .int (nI n), .int (nI tm), .int (nI 0), dum] [] σ) ∧ (¬ (σ 102 16) ≤ 0 → (((nI tm) < (σ 102 15) → T_X12_tries d AF post 156 [.ref 102, .int (nI k), .int (nI n), .int (nI tm), .int (nI 0), dum] [] σ) ∧ (¬ (nI tm) < (σ 102 15) → post σ 0))))))))) ∧ (¬ (σ 102 16) ≤ (nI k) → (∀ s67 : SG, s67 = up σ 102 16 (nI k) → (∀ s68 : SG, s68 = up s67 102 15 (nI tm) → T_X12_tries d AF post 106 [.ref 102, .int (nI k), .int (nI n), .int (nI tm), dum, .int (nI 0)] [] s68))))))))))))))))))))))))))))))) : T_X12_tries d AF post 0 [.ref 102, .int (nI k), .int (nI n), .int (nI tm), dum, dum] [] σ := by
  refine tt_iload_n (q := 1) dX12_tries_0 rfl rfl ?_
  refine tt_if_le (q := 4) (t := 132) dX12_tries_1 rfl rfl (fun c => ?_) (fun c => ?_)
  · replace h := h.1 c
    refine tt_iload_n (q := 133) dX12_tries_132 rfl rfl ?_
    refine tt_iload_n (q := 134) dX12_tries_133 rfl rfl ?_
    obtain ⟨l3, h⟩ := h
    obtain ⟨l4, h⟩ := h
    refine tt_icmp_eq (q := 137) (t := 152) dX12_tries_134 rfl rfl (fun c => ?_) (fun c => ?_)
    · replace h := h.1 ((nI_eq l3 l4).1 c)
      exact tt_vret dX12_tries_152 ⟨rfl, rfl, h⟩
    · replace h := h.2 (fun z => c ((nI_eq l3 l4).2 z))
      refine tt_aload_n (q := 138) dX12_tries_137 rfl rfl ?_
      refine tt_getI (q := 141) dX12_tries_138 fl_X12_152 oi_102_16 (Nat.le_of_ble_eq_true rfl) rfl ?_
      refine tt_if_le (q := 144) (t := 153) dX12_tries_141 rfl rfl (fun c => ?_) (fun c => ?_)
      · replace h := h.1 c
        refine tt_iconst (q := 154) dX12_tries_153 ki_0 rfl ?_
        refine sti_4 (q := 156) dX12_tries_154 rfl rfl ?_
        exact h
      · replace h := h.2 c
        refine tt_iload_n (q := 145) dX12_tries_144 rfl rfl ?_
        refine tt_aload_n (q := 146) dX12_tries_145 rfl rfl ?_
        refine tt_getI (q := 149) dX12_tries_146 fl_X12_155 oi_102_15 (Nat.le_of_ble_eq_true rfl) rfl ?_
        refine tt_icmp_lt (q := 152) (t := 153) dX12_tries_149 rfl rfl (fun c => ?_) (fun c => ?_)
        · replace h := h.1 c
          refine tt_iconst (q := 154) dX12_tries_153 ki_0 rfl ?_
          refine sti_4 (q := 156) dX12_tries_154 rfl rfl ?_
          exact h
        · replace h := h.2 c
          exact tt_vret dX12_tries_152 ⟨rfl, rfl, h⟩
  · replace h := h.2 c
    refine tt_iconst (q := 5) dX12_tries_4 ki_1 rfl ?_
    refine sti_4 (q := 7) dX12_tries_5 rfl rfl ?_
    refine tt_iconst (q := 8) dX12_tries_7 ki_0 rfl ?_
    refine sti_5 (q := 10) dX12_tries_8 rfl rfl ?_
    refine tt_iload (q := 12) dX12_tries_10 rfl rfl ?_
    refine tt_bipush (q := 14) dX12_tries_12 bi_6 rfl ?_
    refine tt_icmp_ge (q := 17) (t := 57) dX12_tries_14 rfl rfl (fun c => absurd c (by decide)) (fun c => ?_)
    clear c
    refine tt_iload (q := 19) dX12_tries_17 rfl rfl ?_
    refine tt_if_eq (q := 22) (t := 48) dX12_tries_19 rfl rfl (fun c => absurd c (by decide)) (fun c => ?_)
    clear c
    refine tt_aload_n (q := 23) dX12_tries_22 rfl rfl ?_
    refine tt_getR (q := 26) dX12_tries_23 fl_X12_37 or_102_13 (Nat.le_of_ble_eq_true rfl) rfl rfl ?_
    refine tt_bipush (q := 28) dX12_tries_26 bi_6 rfl ?_
    refine tt_iload_n (q := 29) dX12_tries_28 rfl rfl ?_
    refine tt_imulN (q := 30) dX12_tries_29 rfl ?_
    refine tt_iload (q := 32) dX12_tries_30 rfl rfl ?_
    refine tt_iaddN (q := 33) dX12_tries_32 rfl ?_
    obtain ⟨l7, h⟩ := h
    refine tt_iald (q := 34) dX12_tries_33 ia_112 (Nat.le_of_ble_eq_true rfl) rfl l7 rfl ?_
    refine tt_aload_n (q := 35) dX12_tries_34 rfl rfl ?_
    refine tt_getR (q := 38) dX12_tries_35 fl_X12_34 or_102_12 (Nat.le_of_ble_eq_true rfl) rfl rfl ?_
    refine tt_iload (q := 40) dX12_tries_38 rfl rfl ?_
    refine tt_iald (q := 41) dX12_tries_40 ia_111 (Nat.le_of_ble_eq_true rfl) rfl (Nat.le_of_ble_eq_true rfl : 0 < 6) rfl ?_
    refine tt_icmp_ne (q := 44) (t := 48) dX12_tries_41 rfl rfl (fun c => ?_) (fun c => ?_)
    · replace h := h.1 c
      refine tt_iconst (q := 49) dX12_tries_48 ki_0 rfl ?_
      refine sti_4 (q := 51) dX12_tries_49 rfl rfl ?_
      refine inc_5 (v := nI 1) (q := 54) dX12_tries_51 (by decide) rfl rfl ?_
      refine tt_goto (t := 10) dX12_tries_54 rfl ?_
      refine tt_iload (q := 12) dX12_tries_10 rfl rfl ?_
      refine tt_bipush (q := 14) dX12_tries_12 bi_6 rfl ?_
      refine tt_icmp_ge (q := 17) (t := 57) dX12_tries_14 rfl rfl (fun c => absurd c (by decide)) (fun c => ?_)
      clear c
      refine tt_iload (q := 19) dX12_tries_17 rfl rfl ?_
      refine tt_if_eq (q := 22) (t := 48) dX12_tries_19 rfl rfl (fun c => ?_) (fun c => absurd c (by decide))
      clear c
      refine tt_iconst (q := 49) dX12_tries_48 ki_0 rfl ?_
      refine sti_4 (q := 51) dX12_tries_49 rfl rfl ?_
      refine inc_5 (v := nI 2) (q := 54) dX12_tries_51 (by decide) rfl rfl ?_
      refine tt_goto (t := 10) dX12_tries_54 rfl ?_
      refine tt_iload (q := 12) dX12_tries_10 rfl rfl ?_
      refine tt_bipush (q := 14) dX12_tries_12 bi_6 rfl ?_
      refine tt_icmp_ge (q := 17) (t := 57) dX12_tries_14 rfl rfl (fun c => absurd c (by decide)) (fun c => ?_)
      clear c
      refine tt_iload (q := 19) dX12_tries_17 rfl rfl ?_
      refine tt_if_eq (q := 22) (t := 48) dX12_tries_19 rfl rfl (fun c => ?_) (fun c => absurd c (by decide))
      clear c
      refine tt_iconst (q := 49) dX12_tries_48 ki_0 rfl ?_
      refine sti_4 (q := 51) dX12_tries_49 rfl rfl ?_
      refine inc_5 (v := nI 3) (q := 54) dX12_tries_51 (by decide) rfl rfl ?_
      refine tt_goto (t := 10) dX12_tries_54 rfl ?_
      refine tt_iload (q := 12) dX12_tries_10 rfl rfl ?_
      refine tt_bipush (q := 14) dX12_tries_12 bi_6 rfl ?_
      refine tt_icmp_ge (q := 17) (t := 57) dX12_tries_14 rfl rfl (fun c => absurd c (by decide)) (fun c => ?_)
      clear c
      refine tt_iload (q := 19) dX12_tries_17 rfl rfl ?_
      refine tt_if_eq (q := 22) (t := 48) dX12_tries_19 rfl rfl (fun c => ?_) (fun c => absurd c (by decide))
      clear c
      refine tt_iconst (q := 49) dX12_tries_48 ki_0 rfl ?_
      refine sti_4 (q := 51) dX12_tries_49 rfl rfl ?_
      refine inc_5 (v := nI 4) (q := 54) dX12_tries_51 (by decide) rfl rfl ?_
      refine tt_goto (t := 10) dX12_tries_54 rfl ?_
      refine tt_iload (q := 12) dX12_tries_10 rfl rfl ?_
      refine tt_bipush (q := 14) dX12_tries_12 bi_6 rfl ?_
      refine tt_icmp_ge (q := 17) (t := 57) dX12_tries_14 rfl rfl (fun c => absurd c (by decide)) (fun c => ?_)
      clear c
      refine tt_iload (q := 19) dX12_tries_17 rfl rfl ?_
      refine tt_if_eq (q := 22) (t := 48) dX12_tries_19 rfl rfl (fun c => ?_) (fun c => absurd c (by decide))
      clear c
      refine tt_iconst (q := 49) dX12_tries_48 ki_0 rfl ?_
      refine sti_4 (q := 51) dX12_tries_49 rfl rfl ?_
      refine inc_5 (v := nI 5) (q := 54) dX12_tries_51 (by decide) rfl rfl ?_
      refine tt_goto (t := 10) dX12_tries_54 rfl ?_
      refine tt_iload (q := 12) dX12_tries_10 rfl rfl ?_
      refine tt_bipush (q := 14) dX12_tries_12 bi_6 rfl ?_
      refine tt_icmp_ge (q := 17) (t := 57) dX12_tries_14 rfl rfl (fun c => absurd c (by decide)) (fun c => ?_)
      clear c
      refine tt_iload (q := 19) dX12_tries_17 rfl rfl ?_
      refine tt_if_eq (q := 22) (t := 48) dX12_tries_19 rfl rfl (fun c => ?_) (fun c => absurd c (by decide))
      clear c
      refine tt_iconst (q := 49) dX12_tries_48 ki_0 rfl ?_
      refine sti_4 (q := 51) dX12_tries_49 rfl rfl ?_
      refine inc_5 (v := nI 6) (q := 54) dX12_tries_51 (by decide) rfl rfl ?_
      refine tt_goto (t := 10) dX12_tries_54 rfl ?_
      refine tt_iload (q := 12) dX12_tries_10 rfl rfl ?_
      refine tt_bipush (q := 14) dX12_tries_12 bi_6 rfl ?_
      refine tt_icmp_ge (q := 17) (t := 57) dX12_tries_14 rfl rfl (fun c => ?_) (fun c => absurd c (by decide))
      clear c
      refine tt_iload (q := 59) dX12_tries_57 rfl rfl ?_
      refine tt_if_eq (q := 62) (t := 132) dX12_tries_59 rfl rfl (fun c => ?_) (fun c => absurd c (by decide))
      clear c
      refine tt_iload_n (q := 133) dX12_tries_132 rfl rfl ?_
      refine tt_iload_n (q := 134) dX12_tries_133 rfl rfl ?_
      obtain ⟨l10, h⟩ := h
      obtain ⟨l11, h⟩ := h
      refine tt_icmp_eq (q := 137) (t := 152) dX12_tries_134 rfl rfl (fun c => ?_) (fun c => ?_)
      · replace h := h.1 ((nI_eq l10 l11).1 c)
        exact tt_vret dX12_tries_152 ⟨rfl, rfl, h⟩
      · replace h := h.2 (fun z => c ((nI_eq l10 l11).2 z))
        refine tt_aload_n (q := 138) dX12_tries_137 rfl rfl ?_
        refine tt_getI (q := 141) dX12_tries_138 fl_X12_152 oi_102_16 (Nat.le_of_ble_eq_true rfl) rfl ?_
        refine tt_if_le (q := 144) (t := 153) dX12_tries_141 rfl rfl (fun c => ?_) (fun c => ?_)
        · replace h := h.1 c
          refine tt_iconst (q := 154) dX12_tries_153 ki_0 rfl ?_
          refine sti_4 (q := 156) dX12_tries_154 rfl rfl ?_
          refine tt_wk (L2 := [_, _, _, _, _, dum]) ⟨Or.inl rfl, Or.inl rfl, Or.inl rfl, Or.inl rfl, Or.inl rfl, Or.inr rfl, trivial⟩ ?_
          exact h
        · replace h := h.2 c
          refine tt_iload_n (q := 145) dX12_tries_144 rfl rfl ?_
          refine tt_aload_n (q := 146) dX12_tries_145 rfl rfl ?_
          refine tt_getI (q := 149) dX12_tries_146 fl_X12_155 oi_102_15 (Nat.le_of_ble_eq_true rfl) rfl ?_
          refine tt_icmp_lt (q := 152) (t := 153) dX12_tries_149 rfl rfl (fun c => ?_) (fun c => ?_)
          · replace h := h.1 c
            refine tt_iconst (q := 154) dX12_tries_153 ki_0 rfl ?_
            refine sti_4 (q := 156) dX12_tries_154 rfl rfl ?_
            refine tt_wk (L2 := [_, _, _, _, _, dum]) ⟨Or.inl rfl, Or.inl rfl, Or.inl rfl, Or.inl rfl, Or.inl rfl, Or.inr rfl, trivial⟩ ?_
            exact h
          · replace h := h.2 c
            exact tt_vret dX12_tries_152 ⟨rfl, rfl, h⟩
    · replace h := h.2 c
      refine tt_iconst (q := 45) dX12_tries_44 ki_1 rfl ?_
      refine tt_goto (t := 49) dX12_tries_45 rfl ?_
      refine sti_4 (q := 51) dX12_tries_49 rfl rfl ?_
      refine inc_5 (v := nI 1) (q := 54) dX12_tries_51 (by decide) rfl rfl ?_
      refine tt_goto (t := 10) dX12_tries_54 rfl ?_
      refine tt_iload (q := 12) dX12_tries_10 rfl rfl ?_
      refine tt_bipush (q := 14) dX12_tries_12 bi_6 rfl ?_
      refine tt_icmp_ge (q := 17) (t := 57) dX12_tries_14 rfl rfl (fun c => absurd c (by decide)) (fun c => ?_)
      clear c
      refine tt_iload (q := 19) dX12_tries_17 rfl rfl ?_
      refine tt_if_eq (q := 22) (t := 48) dX12_tries_19 rfl rfl (fun c => absurd c (by decide)) (fun c => ?_)
      clear c
      refine tt_aload_n (q := 23) dX12_tries_22 rfl rfl ?_
      refine tt_getR (q := 26) dX12_tries_23 fl_X12_37 or_102_13 (Nat.le_of_ble_eq_true rfl) rfl rfl ?_
      refine tt_bipush (q := 28) dX12_tries_26 bi_6 rfl ?_
      refine tt_iload_n (q := 29) dX12_tries_28 rfl rfl ?_
      refine tt_imulN (q := 30) dX12_tries_29 rfl ?_
      refine tt_iload (q := 32) dX12_tries_30 rfl rfl ?_
      refine tt_iaddN (q := 33) dX12_tries_32 rfl ?_
      obtain ⟨l14, h⟩ := h
      refine tt_iald (q := 34) dX12_tries_33 ia_112 (Nat.le_of_ble_eq_true rfl) rfl l14 rfl ?_
      refine tt_aload_n (q := 35) dX12_tries_34 rfl rfl ?_
      refine tt_getR (q := 38) dX12_tries_35 fl_X12_34 or_102_12 (Nat.le_of_ble_eq_true rfl) rfl rfl ?_
      refine tt_iload (q := 40) dX12_tries_38 rfl rfl ?_
      refine tt_iald (q := 41) dX12_tries_40 ia_111 (Nat.le_of_ble_eq_true rfl) rfl (Nat.le_of_ble_eq_true rfl : 1 < 6) rfl ?_
      refine tt_icmp_ne (q := 44) (t := 48) dX12_tries_41 rfl rfl (fun c => ?_) (fun c => ?_)
      · replace h := h.1 c
        refine tt_iconst (q := 49) dX12_tries_48 ki_0 rfl ?_
        refine sti_4 (q := 51) dX12_tries_49 rfl rfl ?_
        refine inc_5 (v := nI 2) (q := 54) dX12_tries_51 (by decide) rfl rfl ?_
        refine tt_goto (t := 10) dX12_tries_54 rfl ?_
        refine tt_iload (q := 12) dX12_tries_10 rfl rfl ?_
        refine tt_bipush (q := 14) dX12_tries_12 bi_6 rfl ?_
        refine tt_icmp_ge (q := 17) (t := 57) dX12_tries_14 rfl rfl (fun c => absurd c (by decide)) (fun c => ?_)
        clear c
        refine tt_iload (q := 19) dX12_tries_17 rfl rfl ?_
        refine tt_if_eq (q := 22) (t := 48) dX12_tries_19 rfl rfl (fun c => ?_) (fun c => absurd c (by decide))
        clear c
        refine tt_iconst (q := 49) dX12_tries_48 ki_0 rfl ?_
        refine sti_4 (q := 51) dX12_tries_49 rfl rfl ?_
        refine inc_5 (v := nI 3) (q := 54) dX12_tries_51 (by decide) rfl rfl ?_
        refine tt_goto (t := 10) dX12_tries_54 rfl ?_
        refine tt_iload (q := 12) dX12_tries_10 rfl rfl ?_
        refine tt_bipush (q := 14) dX12_tries_12 bi_6 rfl ?_
        refine tt_icmp_ge (q := 17) (t := 57) dX12_tries_14 rfl rfl (fun c => absurd c (by decide)) (fun c => ?_)
        clear c
        refine tt_iload (q := 19) dX12_tries_17 rfl rfl ?_
        refine tt_if_eq (q := 22) (t := 48) dX12_tries_19 rfl rfl (fun c => ?_) (fun c => absurd c (by decide))
        clear c
        refine tt_iconst (q := 49) dX12_tries_48 ki_0 rfl ?_
        refine sti_4 (q := 51) dX12_tries_49 rfl rfl ?_
        refine inc_5 (v := nI 4) (q := 54) dX12_tries_51 (by decide) rfl rfl ?_
        refine tt_goto (t := 10) dX12_tries_54 rfl ?_
        refine tt_iload (q := 12) dX12_tries_10 rfl rfl ?_
        refine tt_bipush (q := 14) dX12_tries_12 bi_6 rfl ?_
        refine tt_icmp_ge (q := 17) (t := 57) dX12_tries_14 rfl rfl (fun c => absurd c (by decide)) (fun c => ?_)
        clear c
        refine tt_iload (q := 19) dX12_tries_17 rfl rfl ?_
        refine tt_if_eq (q := 22) (t := 48) dX12_tries_19 rfl rfl (fun c => ?_) (fun c => absurd c (by decide))
        clear c
        refine tt_iconst (q := 49) dX12_tries_48 ki_0 rfl ?_
        refine sti_4 (q := 51) dX12_tries_49 rfl rfl ?_
        refine inc_5 (v := nI 5) (q := 54) dX12_tries_51 (by decide) rfl rfl ?_
        refine tt_goto (t := 10) dX12_tries_54 rfl ?_
        refine tt_iload (q := 12) dX12_tries_10 rfl rfl ?_
        refine tt_bipush (q := 14) dX12_tries_12 bi_6 rfl ?_
        refine tt_icmp_ge (q := 17) (t := 57) dX12_tries_14 rfl rfl (fun c => absurd c (by decide)) (fun c => ?_)
        clear c
        refine tt_iload (q := 19) dX12_tries_17 rfl rfl ?_
        refine tt_if_eq (q := 22) (t := 48) dX12_tries_19 rfl rfl (fun c => ?_) (fun c => absurd c (by decide))
        clear c
        refine tt_iconst (q := 49) dX12_tries_48 ki_0 rfl ?_
        refine sti_4 (q := 51) dX12_tries_49 rfl rfl ?_
        refine inc_5 (v := nI 6) (q := 54) dX12_tries_51 (by decide) rfl rfl ?_
        refine tt_goto (t := 10) dX12_tries_54 rfl ?_
        refine tt_iload (q := 12) dX12_tries_10 rfl rfl ?_
        refine tt_bipush (q := 14) dX12_tries_12 bi_6 rfl ?_
        refine tt_icmp_ge (q := 17) (t := 57) dX12_tries_14 rfl rfl (fun c => ?_) (fun c => absurd c (by decide))
        clear c
        refine tt_iload (q := 59) dX12_tries_57 rfl rfl ?_
        refine tt_if_eq (q := 62) (t := 132) dX12_tries_59 rfl rfl (fun c => ?_) (fun c => absurd c (by decide))
        clear c
        refine tt_iload_n (q := 133) dX12_tries_132 rfl rfl ?_
        refine tt_iload_n (q := 134) dX12_tries_133 rfl rfl ?_
        obtain ⟨l17, h⟩ := h
        obtain ⟨l18, h⟩ := h
        refine tt_icmp_eq (q := 137) (t := 152) dX12_tries_134 rfl rfl (fun c => ?_) (fun c => ?_)
        · replace h := h.1 ((nI_eq l17 l18).1 c)
          exact tt_vret dX12_tries_152 ⟨rfl, rfl, h⟩
        · replace h := h.2 (fun z => c ((nI_eq l17 l18).2 z))
          refine tt_aload_n (q := 138) dX12_tries_137 rfl rfl ?_
          refine tt_getI (q := 141) dX12_tries_138 fl_X12_152 oi_102_16 (Nat.le_of_ble_eq_true rfl) rfl ?_
          refine tt_if_le (q := 144) (t := 153) dX12_tries_141 rfl rfl (fun c => ?_) (fun c => ?_)
          · replace h := h.1 c
            refine tt_iconst (q := 154) dX12_tries_153 ki_0 rfl ?_
            refine sti_4 (q := 156) dX12_tries_154 rfl rfl ?_
            refine tt_wk (L2 := [_, _, _, _, _, dum]) ⟨Or.inl rfl, Or.inl rfl, Or.inl rfl, Or.inl rfl, Or.inl rfl, Or.inr rfl, trivial⟩ ?_
            exact h
          · replace h := h.2 c
            refine tt_iload_n (q := 145) dX12_tries_144 rfl rfl ?_
            refine tt_aload_n (q := 146) dX12_tries_145 rfl rfl ?_
            refine tt_getI (q := 149) dX12_tries_146 fl_X12_155 oi_102_15 (Nat.le_of_ble_eq_true rfl) rfl ?_
            refine tt_icmp_lt (q := 152) (t := 153) dX12_tries_149 rfl rfl (fun c => ?_) (fun c => ?_)
            · replace h := h.1 c
              refine tt_iconst (q := 154) dX12_tries_153 ki_0 rfl ?_
              refine sti_4 (q := 156) dX12_tries_154 rfl rfl ?_
              refine tt_wk (L2 := [_, _, _, _, _, dum]) ⟨Or.inl rfl, Or.inl rfl, Or.inl rfl, Or.inl rfl, Or.inl rfl, Or.inr rfl, trivial⟩ ?_
              exact h
            · replace h := h.2 c
              exact tt_vret dX12_tries_152 ⟨rfl, rfl, h⟩
      · replace h := h.2 c
        refine tt_iconst (q := 45) dX12_tries_44 ki_1 rfl ?_
        refine tt_goto (t := 49) dX12_tries_45 rfl ?_
        refine sti_4 (q := 51) dX12_tries_49 rfl rfl ?_
        refine inc_5 (v := nI 2) (q := 54) dX12_tries_51 (by decide) rfl rfl ?_
        refine tt_goto (t := 10) dX12_tries_54 rfl ?_
        refine tt_iload (q := 12) dX12_tries_10 rfl rfl ?_
        refine tt_bipush (q := 14) dX12_tries_12 bi_6 rfl ?_
        refine tt_icmp_ge (q := 17) (t := 57) dX12_tries_14 rfl rfl (fun c => absurd c (by decide)) (fun c => ?_)
        clear c
        refine tt_iload (q := 19) dX12_tries_17 rfl rfl ?_
        refine tt_if_eq (q := 22) (t := 48) dX12_tries_19 rfl rfl (fun c => absurd c (by decide)) (fun c => ?_)
        clear c
        refine tt_aload_n (q := 23) dX12_tries_22 rfl rfl ?_
        refine tt_getR (q := 26) dX12_tries_23 fl_X12_37 or_102_13 (Nat.le_of_ble_eq_true rfl) rfl rfl ?_
        refine tt_bipush (q := 28) dX12_tries_26 bi_6 rfl ?_
        refine tt_iload_n (q := 29) dX12_tries_28 rfl rfl ?_
        refine tt_imulN (q := 30) dX12_tries_29 rfl ?_
        refine tt_iload (q := 32) dX12_tries_30 rfl rfl ?_
        refine tt_iaddN (q := 33) dX12_tries_32 rfl ?_
        obtain ⟨l21, h⟩ := h
        refine tt_iald (q := 34) dX12_tries_33 ia_112 (Nat.le_of_ble_eq_true rfl) rfl l21 rfl ?_
        refine tt_aload_n (q := 35) dX12_tries_34 rfl rfl ?_
        refine tt_getR (q := 38) dX12_tries_35 fl_X12_34 or_102_12 (Nat.le_of_ble_eq_true rfl) rfl rfl ?_
        refine tt_iload (q := 40) dX12_tries_38 rfl rfl ?_
        refine tt_iald (q := 41) dX12_tries_40 ia_111 (Nat.le_of_ble_eq_true rfl) rfl (Nat.le_of_ble_eq_true rfl : 2 < 6) rfl ?_
        refine tt_icmp_ne (q := 44) (t := 48) dX12_tries_41 rfl rfl (fun c => ?_) (fun c => ?_)
        · replace h := h.1 c
          refine tt_iconst (q := 49) dX12_tries_48 ki_0 rfl ?_
          refine sti_4 (q := 51) dX12_tries_49 rfl rfl ?_
          refine inc_5 (v := nI 3) (q := 54) dX12_tries_51 (by decide) rfl rfl ?_
          refine tt_goto (t := 10) dX12_tries_54 rfl ?_
          refine tt_iload (q := 12) dX12_tries_10 rfl rfl ?_
          refine tt_bipush (q := 14) dX12_tries_12 bi_6 rfl ?_
          refine tt_icmp_ge (q := 17) (t := 57) dX12_tries_14 rfl rfl (fun c => absurd c (by decide)) (fun c => ?_)
          clear c
          refine tt_iload (q := 19) dX12_tries_17 rfl rfl ?_
          refine tt_if_eq (q := 22) (t := 48) dX12_tries_19 rfl rfl (fun c => ?_) (fun c => absurd c (by decide))
          clear c
          refine tt_iconst (q := 49) dX12_tries_48 ki_0 rfl ?_
          refine sti_4 (q := 51) dX12_tries_49 rfl rfl ?_
          refine inc_5 (v := nI 4) (q := 54) dX12_tries_51 (by decide) rfl rfl ?_
          refine tt_goto (t := 10) dX12_tries_54 rfl ?_
          refine tt_iload (q := 12) dX12_tries_10 rfl rfl ?_
          refine tt_bipush (q := 14) dX12_tries_12 bi_6 rfl ?_
          refine tt_icmp_ge (q := 17) (t := 57) dX12_tries_14 rfl rfl (fun c => absurd c (by decide)) (fun c => ?_)
          clear c
          refine tt_iload (q := 19) dX12_tries_17 rfl rfl ?_
          refine tt_if_eq (q := 22) (t := 48) dX12_tries_19 rfl rfl (fun c => ?_) (fun c => absurd c (by decide))
          clear c
          refine tt_iconst (q := 49) dX12_tries_48 ki_0 rfl ?_
          refine sti_4 (q := 51) dX12_tries_49 rfl rfl ?_
          refine inc_5 (v := nI 5) (q := 54) dX12_tries_51 (by decide) rfl rfl ?_
          refine tt_goto (t := 10) dX12_tries_54 rfl ?_
          refine tt_iload (q := 12) dX12_tries_10 rfl rfl ?_
          refine tt_bipush (q := 14) dX12_tries_12 bi_6 rfl ?_
          refine tt_icmp_ge (q := 17) (t := 57) dX12_tries_14 rfl rfl (fun c => absurd c (by decide)) (fun c => ?_)
          clear c
          refine tt_iload (q := 19) dX12_tries_17 rfl rfl ?_
          refine tt_if_eq (q := 22) (t := 48) dX12_tries_19 rfl rfl (fun c => ?_) (fun c => absurd c (by decide))
          clear c
          refine tt_iconst (q := 49) dX12_tries_48 ki_0 rfl ?_
          refine sti_4 (q := 51) dX12_tries_49 rfl rfl ?_
          refine inc_5 (v := nI 6) (q := 54) dX12_tries_51 (by decide) rfl rfl ?_
          refine tt_goto (t := 10) dX12_tries_54 rfl ?_
          refine tt_iload (q := 12) dX12_tries_10 rfl rfl ?_
          refine tt_bipush (q := 14) dX12_tries_12 bi_6 rfl ?_
          refine tt_icmp_ge (q := 17) (t := 57) dX12_tries_14 rfl rfl (fun c => ?_) (fun c => absurd c (by decide))
          clear c
          refine tt_iload (q := 59) dX12_tries_57 rfl rfl ?_
          refine tt_if_eq (q := 62) (t := 132) dX12_tries_59 rfl rfl (fun c => ?_) (fun c => absurd c (by decide))
          clear c
          refine tt_iload_n (q := 133) dX12_tries_132 rfl rfl ?_
          refine tt_iload_n (q := 134) dX12_tries_133 rfl rfl ?_
          obtain ⟨l24, h⟩ := h
          obtain ⟨l25, h⟩ := h
          refine tt_icmp_eq (q := 137) (t := 152) dX12_tries_134 rfl rfl (fun c => ?_) (fun c => ?_)
          · replace h := h.1 ((nI_eq l24 l25).1 c)
            exact tt_vret dX12_tries_152 ⟨rfl, rfl, h⟩
          · replace h := h.2 (fun z => c ((nI_eq l24 l25).2 z))
            refine tt_aload_n (q := 138) dX12_tries_137 rfl rfl ?_
            refine tt_getI (q := 141) dX12_tries_138 fl_X12_152 oi_102_16 (Nat.le_of_ble_eq_true rfl) rfl ?_
            refine tt_if_le (q := 144) (t := 153) dX12_tries_141 rfl rfl (fun c => ?_) (fun c => ?_)
            · replace h := h.1 c
              refine tt_iconst (q := 154) dX12_tries_153 ki_0 rfl ?_
              refine sti_4 (q := 156) dX12_tries_154 rfl rfl ?_
              refine tt_wk (L2 := [_, _, _, _, _, dum]) ⟨Or.inl rfl, Or.inl rfl, Or.inl rfl, Or.inl rfl, Or.inl rfl, Or.inr rfl, trivial⟩ ?_
              exact h
            · replace h := h.2 c
              refine tt_iload_n (q := 145) dX12_tries_144 rfl rfl ?_
              refine tt_aload_n (q := 146) dX12_tries_145 rfl rfl ?_
              refine tt_getI (q := 149) dX12_tries_146 fl_X12_155 oi_102_15 (Nat.le_of_ble_eq_true rfl) rfl ?_
              refine tt_icmp_lt (q := 152) (t := 153) dX12_tries_149 rfl rfl (fun c => ?_) (fun c => ?_)
              · replace h := h.1 c
                refine tt_iconst (q := 154) dX12_tries_153 ki_0 rfl ?_
                refine sti_4 (q := 156) dX12_tries_154 rfl rfl ?_
                refine tt_wk (L2 := [_, _, _, _, _, dum]) ⟨Or.inl rfl, Or.inl rfl, Or.inl rfl, Or.inl rfl, Or.inl rfl, Or.inr rfl, trivial⟩ ?_
                exact h
              · replace h := h.2 c
                exact tt_vret dX12_tries_152 ⟨rfl, rfl, h⟩
        · replace h := h.2 c
          refine tt_iconst (q := 45) dX12_tries_44 ki_1 rfl ?_
          refine tt_goto (t := 49) dX12_tries_45 rfl ?_
          refine sti_4 (q := 51) dX12_tries_49 rfl rfl ?_
          refine inc_5 (v := nI 3) (q := 54) dX12_tries_51 (by decide) rfl rfl ?_
          refine tt_goto (t := 10) dX12_tries_54 rfl ?_
          refine tt_iload (q := 12) dX12_tries_10 rfl rfl ?_
          refine tt_bipush (q := 14) dX12_tries_12 bi_6 rfl ?_
          refine tt_icmp_ge (q := 17) (t := 57) dX12_tries_14 rfl rfl (fun c => absurd c (by decide)) (fun c => ?_)
          clear c
          refine tt_iload (q := 19) dX12_tries_17 rfl rfl ?_
          refine tt_if_eq (q := 22) (t := 48) dX12_tries_19 rfl rfl (fun c => absurd c (by decide)) (fun c => ?_)
          clear c
          refine tt_aload_n (q := 23) dX12_tries_22 rfl rfl ?_
          refine tt_getR (q := 26) dX12_tries_23 fl_X12_37 or_102_13 (Nat.le_of_ble_eq_true rfl) rfl rfl ?_
          refine tt_bipush (q := 28) dX12_tries_26 bi_6 rfl ?_
          refine tt_iload_n (q := 29) dX12_tries_28 rfl rfl ?_
          refine tt_imulN (q := 30) dX12_tries_29 rfl ?_
          refine tt_iload (q := 32) dX12_tries_30 rfl rfl ?_
          refine tt_iaddN (q := 33) dX12_tries_32 rfl ?_
          obtain ⟨l28, h⟩ := h
          refine tt_iald (q := 34) dX12_tries_33 ia_112 (Nat.le_of_ble_eq_true rfl) rfl l28 rfl ?_
          refine tt_aload_n (q := 35) dX12_tries_34 rfl rfl ?_
          refine tt_getR (q := 38) dX12_tries_35 fl_X12_34 or_102_12 (Nat.le_of_ble_eq_true rfl) rfl rfl ?_
          refine tt_iload (q := 40) dX12_tries_38 rfl rfl ?_
          refine tt_iald (q := 41) dX12_tries_40 ia_111 (Nat.le_of_ble_eq_true rfl) rfl (Nat.le_of_ble_eq_true rfl : 3 < 6) rfl ?_
          refine tt_icmp_ne (q := 44) (t := 48) dX12_tries_41 rfl rfl (fun c => ?_) (fun c => ?_)
          · replace h := h.1 c
            refine tt_iconst (q := 49) dX12_tries_48 ki_0 rfl ?_
            refine sti_4 (q := 51) dX12_tries_49 rfl rfl ?_
            refine inc_5 (v := nI 4) (q := 54) dX12_tries_51 (by decide) rfl rfl ?_
            refine tt_goto (t := 10) dX12_tries_54 rfl ?_
            refine tt_iload (q := 12) dX12_tries_10 rfl rfl ?_
            refine tt_bipush (q := 14) dX12_tries_12 bi_6 rfl ?_
            refine tt_icmp_ge (q := 17) (t := 57) dX12_tries_14 rfl rfl (fun c => absurd c (by decide)) (fun c => ?_)
            clear c
            refine tt_iload (q := 19) dX12_tries_17 rfl rfl ?_
            refine tt_if_eq (q := 22) (t := 48) dX12_tries_19 rfl rfl (fun c => ?_) (fun c => absurd c (by decide))
            clear c
            refine tt_iconst (q := 49) dX12_tries_48 ki_0 rfl ?_
            refine sti_4 (q := 51) dX12_tries_49 rfl rfl ?_
            refine inc_5 (v := nI 5) (q := 54) dX12_tries_51 (by decide) rfl rfl ?_
            refine tt_goto (t := 10) dX12_tries_54 rfl ?_
            refine tt_iload (q := 12) dX12_tries_10 rfl rfl ?_
            refine tt_bipush (q := 14) dX12_tries_12 bi_6 rfl ?_
            refine tt_icmp_ge (q := 17) (t := 57) dX12_tries_14 rfl rfl (fun c => absurd c (by decide)) (fun c => ?_)
            clear c
            refine tt_iload (q := 19) dX12_tries_17 rfl rfl ?_
            refine tt_if_eq (q := 22) (t := 48) dX12_tries_19 rfl rfl (fun c => ?_) (fun c => absurd c (by decide))
            clear c
            refine tt_iconst (q := 49) dX12_tries_48 ki_0 rfl ?_
            refine sti_4 (q := 51) dX12_tries_49 rfl rfl ?_
            refine inc_5 (v := nI 6) (q := 54) dX12_tries_51 (by decide) rfl rfl ?_
            refine tt_goto (t := 10) dX12_tries_54 rfl ?_
            refine tt_iload (q := 12) dX12_tries_10 rfl rfl ?_
            refine tt_bipush (q := 14) dX12_tries_12 bi_6 rfl ?_
            refine tt_icmp_ge (q := 17) (t := 57) dX12_tries_14 rfl rfl (fun c => ?_) (fun c => absurd c (by decide))
            clear c
            refine tt_iload (q := 59) dX12_tries_57 rfl rfl ?_
            refine tt_if_eq (q := 62) (t := 132) dX12_tries_59 rfl rfl (fun c => ?_) (fun c => absurd c (by decide))
            clear c
            refine tt_iload_n (q := 133) dX12_tries_132 rfl rfl ?_
            refine tt_iload_n (q := 134) dX12_tries_133 rfl rfl ?_
            obtain ⟨l31, h⟩ := h
            obtain ⟨l32, h⟩ := h
            refine tt_icmp_eq (q := 137) (t := 152) dX12_tries_134 rfl rfl (fun c => ?_) (fun c => ?_)
            · replace h := h.1 ((nI_eq l31 l32).1 c)
              exact tt_vret dX12_tries_152 ⟨rfl, rfl, h⟩
            · replace h := h.2 (fun z => c ((nI_eq l31 l32).2 z))
              refine tt_aload_n (q := 138) dX12_tries_137 rfl rfl ?_
              refine tt_getI (q := 141) dX12_tries_138 fl_X12_152 oi_102_16 (Nat.le_of_ble_eq_true rfl) rfl ?_
              refine tt_if_le (q := 144) (t := 153) dX12_tries_141 rfl rfl (fun c => ?_) (fun c => ?_)
              · replace h := h.1 c
                refine tt_iconst (q := 154) dX12_tries_153 ki_0 rfl ?_
                refine sti_4 (q := 156) dX12_tries_154 rfl rfl ?_
                refine tt_wk (L2 := [_, _, _, _, _, dum]) ⟨Or.inl rfl, Or.inl rfl, Or.inl rfl, Or.inl rfl, Or.inl rfl, Or.inr rfl, trivial⟩ ?_
                exact h
              · replace h := h.2 c
                refine tt_iload_n (q := 145) dX12_tries_144 rfl rfl ?_
                refine tt_aload_n (q := 146) dX12_tries_145 rfl rfl ?_
                refine tt_getI (q := 149) dX12_tries_146 fl_X12_155 oi_102_15 (Nat.le_of_ble_eq_true rfl) rfl ?_
                refine tt_icmp_lt (q := 152) (t := 153) dX12_tries_149 rfl rfl (fun c => ?_) (fun c => ?_)
                · replace h := h.1 c
                  refine tt_iconst (q := 154) dX12_tries_153 ki_0 rfl ?_
                  refine sti_4 (q := 156) dX12_tries_154 rfl rfl ?_
                  refine tt_wk (L2 := [_, _, _, _, _, dum]) ⟨Or.inl rfl, Or.inl rfl, Or.inl rfl, Or.inl rfl, Or.inl rfl, Or.inr rfl, trivial⟩ ?_
                  exact h
                · replace h := h.2 c
                  exact tt_vret dX12_tries_152 ⟨rfl, rfl, h⟩
          · replace h := h.2 c
            refine tt_iconst (q := 45) dX12_tries_44 ki_1 rfl ?_
            refine tt_goto (t := 49) dX12_tries_45 rfl ?_
            refine sti_4 (q := 51) dX12_tries_49 rfl rfl ?_
            refine inc_5 (v := nI 4) (q := 54) dX12_tries_51 (by decide) rfl rfl ?_
            refine tt_goto (t := 10) dX12_tries_54 rfl ?_
            refine tt_iload (q := 12) dX12_tries_10 rfl rfl ?_
            refine tt_bipush (q := 14) dX12_tries_12 bi_6 rfl ?_
            refine tt_icmp_ge (q := 17) (t := 57) dX12_tries_14 rfl rfl (fun c => absurd c (by decide)) (fun c => ?_)
            clear c
            refine tt_iload (q := 19) dX12_tries_17 rfl rfl ?_
            refine tt_if_eq (q := 22) (t := 48) dX12_tries_19 rfl rfl (fun c => absurd c (by decide)) (fun c => ?_)
            clear c
            refine tt_aload_n (q := 23) dX12_tries_22 rfl rfl ?_
            refine tt_getR (q := 26) dX12_tries_23 fl_X12_37 or_102_13 (Nat.le_of_ble_eq_true rfl) rfl rfl ?_
            refine tt_bipush (q := 28) dX12_tries_26 bi_6 rfl ?_
            refine tt_iload_n (q := 29) dX12_tries_28 rfl rfl ?_
            refine tt_imulN (q := 30) dX12_tries_29 rfl ?_
            refine tt_iload (q := 32) dX12_tries_30 rfl rfl ?_
            refine tt_iaddN (q := 33) dX12_tries_32 rfl ?_
            obtain ⟨l35, h⟩ := h
            refine tt_iald (q := 34) dX12_tries_33 ia_112 (Nat.le_of_ble_eq_true rfl) rfl l35 rfl ?_
            refine tt_aload_n (q := 35) dX12_tries_34 rfl rfl ?_
            refine tt_getR (q := 38) dX12_tries_35 fl_X12_34 or_102_12 (Nat.le_of_ble_eq_true rfl) rfl rfl ?_
            refine tt_iload (q := 40) dX12_tries_38 rfl rfl ?_
            refine tt_iald (q := 41) dX12_tries_40 ia_111 (Nat.le_of_ble_eq_true rfl) rfl (Nat.le_of_ble_eq_true rfl : 4 < 6) rfl ?_
            refine tt_icmp_ne (q := 44) (t := 48) dX12_tries_41 rfl rfl (fun c => ?_) (fun c => ?_)
            · replace h := h.1 c
              refine tt_iconst (q := 49) dX12_tries_48 ki_0 rfl ?_
              refine sti_4 (q := 51) dX12_tries_49 rfl rfl ?_
              refine inc_5 (v := nI 5) (q := 54) dX12_tries_51 (by decide) rfl rfl ?_
              refine tt_goto (t := 10) dX12_tries_54 rfl ?_
              refine tt_iload (q := 12) dX12_tries_10 rfl rfl ?_
              refine tt_bipush (q := 14) dX12_tries_12 bi_6 rfl ?_
              refine tt_icmp_ge (q := 17) (t := 57) dX12_tries_14 rfl rfl (fun c => absurd c (by decide)) (fun c => ?_)
              clear c
              refine tt_iload (q := 19) dX12_tries_17 rfl rfl ?_
              refine tt_if_eq (q := 22) (t := 48) dX12_tries_19 rfl rfl (fun c => ?_) (fun c => absurd c (by decide))
              clear c
              refine tt_iconst (q := 49) dX12_tries_48 ki_0 rfl ?_
              refine sti_4 (q := 51) dX12_tries_49 rfl rfl ?_
              refine inc_5 (v := nI 6) (q := 54) dX12_tries_51 (by decide) rfl rfl ?_
              refine tt_goto (t := 10) dX12_tries_54 rfl ?_
              refine tt_iload (q := 12) dX12_tries_10 rfl rfl ?_
              refine tt_bipush (q := 14) dX12_tries_12 bi_6 rfl ?_
              refine tt_icmp_ge (q := 17) (t := 57) dX12_tries_14 rfl rfl (fun c => ?_) (fun c => absurd c (by decide))
              clear c
              refine tt_iload (q := 59) dX12_tries_57 rfl rfl ?_
              refine tt_if_eq (q := 62) (t := 132) dX12_tries_59 rfl rfl (fun c => ?_) (fun c => absurd c (by decide))
              clear c
              refine tt_iload_n (q := 133) dX12_tries_132 rfl rfl ?_
              refine tt_iload_n (q := 134) dX12_tries_133 rfl rfl ?_
              obtain ⟨l38, h⟩ := h
              obtain ⟨l39, h⟩ := h
              refine tt_icmp_eq (q := 137) (t := 152) dX12_tries_134 rfl rfl (fun c => ?_) (fun c => ?_)
              · replace h := h.1 ((nI_eq l38 l39).1 c)
                exact tt_vret dX12_tries_152 ⟨rfl, rfl, h⟩
              · replace h := h.2 (fun z => c ((nI_eq l38 l39).2 z))
                refine tt_aload_n (q := 138) dX12_tries_137 rfl rfl ?_
                refine tt_getI (q := 141) dX12_tries_138 fl_X12_152 oi_102_16 (Nat.le_of_ble_eq_true rfl) rfl ?_
                refine tt_if_le (q := 144) (t := 153) dX12_tries_141 rfl rfl (fun c => ?_) (fun c => ?_)
                · replace h := h.1 c
                  refine tt_iconst (q := 154) dX12_tries_153 ki_0 rfl ?_
                  refine sti_4 (q := 156) dX12_tries_154 rfl rfl ?_
                  refine tt_wk (L2 := [_, _, _, _, _, dum]) ⟨Or.inl rfl, Or.inl rfl, Or.inl rfl, Or.inl rfl, Or.inl rfl, Or.inr rfl, trivial⟩ ?_
                  exact h
                · replace h := h.2 c
                  refine tt_iload_n (q := 145) dX12_tries_144 rfl rfl ?_
                  refine tt_aload_n (q := 146) dX12_tries_145 rfl rfl ?_
                  refine tt_getI (q := 149) dX12_tries_146 fl_X12_155 oi_102_15 (Nat.le_of_ble_eq_true rfl) rfl ?_
                  refine tt_icmp_lt (q := 152) (t := 153) dX12_tries_149 rfl rfl (fun c => ?_) (fun c => ?_)
                  · replace h := h.1 c
                    refine tt_iconst (q := 154) dX12_tries_153 ki_0 rfl ?_
                    refine sti_4 (q := 156) dX12_tries_154 rfl rfl ?_
                    refine tt_wk (L2 := [_, _, _, _, _, dum]) ⟨Or.inl rfl, Or.inl rfl, Or.inl rfl, Or.inl rfl, Or.inl rfl, Or.inr rfl, trivial⟩ ?_
                    exact h
                  · replace h := h.2 c
                    exact tt_vret dX12_tries_152 ⟨rfl, rfl, h⟩
            · replace h := h.2 c
              refine tt_iconst (q := 45) dX12_tries_44 ki_1 rfl ?_
              refine tt_goto (t := 49) dX12_tries_45 rfl ?_
              refine sti_4 (q := 51) dX12_tries_49 rfl rfl ?_
              refine inc_5 (v := nI 5) (q := 54) dX12_tries_51 (by decide) rfl rfl ?_
              refine tt_goto (t := 10) dX12_tries_54 rfl ?_
              refine tt_iload (q := 12) dX12_tries_10 rfl rfl ?_
              refine tt_bipush (q := 14) dX12_tries_12 bi_6 rfl ?_
              refine tt_icmp_ge (q := 17) (t := 57) dX12_tries_14 rfl rfl (fun c => absurd c (by decide)) (fun c => ?_)
              clear c
              refine tt_iload (q := 19) dX12_tries_17 rfl rfl ?_
              refine tt_if_eq (q := 22) (t := 48) dX12_tries_19 rfl rfl (fun c => absurd c (by decide)) (fun c => ?_)
              clear c
              refine tt_aload_n (q := 23) dX12_tries_22 rfl rfl ?_
              refine tt_getR (q := 26) dX12_tries_23 fl_X12_37 or_102_13 (Nat.le_of_ble_eq_true rfl) rfl rfl ?_
              refine tt_bipush (q := 28) dX12_tries_26 bi_6 rfl ?_
              refine tt_iload_n (q := 29) dX12_tries_28 rfl rfl ?_
              refine tt_imulN (q := 30) dX12_tries_29 rfl ?_
              refine tt_iload (q := 32) dX12_tries_30 rfl rfl ?_
              refine tt_iaddN (q := 33) dX12_tries_32 rfl ?_
              obtain ⟨l42, h⟩ := h
              refine tt_iald (q := 34) dX12_tries_33 ia_112 (Nat.le_of_ble_eq_true rfl) rfl l42 rfl ?_
              refine tt_aload_n (q := 35) dX12_tries_34 rfl rfl ?_
              refine tt_getR (q := 38) dX12_tries_35 fl_X12_34 or_102_12 (Nat.le_of_ble_eq_true rfl) rfl rfl ?_
              refine tt_iload (q := 40) dX12_tries_38 rfl rfl ?_
              refine tt_iald (q := 41) dX12_tries_40 ia_111 (Nat.le_of_ble_eq_true rfl) rfl (Nat.le_of_ble_eq_true rfl : 5 < 6) rfl ?_
              refine tt_icmp_ne (q := 44) (t := 48) dX12_tries_41 rfl rfl (fun c => ?_) (fun c => ?_)
              · replace h := h.1 c
                refine tt_iconst (q := 49) dX12_tries_48 ki_0 rfl ?_
                refine sti_4 (q := 51) dX12_tries_49 rfl rfl ?_
                refine inc_5 (v := nI 6) (q := 54) dX12_tries_51 (by decide) rfl rfl ?_
                refine tt_goto (t := 10) dX12_tries_54 rfl ?_
                refine tt_iload (q := 12) dX12_tries_10 rfl rfl ?_
                refine tt_bipush (q := 14) dX12_tries_12 bi_6 rfl ?_
                refine tt_icmp_ge (q := 17) (t := 57) dX12_tries_14 rfl rfl (fun c => ?_) (fun c => absurd c (by decide))
                clear c
                refine tt_iload (q := 59) dX12_tries_57 rfl rfl ?_
                refine tt_if_eq (q := 62) (t := 132) dX12_tries_59 rfl rfl (fun c => ?_) (fun c => absurd c (by decide))
                clear c
                refine tt_iload_n (q := 133) dX12_tries_132 rfl rfl ?_
                refine tt_iload_n (q := 134) dX12_tries_133 rfl rfl ?_
                obtain ⟨l45, h⟩ := h
                obtain ⟨l46, h⟩ := h
                refine tt_icmp_eq (q := 137) (t := 152) dX12_tries_134 rfl rfl (fun c => ?_) (fun c => ?_)
                · replace h := h.1 ((nI_eq l45 l46).1 c)
                  exact tt_vret dX12_tries_152 ⟨rfl, rfl, h⟩
                · replace h := h.2 (fun z => c ((nI_eq l45 l46).2 z))
                  refine tt_aload_n (q := 138) dX12_tries_137 rfl rfl ?_
                  refine tt_getI (q := 141) dX12_tries_138 fl_X12_152 oi_102_16 (Nat.le_of_ble_eq_true rfl) rfl ?_
                  refine tt_if_le (q := 144) (t := 153) dX12_tries_141 rfl rfl (fun c => ?_) (fun c => ?_)
                  · replace h := h.1 c
                    refine tt_iconst (q := 154) dX12_tries_153 ki_0 rfl ?_
                    refine sti_4 (q := 156) dX12_tries_154 rfl rfl ?_
                    refine tt_wk (L2 := [_, _, _, _, _, dum]) ⟨Or.inl rfl, Or.inl rfl, Or.inl rfl, Or.inl rfl, Or.inl rfl, Or.inr rfl, trivial⟩ ?_
                    exact h
                  · replace h := h.2 c
                    refine tt_iload_n (q := 145) dX12_tries_144 rfl rfl ?_
                    refine tt_aload_n (q := 146) dX12_tries_145 rfl rfl ?_
                    refine tt_getI (q := 149) dX12_tries_146 fl_X12_155 oi_102_15 (Nat.le_of_ble_eq_true rfl) rfl ?_
                    refine tt_icmp_lt (q := 152) (t := 153) dX12_tries_149 rfl rfl (fun c => ?_) (fun c => ?_)
                    · replace h := h.1 c
                      refine tt_iconst (q := 154) dX12_tries_153 ki_0 rfl ?_
                      refine sti_4 (q := 156) dX12_tries_154 rfl rfl ?_
                      refine tt_wk (L2 := [_, _, _, _, _, dum]) ⟨Or.inl rfl, Or.inl rfl, Or.inl rfl, Or.inl rfl, Or.inl rfl, Or.inr rfl, trivial⟩ ?_
                      exact h
                    · replace h := h.2 c
                      exact tt_vret dX12_tries_152 ⟨rfl, rfl, h⟩
              · replace h := h.2 c
                refine tt_iconst (q := 45) dX12_tries_44 ki_1 rfl ?_
                refine tt_goto (t := 49) dX12_tries_45 rfl ?_
                refine sti_4 (q := 51) dX12_tries_49 rfl rfl ?_
                refine inc_5 (v := nI 6) (q := 54) dX12_tries_51 (by decide) rfl rfl ?_
                refine tt_goto (t := 10) dX12_tries_54 rfl ?_
                refine tt_iload (q := 12) dX12_tries_10 rfl rfl ?_
                refine tt_bipush (q := 14) dX12_tries_12 bi_6 rfl ?_
                refine tt_icmp_ge (q := 17) (t := 57) dX12_tries_14 rfl rfl (fun c => ?_) (fun c => absurd c (by decide))
                clear c
                refine tt_iload (q := 59) dX12_tries_57 rfl rfl ?_
                refine tt_if_eq (q := 62) (t := 132) dX12_tries_59 rfl rfl (fun c => absurd c (by decide)) (fun c => ?_)
                clear c
                refine tt_aload_n (q := 63) dX12_tries_62 rfl rfl ?_
                refine tt_getI (q := 66) dX12_tries_63 fl_X12_152 oi_102_16 (Nat.le_of_ble_eq_true rfl) rfl ?_
                refine tt_if_eq (q := 69) (t := 93) dX12_tries_66 rfl rfl (fun c => ?_) (fun c => ?_)
                · replace h := h.1 c
                  refine tt_aload_n (q := 94) dX12_tries_93 rfl rfl ?_
                  refine tt_iload_n (q := 95) dX12_tries_94 rfl rfl ?_
                  refine tt_putI (q := 98) dX12_tries_95 fl_X12_152 oi_102_16 (fp_12_16 _) (Nat.le_of_ble_eq_true rfl) rfl ?_
                  replace h := h _ rfl
                  refine tt_aload_n (q := 99) dX12_tries_98 rfl rfl ?_
                  refine tt_iload_n (q := 100) dX12_tries_99 rfl rfl ?_
                  refine tt_putI (q := 103) dX12_tries_100 fl_X12_155 oi_102_15 (fp_12_15 _) (Nat.le_of_ble_eq_true rfl) rfl ?_
                  replace h := h _ rfl
                  refine tt_iconst (q := 104) dX12_tries_103 ki_0 rfl ?_
                  refine sti_5 (q := 106) dX12_tries_104 rfl rfl ?_
                  refine tt_wk (L2 := [_, _, _, _, dum, _]) ⟨Or.inl rfl, Or.inl rfl, Or.inl rfl, Or.inl rfl, Or.inr rfl, Or.inl rfl, trivial⟩ ?_
                  exact h
                · replace h := h.2 c
                  refine tt_iload_n (q := 70) dX12_tries_69 rfl rfl ?_
                  refine tt_aload_n (q := 71) dX12_tries_70 rfl rfl ?_
                  refine tt_getI (q := 74) dX12_tries_71 fl_X12_155 oi_102_15 (Nat.le_of_ble_eq_true rfl) rfl ?_
                  refine tt_icmp_lt (q := 77) (t := 93) dX12_tries_74 rfl rfl (fun c => ?_) (fun c => ?_)
                  · replace h := h.1 c
                    refine tt_aload_n (q := 94) dX12_tries_93 rfl rfl ?_
                    refine tt_iload_n (q := 95) dX12_tries_94 rfl rfl ?_
                    refine tt_putI (q := 98) dX12_tries_95 fl_X12_152 oi_102_16 (fp_12_16 _) (Nat.le_of_ble_eq_true rfl) rfl ?_
                    replace h := h _ rfl
                    refine tt_aload_n (q := 99) dX12_tries_98 rfl rfl ?_
                    refine tt_iload_n (q := 100) dX12_tries_99 rfl rfl ?_
                    refine tt_putI (q := 103) dX12_tries_100 fl_X12_155 oi_102_15 (fp_12_15 _) (Nat.le_of_ble_eq_true rfl) rfl ?_
                    replace h := h _ rfl
                    refine tt_iconst (q := 104) dX12_tries_103 ki_0 rfl ?_
                    refine sti_5 (q := 106) dX12_tries_104 rfl rfl ?_
                    refine tt_wk (L2 := [_, _, _, _, dum, _]) ⟨Or.inl rfl, Or.inl rfl, Or.inl rfl, Or.inl rfl, Or.inr rfl, Or.inl rfl, trivial⟩ ?_
                    exact h
                  · replace h := h.2 c
                    refine tt_iload_n (q := 78) dX12_tries_77 rfl rfl ?_
                    refine tt_aload_n (q := 79) dX12_tries_78 rfl rfl ?_
                    refine tt_getI (q := 82) dX12_tries_79 fl_X12_155 oi_102_15 (Nat.le_of_ble_eq_true rfl) rfl ?_
                    refine tt_icmp_ne (q := 85) (t := 132) dX12_tries_82 rfl rfl (fun c => ?_) (fun c => ?_)
                    · replace h := h.1 c
                      refine tt_iload_n (q := 133) dX12_tries_132 rfl rfl ?_
                      refine tt_iload_n (q := 134) dX12_tries_133 rfl rfl ?_
                      obtain ⟨l57, h⟩ := h
                      obtain ⟨l58, h⟩ := h
                      refine tt_icmp_eq (q := 137) (t := 152) dX12_tries_134 rfl rfl (fun c => ?_) (fun c => ?_)
                      · replace h := h.1 ((nI_eq l57 l58).1 c)
                        exact tt_vret dX12_tries_152 ⟨rfl, rfl, h⟩
                      · replace h := h.2 (fun z => c ((nI_eq l57 l58).2 z))
                        refine tt_aload_n (q := 138) dX12_tries_137 rfl rfl ?_
                        refine tt_getI (q := 141) dX12_tries_138 fl_X12_152 oi_102_16 (Nat.le_of_ble_eq_true rfl) rfl ?_
                        refine tt_if_le (q := 144) (t := 153) dX12_tries_141 rfl rfl (fun c => ?_) (fun c => ?_)
                        · replace h := h.1 c
                          refine tt_iconst (q := 154) dX12_tries_153 ki_0 rfl ?_
                          refine sti_4 (q := 156) dX12_tries_154 rfl rfl ?_
                          refine tt_wk (L2 := [_, _, _, _, _, dum]) ⟨Or.inl rfl, Or.inl rfl, Or.inl rfl, Or.inl rfl, Or.inl rfl, Or.inr rfl, trivial⟩ ?_
                          exact h
                        · replace h := h.2 c
                          refine tt_iload_n (q := 145) dX12_tries_144 rfl rfl ?_
                          refine tt_aload_n (q := 146) dX12_tries_145 rfl rfl ?_
                          refine tt_getI (q := 149) dX12_tries_146 fl_X12_155 oi_102_15 (Nat.le_of_ble_eq_true rfl) rfl ?_
                          refine tt_icmp_lt (q := 152) (t := 153) dX12_tries_149 rfl rfl (fun c => ?_) (fun c => ?_)
                          · replace h := h.1 c
                            refine tt_iconst (q := 154) dX12_tries_153 ki_0 rfl ?_
                            refine sti_4 (q := 156) dX12_tries_154 rfl rfl ?_
                            refine tt_wk (L2 := [_, _, _, _, _, dum]) ⟨Or.inl rfl, Or.inl rfl, Or.inl rfl, Or.inl rfl, Or.inl rfl, Or.inr rfl, trivial⟩ ?_
                            exact h
                          · replace h := h.2 c
                            exact tt_vret dX12_tries_152 ⟨rfl, rfl, h⟩
                    · replace h := h.2 c
                      refine tt_iload_n (q := 86) dX12_tries_85 rfl rfl ?_
                      refine tt_aload_n (q := 87) dX12_tries_86 rfl rfl ?_
                      refine tt_getI (q := 90) dX12_tries_87 fl_X12_152 oi_102_16 (Nat.le_of_ble_eq_true rfl) rfl ?_
                      refine tt_icmp_ge (q := 93) (t := 132) dX12_tries_90 rfl rfl (fun c => ?_) (fun c => ?_)
                      · replace h := h.1 c
                        refine tt_iload_n (q := 133) dX12_tries_132 rfl rfl ?_
                        refine tt_iload_n (q := 134) dX12_tries_133 rfl rfl ?_
                        obtain ⟨l63, h⟩ := h
                        obtain ⟨l64, h⟩ := h
                        refine tt_icmp_eq (q := 137) (t := 152) dX12_tries_134 rfl rfl (fun c => ?_) (fun c => ?_)
                        · replace h := h.1 ((nI_eq l63 l64).1 c)
                          exact tt_vret dX12_tries_152 ⟨rfl, rfl, h⟩
                        · replace h := h.2 (fun z => c ((nI_eq l63 l64).2 z))
                          refine tt_aload_n (q := 138) dX12_tries_137 rfl rfl ?_
                          refine tt_getI (q := 141) dX12_tries_138 fl_X12_152 oi_102_16 (Nat.le_of_ble_eq_true rfl) rfl ?_
                          refine tt_if_le (q := 144) (t := 153) dX12_tries_141 rfl rfl (fun c => ?_) (fun c => ?_)
                          · replace h := h.1 c
                            refine tt_iconst (q := 154) dX12_tries_153 ki_0 rfl ?_
                            refine sti_4 (q := 156) dX12_tries_154 rfl rfl ?_
                            refine tt_wk (L2 := [_, _, _, _, _, dum]) ⟨Or.inl rfl, Or.inl rfl, Or.inl rfl, Or.inl rfl, Or.inl rfl, Or.inr rfl, trivial⟩ ?_
                            exact h
                          · replace h := h.2 c
                            refine tt_iload_n (q := 145) dX12_tries_144 rfl rfl ?_
                            refine tt_aload_n (q := 146) dX12_tries_145 rfl rfl ?_
                            refine tt_getI (q := 149) dX12_tries_146 fl_X12_155 oi_102_15 (Nat.le_of_ble_eq_true rfl) rfl ?_
                            refine tt_icmp_lt (q := 152) (t := 153) dX12_tries_149 rfl rfl (fun c => ?_) (fun c => ?_)
                            · replace h := h.1 c
                              refine tt_iconst (q := 154) dX12_tries_153 ki_0 rfl ?_
                              refine sti_4 (q := 156) dX12_tries_154 rfl rfl ?_
                              refine tt_wk (L2 := [_, _, _, _, _, dum]) ⟨Or.inl rfl, Or.inl rfl, Or.inl rfl, Or.inl rfl, Or.inl rfl, Or.inr rfl, trivial⟩ ?_
                              exact h
                            · replace h := h.2 c
                              exact tt_vret dX12_tries_152 ⟨rfl, rfl, h⟩
                      · replace h := h.2 c
                        refine tt_aload_n (q := 94) dX12_tries_93 rfl rfl ?_
                        refine tt_iload_n (q := 95) dX12_tries_94 rfl rfl ?_
                        refine tt_putI (q := 98) dX12_tries_95 fl_X12_152 oi_102_16 (fp_12_16 _) (Nat.le_of_ble_eq_true rfl) rfl ?_
                        replace h := h _ rfl
                        refine tt_aload_n (q := 99) dX12_tries_98 rfl rfl ?_
                        refine tt_iload_n (q := 100) dX12_tries_99 rfl rfl ?_
                        refine tt_putI (q := 103) dX12_tries_100 fl_X12_155 oi_102_15 (fp_12_15 _) (Nat.le_of_ble_eq_true rfl) rfl ?_
                        replace h := h _ rfl
                        refine tt_iconst (q := 104) dX12_tries_103 ki_0 rfl ?_
                        refine sti_5 (q := 106) dX12_tries_104 rfl rfl ?_
                        refine tt_wk (L2 := [_, _, _, _, dum, _]) ⟨Or.inl rfl, Or.inl rfl, Or.inl rfl, Or.inl rfl, Or.inr rfl, Or.inl rfl, trivial⟩ ?_
                        exact h
theorem g_X12_tries_106 {post : SG → Int32 → Prop} {σ : SG} {k : Nat} {n : Nat} {tm : Nat} {i : Nat} {d : Nat} (h : (i < 2 ^ 31 ∧ (k < 2 ^ 31 ∧ ((k ≤ i → (k < 2 ^ 31 ∧ (n < 2 ^ 31 ∧ ((k = n → post σ 0) ∧ (¬ k = n → (((σ 102 16) ≤ 0 → T_X12_tries d AF post 156 [.ref 102, .int (nI k), .int (nI n), .int (nI tm), .int (nI 0), dum] [] σ) ∧ (¬ (σ 102 16) ≤ 0 → (((nI tm) < (σ 102 15) → T_X12_tries d AF post 156 [.ref 102, .int (nI k), .int (nI n), .int (nI tm), .int (nI 0), dum] [] σ) ∧ (¬ (nI tm) < (σ 102 15) → post σ 0))))))))) ∧ (i < k → (i < 6 ∧ (i < 6 ∧ (∀ s11 : SG, s11 = up σ 109 i (σ 110 i) → T_X12_tries d AF post 106 [.ref 102, .int (nI k), .int (nI n), .int (nI tm), dum, .int (nI (i + 1))] [] s11)))))))) : T_X12_tries d AF post 106 [.ref 102, .int (nI k), .int (nI n), .int (nI tm), dum, .int (nI i)] [] σ := by
  refine tt_iload (q := 108) dX12_tries_106 rfl rfl ?_
  refine tt_iload_n (q := 109) dX12_tries_108 rfl rfl ?_
  obtain ⟨l2, h⟩ := h
  obtain ⟨l3, h⟩ := h
  refine tt_icmp_ge (q := 112) (t := 132) dX12_tries_109 rfl rfl (fun c => ?_) (fun c => ?_)
  · replace h := h.1 ((nI_leI l3 l2).1 c)
    refine tt_iload_n (q := 133) dX12_tries_132 rfl rfl ?_
    refine tt_iload_n (q := 134) dX12_tries_133 rfl rfl ?_
    obtain ⟨l5, h⟩ := h
    obtain ⟨l6, h⟩ := h
    refine tt_icmp_eq (q := 137) (t := 152) dX12_tries_134 rfl rfl (fun c => ?_) (fun c => ?_)
    · replace h := h.1 ((nI_eq l5 l6).1 c)
      exact tt_vret dX12_tries_152 ⟨rfl, rfl, h⟩
    · replace h := h.2 (fun z => c ((nI_eq l5 l6).2 z))
      refine tt_aload_n (q := 138) dX12_tries_137 rfl rfl ?_
      refine tt_getI (q := 141) dX12_tries_138 fl_X12_152 oi_102_16 (Nat.le_of_ble_eq_true rfl) rfl ?_
      refine tt_if_le (q := 144) (t := 153) dX12_tries_141 rfl rfl (fun c => ?_) (fun c => ?_)
      · replace h := h.1 c
        refine tt_iconst (q := 154) dX12_tries_153 ki_0 rfl ?_
        refine sti_4 (q := 156) dX12_tries_154 rfl rfl ?_
        refine tt_wk (L2 := [_, _, _, _, _, dum]) ⟨Or.inl rfl, Or.inl rfl, Or.inl rfl, Or.inl rfl, Or.inl rfl, Or.inr rfl, trivial⟩ ?_
        exact h
      · replace h := h.2 c
        refine tt_iload_n (q := 145) dX12_tries_144 rfl rfl ?_
        refine tt_aload_n (q := 146) dX12_tries_145 rfl rfl ?_
        refine tt_getI (q := 149) dX12_tries_146 fl_X12_155 oi_102_15 (Nat.le_of_ble_eq_true rfl) rfl ?_
        refine tt_icmp_lt (q := 152) (t := 153) dX12_tries_149 rfl rfl (fun c => ?_) (fun c => ?_)
        · replace h := h.1 c
          refine tt_iconst (q := 154) dX12_tries_153 ki_0 rfl ?_
          refine sti_4 (q := 156) dX12_tries_154 rfl rfl ?_
          refine tt_wk (L2 := [_, _, _, _, _, dum]) ⟨Or.inl rfl, Or.inl rfl, Or.inl rfl, Or.inl rfl, Or.inl rfl, Or.inr rfl, trivial⟩ ?_
          exact h
        · replace h := h.2 c
          exact tt_vret dX12_tries_152 ⟨rfl, rfl, h⟩
  · replace h := h.2 (Nat.lt_of_not_le (fun z => c ((nI_leI l3 l2).2 z)))
    refine tt_aload_n (q := 113) dX12_tries_112 rfl rfl ?_
    refine tt_getR (q := 116) dX12_tries_113 fl_X12_28 or_102_10 (Nat.le_of_ble_eq_true rfl) rfl rfl ?_
    refine tt_iload (q := 118) dX12_tries_116 rfl rfl ?_
    refine tt_aload_n (q := 119) dX12_tries_118 rfl rfl ?_
    refine tt_getR (q := 122) dX12_tries_119 fl_X12_31 or_102_11 (Nat.le_of_ble_eq_true rfl) rfl rfl ?_
    refine tt_iload (q := 124) dX12_tries_122 rfl rfl ?_
    obtain ⟨l9, h⟩ := h
    refine tt_iald (q := 125) dX12_tries_124 ia_110 (Nat.le_of_ble_eq_true rfl) rfl l9 rfl ?_
    obtain ⟨l10, h⟩ := h
    refine tt_iast (q := 126) dX12_tries_125 ia_109 (Nat.le_of_ble_eq_true rfl) rfl l10 rfl ?_
    replace h := h _ rfl
    refine inc_5 (q := 129) dX12_tries_126 (nI_inc1 _) rfl rfl ?_
    refine tt_goto (t := 106) dX12_tries_129 rfl ?_
    exact h
theorem g_X12_tries_156 {post : SG → Int32 → Prop} {σ : SG} {k : Nat} {n : Nat} {tm : Nat} {m : Nat} {d : Nat} (h : ((((nI 2) * (σ 104 0)) ≤ (nI m) → post σ 0) ∧ (¬ ((nI 2) * (σ 104 0)) ≤ (nI m) → (6 * k + 0 < 36 ∧ (∃ p5 : SG → Int32 → Prop, IN_X12_goesTo AF σ [.ref 102, .int (nI m), .int (σ 112 (6 * k + 0))] p5 ∧ ∀ (t4 : SG) (r3 : Int32), p5 t4 r3 → (6 * k + 6 + 0 < 36 ∧ (∀ s9 : SG, s9 = up t4 112 (6 * k + 6 + 0) r3 → (6 * k + 1 < 36 ∧ (∃ p13 : SG → Int32 → Prop, IN_X12_goesTo AF s9 [.ref 102, .int (nI m), .int (s9 112 (6 * k + 1))] p13 ∧ ∀ (t12 : SG) (r11 : Int32), p13 t12 r11 → (6 * k + 6 + 1 < 36 ∧ (∀ s17 : SG, s17 = up t12 112 (6 * k + 6 + 1) r11 → (6 * k + 2 < 36 ∧ (∃ p21 : SG → Int32 → Prop, IN_X12_goesTo AF s17 [.ref 102, .int (nI m), .int (s17 112 (6 * k + 2))] p21 ∧ ∀ (t20 : SG) (r19 : Int32), p21 t20 r19 → (6 * k + 6 + 2 < 36 ∧ (∀ s25 : SG, s25 = up t20 112 (6 * k + 6 + 2) r19 → (6 * k + 3 < 36 ∧ (∃ p29 : SG → Int32 → Prop, IN_X12_goesTo AF s25 [.ref 102, .int (nI m), .int (s25 112 (6 * k + 3))] p29 ∧ ∀ (t28 : SG) (r27 : Int32), p29 t28 r27 → (6 * k + 6 + 3 < 36 ∧ (∀ s33 : SG, s33 = up t28 112 (6 * k + 6 + 3) r27 → (6 * k + 4 < 36 ∧ (∃ p37 : SG → Int32 → Prop, IN_X12_goesTo AF s33 [.ref 102, .int (nI m), .int (s33 112 (6 * k + 4))] p37 ∧ ∀ (t36 : SG) (r35 : Int32), p37 t36 r35 → (6 * k + 6 + 4 < 36 ∧ (∀ s41 : SG, s41 = up t36 112 (6 * k + 6 + 4) r35 → (6 * k + 5 < 36 ∧ (∃ p45 : SG → Int32 → Prop, IN_X12_goesTo AF s41 [.ref 102, .int (nI m), .int (s41 112 (6 * k + 5))] p45 ∧ ∀ (t44 : SG) (r43 : Int32), p45 t44 r43 → (6 * k + 6 + 5 < 36 ∧ (∀ s49 : SG, s49 = up t44 112 (6 * k + 6 + 5) r43 → (k < 6 ∧ (∀ s51 : SG, s51 = up s49 110 k (nI m) → (k < 2 ^ 31 ∧ ((¬ k = 0 → (1 ≤ k ∧ (k - 1 < 6 ∧ (∃ p58 : SG → Int32 → Prop, IN_X12_takes AF s51 [.ref 102, .int (s51 110 (k - 1)), .int (nI m)] p58 ∧ ∀ (t57 : SG) (r56 : Int32), p58 t57 r56 → (∃ p63 : SG → Int32 → Prop, IN_X12_tries d AF t57 [.ref 102, .int (nI (k + 1)), .int (nI n), .int ((nI tm) + r56)] p63 ∧ ∀ t62 : SG, p63 t62 0 → T_X12_tries d AF post 156 [.ref 102, .int (nI k), .int (nI n), .int (nI tm), .int (nI (m + 1)), dum] [] t62))))) ∧ (k = 0 → (∃ p68 : SG → Int32 → Prop, IN_X12_takes AF s51 [.ref 102, .int (-9 : Int32), .int (nI m)] p68 ∧ ∀ (t67 : SG) (r66 : Int32), p68 t67 r66 → (∃ p73 : SG → Int32 → Prop, IN_X12_tries d AF t67 [.ref 102, .int (nI (k + 1)), .int (nI n), .int ((nI tm) + r66)] p73 ∧ ∀ t72 : SG, p73 t72 0 → T_X12_tries d AF post 156 [.ref 102, .int (nI k), .int (nI n), .int (nI tm), .int (nI (m + 1)), dum] [] t72)))))))))))))))))))))))))))))))))) : T_X12_tries d AF post 156 [.ref 102, .int (nI k), .int (nI n), .int (nI tm), .int (nI m), dum] [] σ := by
  refine tt_iload (q := 158) dX12_tries_156 rfl rfl ?_
  refine tt_iconst (q := 159) dX12_tries_158 ki_2 rfl ?_
  refine tt_aload_n (q := 160) dX12_tries_159 rfl rfl ?_
  refine tt_getR (q := 163) dX12_tries_160 fl_X12_13 or_102_1 (Nat.le_of_ble_eq_true rfl) rfl rfl ?_
  refine tt_iconst (q := 164) dX12_tries_163 ki_0 rfl ?_
  refine tt_iald (q := 165) dX12_tries_164 ia_104 (Nat.le_of_ble_eq_true rfl) rfl (Nat.le_of_ble_eq_true rfl : 0 < 197) rfl ?_
  refine tt_imul (q := 166) dX12_tries_165 rfl ?_
  refine tt_icmp_ge (q := 169) (t := 265) dX12_tries_166 rfl rfl (fun c => ?_) (fun c => ?_)
  · replace h := h.1 c
    exact tt_vret dX12_tries_265 ⟨rfl, rfl, h⟩
  · replace h := h.2 c
    refine tt_iconst (q := 170) dX12_tries_169 ki_0 rfl ?_
    refine sti_5 (q := 172) dX12_tries_170 rfl rfl ?_
    refine tt_iload (q := 174) dX12_tries_172 rfl rfl ?_
    refine tt_bipush (q := 176) dX12_tries_174 bi_6 rfl ?_
    refine tt_icmp_ge (q := 179) (t := 218) dX12_tries_176 rfl rfl (fun c => absurd c (by decide)) (fun c => ?_)
    clear c
    refine tt_aload_n (q := 180) dX12_tries_179 rfl rfl ?_
    refine tt_getR (q := 183) dX12_tries_180 fl_X12_37 or_102_13 (Nat.le_of_ble_eq_true rfl) rfl rfl ?_
    refine tt_bipush (q := 185) dX12_tries_183 bi_6 rfl ?_
    refine tt_iload_n (q := 186) dX12_tries_185 rfl rfl ?_
    refine tt_imulN (q := 187) dX12_tries_186 rfl ?_
    refine tt_bipush (q := 189) dX12_tries_187 bi_6 rfl ?_
    refine tt_iaddN (q := 190) dX12_tries_189 rfl ?_
    refine tt_iload (q := 192) dX12_tries_190 rfl rfl ?_
    refine tt_iaddN (q := 193) dX12_tries_192 rfl ?_
    refine tt_aload_n (q := 194) dX12_tries_193 rfl rfl ?_
    refine tt_iload (q := 196) dX12_tries_194 rfl rfl ?_
    refine tt_aload_n (q := 197) dX12_tries_196 rfl rfl ?_
    refine tt_getR (q := 200) dX12_tries_197 fl_X12_37 or_102_13 (Nat.le_of_ble_eq_true rfl) rfl rfl ?_
    refine tt_bipush (q := 202) dX12_tries_200 bi_6 rfl ?_
    refine tt_iload_n (q := 203) dX12_tries_202 rfl rfl ?_
    refine tt_imulN (q := 204) dX12_tries_203 rfl ?_
    refine tt_iload (q := 206) dX12_tries_204 rfl rfl ?_
    refine tt_iaddN (q := 207) dX12_tries_206 rfl ?_
    obtain ⟨l2, h⟩ := h
    refine tt_iald (q := 208) dX12_tries_207 ia_112 (Nat.le_of_ble_eq_true rfl) rfl l2 rfl ?_
    obtain ⟨p5, hp6, h⟩ := h
    refine callVi_2 (q := 211) dX12_tries_208 (Or.inl ⟨rfl, rfl, hp6⟩) (Nat.le_of_ble_eq_true rfl) rfl (fun t4 r3 hr7 => ?_)
    replace h := h t4 r3 hr7
    obtain ⟨l8, h⟩ := h
    refine tt_iast (q := 212) dX12_tries_211 ia_112 (Nat.le_of_ble_eq_true rfl) rfl l8 rfl ?_
    replace h := h _ rfl
    refine inc_5 (v := nI 1) (q := 215) dX12_tries_212 (by decide) rfl rfl ?_
    refine tt_goto (t := 172) dX12_tries_215 rfl ?_
    refine tt_iload (q := 174) dX12_tries_172 rfl rfl ?_
    refine tt_bipush (q := 176) dX12_tries_174 bi_6 rfl ?_
    refine tt_icmp_ge (q := 179) (t := 218) dX12_tries_176 rfl rfl (fun c => absurd c (by decide)) (fun c => ?_)
    clear c
    refine tt_aload_n (q := 180) dX12_tries_179 rfl rfl ?_
    refine tt_getR (q := 183) dX12_tries_180 fl_X12_37 or_102_13 (Nat.le_of_ble_eq_true rfl) rfl rfl ?_
    refine tt_bipush (q := 185) dX12_tries_183 bi_6 rfl ?_
    refine tt_iload_n (q := 186) dX12_tries_185 rfl rfl ?_
    refine tt_imulN (q := 187) dX12_tries_186 rfl ?_
    refine tt_bipush (q := 189) dX12_tries_187 bi_6 rfl ?_
    refine tt_iaddN (q := 190) dX12_tries_189 rfl ?_
    refine tt_iload (q := 192) dX12_tries_190 rfl rfl ?_
    refine tt_iaddN (q := 193) dX12_tries_192 rfl ?_
    refine tt_aload_n (q := 194) dX12_tries_193 rfl rfl ?_
    refine tt_iload (q := 196) dX12_tries_194 rfl rfl ?_
    refine tt_aload_n (q := 197) dX12_tries_196 rfl rfl ?_
    refine tt_getR (q := 200) dX12_tries_197 fl_X12_37 or_102_13 (Nat.le_of_ble_eq_true rfl) rfl rfl ?_
    refine tt_bipush (q := 202) dX12_tries_200 bi_6 rfl ?_
    refine tt_iload_n (q := 203) dX12_tries_202 rfl rfl ?_
    refine tt_imulN (q := 204) dX12_tries_203 rfl ?_
    refine tt_iload (q := 206) dX12_tries_204 rfl rfl ?_
    refine tt_iaddN (q := 207) dX12_tries_206 rfl ?_
    obtain ⟨l10, h⟩ := h
    refine tt_iald (q := 208) dX12_tries_207 ia_112 (Nat.le_of_ble_eq_true rfl) rfl l10 rfl ?_
    obtain ⟨p13, hp14, h⟩ := h
    refine callVi_2 (q := 211) dX12_tries_208 (Or.inl ⟨rfl, rfl, hp14⟩) (Nat.le_of_ble_eq_true rfl) rfl (fun t12 r11 hr15 => ?_)
    replace h := h t12 r11 hr15
    obtain ⟨l16, h⟩ := h
    refine tt_iast (q := 212) dX12_tries_211 ia_112 (Nat.le_of_ble_eq_true rfl) rfl l16 rfl ?_
    replace h := h _ rfl
    refine inc_5 (v := nI 2) (q := 215) dX12_tries_212 (by decide) rfl rfl ?_
    refine tt_goto (t := 172) dX12_tries_215 rfl ?_
    refine tt_iload (q := 174) dX12_tries_172 rfl rfl ?_
    refine tt_bipush (q := 176) dX12_tries_174 bi_6 rfl ?_
    refine tt_icmp_ge (q := 179) (t := 218) dX12_tries_176 rfl rfl (fun c => absurd c (by decide)) (fun c => ?_)
    clear c
    refine tt_aload_n (q := 180) dX12_tries_179 rfl rfl ?_
    refine tt_getR (q := 183) dX12_tries_180 fl_X12_37 or_102_13 (Nat.le_of_ble_eq_true rfl) rfl rfl ?_
    refine tt_bipush (q := 185) dX12_tries_183 bi_6 rfl ?_
    refine tt_iload_n (q := 186) dX12_tries_185 rfl rfl ?_
    refine tt_imulN (q := 187) dX12_tries_186 rfl ?_
    refine tt_bipush (q := 189) dX12_tries_187 bi_6 rfl ?_
    refine tt_iaddN (q := 190) dX12_tries_189 rfl ?_
    refine tt_iload (q := 192) dX12_tries_190 rfl rfl ?_
    refine tt_iaddN (q := 193) dX12_tries_192 rfl ?_
    refine tt_aload_n (q := 194) dX12_tries_193 rfl rfl ?_
    refine tt_iload (q := 196) dX12_tries_194 rfl rfl ?_
    refine tt_aload_n (q := 197) dX12_tries_196 rfl rfl ?_
    refine tt_getR (q := 200) dX12_tries_197 fl_X12_37 or_102_13 (Nat.le_of_ble_eq_true rfl) rfl rfl ?_
    refine tt_bipush (q := 202) dX12_tries_200 bi_6 rfl ?_
    refine tt_iload_n (q := 203) dX12_tries_202 rfl rfl ?_
    refine tt_imulN (q := 204) dX12_tries_203 rfl ?_
    refine tt_iload (q := 206) dX12_tries_204 rfl rfl ?_
    refine tt_iaddN (q := 207) dX12_tries_206 rfl ?_
    obtain ⟨l18, h⟩ := h
    refine tt_iald (q := 208) dX12_tries_207 ia_112 (Nat.le_of_ble_eq_true rfl) rfl l18 rfl ?_
    obtain ⟨p21, hp22, h⟩ := h
    refine callVi_2 (q := 211) dX12_tries_208 (Or.inl ⟨rfl, rfl, hp22⟩) (Nat.le_of_ble_eq_true rfl) rfl (fun t20 r19 hr23 => ?_)
    replace h := h t20 r19 hr23
    obtain ⟨l24, h⟩ := h
    refine tt_iast (q := 212) dX12_tries_211 ia_112 (Nat.le_of_ble_eq_true rfl) rfl l24 rfl ?_
    replace h := h _ rfl
    refine inc_5 (v := nI 3) (q := 215) dX12_tries_212 (by decide) rfl rfl ?_
    refine tt_goto (t := 172) dX12_tries_215 rfl ?_
    refine tt_iload (q := 174) dX12_tries_172 rfl rfl ?_
    refine tt_bipush (q := 176) dX12_tries_174 bi_6 rfl ?_
    refine tt_icmp_ge (q := 179) (t := 218) dX12_tries_176 rfl rfl (fun c => absurd c (by decide)) (fun c => ?_)
    clear c
    refine tt_aload_n (q := 180) dX12_tries_179 rfl rfl ?_
    refine tt_getR (q := 183) dX12_tries_180 fl_X12_37 or_102_13 (Nat.le_of_ble_eq_true rfl) rfl rfl ?_
    refine tt_bipush (q := 185) dX12_tries_183 bi_6 rfl ?_
    refine tt_iload_n (q := 186) dX12_tries_185 rfl rfl ?_
    refine tt_imulN (q := 187) dX12_tries_186 rfl ?_
    refine tt_bipush (q := 189) dX12_tries_187 bi_6 rfl ?_
    refine tt_iaddN (q := 190) dX12_tries_189 rfl ?_
    refine tt_iload (q := 192) dX12_tries_190 rfl rfl ?_
    refine tt_iaddN (q := 193) dX12_tries_192 rfl ?_
    refine tt_aload_n (q := 194) dX12_tries_193 rfl rfl ?_
    refine tt_iload (q := 196) dX12_tries_194 rfl rfl ?_
    refine tt_aload_n (q := 197) dX12_tries_196 rfl rfl ?_
    refine tt_getR (q := 200) dX12_tries_197 fl_X12_37 or_102_13 (Nat.le_of_ble_eq_true rfl) rfl rfl ?_
    refine tt_bipush (q := 202) dX12_tries_200 bi_6 rfl ?_
    refine tt_iload_n (q := 203) dX12_tries_202 rfl rfl ?_
    refine tt_imulN (q := 204) dX12_tries_203 rfl ?_
    refine tt_iload (q := 206) dX12_tries_204 rfl rfl ?_
    refine tt_iaddN (q := 207) dX12_tries_206 rfl ?_
    obtain ⟨l26, h⟩ := h
    refine tt_iald (q := 208) dX12_tries_207 ia_112 (Nat.le_of_ble_eq_true rfl) rfl l26 rfl ?_
    obtain ⟨p29, hp30, h⟩ := h
    refine callVi_2 (q := 211) dX12_tries_208 (Or.inl ⟨rfl, rfl, hp30⟩) (Nat.le_of_ble_eq_true rfl) rfl (fun t28 r27 hr31 => ?_)
    replace h := h t28 r27 hr31
    obtain ⟨l32, h⟩ := h
    refine tt_iast (q := 212) dX12_tries_211 ia_112 (Nat.le_of_ble_eq_true rfl) rfl l32 rfl ?_
    replace h := h _ rfl
    refine inc_5 (v := nI 4) (q := 215) dX12_tries_212 (by decide) rfl rfl ?_
    refine tt_goto (t := 172) dX12_tries_215 rfl ?_
    refine tt_iload (q := 174) dX12_tries_172 rfl rfl ?_
    refine tt_bipush (q := 176) dX12_tries_174 bi_6 rfl ?_
    refine tt_icmp_ge (q := 179) (t := 218) dX12_tries_176 rfl rfl (fun c => absurd c (by decide)) (fun c => ?_)
    clear c
    refine tt_aload_n (q := 180) dX12_tries_179 rfl rfl ?_
    refine tt_getR (q := 183) dX12_tries_180 fl_X12_37 or_102_13 (Nat.le_of_ble_eq_true rfl) rfl rfl ?_
    refine tt_bipush (q := 185) dX12_tries_183 bi_6 rfl ?_
    refine tt_iload_n (q := 186) dX12_tries_185 rfl rfl ?_
    refine tt_imulN (q := 187) dX12_tries_186 rfl ?_
    refine tt_bipush (q := 189) dX12_tries_187 bi_6 rfl ?_
    refine tt_iaddN (q := 190) dX12_tries_189 rfl ?_
    refine tt_iload (q := 192) dX12_tries_190 rfl rfl ?_
    refine tt_iaddN (q := 193) dX12_tries_192 rfl ?_
    refine tt_aload_n (q := 194) dX12_tries_193 rfl rfl ?_
    refine tt_iload (q := 196) dX12_tries_194 rfl rfl ?_
    refine tt_aload_n (q := 197) dX12_tries_196 rfl rfl ?_
    refine tt_getR (q := 200) dX12_tries_197 fl_X12_37 or_102_13 (Nat.le_of_ble_eq_true rfl) rfl rfl ?_
    refine tt_bipush (q := 202) dX12_tries_200 bi_6 rfl ?_
    refine tt_iload_n (q := 203) dX12_tries_202 rfl rfl ?_
    refine tt_imulN (q := 204) dX12_tries_203 rfl ?_
    refine tt_iload (q := 206) dX12_tries_204 rfl rfl ?_
    refine tt_iaddN (q := 207) dX12_tries_206 rfl ?_
    obtain ⟨l34, h⟩ := h
    refine tt_iald (q := 208) dX12_tries_207 ia_112 (Nat.le_of_ble_eq_true rfl) rfl l34 rfl ?_
    obtain ⟨p37, hp38, h⟩ := h
    refine callVi_2 (q := 211) dX12_tries_208 (Or.inl ⟨rfl, rfl, hp38⟩) (Nat.le_of_ble_eq_true rfl) rfl (fun t36 r35 hr39 => ?_)
    replace h := h t36 r35 hr39
    obtain ⟨l40, h⟩ := h
    refine tt_iast (q := 212) dX12_tries_211 ia_112 (Nat.le_of_ble_eq_true rfl) rfl l40 rfl ?_
    replace h := h _ rfl
    refine inc_5 (v := nI 5) (q := 215) dX12_tries_212 (by decide) rfl rfl ?_
    refine tt_goto (t := 172) dX12_tries_215 rfl ?_
    refine tt_iload (q := 174) dX12_tries_172 rfl rfl ?_
    refine tt_bipush (q := 176) dX12_tries_174 bi_6 rfl ?_
    refine tt_icmp_ge (q := 179) (t := 218) dX12_tries_176 rfl rfl (fun c => absurd c (by decide)) (fun c => ?_)
    clear c
    refine tt_aload_n (q := 180) dX12_tries_179 rfl rfl ?_
    refine tt_getR (q := 183) dX12_tries_180 fl_X12_37 or_102_13 (Nat.le_of_ble_eq_true rfl) rfl rfl ?_
    refine tt_bipush (q := 185) dX12_tries_183 bi_6 rfl ?_
    refine tt_iload_n (q := 186) dX12_tries_185 rfl rfl ?_
    refine tt_imulN (q := 187) dX12_tries_186 rfl ?_
    refine tt_bipush (q := 189) dX12_tries_187 bi_6 rfl ?_
    refine tt_iaddN (q := 190) dX12_tries_189 rfl ?_
    refine tt_iload (q := 192) dX12_tries_190 rfl rfl ?_
    refine tt_iaddN (q := 193) dX12_tries_192 rfl ?_
    refine tt_aload_n (q := 194) dX12_tries_193 rfl rfl ?_
    refine tt_iload (q := 196) dX12_tries_194 rfl rfl ?_
    refine tt_aload_n (q := 197) dX12_tries_196 rfl rfl ?_
    refine tt_getR (q := 200) dX12_tries_197 fl_X12_37 or_102_13 (Nat.le_of_ble_eq_true rfl) rfl rfl ?_
    refine tt_bipush (q := 202) dX12_tries_200 bi_6 rfl ?_
    refine tt_iload_n (q := 203) dX12_tries_202 rfl rfl ?_
    refine tt_imulN (q := 204) dX12_tries_203 rfl ?_
    refine tt_iload (q := 206) dX12_tries_204 rfl rfl ?_
    refine tt_iaddN (q := 207) dX12_tries_206 rfl ?_
    obtain ⟨l42, h⟩ := h
    refine tt_iald (q := 208) dX12_tries_207 ia_112 (Nat.le_of_ble_eq_true rfl) rfl l42 rfl ?_
    obtain ⟨p45, hp46, h⟩ := h
    refine callVi_2 (q := 211) dX12_tries_208 (Or.inl ⟨rfl, rfl, hp46⟩) (Nat.le_of_ble_eq_true rfl) rfl (fun t44 r43 hr47 => ?_)
    replace h := h t44 r43 hr47
    obtain ⟨l48, h⟩ := h
    refine tt_iast (q := 212) dX12_tries_211 ia_112 (Nat.le_of_ble_eq_true rfl) rfl l48 rfl ?_
    replace h := h _ rfl
    refine inc_5 (v := nI 6) (q := 215) dX12_tries_212 (by decide) rfl rfl ?_
    refine tt_goto (t := 172) dX12_tries_215 rfl ?_
    refine tt_iload (q := 174) dX12_tries_172 rfl rfl ?_
    refine tt_bipush (q := 176) dX12_tries_174 bi_6 rfl ?_
    refine tt_icmp_ge (q := 179) (t := 218) dX12_tries_176 rfl rfl (fun c => ?_) (fun c => absurd c (by decide))
    clear c
    refine tt_aload_n (q := 219) dX12_tries_218 rfl rfl ?_
    refine tt_getR (q := 222) dX12_tries_219 fl_X12_31 or_102_11 (Nat.le_of_ble_eq_true rfl) rfl rfl ?_
    refine tt_iload_n (q := 223) dX12_tries_222 rfl rfl ?_
    refine tt_iload (q := 225) dX12_tries_223 rfl rfl ?_
    obtain ⟨l50, h⟩ := h
    refine tt_iast (q := 226) dX12_tries_225 ia_110 (Nat.le_of_ble_eq_true rfl) rfl l50 rfl ?_
    replace h := h _ rfl
    refine tt_aload_n (q := 227) dX12_tries_226 rfl rfl ?_
    refine tt_iload_n (q := 228) dX12_tries_227 rfl rfl ?_
    refine tt_iconst (q := 229) dX12_tries_228 ki_1 rfl ?_
    refine tt_iaddN (q := 230) dX12_tries_229 rfl ?_
    refine tt_iload_n (q := 231) dX12_tries_230 rfl rfl ?_
    refine tt_iload_n (q := 232) dX12_tries_231 rfl rfl ?_
    refine tt_aload_n (q := 233) dX12_tries_232 rfl rfl ?_
    refine tt_iload_n (q := 234) dX12_tries_233 rfl rfl ?_
    obtain ⟨l53, h⟩ := h
    refine tt_if_ne (q := 237) (t := 242) dX12_tries_234 rfl rfl (fun c => ?_) (fun c => ?_)
    · replace h := h.1 (fun z => c ((nI_eq l53 (by decide)).2 z))
      refine tt_aload_n (q := 243) dX12_tries_242 rfl rfl ?_
      refine tt_getR (q := 246) dX12_tries_243 fl_X12_31 or_102_11 (Nat.le_of_ble_eq_true rfl) rfl rfl ?_
      refine tt_iload_n (q := 247) dX12_tries_246 rfl rfl ?_
      refine tt_iconst (q := 248) dX12_tries_247 ki_1 rfl ?_
      obtain ⟨l54, h⟩ := h
      refine tt_isubN (q := 249) dX12_tries_248 l54 rfl ?_
      obtain ⟨l55, h⟩ := h
      refine tt_iald (q := 250) dX12_tries_249 ia_110 (Nat.le_of_ble_eq_true rfl) rfl l55 rfl ?_
      refine tt_iload (q := 252) dX12_tries_250 rfl rfl ?_
      obtain ⟨p58, hp59, h⟩ := h
      refine callVi_2 (q := 255) dX12_tries_252 (Or.inr (Or.inl ⟨rfl, rfl, hp59⟩)) (Nat.le_of_ble_eq_true rfl) rfl (fun t57 r56 hr60 => ?_)
      replace h := h t57 r56 hr60
      refine tt_iadd (q := 256) dX12_tries_255 rfl ?_
      obtain ⟨p63, hp64, h⟩ := h
      refine callVv_3 (q := 259) dX12_tries_256 (Or.inr (Or.inr (⟨rfl, rfl, hp64⟩))) (Nat.le_of_ble_eq_true rfl) rfl (fun t62 hr65 => ?_)
      replace h := h t62 hr65
      refine inc_4 (q := 262) dX12_tries_259 (nI_inc1 _) rfl rfl ?_
      refine tt_goto (t := 156) dX12_tries_262 rfl ?_
      refine tt_wk (L2 := [_, _, _, _, _, dum]) ⟨Or.inl rfl, Or.inl rfl, Or.inl rfl, Or.inl rfl, Or.inl rfl, Or.inr rfl, trivial⟩ ?_
      exact h
    · replace h := h.2 ((nI_eq l53 (by decide)).1 c)
      refine tt_bipush (q := 239) dX12_tries_237 bi_m9 rfl ?_
      refine tt_goto (t := 250) dX12_tries_239 rfl ?_
      refine tt_iload (q := 252) dX12_tries_250 rfl rfl ?_
      obtain ⟨p68, hp69, h⟩ := h
      refine callVi_2 (q := 255) dX12_tries_252 (Or.inr (Or.inl ⟨rfl, rfl, hp69⟩)) (Nat.le_of_ble_eq_true rfl) rfl (fun t67 r66 hr70 => ?_)
      replace h := h t67 r66 hr70
      refine tt_iadd (q := 256) dX12_tries_255 rfl ?_
      obtain ⟨p73, hp74, h⟩ := h
      refine callVv_3 (q := 259) dX12_tries_256 (Or.inr (Or.inr (⟨rfl, rfl, hp74⟩))) (Nat.le_of_ble_eq_true rfl) rfl (fun t72 hr75 => ?_)
      replace h := h t72 hr75
      refine inc_4 (q := 262) dX12_tries_259 (nI_inc1 _) rfl rfl ?_
      refine tt_goto (t := 156) dX12_tries_262 rfl ?_
      refine tt_wk (L2 := [_, _, _, _, _, dum]) ⟨Or.inl rfl, Or.inl rfl, Or.inl rfl, Or.inl rfl, Or.inl rfl, Or.inr rfl, trivial⟩ ?_
      exact h

theorem g_X12_better_0 {post : SG → Int32 → Prop} {σ : SG} {a : Int32} {b : Int32} (h : ((a < 0 → (∀ s8 : SG, s8 = up σ 103 1 ((σ 103 1) + (nI 1)) → post s8 (-1 : Int32))) ∧ (¬ a < 0 → (((σ 104 1) ≤ a → (∀ s12 : SG, s12 = up σ 103 1 ((σ 103 1) + (nI 1)) → post s12 (-1 : Int32))) ∧ (¬ (σ 104 1) ≤ a → (((nI 1) ≤ b → ((b ≤ (nI 5) → (∃ p19 : SG → Int32 → Prop, IN_X12_doesTo AF σ [.ref 102, .int a, .int (nI 0)] p19 ∧ ∀ (t18 : SG) (r17 : Int32), p19 t18 r17 → (∀ s22 : SG, s22 = up t18 111 0 r17 → (∀ s23 : SG, s23 = up s22 112 0 (nI 0) → (∃ p26 : SG → Int32 → Prop, IN_X12_doesTo AF s23 [.ref 102, .int a, .int (nI 1)] p26 ∧ ∀ (t25 : SG) (r24 : Int32), p26 t25 r24 → (∀ s29 : SG, s29 = up t25 111 1 r24 → (∀ s30 : SG, s30 = up s29 112 1 (nI 1) → (∃ p33 : SG → Int32 → Prop, IN_X12_doesTo AF s30 [.ref 102, .int a, .int (nI 2)] p33 ∧ ∀ (t32 : SG) (r31 : Int32), p33 t32 r31 → (∀ s36 : SG, s36 = up t32 111 2 r31 → (∀ s37 : SG, s37 = up s36 112 2 (nI 2) → (∃ p40 : SG → Int32 → Prop, IN_X12_doesTo AF s37 [.ref 102, .int a, .int (nI 3)] p40 ∧ ∀ (t39 : SG) (r38 : Int32), p40 t39 r38 → (∀ s43 : SG, s43 = up t39 111 3 r38 → (∀ s44 : SG, s44 = up s43 112 3 (nI 3) → (∃ p47 : SG → Int32 → Prop, IN_X12_doesTo AF s44 [.ref 102, .int a, .int (nI 4)] p47 ∧ ∀ (t46 : SG) (r45 : Int32), p47 t46 r45 → (∀ s50 : SG, s50 = up t46 111 4 r45 → (∀ s51 : SG, s51 = up s50 112 4 (nI 4) → (∃ p54 : SG → Int32 → Prop, IN_X12_doesTo AF s51 [.ref 102, .int a, .int (nI 5)] p54 ∧ ∀ (t53 : SG) (r52 : Int32), p54 t53 r52 → (∀ s57 : SG, s57 = up t53 111 5 r52 → (∀ s58 : SG, s58 = up s57 112 5 (nI 5) → (∀ s59 : SG, s59 = up s58 102 16 (nI 0) → (∃ p62 : SG → Int32 → Prop, IN_X12_tries 7 AF s59 [.ref 102, .int (nI 0), .int b, .int (nI 0)] p62 ∧ ∀ t61 : SG, p62 t61 0 → ((¬ (t61 102 16) = 0 → (∀ s66 : SG, s66 = up t61 102 14 (t61 102 16) → post s66 (s66 102 15))) ∧ ((t61 102 16) = 0 → (∀ s69 : SG, s69 = up t61 103 3 ((t61 103 3) + (nI 1)) → post s69 (-3 : Int32))))))))))))))))))))))))) ∧ (¬ b ≤ (nI 5) → (∀ s72 : SG, s72 = up σ 103 6 ((σ 103 6) + (nI 1)) → post s72 (-6 : Int32))))) ∧ (¬ (nI 1) ≤ b → (∀ s75 : SG, s75 = up σ 103 4 ((σ 103 4) + (nI 1)) → post s75 (-4 : Int32))))))))) : T_X12_better AF post 0 [.ref 102, .int a, .int b, dum, dum] [] σ := by
  refine tt_aload_n (q := 1) dX12_better_0 rfl rfl ?_
  refine tt_iload_n (q := 2) dX12_better_1 rfl rfl ?_
  refine callVi_1 (q := 5) dX12_better_2 (Or.inl ⟨rfl, rfl, ⟨⟨_, _, rfl, rfl, (Nat.le_of_ble_eq_true rfl), rc_102⟩, Nat.le_of_ble_eq_true rfl, ?_⟩⟩) (Nat.le_of_ble_eq_true rfl) rfl (fun t2 r1 ht2 => ht2)
  refine (show TT cX12_isRow RX12 false CT_X12_isRow CN0 _ _ _ none 0 [_, _] [] _ _ from ?_)
  refine tt_iload_n (q := 1) dX12_isRow_0 rfl rfl ?_
  refine tt_aload_n (q := 2) dX12_isRow_1 rfl rfl ?_
  refine tt_getR (q := 5) dX12_isRow_2 fl_X12_13 or_102_1 (Nat.le_of_ble_eq_true rfl) rfl rfl ?_
  refine tt_iconst (q := 6) dX12_isRow_5 ki_1 rfl ?_
  refine tt_iald (q := 7) dX12_isRow_6 ia_104 (Nat.le_of_ble_eq_true rfl) rfl (Nat.le_of_ble_eq_true rfl : 1 < 197) rfl ?_
  refine callSi_2 (q := 10) dX12_isRow_7 (⟨rfl, rfl, ⟨rfl, Nat.le_of_ble_eq_true rfl, ?_⟩⟩) (Nat.le_of_ble_eq_true rfl) rfl (fun t4 r3 ht4 => ht4)
  refine (show TT cX12_isIn RX12 false CT0 CN0 _ _ _ none 0 [_, _] [] _ _ from ?_)
  refine tt_iload_n (q := 1) dX12_isIn_0 rfl rfl ?_
  refine tt_if_lt (q := 4) (t := 13) dX12_isIn_1 rfl rfl (fun c => ?_) (fun c => ?_)
  · replace h := h.1 c
    refine tt_iconst (q := 14) dX12_isIn_13 ki_0 rfl ?_
    refine tt_iret dX12_isIn_14 ⟨rfl, _, rfl, Or.inl nI_0, ?_⟩
    refine tt_iret dX12_isRow_10 ⟨rfl, _, rfl, Or.inl nI_0, ?_⟩
    refine tt_if_eq (q := 8) (t := 17) dX12_better_5 rfl rfl (fun c => ?_) (fun c => absurd c (by decide))
    clear c
    refine tt_iconst (q := 18) dX12_better_17 ki_m1 rfl ?_
    refine sti_n_3 (q := 19) dX12_better_18 rfl rfl rfl ?_
    refine tt_iload_n (q := 20) dX12_better_19 rfl rfl ?_
    refine tt_if_eq (q := 23) (t := 29) dX12_better_20 rfl rfl (fun c => absurd c (by decide)) (fun c => ?_)
    clear c
    refine tt_aload_n (q := 24) dX12_better_23 rfl rfl ?_
    refine tt_iload_n (q := 25) dX12_better_24 rfl rfl ?_
    refine callVi_1 (q := 28) dX12_better_25 (Or.inr (Or.inr (Or.inl ⟨rfl, rfl, ⟨⟨_, _, rfl, rfl, (Nat.le_of_ble_eq_true rfl), rc_102⟩, Nat.le_of_ble_eq_true rfl, ?_⟩⟩))) (Nat.le_of_ble_eq_true rfl) rfl (fun t7 r6 ht7 => ht7)
    refine (show TT cX12_refuse RX12 false CT0 CN0 _ _ _ none 0 [_, _] [] _ _ from ?_)
    refine tt_aload_n (q := 1) dX12_refuse_0 rfl rfl ?_
    refine tt_getR (q := 4) dX12_refuse_1 fl_X12_7 or_102_0 (Nat.le_of_ble_eq_true rfl) rfl rfl ?_
    refine tt_iload_n (q := 5) dX12_refuse_4 rfl rfl ?_
    refine tt_inegE (v := nI 1) (q := 6) dX12_refuse_5 (by decide) rfl ?_
    refine tt_dup2 (q := 7) dX12_refuse_6 rfl rfl rfl ?_
    refine tt_iald (q := 8) dX12_refuse_7 ia_103 (Nat.le_of_ble_eq_true rfl) rfl (Nat.le_of_ble_eq_true rfl : 1 < 7) rfl ?_
    refine tt_iconst (q := 9) dX12_refuse_8 ki_1 rfl ?_
    refine tt_iadd (q := 10) dX12_refuse_9 rfl ?_
    refine tt_iast (q := 11) dX12_refuse_10 ia_103 (Nat.le_of_ble_eq_true rfl) rfl (Nat.le_of_ble_eq_true rfl : 1 < 7) rfl ?_
    replace h := h _ rfl
    refine tt_iload_n (q := 12) dX12_refuse_11 rfl rfl ?_
    refine tt_iret dX12_refuse_12 ⟨rfl, _, rfl, ?_⟩
    exact tt_iret dX12_better_28 ⟨rfl, _, rfl, h⟩
  · replace h := h.2 c
    refine tt_iload_n (q := 5) dX12_isIn_4 rfl rfl ?_
    refine tt_iload_n (q := 6) dX12_isIn_5 rfl rfl ?_
    refine tt_icmp_ge (q := 9) (t := 13) dX12_isIn_6 rfl rfl (fun c => ?_) (fun c => ?_)
    · replace h := h.1 c
      refine tt_iconst (q := 14) dX12_isIn_13 ki_0 rfl ?_
      refine tt_iret dX12_isIn_14 ⟨rfl, _, rfl, Or.inl nI_0, ?_⟩
      refine tt_iret dX12_isRow_10 ⟨rfl, _, rfl, Or.inl nI_0, ?_⟩
      refine tt_if_eq (q := 8) (t := 17) dX12_better_5 rfl rfl (fun c => ?_) (fun c => absurd c (by decide))
      clear c
      refine tt_iconst (q := 18) dX12_better_17 ki_m1 rfl ?_
      refine sti_n_3 (q := 19) dX12_better_18 rfl rfl rfl ?_
      refine tt_iload_n (q := 20) dX12_better_19 rfl rfl ?_
      refine tt_if_eq (q := 23) (t := 29) dX12_better_20 rfl rfl (fun c => absurd c (by decide)) (fun c => ?_)
      clear c
      refine tt_aload_n (q := 24) dX12_better_23 rfl rfl ?_
      refine tt_iload_n (q := 25) dX12_better_24 rfl rfl ?_
      refine callVi_1 (q := 28) dX12_better_25 (Or.inr (Or.inr (Or.inl ⟨rfl, rfl, ⟨⟨_, _, rfl, rfl, (Nat.le_of_ble_eq_true rfl), rc_102⟩, Nat.le_of_ble_eq_true rfl, ?_⟩⟩))) (Nat.le_of_ble_eq_true rfl) rfl (fun t11 r10 ht11 => ht11)
      refine (show TT cX12_refuse RX12 false CT0 CN0 _ _ _ none 0 [_, _] [] _ _ from ?_)
      refine tt_aload_n (q := 1) dX12_refuse_0 rfl rfl ?_
      refine tt_getR (q := 4) dX12_refuse_1 fl_X12_7 or_102_0 (Nat.le_of_ble_eq_true rfl) rfl rfl ?_
      refine tt_iload_n (q := 5) dX12_refuse_4 rfl rfl ?_
      refine tt_inegE (v := nI 1) (q := 6) dX12_refuse_5 (by decide) rfl ?_
      refine tt_dup2 (q := 7) dX12_refuse_6 rfl rfl rfl ?_
      refine tt_iald (q := 8) dX12_refuse_7 ia_103 (Nat.le_of_ble_eq_true rfl) rfl (Nat.le_of_ble_eq_true rfl : 1 < 7) rfl ?_
      refine tt_iconst (q := 9) dX12_refuse_8 ki_1 rfl ?_
      refine tt_iadd (q := 10) dX12_refuse_9 rfl ?_
      refine tt_iast (q := 11) dX12_refuse_10 ia_103 (Nat.le_of_ble_eq_true rfl) rfl (Nat.le_of_ble_eq_true rfl : 1 < 7) rfl ?_
      replace h := h _ rfl
      refine tt_iload_n (q := 12) dX12_refuse_11 rfl rfl ?_
      refine tt_iret dX12_refuse_12 ⟨rfl, _, rfl, ?_⟩
      exact tt_iret dX12_better_28 ⟨rfl, _, rfl, h⟩
    · replace h := h.2 c
      refine tt_iconst (q := 10) dX12_isIn_9 ki_1 rfl ?_
      refine tt_goto (t := 14) dX12_isIn_10 rfl ?_
      refine tt_iret dX12_isIn_14 ⟨rfl, _, rfl, Or.inr rfl, ?_⟩
      refine tt_iret dX12_isRow_10 ⟨rfl, _, rfl, Or.inr rfl, ?_⟩
      refine tt_if_eq (q := 8) (t := 17) dX12_better_5 rfl rfl (fun c => absurd c (by decide)) (fun c => ?_)
      clear c
      refine tt_iload_n (q := 9) dX12_better_8 rfl rfl ?_
      refine tt_iconst (q := 10) dX12_better_9 ki_1 rfl ?_
      refine tt_iconst (q := 11) dX12_better_10 ki_5 rfl ?_
      refine callSi_3 (q := 14) dX12_better_11 (Or.inr (Or.inl ⟨rfl, rfl, ⟨rfl, Nat.le_of_ble_eq_true rfl, ?_⟩⟩)) (Nat.le_of_ble_eq_true rfl) rfl (fun t14 r13 ht14 => ht14)
      refine (show TT cX12_within RX12 false CT0 CN0 _ _ _ none 0 [_, _, _] [] _ _ from ?_)
      refine tt_iload_n (q := 1) dX12_within_0 rfl rfl ?_
      refine tt_iload_n (q := 2) dX12_within_1 rfl rfl ?_
      refine tt_icmp_ge (q := 5) (t := 10) dX12_within_2 rfl rfl (fun c => ?_) (fun c => ?_)
      · replace h := h.1 c
        refine tt_iload_n (q := 11) dX12_within_10 rfl rfl ?_
        refine tt_iload_n (q := 12) dX12_within_11 rfl rfl ?_
        refine tt_icmp_le (q := 15) (t := 20) dX12_within_12 rfl rfl (fun c => ?_) (fun c => ?_)
        · replace h := h.1 c
          refine tt_iconst (q := 21) dX12_within_20 ki_0 rfl ?_
          refine tt_iret dX12_within_21 ⟨rfl, _, rfl, ?_⟩
          refine tt_goto (t := 18) dX12_better_14 rfl ?_
          refine sti_n_3 (q := 19) dX12_better_18 rfl rfl rfl ?_
          refine tt_iload_n (q := 20) dX12_better_19 rfl rfl ?_
          refine tt_if_eq (q := 23) (t := 29) dX12_better_20 rfl rfl (fun c => ?_) (fun c => absurd c (by decide))
          clear c
          refine tt_iconst (q := 30) dX12_better_29 ki_0 rfl ?_
          refine sti_4 (q := 32) dX12_better_30 rfl rfl ?_
          refine tt_iload (q := 34) dX12_better_32 rfl rfl ?_
          refine tt_bipush (q := 36) dX12_better_34 bi_6 rfl ?_
          refine tt_icmp_ge (q := 39) (t := 68) dX12_better_36 rfl rfl (fun c => absurd c (by decide)) (fun c => ?_)
          clear c
          refine tt_aload_n (q := 40) dX12_better_39 rfl rfl ?_
          refine tt_getR (q := 43) dX12_better_40 fl_X12_34 or_102_12 (Nat.le_of_ble_eq_true rfl) rfl rfl ?_
          refine tt_iload (q := 45) dX12_better_43 rfl rfl ?_
          refine tt_aload_n (q := 46) dX12_better_45 rfl rfl ?_
          refine tt_iload_n (q := 47) dX12_better_46 rfl rfl ?_
          refine tt_iload (q := 49) dX12_better_47 rfl rfl ?_
          obtain ⟨p19, hp20, h⟩ := h
          refine callVi_2 (q := 52) dX12_better_49 (Or.inr (Or.inr (Or.inr (Or.inl ⟨rfl, rfl, hp20⟩)))) (Nat.le_of_ble_eq_true rfl) rfl (fun t18 r17 hr21 => ?_)
          replace h := h t18 r17 hr21
          refine tt_iast (q := 53) dX12_better_52 ia_111 (Nat.le_of_ble_eq_true rfl) rfl (Nat.le_of_ble_eq_true rfl : 0 < 6) rfl ?_
          replace h := h _ rfl
          refine tt_aload_n (q := 54) dX12_better_53 rfl rfl ?_
          refine tt_getR (q := 57) dX12_better_54 fl_X12_37 or_102_13 (Nat.le_of_ble_eq_true rfl) rfl rfl ?_
          refine tt_iload (q := 59) dX12_better_57 rfl rfl ?_
          refine tt_iload (q := 61) dX12_better_59 rfl rfl ?_
          refine tt_iast (q := 62) dX12_better_61 ia_112 (Nat.le_of_ble_eq_true rfl) rfl (Nat.le_of_ble_eq_true rfl : 0 < 36) rfl ?_
          replace h := h _ rfl
          refine inc_4 (v := nI 1) (q := 65) dX12_better_62 (by decide) rfl rfl ?_
          refine tt_goto (t := 32) dX12_better_65 rfl ?_
          refine tt_iload (q := 34) dX12_better_32 rfl rfl ?_
          refine tt_bipush (q := 36) dX12_better_34 bi_6 rfl ?_
          refine tt_icmp_ge (q := 39) (t := 68) dX12_better_36 rfl rfl (fun c => absurd c (by decide)) (fun c => ?_)
          clear c
          refine tt_aload_n (q := 40) dX12_better_39 rfl rfl ?_
          refine tt_getR (q := 43) dX12_better_40 fl_X12_34 or_102_12 (Nat.le_of_ble_eq_true rfl) rfl rfl ?_
          refine tt_iload (q := 45) dX12_better_43 rfl rfl ?_
          refine tt_aload_n (q := 46) dX12_better_45 rfl rfl ?_
          refine tt_iload_n (q := 47) dX12_better_46 rfl rfl ?_
          refine tt_iload (q := 49) dX12_better_47 rfl rfl ?_
          obtain ⟨p26, hp27, h⟩ := h
          refine callVi_2 (q := 52) dX12_better_49 (Or.inr (Or.inr (Or.inr (Or.inl ⟨rfl, rfl, hp27⟩)))) (Nat.le_of_ble_eq_true rfl) rfl (fun t25 r24 hr28 => ?_)
          replace h := h t25 r24 hr28
          refine tt_iast (q := 53) dX12_better_52 ia_111 (Nat.le_of_ble_eq_true rfl) rfl (Nat.le_of_ble_eq_true rfl : 1 < 6) rfl ?_
          replace h := h _ rfl
          refine tt_aload_n (q := 54) dX12_better_53 rfl rfl ?_
          refine tt_getR (q := 57) dX12_better_54 fl_X12_37 or_102_13 (Nat.le_of_ble_eq_true rfl) rfl rfl ?_
          refine tt_iload (q := 59) dX12_better_57 rfl rfl ?_
          refine tt_iload (q := 61) dX12_better_59 rfl rfl ?_
          refine tt_iast (q := 62) dX12_better_61 ia_112 (Nat.le_of_ble_eq_true rfl) rfl (Nat.le_of_ble_eq_true rfl : 1 < 36) rfl ?_
          replace h := h _ rfl
          refine inc_4 (v := nI 2) (q := 65) dX12_better_62 (by decide) rfl rfl ?_
          refine tt_goto (t := 32) dX12_better_65 rfl ?_
          refine tt_iload (q := 34) dX12_better_32 rfl rfl ?_
          refine tt_bipush (q := 36) dX12_better_34 bi_6 rfl ?_
          refine tt_icmp_ge (q := 39) (t := 68) dX12_better_36 rfl rfl (fun c => absurd c (by decide)) (fun c => ?_)
          clear c
          refine tt_aload_n (q := 40) dX12_better_39 rfl rfl ?_
          refine tt_getR (q := 43) dX12_better_40 fl_X12_34 or_102_12 (Nat.le_of_ble_eq_true rfl) rfl rfl ?_
          refine tt_iload (q := 45) dX12_better_43 rfl rfl ?_
          refine tt_aload_n (q := 46) dX12_better_45 rfl rfl ?_
          refine tt_iload_n (q := 47) dX12_better_46 rfl rfl ?_
          refine tt_iload (q := 49) dX12_better_47 rfl rfl ?_
          obtain ⟨p33, hp34, h⟩ := h
          refine callVi_2 (q := 52) dX12_better_49 (Or.inr (Or.inr (Or.inr (Or.inl ⟨rfl, rfl, hp34⟩)))) (Nat.le_of_ble_eq_true rfl) rfl (fun t32 r31 hr35 => ?_)
          replace h := h t32 r31 hr35
          refine tt_iast (q := 53) dX12_better_52 ia_111 (Nat.le_of_ble_eq_true rfl) rfl (Nat.le_of_ble_eq_true rfl : 2 < 6) rfl ?_
          replace h := h _ rfl
          refine tt_aload_n (q := 54) dX12_better_53 rfl rfl ?_
          refine tt_getR (q := 57) dX12_better_54 fl_X12_37 or_102_13 (Nat.le_of_ble_eq_true rfl) rfl rfl ?_
          refine tt_iload (q := 59) dX12_better_57 rfl rfl ?_
          refine tt_iload (q := 61) dX12_better_59 rfl rfl ?_
          refine tt_iast (q := 62) dX12_better_61 ia_112 (Nat.le_of_ble_eq_true rfl) rfl (Nat.le_of_ble_eq_true rfl : 2 < 36) rfl ?_
          replace h := h _ rfl
          refine inc_4 (v := nI 3) (q := 65) dX12_better_62 (by decide) rfl rfl ?_
          refine tt_goto (t := 32) dX12_better_65 rfl ?_
          refine tt_iload (q := 34) dX12_better_32 rfl rfl ?_
          refine tt_bipush (q := 36) dX12_better_34 bi_6 rfl ?_
          refine tt_icmp_ge (q := 39) (t := 68) dX12_better_36 rfl rfl (fun c => absurd c (by decide)) (fun c => ?_)
          clear c
          refine tt_aload_n (q := 40) dX12_better_39 rfl rfl ?_
          refine tt_getR (q := 43) dX12_better_40 fl_X12_34 or_102_12 (Nat.le_of_ble_eq_true rfl) rfl rfl ?_
          refine tt_iload (q := 45) dX12_better_43 rfl rfl ?_
          refine tt_aload_n (q := 46) dX12_better_45 rfl rfl ?_
          refine tt_iload_n (q := 47) dX12_better_46 rfl rfl ?_
          refine tt_iload (q := 49) dX12_better_47 rfl rfl ?_
          obtain ⟨p40, hp41, h⟩ := h
          refine callVi_2 (q := 52) dX12_better_49 (Or.inr (Or.inr (Or.inr (Or.inl ⟨rfl, rfl, hp41⟩)))) (Nat.le_of_ble_eq_true rfl) rfl (fun t39 r38 hr42 => ?_)
          replace h := h t39 r38 hr42
          refine tt_iast (q := 53) dX12_better_52 ia_111 (Nat.le_of_ble_eq_true rfl) rfl (Nat.le_of_ble_eq_true rfl : 3 < 6) rfl ?_
          replace h := h _ rfl
          refine tt_aload_n (q := 54) dX12_better_53 rfl rfl ?_
          refine tt_getR (q := 57) dX12_better_54 fl_X12_37 or_102_13 (Nat.le_of_ble_eq_true rfl) rfl rfl ?_
          refine tt_iload (q := 59) dX12_better_57 rfl rfl ?_
          refine tt_iload (q := 61) dX12_better_59 rfl rfl ?_
          refine tt_iast (q := 62) dX12_better_61 ia_112 (Nat.le_of_ble_eq_true rfl) rfl (Nat.le_of_ble_eq_true rfl : 3 < 36) rfl ?_
          replace h := h _ rfl
          refine inc_4 (v := nI 4) (q := 65) dX12_better_62 (by decide) rfl rfl ?_
          refine tt_goto (t := 32) dX12_better_65 rfl ?_
          refine tt_iload (q := 34) dX12_better_32 rfl rfl ?_
          refine tt_bipush (q := 36) dX12_better_34 bi_6 rfl ?_
          refine tt_icmp_ge (q := 39) (t := 68) dX12_better_36 rfl rfl (fun c => absurd c (by decide)) (fun c => ?_)
          clear c
          refine tt_aload_n (q := 40) dX12_better_39 rfl rfl ?_
          refine tt_getR (q := 43) dX12_better_40 fl_X12_34 or_102_12 (Nat.le_of_ble_eq_true rfl) rfl rfl ?_
          refine tt_iload (q := 45) dX12_better_43 rfl rfl ?_
          refine tt_aload_n (q := 46) dX12_better_45 rfl rfl ?_
          refine tt_iload_n (q := 47) dX12_better_46 rfl rfl ?_
          refine tt_iload (q := 49) dX12_better_47 rfl rfl ?_
          obtain ⟨p47, hp48, h⟩ := h
          refine callVi_2 (q := 52) dX12_better_49 (Or.inr (Or.inr (Or.inr (Or.inl ⟨rfl, rfl, hp48⟩)))) (Nat.le_of_ble_eq_true rfl) rfl (fun t46 r45 hr49 => ?_)
          replace h := h t46 r45 hr49
          refine tt_iast (q := 53) dX12_better_52 ia_111 (Nat.le_of_ble_eq_true rfl) rfl (Nat.le_of_ble_eq_true rfl : 4 < 6) rfl ?_
          replace h := h _ rfl
          refine tt_aload_n (q := 54) dX12_better_53 rfl rfl ?_
          refine tt_getR (q := 57) dX12_better_54 fl_X12_37 or_102_13 (Nat.le_of_ble_eq_true rfl) rfl rfl ?_
          refine tt_iload (q := 59) dX12_better_57 rfl rfl ?_
          refine tt_iload (q := 61) dX12_better_59 rfl rfl ?_
          refine tt_iast (q := 62) dX12_better_61 ia_112 (Nat.le_of_ble_eq_true rfl) rfl (Nat.le_of_ble_eq_true rfl : 4 < 36) rfl ?_
          replace h := h _ rfl
          refine inc_4 (v := nI 5) (q := 65) dX12_better_62 (by decide) rfl rfl ?_
          refine tt_goto (t := 32) dX12_better_65 rfl ?_
          refine tt_iload (q := 34) dX12_better_32 rfl rfl ?_
          refine tt_bipush (q := 36) dX12_better_34 bi_6 rfl ?_
          refine tt_icmp_ge (q := 39) (t := 68) dX12_better_36 rfl rfl (fun c => absurd c (by decide)) (fun c => ?_)
          clear c
          refine tt_aload_n (q := 40) dX12_better_39 rfl rfl ?_
          refine tt_getR (q := 43) dX12_better_40 fl_X12_34 or_102_12 (Nat.le_of_ble_eq_true rfl) rfl rfl ?_
          refine tt_iload (q := 45) dX12_better_43 rfl rfl ?_
          refine tt_aload_n (q := 46) dX12_better_45 rfl rfl ?_
          refine tt_iload_n (q := 47) dX12_better_46 rfl rfl ?_
          refine tt_iload (q := 49) dX12_better_47 rfl rfl ?_
          obtain ⟨p54, hp55, h⟩ := h
          refine callVi_2 (q := 52) dX12_better_49 (Or.inr (Or.inr (Or.inr (Or.inl ⟨rfl, rfl, hp55⟩)))) (Nat.le_of_ble_eq_true rfl) rfl (fun t53 r52 hr56 => ?_)
          replace h := h t53 r52 hr56
          refine tt_iast (q := 53) dX12_better_52 ia_111 (Nat.le_of_ble_eq_true rfl) rfl (Nat.le_of_ble_eq_true rfl : 5 < 6) rfl ?_
          replace h := h _ rfl
          refine tt_aload_n (q := 54) dX12_better_53 rfl rfl ?_
          refine tt_getR (q := 57) dX12_better_54 fl_X12_37 or_102_13 (Nat.le_of_ble_eq_true rfl) rfl rfl ?_
          refine tt_iload (q := 59) dX12_better_57 rfl rfl ?_
          refine tt_iload (q := 61) dX12_better_59 rfl rfl ?_
          refine tt_iast (q := 62) dX12_better_61 ia_112 (Nat.le_of_ble_eq_true rfl) rfl (Nat.le_of_ble_eq_true rfl : 5 < 36) rfl ?_
          replace h := h _ rfl
          refine inc_4 (v := nI 6) (q := 65) dX12_better_62 (by decide) rfl rfl ?_
          refine tt_goto (t := 32) dX12_better_65 rfl ?_
          refine tt_iload (q := 34) dX12_better_32 rfl rfl ?_
          refine tt_bipush (q := 36) dX12_better_34 bi_6 rfl ?_
          refine tt_icmp_ge (q := 39) (t := 68) dX12_better_36 rfl rfl (fun c => ?_) (fun c => absurd c (by decide))
          clear c
          refine tt_aload_n (q := 69) dX12_better_68 rfl rfl ?_
          refine tt_iconst (q := 70) dX12_better_69 ki_0 rfl ?_
          refine tt_putI (q := 73) dX12_better_70 fl_X12_152 oi_102_16 (fp_12_16 _) (Nat.le_of_ble_eq_true rfl) rfl ?_
          replace h := h _ rfl
          refine tt_aload_n (q := 74) dX12_better_73 rfl rfl ?_
          refine tt_iconst (q := 75) dX12_better_74 ki_0 rfl ?_
          refine tt_iload_n (q := 76) dX12_better_75 rfl rfl ?_
          refine tt_iconst (q := 77) dX12_better_76 ki_0 rfl ?_
          obtain ⟨p62, hp63, h⟩ := h
          refine callVv_3 (q := 80) dX12_better_77 (Or.inr (Or.inr (Or.inr (Or.inr (⟨rfl, rfl, hp63⟩))))) (Nat.le_of_ble_eq_true rfl) rfl (fun t61 hr64 => ?_)
          replace h := h t61 hr64
          refine tt_aload_n (q := 81) dX12_better_80 rfl rfl ?_
          refine tt_getI (q := 84) dX12_better_81 fl_X12_152 oi_102_16 (Nat.le_of_ble_eq_true rfl) rfl ?_
          refine tt_if_ne (q := 87) (t := 94) dX12_better_84 rfl rfl (fun c => ?_) (fun c => ?_)
          · replace h := h.1 c
            refine tt_aload_n (q := 95) dX12_better_94 rfl rfl ?_
            refine tt_aload_n (q := 96) dX12_better_95 rfl rfl ?_
            refine tt_getI (q := 99) dX12_better_96 fl_X12_152 oi_102_16 (Nat.le_of_ble_eq_true rfl) rfl ?_
            refine tt_putI (q := 102) dX12_better_99 fl_X12_162 oi_102_14 (fp_12_14 _) (Nat.le_of_ble_eq_true rfl) rfl ?_
            replace h := h _ rfl
            refine tt_aload_n (q := 103) dX12_better_102 rfl rfl ?_
            refine tt_getI (q := 106) dX12_better_103 fl_X12_155 oi_102_15 (Nat.le_of_ble_eq_true rfl) rfl ?_
            exact tt_iret dX12_better_106 ⟨rfl, _, rfl, h⟩
          · replace h := h.2 c
            refine tt_aload_n (q := 88) dX12_better_87 rfl rfl ?_
            refine tt_bipush (q := 90) dX12_better_88 bi_m3 rfl ?_
            refine callVi_1 (q := 93) dX12_better_90 (Or.inr (Or.inr (Or.inl ⟨rfl, rfl, ⟨⟨_, _, rfl, rfl, (Nat.le_of_ble_eq_true rfl), rc_102⟩, Nat.le_of_ble_eq_true rfl, ?_⟩⟩))) (Nat.le_of_ble_eq_true rfl) rfl (fun t68 r67 ht68 => ht68)
            refine (show TT cX12_refuse RX12 false CT0 CN0 _ _ _ none 0 [_, _] [] _ _ from ?_)
            refine tt_aload_n (q := 1) dX12_refuse_0 rfl rfl ?_
            refine tt_getR (q := 4) dX12_refuse_1 fl_X12_7 or_102_0 (Nat.le_of_ble_eq_true rfl) rfl rfl ?_
            refine tt_iload_n (q := 5) dX12_refuse_4 rfl rfl ?_
            refine tt_inegE (v := nI 3) (q := 6) dX12_refuse_5 (by decide) rfl ?_
            refine tt_dup2 (q := 7) dX12_refuse_6 rfl rfl rfl ?_
            refine tt_iald (q := 8) dX12_refuse_7 ia_103 (Nat.le_of_ble_eq_true rfl) rfl (Nat.le_of_ble_eq_true rfl : 3 < 7) rfl ?_
            refine tt_iconst (q := 9) dX12_refuse_8 ki_1 rfl ?_
            refine tt_iadd (q := 10) dX12_refuse_9 rfl ?_
            refine tt_iast (q := 11) dX12_refuse_10 ia_103 (Nat.le_of_ble_eq_true rfl) rfl (Nat.le_of_ble_eq_true rfl : 3 < 7) rfl ?_
            replace h := h _ rfl
            refine tt_iload_n (q := 12) dX12_refuse_11 rfl rfl ?_
            refine tt_iret dX12_refuse_12 ⟨rfl, _, rfl, ?_⟩
            exact tt_iret dX12_better_93 ⟨rfl, _, rfl, h⟩
        · replace h := h.2 c
          refine tt_bipush (q := 17) dX12_within_15 bi_m6 rfl ?_
          refine tt_goto (t := 21) dX12_within_17 rfl ?_
          refine tt_iret dX12_within_21 ⟨rfl, _, rfl, ?_⟩
          refine tt_goto (t := 18) dX12_better_14 rfl ?_
          refine sti_n_3 (q := 19) dX12_better_18 rfl rfl rfl ?_
          refine tt_iload_n (q := 20) dX12_better_19 rfl rfl ?_
          refine tt_if_eq (q := 23) (t := 29) dX12_better_20 rfl rfl (fun c => absurd c (by decide)) (fun c => ?_)
          clear c
          refine tt_aload_n (q := 24) dX12_better_23 rfl rfl ?_
          refine tt_iload_n (q := 25) dX12_better_24 rfl rfl ?_
          refine callVi_1 (q := 28) dX12_better_25 (Or.inr (Or.inr (Or.inl ⟨rfl, rfl, ⟨⟨_, _, rfl, rfl, (Nat.le_of_ble_eq_true rfl), rc_102⟩, Nat.le_of_ble_eq_true rfl, ?_⟩⟩))) (Nat.le_of_ble_eq_true rfl) rfl (fun t71 r70 ht71 => ht71)
          refine (show TT cX12_refuse RX12 false CT0 CN0 _ _ _ none 0 [_, _] [] _ _ from ?_)
          refine tt_aload_n (q := 1) dX12_refuse_0 rfl rfl ?_
          refine tt_getR (q := 4) dX12_refuse_1 fl_X12_7 or_102_0 (Nat.le_of_ble_eq_true rfl) rfl rfl ?_
          refine tt_iload_n (q := 5) dX12_refuse_4 rfl rfl ?_
          refine tt_inegE (v := nI 6) (q := 6) dX12_refuse_5 (by decide) rfl ?_
          refine tt_dup2 (q := 7) dX12_refuse_6 rfl rfl rfl ?_
          refine tt_iald (q := 8) dX12_refuse_7 ia_103 (Nat.le_of_ble_eq_true rfl) rfl (Nat.le_of_ble_eq_true rfl : 6 < 7) rfl ?_
          refine tt_iconst (q := 9) dX12_refuse_8 ki_1 rfl ?_
          refine tt_iadd (q := 10) dX12_refuse_9 rfl ?_
          refine tt_iast (q := 11) dX12_refuse_10 ia_103 (Nat.le_of_ble_eq_true rfl) rfl (Nat.le_of_ble_eq_true rfl : 6 < 7) rfl ?_
          replace h := h _ rfl
          refine tt_iload_n (q := 12) dX12_refuse_11 rfl rfl ?_
          refine tt_iret dX12_refuse_12 ⟨rfl, _, rfl, ?_⟩
          exact tt_iret dX12_better_28 ⟨rfl, _, rfl, h⟩
      · replace h := h.2 c
        refine tt_bipush (q := 7) dX12_within_5 bi_m4 rfl ?_
        refine tt_goto (t := 21) dX12_within_7 rfl ?_
        refine tt_iret dX12_within_21 ⟨rfl, _, rfl, ?_⟩
        refine tt_goto (t := 18) dX12_better_14 rfl ?_
        refine sti_n_3 (q := 19) dX12_better_18 rfl rfl rfl ?_
        refine tt_iload_n (q := 20) dX12_better_19 rfl rfl ?_
        refine tt_if_eq (q := 23) (t := 29) dX12_better_20 rfl rfl (fun c => absurd c (by decide)) (fun c => ?_)
        clear c
        refine tt_aload_n (q := 24) dX12_better_23 rfl rfl ?_
        refine tt_iload_n (q := 25) dX12_better_24 rfl rfl ?_
        refine callVi_1 (q := 28) dX12_better_25 (Or.inr (Or.inr (Or.inl ⟨rfl, rfl, ⟨⟨_, _, rfl, rfl, (Nat.le_of_ble_eq_true rfl), rc_102⟩, Nat.le_of_ble_eq_true rfl, ?_⟩⟩))) (Nat.le_of_ble_eq_true rfl) rfl (fun t74 r73 ht74 => ht74)
        refine (show TT cX12_refuse RX12 false CT0 CN0 _ _ _ none 0 [_, _] [] _ _ from ?_)
        refine tt_aload_n (q := 1) dX12_refuse_0 rfl rfl ?_
        refine tt_getR (q := 4) dX12_refuse_1 fl_X12_7 or_102_0 (Nat.le_of_ble_eq_true rfl) rfl rfl ?_
        refine tt_iload_n (q := 5) dX12_refuse_4 rfl rfl ?_
        refine tt_inegE (v := nI 4) (q := 6) dX12_refuse_5 (by decide) rfl ?_
        refine tt_dup2 (q := 7) dX12_refuse_6 rfl rfl rfl ?_
        refine tt_iald (q := 8) dX12_refuse_7 ia_103 (Nat.le_of_ble_eq_true rfl) rfl (Nat.le_of_ble_eq_true rfl : 4 < 7) rfl ?_
        refine tt_iconst (q := 9) dX12_refuse_8 ki_1 rfl ?_
        refine tt_iadd (q := 10) dX12_refuse_9 rfl ?_
        refine tt_iast (q := 11) dX12_refuse_10 ia_103 (Nat.le_of_ble_eq_true rfl) rfl (Nat.le_of_ble_eq_true rfl : 4 < 7) rfl ?_
        replace h := h _ rfl
        refine tt_iload_n (q := 12) dX12_refuse_11 rfl rfl ?_
        refine tt_iret dX12_refuse_12 ⟨rfl, _, rfl, ?_⟩
        exact tt_iret dX12_better_28 ⟨rfl, _, rfl, h⟩

theorem g_X12_found_0 {post : SG → Int32 → Prop} {σ : SG} {a : Int32} (h : ((¬ a = (-1 : Int32) → ((a < 0 → post σ (-9 : Int32)) ∧ (¬ a < 0 → (((σ 102 14) ≤ a → post σ (-9 : Int32)) ∧ (¬ (σ 102 14) ≤ a → (∃ j7 : Nat, a = nI j7 ∧ j7 < 6 ∧ post σ (σ 109 j7))))))) ∧ (a = (-1 : Int32) → post σ (σ 102 14)))) : T_X12_found AF post 0 [.ref 102, .int a] [] σ := by
  refine tt_iload_n (q := 1) dX12_found_0 rfl rfl ?_
  refine tt_iconst (q := 2) dX12_found_1 ki_m1 rfl ?_
  refine tt_icmp_ne (q := 5) (t := 12) dX12_found_2 rfl rfl (fun c => ?_) (fun c => ?_)
  · replace h := h.1 c
    refine tt_iload_n (q := 13) dX12_found_12 rfl rfl ?_
    refine tt_aload_n (q := 14) dX12_found_13 rfl rfl ?_
    refine tt_getI (q := 17) dX12_found_14 fl_X12_162 oi_102_14 (Nat.le_of_ble_eq_true rfl) rfl ?_
    refine callSi_2 (q := 20) dX12_found_17 (⟨rfl, rfl, ⟨rfl, Nat.le_of_ble_eq_true rfl, ?_⟩⟩) (Nat.le_of_ble_eq_true rfl) rfl (fun t3 r2 ht3 => ht3)
    refine (show TT cX12_isIn RX12 false CT0 CN0 _ _ _ none 0 [_, _] [] _ _ from ?_)
    refine tt_iload_n (q := 1) dX12_isIn_0 rfl rfl ?_
    refine tt_if_lt (q := 4) (t := 13) dX12_isIn_1 rfl rfl (fun c => ?_) (fun c => ?_)
    · replace h := h.1 c
      refine tt_iconst (q := 14) dX12_isIn_13 ki_0 rfl ?_
      refine tt_iret dX12_isIn_14 ⟨rfl, _, rfl, Or.inl nI_0, ?_⟩
      refine tt_if_eq (q := 23) (t := 32) dX12_found_20 rfl rfl (fun c => ?_) (fun c => absurd c (by decide))
      clear c
      refine tt_bipush (q := 34) dX12_found_32 bi_m9 rfl ?_
      exact tt_iret dX12_found_34 ⟨rfl, _, rfl, h⟩
    · replace h := h.2 c
      refine tt_iload_n (q := 5) dX12_isIn_4 rfl rfl ?_
      refine tt_iload_n (q := 6) dX12_isIn_5 rfl rfl ?_
      refine tt_icmp_ge (q := 9) (t := 13) dX12_isIn_6 rfl rfl (fun c => ?_) (fun c => ?_)
      · replace h := h.1 c
        refine tt_iconst (q := 14) dX12_isIn_13 ki_0 rfl ?_
        refine tt_iret dX12_isIn_14 ⟨rfl, _, rfl, Or.inl nI_0, ?_⟩
        refine tt_if_eq (q := 23) (t := 32) dX12_found_20 rfl rfl (fun c => ?_) (fun c => absurd c (by decide))
        clear c
        refine tt_bipush (q := 34) dX12_found_32 bi_m9 rfl ?_
        exact tt_iret dX12_found_34 ⟨rfl, _, rfl, h⟩
      · replace h := h.2 c
        refine tt_iconst (q := 10) dX12_isIn_9 ki_1 rfl ?_
        refine tt_goto (t := 14) dX12_isIn_10 rfl ?_
        refine tt_iret dX12_isIn_14 ⟨rfl, _, rfl, Or.inr rfl, ?_⟩
        refine tt_if_eq (q := 23) (t := 32) dX12_found_20 rfl rfl (fun c => absurd c (by decide)) (fun c => ?_)
        clear c
        refine tt_aload_n (q := 24) dX12_found_23 rfl rfl ?_
        refine tt_getR (q := 27) dX12_found_24 fl_X12_28 or_102_10 (Nat.le_of_ble_eq_true rfl) rfl rfl ?_
        refine tt_iload_n (q := 28) dX12_found_27 rfl rfl ?_
        obtain ⟨j7, e8, l6, h⟩ := h
        refine tt_iald (q := 29) dX12_found_28 ia_109 (Nat.le_of_ble_eq_true rfl) e8 l6 rfl ?_
        refine tt_goto (t := 34) dX12_found_29 rfl ?_
        exact tt_iret dX12_found_34 ⟨rfl, _, rfl, h⟩
  · replace h := h.2 c
    refine tt_aload_n (q := 6) dX12_found_5 rfl rfl ?_
    refine tt_getI (q := 9) dX12_found_6 fl_X12_162 oi_102_14 (Nat.le_of_ble_eq_true rfl) rfl ?_
    refine tt_goto (t := 34) dX12_found_9 rfl ?_
    exact tt_iret dX12_found_34 ⟨rfl, _, rfl, h⟩

theorem g_X12_findFar_0 {post : SG → Int32 → Prop} {σ : SG} (h : T_X12_findFar AF post 2 [.ref 102, .int (nI 0), dum, dum, dum, dum] [] σ) : T_X12_findFar AF post 0 [.ref 102, dum, dum, dum, dum, dum] [] σ := by
  refine tt_iconst (q := 1) dX12_findFar_0 ki_0 rfl ?_
  refine sti_n_1 (q := 2) dX12_findFar_1 rfl rfl rfl ?_
  exact h
theorem g_X12_findFar_2 {post : SG → Int32 → Prop} {σ : SG} {o : Nat} (h : (o < 2 ^ 31 ∧ ((720 ≤ o → T_X12_findFar AF post 35 [.ref 102, .int (nI 1), .int (nI 0), dum, dum, dum] [] σ) ∧ (o < 720 → (o < 2 ^ 31 ∧ ((¬ o = 0 → (o < 720 ∧ (∀ s6 : SG, s6 = up σ 113 o (-9 : Int32) → T_X12_findFar AF post 2 [.ref 102, .int (nI (o + 1)), dum, dum, dum, dum] [] s6))) ∧ (o = 0 → (o < 720 ∧ (∀ s8 : SG, s8 = up σ 113 o (nI 0) → T_X12_findFar AF post 2 [.ref 102, .int (nI (o + 1)), dum, dum, dum, dum] [] s8))))))))) : T_X12_findFar AF post 2 [.ref 102, .int (nI o), dum, dum, dum, dum] [] σ := by
  refine tt_iload_n (q := 3) dX12_findFar_2 rfl rfl ?_
  refine tt_sipush (q := 6) dX12_findFar_3 si_720 rfl ?_
  obtain ⟨l2, h⟩ := h
  refine tt_icmp_ge (q := 9) (t := 31) dX12_findFar_6 rfl rfl (fun c => ?_) (fun c => ?_)
  · replace h := h.1 ((nI_leI (by decide) l2).1 c)
    refine tt_iconst (q := 32) dX12_findFar_31 ki_1 rfl ?_
    refine sti_n_1 (q := 33) dX12_findFar_32 rfl rfl rfl ?_
    refine tt_iconst (q := 34) dX12_findFar_33 ki_0 rfl ?_
    refine sti_n_2 (q := 35) dX12_findFar_34 rfl rfl rfl ?_
    exact h
  · replace h := h.2 (Nat.lt_of_not_le (fun z => c ((nI_leI (by decide) l2).2 z)))
    refine tt_aload_n (q := 10) dX12_findFar_9 rfl rfl ?_
    refine tt_getR (q := 13) dX12_findFar_10 fl_X12_40 or_102_17 (Nat.le_of_ble_eq_true rfl) rfl rfl ?_
    refine tt_iload_n (q := 14) dX12_findFar_13 rfl rfl ?_
    refine tt_iload_n (q := 15) dX12_findFar_14 rfl rfl ?_
    obtain ⟨l4, h⟩ := h
    refine tt_if_ne (q := 18) (t := 22) dX12_findFar_15 rfl rfl (fun c => ?_) (fun c => ?_)
    · replace h := h.1 (fun z => c ((nI_eq l4 (by decide)).2 z))
      refine tt_bipush (q := 24) dX12_findFar_22 bi_m9 rfl ?_
      obtain ⟨l5, h⟩ := h
      refine tt_iast (q := 25) dX12_findFar_24 ia_113 (Nat.le_of_ble_eq_true rfl) rfl l5 rfl ?_
      replace h := h _ rfl
      refine inc_1 (q := 28) dX12_findFar_25 (nI_inc1 _) rfl rfl ?_
      refine tt_goto (t := 2) dX12_findFar_28 rfl ?_
      exact h
    · replace h := h.2 ((nI_eq l4 (by decide)).1 c)
      refine tt_iconst (q := 19) dX12_findFar_18 ki_0 rfl ?_
      refine tt_goto (t := 24) dX12_findFar_19 rfl ?_
      obtain ⟨l7, h⟩ := h
      refine tt_iast (q := 25) dX12_findFar_24 ia_113 (Nat.le_of_ble_eq_true rfl) rfl l7 rfl ?_
      replace h := h _ rfl
      refine inc_1 (q := 28) dX12_findFar_25 (nI_inc1 _) rfl rfl ?_
      refine tt_goto (t := 2) dX12_findFar_28 rfl ?_
      exact h
theorem g_X12_findFar_35 {post : SG → Int32 → Prop} {σ : SG} {mo : Int32} {n : Nat} (h : ((mo = 0 → post σ 0) ∧ (¬ mo = 0 → T_X12_findFar AF post 43 [.ref 102, .int (nI 0), .int (nI n), .int (nI 0), dum, dum] [] σ))) : T_X12_findFar AF post 35 [.ref 102, .int mo, .int (nI n), dum, dum, dum] [] σ := by
  refine tt_iload_n (q := 36) dX12_findFar_35 rfl rfl ?_
  refine tt_if_eq (q := 39) (t := 152) dX12_findFar_36 rfl rfl (fun c => ?_) (fun c => ?_)
  · replace h := h.1 c
    exact tt_vret dX12_findFar_152 ⟨rfl, rfl, h⟩
  · replace h := h.2 c
    refine tt_iconst (q := 40) dX12_findFar_39 ki_0 rfl ?_
    refine sti_n_1 (q := 41) dX12_findFar_40 rfl rfl rfl ?_
    refine tt_iconst (q := 42) dX12_findFar_41 ki_0 rfl ?_
    refine sti_n_3 (q := 43) dX12_findFar_42 rfl rfl rfl ?_
    exact h
theorem g_X12_findFar_43 {post : SG → Int32 → Prop} {σ : SG} {mo : Int32} {n : Nat} {o : Nat} (h : (o < 2 ^ 31 ∧ ((720 ≤ o → T_X12_findFar AF post 35 [.ref 102, .int mo, .int (nI (n + 1)), dum, dum, dum] [] σ) ∧ (o < 720 → (o < 720 ∧ (((σ 113 o) = (nI n) → T_X12_findFar AF post 66 [.ref 102, .int mo, .int (nI n), .int (nI o), .int (nI 0), dum] [] σ) ∧ (¬ (σ 113 o) = (nI n) → T_X12_findFar AF post 43 [.ref 102, .int mo, .int (nI n), .int (nI (o + 1)), dum, dum] [] σ))))))) : T_X12_findFar AF post 43 [.ref 102, .int mo, .int (nI n), .int (nI o), dum, dum] [] σ := by
  refine tt_iload_n (q := 44) dX12_findFar_43 rfl rfl ?_
  refine tt_sipush (q := 47) dX12_findFar_44 si_720 rfl ?_
  obtain ⟨l2, h⟩ := h
  refine tt_icmp_ge (q := 50) (t := 146) dX12_findFar_47 rfl rfl (fun c => ?_) (fun c => ?_)
  · replace h := h.1 ((nI_leI (by decide) l2).1 c)
    refine inc_2 (q := 149) dX12_findFar_146 (nI_inc1 _) rfl rfl ?_
    refine tt_goto (t := 35) dX12_findFar_149 rfl ?_
    refine tt_wk (L2 := [_, _, _, dum, dum, dum]) ⟨Or.inl rfl, Or.inl rfl, Or.inl rfl, Or.inr rfl, Or.inl rfl, Or.inl rfl, trivial⟩ ?_
    exact h
  · replace h := h.2 (Nat.lt_of_not_le (fun z => c ((nI_leI (by decide) l2).2 z)))
    refine tt_aload_n (q := 51) dX12_findFar_50 rfl rfl ?_
    refine tt_getR (q := 54) dX12_findFar_51 fl_X12_40 or_102_17 (Nat.le_of_ble_eq_true rfl) rfl rfl ?_
    refine tt_iload_n (q := 55) dX12_findFar_54 rfl rfl ?_
    obtain ⟨l3, h⟩ := h
    refine tt_iald (q := 56) dX12_findFar_55 ia_113 (Nat.le_of_ble_eq_true rfl) rfl l3 rfl ?_
    refine tt_iload_n (q := 57) dX12_findFar_56 rfl rfl ?_
    refine tt_icmp_eq (q := 60) (t := 63) dX12_findFar_57 rfl rfl (fun c => ?_) (fun c => ?_)
    · replace h := h.1 c
      refine tt_iconst (q := 64) dX12_findFar_63 ki_0 rfl ?_
      refine sti_4 (q := 66) dX12_findFar_64 rfl rfl ?_
      exact h
    · replace h := h.2 c
      refine tt_goto (t := 140) dX12_findFar_60 rfl ?_
      refine inc_3 (q := 143) dX12_findFar_140 (nI_inc1 _) rfl rfl ?_
      refine tt_goto (t := 43) dX12_findFar_143 rfl ?_
      exact h
theorem g_X12_findFar_66 {post : SG → Int32 → Prop} {σ : SG} {mo : Int32} {n : Nat} {o : Nat} {m : Nat} (h : ((((nI 2) * (σ 104 0)) ≤ (nI m) → T_X12_findFar AF post 43 [.ref 102, .int mo, .int (nI n), .int (nI (o + 1)), dum, dum] [] σ) ∧ (¬ ((nI 2) * (σ 104 0)) ≤ (nI m) → (∃ p4 : SG → Int32 → Prop, IN_X12_puts AF σ [.ref 114, .int (nI 0), .int (nI o)] p4 ∧ ∀ t3 : SG, p4 t3 0 → (∃ p9 : SG → Int32 → Prop, IN_X12_makes AF t3 [.ref 102, .ref 114, .int (nI 0), .int (nI m)] p9 ∧ ∀ t8 : SG, p9 t8 0 → (∃ p14 : SG → Int32 → Prop, IN_X12_numberOf AF t8 [.ref 114, .int (nI 0)] p14 ∧ ∀ (t13 : SG) (r12 : Int32), p14 t13 r12 → (∃ j18 : Nat, r12 = nI j18 ∧ j18 < 720 ∧ (((t13 113 j18) < 0 → (∃ j22 : Nat, r12 = nI j22 ∧ j22 < 720 ∧ (∀ s24 : SG, s24 = up t13 113 j22 (nI (n + 1)) → T_X12_findFar AF post 66 [.ref 102, .int (nI 1), .int (nI n), .int (nI o), .int (nI (m + 1)), dum] [] s24))) ∧ (¬ (t13 113 j18) < 0 → T_X12_findFar AF post 66 [.ref 102, .int mo, .int (nI n), .int (nI o), .int (nI (m + 1)), dum] [] t13))))))))) : T_X12_findFar AF post 66 [.ref 102, .int mo, .int (nI n), .int (nI o), .int (nI m), dum] [] σ := by
  refine tt_iload (q := 68) dX12_findFar_66 rfl rfl ?_
  refine tt_iconst (q := 69) dX12_findFar_68 ki_2 rfl ?_
  refine tt_aload_n (q := 70) dX12_findFar_69 rfl rfl ?_
  refine tt_getR (q := 73) dX12_findFar_70 fl_X12_13 or_102_1 (Nat.le_of_ble_eq_true rfl) rfl rfl ?_
  refine tt_iconst (q := 74) dX12_findFar_73 ki_0 rfl ?_
  refine tt_iald (q := 75) dX12_findFar_74 ia_104 (Nat.le_of_ble_eq_true rfl) rfl (Nat.le_of_ble_eq_true rfl : 0 < 197) rfl ?_
  refine tt_imul (q := 76) dX12_findFar_75 rfl ?_
  refine tt_icmp_ge (q := 79) (t := 140) dX12_findFar_76 rfl rfl (fun c => ?_) (fun c => ?_)
  · replace h := h.1 c
    refine inc_3 (q := 143) dX12_findFar_140 (nI_inc1 _) rfl rfl ?_
    refine tt_goto (t := 43) dX12_findFar_143 rfl ?_
    refine tt_wk (L2 := [_, _, _, _, dum, dum]) ⟨Or.inl rfl, Or.inl rfl, Or.inl rfl, Or.inl rfl, Or.inr rfl, Or.inl rfl, trivial⟩ ?_
    exact h
  · replace h := h.2 c
    refine tt_aload_n (q := 80) dX12_findFar_79 rfl rfl ?_
    refine tt_getR (q := 83) dX12_findFar_80 fl_X12_43 or_102_18 (Nat.le_of_ble_eq_true rfl) rfl rfl ?_
    refine tt_iconst (q := 84) dX12_findFar_83 ki_0 rfl ?_
    refine tt_iload_n (q := 85) dX12_findFar_84 rfl rfl ?_
    obtain ⟨p4, hp5, h⟩ := h
    refine callSv_3 (q := 88) dX12_findFar_85 (Or.inl ⟨rfl, rfl, hp5⟩) (Nat.le_of_ble_eq_true rfl) rfl (fun t3 hr6 => ?_)
    replace h := h t3 hr6
    refine tt_aload_n (q := 89) dX12_findFar_88 rfl rfl ?_
    refine tt_aload_n (q := 90) dX12_findFar_89 rfl rfl ?_
    refine tt_getR (q := 93) dX12_findFar_90 fl_X12_43 or_102_18 (Nat.le_of_ble_eq_true rfl) rfl rfl ?_
    refine tt_iconst (q := 94) dX12_findFar_93 ki_0 rfl ?_
    refine tt_iload (q := 96) dX12_findFar_94 rfl rfl ?_
    obtain ⟨p9, hp10, h⟩ := h
    refine callVv_3 (q := 99) dX12_findFar_96 (Or.inr (Or.inl ⟨rfl, rfl, hp10⟩)) (Nat.le_of_ble_eq_true rfl) rfl (fun t8 hr11 => ?_)
    replace h := h t8 hr11
    refine tt_aload_n (q := 100) dX12_findFar_99 rfl rfl ?_
    refine tt_getR (q := 103) dX12_findFar_100 fl_X12_43 or_102_18 (Nat.le_of_ble_eq_true rfl) rfl rfl ?_
    refine tt_iconst (q := 104) dX12_findFar_103 ki_0 rfl ?_
    obtain ⟨p14, hp15, h⟩ := h
    refine callSi_2 (q := 107) dX12_findFar_104 (Or.inr (Or.inr (⟨rfl, rfl, hp15⟩))) (Nat.le_of_ble_eq_true rfl) rfl (fun t13 r12 hr16 => ?_)
    replace h := h t13 r12 hr16
    refine sti_5 (q := 109) dX12_findFar_107 rfl rfl ?_
    refine tt_aload_n (q := 110) dX12_findFar_109 rfl rfl ?_
    refine tt_getR (q := 113) dX12_findFar_110 fl_X12_40 or_102_17 (Nat.le_of_ble_eq_true rfl) rfl rfl ?_
    refine tt_iload (q := 115) dX12_findFar_113 rfl rfl ?_
    obtain ⟨j18, e19, l17, h⟩ := h
    refine tt_iald (q := 116) dX12_findFar_115 ia_113 (Nat.le_of_ble_eq_true rfl) e19 l17 rfl ?_
    refine tt_if_lt (q := 119) (t := 122) dX12_findFar_116 rfl rfl (fun c => ?_) (fun c => ?_)
    · replace h := h.1 c
      refine tt_aload_n (q := 123) dX12_findFar_122 rfl rfl ?_
      refine tt_getR (q := 126) dX12_findFar_123 fl_X12_40 or_102_17 (Nat.le_of_ble_eq_true rfl) rfl rfl ?_
      refine tt_iload (q := 128) dX12_findFar_126 rfl rfl ?_
      refine tt_iload_n (q := 129) dX12_findFar_128 rfl rfl ?_
      refine tt_iconst (q := 130) dX12_findFar_129 ki_1 rfl ?_
      refine tt_iaddN (q := 131) dX12_findFar_130 rfl ?_
      obtain ⟨j22, e23, l21, h⟩ := h
      refine tt_iast (q := 132) dX12_findFar_131 ia_113 (Nat.le_of_ble_eq_true rfl) e23 l21 rfl ?_
      replace h := h _ rfl
      refine tt_iconst (q := 133) dX12_findFar_132 ki_1 rfl ?_
      refine sti_n_1 (q := 134) dX12_findFar_133 rfl rfl rfl ?_
      refine inc_4 (q := 137) dX12_findFar_134 (nI_inc1 _) rfl rfl ?_
      refine tt_goto (t := 66) dX12_findFar_137 rfl ?_
      refine tt_wk (L2 := [_, _, _, _, _, dum]) ⟨Or.inl rfl, Or.inl rfl, Or.inl rfl, Or.inl rfl, Or.inl rfl, Or.inr rfl, trivial⟩ ?_
      exact h
    · replace h := h.2 c
      refine tt_goto (t := 134) dX12_findFar_119 rfl ?_
      refine inc_4 (q := 137) dX12_findFar_134 (nI_inc1 _) rfl rfl ?_
      refine tt_goto (t := 66) dX12_findFar_137 rfl ?_
      refine tt_wk (L2 := [_, _, _, _, _, dum]) ⟨Or.inl rfl, Or.inl rfl, Or.inl rfl, Or.inl rfl, Or.inl rfl, Or.inr rfl, trivial⟩ ?_
      exact h

theorem g_X12_fewest_0 {post : SG → Int32 → Prop} {σ : SG} (h : (∃ p3 : SG → Int32 → Prop, IN_X12_findFar AF σ [.ref 102] p3 ∧ ∀ t2 : SG, p3 t2 0 → (∃ p8 : SG → Int32 → Prop, IN_X12_numberOf AF t2 [.ref 104, .int (nI 5)] p8 ∧ ∀ (t7 : SG) (r6 : Int32), p8 t7 r6 → (∃ j12 : Nat, r6 = nI j12 ∧ j12 < 720 ∧ post t7 (t7 113 j12))))) : T_X12_fewest AF post 0 [.ref 102] [] σ := by
  refine tt_aload_n (q := 1) dX12_fewest_0 rfl rfl ?_
  obtain ⟨p3, hp4, h⟩ := h
  refine callVv_0 (q := 4) dX12_fewest_1 (Or.inl ⟨rfl, rfl, hp4⟩) (Nat.le_of_ble_eq_true rfl) rfl (fun t2 hr5 => ?_)
  replace h := h t2 hr5
  refine tt_aload_n (q := 5) dX12_fewest_4 rfl rfl ?_
  refine tt_getR (q := 8) dX12_fewest_5 fl_X12_40 or_102_17 (Nat.le_of_ble_eq_true rfl) rfl rfl ?_
  refine tt_aload_n (q := 9) dX12_fewest_8 rfl rfl ?_
  refine tt_getR (q := 12) dX12_fewest_9 fl_X12_13 or_102_1 (Nat.le_of_ble_eq_true rfl) rfl rfl ?_
  refine tt_iconst (q := 13) dX12_fewest_12 ki_5 rfl ?_
  obtain ⟨p8, hp9, h⟩ := h
  refine callSi_2 (q := 16) dX12_fewest_13 (Or.inr (⟨rfl, rfl, hp9⟩)) (Nat.le_of_ble_eq_true rfl) rfl (fun t7 r6 hr10 => ?_)
  replace h := h t7 r6 hr10
  obtain ⟨j12, e13, l11, h⟩ := h
  refine tt_iald (q := 17) dX12_fewest_16 ia_113 (Nat.le_of_ble_eq_true rfl) e13 l11 rfl ?_
  exact tt_iret dX12_fewest_17 ⟨rfl, _, rfl, h⟩

theorem g_X12_first_0 {post : SG → Int32 → Prop} {σ : SG} (h : (∃ p3 : SG → Int32 → Prop, IN_X12_findFar AF σ [.ref 102] p3 ∧ ∀ t2 : SG, p3 t2 0 → (∃ p8 : SG → Int32 → Prop, IN_X12_numberOf AF t2 [.ref 104, .int (nI 5)] p8 ∧ ∀ (t7 : SG) (r6 : Int32), p8 t7 r6 → (∃ j12 : Nat, r6 = nI j12 ∧ j12 < 720 ∧ (((nI 1) ≤ (t7 113 j12) → T_X12_first AF post 28 [.ref 102, .int (t7 113 j12), .int (nI 0), dum] [] t7) ∧ (¬ (nI 1) ≤ (t7 113 j12) → post t7 (-9 : Int32))))))) : T_X12_first AF post 0 [.ref 102, dum, dum, dum] [] σ := by
  refine tt_aload_n (q := 1) dX12_first_0 rfl rfl ?_
  obtain ⟨p3, hp4, h⟩ := h
  refine callVv_0 (q := 4) dX12_first_1 (Or.inl ⟨rfl, rfl, hp4⟩) (Nat.le_of_ble_eq_true rfl) rfl (fun t2 hr5 => ?_)
  replace h := h t2 hr5
  refine tt_aload_n (q := 5) dX12_first_4 rfl rfl ?_
  refine tt_getR (q := 8) dX12_first_5 fl_X12_40 or_102_17 (Nat.le_of_ble_eq_true rfl) rfl rfl ?_
  refine tt_aload_n (q := 9) dX12_first_8 rfl rfl ?_
  refine tt_getR (q := 12) dX12_first_9 fl_X12_13 or_102_1 (Nat.le_of_ble_eq_true rfl) rfl rfl ?_
  refine tt_iconst (q := 13) dX12_first_12 ki_5 rfl ?_
  obtain ⟨p8, hp9, h⟩ := h
  refine callSi_2 (q := 16) dX12_first_13 (Or.inr (Or.inl ⟨rfl, rfl, hp9⟩)) (Nat.le_of_ble_eq_true rfl) rfl (fun t7 r6 hr10 => ?_)
  replace h := h t7 r6 hr10
  obtain ⟨j12, e13, l11, h⟩ := h
  refine tt_iald (q := 17) dX12_first_16 ia_113 (Nat.le_of_ble_eq_true rfl) e13 l11 rfl ?_
  refine sti_n_1 (q := 18) dX12_first_17 rfl rfl rfl ?_
  refine tt_iload_n (q := 19) dX12_first_18 rfl rfl ?_
  refine tt_iconst (q := 20) dX12_first_19 ki_1 rfl ?_
  refine tt_icmp_ge (q := 23) (t := 26) dX12_first_20 rfl rfl (fun c => ?_) (fun c => ?_)
  · replace h := h.1 c
    refine tt_iconst (q := 27) dX12_first_26 ki_0 rfl ?_
    refine sti_n_2 (q := 28) dX12_first_27 rfl rfl rfl ?_
    exact h
  · replace h := h.2 c
    refine tt_bipush (q := 25) dX12_first_23 bi_m9 rfl ?_
    exact tt_iret dX12_first_25 ⟨rfl, _, rfl, h⟩
theorem g_X12_first_28 {post : SG → Int32 → Prop} {σ : SG} {n : Int32} {m : Nat} (h : ((((nI 2) * (σ 104 0)) ≤ (nI m) → post σ (-9 : Int32)) ∧ (¬ ((nI 2) * (σ 104 0)) ≤ (nI m) → (∀ s2 : SG, s2 = up σ 114 0 (σ 104 5) → (∀ s3 : SG, s3 = up s2 114 1 (s2 104 6) → (∀ s4 : SG, s4 = up s3 114 2 (s3 104 7) → (∀ s5 : SG, s5 = up s4 114 3 (s4 104 8) → (∀ s6 : SG, s6 = up s5 114 4 (s5 104 9) → (∀ s7 : SG, s7 = up s6 114 5 (s6 104 10) → (∃ p10 : SG → Int32 → Prop, IN_X12_makes AF s7 [.ref 102, .ref 114, .int (nI 0), .int (nI m)] p10 ∧ ∀ t9 : SG, p10 t9 0 → (∃ p15 : SG → Int32 → Prop, IN_X12_numberOf AF t9 [.ref 114, .int (nI 0)] p15 ∧ ∀ (t14 : SG) (r13 : Int32), p15 t14 r13 → (∃ j19 : Nat, r13 = nI j19 ∧ j19 < 720 ∧ ((¬ (t14 113 j19) = (n - (nI 1)) → T_X12_first AF post 28 [.ref 102, .int n, .int (nI (m + 1)), dum] [] t14) ∧ ((t14 113 j19) = (n - (nI 1)) → post t14 (nI m))))))))))))))) : T_X12_first AF post 28 [.ref 102, .int n, .int (nI m), dum] [] σ := by
  refine tt_iload_n (q := 29) dX12_first_28 rfl rfl ?_
  refine tt_iconst (q := 30) dX12_first_29 ki_2 rfl ?_
  refine tt_aload_n (q := 31) dX12_first_30 rfl rfl ?_
  refine tt_getR (q := 34) dX12_first_31 fl_X12_13 or_102_1 (Nat.le_of_ble_eq_true rfl) rfl rfl ?_
  refine tt_iconst (q := 35) dX12_first_34 ki_0 rfl ?_
  refine tt_iald (q := 36) dX12_first_35 ia_104 (Nat.le_of_ble_eq_true rfl) rfl (Nat.le_of_ble_eq_true rfl : 0 < 197) rfl ?_
  refine tt_imul (q := 37) dX12_first_36 rfl ?_
  refine tt_icmp_ge (q := 40) (t := 105) dX12_first_37 rfl rfl (fun c => ?_) (fun c => ?_)
  · replace h := h.1 c
    refine tt_bipush (q := 107) dX12_first_105 bi_m9 rfl ?_
    exact tt_iret dX12_first_107 ⟨rfl, _, rfl, h⟩
  · replace h := h.2 c
    refine tt_iconst (q := 41) dX12_first_40 ki_0 rfl ?_
    refine sti_n_3 (q := 42) dX12_first_41 rfl rfl rfl ?_
    refine tt_iload_n (q := 43) dX12_first_42 rfl rfl ?_
    refine tt_bipush (q := 45) dX12_first_43 bi_6 rfl ?_
    refine tt_icmp_ge (q := 48) (t := 68) dX12_first_45 rfl rfl (fun c => absurd c (by decide)) (fun c => ?_)
    clear c
    refine tt_aload_n (q := 49) dX12_first_48 rfl rfl ?_
    refine tt_getR (q := 52) dX12_first_49 fl_X12_43 or_102_18 (Nat.le_of_ble_eq_true rfl) rfl rfl ?_
    refine tt_iload_n (q := 53) dX12_first_52 rfl rfl ?_
    refine tt_aload_n (q := 54) dX12_first_53 rfl rfl ?_
    refine tt_getR (q := 57) dX12_first_54 fl_X12_13 or_102_1 (Nat.le_of_ble_eq_true rfl) rfl rfl ?_
    refine tt_iconst (q := 58) dX12_first_57 ki_5 rfl ?_
    refine tt_iload_n (q := 59) dX12_first_58 rfl rfl ?_
    refine tt_iaddE (v := nI 5) (q := 60) dX12_first_59 (by decide) rfl ?_
    refine tt_iald (q := 61) dX12_first_60 ia_104 (Nat.le_of_ble_eq_true rfl) rfl (Nat.le_of_ble_eq_true rfl : 5 < 197) rfl ?_
    refine tt_iast (q := 62) dX12_first_61 ia_114 (Nat.le_of_ble_eq_true rfl) rfl (Nat.le_of_ble_eq_true rfl : 0 < 6) rfl ?_
    replace h := h _ rfl
    refine inc_3 (v := nI 1) (q := 65) dX12_first_62 (by decide) rfl rfl ?_
    refine tt_goto (t := 42) dX12_first_65 rfl ?_
    refine tt_iload_n (q := 43) dX12_first_42 rfl rfl ?_
    refine tt_bipush (q := 45) dX12_first_43 bi_6 rfl ?_
    refine tt_icmp_ge (q := 48) (t := 68) dX12_first_45 rfl rfl (fun c => absurd c (by decide)) (fun c => ?_)
    clear c
    refine tt_aload_n (q := 49) dX12_first_48 rfl rfl ?_
    refine tt_getR (q := 52) dX12_first_49 fl_X12_43 or_102_18 (Nat.le_of_ble_eq_true rfl) rfl rfl ?_
    refine tt_iload_n (q := 53) dX12_first_52 rfl rfl ?_
    refine tt_aload_n (q := 54) dX12_first_53 rfl rfl ?_
    refine tt_getR (q := 57) dX12_first_54 fl_X12_13 or_102_1 (Nat.le_of_ble_eq_true rfl) rfl rfl ?_
    refine tt_iconst (q := 58) dX12_first_57 ki_5 rfl ?_
    refine tt_iload_n (q := 59) dX12_first_58 rfl rfl ?_
    refine tt_iaddE (v := nI 6) (q := 60) dX12_first_59 (by decide) rfl ?_
    refine tt_iald (q := 61) dX12_first_60 ia_104 (Nat.le_of_ble_eq_true rfl) rfl (Nat.le_of_ble_eq_true rfl : 6 < 197) rfl ?_
    refine tt_iast (q := 62) dX12_first_61 ia_114 (Nat.le_of_ble_eq_true rfl) rfl (Nat.le_of_ble_eq_true rfl : 1 < 6) rfl ?_
    replace h := h _ rfl
    refine inc_3 (v := nI 2) (q := 65) dX12_first_62 (by decide) rfl rfl ?_
    refine tt_goto (t := 42) dX12_first_65 rfl ?_
    refine tt_iload_n (q := 43) dX12_first_42 rfl rfl ?_
    refine tt_bipush (q := 45) dX12_first_43 bi_6 rfl ?_
    refine tt_icmp_ge (q := 48) (t := 68) dX12_first_45 rfl rfl (fun c => absurd c (by decide)) (fun c => ?_)
    clear c
    refine tt_aload_n (q := 49) dX12_first_48 rfl rfl ?_
    refine tt_getR (q := 52) dX12_first_49 fl_X12_43 or_102_18 (Nat.le_of_ble_eq_true rfl) rfl rfl ?_
    refine tt_iload_n (q := 53) dX12_first_52 rfl rfl ?_
    refine tt_aload_n (q := 54) dX12_first_53 rfl rfl ?_
    refine tt_getR (q := 57) dX12_first_54 fl_X12_13 or_102_1 (Nat.le_of_ble_eq_true rfl) rfl rfl ?_
    refine tt_iconst (q := 58) dX12_first_57 ki_5 rfl ?_
    refine tt_iload_n (q := 59) dX12_first_58 rfl rfl ?_
    refine tt_iaddE (v := nI 7) (q := 60) dX12_first_59 (by decide) rfl ?_
    refine tt_iald (q := 61) dX12_first_60 ia_104 (Nat.le_of_ble_eq_true rfl) rfl (Nat.le_of_ble_eq_true rfl : 7 < 197) rfl ?_
    refine tt_iast (q := 62) dX12_first_61 ia_114 (Nat.le_of_ble_eq_true rfl) rfl (Nat.le_of_ble_eq_true rfl : 2 < 6) rfl ?_
    replace h := h _ rfl
    refine inc_3 (v := nI 3) (q := 65) dX12_first_62 (by decide) rfl rfl ?_
    refine tt_goto (t := 42) dX12_first_65 rfl ?_
    refine tt_iload_n (q := 43) dX12_first_42 rfl rfl ?_
    refine tt_bipush (q := 45) dX12_first_43 bi_6 rfl ?_
    refine tt_icmp_ge (q := 48) (t := 68) dX12_first_45 rfl rfl (fun c => absurd c (by decide)) (fun c => ?_)
    clear c
    refine tt_aload_n (q := 49) dX12_first_48 rfl rfl ?_
    refine tt_getR (q := 52) dX12_first_49 fl_X12_43 or_102_18 (Nat.le_of_ble_eq_true rfl) rfl rfl ?_
    refine tt_iload_n (q := 53) dX12_first_52 rfl rfl ?_
    refine tt_aload_n (q := 54) dX12_first_53 rfl rfl ?_
    refine tt_getR (q := 57) dX12_first_54 fl_X12_13 or_102_1 (Nat.le_of_ble_eq_true rfl) rfl rfl ?_
    refine tt_iconst (q := 58) dX12_first_57 ki_5 rfl ?_
    refine tt_iload_n (q := 59) dX12_first_58 rfl rfl ?_
    refine tt_iaddE (v := nI 8) (q := 60) dX12_first_59 (by decide) rfl ?_
    refine tt_iald (q := 61) dX12_first_60 ia_104 (Nat.le_of_ble_eq_true rfl) rfl (Nat.le_of_ble_eq_true rfl : 8 < 197) rfl ?_
    refine tt_iast (q := 62) dX12_first_61 ia_114 (Nat.le_of_ble_eq_true rfl) rfl (Nat.le_of_ble_eq_true rfl : 3 < 6) rfl ?_
    replace h := h _ rfl
    refine inc_3 (v := nI 4) (q := 65) dX12_first_62 (by decide) rfl rfl ?_
    refine tt_goto (t := 42) dX12_first_65 rfl ?_
    refine tt_iload_n (q := 43) dX12_first_42 rfl rfl ?_
    refine tt_bipush (q := 45) dX12_first_43 bi_6 rfl ?_
    refine tt_icmp_ge (q := 48) (t := 68) dX12_first_45 rfl rfl (fun c => absurd c (by decide)) (fun c => ?_)
    clear c
    refine tt_aload_n (q := 49) dX12_first_48 rfl rfl ?_
    refine tt_getR (q := 52) dX12_first_49 fl_X12_43 or_102_18 (Nat.le_of_ble_eq_true rfl) rfl rfl ?_
    refine tt_iload_n (q := 53) dX12_first_52 rfl rfl ?_
    refine tt_aload_n (q := 54) dX12_first_53 rfl rfl ?_
    refine tt_getR (q := 57) dX12_first_54 fl_X12_13 or_102_1 (Nat.le_of_ble_eq_true rfl) rfl rfl ?_
    refine tt_iconst (q := 58) dX12_first_57 ki_5 rfl ?_
    refine tt_iload_n (q := 59) dX12_first_58 rfl rfl ?_
    refine tt_iaddE (v := nI 9) (q := 60) dX12_first_59 (by decide) rfl ?_
    refine tt_iald (q := 61) dX12_first_60 ia_104 (Nat.le_of_ble_eq_true rfl) rfl (Nat.le_of_ble_eq_true rfl : 9 < 197) rfl ?_
    refine tt_iast (q := 62) dX12_first_61 ia_114 (Nat.le_of_ble_eq_true rfl) rfl (Nat.le_of_ble_eq_true rfl : 4 < 6) rfl ?_
    replace h := h _ rfl
    refine inc_3 (v := nI 5) (q := 65) dX12_first_62 (by decide) rfl rfl ?_
    refine tt_goto (t := 42) dX12_first_65 rfl ?_
    refine tt_iload_n (q := 43) dX12_first_42 rfl rfl ?_
    refine tt_bipush (q := 45) dX12_first_43 bi_6 rfl ?_
    refine tt_icmp_ge (q := 48) (t := 68) dX12_first_45 rfl rfl (fun c => absurd c (by decide)) (fun c => ?_)
    clear c
    refine tt_aload_n (q := 49) dX12_first_48 rfl rfl ?_
    refine tt_getR (q := 52) dX12_first_49 fl_X12_43 or_102_18 (Nat.le_of_ble_eq_true rfl) rfl rfl ?_
    refine tt_iload_n (q := 53) dX12_first_52 rfl rfl ?_
    refine tt_aload_n (q := 54) dX12_first_53 rfl rfl ?_
    refine tt_getR (q := 57) dX12_first_54 fl_X12_13 or_102_1 (Nat.le_of_ble_eq_true rfl) rfl rfl ?_
    refine tt_iconst (q := 58) dX12_first_57 ki_5 rfl ?_
    refine tt_iload_n (q := 59) dX12_first_58 rfl rfl ?_
    refine tt_iaddE (v := nI 10) (q := 60) dX12_first_59 (by decide) rfl ?_
    refine tt_iald (q := 61) dX12_first_60 ia_104 (Nat.le_of_ble_eq_true rfl) rfl (Nat.le_of_ble_eq_true rfl : 10 < 197) rfl ?_
    refine tt_iast (q := 62) dX12_first_61 ia_114 (Nat.le_of_ble_eq_true rfl) rfl (Nat.le_of_ble_eq_true rfl : 5 < 6) rfl ?_
    replace h := h _ rfl
    refine inc_3 (v := nI 6) (q := 65) dX12_first_62 (by decide) rfl rfl ?_
    refine tt_goto (t := 42) dX12_first_65 rfl ?_
    refine tt_iload_n (q := 43) dX12_first_42 rfl rfl ?_
    refine tt_bipush (q := 45) dX12_first_43 bi_6 rfl ?_
    refine tt_icmp_ge (q := 48) (t := 68) dX12_first_45 rfl rfl (fun c => ?_) (fun c => absurd c (by decide))
    clear c
    refine tt_aload_n (q := 69) dX12_first_68 rfl rfl ?_
    refine tt_aload_n (q := 70) dX12_first_69 rfl rfl ?_
    refine tt_getR (q := 73) dX12_first_70 fl_X12_43 or_102_18 (Nat.le_of_ble_eq_true rfl) rfl rfl ?_
    refine tt_iconst (q := 74) dX12_first_73 ki_0 rfl ?_
    refine tt_iload_n (q := 75) dX12_first_74 rfl rfl ?_
    obtain ⟨p10, hp11, h⟩ := h
    refine callVv_3 (q := 78) dX12_first_75 (Or.inr (Or.inr (⟨rfl, rfl, hp11⟩))) (Nat.le_of_ble_eq_true rfl) rfl (fun t9 hr12 => ?_)
    replace h := h t9 hr12
    refine tt_aload_n (q := 79) dX12_first_78 rfl rfl ?_
    refine tt_getR (q := 82) dX12_first_79 fl_X12_40 or_102_17 (Nat.le_of_ble_eq_true rfl) rfl rfl ?_
    refine tt_aload_n (q := 83) dX12_first_82 rfl rfl ?_
    refine tt_getR (q := 86) dX12_first_83 fl_X12_43 or_102_18 (Nat.le_of_ble_eq_true rfl) rfl rfl ?_
    refine tt_iconst (q := 87) dX12_first_86 ki_0 rfl ?_
    obtain ⟨p15, hp16, h⟩ := h
    refine callSi_2 (q := 90) dX12_first_87 (Or.inr (Or.inl ⟨rfl, rfl, hp16⟩)) (Nat.le_of_ble_eq_true rfl) rfl (fun t14 r13 hr17 => ?_)
    replace h := h t14 r13 hr17
    obtain ⟨j19, e20, l18, h⟩ := h
    refine tt_iald (q := 91) dX12_first_90 ia_113 (Nat.le_of_ble_eq_true rfl) e20 l18 rfl ?_
    refine tt_iload_n (q := 92) dX12_first_91 rfl rfl ?_
    refine tt_iconst (q := 93) dX12_first_92 ki_1 rfl ?_
    refine tt_isub (q := 94) dX12_first_93 rfl ?_
    refine tt_icmp_ne (q := 97) (t := 99) dX12_first_94 rfl rfl (fun c => ?_) (fun c => ?_)
    · replace h := h.1 c
      refine inc_2 (q := 102) dX12_first_99 (nI_inc1 _) rfl rfl ?_
      refine tt_goto (t := 28) dX12_first_102 rfl ?_
      refine tt_wk (L2 := [_, _, _, dum]) ⟨Or.inl rfl, Or.inl rfl, Or.inl rfl, Or.inr rfl, trivial⟩ ?_
      exact h
    · replace h := h.2 c
      refine tt_iload_n (q := 98) dX12_first_97 rfl rfl ?_
      exact tt_iret dX12_first_98 ⟨rfl, _, rfl, h⟩

theorem g_X12_step_0 {post : SG → Int32 → Prop} {σ : SG} {a : Int32} {b : Int32} (h : ((a < 0 → (∀ s6 : SG, s6 = up σ 103 1 ((σ 103 1) + (nI 1)) → post s6 (-1 : Int32))) ∧ (¬ a < 0 → (((nI 64) ≤ a → (∀ s10 : SG, s10 = up σ 103 1 ((σ 103 1) + (nI 1)) → post s10 (-1 : Int32))) ∧ (¬ (nI 64) ≤ a → ((b < 0 → (∀ s16 : SG, s16 = up σ 103 1 ((σ 103 1) + (nI 1)) → post s16 (-1 : Int32))) ∧ (¬ b < 0 → (((nI 1024) ≤ b → (∀ s20 : SG, s20 = up σ 103 1 ((σ 103 1) + (nI 1)) → post s20 (-1 : Int32))) ∧ (¬ (nI 1024) ≤ b → ((¬ (σ 104 2) = (nI 4) → (∃ j23 : Nat, ((nI 185) + ((nI 3) * (σ 104 2))) = nI j23 ∧ j23 < 197 ∧ (∀ s25 : SG, s25 = up σ 104 j23 a → (∃ j27 : Nat, (((nI 185) + ((nI 3) * (σ 104 2))) + (nI 1)) = nI j27 ∧ j27 < 197 ∧ (∀ s29 : SG, s29 = up s25 104 j27 b → (∃ j31 : Nat, (((nI 185) + ((nI 3) * (σ 104 2))) + (nI 2)) = nI j31 ∧ j31 < 197 ∧ (∀ s33 : SG, s33 = up s29 104 j31 (nI 0) → (∀ s34 : SG, s34 = up s33 104 2 ((s33 104 2) + (nI 1)) → post s34 ((s34 104 2) - (nI 1)))))))))) ∧ ((σ 104 2) = (nI 4) → (∀ s37 : SG, s37 = up σ 103 6 ((σ 103 6) + (nI 1)) → post s37 (-6 : Int32))))))))))))) : T_X12_step AF post 0 [.ref 102, .int a, .int b, dum] [] σ := by
  refine tt_iload_n (q := 1) dX12_step_0 rfl rfl ?_
  refine tt_bipush (q := 3) dX12_step_1 bi_64 rfl ?_
  refine callSi_2 (q := 6) dX12_step_3 (Or.inl ⟨rfl, rfl, ⟨rfl, Nat.le_of_ble_eq_true rfl, ?_⟩⟩) (Nat.le_of_ble_eq_true rfl) rfl (fun t2 r1 ht2 => ht2)
  refine (show TT cX12_isIn RX12 false CT0 CN0 _ _ _ none 0 [_, _] [] _ _ from ?_)
  refine tt_iload_n (q := 1) dX12_isIn_0 rfl rfl ?_
  refine tt_if_lt (q := 4) (t := 13) dX12_isIn_1 rfl rfl (fun c => ?_) (fun c => ?_)
  · replace h := h.1 c
    refine tt_iconst (q := 14) dX12_isIn_13 ki_0 rfl ?_
    refine tt_iret dX12_isIn_14 ⟨rfl, _, rfl, Or.inl nI_0, ?_⟩
    refine tt_if_eq (q := 9) (t := 19) dX12_step_6 rfl rfl (fun c => ?_) (fun c => absurd c (by decide))
    clear c
    refine tt_aload_n (q := 20) dX12_step_19 rfl rfl ?_
    refine tt_iconst (q := 21) dX12_step_20 ki_m1 rfl ?_
    refine callVi_1 (q := 24) dX12_step_21 (Or.inr (⟨rfl, rfl, ⟨⟨_, _, rfl, rfl, (Nat.le_of_ble_eq_true rfl), rc_102⟩, Nat.le_of_ble_eq_true rfl, ?_⟩⟩)) (Nat.le_of_ble_eq_true rfl) rfl (fun t5 r4 ht5 => ht5)
    refine (show TT cX12_refuse RX12 false CT0 CN0 _ _ _ none 0 [_, _] [] _ _ from ?_)
    refine tt_aload_n (q := 1) dX12_refuse_0 rfl rfl ?_
    refine tt_getR (q := 4) dX12_refuse_1 fl_X12_7 or_102_0 (Nat.le_of_ble_eq_true rfl) rfl rfl ?_
    refine tt_iload_n (q := 5) dX12_refuse_4 rfl rfl ?_
    refine tt_inegE (v := nI 1) (q := 6) dX12_refuse_5 (by decide) rfl ?_
    refine tt_dup2 (q := 7) dX12_refuse_6 rfl rfl rfl ?_
    refine tt_iald (q := 8) dX12_refuse_7 ia_103 (Nat.le_of_ble_eq_true rfl) rfl (Nat.le_of_ble_eq_true rfl : 1 < 7) rfl ?_
    refine tt_iconst (q := 9) dX12_refuse_8 ki_1 rfl ?_
    refine tt_iadd (q := 10) dX12_refuse_9 rfl ?_
    refine tt_iast (q := 11) dX12_refuse_10 ia_103 (Nat.le_of_ble_eq_true rfl) rfl (Nat.le_of_ble_eq_true rfl : 1 < 7) rfl ?_
    replace h := h _ rfl
    refine tt_iload_n (q := 12) dX12_refuse_11 rfl rfl ?_
    refine tt_iret dX12_refuse_12 ⟨rfl, _, rfl, ?_⟩
    exact tt_iret dX12_step_24 ⟨rfl, _, rfl, h⟩
  · replace h := h.2 c
    refine tt_iload_n (q := 5) dX12_isIn_4 rfl rfl ?_
    refine tt_iload_n (q := 6) dX12_isIn_5 rfl rfl ?_
    refine tt_icmp_ge (q := 9) (t := 13) dX12_isIn_6 rfl rfl (fun c => ?_) (fun c => ?_)
    · replace h := h.1 c
      refine tt_iconst (q := 14) dX12_isIn_13 ki_0 rfl ?_
      refine tt_iret dX12_isIn_14 ⟨rfl, _, rfl, Or.inl nI_0, ?_⟩
      refine tt_if_eq (q := 9) (t := 19) dX12_step_6 rfl rfl (fun c => ?_) (fun c => absurd c (by decide))
      clear c
      refine tt_aload_n (q := 20) dX12_step_19 rfl rfl ?_
      refine tt_iconst (q := 21) dX12_step_20 ki_m1 rfl ?_
      refine callVi_1 (q := 24) dX12_step_21 (Or.inr (⟨rfl, rfl, ⟨⟨_, _, rfl, rfl, (Nat.le_of_ble_eq_true rfl), rc_102⟩, Nat.le_of_ble_eq_true rfl, ?_⟩⟩)) (Nat.le_of_ble_eq_true rfl) rfl (fun t9 r8 ht9 => ht9)
      refine (show TT cX12_refuse RX12 false CT0 CN0 _ _ _ none 0 [_, _] [] _ _ from ?_)
      refine tt_aload_n (q := 1) dX12_refuse_0 rfl rfl ?_
      refine tt_getR (q := 4) dX12_refuse_1 fl_X12_7 or_102_0 (Nat.le_of_ble_eq_true rfl) rfl rfl ?_
      refine tt_iload_n (q := 5) dX12_refuse_4 rfl rfl ?_
      refine tt_inegE (v := nI 1) (q := 6) dX12_refuse_5 (by decide) rfl ?_
      refine tt_dup2 (q := 7) dX12_refuse_6 rfl rfl rfl ?_
      refine tt_iald (q := 8) dX12_refuse_7 ia_103 (Nat.le_of_ble_eq_true rfl) rfl (Nat.le_of_ble_eq_true rfl : 1 < 7) rfl ?_
      refine tt_iconst (q := 9) dX12_refuse_8 ki_1 rfl ?_
      refine tt_iadd (q := 10) dX12_refuse_9 rfl ?_
      refine tt_iast (q := 11) dX12_refuse_10 ia_103 (Nat.le_of_ble_eq_true rfl) rfl (Nat.le_of_ble_eq_true rfl : 1 < 7) rfl ?_
      replace h := h _ rfl
      refine tt_iload_n (q := 12) dX12_refuse_11 rfl rfl ?_
      refine tt_iret dX12_refuse_12 ⟨rfl, _, rfl, ?_⟩
      exact tt_iret dX12_step_24 ⟨rfl, _, rfl, h⟩
    · replace h := h.2 c
      refine tt_iconst (q := 10) dX12_isIn_9 ki_1 rfl ?_
      refine tt_goto (t := 14) dX12_isIn_10 rfl ?_
      refine tt_iret dX12_isIn_14 ⟨rfl, _, rfl, Or.inr rfl, ?_⟩
      refine tt_if_eq (q := 9) (t := 19) dX12_step_6 rfl rfl (fun c => absurd c (by decide)) (fun c => ?_)
      clear c
      refine tt_iload_n (q := 10) dX12_step_9 rfl rfl ?_
      refine tt_sipush (q := 13) dX12_step_10 si_1024 rfl ?_
      refine callSi_2 (q := 16) dX12_step_13 (Or.inl ⟨rfl, rfl, ⟨rfl, Nat.le_of_ble_eq_true rfl, ?_⟩⟩) (Nat.le_of_ble_eq_true rfl) rfl (fun t12 r11 ht12 => ht12)
      refine (show TT cX12_isIn RX12 false CT0 CN0 _ _ _ none 0 [_, _] [] _ _ from ?_)
      refine tt_iload_n (q := 1) dX12_isIn_0 rfl rfl ?_
      refine tt_if_lt (q := 4) (t := 13) dX12_isIn_1 rfl rfl (fun c => ?_) (fun c => ?_)
      · replace h := h.1 c
        refine tt_iconst (q := 14) dX12_isIn_13 ki_0 rfl ?_
        refine tt_iret dX12_isIn_14 ⟨rfl, _, rfl, Or.inl nI_0, ?_⟩
        refine tt_if_ne (q := 19) (t := 25) dX12_step_16 rfl rfl (fun c => absurd c (by decide)) (fun c => ?_)
        clear c
        refine tt_aload_n (q := 20) dX12_step_19 rfl rfl ?_
        refine tt_iconst (q := 21) dX12_step_20 ki_m1 rfl ?_
        refine callVi_1 (q := 24) dX12_step_21 (Or.inr (⟨rfl, rfl, ⟨⟨_, _, rfl, rfl, (Nat.le_of_ble_eq_true rfl), rc_102⟩, Nat.le_of_ble_eq_true rfl, ?_⟩⟩)) (Nat.le_of_ble_eq_true rfl) rfl (fun t15 r14 ht15 => ht15)
        refine (show TT cX12_refuse RX12 false CT0 CN0 _ _ _ none 0 [_, _] [] _ _ from ?_)
        refine tt_aload_n (q := 1) dX12_refuse_0 rfl rfl ?_
        refine tt_getR (q := 4) dX12_refuse_1 fl_X12_7 or_102_0 (Nat.le_of_ble_eq_true rfl) rfl rfl ?_
        refine tt_iload_n (q := 5) dX12_refuse_4 rfl rfl ?_
        refine tt_inegE (v := nI 1) (q := 6) dX12_refuse_5 (by decide) rfl ?_
        refine tt_dup2 (q := 7) dX12_refuse_6 rfl rfl rfl ?_
        refine tt_iald (q := 8) dX12_refuse_7 ia_103 (Nat.le_of_ble_eq_true rfl) rfl (Nat.le_of_ble_eq_true rfl : 1 < 7) rfl ?_
        refine tt_iconst (q := 9) dX12_refuse_8 ki_1 rfl ?_
        refine tt_iadd (q := 10) dX12_refuse_9 rfl ?_
        refine tt_iast (q := 11) dX12_refuse_10 ia_103 (Nat.le_of_ble_eq_true rfl) rfl (Nat.le_of_ble_eq_true rfl : 1 < 7) rfl ?_
        replace h := h _ rfl
        refine tt_iload_n (q := 12) dX12_refuse_11 rfl rfl ?_
        refine tt_iret dX12_refuse_12 ⟨rfl, _, rfl, ?_⟩
        exact tt_iret dX12_step_24 ⟨rfl, _, rfl, h⟩
      · replace h := h.2 c
        refine tt_iload_n (q := 5) dX12_isIn_4 rfl rfl ?_
        refine tt_iload_n (q := 6) dX12_isIn_5 rfl rfl ?_
        refine tt_icmp_ge (q := 9) (t := 13) dX12_isIn_6 rfl rfl (fun c => ?_) (fun c => ?_)
        · replace h := h.1 c
          refine tt_iconst (q := 14) dX12_isIn_13 ki_0 rfl ?_
          refine tt_iret dX12_isIn_14 ⟨rfl, _, rfl, Or.inl nI_0, ?_⟩
          refine tt_if_ne (q := 19) (t := 25) dX12_step_16 rfl rfl (fun c => absurd c (by decide)) (fun c => ?_)
          clear c
          refine tt_aload_n (q := 20) dX12_step_19 rfl rfl ?_
          refine tt_iconst (q := 21) dX12_step_20 ki_m1 rfl ?_
          refine callVi_1 (q := 24) dX12_step_21 (Or.inr (⟨rfl, rfl, ⟨⟨_, _, rfl, rfl, (Nat.le_of_ble_eq_true rfl), rc_102⟩, Nat.le_of_ble_eq_true rfl, ?_⟩⟩)) (Nat.le_of_ble_eq_true rfl) rfl (fun t19 r18 ht19 => ht19)
          refine (show TT cX12_refuse RX12 false CT0 CN0 _ _ _ none 0 [_, _] [] _ _ from ?_)
          refine tt_aload_n (q := 1) dX12_refuse_0 rfl rfl ?_
          refine tt_getR (q := 4) dX12_refuse_1 fl_X12_7 or_102_0 (Nat.le_of_ble_eq_true rfl) rfl rfl ?_
          refine tt_iload_n (q := 5) dX12_refuse_4 rfl rfl ?_
          refine tt_inegE (v := nI 1) (q := 6) dX12_refuse_5 (by decide) rfl ?_
          refine tt_dup2 (q := 7) dX12_refuse_6 rfl rfl rfl ?_
          refine tt_iald (q := 8) dX12_refuse_7 ia_103 (Nat.le_of_ble_eq_true rfl) rfl (Nat.le_of_ble_eq_true rfl : 1 < 7) rfl ?_
          refine tt_iconst (q := 9) dX12_refuse_8 ki_1 rfl ?_
          refine tt_iadd (q := 10) dX12_refuse_9 rfl ?_
          refine tt_iast (q := 11) dX12_refuse_10 ia_103 (Nat.le_of_ble_eq_true rfl) rfl (Nat.le_of_ble_eq_true rfl : 1 < 7) rfl ?_
          replace h := h _ rfl
          refine tt_iload_n (q := 12) dX12_refuse_11 rfl rfl ?_
          refine tt_iret dX12_refuse_12 ⟨rfl, _, rfl, ?_⟩
          exact tt_iret dX12_step_24 ⟨rfl, _, rfl, h⟩
        · replace h := h.2 c
          refine tt_iconst (q := 10) dX12_isIn_9 ki_1 rfl ?_
          refine tt_goto (t := 14) dX12_isIn_10 rfl ?_
          refine tt_iret dX12_isIn_14 ⟨rfl, _, rfl, Or.inr rfl, ?_⟩
          refine tt_if_ne (q := 19) (t := 25) dX12_step_16 rfl rfl (fun c => ?_) (fun c => absurd c (by decide))
          clear c
          refine tt_aload_n (q := 26) dX12_step_25 rfl rfl ?_
          refine tt_getR (q := 29) dX12_step_26 fl_X12_13 or_102_1 (Nat.le_of_ble_eq_true rfl) rfl rfl ?_
          refine tt_iconst (q := 30) dX12_step_29 ki_2 rfl ?_
          refine tt_iald (q := 31) dX12_step_30 ia_104 (Nat.le_of_ble_eq_true rfl) rfl (Nat.le_of_ble_eq_true rfl : 2 < 197) rfl ?_
          refine tt_iconst (q := 32) dX12_step_31 ki_4 rfl ?_
          refine tt_icmp_ne (q := 35) (t := 42) dX12_step_32 rfl rfl (fun c => ?_) (fun c => ?_)
          · replace h := h.1 c
            refine tt_sipush (q := 45) dX12_step_42 si_185 rfl ?_
            refine tt_iconst (q := 46) dX12_step_45 ki_3 rfl ?_
            refine tt_aload_n (q := 47) dX12_step_46 rfl rfl ?_
            refine tt_getR (q := 50) dX12_step_47 fl_X12_13 or_102_1 (Nat.le_of_ble_eq_true rfl) rfl rfl ?_
            refine tt_iconst (q := 51) dX12_step_50 ki_2 rfl ?_
            refine tt_iald (q := 52) dX12_step_51 ia_104 (Nat.le_of_ble_eq_true rfl) rfl (Nat.le_of_ble_eq_true rfl : 2 < 197) rfl ?_
            refine tt_imul (q := 53) dX12_step_52 rfl ?_
            refine tt_iadd (q := 54) dX12_step_53 rfl ?_
            refine sti_n_3 (q := 55) dX12_step_54 rfl rfl rfl ?_
            refine tt_aload_n (q := 56) dX12_step_55 rfl rfl ?_
            refine tt_getR (q := 59) dX12_step_56 fl_X12_13 or_102_1 (Nat.le_of_ble_eq_true rfl) rfl rfl ?_
            refine tt_iload_n (q := 60) dX12_step_59 rfl rfl ?_
            refine tt_iload_n (q := 61) dX12_step_60 rfl rfl ?_
            obtain ⟨j23, e24, l22, h⟩ := h
            refine tt_iast (q := 62) dX12_step_61 ia_104 (Nat.le_of_ble_eq_true rfl) e24 l22 rfl ?_
            replace h := h _ rfl
            refine tt_aload_n (q := 63) dX12_step_62 rfl rfl ?_
            refine tt_getR (q := 66) dX12_step_63 fl_X12_13 or_102_1 (Nat.le_of_ble_eq_true rfl) rfl rfl ?_
            refine tt_iload_n (q := 67) dX12_step_66 rfl rfl ?_
            refine tt_iconst (q := 68) dX12_step_67 ki_1 rfl ?_
            refine tt_iadd (q := 69) dX12_step_68 rfl ?_
            refine tt_iload_n (q := 70) dX12_step_69 rfl rfl ?_
            obtain ⟨j27, e28, l26, h⟩ := h
            refine tt_iast (q := 71) dX12_step_70 ia_104 (Nat.le_of_ble_eq_true rfl) e28 l26 rfl ?_
            replace h := h _ rfl
            refine tt_aload_n (q := 72) dX12_step_71 rfl rfl ?_
            refine tt_getR (q := 75) dX12_step_72 fl_X12_13 or_102_1 (Nat.le_of_ble_eq_true rfl) rfl rfl ?_
            refine tt_iload_n (q := 76) dX12_step_75 rfl rfl ?_
            refine tt_iconst (q := 77) dX12_step_76 ki_2 rfl ?_
            refine tt_iadd (q := 78) dX12_step_77 rfl ?_
            refine tt_iconst (q := 79) dX12_step_78 ki_0 rfl ?_
            obtain ⟨j31, e32, l30, h⟩ := h
            refine tt_iast (q := 80) dX12_step_79 ia_104 (Nat.le_of_ble_eq_true rfl) e32 l30 rfl ?_
            replace h := h _ rfl
            refine tt_aload_n (q := 81) dX12_step_80 rfl rfl ?_
            refine tt_getR (q := 84) dX12_step_81 fl_X12_13 or_102_1 (Nat.le_of_ble_eq_true rfl) rfl rfl ?_
            refine tt_iconst (q := 85) dX12_step_84 ki_2 rfl ?_
            refine tt_dup2 (q := 86) dX12_step_85 rfl rfl rfl ?_
            refine tt_iald (q := 87) dX12_step_86 ia_104 (Nat.le_of_ble_eq_true rfl) rfl (Nat.le_of_ble_eq_true rfl : 2 < 197) rfl ?_
            refine tt_iconst (q := 88) dX12_step_87 ki_1 rfl ?_
            refine tt_iadd (q := 89) dX12_step_88 rfl ?_
            refine tt_iast (q := 90) dX12_step_89 ia_104 (Nat.le_of_ble_eq_true rfl) rfl (Nat.le_of_ble_eq_true rfl : 2 < 197) rfl ?_
            replace h := h _ rfl
            refine tt_aload_n (q := 91) dX12_step_90 rfl rfl ?_
            refine tt_getR (q := 94) dX12_step_91 fl_X12_13 or_102_1 (Nat.le_of_ble_eq_true rfl) rfl rfl ?_
            refine tt_iconst (q := 95) dX12_step_94 ki_2 rfl ?_
            refine tt_iald (q := 96) dX12_step_95 ia_104 (Nat.le_of_ble_eq_true rfl) rfl (Nat.le_of_ble_eq_true rfl : 2 < 197) rfl ?_
            refine tt_iconst (q := 97) dX12_step_96 ki_1 rfl ?_
            refine tt_isub (q := 98) dX12_step_97 rfl ?_
            exact tt_iret dX12_step_98 ⟨rfl, _, rfl, h⟩
          · replace h := h.2 c
            refine tt_aload_n (q := 36) dX12_step_35 rfl rfl ?_
            refine tt_bipush (q := 38) dX12_step_36 bi_m6 rfl ?_
            refine callVi_1 (q := 41) dX12_step_38 (Or.inr (⟨rfl, rfl, ⟨⟨_, _, rfl, rfl, (Nat.le_of_ble_eq_true rfl), rc_102⟩, Nat.le_of_ble_eq_true rfl, ?_⟩⟩)) (Nat.le_of_ble_eq_true rfl) rfl (fun t36 r35 ht36 => ht36)
            refine (show TT cX12_refuse RX12 false CT0 CN0 _ _ _ none 0 [_, _] [] _ _ from ?_)
            refine tt_aload_n (q := 1) dX12_refuse_0 rfl rfl ?_
            refine tt_getR (q := 4) dX12_refuse_1 fl_X12_7 or_102_0 (Nat.le_of_ble_eq_true rfl) rfl rfl ?_
            refine tt_iload_n (q := 5) dX12_refuse_4 rfl rfl ?_
            refine tt_inegE (v := nI 6) (q := 6) dX12_refuse_5 (by decide) rfl ?_
            refine tt_dup2 (q := 7) dX12_refuse_6 rfl rfl rfl ?_
            refine tt_iald (q := 8) dX12_refuse_7 ia_103 (Nat.le_of_ble_eq_true rfl) rfl (Nat.le_of_ble_eq_true rfl : 6 < 7) rfl ?_
            refine tt_iconst (q := 9) dX12_refuse_8 ki_1 rfl ?_
            refine tt_iadd (q := 10) dX12_refuse_9 rfl ?_
            refine tt_iast (q := 11) dX12_refuse_10 ia_103 (Nat.le_of_ble_eq_true rfl) rfl (Nat.le_of_ble_eq_true rfl : 6 < 7) rfl ?_
            replace h := h _ rfl
            refine tt_iload_n (q := 12) dX12_refuse_11 rfl rfl ?_
            refine tt_iret dX12_refuse_12 ⟨rfl, _, rfl, ?_⟩
            exact tt_iret dX12_step_41 ⟨rfl, _, rfl, h⟩

theorem g_X12_isDone_0 {post : SG → Int32 → Prop} {σ : SG} {a : Nat} (hia_a : IA a 6) (hk_a : a < AF.1) {k : Nat} (h : T_X12_isDone AF post 5 [.ref 102, .ref a, .int (nI k), .int (nI 0), .int (nI 0)] [] σ) : T_X12_isDone AF post 0 [.ref 102, .ref a, .int (nI k), dum, dum] [] σ := by
  refine tt_iconst (q := 1) dX12_isDone_0 ki_0 rfl ?_
  refine sti_n_3 (q := 2) dX12_isDone_1 rfl rfl rfl ?_
  refine tt_iconst (q := 3) dX12_isDone_2 ki_0 rfl ?_
  refine sti_4 (q := 5) dX12_isDone_3 rfl rfl ?_
  exact h
theorem g_X12_isDone_5 {post : SG → Int32 → Prop} {σ : SG} {a : Nat} (hia_a : IA a 6) (hk_a : a < AF.1) {k : Nat} {set : Int32} {j : Nat} (h : (j < 2 ^ 31 ∧ (k < 2 ^ 31 ∧ ((k < j → T_X12_isDone AF post 30 [.ref 102, .ref a, .int (nI k), .int set, .int (nI 0)] [] σ) ∧ (j ≤ k → (185 + (3 * j) + 0 < 197 ∧ T_X12_isDone AF post 5 [.ref 102, .ref a, .int (nI k), .int (set ||| (σ 104 (185 + (3 * j) + 0))), .int (nI (j + 1))] [] σ)))))) : T_X12_isDone AF post 5 [.ref 102, .ref a, .int (nI k), .int set, .int (nI j)] [] σ := by
  refine tt_iload (q := 7) dX12_isDone_5 rfl rfl ?_
  refine tt_iload_n (q := 8) dX12_isDone_7 rfl rfl ?_
  obtain ⟨l2, h⟩ := h
  obtain ⟨l3, h⟩ := h
  refine tt_icmp_gt (q := 11) (t := 27) dX12_isDone_8 rfl rfl (fun c => ?_) (fun c => ?_)
  · replace h := h.1 ((nI_ltI l3 l2).1 c)
    refine tt_iconst (q := 28) dX12_isDone_27 ki_0 rfl ?_
    refine sti_4 (q := 30) dX12_isDone_28 rfl rfl ?_
    exact h
  · replace h := h.2 (Nat.le_of_not_lt (fun z => c ((nI_ltI l3 l2).2 z)))
    refine tt_iload_n (q := 12) dX12_isDone_11 rfl rfl ?_
    refine tt_aload_n (q := 13) dX12_isDone_12 rfl rfl ?_
    refine tt_iload (q := 15) dX12_isDone_13 rfl rfl ?_
    refine tt_iconst (q := 16) dX12_isDone_15 ki_0 rfl ?_
    refine callVi_2 (q := 19) dX12_isDone_16 (⟨rfl, rfl, ⟨⟨_, _, rfl, rfl, (Nat.le_of_ble_eq_true rfl), rc_102⟩, Nat.le_of_ble_eq_true rfl, ?_⟩⟩) (Nat.le_of_ble_eq_true rfl) rfl (fun t5 r4 ht5 => ht5)
    refine (show TT cX12_stepOf RX12 false CT0 CN0 _ _ _ none 0 [_, _, _] [] _ _ from ?_)
    refine tt_aload_n (q := 1) dX12_stepOf_0 rfl rfl ?_
    refine tt_getR (q := 4) dX12_stepOf_1 fl_X12_13 or_102_1 (Nat.le_of_ble_eq_true rfl) rfl rfl ?_
    refine tt_sipush (q := 7) dX12_stepOf_4 si_185 rfl ?_
    refine tt_iconst (q := 8) dX12_stepOf_7 ki_3 rfl ?_
    refine tt_iload_n (q := 9) dX12_stepOf_8 rfl rfl ?_
    refine tt_imulN (q := 10) dX12_stepOf_9 rfl ?_
    refine tt_iaddN (q := 11) dX12_stepOf_10 rfl ?_
    refine tt_iload_n (q := 12) dX12_stepOf_11 rfl rfl ?_
    refine tt_iaddN (q := 13) dX12_stepOf_12 rfl ?_
    obtain ⟨l6, h⟩ := h
    refine tt_iald (q := 14) dX12_stepOf_13 ia_104 (Nat.le_of_ble_eq_true rfl) rfl l6 rfl ?_
    refine tt_iret dX12_stepOf_14 ⟨rfl, _, rfl, ?_⟩
    refine tt_ior (q := 20) dX12_isDone_19 rfl ?_
    refine sti_n_3 (q := 21) dX12_isDone_20 rfl rfl rfl ?_
    refine inc_4 (q := 24) dX12_isDone_21 (nI_inc1 _) rfl rfl ?_
    refine tt_goto (t := 5) dX12_isDone_24 rfl ?_
    exact h
theorem g_X12_isDone_30 {post : SG → Int32 → Prop} {σ : SG} {a : Nat} (hia_a : IA a 6) (hk_a : a < AF.1) {k : Nat} {set : Int32} {p : Nat} (h : (p < 2 ^ 31 ∧ ((6 ≤ p → post σ (nI 1)) ∧ (p < 6 → ((¬ ((set >>> ((nI p) &&& 31)) &&& (nI 1)) = (nI 1) → T_X12_isDone AF post 30 [.ref 102, .ref a, .int (nI k), .int set, .int (nI (p + 1))] [] σ) ∧ (((set >>> ((nI p) &&& 31)) &&& (nI 1)) = (nI 1) → (p < 6 ∧ (((σ a p) = (nI p) → T_X12_isDone AF post 30 [.ref 102, .ref a, .int (nI k), .int set, .int (nI (p + 1))] [] σ) ∧ (¬ (σ a p) = (nI p) → post σ (nI 0)))))))))) : T_X12_isDone AF post 30 [.ref 102, .ref a, .int (nI k), .int set, .int (nI p)] [] σ := by
  refine tt_iload (q := 32) dX12_isDone_30 rfl rfl ?_
  refine tt_bipush (q := 34) dX12_isDone_32 bi_6 rfl ?_
  obtain ⟨l2, h⟩ := h
  refine tt_icmp_ge (q := 37) (t := 64) dX12_isDone_34 rfl rfl (fun c => ?_) (fun c => ?_)
  · replace h := h.1 ((nI_leI (by decide) l2).1 c)
    refine tt_iconst (q := 65) dX12_isDone_64 ki_1 rfl ?_
    exact tt_iret dX12_isDone_65 ⟨rfl, _, rfl, Or.inr rfl, h⟩
  · replace h := h.2 (Nat.lt_of_not_le (fun z => c ((nI_leI (by decide) l2).2 z)))
    refine tt_iload_n (q := 38) dX12_isDone_37 rfl rfl ?_
    refine tt_iload (q := 40) dX12_isDone_38 rfl rfl ?_
    refine tt_ishr (q := 41) dX12_isDone_40 rfl ?_
    refine tt_iconst (q := 42) dX12_isDone_41 ki_1 rfl ?_
    refine tt_iand (q := 43) dX12_isDone_42 rfl ?_
    refine tt_iconst (q := 44) dX12_isDone_43 ki_1 rfl ?_
    refine tt_icmp_ne (q := 47) (t := 58) dX12_isDone_44 rfl rfl (fun c => ?_) (fun c => ?_)
    · replace h := h.1 c
      refine inc_4 (q := 61) dX12_isDone_58 (nI_inc1 _) rfl rfl ?_
      refine tt_goto (t := 30) dX12_isDone_61 rfl ?_
      exact h
    · replace h := h.2 c
      refine tt_aload_n (q := 48) dX12_isDone_47 rfl rfl ?_
      refine tt_iload (q := 50) dX12_isDone_48 rfl rfl ?_
      obtain ⟨l4, h⟩ := h
      refine tt_iald (q := 51) dX12_isDone_50 hia_a hk_a rfl l4 rfl ?_
      refine tt_iload (q := 53) dX12_isDone_51 rfl rfl ?_
      refine tt_icmp_eq (q := 56) (t := 58) dX12_isDone_53 rfl rfl (fun c => ?_) (fun c => ?_)
      · replace h := h.1 c
        refine inc_4 (q := 61) dX12_isDone_58 (nI_inc1 _) rfl rfl ?_
        refine tt_goto (t := 30) dX12_isDone_61 rfl ?_
        exact h
      · replace h := h.2 c
        refine tt_iconst (q := 57) dX12_isDone_56 ki_0 rfl ?_
        exact tt_iret dX12_isDone_57 ⟨rfl, _, rfl, Or.inl nI_0, h⟩

theorem g_X12_rowFor_0 {post : SG → Int32 → Prop} {σ : SG} {k : Nat} (h : T_X12_rowFor AF post 2 [.ref 102, .int (nI k), .int (nI 0), dum] [] σ) : T_X12_rowFor AF post 0 [.ref 102, .int (nI k), dum, dum] [] σ := by
  refine tt_iconst (q := 1) dX12_rowFor_0 ki_0 rfl ?_
  refine sti_n_2 (q := 2) dX12_rowFor_1 rfl rfl rfl ?_
  exact h
theorem g_X12_rowFor_2 {post : SG → Int32 → Prop} {σ : SG} {k : Nat} {r : Nat} (h : (((σ 104 1) ≤ (nI r) → post σ (-9 : Int32)) ∧ (¬ (σ 104 1) ≤ (nI r) → (185 + (3 * k) + 1 < 197 ∧ ((¬ (((σ 104 (185 + (3 * k) + 1)) >>> ((nI r) &&& 31)) &&& (nI 1)) = 0 → (∀ s6 : SG, s6 = up σ 116 0 (σ 115 0) → (∀ s7 : SG, s7 = up s6 116 1 (s6 115 1) → (∀ s8 : SG, s8 = up s7 116 2 (s7 115 2) → (∀ s9 : SG, s9 = up s8 116 3 (s8 115 3) → (∀ s10 : SG, s10 = up s9 116 4 (s9 115 4) → (∀ s11 : SG, s11 = up s10 116 5 (s10 115 5) → (∃ p14 : SG → Int32 → Prop, IN_X12_makesRow AF s11 [.ref 102, .ref 116, .int (nI 0), .int (nI r)] p14 ∧ ∀ t13 : SG, p14 t13 0 → (∃ p19 : SG → Int32 → Prop, IN_X12_isDone AF t13 [.ref 102, .ref 116, .int (nI k)] p19 ∧ ∀ (t18 : SG) (r17 : Int32), p19 t18 r17 → ((r17 = 0 → T_X12_rowFor AF post 2 [.ref 102, .int (nI k), .int (nI (r + 1)), dum] [] t18) ∧ (¬ r17 = 0 → post t18 (nI r)))))))))))) ∧ ((((σ 104 (185 + (3 * k) + 1)) >>> ((nI r) &&& 31)) &&& (nI 1)) = 0 → T_X12_rowFor AF post 2 [.ref 102, .int (nI k), .int (nI (r + 1)), dum] [] σ)))))) : T_X12_rowFor AF post 2 [.ref 102, .int (nI k), .int (nI r), dum] [] σ := by
  refine tt_iload_n (q := 3) dX12_rowFor_2 rfl rfl ?_
  refine tt_aload_n (q := 4) dX12_rowFor_3 rfl rfl ?_
  refine tt_getR (q := 7) dX12_rowFor_4 fl_X12_13 or_102_1 (Nat.le_of_ble_eq_true rfl) rfl rfl ?_
  refine tt_iconst (q := 8) dX12_rowFor_7 ki_1 rfl ?_
  refine tt_iald (q := 9) dX12_rowFor_8 ia_104 (Nat.le_of_ble_eq_true rfl) rfl (Nat.le_of_ble_eq_true rfl : 1 < 197) rfl ?_
  refine tt_icmp_ge (q := 12) (t := 84) dX12_rowFor_9 rfl rfl (fun c => ?_) (fun c => ?_)
  · replace h := h.1 c
    refine tt_bipush (q := 86) dX12_rowFor_84 bi_m9 rfl ?_
    exact tt_iret dX12_rowFor_86 ⟨rfl, _, rfl, h⟩
  · replace h := h.2 c
    refine tt_aload_n (q := 13) dX12_rowFor_12 rfl rfl ?_
    refine tt_iload_n (q := 14) dX12_rowFor_13 rfl rfl ?_
    refine tt_iconst (q := 15) dX12_rowFor_14 ki_1 rfl ?_
    refine callVi_2 (q := 18) dX12_rowFor_15 (Or.inl ⟨rfl, rfl, ⟨⟨_, _, rfl, rfl, (Nat.le_of_ble_eq_true rfl), rc_102⟩, Nat.le_of_ble_eq_true rfl, ?_⟩⟩) (Nat.le_of_ble_eq_true rfl) rfl (fun t3 r2 ht3 => ht3)
    refine (show TT cX12_stepOf RX12 false CT0 CN0 _ _ _ none 0 [_, _, _] [] _ _ from ?_)
    refine tt_aload_n (q := 1) dX12_stepOf_0 rfl rfl ?_
    refine tt_getR (q := 4) dX12_stepOf_1 fl_X12_13 or_102_1 (Nat.le_of_ble_eq_true rfl) rfl rfl ?_
    refine tt_sipush (q := 7) dX12_stepOf_4 si_185 rfl ?_
    refine tt_iconst (q := 8) dX12_stepOf_7 ki_3 rfl ?_
    refine tt_iload_n (q := 9) dX12_stepOf_8 rfl rfl ?_
    refine tt_imulN (q := 10) dX12_stepOf_9 rfl ?_
    refine tt_iaddN (q := 11) dX12_stepOf_10 rfl ?_
    refine tt_iload_n (q := 12) dX12_stepOf_11 rfl rfl ?_
    refine tt_iaddN (q := 13) dX12_stepOf_12 rfl ?_
    obtain ⟨l4, h⟩ := h
    refine tt_iald (q := 14) dX12_stepOf_13 ia_104 (Nat.le_of_ble_eq_true rfl) rfl l4 rfl ?_
    refine tt_iret dX12_stepOf_14 ⟨rfl, _, rfl, ?_⟩
    refine tt_iload_n (q := 19) dX12_rowFor_18 rfl rfl ?_
    refine tt_ishr (q := 20) dX12_rowFor_19 rfl ?_
    refine tt_iconst (q := 21) dX12_rowFor_20 ki_1 rfl ?_
    refine tt_iand (q := 22) dX12_rowFor_21 rfl ?_
    refine tt_if_ne (q := 25) (t := 28) dX12_rowFor_22 rfl rfl (fun c => ?_) (fun c => ?_)
    · replace h := h.1 c
      refine tt_iconst (q := 29) dX12_rowFor_28 ki_0 rfl ?_
      refine sti_n_3 (q := 30) dX12_rowFor_29 rfl rfl rfl ?_
      refine tt_iload_n (q := 31) dX12_rowFor_30 rfl rfl ?_
      refine tt_bipush (q := 33) dX12_rowFor_31 bi_6 rfl ?_
      refine tt_icmp_ge (q := 36) (t := 54) dX12_rowFor_33 rfl rfl (fun c => absurd c (by decide)) (fun c => ?_)
      clear c
      refine tt_aload_n (q := 37) dX12_rowFor_36 rfl rfl ?_
      refine tt_getR (q := 40) dX12_rowFor_37 fl_X12_49 or_102_20 (Nat.le_of_ble_eq_true rfl) rfl rfl ?_
      refine tt_iload_n (q := 41) dX12_rowFor_40 rfl rfl ?_
      refine tt_aload_n (q := 42) dX12_rowFor_41 rfl rfl ?_
      refine tt_getR (q := 45) dX12_rowFor_42 fl_X12_46 or_102_19 (Nat.le_of_ble_eq_true rfl) rfl rfl ?_
      refine tt_iload_n (q := 46) dX12_rowFor_45 rfl rfl ?_
      refine tt_iald (q := 47) dX12_rowFor_46 ia_115 (Nat.le_of_ble_eq_true rfl) rfl (Nat.le_of_ble_eq_true rfl : 0 < 6) rfl ?_
      refine tt_iast (q := 48) dX12_rowFor_47 ia_116 (Nat.le_of_ble_eq_true rfl) rfl (Nat.le_of_ble_eq_true rfl : 0 < 6) rfl ?_
      replace h := h _ rfl
      refine inc_3 (v := nI 1) (q := 51) dX12_rowFor_48 (by decide) rfl rfl ?_
      refine tt_goto (t := 30) dX12_rowFor_51 rfl ?_
      refine tt_iload_n (q := 31) dX12_rowFor_30 rfl rfl ?_
      refine tt_bipush (q := 33) dX12_rowFor_31 bi_6 rfl ?_
      refine tt_icmp_ge (q := 36) (t := 54) dX12_rowFor_33 rfl rfl (fun c => absurd c (by decide)) (fun c => ?_)
      clear c
      refine tt_aload_n (q := 37) dX12_rowFor_36 rfl rfl ?_
      refine tt_getR (q := 40) dX12_rowFor_37 fl_X12_49 or_102_20 (Nat.le_of_ble_eq_true rfl) rfl rfl ?_
      refine tt_iload_n (q := 41) dX12_rowFor_40 rfl rfl ?_
      refine tt_aload_n (q := 42) dX12_rowFor_41 rfl rfl ?_
      refine tt_getR (q := 45) dX12_rowFor_42 fl_X12_46 or_102_19 (Nat.le_of_ble_eq_true rfl) rfl rfl ?_
      refine tt_iload_n (q := 46) dX12_rowFor_45 rfl rfl ?_
      refine tt_iald (q := 47) dX12_rowFor_46 ia_115 (Nat.le_of_ble_eq_true rfl) rfl (Nat.le_of_ble_eq_true rfl : 1 < 6) rfl ?_
      refine tt_iast (q := 48) dX12_rowFor_47 ia_116 (Nat.le_of_ble_eq_true rfl) rfl (Nat.le_of_ble_eq_true rfl : 1 < 6) rfl ?_
      replace h := h _ rfl
      refine inc_3 (v := nI 2) (q := 51) dX12_rowFor_48 (by decide) rfl rfl ?_
      refine tt_goto (t := 30) dX12_rowFor_51 rfl ?_
      refine tt_iload_n (q := 31) dX12_rowFor_30 rfl rfl ?_
      refine tt_bipush (q := 33) dX12_rowFor_31 bi_6 rfl ?_
      refine tt_icmp_ge (q := 36) (t := 54) dX12_rowFor_33 rfl rfl (fun c => absurd c (by decide)) (fun c => ?_)
      clear c
      refine tt_aload_n (q := 37) dX12_rowFor_36 rfl rfl ?_
      refine tt_getR (q := 40) dX12_rowFor_37 fl_X12_49 or_102_20 (Nat.le_of_ble_eq_true rfl) rfl rfl ?_
      refine tt_iload_n (q := 41) dX12_rowFor_40 rfl rfl ?_
      refine tt_aload_n (q := 42) dX12_rowFor_41 rfl rfl ?_
      refine tt_getR (q := 45) dX12_rowFor_42 fl_X12_46 or_102_19 (Nat.le_of_ble_eq_true rfl) rfl rfl ?_
      refine tt_iload_n (q := 46) dX12_rowFor_45 rfl rfl ?_
      refine tt_iald (q := 47) dX12_rowFor_46 ia_115 (Nat.le_of_ble_eq_true rfl) rfl (Nat.le_of_ble_eq_true rfl : 2 < 6) rfl ?_
      refine tt_iast (q := 48) dX12_rowFor_47 ia_116 (Nat.le_of_ble_eq_true rfl) rfl (Nat.le_of_ble_eq_true rfl : 2 < 6) rfl ?_
      replace h := h _ rfl
      refine inc_3 (v := nI 3) (q := 51) dX12_rowFor_48 (by decide) rfl rfl ?_
      refine tt_goto (t := 30) dX12_rowFor_51 rfl ?_
      refine tt_iload_n (q := 31) dX12_rowFor_30 rfl rfl ?_
      refine tt_bipush (q := 33) dX12_rowFor_31 bi_6 rfl ?_
      refine tt_icmp_ge (q := 36) (t := 54) dX12_rowFor_33 rfl rfl (fun c => absurd c (by decide)) (fun c => ?_)
      clear c
      refine tt_aload_n (q := 37) dX12_rowFor_36 rfl rfl ?_
      refine tt_getR (q := 40) dX12_rowFor_37 fl_X12_49 or_102_20 (Nat.le_of_ble_eq_true rfl) rfl rfl ?_
      refine tt_iload_n (q := 41) dX12_rowFor_40 rfl rfl ?_
      refine tt_aload_n (q := 42) dX12_rowFor_41 rfl rfl ?_
      refine tt_getR (q := 45) dX12_rowFor_42 fl_X12_46 or_102_19 (Nat.le_of_ble_eq_true rfl) rfl rfl ?_
      refine tt_iload_n (q := 46) dX12_rowFor_45 rfl rfl ?_
      refine tt_iald (q := 47) dX12_rowFor_46 ia_115 (Nat.le_of_ble_eq_true rfl) rfl (Nat.le_of_ble_eq_true rfl : 3 < 6) rfl ?_
      refine tt_iast (q := 48) dX12_rowFor_47 ia_116 (Nat.le_of_ble_eq_true rfl) rfl (Nat.le_of_ble_eq_true rfl : 3 < 6) rfl ?_
      replace h := h _ rfl
      refine inc_3 (v := nI 4) (q := 51) dX12_rowFor_48 (by decide) rfl rfl ?_
      refine tt_goto (t := 30) dX12_rowFor_51 rfl ?_
      refine tt_iload_n (q := 31) dX12_rowFor_30 rfl rfl ?_
      refine tt_bipush (q := 33) dX12_rowFor_31 bi_6 rfl ?_
      refine tt_icmp_ge (q := 36) (t := 54) dX12_rowFor_33 rfl rfl (fun c => absurd c (by decide)) (fun c => ?_)
      clear c
      refine tt_aload_n (q := 37) dX12_rowFor_36 rfl rfl ?_
      refine tt_getR (q := 40) dX12_rowFor_37 fl_X12_49 or_102_20 (Nat.le_of_ble_eq_true rfl) rfl rfl ?_
      refine tt_iload_n (q := 41) dX12_rowFor_40 rfl rfl ?_
      refine tt_aload_n (q := 42) dX12_rowFor_41 rfl rfl ?_
      refine tt_getR (q := 45) dX12_rowFor_42 fl_X12_46 or_102_19 (Nat.le_of_ble_eq_true rfl) rfl rfl ?_
      refine tt_iload_n (q := 46) dX12_rowFor_45 rfl rfl ?_
      refine tt_iald (q := 47) dX12_rowFor_46 ia_115 (Nat.le_of_ble_eq_true rfl) rfl (Nat.le_of_ble_eq_true rfl : 4 < 6) rfl ?_
      refine tt_iast (q := 48) dX12_rowFor_47 ia_116 (Nat.le_of_ble_eq_true rfl) rfl (Nat.le_of_ble_eq_true rfl : 4 < 6) rfl ?_
      replace h := h _ rfl
      refine inc_3 (v := nI 5) (q := 51) dX12_rowFor_48 (by decide) rfl rfl ?_
      refine tt_goto (t := 30) dX12_rowFor_51 rfl ?_
      refine tt_iload_n (q := 31) dX12_rowFor_30 rfl rfl ?_
      refine tt_bipush (q := 33) dX12_rowFor_31 bi_6 rfl ?_
      refine tt_icmp_ge (q := 36) (t := 54) dX12_rowFor_33 rfl rfl (fun c => absurd c (by decide)) (fun c => ?_)
      clear c
      refine tt_aload_n (q := 37) dX12_rowFor_36 rfl rfl ?_
      refine tt_getR (q := 40) dX12_rowFor_37 fl_X12_49 or_102_20 (Nat.le_of_ble_eq_true rfl) rfl rfl ?_
      refine tt_iload_n (q := 41) dX12_rowFor_40 rfl rfl ?_
      refine tt_aload_n (q := 42) dX12_rowFor_41 rfl rfl ?_
      refine tt_getR (q := 45) dX12_rowFor_42 fl_X12_46 or_102_19 (Nat.le_of_ble_eq_true rfl) rfl rfl ?_
      refine tt_iload_n (q := 46) dX12_rowFor_45 rfl rfl ?_
      refine tt_iald (q := 47) dX12_rowFor_46 ia_115 (Nat.le_of_ble_eq_true rfl) rfl (Nat.le_of_ble_eq_true rfl : 5 < 6) rfl ?_
      refine tt_iast (q := 48) dX12_rowFor_47 ia_116 (Nat.le_of_ble_eq_true rfl) rfl (Nat.le_of_ble_eq_true rfl : 5 < 6) rfl ?_
      replace h := h _ rfl
      refine inc_3 (v := nI 6) (q := 51) dX12_rowFor_48 (by decide) rfl rfl ?_
      refine tt_goto (t := 30) dX12_rowFor_51 rfl ?_
      refine tt_iload_n (q := 31) dX12_rowFor_30 rfl rfl ?_
      refine tt_bipush (q := 33) dX12_rowFor_31 bi_6 rfl ?_
      refine tt_icmp_ge (q := 36) (t := 54) dX12_rowFor_33 rfl rfl (fun c => ?_) (fun c => absurd c (by decide))
      clear c
      refine tt_aload_n (q := 55) dX12_rowFor_54 rfl rfl ?_
      refine tt_aload_n (q := 56) dX12_rowFor_55 rfl rfl ?_
      refine tt_getR (q := 59) dX12_rowFor_56 fl_X12_49 or_102_20 (Nat.le_of_ble_eq_true rfl) rfl rfl ?_
      refine tt_iconst (q := 60) dX12_rowFor_59 ki_0 rfl ?_
      refine tt_iload_n (q := 61) dX12_rowFor_60 rfl rfl ?_
      obtain ⟨p14, hp15, h⟩ := h
      refine callVv_3 (q := 64) dX12_rowFor_61 (Or.inr (Or.inl ⟨rfl, rfl, hp15⟩)) (Nat.le_of_ble_eq_true rfl) rfl (fun t13 hr16 => ?_)
      replace h := h t13 hr16
      refine tt_aload_n (q := 65) dX12_rowFor_64 rfl rfl ?_
      refine tt_aload_n (q := 66) dX12_rowFor_65 rfl rfl ?_
      refine tt_getR (q := 69) dX12_rowFor_66 fl_X12_49 or_102_20 (Nat.le_of_ble_eq_true rfl) rfl rfl ?_
      refine tt_iload_n (q := 70) dX12_rowFor_69 rfl rfl ?_
      obtain ⟨p19, hp20, h⟩ := h
      refine callVi_2 (q := 73) dX12_rowFor_70 (Or.inr (Or.inr (⟨rfl, rfl, hp20⟩))) (Nat.le_of_ble_eq_true rfl) rfl (fun t18 r17 hr21 => ?_)
      replace h := h t18 r17 hr21
      refine tt_if_eq (q := 76) (t := 78) dX12_rowFor_73 rfl rfl (fun c => ?_) (fun c => ?_)
      · replace h := h.1 c
        refine inc_2 (q := 81) dX12_rowFor_78 (nI_inc1 _) rfl rfl ?_
        refine tt_goto (t := 2) dX12_rowFor_81 rfl ?_
        refine tt_wk (L2 := [_, _, _, dum]) ⟨Or.inl rfl, Or.inl rfl, Or.inl rfl, Or.inr rfl, trivial⟩ ?_
        exact h
      · replace h := h.2 c
        refine tt_iload_n (q := 77) dX12_rowFor_76 rfl rfl ?_
        exact tt_iret dX12_rowFor_77 ⟨rfl, _, rfl, h⟩
    · replace h := h.2 c
      refine tt_goto (t := 78) dX12_rowFor_25 rfl ?_
      refine inc_2 (q := 81) dX12_rowFor_78 (nI_inc1 _) rfl rfl ?_
      refine tt_goto (t := 2) dX12_rowFor_81 rfl ?_
      exact h

theorem g_X12_goesOn_0 {post : SG → Int32 → Prop} {σ : SG} (h : (∀ s1 : SG, s1 = up σ 102 22 (-9 : Int32) → (∀ s2 : SG, s2 = up s1 117 0 (-9 : Int32) → (∀ s3 : SG, s3 = up s2 117 1 (-9 : Int32) → (∀ s4 : SG, s4 = up s3 117 2 (-9 : Int32) → (∀ s5 : SG, s5 = up s4 117 3 (-9 : Int32) → T_X12_goesOn AF post 29 [.ref 102, .int (nI 0)] [] s5)))))) : T_X12_goesOn AF post 0 [.ref 102, dum] [] σ := by
  refine tt_aload_n (q := 1) dX12_goesOn_0 rfl rfl ?_
  refine tt_bipush (q := 3) dX12_goesOn_1 bi_m9 rfl ?_
  refine tt_putI (q := 6) dX12_goesOn_3 fl_X12_178 oi_102_22 (fp_12_22 _) (Nat.le_of_ble_eq_true rfl) rfl ?_
  replace h := h _ rfl
  refine tt_iconst (q := 7) dX12_goesOn_6 ki_0 rfl ?_
  refine sti_n_1 (q := 8) dX12_goesOn_7 rfl rfl rfl ?_
  refine tt_iload_n (q := 9) dX12_goesOn_8 rfl rfl ?_
  refine tt_iconst (q := 10) dX12_goesOn_9 ki_4 rfl ?_
  refine tt_icmp_ge (q := 13) (t := 27) dX12_goesOn_10 rfl rfl (fun c => absurd c (by decide)) (fun c => ?_)
  clear c
  refine tt_aload_n (q := 14) dX12_goesOn_13 rfl rfl ?_
  refine tt_getR (q := 17) dX12_goesOn_14 fl_X12_52 or_102_21 (Nat.le_of_ble_eq_true rfl) rfl rfl ?_
  refine tt_iload_n (q := 18) dX12_goesOn_17 rfl rfl ?_
  refine tt_bipush (q := 20) dX12_goesOn_18 bi_m9 rfl ?_
  refine tt_iast (q := 21) dX12_goesOn_20 ia_117 (Nat.le_of_ble_eq_true rfl) rfl (Nat.le_of_ble_eq_true rfl : 0 < 4) rfl ?_
  replace h := h _ rfl
  refine inc_1 (v := nI 1) (q := 24) dX12_goesOn_21 (by decide) rfl rfl ?_
  refine tt_goto (t := 8) dX12_goesOn_24 rfl ?_
  refine tt_iload_n (q := 9) dX12_goesOn_8 rfl rfl ?_
  refine tt_iconst (q := 10) dX12_goesOn_9 ki_4 rfl ?_
  refine tt_icmp_ge (q := 13) (t := 27) dX12_goesOn_10 rfl rfl (fun c => absurd c (by decide)) (fun c => ?_)
  clear c
  refine tt_aload_n (q := 14) dX12_goesOn_13 rfl rfl ?_
  refine tt_getR (q := 17) dX12_goesOn_14 fl_X12_52 or_102_21 (Nat.le_of_ble_eq_true rfl) rfl rfl ?_
  refine tt_iload_n (q := 18) dX12_goesOn_17 rfl rfl ?_
  refine tt_bipush (q := 20) dX12_goesOn_18 bi_m9 rfl ?_
  refine tt_iast (q := 21) dX12_goesOn_20 ia_117 (Nat.le_of_ble_eq_true rfl) rfl (Nat.le_of_ble_eq_true rfl : 1 < 4) rfl ?_
  replace h := h _ rfl
  refine inc_1 (v := nI 2) (q := 24) dX12_goesOn_21 (by decide) rfl rfl ?_
  refine tt_goto (t := 8) dX12_goesOn_24 rfl ?_
  refine tt_iload_n (q := 9) dX12_goesOn_8 rfl rfl ?_
  refine tt_iconst (q := 10) dX12_goesOn_9 ki_4 rfl ?_
  refine tt_icmp_ge (q := 13) (t := 27) dX12_goesOn_10 rfl rfl (fun c => absurd c (by decide)) (fun c => ?_)
  clear c
  refine tt_aload_n (q := 14) dX12_goesOn_13 rfl rfl ?_
  refine tt_getR (q := 17) dX12_goesOn_14 fl_X12_52 or_102_21 (Nat.le_of_ble_eq_true rfl) rfl rfl ?_
  refine tt_iload_n (q := 18) dX12_goesOn_17 rfl rfl ?_
  refine tt_bipush (q := 20) dX12_goesOn_18 bi_m9 rfl ?_
  refine tt_iast (q := 21) dX12_goesOn_20 ia_117 (Nat.le_of_ble_eq_true rfl) rfl (Nat.le_of_ble_eq_true rfl : 2 < 4) rfl ?_
  replace h := h _ rfl
  refine inc_1 (v := nI 3) (q := 24) dX12_goesOn_21 (by decide) rfl rfl ?_
  refine tt_goto (t := 8) dX12_goesOn_24 rfl ?_
  refine tt_iload_n (q := 9) dX12_goesOn_8 rfl rfl ?_
  refine tt_iconst (q := 10) dX12_goesOn_9 ki_4 rfl ?_
  refine tt_icmp_ge (q := 13) (t := 27) dX12_goesOn_10 rfl rfl (fun c => absurd c (by decide)) (fun c => ?_)
  clear c
  refine tt_aload_n (q := 14) dX12_goesOn_13 rfl rfl ?_
  refine tt_getR (q := 17) dX12_goesOn_14 fl_X12_52 or_102_21 (Nat.le_of_ble_eq_true rfl) rfl rfl ?_
  refine tt_iload_n (q := 18) dX12_goesOn_17 rfl rfl ?_
  refine tt_bipush (q := 20) dX12_goesOn_18 bi_m9 rfl ?_
  refine tt_iast (q := 21) dX12_goesOn_20 ia_117 (Nat.le_of_ble_eq_true rfl) rfl (Nat.le_of_ble_eq_true rfl : 3 < 4) rfl ?_
  replace h := h _ rfl
  refine inc_1 (v := nI 4) (q := 24) dX12_goesOn_21 (by decide) rfl rfl ?_
  refine tt_goto (t := 8) dX12_goesOn_24 rfl ?_
  refine tt_iload_n (q := 9) dX12_goesOn_8 rfl rfl ?_
  refine tt_iconst (q := 10) dX12_goesOn_9 ki_4 rfl ?_
  refine tt_icmp_ge (q := 13) (t := 27) dX12_goesOn_10 rfl rfl (fun c => ?_) (fun c => absurd c (by decide))
  clear c
  refine tt_iconst (q := 28) dX12_goesOn_27 ki_0 rfl ?_
  refine sti_n_1 (q := 29) dX12_goesOn_28 rfl rfl rfl ?_
  exact h
theorem g_X12_goesOn_29 {post : SG → Int32 → Prop} {σ : SG} {k : Nat} (h : (((σ 104 2) ≤ (nI k) → post σ 0) ∧ (¬ (σ 104 2) ≤ (nI k) → ((0 ≤ (σ 102 22) → post σ 0) ∧ (¬ 0 ≤ (σ 102 22) → (∃ p5 : SG → Int32 → Prop, IN_X12_isDone AF σ [.ref 102, .ref 115, .int (nI k)] p5 ∧ ∀ (t4 : SG) (r3 : Int32), p5 t4 r3 → ((r3 = 0 → (∃ p11 : SG → Int32 → Prop, IN_X12_rowFor AF t4 [.ref 102, .int (nI k)] p11 ∧ ∀ (t10 : SG) (r9 : Int32), p11 t10 r9 → (k < 4 ∧ (∀ s15 : SG, s15 = up t10 117 k r9 → (k < 4 ∧ ((0 ≤ (s15 117 k) → (k < 4 ∧ (∃ p21 : SG → Int32 → Prop, IN_X12_makesRow AF s15 [.ref 102, .ref 115, .int (nI 0), .int (s15 117 k)] p21 ∧ ∀ t20 : SG, p21 t20 0 → T_X12_goesOn AF post 29 [.ref 102, .int (nI (k + 1))] [] t20))) ∧ (¬ 0 ≤ (s15 117 k) → (∀ s24 : SG, s24 = up s15 102 22 (nI k) → T_X12_goesOn AF post 29 [.ref 102, .int (nI (k + 1))] [] s24)))))))) ∧ (¬ r3 = 0 → T_X12_goesOn AF post 29 [.ref 102, .int (nI (k + 1))] [] t4)))))))) : T_X12_goesOn AF post 29 [.ref 102, .int (nI k)] [] σ := by
  refine tt_iload_n (q := 30) dX12_goesOn_29 rfl rfl ?_
  refine tt_aload_n (q := 31) dX12_goesOn_30 rfl rfl ?_
  refine tt_getR (q := 34) dX12_goesOn_31 fl_X12_13 or_102_1 (Nat.le_of_ble_eq_true rfl) rfl rfl ?_
  refine tt_iconst (q := 35) dX12_goesOn_34 ki_2 rfl ?_
  refine tt_iald (q := 36) dX12_goesOn_35 ia_104 (Nat.le_of_ble_eq_true rfl) rfl (Nat.le_of_ble_eq_true rfl : 2 < 197) rfl ?_
  refine tt_icmp_ge (q := 39) (t := 110) dX12_goesOn_36 rfl rfl (fun c => ?_) (fun c => ?_)
  · replace h := h.1 c
    exact tt_vret dX12_goesOn_110 ⟨rfl, rfl, h⟩
  · replace h := h.2 c
    refine tt_aload_n (q := 40) dX12_goesOn_39 rfl rfl ?_
    refine tt_getI (q := 43) dX12_goesOn_40 fl_X12_178 oi_102_22 (Nat.le_of_ble_eq_true rfl) rfl ?_
    refine tt_if_ge (q := 46) (t := 110) dX12_goesOn_43 rfl rfl (fun c => ?_) (fun c => ?_)
    · replace h := h.1 c
      exact tt_vret dX12_goesOn_110 ⟨rfl, rfl, h⟩
    · replace h := h.2 c
      refine tt_aload_n (q := 47) dX12_goesOn_46 rfl rfl ?_
      refine tt_aload_n (q := 48) dX12_goesOn_47 rfl rfl ?_
      refine tt_getR (q := 51) dX12_goesOn_48 fl_X12_46 or_102_19 (Nat.le_of_ble_eq_true rfl) rfl rfl ?_
      refine tt_iload_n (q := 52) dX12_goesOn_51 rfl rfl ?_
      obtain ⟨p5, hp6, h⟩ := h
      refine callVi_2 (q := 55) dX12_goesOn_52 (Or.inl ⟨rfl, rfl, hp6⟩) (Nat.le_of_ble_eq_true rfl) rfl (fun t4 r3 hr7 => ?_)
      replace h := h t4 r3 hr7
      refine tt_if_eq (q := 58) (t := 61) dX12_goesOn_55 rfl rfl (fun c => ?_) (fun c => ?_)
      · replace h := h.1 c
        refine tt_aload_n (q := 62) dX12_goesOn_61 rfl rfl ?_
        refine tt_getR (q := 65) dX12_goesOn_62 fl_X12_52 or_102_21 (Nat.le_of_ble_eq_true rfl) rfl rfl ?_
        refine tt_iload_n (q := 66) dX12_goesOn_65 rfl rfl ?_
        refine tt_aload_n (q := 67) dX12_goesOn_66 rfl rfl ?_
        refine tt_iload_n (q := 68) dX12_goesOn_67 rfl rfl ?_
        obtain ⟨p11, hp12, h⟩ := h
        refine callVi_1 (q := 71) dX12_goesOn_68 (Or.inr (Or.inl ⟨rfl, rfl, hp12⟩)) (Nat.le_of_ble_eq_true rfl) rfl (fun t10 r9 hr13 => ?_)
        replace h := h t10 r9 hr13
        obtain ⟨l14, h⟩ := h
        refine tt_iast (q := 72) dX12_goesOn_71 ia_117 (Nat.le_of_ble_eq_true rfl) rfl l14 rfl ?_
        replace h := h _ rfl
        refine tt_aload_n (q := 73) dX12_goesOn_72 rfl rfl ?_
        refine tt_getR (q := 76) dX12_goesOn_73 fl_X12_52 or_102_21 (Nat.le_of_ble_eq_true rfl) rfl rfl ?_
        refine tt_iload_n (q := 77) dX12_goesOn_76 rfl rfl ?_
        obtain ⟨l16, h⟩ := h
        refine tt_iald (q := 78) dX12_goesOn_77 ia_117 (Nat.le_of_ble_eq_true rfl) rfl l16 rfl ?_
        refine tt_if_ge (q := 81) (t := 89) dX12_goesOn_78 rfl rfl (fun c => ?_) (fun c => ?_)
        · replace h := h.1 c
          refine tt_aload_n (q := 90) dX12_goesOn_89 rfl rfl ?_
          refine tt_aload_n (q := 91) dX12_goesOn_90 rfl rfl ?_
          refine tt_getR (q := 94) dX12_goesOn_91 fl_X12_46 or_102_19 (Nat.le_of_ble_eq_true rfl) rfl rfl ?_
          refine tt_iconst (q := 95) dX12_goesOn_94 ki_0 rfl ?_
          refine tt_aload_n (q := 96) dX12_goesOn_95 rfl rfl ?_
          refine tt_getR (q := 99) dX12_goesOn_96 fl_X12_52 or_102_21 (Nat.le_of_ble_eq_true rfl) rfl rfl ?_
          refine tt_iload_n (q := 100) dX12_goesOn_99 rfl rfl ?_
          obtain ⟨l18, h⟩ := h
          refine tt_iald (q := 101) dX12_goesOn_100 ia_117 (Nat.le_of_ble_eq_true rfl) rfl l18 rfl ?_
          obtain ⟨p21, hp22, h⟩ := h
          refine callVv_3 (q := 104) dX12_goesOn_101 (Or.inr (Or.inr (⟨rfl, rfl, hp22⟩))) (Nat.le_of_ble_eq_true rfl) rfl (fun t20 hr23 => ?_)
          replace h := h t20 hr23
          refine inc_1 (q := 107) dX12_goesOn_104 (nI_inc1 _) rfl rfl ?_
          refine tt_goto (t := 29) dX12_goesOn_107 rfl ?_
          exact h
        · replace h := h.2 c
          refine tt_aload_n (q := 82) dX12_goesOn_81 rfl rfl ?_
          refine tt_iload_n (q := 83) dX12_goesOn_82 rfl rfl ?_
          refine tt_putI (q := 86) dX12_goesOn_83 fl_X12_178 oi_102_22 (fp_12_22 _) (Nat.le_of_ble_eq_true rfl) rfl ?_
          replace h := h _ rfl
          refine tt_goto (t := 104) dX12_goesOn_86 rfl ?_
          refine inc_1 (q := 107) dX12_goesOn_104 (nI_inc1 _) rfl rfl ?_
          refine tt_goto (t := 29) dX12_goesOn_107 rfl ?_
          exact h
      · replace h := h.2 c
        refine tt_goto (t := 104) dX12_goesOn_58 rfl ?_
        refine inc_1 (q := 107) dX12_goesOn_104 (nI_inc1 _) rfl rfl ?_
        refine tt_goto (t := 29) dX12_goesOn_107 rfl ?_
        exact h

theorem g_X12_tried_0 {post : SG → Int32 → Prop} {σ : SG} (h : (∀ s3 : SG, s3 = up σ 115 0 (σ 104 5) → (∀ s4 : SG, s4 = up s3 115 1 (s3 104 6) → (∀ s5 : SG, s5 = up s4 115 2 (s4 104 7) → (∀ s6 : SG, s6 = up s5 115 3 (s5 104 8) → (∀ s7 : SG, s7 = up s6 115 4 (s6 104 9) → (∀ s8 : SG, s8 = up s7 115 5 (s7 104 10) → (∃ p11 : SG → Int32 → Prop, IN_X12_goesOn AF s8 [.ref 102] p11 ∧ ∀ t10 : SG, p11 t10 0 → post t10 (t10 102 22))))))))) : T_X12_tried AF post 0 [.ref 102] [] σ := by
  refine tt_aload_n (q := 1) dX12_tried_0 rfl rfl ?_
  refine callVvI_0 (q := 4) dX12_tried_1 (⟨rfl, rfl, ⟨⟨_, _, rfl, rfl, (Nat.le_of_ble_eq_true rfl), rc_102⟩, Nat.le_of_ble_eq_true rfl, ?_⟩⟩) (Nat.le_of_ble_eq_true rfl) rfl (fun t2 ht2 => ht2)
  refine (show TT cX12_triesNow RX12 false CT_X12_triesNow CN0 _ _ _ none 0 [_, dum] [] _ _ from ?_)
  refine tt_iconst (q := 1) dX12_triesNow_0 ki_0 rfl ?_
  refine sti_n_1 (q := 2) dX12_triesNow_1 rfl rfl rfl ?_
  refine tt_iload_n (q := 3) dX12_triesNow_2 rfl rfl ?_
  refine tt_bipush (q := 5) dX12_triesNow_3 bi_6 rfl ?_
  refine tt_icmp_ge (q := 8) (t := 28) dX12_triesNow_5 rfl rfl (fun c => absurd c (by decide)) (fun c => ?_)
  clear c
  refine tt_aload_n (q := 9) dX12_triesNow_8 rfl rfl ?_
  refine tt_getR (q := 12) dX12_triesNow_9 fl_X12_46 or_102_19 (Nat.le_of_ble_eq_true rfl) rfl rfl ?_
  refine tt_iload_n (q := 13) dX12_triesNow_12 rfl rfl ?_
  refine tt_aload_n (q := 14) dX12_triesNow_13 rfl rfl ?_
  refine tt_getR (q := 17) dX12_triesNow_14 fl_X12_13 or_102_1 (Nat.le_of_ble_eq_true rfl) rfl rfl ?_
  refine tt_iconst (q := 18) dX12_triesNow_17 ki_5 rfl ?_
  refine tt_iload_n (q := 19) dX12_triesNow_18 rfl rfl ?_
  refine tt_iaddE (v := nI 5) (q := 20) dX12_triesNow_19 (by decide) rfl ?_
  refine tt_iald (q := 21) dX12_triesNow_20 ia_104 (Nat.le_of_ble_eq_true rfl) rfl (Nat.le_of_ble_eq_true rfl : 5 < 197) rfl ?_
  refine tt_iast (q := 22) dX12_triesNow_21 ia_115 (Nat.le_of_ble_eq_true rfl) rfl (Nat.le_of_ble_eq_true rfl : 0 < 6) rfl ?_
  replace h := h _ rfl
  refine inc_1 (v := nI 1) (q := 25) dX12_triesNow_22 (by decide) rfl rfl ?_
  refine tt_goto (t := 2) dX12_triesNow_25 rfl ?_
  refine tt_iload_n (q := 3) dX12_triesNow_2 rfl rfl ?_
  refine tt_bipush (q := 5) dX12_triesNow_3 bi_6 rfl ?_
  refine tt_icmp_ge (q := 8) (t := 28) dX12_triesNow_5 rfl rfl (fun c => absurd c (by decide)) (fun c => ?_)
  clear c
  refine tt_aload_n (q := 9) dX12_triesNow_8 rfl rfl ?_
  refine tt_getR (q := 12) dX12_triesNow_9 fl_X12_46 or_102_19 (Nat.le_of_ble_eq_true rfl) rfl rfl ?_
  refine tt_iload_n (q := 13) dX12_triesNow_12 rfl rfl ?_
  refine tt_aload_n (q := 14) dX12_triesNow_13 rfl rfl ?_
  refine tt_getR (q := 17) dX12_triesNow_14 fl_X12_13 or_102_1 (Nat.le_of_ble_eq_true rfl) rfl rfl ?_
  refine tt_iconst (q := 18) dX12_triesNow_17 ki_5 rfl ?_
  refine tt_iload_n (q := 19) dX12_triesNow_18 rfl rfl ?_
  refine tt_iaddE (v := nI 6) (q := 20) dX12_triesNow_19 (by decide) rfl ?_
  refine tt_iald (q := 21) dX12_triesNow_20 ia_104 (Nat.le_of_ble_eq_true rfl) rfl (Nat.le_of_ble_eq_true rfl : 6 < 197) rfl ?_
  refine tt_iast (q := 22) dX12_triesNow_21 ia_115 (Nat.le_of_ble_eq_true rfl) rfl (Nat.le_of_ble_eq_true rfl : 1 < 6) rfl ?_
  replace h := h _ rfl
  refine inc_1 (v := nI 2) (q := 25) dX12_triesNow_22 (by decide) rfl rfl ?_
  refine tt_goto (t := 2) dX12_triesNow_25 rfl ?_
  refine tt_iload_n (q := 3) dX12_triesNow_2 rfl rfl ?_
  refine tt_bipush (q := 5) dX12_triesNow_3 bi_6 rfl ?_
  refine tt_icmp_ge (q := 8) (t := 28) dX12_triesNow_5 rfl rfl (fun c => absurd c (by decide)) (fun c => ?_)
  clear c
  refine tt_aload_n (q := 9) dX12_triesNow_8 rfl rfl ?_
  refine tt_getR (q := 12) dX12_triesNow_9 fl_X12_46 or_102_19 (Nat.le_of_ble_eq_true rfl) rfl rfl ?_
  refine tt_iload_n (q := 13) dX12_triesNow_12 rfl rfl ?_
  refine tt_aload_n (q := 14) dX12_triesNow_13 rfl rfl ?_
  refine tt_getR (q := 17) dX12_triesNow_14 fl_X12_13 or_102_1 (Nat.le_of_ble_eq_true rfl) rfl rfl ?_
  refine tt_iconst (q := 18) dX12_triesNow_17 ki_5 rfl ?_
  refine tt_iload_n (q := 19) dX12_triesNow_18 rfl rfl ?_
  refine tt_iaddE (v := nI 7) (q := 20) dX12_triesNow_19 (by decide) rfl ?_
  refine tt_iald (q := 21) dX12_triesNow_20 ia_104 (Nat.le_of_ble_eq_true rfl) rfl (Nat.le_of_ble_eq_true rfl : 7 < 197) rfl ?_
  refine tt_iast (q := 22) dX12_triesNow_21 ia_115 (Nat.le_of_ble_eq_true rfl) rfl (Nat.le_of_ble_eq_true rfl : 2 < 6) rfl ?_
  replace h := h _ rfl
  refine inc_1 (v := nI 3) (q := 25) dX12_triesNow_22 (by decide) rfl rfl ?_
  refine tt_goto (t := 2) dX12_triesNow_25 rfl ?_
  refine tt_iload_n (q := 3) dX12_triesNow_2 rfl rfl ?_
  refine tt_bipush (q := 5) dX12_triesNow_3 bi_6 rfl ?_
  refine tt_icmp_ge (q := 8) (t := 28) dX12_triesNow_5 rfl rfl (fun c => absurd c (by decide)) (fun c => ?_)
  clear c
  refine tt_aload_n (q := 9) dX12_triesNow_8 rfl rfl ?_
  refine tt_getR (q := 12) dX12_triesNow_9 fl_X12_46 or_102_19 (Nat.le_of_ble_eq_true rfl) rfl rfl ?_
  refine tt_iload_n (q := 13) dX12_triesNow_12 rfl rfl ?_
  refine tt_aload_n (q := 14) dX12_triesNow_13 rfl rfl ?_
  refine tt_getR (q := 17) dX12_triesNow_14 fl_X12_13 or_102_1 (Nat.le_of_ble_eq_true rfl) rfl rfl ?_
  refine tt_iconst (q := 18) dX12_triesNow_17 ki_5 rfl ?_
  refine tt_iload_n (q := 19) dX12_triesNow_18 rfl rfl ?_
  refine tt_iaddE (v := nI 8) (q := 20) dX12_triesNow_19 (by decide) rfl ?_
  refine tt_iald (q := 21) dX12_triesNow_20 ia_104 (Nat.le_of_ble_eq_true rfl) rfl (Nat.le_of_ble_eq_true rfl : 8 < 197) rfl ?_
  refine tt_iast (q := 22) dX12_triesNow_21 ia_115 (Nat.le_of_ble_eq_true rfl) rfl (Nat.le_of_ble_eq_true rfl : 3 < 6) rfl ?_
  replace h := h _ rfl
  refine inc_1 (v := nI 4) (q := 25) dX12_triesNow_22 (by decide) rfl rfl ?_
  refine tt_goto (t := 2) dX12_triesNow_25 rfl ?_
  refine tt_iload_n (q := 3) dX12_triesNow_2 rfl rfl ?_
  refine tt_bipush (q := 5) dX12_triesNow_3 bi_6 rfl ?_
  refine tt_icmp_ge (q := 8) (t := 28) dX12_triesNow_5 rfl rfl (fun c => absurd c (by decide)) (fun c => ?_)
  clear c
  refine tt_aload_n (q := 9) dX12_triesNow_8 rfl rfl ?_
  refine tt_getR (q := 12) dX12_triesNow_9 fl_X12_46 or_102_19 (Nat.le_of_ble_eq_true rfl) rfl rfl ?_
  refine tt_iload_n (q := 13) dX12_triesNow_12 rfl rfl ?_
  refine tt_aload_n (q := 14) dX12_triesNow_13 rfl rfl ?_
  refine tt_getR (q := 17) dX12_triesNow_14 fl_X12_13 or_102_1 (Nat.le_of_ble_eq_true rfl) rfl rfl ?_
  refine tt_iconst (q := 18) dX12_triesNow_17 ki_5 rfl ?_
  refine tt_iload_n (q := 19) dX12_triesNow_18 rfl rfl ?_
  refine tt_iaddE (v := nI 9) (q := 20) dX12_triesNow_19 (by decide) rfl ?_
  refine tt_iald (q := 21) dX12_triesNow_20 ia_104 (Nat.le_of_ble_eq_true rfl) rfl (Nat.le_of_ble_eq_true rfl : 9 < 197) rfl ?_
  refine tt_iast (q := 22) dX12_triesNow_21 ia_115 (Nat.le_of_ble_eq_true rfl) rfl (Nat.le_of_ble_eq_true rfl : 4 < 6) rfl ?_
  replace h := h _ rfl
  refine inc_1 (v := nI 5) (q := 25) dX12_triesNow_22 (by decide) rfl rfl ?_
  refine tt_goto (t := 2) dX12_triesNow_25 rfl ?_
  refine tt_iload_n (q := 3) dX12_triesNow_2 rfl rfl ?_
  refine tt_bipush (q := 5) dX12_triesNow_3 bi_6 rfl ?_
  refine tt_icmp_ge (q := 8) (t := 28) dX12_triesNow_5 rfl rfl (fun c => absurd c (by decide)) (fun c => ?_)
  clear c
  refine tt_aload_n (q := 9) dX12_triesNow_8 rfl rfl ?_
  refine tt_getR (q := 12) dX12_triesNow_9 fl_X12_46 or_102_19 (Nat.le_of_ble_eq_true rfl) rfl rfl ?_
  refine tt_iload_n (q := 13) dX12_triesNow_12 rfl rfl ?_
  refine tt_aload_n (q := 14) dX12_triesNow_13 rfl rfl ?_
  refine tt_getR (q := 17) dX12_triesNow_14 fl_X12_13 or_102_1 (Nat.le_of_ble_eq_true rfl) rfl rfl ?_
  refine tt_iconst (q := 18) dX12_triesNow_17 ki_5 rfl ?_
  refine tt_iload_n (q := 19) dX12_triesNow_18 rfl rfl ?_
  refine tt_iaddE (v := nI 10) (q := 20) dX12_triesNow_19 (by decide) rfl ?_
  refine tt_iald (q := 21) dX12_triesNow_20 ia_104 (Nat.le_of_ble_eq_true rfl) rfl (Nat.le_of_ble_eq_true rfl : 10 < 197) rfl ?_
  refine tt_iast (q := 22) dX12_triesNow_21 ia_115 (Nat.le_of_ble_eq_true rfl) rfl (Nat.le_of_ble_eq_true rfl : 5 < 6) rfl ?_
  replace h := h _ rfl
  refine inc_1 (v := nI 6) (q := 25) dX12_triesNow_22 (by decide) rfl rfl ?_
  refine tt_goto (t := 2) dX12_triesNow_25 rfl ?_
  refine tt_iload_n (q := 3) dX12_triesNow_2 rfl rfl ?_
  refine tt_bipush (q := 5) dX12_triesNow_3 bi_6 rfl ?_
  refine tt_icmp_ge (q := 8) (t := 28) dX12_triesNow_5 rfl rfl (fun c => ?_) (fun c => absurd c (by decide))
  clear c
  refine tt_aload_n (q := 29) dX12_triesNow_28 rfl rfl ?_
  obtain ⟨p11, hp12, h⟩ := h
  refine callVv_0 (q := 32) dX12_triesNow_29 (⟨rfl, rfl, hp12⟩) (Nat.le_of_ble_eq_true rfl) rfl (fun t10 hr13 => ?_)
  replace h := h t10 hr13
  refine tt_vret dX12_triesNow_32 ⟨rfl, rfl, ?_⟩
  refine tt_aload_n (q := 5) dX12_tried_4 rfl rfl ?_
  refine tt_getI (q := 8) dX12_tried_5 fl_X12_178 oi_102_22 (Nat.le_of_ble_eq_true rfl) rfl ?_
  exact tt_iret dX12_tried_8 ⟨rfl, _, rfl, h⟩

theorem g_X12_triedRow_0 {post : SG → Int32 → Prop} {σ : SG} {a : Int32} (h : ((a < 0 → (∀ s8 : SG, s8 = up σ 103 1 ((σ 103 1) + (nI 1)) → post s8 (-1 : Int32))) ∧ (¬ a < 0 → (((σ 104 2) ≤ a → (∀ s12 : SG, s12 = up σ 103 1 ((σ 103 1) + (nI 1)) → post s12 (-1 : Int32))) ∧ (¬ (σ 104 2) ≤ a → (∀ s15 : SG, s15 = up σ 115 0 (σ 104 5) → (∀ s16 : SG, s16 = up s15 115 1 (s15 104 6) → (∀ s17 : SG, s17 = up s16 115 2 (s16 104 7) → (∀ s18 : SG, s18 = up s17 115 3 (s17 104 8) → (∀ s19 : SG, s19 = up s18 115 4 (s18 104 9) → (∀ s20 : SG, s20 = up s19 115 5 (s19 104 10) → (∃ p23 : SG → Int32 → Prop, IN_X12_goesOn AF s20 [.ref 102] p23 ∧ ∀ t22 : SG, p23 t22 0 → (∃ j27 : Nat, a = nI j27 ∧ j27 < 4 ∧ post t22 (t22 117 j27)))))))))))))) : T_X12_triedRow AF post 0 [.ref 102, .int a] [] σ := by
  refine tt_aload_n (q := 1) dX12_triedRow_0 rfl rfl ?_
  refine tt_iload_n (q := 2) dX12_triedRow_1 rfl rfl ?_
  refine callVi_1 (q := 5) dX12_triedRow_2 (Or.inl ⟨rfl, rfl, ⟨⟨_, _, rfl, rfl, (Nat.le_of_ble_eq_true rfl), rc_102⟩, Nat.le_of_ble_eq_true rfl, ?_⟩⟩) (Nat.le_of_ble_eq_true rfl) rfl (fun t2 r1 ht2 => ht2)
  refine (show TT cX12_isStep RX12 false CT_X12_isStep CN0 _ _ _ none 0 [_, _] [] _ _ from ?_)
  refine tt_iload_n (q := 1) dX12_isStep_0 rfl rfl ?_
  refine tt_aload_n (q := 2) dX12_isStep_1 rfl rfl ?_
  refine tt_getR (q := 5) dX12_isStep_2 fl_X12_13 or_102_1 (Nat.le_of_ble_eq_true rfl) rfl rfl ?_
  refine tt_iconst (q := 6) dX12_isStep_5 ki_2 rfl ?_
  refine tt_iald (q := 7) dX12_isStep_6 ia_104 (Nat.le_of_ble_eq_true rfl) rfl (Nat.le_of_ble_eq_true rfl : 2 < 197) rfl ?_
  refine callSi_2 (q := 10) dX12_isStep_7 (⟨rfl, rfl, ⟨rfl, Nat.le_of_ble_eq_true rfl, ?_⟩⟩) (Nat.le_of_ble_eq_true rfl) rfl (fun t4 r3 ht4 => ht4)
  refine (show TT cX12_isIn RX12 false CT0 CN0 _ _ _ none 0 [_, _] [] _ _ from ?_)
  refine tt_iload_n (q := 1) dX12_isIn_0 rfl rfl ?_
  refine tt_if_lt (q := 4) (t := 13) dX12_isIn_1 rfl rfl (fun c => ?_) (fun c => ?_)
  · replace h := h.1 c
    refine tt_iconst (q := 14) dX12_isIn_13 ki_0 rfl ?_
    refine tt_iret dX12_isIn_14 ⟨rfl, _, rfl, Or.inl nI_0, ?_⟩
    refine tt_iret dX12_isStep_10 ⟨rfl, _, rfl, Or.inl nI_0, ?_⟩
    refine tt_if_ne (q := 8) (t := 14) dX12_triedRow_5 rfl rfl (fun c => absurd c (by decide)) (fun c => ?_)
    clear c
    refine tt_aload_n (q := 9) dX12_triedRow_8 rfl rfl ?_
    refine tt_iconst (q := 10) dX12_triedRow_9 ki_m1 rfl ?_
    refine callVi_1 (q := 13) dX12_triedRow_10 (Or.inr (Or.inl ⟨rfl, rfl, ⟨⟨_, _, rfl, rfl, (Nat.le_of_ble_eq_true rfl), rc_102⟩, Nat.le_of_ble_eq_true rfl, ?_⟩⟩)) (Nat.le_of_ble_eq_true rfl) rfl (fun t7 r6 ht7 => ht7)
    refine (show TT cX12_refuse RX12 false CT0 CN0 _ _ _ none 0 [_, _] [] _ _ from ?_)
    refine tt_aload_n (q := 1) dX12_refuse_0 rfl rfl ?_
    refine tt_getR (q := 4) dX12_refuse_1 fl_X12_7 or_102_0 (Nat.le_of_ble_eq_true rfl) rfl rfl ?_
    refine tt_iload_n (q := 5) dX12_refuse_4 rfl rfl ?_
    refine tt_inegE (v := nI 1) (q := 6) dX12_refuse_5 (by decide) rfl ?_
    refine tt_dup2 (q := 7) dX12_refuse_6 rfl rfl rfl ?_
    refine tt_iald (q := 8) dX12_refuse_7 ia_103 (Nat.le_of_ble_eq_true rfl) rfl (Nat.le_of_ble_eq_true rfl : 1 < 7) rfl ?_
    refine tt_iconst (q := 9) dX12_refuse_8 ki_1 rfl ?_
    refine tt_iadd (q := 10) dX12_refuse_9 rfl ?_
    refine tt_iast (q := 11) dX12_refuse_10 ia_103 (Nat.le_of_ble_eq_true rfl) rfl (Nat.le_of_ble_eq_true rfl : 1 < 7) rfl ?_
    replace h := h _ rfl
    refine tt_iload_n (q := 12) dX12_refuse_11 rfl rfl ?_
    refine tt_iret dX12_refuse_12 ⟨rfl, _, rfl, ?_⟩
    exact tt_iret dX12_triedRow_13 ⟨rfl, _, rfl, h⟩
  · replace h := h.2 c
    refine tt_iload_n (q := 5) dX12_isIn_4 rfl rfl ?_
    refine tt_iload_n (q := 6) dX12_isIn_5 rfl rfl ?_
    refine tt_icmp_ge (q := 9) (t := 13) dX12_isIn_6 rfl rfl (fun c => ?_) (fun c => ?_)
    · replace h := h.1 c
      refine tt_iconst (q := 14) dX12_isIn_13 ki_0 rfl ?_
      refine tt_iret dX12_isIn_14 ⟨rfl, _, rfl, Or.inl nI_0, ?_⟩
      refine tt_iret dX12_isStep_10 ⟨rfl, _, rfl, Or.inl nI_0, ?_⟩
      refine tt_if_ne (q := 8) (t := 14) dX12_triedRow_5 rfl rfl (fun c => absurd c (by decide)) (fun c => ?_)
      clear c
      refine tt_aload_n (q := 9) dX12_triedRow_8 rfl rfl ?_
      refine tt_iconst (q := 10) dX12_triedRow_9 ki_m1 rfl ?_
      refine callVi_1 (q := 13) dX12_triedRow_10 (Or.inr (Or.inl ⟨rfl, rfl, ⟨⟨_, _, rfl, rfl, (Nat.le_of_ble_eq_true rfl), rc_102⟩, Nat.le_of_ble_eq_true rfl, ?_⟩⟩)) (Nat.le_of_ble_eq_true rfl) rfl (fun t11 r10 ht11 => ht11)
      refine (show TT cX12_refuse RX12 false CT0 CN0 _ _ _ none 0 [_, _] [] _ _ from ?_)
      refine tt_aload_n (q := 1) dX12_refuse_0 rfl rfl ?_
      refine tt_getR (q := 4) dX12_refuse_1 fl_X12_7 or_102_0 (Nat.le_of_ble_eq_true rfl) rfl rfl ?_
      refine tt_iload_n (q := 5) dX12_refuse_4 rfl rfl ?_
      refine tt_inegE (v := nI 1) (q := 6) dX12_refuse_5 (by decide) rfl ?_
      refine tt_dup2 (q := 7) dX12_refuse_6 rfl rfl rfl ?_
      refine tt_iald (q := 8) dX12_refuse_7 ia_103 (Nat.le_of_ble_eq_true rfl) rfl (Nat.le_of_ble_eq_true rfl : 1 < 7) rfl ?_
      refine tt_iconst (q := 9) dX12_refuse_8 ki_1 rfl ?_
      refine tt_iadd (q := 10) dX12_refuse_9 rfl ?_
      refine tt_iast (q := 11) dX12_refuse_10 ia_103 (Nat.le_of_ble_eq_true rfl) rfl (Nat.le_of_ble_eq_true rfl : 1 < 7) rfl ?_
      replace h := h _ rfl
      refine tt_iload_n (q := 12) dX12_refuse_11 rfl rfl ?_
      refine tt_iret dX12_refuse_12 ⟨rfl, _, rfl, ?_⟩
      exact tt_iret dX12_triedRow_13 ⟨rfl, _, rfl, h⟩
    · replace h := h.2 c
      refine tt_iconst (q := 10) dX12_isIn_9 ki_1 rfl ?_
      refine tt_goto (t := 14) dX12_isIn_10 rfl ?_
      refine tt_iret dX12_isIn_14 ⟨rfl, _, rfl, Or.inr rfl, ?_⟩
      refine tt_iret dX12_isStep_10 ⟨rfl, _, rfl, Or.inr rfl, ?_⟩
      refine tt_if_ne (q := 8) (t := 14) dX12_triedRow_5 rfl rfl (fun c => ?_) (fun c => absurd c (by decide))
      clear c
      refine tt_aload_n (q := 15) dX12_triedRow_14 rfl rfl ?_
      refine callVvI_0 (q := 18) dX12_triedRow_15 (Or.inr (Or.inr (⟨rfl, rfl, ⟨⟨_, _, rfl, rfl, (Nat.le_of_ble_eq_true rfl), rc_102⟩, Nat.le_of_ble_eq_true rfl, ?_⟩⟩))) (Nat.le_of_ble_eq_true rfl) rfl (fun t14 ht14 => ht14)
      refine (show TT cX12_triesNow RX12 false CT_X12_triesNow CN0 _ _ _ none 0 [_, dum] [] _ _ from ?_)
      refine tt_iconst (q := 1) dX12_triesNow_0 ki_0 rfl ?_
      refine sti_n_1 (q := 2) dX12_triesNow_1 rfl rfl rfl ?_
      refine tt_iload_n (q := 3) dX12_triesNow_2 rfl rfl ?_
      refine tt_bipush (q := 5) dX12_triesNow_3 bi_6 rfl ?_
      refine tt_icmp_ge (q := 8) (t := 28) dX12_triesNow_5 rfl rfl (fun c => absurd c (by decide)) (fun c => ?_)
      clear c
      refine tt_aload_n (q := 9) dX12_triesNow_8 rfl rfl ?_
      refine tt_getR (q := 12) dX12_triesNow_9 fl_X12_46 or_102_19 (Nat.le_of_ble_eq_true rfl) rfl rfl ?_
      refine tt_iload_n (q := 13) dX12_triesNow_12 rfl rfl ?_
      refine tt_aload_n (q := 14) dX12_triesNow_13 rfl rfl ?_
      refine tt_getR (q := 17) dX12_triesNow_14 fl_X12_13 or_102_1 (Nat.le_of_ble_eq_true rfl) rfl rfl ?_
      refine tt_iconst (q := 18) dX12_triesNow_17 ki_5 rfl ?_
      refine tt_iload_n (q := 19) dX12_triesNow_18 rfl rfl ?_
      refine tt_iaddE (v := nI 5) (q := 20) dX12_triesNow_19 (by decide) rfl ?_
      refine tt_iald (q := 21) dX12_triesNow_20 ia_104 (Nat.le_of_ble_eq_true rfl) rfl (Nat.le_of_ble_eq_true rfl : 5 < 197) rfl ?_
      refine tt_iast (q := 22) dX12_triesNow_21 ia_115 (Nat.le_of_ble_eq_true rfl) rfl (Nat.le_of_ble_eq_true rfl : 0 < 6) rfl ?_
      replace h := h _ rfl
      refine inc_1 (v := nI 1) (q := 25) dX12_triesNow_22 (by decide) rfl rfl ?_
      refine tt_goto (t := 2) dX12_triesNow_25 rfl ?_
      refine tt_iload_n (q := 3) dX12_triesNow_2 rfl rfl ?_
      refine tt_bipush (q := 5) dX12_triesNow_3 bi_6 rfl ?_
      refine tt_icmp_ge (q := 8) (t := 28) dX12_triesNow_5 rfl rfl (fun c => absurd c (by decide)) (fun c => ?_)
      clear c
      refine tt_aload_n (q := 9) dX12_triesNow_8 rfl rfl ?_
      refine tt_getR (q := 12) dX12_triesNow_9 fl_X12_46 or_102_19 (Nat.le_of_ble_eq_true rfl) rfl rfl ?_
      refine tt_iload_n (q := 13) dX12_triesNow_12 rfl rfl ?_
      refine tt_aload_n (q := 14) dX12_triesNow_13 rfl rfl ?_
      refine tt_getR (q := 17) dX12_triesNow_14 fl_X12_13 or_102_1 (Nat.le_of_ble_eq_true rfl) rfl rfl ?_
      refine tt_iconst (q := 18) dX12_triesNow_17 ki_5 rfl ?_
      refine tt_iload_n (q := 19) dX12_triesNow_18 rfl rfl ?_
      refine tt_iaddE (v := nI 6) (q := 20) dX12_triesNow_19 (by decide) rfl ?_
      refine tt_iald (q := 21) dX12_triesNow_20 ia_104 (Nat.le_of_ble_eq_true rfl) rfl (Nat.le_of_ble_eq_true rfl : 6 < 197) rfl ?_
      refine tt_iast (q := 22) dX12_triesNow_21 ia_115 (Nat.le_of_ble_eq_true rfl) rfl (Nat.le_of_ble_eq_true rfl : 1 < 6) rfl ?_
      replace h := h _ rfl
      refine inc_1 (v := nI 2) (q := 25) dX12_triesNow_22 (by decide) rfl rfl ?_
      refine tt_goto (t := 2) dX12_triesNow_25 rfl ?_
      refine tt_iload_n (q := 3) dX12_triesNow_2 rfl rfl ?_
      refine tt_bipush (q := 5) dX12_triesNow_3 bi_6 rfl ?_
      refine tt_icmp_ge (q := 8) (t := 28) dX12_triesNow_5 rfl rfl (fun c => absurd c (by decide)) (fun c => ?_)
      clear c
      refine tt_aload_n (q := 9) dX12_triesNow_8 rfl rfl ?_
      refine tt_getR (q := 12) dX12_triesNow_9 fl_X12_46 or_102_19 (Nat.le_of_ble_eq_true rfl) rfl rfl ?_
      refine tt_iload_n (q := 13) dX12_triesNow_12 rfl rfl ?_
      refine tt_aload_n (q := 14) dX12_triesNow_13 rfl rfl ?_
      refine tt_getR (q := 17) dX12_triesNow_14 fl_X12_13 or_102_1 (Nat.le_of_ble_eq_true rfl) rfl rfl ?_
      refine tt_iconst (q := 18) dX12_triesNow_17 ki_5 rfl ?_
      refine tt_iload_n (q := 19) dX12_triesNow_18 rfl rfl ?_
      refine tt_iaddE (v := nI 7) (q := 20) dX12_triesNow_19 (by decide) rfl ?_
      refine tt_iald (q := 21) dX12_triesNow_20 ia_104 (Nat.le_of_ble_eq_true rfl) rfl (Nat.le_of_ble_eq_true rfl : 7 < 197) rfl ?_
      refine tt_iast (q := 22) dX12_triesNow_21 ia_115 (Nat.le_of_ble_eq_true rfl) rfl (Nat.le_of_ble_eq_true rfl : 2 < 6) rfl ?_
      replace h := h _ rfl
      refine inc_1 (v := nI 3) (q := 25) dX12_triesNow_22 (by decide) rfl rfl ?_
      refine tt_goto (t := 2) dX12_triesNow_25 rfl ?_
      refine tt_iload_n (q := 3) dX12_triesNow_2 rfl rfl ?_
      refine tt_bipush (q := 5) dX12_triesNow_3 bi_6 rfl ?_
      refine tt_icmp_ge (q := 8) (t := 28) dX12_triesNow_5 rfl rfl (fun c => absurd c (by decide)) (fun c => ?_)
      clear c
      refine tt_aload_n (q := 9) dX12_triesNow_8 rfl rfl ?_
      refine tt_getR (q := 12) dX12_triesNow_9 fl_X12_46 or_102_19 (Nat.le_of_ble_eq_true rfl) rfl rfl ?_
      refine tt_iload_n (q := 13) dX12_triesNow_12 rfl rfl ?_
      refine tt_aload_n (q := 14) dX12_triesNow_13 rfl rfl ?_
      refine tt_getR (q := 17) dX12_triesNow_14 fl_X12_13 or_102_1 (Nat.le_of_ble_eq_true rfl) rfl rfl ?_
      refine tt_iconst (q := 18) dX12_triesNow_17 ki_5 rfl ?_
      refine tt_iload_n (q := 19) dX12_triesNow_18 rfl rfl ?_
      refine tt_iaddE (v := nI 8) (q := 20) dX12_triesNow_19 (by decide) rfl ?_
      refine tt_iald (q := 21) dX12_triesNow_20 ia_104 (Nat.le_of_ble_eq_true rfl) rfl (Nat.le_of_ble_eq_true rfl : 8 < 197) rfl ?_
      refine tt_iast (q := 22) dX12_triesNow_21 ia_115 (Nat.le_of_ble_eq_true rfl) rfl (Nat.le_of_ble_eq_true rfl : 3 < 6) rfl ?_
      replace h := h _ rfl
      refine inc_1 (v := nI 4) (q := 25) dX12_triesNow_22 (by decide) rfl rfl ?_
      refine tt_goto (t := 2) dX12_triesNow_25 rfl ?_
      refine tt_iload_n (q := 3) dX12_triesNow_2 rfl rfl ?_
      refine tt_bipush (q := 5) dX12_triesNow_3 bi_6 rfl ?_
      refine tt_icmp_ge (q := 8) (t := 28) dX12_triesNow_5 rfl rfl (fun c => absurd c (by decide)) (fun c => ?_)
      clear c
      refine tt_aload_n (q := 9) dX12_triesNow_8 rfl rfl ?_
      refine tt_getR (q := 12) dX12_triesNow_9 fl_X12_46 or_102_19 (Nat.le_of_ble_eq_true rfl) rfl rfl ?_
      refine tt_iload_n (q := 13) dX12_triesNow_12 rfl rfl ?_
      refine tt_aload_n (q := 14) dX12_triesNow_13 rfl rfl ?_
      refine tt_getR (q := 17) dX12_triesNow_14 fl_X12_13 or_102_1 (Nat.le_of_ble_eq_true rfl) rfl rfl ?_
      refine tt_iconst (q := 18) dX12_triesNow_17 ki_5 rfl ?_
      refine tt_iload_n (q := 19) dX12_triesNow_18 rfl rfl ?_
      refine tt_iaddE (v := nI 9) (q := 20) dX12_triesNow_19 (by decide) rfl ?_
      refine tt_iald (q := 21) dX12_triesNow_20 ia_104 (Nat.le_of_ble_eq_true rfl) rfl (Nat.le_of_ble_eq_true rfl : 9 < 197) rfl ?_
      refine tt_iast (q := 22) dX12_triesNow_21 ia_115 (Nat.le_of_ble_eq_true rfl) rfl (Nat.le_of_ble_eq_true rfl : 4 < 6) rfl ?_
      replace h := h _ rfl
      refine inc_1 (v := nI 5) (q := 25) dX12_triesNow_22 (by decide) rfl rfl ?_
      refine tt_goto (t := 2) dX12_triesNow_25 rfl ?_
      refine tt_iload_n (q := 3) dX12_triesNow_2 rfl rfl ?_
      refine tt_bipush (q := 5) dX12_triesNow_3 bi_6 rfl ?_
      refine tt_icmp_ge (q := 8) (t := 28) dX12_triesNow_5 rfl rfl (fun c => absurd c (by decide)) (fun c => ?_)
      clear c
      refine tt_aload_n (q := 9) dX12_triesNow_8 rfl rfl ?_
      refine tt_getR (q := 12) dX12_triesNow_9 fl_X12_46 or_102_19 (Nat.le_of_ble_eq_true rfl) rfl rfl ?_
      refine tt_iload_n (q := 13) dX12_triesNow_12 rfl rfl ?_
      refine tt_aload_n (q := 14) dX12_triesNow_13 rfl rfl ?_
      refine tt_getR (q := 17) dX12_triesNow_14 fl_X12_13 or_102_1 (Nat.le_of_ble_eq_true rfl) rfl rfl ?_
      refine tt_iconst (q := 18) dX12_triesNow_17 ki_5 rfl ?_
      refine tt_iload_n (q := 19) dX12_triesNow_18 rfl rfl ?_
      refine tt_iaddE (v := nI 10) (q := 20) dX12_triesNow_19 (by decide) rfl ?_
      refine tt_iald (q := 21) dX12_triesNow_20 ia_104 (Nat.le_of_ble_eq_true rfl) rfl (Nat.le_of_ble_eq_true rfl : 10 < 197) rfl ?_
      refine tt_iast (q := 22) dX12_triesNow_21 ia_115 (Nat.le_of_ble_eq_true rfl) rfl (Nat.le_of_ble_eq_true rfl : 5 < 6) rfl ?_
      replace h := h _ rfl
      refine inc_1 (v := nI 6) (q := 25) dX12_triesNow_22 (by decide) rfl rfl ?_
      refine tt_goto (t := 2) dX12_triesNow_25 rfl ?_
      refine tt_iload_n (q := 3) dX12_triesNow_2 rfl rfl ?_
      refine tt_bipush (q := 5) dX12_triesNow_3 bi_6 rfl ?_
      refine tt_icmp_ge (q := 8) (t := 28) dX12_triesNow_5 rfl rfl (fun c => ?_) (fun c => absurd c (by decide))
      clear c
      refine tt_aload_n (q := 29) dX12_triesNow_28 rfl rfl ?_
      obtain ⟨p23, hp24, h⟩ := h
      refine callVv_0 (q := 32) dX12_triesNow_29 (⟨rfl, rfl, hp24⟩) (Nat.le_of_ble_eq_true rfl) rfl (fun t22 hr25 => ?_)
      replace h := h t22 hr25
      refine tt_vret dX12_triesNow_32 ⟨rfl, rfl, ?_⟩
      refine tt_aload_n (q := 19) dX12_triedRow_18 rfl rfl ?_
      refine tt_getR (q := 22) dX12_triedRow_19 fl_X12_52 or_102_21 (Nat.le_of_ble_eq_true rfl) rfl rfl ?_
      refine tt_iload_n (q := 23) dX12_triedRow_22 rfl rfl ?_
      obtain ⟨j27, e28, l26, h⟩ := h
      refine tt_iald (q := 24) dX12_triedRow_23 ia_117 (Nat.le_of_ble_eq_true rfl) e28 l26 rfl ?_
      exact tt_iret dX12_triedRow_24 ⟨rfl, _, rfl, h⟩

theorem g_X12_solvesOf_0 {post : SG → Int32 → Prop} {σ : SG} (h : T_X12_solvesOf AF post 4 [.ref 102, .int (nI 0), .int (nI 0)] [] σ) : T_X12_solvesOf AF post 0 [.ref 102, dum, dum] [] σ := by
  refine tt_iconst (q := 1) dX12_solvesOf_0 ki_0 rfl ?_
  refine sti_n_1 (q := 2) dX12_solvesOf_1 rfl rfl rfl ?_
  refine tt_iconst (q := 3) dX12_solvesOf_2 ki_0 rfl ?_
  refine sti_n_2 (q := 4) dX12_solvesOf_3 rfl rfl rfl ?_
  exact h
theorem g_X12_solvesOf_4 {post : SG → Int32 → Prop} {σ : SG} {c : Nat} {o : Nat} (h : (o < 2 ^ 31 ∧ ((720 ≤ o → post σ (nI c)) ∧ (o < 720 → (∃ p7 : SG → Int32 → Prop, IN_X12_puts AF σ [.ref 115, .int (nI 0), .int (nI o)] p7 ∧ ∀ t6 : SG, p7 t6 0 → (∃ p12 : SG → Int32 → Prop, IN_X12_goesOn AF t6 [.ref 102] p12 ∧ ∀ t11 : SG, p12 t11 0 → ((0 ≤ (t11 102 22) → T_X12_solvesOf AF post 4 [.ref 102, .int (nI (c + 0)), .int (nI (o + 1))] [] t11) ∧ (¬ 0 ≤ (t11 102 22) → (∃ p18 : SG → Int32 → Prop, IN_X12_isSolved AF t11 [.ref 115, .int (nI 0)] p18 ∧ ∀ (t17 : SG) (r16 : Int32), p18 t17 r16 → ((r16 = 0 → T_X12_solvesOf AF post 4 [.ref 102, .int (nI (c + 0)), .int (nI (o + 1))] [] t17) ∧ (¬ r16 = 0 → T_X12_solvesOf AF post 4 [.ref 102, .int (nI (c + 1)), .int (nI (o + 1))] [] t17))))))))))) : T_X12_solvesOf AF post 4 [.ref 102, .int (nI c), .int (nI o)] [] σ := by
  refine tt_iload_n (q := 5) dX12_solvesOf_4 rfl rfl ?_
  refine tt_sipush (q := 8) dX12_solvesOf_5 si_720 rfl ?_
  obtain ⟨l2, h⟩ := h
  refine tt_icmp_ge (q := 11) (t := 33) dX12_solvesOf_8 rfl rfl (fun c => ?_) (fun c => ?_)
  · replace h := h.1 ((nI_leI (by decide) l2).1 c)
    refine tt_iload_n (q := 34) dX12_solvesOf_33 rfl rfl ?_
    exact tt_iret dX12_solvesOf_34 ⟨rfl, _, rfl, h⟩
  · replace h := h.2 (Nat.lt_of_not_le (fun z => c ((nI_leI (by decide) l2).2 z)))
    refine tt_iload_n (q := 12) dX12_solvesOf_11 rfl rfl ?_
    refine tt_aload_n (q := 13) dX12_solvesOf_12 rfl rfl ?_
    refine tt_iload_n (q := 14) dX12_solvesOf_13 rfl rfl ?_
    refine callVi_1 (q := 17) dX12_solvesOf_14 (⟨rfl, rfl, ⟨⟨_, _, rfl, rfl, (Nat.le_of_ble_eq_true rfl), rc_102⟩, Nat.le_of_ble_eq_true rfl, ?_⟩⟩) (Nat.le_of_ble_eq_true rfl) rfl (fun t4 r3 ht4 => ht4)
    refine (show TT cX12_solvesFrom RX12 false CT_X12_solvesFrom CN0 _ _ _ none 0 [_, _] [] _ _ from ?_)
    refine tt_aload_n (q := 1) dX12_solvesFrom_0 rfl rfl ?_
    refine tt_getR (q := 4) dX12_solvesFrom_1 fl_X12_46 or_102_19 (Nat.le_of_ble_eq_true rfl) rfl rfl ?_
    refine tt_iconst (q := 5) dX12_solvesFrom_4 ki_0 rfl ?_
    refine tt_iload_n (q := 6) dX12_solvesFrom_5 rfl rfl ?_
    obtain ⟨p7, hp8, h⟩ := h
    refine callSv_3 (q := 9) dX12_solvesFrom_6 (Or.inl ⟨rfl, rfl, hp8⟩) (Nat.le_of_ble_eq_true rfl) rfl (fun t6 hr9 => ?_)
    replace h := h t6 hr9
    refine tt_aload_n (q := 10) dX12_solvesFrom_9 rfl rfl ?_
    obtain ⟨p12, hp13, h⟩ := h
    refine callVv_0 (q := 13) dX12_solvesFrom_10 (Or.inr (Or.inl ⟨rfl, rfl, hp13⟩)) (Nat.le_of_ble_eq_true rfl) rfl (fun t11 hr14 => ?_)
    replace h := h t11 hr14
    refine tt_aload_n (q := 14) dX12_solvesFrom_13 rfl rfl ?_
    refine tt_getI (q := 17) dX12_solvesFrom_14 fl_X12_178 oi_102_22 (Nat.le_of_ble_eq_true rfl) rfl ?_
    refine tt_if_ge (q := 20) (t := 35) dX12_solvesFrom_17 rfl rfl (fun c => ?_) (fun c => ?_)
    · replace h := h.1 c
      refine tt_iconst (q := 36) dX12_solvesFrom_35 ki_0 rfl ?_
      refine tt_iret dX12_solvesFrom_36 ⟨rfl, _, rfl, Or.inl nI_0, ?_⟩
      refine tt_if_eq (q := 20) (t := 24) dX12_solvesOf_17 rfl rfl (fun c => ?_) (fun c => absurd c (by decide))
      clear c
      refine tt_iconst (q := 25) dX12_solvesOf_24 ki_0 rfl ?_
      refine tt_iaddN (q := 26) dX12_solvesOf_25 rfl ?_
      refine sti_n_1 (q := 27) dX12_solvesOf_26 rfl rfl rfl ?_
      refine inc_2 (q := 30) dX12_solvesOf_27 (nI_inc1 _) rfl rfl ?_
      refine tt_goto (t := 4) dX12_solvesOf_30 rfl ?_
      exact h
    · replace h := h.2 c
      refine tt_aload_n (q := 21) dX12_solvesFrom_20 rfl rfl ?_
      refine tt_getR (q := 24) dX12_solvesFrom_21 fl_X12_46 or_102_19 (Nat.le_of_ble_eq_true rfl) rfl rfl ?_
      refine tt_iconst (q := 25) dX12_solvesFrom_24 ki_0 rfl ?_
      obtain ⟨p18, hp19, h⟩ := h
      refine callSi_2 (q := 28) dX12_solvesFrom_25 (Or.inr (Or.inr (⟨rfl, rfl, hp19⟩))) (Nat.le_of_ble_eq_true rfl) rfl (fun t17 r16 hr20 => ?_)
      replace h := h t17 r16 hr20
      refine tt_if_eq (q := 31) (t := 35) dX12_solvesFrom_28 rfl rfl (fun c => ?_) (fun c => ?_)
      · replace h := h.1 c
        refine tt_iconst (q := 36) dX12_solvesFrom_35 ki_0 rfl ?_
        refine tt_iret dX12_solvesFrom_36 ⟨rfl, _, rfl, Or.inl nI_0, ?_⟩
        refine tt_if_eq (q := 20) (t := 24) dX12_solvesOf_17 rfl rfl (fun c => ?_) (fun c => absurd c (by decide))
        clear c
        refine tt_iconst (q := 25) dX12_solvesOf_24 ki_0 rfl ?_
        refine tt_iaddN (q := 26) dX12_solvesOf_25 rfl ?_
        refine sti_n_1 (q := 27) dX12_solvesOf_26 rfl rfl rfl ?_
        refine inc_2 (q := 30) dX12_solvesOf_27 (nI_inc1 _) rfl rfl ?_
        refine tt_goto (t := 4) dX12_solvesOf_30 rfl ?_
        exact h
      · replace h := h.2 c
        refine tt_iconst (q := 32) dX12_solvesFrom_31 ki_1 rfl ?_
        refine tt_goto (t := 36) dX12_solvesFrom_32 rfl ?_
        refine tt_iret dX12_solvesFrom_36 ⟨rfl, _, rfl, Or.inr rfl, ?_⟩
        refine tt_if_eq (q := 20) (t := 24) dX12_solvesOf_17 rfl rfl (fun c => absurd c (by decide)) (fun c => ?_)
        clear c
        refine tt_iconst (q := 21) dX12_solvesOf_20 ki_1 rfl ?_
        refine tt_goto (t := 25) dX12_solvesOf_21 rfl ?_
        refine tt_iaddN (q := 26) dX12_solvesOf_25 rfl ?_
        refine sti_n_1 (q := 27) dX12_solvesOf_26 rfl rfl rfl ?_
        refine inc_2 (q := 30) dX12_solvesOf_27 (nI_inc1 _) rfl rfl ?_
        refine tt_goto (t := 4) dX12_solvesOf_30 rfl ?_
        exact h

theorem g_X12_solves_0 {post : SG → Int32 → Prop} {σ : SG} (h : (∃ p3 : SG → Int32 → Prop, IN_X12_solvesOf AF σ [.ref 102] p3 ∧ ∀ (t2 : SG) (r1 : Int32), p3 t2 r1 → post t2 r1)) : T_X12_solves AF post 0 [.ref 102] [] σ := by
  refine tt_aload_n (q := 1) dX12_solves_0 rfl rfl ?_
  obtain ⟨p3, hp4, h⟩ := h
  refine callVi_0 (q := 4) dX12_solves_1 (⟨rfl, rfl, hp4⟩) (Nat.le_of_ble_eq_true rfl) rfl (fun t2 r1 hr5 => ?_)
  replace h := h t2 r1 hr5
  exact tt_iret dX12_solves_4 ⟨rfl, _, rfl, h⟩

theorem g_X12_lacks_0 {post : SG → Int32 → Prop} {σ : SG} (h : T_X12_lacks AF post 2 [.ref 102, .int (nI 0)] [] σ) : T_X12_lacks AF post 0 [.ref 102, dum] [] σ := by
  refine tt_iconst (q := 1) dX12_lacks_0 ki_0 rfl ?_
  refine sti_n_1 (q := 2) dX12_lacks_1 rfl rfl rfl ?_
  exact h
theorem g_X12_lacks_2 {post : SG → Int32 → Prop} {σ : SG} {o : Nat} (h : (o < 2 ^ 31 ∧ ((720 ≤ o → post σ (-9 : Int32)) ∧ (o < 720 → (∃ p7 : SG → Int32 → Prop, IN_X12_puts AF σ [.ref 115, .int (nI 0), .int (nI o)] p7 ∧ ∀ t6 : SG, p7 t6 0 → (∃ p12 : SG → Int32 → Prop, IN_X12_goesOn AF t6 [.ref 102] p12 ∧ ∀ t11 : SG, p12 t11 0 → ((0 ≤ (t11 102 22) → post t11 (nI o)) ∧ (¬ 0 ≤ (t11 102 22) → (∃ p18 : SG → Int32 → Prop, IN_X12_isSolved AF t11 [.ref 115, .int (nI 0)] p18 ∧ ∀ (t17 : SG) (r16 : Int32), p18 t17 r16 → ((r16 = 0 → post t17 (nI o)) ∧ (¬ r16 = 0 → T_X12_lacks AF post 2 [.ref 102, .int (nI (o + 1))] [] t17))))))))))) : T_X12_lacks AF post 2 [.ref 102, .int (nI o)] [] σ := by
  refine tt_iload_n (q := 3) dX12_lacks_2 rfl rfl ?_
  refine tt_sipush (q := 6) dX12_lacks_3 si_720 rfl ?_
  obtain ⟨l2, h⟩ := h
  refine tt_icmp_ge (q := 9) (t := 25) dX12_lacks_6 rfl rfl (fun c => ?_) (fun c => ?_)
  · replace h := h.1 ((nI_leI (by decide) l2).1 c)
    refine tt_bipush (q := 27) dX12_lacks_25 bi_m9 rfl ?_
    exact tt_iret dX12_lacks_27 ⟨rfl, _, rfl, h⟩
  · replace h := h.2 (Nat.lt_of_not_le (fun z => c ((nI_leI (by decide) l2).2 z)))
    refine tt_aload_n (q := 10) dX12_lacks_9 rfl rfl ?_
    refine tt_iload_n (q := 11) dX12_lacks_10 rfl rfl ?_
    refine callVi_1 (q := 14) dX12_lacks_11 (⟨rfl, rfl, ⟨⟨_, _, rfl, rfl, (Nat.le_of_ble_eq_true rfl), rc_102⟩, Nat.le_of_ble_eq_true rfl, ?_⟩⟩) (Nat.le_of_ble_eq_true rfl) rfl (fun t4 r3 ht4 => ht4)
    refine (show TT cX12_solvesFrom RX12 false CT_X12_solvesFrom CN0 _ _ _ none 0 [_, _] [] _ _ from ?_)
    refine tt_aload_n (q := 1) dX12_solvesFrom_0 rfl rfl ?_
    refine tt_getR (q := 4) dX12_solvesFrom_1 fl_X12_46 or_102_19 (Nat.le_of_ble_eq_true rfl) rfl rfl ?_
    refine tt_iconst (q := 5) dX12_solvesFrom_4 ki_0 rfl ?_
    refine tt_iload_n (q := 6) dX12_solvesFrom_5 rfl rfl ?_
    obtain ⟨p7, hp8, h⟩ := h
    refine callSv_3 (q := 9) dX12_solvesFrom_6 (Or.inl ⟨rfl, rfl, hp8⟩) (Nat.le_of_ble_eq_true rfl) rfl (fun t6 hr9 => ?_)
    replace h := h t6 hr9
    refine tt_aload_n (q := 10) dX12_solvesFrom_9 rfl rfl ?_
    obtain ⟨p12, hp13, h⟩ := h
    refine callVv_0 (q := 13) dX12_solvesFrom_10 (Or.inr (Or.inl ⟨rfl, rfl, hp13⟩)) (Nat.le_of_ble_eq_true rfl) rfl (fun t11 hr14 => ?_)
    replace h := h t11 hr14
    refine tt_aload_n (q := 14) dX12_solvesFrom_13 rfl rfl ?_
    refine tt_getI (q := 17) dX12_solvesFrom_14 fl_X12_178 oi_102_22 (Nat.le_of_ble_eq_true rfl) rfl ?_
    refine tt_if_ge (q := 20) (t := 35) dX12_solvesFrom_17 rfl rfl (fun c => ?_) (fun c => ?_)
    · replace h := h.1 c
      refine tt_iconst (q := 36) dX12_solvesFrom_35 ki_0 rfl ?_
      refine tt_iret dX12_solvesFrom_36 ⟨rfl, _, rfl, Or.inl nI_0, ?_⟩
      refine tt_if_ne (q := 17) (t := 19) dX12_lacks_14 rfl rfl (fun c => absurd c (by decide)) (fun c => ?_)
      clear c
      refine tt_iload_n (q := 18) dX12_lacks_17 rfl rfl ?_
      exact tt_iret dX12_lacks_18 ⟨rfl, _, rfl, h⟩
    · replace h := h.2 c
      refine tt_aload_n (q := 21) dX12_solvesFrom_20 rfl rfl ?_
      refine tt_getR (q := 24) dX12_solvesFrom_21 fl_X12_46 or_102_19 (Nat.le_of_ble_eq_true rfl) rfl rfl ?_
      refine tt_iconst (q := 25) dX12_solvesFrom_24 ki_0 rfl ?_
      obtain ⟨p18, hp19, h⟩ := h
      refine callSi_2 (q := 28) dX12_solvesFrom_25 (Or.inr (Or.inr (⟨rfl, rfl, hp19⟩))) (Nat.le_of_ble_eq_true rfl) rfl (fun t17 r16 hr20 => ?_)
      replace h := h t17 r16 hr20
      refine tt_if_eq (q := 31) (t := 35) dX12_solvesFrom_28 rfl rfl (fun c => ?_) (fun c => ?_)
      · replace h := h.1 c
        refine tt_iconst (q := 36) dX12_solvesFrom_35 ki_0 rfl ?_
        refine tt_iret dX12_solvesFrom_36 ⟨rfl, _, rfl, Or.inl nI_0, ?_⟩
        refine tt_if_ne (q := 17) (t := 19) dX12_lacks_14 rfl rfl (fun c => absurd c (by decide)) (fun c => ?_)
        clear c
        refine tt_iload_n (q := 18) dX12_lacks_17 rfl rfl ?_
        exact tt_iret dX12_lacks_18 ⟨rfl, _, rfl, h⟩
      · replace h := h.2 c
        refine tt_iconst (q := 32) dX12_solvesFrom_31 ki_1 rfl ?_
        refine tt_goto (t := 36) dX12_solvesFrom_32 rfl ?_
        refine tt_iret dX12_solvesFrom_36 ⟨rfl, _, rfl, Or.inr rfl, ?_⟩
        refine tt_if_ne (q := 17) (t := 19) dX12_lacks_14 rfl rfl (fun c => ?_) (fun c => absurd c (by decide))
        clear c
        refine inc_1 (q := 22) dX12_lacks_19 (nI_inc1 _) rfl rfl ?_
        refine tt_goto (t := 2) dX12_lacks_22 rfl ?_
        exact h

theorem g_X12_common_0 {post : SG → Int32 → Prop} {σ : SG} {a : Nat} {b : Nat} {d : Nat} (h : (b < 2 ^ 31 ∧ ((¬ b = 0 → (a < 2 ^ 31 ∧ 0 < b ∧ b < 2 ^ 31 ∧ (∃ p8 : SG → Int32 → Prop, IN_X12_common d AF σ [.int (nI b), .int (nI (a % b))] p8 ∧ ∀ (t7 : SG) (r6 : Int32), p8 t7 r6 → post t7 r6))) ∧ (b = 0 → post σ (nI a))))) : T_X12_common d AF post 0 [.int (nI a), .int (nI b)] [] σ := by
  refine tt_iload_n (q := 1) dX12_common_0 rfl rfl ?_
  obtain ⟨l2, h⟩ := h
  refine tt_if_ne (q := 4) (t := 8) dX12_common_1 rfl rfl (fun c => ?_) (fun c => ?_)
  · replace h := h.1 (fun z => c ((nI_eq l2 (by decide)).2 z))
    refine tt_iload_n (q := 9) dX12_common_8 rfl rfl ?_
    refine tt_iload_n (q := 10) dX12_common_9 rfl rfl ?_
    refine tt_iload_n (q := 11) dX12_common_10 rfl rfl ?_
    obtain ⟨l3, l4, l5, h⟩ := h
    refine tt_iremN (q := 12) dX12_common_11 l3 l4 l5 rfl ?_
    obtain ⟨p8, hp9, h⟩ := h
    refine callSi_2 (q := 15) dX12_common_12 (⟨rfl, rfl, hp9⟩) (Nat.le_of_ble_eq_true rfl) rfl (fun t7 r6 hr10 => ?_)
    replace h := h t7 r6 hr10
    exact tt_iret dX12_common_15 ⟨rfl, _, rfl, h⟩
  · replace h := h.2 ((nI_eq l2 (by decide)).1 c)
    refine tt_iload_n (q := 5) dX12_common_4 rfl rfl ?_
    refine tt_goto (t := 15) dX12_common_5 rfl ?_
    exact tt_iret dX12_common_15 ⟨rfl, _, rfl, h⟩

theorem g_X12_luck_0 {post : SG → Int32 → Prop} {σ : SG} {k : Int32} {pt : Int32} (h : ((k < 0 → (∀ s8 : SG, s8 = up σ 103 1 ((σ 103 1) + (nI 1)) → post s8 (-1 : Int32))) ∧ (¬ k < 0 → (((σ 104 2) ≤ k → (∀ s12 : SG, s12 = up σ 103 1 ((σ 103 1) + (nI 1)) → post s12 (-1 : Int32))) ∧ (¬ (σ 104 2) ≤ k → ((pt < 0 → (∀ s18 : SG, s18 = up σ 103 2 ((σ 103 2) + (nI 1)) → post s18 (-2 : Int32))) ∧ (¬ pt < 0 → (((nI 2) ≤ pt → (∀ s22 : SG, s22 = up σ 103 2 ((σ 103 2) + (nI 1)) → post s22 (-2 : Int32))) ∧ (¬ (nI 2) ≤ pt → T_X12_luck AF post 37 [.ref 102, .int k, .int pt, .int (nI 0), .int (nI 0), .int (nI 0)] [] σ))))))))) : T_X12_luck AF post 0 [.ref 102, .int k, .int pt, dum, dum, dum] [] σ := by
  refine tt_aload_n (q := 1) dX12_luck_0 rfl rfl ?_
  refine tt_iload_n (q := 2) dX12_luck_1 rfl rfl ?_
  refine callVi_1 (q := 5) dX12_luck_2 (Or.inl ⟨rfl, rfl, ⟨⟨_, _, rfl, rfl, (Nat.le_of_ble_eq_true rfl), rc_102⟩, Nat.le_of_ble_eq_true rfl, ?_⟩⟩) (Nat.le_of_ble_eq_true rfl) rfl (fun t2 r1 ht2 => ht2)
  refine (show TT cX12_isStep RX12 false CT_X12_isStep CN0 _ _ _ none 0 [_, _] [] _ _ from ?_)
  refine tt_iload_n (q := 1) dX12_isStep_0 rfl rfl ?_
  refine tt_aload_n (q := 2) dX12_isStep_1 rfl rfl ?_
  refine tt_getR (q := 5) dX12_isStep_2 fl_X12_13 or_102_1 (Nat.le_of_ble_eq_true rfl) rfl rfl ?_
  refine tt_iconst (q := 6) dX12_isStep_5 ki_2 rfl ?_
  refine tt_iald (q := 7) dX12_isStep_6 ia_104 (Nat.le_of_ble_eq_true rfl) rfl (Nat.le_of_ble_eq_true rfl : 2 < 197) rfl ?_
  refine callSi_2 (q := 10) dX12_isStep_7 (⟨rfl, rfl, ⟨rfl, Nat.le_of_ble_eq_true rfl, ?_⟩⟩) (Nat.le_of_ble_eq_true rfl) rfl (fun t4 r3 ht4 => ht4)
  refine (show TT cX12_isIn RX12 false CT0 CN0 _ _ _ none 0 [_, _] [] _ _ from ?_)
  refine tt_iload_n (q := 1) dX12_isIn_0 rfl rfl ?_
  refine tt_if_lt (q := 4) (t := 13) dX12_isIn_1 rfl rfl (fun c => ?_) (fun c => ?_)
  · replace h := h.1 c
    refine tt_iconst (q := 14) dX12_isIn_13 ki_0 rfl ?_
    refine tt_iret dX12_isIn_14 ⟨rfl, _, rfl, Or.inl nI_0, ?_⟩
    refine tt_iret dX12_isStep_10 ⟨rfl, _, rfl, Or.inl nI_0, ?_⟩
    refine tt_if_ne (q := 8) (t := 14) dX12_luck_5 rfl rfl (fun c => absurd c (by decide)) (fun c => ?_)
    clear c
    refine tt_aload_n (q := 9) dX12_luck_8 rfl rfl ?_
    refine tt_iconst (q := 10) dX12_luck_9 ki_m1 rfl ?_
    refine callVi_1 (q := 13) dX12_luck_10 (Or.inr (Or.inl ⟨rfl, rfl, ⟨⟨_, _, rfl, rfl, (Nat.le_of_ble_eq_true rfl), rc_102⟩, Nat.le_of_ble_eq_true rfl, ?_⟩⟩)) (Nat.le_of_ble_eq_true rfl) rfl (fun t7 r6 ht7 => ht7)
    refine (show TT cX12_refuse RX12 false CT0 CN0 _ _ _ none 0 [_, _] [] _ _ from ?_)
    refine tt_aload_n (q := 1) dX12_refuse_0 rfl rfl ?_
    refine tt_getR (q := 4) dX12_refuse_1 fl_X12_7 or_102_0 (Nat.le_of_ble_eq_true rfl) rfl rfl ?_
    refine tt_iload_n (q := 5) dX12_refuse_4 rfl rfl ?_
    refine tt_inegE (v := nI 1) (q := 6) dX12_refuse_5 (by decide) rfl ?_
    refine tt_dup2 (q := 7) dX12_refuse_6 rfl rfl rfl ?_
    refine tt_iald (q := 8) dX12_refuse_7 ia_103 (Nat.le_of_ble_eq_true rfl) rfl (Nat.le_of_ble_eq_true rfl : 1 < 7) rfl ?_
    refine tt_iconst (q := 9) dX12_refuse_8 ki_1 rfl ?_
    refine tt_iadd (q := 10) dX12_refuse_9 rfl ?_
    refine tt_iast (q := 11) dX12_refuse_10 ia_103 (Nat.le_of_ble_eq_true rfl) rfl (Nat.le_of_ble_eq_true rfl : 1 < 7) rfl ?_
    replace h := h _ rfl
    refine tt_iload_n (q := 12) dX12_refuse_11 rfl rfl ?_
    refine tt_iret dX12_refuse_12 ⟨rfl, _, rfl, ?_⟩
    exact tt_iret dX12_luck_13 ⟨rfl, _, rfl, h⟩
  · replace h := h.2 c
    refine tt_iload_n (q := 5) dX12_isIn_4 rfl rfl ?_
    refine tt_iload_n (q := 6) dX12_isIn_5 rfl rfl ?_
    refine tt_icmp_ge (q := 9) (t := 13) dX12_isIn_6 rfl rfl (fun c => ?_) (fun c => ?_)
    · replace h := h.1 c
      refine tt_iconst (q := 14) dX12_isIn_13 ki_0 rfl ?_
      refine tt_iret dX12_isIn_14 ⟨rfl, _, rfl, Or.inl nI_0, ?_⟩
      refine tt_iret dX12_isStep_10 ⟨rfl, _, rfl, Or.inl nI_0, ?_⟩
      refine tt_if_ne (q := 8) (t := 14) dX12_luck_5 rfl rfl (fun c => absurd c (by decide)) (fun c => ?_)
      clear c
      refine tt_aload_n (q := 9) dX12_luck_8 rfl rfl ?_
      refine tt_iconst (q := 10) dX12_luck_9 ki_m1 rfl ?_
      refine callVi_1 (q := 13) dX12_luck_10 (Or.inr (Or.inl ⟨rfl, rfl, ⟨⟨_, _, rfl, rfl, (Nat.le_of_ble_eq_true rfl), rc_102⟩, Nat.le_of_ble_eq_true rfl, ?_⟩⟩)) (Nat.le_of_ble_eq_true rfl) rfl (fun t11 r10 ht11 => ht11)
      refine (show TT cX12_refuse RX12 false CT0 CN0 _ _ _ none 0 [_, _] [] _ _ from ?_)
      refine tt_aload_n (q := 1) dX12_refuse_0 rfl rfl ?_
      refine tt_getR (q := 4) dX12_refuse_1 fl_X12_7 or_102_0 (Nat.le_of_ble_eq_true rfl) rfl rfl ?_
      refine tt_iload_n (q := 5) dX12_refuse_4 rfl rfl ?_
      refine tt_inegE (v := nI 1) (q := 6) dX12_refuse_5 (by decide) rfl ?_
      refine tt_dup2 (q := 7) dX12_refuse_6 rfl rfl rfl ?_
      refine tt_iald (q := 8) dX12_refuse_7 ia_103 (Nat.le_of_ble_eq_true rfl) rfl (Nat.le_of_ble_eq_true rfl : 1 < 7) rfl ?_
      refine tt_iconst (q := 9) dX12_refuse_8 ki_1 rfl ?_
      refine tt_iadd (q := 10) dX12_refuse_9 rfl ?_
      refine tt_iast (q := 11) dX12_refuse_10 ia_103 (Nat.le_of_ble_eq_true rfl) rfl (Nat.le_of_ble_eq_true rfl : 1 < 7) rfl ?_
      replace h := h _ rfl
      refine tt_iload_n (q := 12) dX12_refuse_11 rfl rfl ?_
      refine tt_iret dX12_refuse_12 ⟨rfl, _, rfl, ?_⟩
      exact tt_iret dX12_luck_13 ⟨rfl, _, rfl, h⟩
    · replace h := h.2 c
      refine tt_iconst (q := 10) dX12_isIn_9 ki_1 rfl ?_
      refine tt_goto (t := 14) dX12_isIn_10 rfl ?_
      refine tt_iret dX12_isIn_14 ⟨rfl, _, rfl, Or.inr rfl, ?_⟩
      refine tt_iret dX12_isStep_10 ⟨rfl, _, rfl, Or.inr rfl, ?_⟩
      refine tt_if_ne (q := 8) (t := 14) dX12_luck_5 rfl rfl (fun c => ?_) (fun c => absurd c (by decide))
      clear c
      refine tt_iload_n (q := 15) dX12_luck_14 rfl rfl ?_
      refine tt_iconst (q := 16) dX12_luck_15 ki_2 rfl ?_
      refine callSi_2 (q := 19) dX12_luck_16 (Or.inr (Or.inr (Or.inl ⟨rfl, rfl, ⟨rfl, Nat.le_of_ble_eq_true rfl, ?_⟩⟩))) (Nat.le_of_ble_eq_true rfl) rfl (fun t14 r13 ht14 => ht14)
      refine (show TT cX12_isIn RX12 false CT0 CN0 _ _ _ none 0 [_, _] [] _ _ from ?_)
      refine tt_iload_n (q := 1) dX12_isIn_0 rfl rfl ?_
      refine tt_if_lt (q := 4) (t := 13) dX12_isIn_1 rfl rfl (fun c => ?_) (fun c => ?_)
      · replace h := h.1 c
        refine tt_iconst (q := 14) dX12_isIn_13 ki_0 rfl ?_
        refine tt_iret dX12_isIn_14 ⟨rfl, _, rfl, Or.inl nI_0, ?_⟩
        refine tt_if_ne (q := 22) (t := 29) dX12_luck_19 rfl rfl (fun c => absurd c (by decide)) (fun c => ?_)
        clear c
        refine tt_aload_n (q := 23) dX12_luck_22 rfl rfl ?_
        refine tt_bipush (q := 25) dX12_luck_23 bi_m2 rfl ?_
        refine callVi_1 (q := 28) dX12_luck_25 (Or.inr (Or.inl ⟨rfl, rfl, ⟨⟨_, _, rfl, rfl, (Nat.le_of_ble_eq_true rfl), rc_102⟩, Nat.le_of_ble_eq_true rfl, ?_⟩⟩)) (Nat.le_of_ble_eq_true rfl) rfl (fun t17 r16 ht17 => ht17)
        refine (show TT cX12_refuse RX12 false CT0 CN0 _ _ _ none 0 [_, _] [] _ _ from ?_)
        refine tt_aload_n (q := 1) dX12_refuse_0 rfl rfl ?_
        refine tt_getR (q := 4) dX12_refuse_1 fl_X12_7 or_102_0 (Nat.le_of_ble_eq_true rfl) rfl rfl ?_
        refine tt_iload_n (q := 5) dX12_refuse_4 rfl rfl ?_
        refine tt_inegE (v := nI 2) (q := 6) dX12_refuse_5 (by decide) rfl ?_
        refine tt_dup2 (q := 7) dX12_refuse_6 rfl rfl rfl ?_
        refine tt_iald (q := 8) dX12_refuse_7 ia_103 (Nat.le_of_ble_eq_true rfl) rfl (Nat.le_of_ble_eq_true rfl : 2 < 7) rfl ?_
        refine tt_iconst (q := 9) dX12_refuse_8 ki_1 rfl ?_
        refine tt_iadd (q := 10) dX12_refuse_9 rfl ?_
        refine tt_iast (q := 11) dX12_refuse_10 ia_103 (Nat.le_of_ble_eq_true rfl) rfl (Nat.le_of_ble_eq_true rfl : 2 < 7) rfl ?_
        replace h := h _ rfl
        refine tt_iload_n (q := 12) dX12_refuse_11 rfl rfl ?_
        refine tt_iret dX12_refuse_12 ⟨rfl, _, rfl, ?_⟩
        exact tt_iret dX12_luck_28 ⟨rfl, _, rfl, h⟩
      · replace h := h.2 c
        refine tt_iload_n (q := 5) dX12_isIn_4 rfl rfl ?_
        refine tt_iload_n (q := 6) dX12_isIn_5 rfl rfl ?_
        refine tt_icmp_ge (q := 9) (t := 13) dX12_isIn_6 rfl rfl (fun c => ?_) (fun c => ?_)
        · replace h := h.1 c
          refine tt_iconst (q := 14) dX12_isIn_13 ki_0 rfl ?_
          refine tt_iret dX12_isIn_14 ⟨rfl, _, rfl, Or.inl nI_0, ?_⟩
          refine tt_if_ne (q := 22) (t := 29) dX12_luck_19 rfl rfl (fun c => absurd c (by decide)) (fun c => ?_)
          clear c
          refine tt_aload_n (q := 23) dX12_luck_22 rfl rfl ?_
          refine tt_bipush (q := 25) dX12_luck_23 bi_m2 rfl ?_
          refine callVi_1 (q := 28) dX12_luck_25 (Or.inr (Or.inl ⟨rfl, rfl, ⟨⟨_, _, rfl, rfl, (Nat.le_of_ble_eq_true rfl), rc_102⟩, Nat.le_of_ble_eq_true rfl, ?_⟩⟩)) (Nat.le_of_ble_eq_true rfl) rfl (fun t21 r20 ht21 => ht21)
          refine (show TT cX12_refuse RX12 false CT0 CN0 _ _ _ none 0 [_, _] [] _ _ from ?_)
          refine tt_aload_n (q := 1) dX12_refuse_0 rfl rfl ?_
          refine tt_getR (q := 4) dX12_refuse_1 fl_X12_7 or_102_0 (Nat.le_of_ble_eq_true rfl) rfl rfl ?_
          refine tt_iload_n (q := 5) dX12_refuse_4 rfl rfl ?_
          refine tt_inegE (v := nI 2) (q := 6) dX12_refuse_5 (by decide) rfl ?_
          refine tt_dup2 (q := 7) dX12_refuse_6 rfl rfl rfl ?_
          refine tt_iald (q := 8) dX12_refuse_7 ia_103 (Nat.le_of_ble_eq_true rfl) rfl (Nat.le_of_ble_eq_true rfl : 2 < 7) rfl ?_
          refine tt_iconst (q := 9) dX12_refuse_8 ki_1 rfl ?_
          refine tt_iadd (q := 10) dX12_refuse_9 rfl ?_
          refine tt_iast (q := 11) dX12_refuse_10 ia_103 (Nat.le_of_ble_eq_true rfl) rfl (Nat.le_of_ble_eq_true rfl : 2 < 7) rfl ?_
          replace h := h _ rfl
          refine tt_iload_n (q := 12) dX12_refuse_11 rfl rfl ?_
          refine tt_iret dX12_refuse_12 ⟨rfl, _, rfl, ?_⟩
          exact tt_iret dX12_luck_28 ⟨rfl, _, rfl, h⟩
        · replace h := h.2 c
          refine tt_iconst (q := 10) dX12_isIn_9 ki_1 rfl ?_
          refine tt_goto (t := 14) dX12_isIn_10 rfl ?_
          refine tt_iret dX12_isIn_14 ⟨rfl, _, rfl, Or.inr rfl, ?_⟩
          refine tt_if_ne (q := 22) (t := 29) dX12_luck_19 rfl rfl (fun c => ?_) (fun c => absurd c (by decide))
          clear c
          refine tt_iconst (q := 30) dX12_luck_29 ki_0 rfl ?_
          refine sti_n_3 (q := 31) dX12_luck_30 rfl rfl rfl ?_
          refine tt_iconst (q := 32) dX12_luck_31 ki_0 rfl ?_
          refine sti_4 (q := 34) dX12_luck_32 rfl rfl ?_
          refine tt_iconst (q := 35) dX12_luck_34 ki_0 rfl ?_
          refine sti_5 (q := 37) dX12_luck_35 rfl rfl ?_
          exact h
theorem g_X12_luck_37 {post : SG → Int32 → Prop} {σ : SG} {k : Nat} {pt : Int32} {co : Nat} {ne : Nat} {o : Nat} (h : (o < 2 ^ 31 ∧ ((720 ≤ o → (co < 2 ^ 31 ∧ (ne < 2 ^ 31 ∧ ((¬ co = ne → (ne ≤ co ∧ (∃ p9 : SG → Int32 → Prop, IN_X12_common 40 AF σ [.int (nI co), .int (nI (co - ne))] p9 ∧ ∀ (t8 : SG) (r7 : Int32), p9 t8 r7 → ((¬ pt = 0 → (¬ r7 = 0 ∧ post t8 ((nI co) / r7))) ∧ (pt = 0 → (ne ≤ co ∧ (¬ r7 = 0 ∧ post t8 ((nI (co - ne)) / r7)))))))) ∧ (co = ne → post σ pt))))) ∧ (o < 720 → (∃ p18 : SG → Int32 → Prop, IN_X12_puts AF σ [.ref 115, .int (nI 0), .int (nI o)] p18 ∧ ∀ t17 : SG, p18 t17 0 → (∃ p23 : SG → Int32 → Prop, IN_X12_goesOn AF t17 [.ref 102] p23 ∧ ∀ t22 : SG, p23 t22 0 → (((t22 102 22) < 0 → (((t22 102 22) = (nI k) → T_X12_luck AF post 37 [.ref 102, .int (nI k), .int pt, .int (nI (co + 1)), .int (nI (ne + 1)), .int (nI (o + 1))] [] t22) ∧ (¬ (t22 102 22) = (nI k) → (k < 4 ∧ (((t22 117 k) < 0 → T_X12_luck AF post 37 [.ref 102, .int (nI k), .int pt, .int (nI (co + 1)), .int (nI (ne + 0)), .int (nI (o + 1))] [] t22) ∧ (¬ (t22 117 k) < 0 → T_X12_luck AF post 37 [.ref 102, .int (nI k), .int pt, .int (nI (co + 1)), .int (nI (ne + 1)), .int (nI (o + 1))] [] t22)))))) ∧ (¬ (t22 102 22) < 0 → (((nI k) ≤ (t22 102 22) → (((t22 102 22) = (nI k) → T_X12_luck AF post 37 [.ref 102, .int (nI k), .int pt, .int (nI (co + 1)), .int (nI (ne + 1)), .int (nI (o + 1))] [] t22) ∧ (¬ (t22 102 22) = (nI k) → (k < 4 ∧ (((t22 117 k) < 0 → T_X12_luck AF post 37 [.ref 102, .int (nI k), .int pt, .int (nI (co + 1)), .int (nI (ne + 0)), .int (nI (o + 1))] [] t22) ∧ (¬ (t22 117 k) < 0 → T_X12_luck AF post 37 [.ref 102, .int (nI k), .int pt, .int (nI (co + 1)), .int (nI (ne + 1)), .int (nI (o + 1))] [] t22)))))) ∧ (¬ (nI k) ≤ (t22 102 22) → T_X12_luck AF post 37 [.ref 102, .int (nI k), .int pt, .int (nI co), .int (nI ne), .int (nI (o + 1))] [] t22)))))))))) : T_X12_luck AF post 37 [.ref 102, .int (nI k), .int pt, .int (nI co), .int (nI ne), .int (nI o)] [] σ := by
  refine tt_iload (q := 39) dX12_luck_37 rfl rfl ?_
  refine tt_sipush (q := 42) dX12_luck_39 si_720 rfl ?_
  obtain ⟨l2, h⟩ := h
  refine tt_icmp_ge (q := 45) (t := 113) dX12_luck_42 rfl rfl (fun c => ?_) (fun c => ?_)
  · replace h := h.1 ((nI_leI (by decide) l2).1 c)
    refine tt_iload_n (q := 114) dX12_luck_113 rfl rfl ?_
    refine tt_iload (q := 116) dX12_luck_114 rfl rfl ?_
    obtain ⟨l4, h⟩ := h
    obtain ⟨l5, h⟩ := h
    refine tt_icmp_ne (q := 119) (t := 121) dX12_luck_116 rfl rfl (fun c => ?_) (fun c => ?_)
    · replace h := h.1 (fun z => c ((nI_eq l4 l5).2 z))
      refine tt_iload_n (q := 122) dX12_luck_121 rfl rfl ?_
      refine tt_iload_n (q := 123) dX12_luck_122 rfl rfl ?_
      refine tt_iload (q := 125) dX12_luck_123 rfl rfl ?_
      obtain ⟨l6, h⟩ := h
      refine tt_isubN (q := 126) dX12_luck_125 l6 rfl ?_
      obtain ⟨p9, hp10, h⟩ := h
      refine callSi_2 (q := 129) dX12_luck_126 (Or.inr (Or.inr (Or.inr (Or.inr (Or.inr (⟨rfl, rfl, hp10⟩)))))) (Nat.le_of_ble_eq_true rfl) rfl (fun t8 r7 hr11 => ?_)
      replace h := h t8 r7 hr11
      refine sti_5 (q := 131) dX12_luck_129 rfl rfl ?_
      refine tt_iload_n (q := 132) dX12_luck_131 rfl rfl ?_
      refine tt_if_ne (q := 135) (t := 145) dX12_luck_132 rfl rfl (fun c => ?_) (fun c => ?_)
      · replace h := h.1 c
        refine tt_iload_n (q := 146) dX12_luck_145 rfl rfl ?_
        refine tt_iload (q := 148) dX12_luck_146 rfl rfl ?_
        obtain ⟨z13, h⟩ := h
        refine tt_idiv (q := 149) dX12_luck_148 z13 rfl ?_
        exact tt_iret dX12_luck_149 ⟨rfl, _, rfl, h⟩
      · replace h := h.2 c
        refine tt_iload_n (q := 136) dX12_luck_135 rfl rfl ?_
        refine tt_iload (q := 138) dX12_luck_136 rfl rfl ?_
        obtain ⟨l14, h⟩ := h
        refine tt_isubN (q := 139) dX12_luck_138 l14 rfl ?_
        refine tt_iload (q := 141) dX12_luck_139 rfl rfl ?_
        obtain ⟨z15, h⟩ := h
        refine tt_idiv (q := 142) dX12_luck_141 z15 rfl ?_
        refine tt_goto (t := 149) dX12_luck_142 rfl ?_
        exact tt_iret dX12_luck_149 ⟨rfl, _, rfl, h⟩
    · replace h := h.2 ((nI_eq l4 l5).1 c)
      refine tt_iload_n (q := 120) dX12_luck_119 rfl rfl ?_
      exact tt_iret dX12_luck_120 ⟨rfl, _, rfl, h⟩
  · replace h := h.2 (Nat.lt_of_not_le (fun z => c ((nI_leI (by decide) l2).2 z)))
    refine tt_aload_n (q := 46) dX12_luck_45 rfl rfl ?_
    refine tt_getR (q := 49) dX12_luck_46 fl_X12_46 or_102_19 (Nat.le_of_ble_eq_true rfl) rfl rfl ?_
    refine tt_iconst (q := 50) dX12_luck_49 ki_0 rfl ?_
    refine tt_iload (q := 52) dX12_luck_50 rfl rfl ?_
    obtain ⟨p18, hp19, h⟩ := h
    refine callSv_3 (q := 55) dX12_luck_52 (Or.inr (Or.inr (Or.inr (Or.inl ⟨rfl, rfl, hp19⟩)))) (Nat.le_of_ble_eq_true rfl) rfl (fun t17 hr20 => ?_)
    replace h := h t17 hr20
    refine tt_aload_n (q := 56) dX12_luck_55 rfl rfl ?_
    obtain ⟨p23, hp24, h⟩ := h
    refine callVv_0 (q := 59) dX12_luck_56 (Or.inr (Or.inr (Or.inr (Or.inr (Or.inl ⟨rfl, rfl, hp24⟩))))) (Nat.le_of_ble_eq_true rfl) rfl (fun t22 hr25 => ?_)
    replace h := h t22 hr25
    refine tt_aload_n (q := 60) dX12_luck_59 rfl rfl ?_
    refine tt_getI (q := 63) dX12_luck_60 fl_X12_178 oi_102_22 (Nat.le_of_ble_eq_true rfl) rfl ?_
    refine tt_if_lt (q := 66) (t := 77) dX12_luck_63 rfl rfl (fun c => ?_) (fun c => ?_)
    · replace h := h.1 c
      refine inc_3 (q := 80) dX12_luck_77 (nI_inc1 _) rfl rfl ?_
      refine tt_iload (q := 82) dX12_luck_80 rfl rfl ?_
      refine tt_aload_n (q := 83) dX12_luck_82 rfl rfl ?_
      refine tt_getI (q := 86) dX12_luck_83 fl_X12_178 oi_102_22 (Nat.le_of_ble_eq_true rfl) rfl ?_
      refine tt_iload_n (q := 87) dX12_luck_86 rfl rfl ?_
      refine tt_icmp_eq (q := 90) (t := 99) dX12_luck_87 rfl rfl (fun c => ?_) (fun c => ?_)
      · replace h := h.1 c
        refine tt_iconst (q := 100) dX12_luck_99 ki_1 rfl ?_
        refine tt_goto (t := 104) dX12_luck_100 rfl ?_
        refine tt_iaddN (q := 105) dX12_luck_104 rfl ?_
        refine sti_4 (q := 107) dX12_luck_105 rfl rfl ?_
        refine inc_5 (q := 110) dX12_luck_107 (nI_inc1 _) rfl rfl ?_
        refine tt_goto (t := 37) dX12_luck_110 rfl ?_
        exact h
      · replace h := h.2 c
        refine tt_aload_n (q := 91) dX12_luck_90 rfl rfl ?_
        refine tt_getR (q := 94) dX12_luck_91 fl_X12_52 or_102_21 (Nat.le_of_ble_eq_true rfl) rfl rfl ?_
        refine tt_iload_n (q := 95) dX12_luck_94 rfl rfl ?_
        obtain ⟨l28, h⟩ := h
        refine tt_iald (q := 96) dX12_luck_95 ia_117 (Nat.le_of_ble_eq_true rfl) rfl l28 rfl ?_
        refine tt_if_lt (q := 99) (t := 103) dX12_luck_96 rfl rfl (fun c => ?_) (fun c => ?_)
        · replace h := h.1 c
          refine tt_iconst (q := 104) dX12_luck_103 ki_0 rfl ?_
          refine tt_iaddN (q := 105) dX12_luck_104 rfl ?_
          refine sti_4 (q := 107) dX12_luck_105 rfl rfl ?_
          refine inc_5 (q := 110) dX12_luck_107 (nI_inc1 _) rfl rfl ?_
          refine tt_goto (t := 37) dX12_luck_110 rfl ?_
          exact h
        · replace h := h.2 c
          refine tt_iconst (q := 100) dX12_luck_99 ki_1 rfl ?_
          refine tt_goto (t := 104) dX12_luck_100 rfl ?_
          refine tt_iaddN (q := 105) dX12_luck_104 rfl ?_
          refine sti_4 (q := 107) dX12_luck_105 rfl rfl ?_
          refine inc_5 (q := 110) dX12_luck_107 (nI_inc1 _) rfl rfl ?_
          refine tt_goto (t := 37) dX12_luck_110 rfl ?_
          exact h
    · replace h := h.2 c
      refine tt_aload_n (q := 67) dX12_luck_66 rfl rfl ?_
      refine tt_getI (q := 70) dX12_luck_67 fl_X12_178 oi_102_22 (Nat.le_of_ble_eq_true rfl) rfl ?_
      refine tt_iload_n (q := 71) dX12_luck_70 rfl rfl ?_
      refine tt_icmp_ge (q := 74) (t := 77) dX12_luck_71 rfl rfl (fun c => ?_) (fun c => ?_)
      · replace h := h.1 c
        refine inc_3 (q := 80) dX12_luck_77 (nI_inc1 _) rfl rfl ?_
        refine tt_iload (q := 82) dX12_luck_80 rfl rfl ?_
        refine tt_aload_n (q := 83) dX12_luck_82 rfl rfl ?_
        refine tt_getI (q := 86) dX12_luck_83 fl_X12_178 oi_102_22 (Nat.le_of_ble_eq_true rfl) rfl ?_
        refine tt_iload_n (q := 87) dX12_luck_86 rfl rfl ?_
        refine tt_icmp_eq (q := 90) (t := 99) dX12_luck_87 rfl rfl (fun c => ?_) (fun c => ?_)
        · replace h := h.1 c
          refine tt_iconst (q := 100) dX12_luck_99 ki_1 rfl ?_
          refine tt_goto (t := 104) dX12_luck_100 rfl ?_
          refine tt_iaddN (q := 105) dX12_luck_104 rfl ?_
          refine sti_4 (q := 107) dX12_luck_105 rfl rfl ?_
          refine inc_5 (q := 110) dX12_luck_107 (nI_inc1 _) rfl rfl ?_
          refine tt_goto (t := 37) dX12_luck_110 rfl ?_
          exact h
        · replace h := h.2 c
          refine tt_aload_n (q := 91) dX12_luck_90 rfl rfl ?_
          refine tt_getR (q := 94) dX12_luck_91 fl_X12_52 or_102_21 (Nat.le_of_ble_eq_true rfl) rfl rfl ?_
          refine tt_iload_n (q := 95) dX12_luck_94 rfl rfl ?_
          obtain ⟨l32, h⟩ := h
          refine tt_iald (q := 96) dX12_luck_95 ia_117 (Nat.le_of_ble_eq_true rfl) rfl l32 rfl ?_
          refine tt_if_lt (q := 99) (t := 103) dX12_luck_96 rfl rfl (fun c => ?_) (fun c => ?_)
          · replace h := h.1 c
            refine tt_iconst (q := 104) dX12_luck_103 ki_0 rfl ?_
            refine tt_iaddN (q := 105) dX12_luck_104 rfl ?_
            refine sti_4 (q := 107) dX12_luck_105 rfl rfl ?_
            refine inc_5 (q := 110) dX12_luck_107 (nI_inc1 _) rfl rfl ?_
            refine tt_goto (t := 37) dX12_luck_110 rfl ?_
            exact h
          · replace h := h.2 c
            refine tt_iconst (q := 100) dX12_luck_99 ki_1 rfl ?_
            refine tt_goto (t := 104) dX12_luck_100 rfl ?_
            refine tt_iaddN (q := 105) dX12_luck_104 rfl ?_
            refine sti_4 (q := 107) dX12_luck_105 rfl rfl ?_
            refine inc_5 (q := 110) dX12_luck_107 (nI_inc1 _) rfl rfl ?_
            refine tt_goto (t := 37) dX12_luck_110 rfl ?_
            exact h
      · replace h := h.2 c
        refine tt_goto (t := 107) dX12_luck_74 rfl ?_
        refine inc_5 (q := 110) dX12_luck_107 (nI_inc1 _) rfl rfl ?_
        refine tt_goto (t := 37) dX12_luck_110 rfl ?_
        exact h

theorem g_X12_see_0 {post : SG → Int32 → Prop} {σ : SG} {a : Int32} {b : Int32} (h : ((a < 0 → (∀ s8 : SG, s8 = up σ 103 1 ((σ 103 1) + (nI 1)) → post s8 (-1 : Int32))) ∧ (¬ a < 0 → (((σ 104 2) ≤ a → (∀ s12 : SG, s12 = up σ 103 1 ((σ 103 1) + (nI 1)) → post s12 (-1 : Int32))) ∧ (¬ (σ 104 2) ≤ a → (((nI 0) ≤ b → ((b ≤ (nI 99) → (∃ j20 : Nat, (((nI 185) + ((nI 3) * a)) + (nI 2)) = nI j20 ∧ j20 < 197 ∧ (∃ j23 : Nat, (((nI 185) + ((nI 3) * a)) + (nI 2)) = nI j23 ∧ j23 < 197 ∧ (∀ s25 : SG, s25 = up σ 104 j23 b → post s25 (σ 104 j20))))) ∧ (¬ b ≤ (nI 99) → (∀ s28 : SG, s28 = up σ 103 6 ((σ 103 6) + (nI 1)) → post s28 (-6 : Int32))))) ∧ (¬ (nI 0) ≤ b → (∀ s31 : SG, s31 = up σ 103 4 ((σ 103 4) + (nI 1)) → post s31 (-4 : Int32))))))))) : T_X12_see AF post 0 [.ref 102, .int a, .int b, dum, dum] [] σ := by
  refine tt_aload_n (q := 1) dX12_see_0 rfl rfl ?_
  refine tt_iload_n (q := 2) dX12_see_1 rfl rfl ?_
  refine callVi_1 (q := 5) dX12_see_2 (Or.inl ⟨rfl, rfl, ⟨⟨_, _, rfl, rfl, (Nat.le_of_ble_eq_true rfl), rc_102⟩, Nat.le_of_ble_eq_true rfl, ?_⟩⟩) (Nat.le_of_ble_eq_true rfl) rfl (fun t2 r1 ht2 => ht2)
  refine (show TT cX12_isStep RX12 false CT_X12_isStep CN0 _ _ _ none 0 [_, _] [] _ _ from ?_)
  refine tt_iload_n (q := 1) dX12_isStep_0 rfl rfl ?_
  refine tt_aload_n (q := 2) dX12_isStep_1 rfl rfl ?_
  refine tt_getR (q := 5) dX12_isStep_2 fl_X12_13 or_102_1 (Nat.le_of_ble_eq_true rfl) rfl rfl ?_
  refine tt_iconst (q := 6) dX12_isStep_5 ki_2 rfl ?_
  refine tt_iald (q := 7) dX12_isStep_6 ia_104 (Nat.le_of_ble_eq_true rfl) rfl (Nat.le_of_ble_eq_true rfl : 2 < 197) rfl ?_
  refine callSi_2 (q := 10) dX12_isStep_7 (⟨rfl, rfl, ⟨rfl, Nat.le_of_ble_eq_true rfl, ?_⟩⟩) (Nat.le_of_ble_eq_true rfl) rfl (fun t4 r3 ht4 => ht4)
  refine (show TT cX12_isIn RX12 false CT0 CN0 _ _ _ none 0 [_, _] [] _ _ from ?_)
  refine tt_iload_n (q := 1) dX12_isIn_0 rfl rfl ?_
  refine tt_if_lt (q := 4) (t := 13) dX12_isIn_1 rfl rfl (fun c => ?_) (fun c => ?_)
  · replace h := h.1 c
    refine tt_iconst (q := 14) dX12_isIn_13 ki_0 rfl ?_
    refine tt_iret dX12_isIn_14 ⟨rfl, _, rfl, Or.inl nI_0, ?_⟩
    refine tt_iret dX12_isStep_10 ⟨rfl, _, rfl, Or.inl nI_0, ?_⟩
    refine tt_if_eq (q := 8) (t := 18) dX12_see_5 rfl rfl (fun c => ?_) (fun c => absurd c (by decide))
    clear c
    refine tt_iconst (q := 19) dX12_see_18 ki_m1 rfl ?_
    refine sti_n_3 (q := 20) dX12_see_19 rfl rfl rfl ?_
    refine tt_iload_n (q := 21) dX12_see_20 rfl rfl ?_
    refine tt_if_eq (q := 24) (t := 30) dX12_see_21 rfl rfl (fun c => absurd c (by decide)) (fun c => ?_)
    clear c
    refine tt_aload_n (q := 25) dX12_see_24 rfl rfl ?_
    refine tt_iload_n (q := 26) dX12_see_25 rfl rfl ?_
    refine callVi_1 (q := 29) dX12_see_26 (Or.inr (Or.inr (Or.inl ⟨rfl, rfl, ⟨⟨_, _, rfl, rfl, (Nat.le_of_ble_eq_true rfl), rc_102⟩, Nat.le_of_ble_eq_true rfl, ?_⟩⟩))) (Nat.le_of_ble_eq_true rfl) rfl (fun t7 r6 ht7 => ht7)
    refine (show TT cX12_refuse RX12 false CT0 CN0 _ _ _ none 0 [_, _] [] _ _ from ?_)
    refine tt_aload_n (q := 1) dX12_refuse_0 rfl rfl ?_
    refine tt_getR (q := 4) dX12_refuse_1 fl_X12_7 or_102_0 (Nat.le_of_ble_eq_true rfl) rfl rfl ?_
    refine tt_iload_n (q := 5) dX12_refuse_4 rfl rfl ?_
    refine tt_inegE (v := nI 1) (q := 6) dX12_refuse_5 (by decide) rfl ?_
    refine tt_dup2 (q := 7) dX12_refuse_6 rfl rfl rfl ?_
    refine tt_iald (q := 8) dX12_refuse_7 ia_103 (Nat.le_of_ble_eq_true rfl) rfl (Nat.le_of_ble_eq_true rfl : 1 < 7) rfl ?_
    refine tt_iconst (q := 9) dX12_refuse_8 ki_1 rfl ?_
    refine tt_iadd (q := 10) dX12_refuse_9 rfl ?_
    refine tt_iast (q := 11) dX12_refuse_10 ia_103 (Nat.le_of_ble_eq_true rfl) rfl (Nat.le_of_ble_eq_true rfl : 1 < 7) rfl ?_
    replace h := h _ rfl
    refine tt_iload_n (q := 12) dX12_refuse_11 rfl rfl ?_
    refine tt_iret dX12_refuse_12 ⟨rfl, _, rfl, ?_⟩
    exact tt_iret dX12_see_29 ⟨rfl, _, rfl, h⟩
  · replace h := h.2 c
    refine tt_iload_n (q := 5) dX12_isIn_4 rfl rfl ?_
    refine tt_iload_n (q := 6) dX12_isIn_5 rfl rfl ?_
    refine tt_icmp_ge (q := 9) (t := 13) dX12_isIn_6 rfl rfl (fun c => ?_) (fun c => ?_)
    · replace h := h.1 c
      refine tt_iconst (q := 14) dX12_isIn_13 ki_0 rfl ?_
      refine tt_iret dX12_isIn_14 ⟨rfl, _, rfl, Or.inl nI_0, ?_⟩
      refine tt_iret dX12_isStep_10 ⟨rfl, _, rfl, Or.inl nI_0, ?_⟩
      refine tt_if_eq (q := 8) (t := 18) dX12_see_5 rfl rfl (fun c => ?_) (fun c => absurd c (by decide))
      clear c
      refine tt_iconst (q := 19) dX12_see_18 ki_m1 rfl ?_
      refine sti_n_3 (q := 20) dX12_see_19 rfl rfl rfl ?_
      refine tt_iload_n (q := 21) dX12_see_20 rfl rfl ?_
      refine tt_if_eq (q := 24) (t := 30) dX12_see_21 rfl rfl (fun c => absurd c (by decide)) (fun c => ?_)
      clear c
      refine tt_aload_n (q := 25) dX12_see_24 rfl rfl ?_
      refine tt_iload_n (q := 26) dX12_see_25 rfl rfl ?_
      refine callVi_1 (q := 29) dX12_see_26 (Or.inr (Or.inr (Or.inl ⟨rfl, rfl, ⟨⟨_, _, rfl, rfl, (Nat.le_of_ble_eq_true rfl), rc_102⟩, Nat.le_of_ble_eq_true rfl, ?_⟩⟩))) (Nat.le_of_ble_eq_true rfl) rfl (fun t11 r10 ht11 => ht11)
      refine (show TT cX12_refuse RX12 false CT0 CN0 _ _ _ none 0 [_, _] [] _ _ from ?_)
      refine tt_aload_n (q := 1) dX12_refuse_0 rfl rfl ?_
      refine tt_getR (q := 4) dX12_refuse_1 fl_X12_7 or_102_0 (Nat.le_of_ble_eq_true rfl) rfl rfl ?_
      refine tt_iload_n (q := 5) dX12_refuse_4 rfl rfl ?_
      refine tt_inegE (v := nI 1) (q := 6) dX12_refuse_5 (by decide) rfl ?_
      refine tt_dup2 (q := 7) dX12_refuse_6 rfl rfl rfl ?_
      refine tt_iald (q := 8) dX12_refuse_7 ia_103 (Nat.le_of_ble_eq_true rfl) rfl (Nat.le_of_ble_eq_true rfl : 1 < 7) rfl ?_
      refine tt_iconst (q := 9) dX12_refuse_8 ki_1 rfl ?_
      refine tt_iadd (q := 10) dX12_refuse_9 rfl ?_
      refine tt_iast (q := 11) dX12_refuse_10 ia_103 (Nat.le_of_ble_eq_true rfl) rfl (Nat.le_of_ble_eq_true rfl : 1 < 7) rfl ?_
      replace h := h _ rfl
      refine tt_iload_n (q := 12) dX12_refuse_11 rfl rfl ?_
      refine tt_iret dX12_refuse_12 ⟨rfl, _, rfl, ?_⟩
      exact tt_iret dX12_see_29 ⟨rfl, _, rfl, h⟩
    · replace h := h.2 c
      refine tt_iconst (q := 10) dX12_isIn_9 ki_1 rfl ?_
      refine tt_goto (t := 14) dX12_isIn_10 rfl ?_
      refine tt_iret dX12_isIn_14 ⟨rfl, _, rfl, Or.inr rfl, ?_⟩
      refine tt_iret dX12_isStep_10 ⟨rfl, _, rfl, Or.inr rfl, ?_⟩
      refine tt_if_eq (q := 8) (t := 18) dX12_see_5 rfl rfl (fun c => absurd c (by decide)) (fun c => ?_)
      clear c
      refine tt_iload_n (q := 9) dX12_see_8 rfl rfl ?_
      refine tt_iconst (q := 10) dX12_see_9 ki_0 rfl ?_
      refine tt_bipush (q := 12) dX12_see_10 bi_99 rfl ?_
      refine callSi_3 (q := 15) dX12_see_12 (Or.inr (Or.inl ⟨rfl, rfl, ⟨rfl, Nat.le_of_ble_eq_true rfl, ?_⟩⟩)) (Nat.le_of_ble_eq_true rfl) rfl (fun t14 r13 ht14 => ht14)
      refine (show TT cX12_within RX12 false CT0 CN0 _ _ _ none 0 [_, _, _] [] _ _ from ?_)
      refine tt_iload_n (q := 1) dX12_within_0 rfl rfl ?_
      refine tt_iload_n (q := 2) dX12_within_1 rfl rfl ?_
      refine tt_icmp_ge (q := 5) (t := 10) dX12_within_2 rfl rfl (fun c => ?_) (fun c => ?_)
      · replace h := h.1 c
        refine tt_iload_n (q := 11) dX12_within_10 rfl rfl ?_
        refine tt_iload_n (q := 12) dX12_within_11 rfl rfl ?_
        refine tt_icmp_le (q := 15) (t := 20) dX12_within_12 rfl rfl (fun c => ?_) (fun c => ?_)
        · replace h := h.1 c
          refine tt_iconst (q := 21) dX12_within_20 ki_0 rfl ?_
          refine tt_iret dX12_within_21 ⟨rfl, _, rfl, ?_⟩
          refine tt_goto (t := 19) dX12_see_15 rfl ?_
          refine sti_n_3 (q := 20) dX12_see_19 rfl rfl rfl ?_
          refine tt_iload_n (q := 21) dX12_see_20 rfl rfl ?_
          refine tt_if_eq (q := 24) (t := 30) dX12_see_21 rfl rfl (fun c => ?_) (fun c => absurd c (by decide))
          clear c
          refine tt_aload_n (q := 31) dX12_see_30 rfl rfl ?_
          refine tt_iload_n (q := 32) dX12_see_31 rfl rfl ?_
          refine tt_iconst (q := 33) dX12_see_32 ki_2 rfl ?_
          refine callVi_2 (q := 36) dX12_see_33 (Or.inr (Or.inr (Or.inr (⟨rfl, rfl, ⟨⟨_, _, rfl, rfl, (Nat.le_of_ble_eq_true rfl), rc_102⟩, Nat.le_of_ble_eq_true rfl, ?_⟩⟩)))) (Nat.le_of_ble_eq_true rfl) rfl (fun t18 r17 ht18 => ht18)
          refine (show TT cX12_stepOf RX12 false CT0 CN0 _ _ _ none 0 [_, _, _] [] _ _ from ?_)
          refine tt_aload_n (q := 1) dX12_stepOf_0 rfl rfl ?_
          refine tt_getR (q := 4) dX12_stepOf_1 fl_X12_13 or_102_1 (Nat.le_of_ble_eq_true rfl) rfl rfl ?_
          refine tt_sipush (q := 7) dX12_stepOf_4 si_185 rfl ?_
          refine tt_iconst (q := 8) dX12_stepOf_7 ki_3 rfl ?_
          refine tt_iload_n (q := 9) dX12_stepOf_8 rfl rfl ?_
          refine tt_imul (q := 10) dX12_stepOf_9 rfl ?_
          refine tt_iadd (q := 11) dX12_stepOf_10 rfl ?_
          refine tt_iload_n (q := 12) dX12_stepOf_11 rfl rfl ?_
          refine tt_iadd (q := 13) dX12_stepOf_12 rfl ?_
          obtain ⟨j20, e21, l19, h⟩ := h
          refine tt_iald (q := 14) dX12_stepOf_13 ia_104 (Nat.le_of_ble_eq_true rfl) e21 l19 rfl ?_
          refine tt_iret dX12_stepOf_14 ⟨rfl, _, rfl, ?_⟩
          refine sti_4 (q := 38) dX12_see_36 rfl rfl ?_
          refine tt_aload_n (q := 39) dX12_see_38 rfl rfl ?_
          refine tt_getR (q := 42) dX12_see_39 fl_X12_13 or_102_1 (Nat.le_of_ble_eq_true rfl) rfl rfl ?_
          refine tt_sipush (q := 45) dX12_see_42 si_185 rfl ?_
          refine tt_iconst (q := 46) dX12_see_45 ki_3 rfl ?_
          refine tt_iload_n (q := 47) dX12_see_46 rfl rfl ?_
          refine tt_imul (q := 48) dX12_see_47 rfl ?_
          refine tt_iadd (q := 49) dX12_see_48 rfl ?_
          refine tt_iconst (q := 50) dX12_see_49 ki_2 rfl ?_
          refine tt_iadd (q := 51) dX12_see_50 rfl ?_
          refine tt_iload_n (q := 52) dX12_see_51 rfl rfl ?_
          obtain ⟨j23, e24, l22, h⟩ := h
          refine tt_iast (q := 53) dX12_see_52 ia_104 (Nat.le_of_ble_eq_true rfl) e24 l22 rfl ?_
          replace h := h _ rfl
          refine tt_iload (q := 55) dX12_see_53 rfl rfl ?_
          exact tt_iret dX12_see_55 ⟨rfl, _, rfl, h⟩
        · replace h := h.2 c
          refine tt_bipush (q := 17) dX12_within_15 bi_m6 rfl ?_
          refine tt_goto (t := 21) dX12_within_17 rfl ?_
          refine tt_iret dX12_within_21 ⟨rfl, _, rfl, ?_⟩
          refine tt_goto (t := 19) dX12_see_15 rfl ?_
          refine sti_n_3 (q := 20) dX12_see_19 rfl rfl rfl ?_
          refine tt_iload_n (q := 21) dX12_see_20 rfl rfl ?_
          refine tt_if_eq (q := 24) (t := 30) dX12_see_21 rfl rfl (fun c => absurd c (by decide)) (fun c => ?_)
          clear c
          refine tt_aload_n (q := 25) dX12_see_24 rfl rfl ?_
          refine tt_iload_n (q := 26) dX12_see_25 rfl rfl ?_
          refine callVi_1 (q := 29) dX12_see_26 (Or.inr (Or.inr (Or.inl ⟨rfl, rfl, ⟨⟨_, _, rfl, rfl, (Nat.le_of_ble_eq_true rfl), rc_102⟩, Nat.le_of_ble_eq_true rfl, ?_⟩⟩))) (Nat.le_of_ble_eq_true rfl) rfl (fun t27 r26 ht27 => ht27)
          refine (show TT cX12_refuse RX12 false CT0 CN0 _ _ _ none 0 [_, _] [] _ _ from ?_)
          refine tt_aload_n (q := 1) dX12_refuse_0 rfl rfl ?_
          refine tt_getR (q := 4) dX12_refuse_1 fl_X12_7 or_102_0 (Nat.le_of_ble_eq_true rfl) rfl rfl ?_
          refine tt_iload_n (q := 5) dX12_refuse_4 rfl rfl ?_
          refine tt_inegE (v := nI 6) (q := 6) dX12_refuse_5 (by decide) rfl ?_
          refine tt_dup2 (q := 7) dX12_refuse_6 rfl rfl rfl ?_
          refine tt_iald (q := 8) dX12_refuse_7 ia_103 (Nat.le_of_ble_eq_true rfl) rfl (Nat.le_of_ble_eq_true rfl : 6 < 7) rfl ?_
          refine tt_iconst (q := 9) dX12_refuse_8 ki_1 rfl ?_
          refine tt_iadd (q := 10) dX12_refuse_9 rfl ?_
          refine tt_iast (q := 11) dX12_refuse_10 ia_103 (Nat.le_of_ble_eq_true rfl) rfl (Nat.le_of_ble_eq_true rfl : 6 < 7) rfl ?_
          replace h := h _ rfl
          refine tt_iload_n (q := 12) dX12_refuse_11 rfl rfl ?_
          refine tt_iret dX12_refuse_12 ⟨rfl, _, rfl, ?_⟩
          exact tt_iret dX12_see_29 ⟨rfl, _, rfl, h⟩
      · replace h := h.2 c
        refine tt_bipush (q := 7) dX12_within_5 bi_m4 rfl ?_
        refine tt_goto (t := 21) dX12_within_7 rfl ?_
        refine tt_iret dX12_within_21 ⟨rfl, _, rfl, ?_⟩
        refine tt_goto (t := 19) dX12_see_15 rfl ?_
        refine sti_n_3 (q := 20) dX12_see_19 rfl rfl rfl ?_
        refine tt_iload_n (q := 21) dX12_see_20 rfl rfl ?_
        refine tt_if_eq (q := 24) (t := 30) dX12_see_21 rfl rfl (fun c => absurd c (by decide)) (fun c => ?_)
        clear c
        refine tt_aload_n (q := 25) dX12_see_24 rfl rfl ?_
        refine tt_iload_n (q := 26) dX12_see_25 rfl rfl ?_
        refine callVi_1 (q := 29) dX12_see_26 (Or.inr (Or.inr (Or.inl ⟨rfl, rfl, ⟨⟨_, _, rfl, rfl, (Nat.le_of_ble_eq_true rfl), rc_102⟩, Nat.le_of_ble_eq_true rfl, ?_⟩⟩))) (Nat.le_of_ble_eq_true rfl) rfl (fun t30 r29 ht30 => ht30)
        refine (show TT cX12_refuse RX12 false CT0 CN0 _ _ _ none 0 [_, _] [] _ _ from ?_)
        refine tt_aload_n (q := 1) dX12_refuse_0 rfl rfl ?_
        refine tt_getR (q := 4) dX12_refuse_1 fl_X12_7 or_102_0 (Nat.le_of_ble_eq_true rfl) rfl rfl ?_
        refine tt_iload_n (q := 5) dX12_refuse_4 rfl rfl ?_
        refine tt_inegE (v := nI 4) (q := 6) dX12_refuse_5 (by decide) rfl ?_
        refine tt_dup2 (q := 7) dX12_refuse_6 rfl rfl rfl ?_
        refine tt_iald (q := 8) dX12_refuse_7 ia_103 (Nat.le_of_ble_eq_true rfl) rfl (Nat.le_of_ble_eq_true rfl : 4 < 7) rfl ?_
        refine tt_iconst (q := 9) dX12_refuse_8 ki_1 rfl ?_
        refine tt_iadd (q := 10) dX12_refuse_9 rfl ?_
        refine tt_iast (q := 11) dX12_refuse_10 ia_103 (Nat.le_of_ble_eq_true rfl) rfl (Nat.le_of_ble_eq_true rfl : 4 < 7) rfl ?_
        replace h := h _ rfl
        refine tt_iload_n (q := 12) dX12_refuse_11 rfl rfl ?_
        refine tt_iret dX12_refuse_12 ⟨rfl, _, rfl, ?_⟩
        exact tt_iret dX12_see_29 ⟨rfl, _, rfl, h⟩

theorem g_X12_sumBy_0 {post : SG → Int32 → Prop} {σ : SG} {pace : Int32} (h : (∀ s3 : SG, s3 = up σ 115 0 (σ 104 5) → (∀ s4 : SG, s4 = up s3 115 1 (s3 104 6) → (∀ s5 : SG, s5 = up s4 115 2 (s4 104 7) → (∀ s6 : SG, s6 = up s5 115 3 (s5 104 8) → (∀ s7 : SG, s7 = up s6 115 4 (s6 104 9) → (∀ s8 : SG, s8 = up s7 115 5 (s7 104 10) → (∃ p11 : SG → Int32 → Prop, IN_X12_goesOn AF s8 [.ref 102] p11 ∧ ∀ t10 : SG, p11 t10 0 → (((t10 102 22) < 0 → T_X12_sumBy AF post 21 [.ref 102, .int pace, .int (nI 0), .int (nI 0), .int (nI 0), dum] [] t10) ∧ (¬ (t10 102 22) < 0 → post t10 (-9 : Int32))))))))))) : T_X12_sumBy AF post 0 [.ref 102, .int pace, dum, dum, dum, dum] [] σ := by
  refine tt_aload_n (q := 1) dX12_sumBy_0 rfl rfl ?_
  refine callVvI_0 (q := 4) dX12_sumBy_1 (Or.inl ⟨rfl, rfl, ⟨⟨_, _, rfl, rfl, (Nat.le_of_ble_eq_true rfl), rc_102⟩, Nat.le_of_ble_eq_true rfl, ?_⟩⟩) (Nat.le_of_ble_eq_true rfl) rfl (fun t2 ht2 => ht2)
  refine (show TT cX12_triesNow RX12 false CT_X12_triesNow CN0 _ _ _ none 0 [_, dum] [] _ _ from ?_)
  refine tt_iconst (q := 1) dX12_triesNow_0 ki_0 rfl ?_
  refine sti_n_1 (q := 2) dX12_triesNow_1 rfl rfl rfl ?_
  refine tt_iload_n (q := 3) dX12_triesNow_2 rfl rfl ?_
  refine tt_bipush (q := 5) dX12_triesNow_3 bi_6 rfl ?_
  refine tt_icmp_ge (q := 8) (t := 28) dX12_triesNow_5 rfl rfl (fun c => absurd c (by decide)) (fun c => ?_)
  clear c
  refine tt_aload_n (q := 9) dX12_triesNow_8 rfl rfl ?_
  refine tt_getR (q := 12) dX12_triesNow_9 fl_X12_46 or_102_19 (Nat.le_of_ble_eq_true rfl) rfl rfl ?_
  refine tt_iload_n (q := 13) dX12_triesNow_12 rfl rfl ?_
  refine tt_aload_n (q := 14) dX12_triesNow_13 rfl rfl ?_
  refine tt_getR (q := 17) dX12_triesNow_14 fl_X12_13 or_102_1 (Nat.le_of_ble_eq_true rfl) rfl rfl ?_
  refine tt_iconst (q := 18) dX12_triesNow_17 ki_5 rfl ?_
  refine tt_iload_n (q := 19) dX12_triesNow_18 rfl rfl ?_
  refine tt_iaddE (v := nI 5) (q := 20) dX12_triesNow_19 (by decide) rfl ?_
  refine tt_iald (q := 21) dX12_triesNow_20 ia_104 (Nat.le_of_ble_eq_true rfl) rfl (Nat.le_of_ble_eq_true rfl : 5 < 197) rfl ?_
  refine tt_iast (q := 22) dX12_triesNow_21 ia_115 (Nat.le_of_ble_eq_true rfl) rfl (Nat.le_of_ble_eq_true rfl : 0 < 6) rfl ?_
  replace h := h _ rfl
  refine inc_1 (v := nI 1) (q := 25) dX12_triesNow_22 (by decide) rfl rfl ?_
  refine tt_goto (t := 2) dX12_triesNow_25 rfl ?_
  refine tt_iload_n (q := 3) dX12_triesNow_2 rfl rfl ?_
  refine tt_bipush (q := 5) dX12_triesNow_3 bi_6 rfl ?_
  refine tt_icmp_ge (q := 8) (t := 28) dX12_triesNow_5 rfl rfl (fun c => absurd c (by decide)) (fun c => ?_)
  clear c
  refine tt_aload_n (q := 9) dX12_triesNow_8 rfl rfl ?_
  refine tt_getR (q := 12) dX12_triesNow_9 fl_X12_46 or_102_19 (Nat.le_of_ble_eq_true rfl) rfl rfl ?_
  refine tt_iload_n (q := 13) dX12_triesNow_12 rfl rfl ?_
  refine tt_aload_n (q := 14) dX12_triesNow_13 rfl rfl ?_
  refine tt_getR (q := 17) dX12_triesNow_14 fl_X12_13 or_102_1 (Nat.le_of_ble_eq_true rfl) rfl rfl ?_
  refine tt_iconst (q := 18) dX12_triesNow_17 ki_5 rfl ?_
  refine tt_iload_n (q := 19) dX12_triesNow_18 rfl rfl ?_
  refine tt_iaddE (v := nI 6) (q := 20) dX12_triesNow_19 (by decide) rfl ?_
  refine tt_iald (q := 21) dX12_triesNow_20 ia_104 (Nat.le_of_ble_eq_true rfl) rfl (Nat.le_of_ble_eq_true rfl : 6 < 197) rfl ?_
  refine tt_iast (q := 22) dX12_triesNow_21 ia_115 (Nat.le_of_ble_eq_true rfl) rfl (Nat.le_of_ble_eq_true rfl : 1 < 6) rfl ?_
  replace h := h _ rfl
  refine inc_1 (v := nI 2) (q := 25) dX12_triesNow_22 (by decide) rfl rfl ?_
  refine tt_goto (t := 2) dX12_triesNow_25 rfl ?_
  refine tt_iload_n (q := 3) dX12_triesNow_2 rfl rfl ?_
  refine tt_bipush (q := 5) dX12_triesNow_3 bi_6 rfl ?_
  refine tt_icmp_ge (q := 8) (t := 28) dX12_triesNow_5 rfl rfl (fun c => absurd c (by decide)) (fun c => ?_)
  clear c
  refine tt_aload_n (q := 9) dX12_triesNow_8 rfl rfl ?_
  refine tt_getR (q := 12) dX12_triesNow_9 fl_X12_46 or_102_19 (Nat.le_of_ble_eq_true rfl) rfl rfl ?_
  refine tt_iload_n (q := 13) dX12_triesNow_12 rfl rfl ?_
  refine tt_aload_n (q := 14) dX12_triesNow_13 rfl rfl ?_
  refine tt_getR (q := 17) dX12_triesNow_14 fl_X12_13 or_102_1 (Nat.le_of_ble_eq_true rfl) rfl rfl ?_
  refine tt_iconst (q := 18) dX12_triesNow_17 ki_5 rfl ?_
  refine tt_iload_n (q := 19) dX12_triesNow_18 rfl rfl ?_
  refine tt_iaddE (v := nI 7) (q := 20) dX12_triesNow_19 (by decide) rfl ?_
  refine tt_iald (q := 21) dX12_triesNow_20 ia_104 (Nat.le_of_ble_eq_true rfl) rfl (Nat.le_of_ble_eq_true rfl : 7 < 197) rfl ?_
  refine tt_iast (q := 22) dX12_triesNow_21 ia_115 (Nat.le_of_ble_eq_true rfl) rfl (Nat.le_of_ble_eq_true rfl : 2 < 6) rfl ?_
  replace h := h _ rfl
  refine inc_1 (v := nI 3) (q := 25) dX12_triesNow_22 (by decide) rfl rfl ?_
  refine tt_goto (t := 2) dX12_triesNow_25 rfl ?_
  refine tt_iload_n (q := 3) dX12_triesNow_2 rfl rfl ?_
  refine tt_bipush (q := 5) dX12_triesNow_3 bi_6 rfl ?_
  refine tt_icmp_ge (q := 8) (t := 28) dX12_triesNow_5 rfl rfl (fun c => absurd c (by decide)) (fun c => ?_)
  clear c
  refine tt_aload_n (q := 9) dX12_triesNow_8 rfl rfl ?_
  refine tt_getR (q := 12) dX12_triesNow_9 fl_X12_46 or_102_19 (Nat.le_of_ble_eq_true rfl) rfl rfl ?_
  refine tt_iload_n (q := 13) dX12_triesNow_12 rfl rfl ?_
  refine tt_aload_n (q := 14) dX12_triesNow_13 rfl rfl ?_
  refine tt_getR (q := 17) dX12_triesNow_14 fl_X12_13 or_102_1 (Nat.le_of_ble_eq_true rfl) rfl rfl ?_
  refine tt_iconst (q := 18) dX12_triesNow_17 ki_5 rfl ?_
  refine tt_iload_n (q := 19) dX12_triesNow_18 rfl rfl ?_
  refine tt_iaddE (v := nI 8) (q := 20) dX12_triesNow_19 (by decide) rfl ?_
  refine tt_iald (q := 21) dX12_triesNow_20 ia_104 (Nat.le_of_ble_eq_true rfl) rfl (Nat.le_of_ble_eq_true rfl : 8 < 197) rfl ?_
  refine tt_iast (q := 22) dX12_triesNow_21 ia_115 (Nat.le_of_ble_eq_true rfl) rfl (Nat.le_of_ble_eq_true rfl : 3 < 6) rfl ?_
  replace h := h _ rfl
  refine inc_1 (v := nI 4) (q := 25) dX12_triesNow_22 (by decide) rfl rfl ?_
  refine tt_goto (t := 2) dX12_triesNow_25 rfl ?_
  refine tt_iload_n (q := 3) dX12_triesNow_2 rfl rfl ?_
  refine tt_bipush (q := 5) dX12_triesNow_3 bi_6 rfl ?_
  refine tt_icmp_ge (q := 8) (t := 28) dX12_triesNow_5 rfl rfl (fun c => absurd c (by decide)) (fun c => ?_)
  clear c
  refine tt_aload_n (q := 9) dX12_triesNow_8 rfl rfl ?_
  refine tt_getR (q := 12) dX12_triesNow_9 fl_X12_46 or_102_19 (Nat.le_of_ble_eq_true rfl) rfl rfl ?_
  refine tt_iload_n (q := 13) dX12_triesNow_12 rfl rfl ?_
  refine tt_aload_n (q := 14) dX12_triesNow_13 rfl rfl ?_
  refine tt_getR (q := 17) dX12_triesNow_14 fl_X12_13 or_102_1 (Nat.le_of_ble_eq_true rfl) rfl rfl ?_
  refine tt_iconst (q := 18) dX12_triesNow_17 ki_5 rfl ?_
  refine tt_iload_n (q := 19) dX12_triesNow_18 rfl rfl ?_
  refine tt_iaddE (v := nI 9) (q := 20) dX12_triesNow_19 (by decide) rfl ?_
  refine tt_iald (q := 21) dX12_triesNow_20 ia_104 (Nat.le_of_ble_eq_true rfl) rfl (Nat.le_of_ble_eq_true rfl : 9 < 197) rfl ?_
  refine tt_iast (q := 22) dX12_triesNow_21 ia_115 (Nat.le_of_ble_eq_true rfl) rfl (Nat.le_of_ble_eq_true rfl : 4 < 6) rfl ?_
  replace h := h _ rfl
  refine inc_1 (v := nI 5) (q := 25) dX12_triesNow_22 (by decide) rfl rfl ?_
  refine tt_goto (t := 2) dX12_triesNow_25 rfl ?_
  refine tt_iload_n (q := 3) dX12_triesNow_2 rfl rfl ?_
  refine tt_bipush (q := 5) dX12_triesNow_3 bi_6 rfl ?_
  refine tt_icmp_ge (q := 8) (t := 28) dX12_triesNow_5 rfl rfl (fun c => absurd c (by decide)) (fun c => ?_)
  clear c
  refine tt_aload_n (q := 9) dX12_triesNow_8 rfl rfl ?_
  refine tt_getR (q := 12) dX12_triesNow_9 fl_X12_46 or_102_19 (Nat.le_of_ble_eq_true rfl) rfl rfl ?_
  refine tt_iload_n (q := 13) dX12_triesNow_12 rfl rfl ?_
  refine tt_aload_n (q := 14) dX12_triesNow_13 rfl rfl ?_
  refine tt_getR (q := 17) dX12_triesNow_14 fl_X12_13 or_102_1 (Nat.le_of_ble_eq_true rfl) rfl rfl ?_
  refine tt_iconst (q := 18) dX12_triesNow_17 ki_5 rfl ?_
  refine tt_iload_n (q := 19) dX12_triesNow_18 rfl rfl ?_
  refine tt_iaddE (v := nI 10) (q := 20) dX12_triesNow_19 (by decide) rfl ?_
  refine tt_iald (q := 21) dX12_triesNow_20 ia_104 (Nat.le_of_ble_eq_true rfl) rfl (Nat.le_of_ble_eq_true rfl : 10 < 197) rfl ?_
  refine tt_iast (q := 22) dX12_triesNow_21 ia_115 (Nat.le_of_ble_eq_true rfl) rfl (Nat.le_of_ble_eq_true rfl : 5 < 6) rfl ?_
  replace h := h _ rfl
  refine inc_1 (v := nI 6) (q := 25) dX12_triesNow_22 (by decide) rfl rfl ?_
  refine tt_goto (t := 2) dX12_triesNow_25 rfl ?_
  refine tt_iload_n (q := 3) dX12_triesNow_2 rfl rfl ?_
  refine tt_bipush (q := 5) dX12_triesNow_3 bi_6 rfl ?_
  refine tt_icmp_ge (q := 8) (t := 28) dX12_triesNow_5 rfl rfl (fun c => ?_) (fun c => absurd c (by decide))
  clear c
  refine tt_aload_n (q := 29) dX12_triesNow_28 rfl rfl ?_
  obtain ⟨p11, hp12, h⟩ := h
  refine callVv_0 (q := 32) dX12_triesNow_29 (⟨rfl, rfl, hp12⟩) (Nat.le_of_ble_eq_true rfl) rfl (fun t10 hr13 => ?_)
  replace h := h t10 hr13
  refine tt_vret dX12_triesNow_32 ⟨rfl, rfl, ?_⟩
  refine tt_aload_n (q := 5) dX12_sumBy_4 rfl rfl ?_
  refine tt_getI (q := 8) dX12_sumBy_5 fl_X12_178 oi_102_22 (Nat.le_of_ble_eq_true rfl) rfl ?_
  refine tt_if_lt (q := 11) (t := 14) dX12_sumBy_8 rfl rfl (fun c => ?_) (fun c => ?_)
  · replace h := h.1 c
    refine tt_iconst (q := 15) dX12_sumBy_14 ki_0 rfl ?_
    refine sti_n_2 (q := 16) dX12_sumBy_15 rfl rfl rfl ?_
    refine tt_iconst (q := 17) dX12_sumBy_16 ki_0 rfl ?_
    refine sti_n_3 (q := 18) dX12_sumBy_17 rfl rfl rfl ?_
    refine tt_iconst (q := 19) dX12_sumBy_18 ki_0 rfl ?_
    refine sti_4 (q := 21) dX12_sumBy_19 rfl rfl ?_
    exact h
  · replace h := h.2 c
    refine tt_bipush (q := 13) dX12_sumBy_11 bi_m9 rfl ?_
    exact tt_iret dX12_sumBy_13 ⟨rfl, _, rfl, h⟩
theorem g_X12_sumBy_21 {post : SG → Int32 → Prop} {σ : SG} {pace : Int32} {v : Int32} {ah : Int32} {k : Nat} (h : (((σ 104 2) ≤ (nI k) → post σ v) ∧ (¬ (σ 104 2) ≤ (nI k) → (185 + (3 * k) + 2 < 197 ∧ (((nI k) ≤ 0 → (k < 4 ∧ ((0 ≤ (σ 117 k) → (k < 4 ∧ (∃ p11 : SG → Int32 → Prop, IN_X12_secondsOf AF σ [.ref 102, .int (σ 117 k)] p11 ∧ ∀ (t10 : SG) (r9 : Int32), p11 t10 r9 → T_X12_sumBy AF post 21 [.ref 102, .int pace, .int (v + ((r9 * pace) / (nI 100))), .int ((r9 * pace) / (nI 100)), .int (nI (k + 1)), dum] [] t10))) ∧ (¬ 0 ≤ (σ 117 k) → T_X12_sumBy AF post 21 [.ref 102, .int pace, .int (v + (nI 0)), .int (nI 0), .int (nI (k + 1)), dum] [] σ)))) ∧ (¬ (nI k) ≤ 0 → ((((σ 104 (185 + (3 * k) + 2)) - ah) ≤ 0 → (k < 4 ∧ ((0 ≤ (σ 117 k) → (k < 4 ∧ (∃ p20 : SG → Int32 → Prop, IN_X12_secondsOf AF σ [.ref 102, .int (σ 117 k)] p20 ∧ ∀ (t19 : SG) (r18 : Int32), p20 t19 r18 → T_X12_sumBy AF post 21 [.ref 102, .int pace, .int (v + ((r18 * pace) / (nI 100))), .int ((r18 * pace) / (nI 100)), .int (nI (k + 1)), dum] [] t19))) ∧ (¬ 0 ≤ (σ 117 k) → T_X12_sumBy AF post 21 [.ref 102, .int pace, .int (v + (nI 0)), .int (nI 0), .int (nI (k + 1)), dum] [] σ)))) ∧ (¬ ((σ 104 (185 + (3 * k) + 2)) - ah) ≤ 0 → (k < 4 ∧ ((0 ≤ (σ 117 k) → (k < 4 ∧ (∃ p28 : SG → Int32 → Prop, IN_X12_secondsOf AF σ [.ref 102, .int (σ 117 k)] p28 ∧ ∀ (t27 : SG) (r26 : Int32), p28 t27 r26 → T_X12_sumBy AF post 21 [.ref 102, .int pace, .int ((v + ((σ 104 (185 + (3 * k) + 2)) - ah)) + ((r26 * pace) / (nI 100))), .int ((r26 * pace) / (nI 100)), .int (nI (k + 1)), dum] [] t27))) ∧ (¬ 0 ≤ (σ 117 k) → T_X12_sumBy AF post 21 [.ref 102, .int pace, .int ((v + ((σ 104 (185 + (3 * k) + 2)) - ah)) + (nI 0)), .int (nI 0), .int (nI (k + 1)), dum] [] σ))))))))))) : T_X12_sumBy AF post 21 [.ref 102, .int pace, .int v, .int ah, .int (nI k), dum] [] σ := by
  refine tt_iload (q := 23) dX12_sumBy_21 rfl rfl ?_
  refine tt_aload_n (q := 24) dX12_sumBy_23 rfl rfl ?_
  refine tt_getR (q := 27) dX12_sumBy_24 fl_X12_13 or_102_1 (Nat.le_of_ble_eq_true rfl) rfl rfl ?_
  refine tt_iconst (q := 28) dX12_sumBy_27 ki_2 rfl ?_
  refine tt_iald (q := 29) dX12_sumBy_28 ia_104 (Nat.le_of_ble_eq_true rfl) rfl (Nat.le_of_ble_eq_true rfl : 2 < 197) rfl ?_
  refine tt_icmp_ge (q := 32) (t := 99) dX12_sumBy_29 rfl rfl (fun c => ?_) (fun c => ?_)
  · replace h := h.1 c
    refine tt_iload_n (q := 100) dX12_sumBy_99 rfl rfl ?_
    exact tt_iret dX12_sumBy_100 ⟨rfl, _, rfl, h⟩
  · replace h := h.2 c
    refine tt_aload_n (q := 33) dX12_sumBy_32 rfl rfl ?_
    refine tt_iload (q := 35) dX12_sumBy_33 rfl rfl ?_
    refine tt_iconst (q := 36) dX12_sumBy_35 ki_2 rfl ?_
    refine callVi_2 (q := 39) dX12_sumBy_36 (Or.inr (Or.inl ⟨rfl, rfl, ⟨⟨_, _, rfl, rfl, (Nat.le_of_ble_eq_true rfl), rc_102⟩, Nat.le_of_ble_eq_true rfl, ?_⟩⟩)) (Nat.le_of_ble_eq_true rfl) rfl (fun t3 r2 ht3 => ht3)
    refine (show TT cX12_stepOf RX12 false CT0 CN0 _ _ _ none 0 [_, _, _] [] _ _ from ?_)
    refine tt_aload_n (q := 1) dX12_stepOf_0 rfl rfl ?_
    refine tt_getR (q := 4) dX12_stepOf_1 fl_X12_13 or_102_1 (Nat.le_of_ble_eq_true rfl) rfl rfl ?_
    refine tt_sipush (q := 7) dX12_stepOf_4 si_185 rfl ?_
    refine tt_iconst (q := 8) dX12_stepOf_7 ki_3 rfl ?_
    refine tt_iload_n (q := 9) dX12_stepOf_8 rfl rfl ?_
    refine tt_imulN (q := 10) dX12_stepOf_9 rfl ?_
    refine tt_iaddN (q := 11) dX12_stepOf_10 rfl ?_
    refine tt_iload_n (q := 12) dX12_stepOf_11 rfl rfl ?_
    refine tt_iaddN (q := 13) dX12_stepOf_12 rfl ?_
    obtain ⟨l4, h⟩ := h
    refine tt_iald (q := 14) dX12_stepOf_13 ia_104 (Nat.le_of_ble_eq_true rfl) rfl l4 rfl ?_
    refine tt_iret dX12_stepOf_14 ⟨rfl, _, rfl, ?_⟩
    refine tt_iload_n (q := 40) dX12_sumBy_39 rfl rfl ?_
    refine tt_isub (q := 41) dX12_sumBy_40 rfl ?_
    refine sti_5 (q := 43) dX12_sumBy_41 rfl rfl ?_
    refine tt_iload (q := 45) dX12_sumBy_43 rfl rfl ?_
    refine tt_if_le (q := 48) (t := 58) dX12_sumBy_45 rfl rfl (fun c => ?_) (fun c => ?_)
    · replace h := h.1 c
      refine tt_aload_n (q := 59) dX12_sumBy_58 rfl rfl ?_
      refine tt_getR (q := 62) dX12_sumBy_59 fl_X12_52 or_102_21 (Nat.le_of_ble_eq_true rfl) rfl rfl ?_
      refine tt_iload (q := 64) dX12_sumBy_62 rfl rfl ?_
      obtain ⟨l6, h⟩ := h
      refine tt_iald (q := 65) dX12_sumBy_64 ia_117 (Nat.le_of_ble_eq_true rfl) rfl l6 rfl ?_
      refine tt_if_ge (q := 68) (t := 72) dX12_sumBy_65 rfl rfl (fun c => ?_) (fun c => ?_)
      · replace h := h.1 c
        refine tt_aload_n (q := 73) dX12_sumBy_72 rfl rfl ?_
        refine tt_aload_n (q := 74) dX12_sumBy_73 rfl rfl ?_
        refine tt_getR (q := 77) dX12_sumBy_74 fl_X12_52 or_102_21 (Nat.le_of_ble_eq_true rfl) rfl rfl ?_
        refine tt_iload (q := 79) dX12_sumBy_77 rfl rfl ?_
        obtain ⟨l8, h⟩ := h
        refine tt_iald (q := 80) dX12_sumBy_79 ia_117 (Nat.le_of_ble_eq_true rfl) rfl l8 rfl ?_
        obtain ⟨p11, hp12, h⟩ := h
        refine callVi_1 (q := 83) dX12_sumBy_80 (Or.inr (Or.inr (⟨rfl, rfl, hp12⟩))) (Nat.le_of_ble_eq_true rfl) rfl (fun t10 r9 hr13 => ?_)
        replace h := h t10 r9 hr13
        refine tt_iload_n (q := 84) dX12_sumBy_83 rfl rfl ?_
        refine tt_imul (q := 85) dX12_sumBy_84 rfl ?_
        refine tt_bipush (q := 87) dX12_sumBy_85 bi_100 rfl ?_
        refine tt_idiv (q := 88) dX12_sumBy_87 (by decide) rfl ?_
        refine sti_n_3 (q := 89) dX12_sumBy_88 rfl rfl rfl ?_
        refine tt_iload_n (q := 90) dX12_sumBy_89 rfl rfl ?_
        refine tt_iload_n (q := 91) dX12_sumBy_90 rfl rfl ?_
        refine tt_iadd (q := 92) dX12_sumBy_91 rfl ?_
        refine sti_n_2 (q := 93) dX12_sumBy_92 rfl rfl rfl ?_
        refine inc_4 (q := 96) dX12_sumBy_93 (nI_inc1 _) rfl rfl ?_
        refine tt_goto (t := 21) dX12_sumBy_96 rfl ?_
        refine tt_wk (L2 := [_, _, _, _, _, dum]) ⟨Or.inl rfl, Or.inl rfl, Or.inl rfl, Or.inl rfl, Or.inl rfl, Or.inr rfl, trivial⟩ ?_
        exact h
      · replace h := h.2 c
        refine tt_iconst (q := 69) dX12_sumBy_68 ki_0 rfl ?_
        refine tt_goto (t := 88) dX12_sumBy_69 rfl ?_
        refine sti_n_3 (q := 89) dX12_sumBy_88 rfl rfl rfl ?_
        refine tt_iload_n (q := 90) dX12_sumBy_89 rfl rfl ?_
        refine tt_iload_n (q := 91) dX12_sumBy_90 rfl rfl ?_
        refine tt_iadd (q := 92) dX12_sumBy_91 rfl ?_
        refine sti_n_2 (q := 93) dX12_sumBy_92 rfl rfl rfl ?_
        refine inc_4 (q := 96) dX12_sumBy_93 (nI_inc1 _) rfl rfl ?_
        refine tt_goto (t := 21) dX12_sumBy_96 rfl ?_
        refine tt_wk (L2 := [_, _, _, _, _, dum]) ⟨Or.inl rfl, Or.inl rfl, Or.inl rfl, Or.inl rfl, Or.inl rfl, Or.inr rfl, trivial⟩ ?_
        exact h
    · replace h := h.2 c
      refine tt_iload (q := 50) dX12_sumBy_48 rfl rfl ?_
      refine tt_if_le (q := 53) (t := 58) dX12_sumBy_50 rfl rfl (fun c => ?_) (fun c => ?_)
      · replace h := h.1 c
        refine tt_aload_n (q := 59) dX12_sumBy_58 rfl rfl ?_
        refine tt_getR (q := 62) dX12_sumBy_59 fl_X12_52 or_102_21 (Nat.le_of_ble_eq_true rfl) rfl rfl ?_
        refine tt_iload (q := 64) dX12_sumBy_62 rfl rfl ?_
        obtain ⟨l15, h⟩ := h
        refine tt_iald (q := 65) dX12_sumBy_64 ia_117 (Nat.le_of_ble_eq_true rfl) rfl l15 rfl ?_
        refine tt_if_ge (q := 68) (t := 72) dX12_sumBy_65 rfl rfl (fun c => ?_) (fun c => ?_)
        · replace h := h.1 c
          refine tt_aload_n (q := 73) dX12_sumBy_72 rfl rfl ?_
          refine tt_aload_n (q := 74) dX12_sumBy_73 rfl rfl ?_
          refine tt_getR (q := 77) dX12_sumBy_74 fl_X12_52 or_102_21 (Nat.le_of_ble_eq_true rfl) rfl rfl ?_
          refine tt_iload (q := 79) dX12_sumBy_77 rfl rfl ?_
          obtain ⟨l17, h⟩ := h
          refine tt_iald (q := 80) dX12_sumBy_79 ia_117 (Nat.le_of_ble_eq_true rfl) rfl l17 rfl ?_
          obtain ⟨p20, hp21, h⟩ := h
          refine callVi_1 (q := 83) dX12_sumBy_80 (Or.inr (Or.inr (⟨rfl, rfl, hp21⟩))) (Nat.le_of_ble_eq_true rfl) rfl (fun t19 r18 hr22 => ?_)
          replace h := h t19 r18 hr22
          refine tt_iload_n (q := 84) dX12_sumBy_83 rfl rfl ?_
          refine tt_imul (q := 85) dX12_sumBy_84 rfl ?_
          refine tt_bipush (q := 87) dX12_sumBy_85 bi_100 rfl ?_
          refine tt_idiv (q := 88) dX12_sumBy_87 (by decide) rfl ?_
          refine sti_n_3 (q := 89) dX12_sumBy_88 rfl rfl rfl ?_
          refine tt_iload_n (q := 90) dX12_sumBy_89 rfl rfl ?_
          refine tt_iload_n (q := 91) dX12_sumBy_90 rfl rfl ?_
          refine tt_iadd (q := 92) dX12_sumBy_91 rfl ?_
          refine sti_n_2 (q := 93) dX12_sumBy_92 rfl rfl rfl ?_
          refine inc_4 (q := 96) dX12_sumBy_93 (nI_inc1 _) rfl rfl ?_
          refine tt_goto (t := 21) dX12_sumBy_96 rfl ?_
          refine tt_wk (L2 := [_, _, _, _, _, dum]) ⟨Or.inl rfl, Or.inl rfl, Or.inl rfl, Or.inl rfl, Or.inl rfl, Or.inr rfl, trivial⟩ ?_
          exact h
        · replace h := h.2 c
          refine tt_iconst (q := 69) dX12_sumBy_68 ki_0 rfl ?_
          refine tt_goto (t := 88) dX12_sumBy_69 rfl ?_
          refine sti_n_3 (q := 89) dX12_sumBy_88 rfl rfl rfl ?_
          refine tt_iload_n (q := 90) dX12_sumBy_89 rfl rfl ?_
          refine tt_iload_n (q := 91) dX12_sumBy_90 rfl rfl ?_
          refine tt_iadd (q := 92) dX12_sumBy_91 rfl ?_
          refine sti_n_2 (q := 93) dX12_sumBy_92 rfl rfl rfl ?_
          refine inc_4 (q := 96) dX12_sumBy_93 (nI_inc1 _) rfl rfl ?_
          refine tt_goto (t := 21) dX12_sumBy_96 rfl ?_
          refine tt_wk (L2 := [_, _, _, _, _, dum]) ⟨Or.inl rfl, Or.inl rfl, Or.inl rfl, Or.inl rfl, Or.inl rfl, Or.inr rfl, trivial⟩ ?_
          exact h
      · replace h := h.2 c
        refine tt_iload_n (q := 54) dX12_sumBy_53 rfl rfl ?_
        refine tt_iload (q := 56) dX12_sumBy_54 rfl rfl ?_
        refine tt_iadd (q := 57) dX12_sumBy_56 rfl ?_
        refine sti_n_2 (q := 58) dX12_sumBy_57 rfl rfl rfl ?_
        refine tt_aload_n (q := 59) dX12_sumBy_58 rfl rfl ?_
        refine tt_getR (q := 62) dX12_sumBy_59 fl_X12_52 or_102_21 (Nat.le_of_ble_eq_true rfl) rfl rfl ?_
        refine tt_iload (q := 64) dX12_sumBy_62 rfl rfl ?_
        obtain ⟨l23, h⟩ := h
        refine tt_iald (q := 65) dX12_sumBy_64 ia_117 (Nat.le_of_ble_eq_true rfl) rfl l23 rfl ?_
        refine tt_if_ge (q := 68) (t := 72) dX12_sumBy_65 rfl rfl (fun c => ?_) (fun c => ?_)
        · replace h := h.1 c
          refine tt_aload_n (q := 73) dX12_sumBy_72 rfl rfl ?_
          refine tt_aload_n (q := 74) dX12_sumBy_73 rfl rfl ?_
          refine tt_getR (q := 77) dX12_sumBy_74 fl_X12_52 or_102_21 (Nat.le_of_ble_eq_true rfl) rfl rfl ?_
          refine tt_iload (q := 79) dX12_sumBy_77 rfl rfl ?_
          obtain ⟨l25, h⟩ := h
          refine tt_iald (q := 80) dX12_sumBy_79 ia_117 (Nat.le_of_ble_eq_true rfl) rfl l25 rfl ?_
          obtain ⟨p28, hp29, h⟩ := h
          refine callVi_1 (q := 83) dX12_sumBy_80 (Or.inr (Or.inr (⟨rfl, rfl, hp29⟩))) (Nat.le_of_ble_eq_true rfl) rfl (fun t27 r26 hr30 => ?_)
          replace h := h t27 r26 hr30
          refine tt_iload_n (q := 84) dX12_sumBy_83 rfl rfl ?_
          refine tt_imul (q := 85) dX12_sumBy_84 rfl ?_
          refine tt_bipush (q := 87) dX12_sumBy_85 bi_100 rfl ?_
          refine tt_idiv (q := 88) dX12_sumBy_87 (by decide) rfl ?_
          refine sti_n_3 (q := 89) dX12_sumBy_88 rfl rfl rfl ?_
          refine tt_iload_n (q := 90) dX12_sumBy_89 rfl rfl ?_
          refine tt_iload_n (q := 91) dX12_sumBy_90 rfl rfl ?_
          refine tt_iadd (q := 92) dX12_sumBy_91 rfl ?_
          refine sti_n_2 (q := 93) dX12_sumBy_92 rfl rfl rfl ?_
          refine inc_4 (q := 96) dX12_sumBy_93 (nI_inc1 _) rfl rfl ?_
          refine tt_goto (t := 21) dX12_sumBy_96 rfl ?_
          refine tt_wk (L2 := [_, _, _, _, _, dum]) ⟨Or.inl rfl, Or.inl rfl, Or.inl rfl, Or.inl rfl, Or.inl rfl, Or.inr rfl, trivial⟩ ?_
          exact h
        · replace h := h.2 c
          refine tt_iconst (q := 69) dX12_sumBy_68 ki_0 rfl ?_
          refine tt_goto (t := 88) dX12_sumBy_69 rfl ?_
          refine sti_n_3 (q := 89) dX12_sumBy_88 rfl rfl rfl ?_
          refine tt_iload_n (q := 90) dX12_sumBy_89 rfl rfl ?_
          refine tt_iload_n (q := 91) dX12_sumBy_90 rfl rfl ?_
          refine tt_iadd (q := 92) dX12_sumBy_91 rfl ?_
          refine sti_n_2 (q := 93) dX12_sumBy_92 rfl rfl rfl ?_
          refine inc_4 (q := 96) dX12_sumBy_93 (nI_inc1 _) rfl rfl ?_
          refine tt_goto (t := 21) dX12_sumBy_96 rfl ?_
          refine tt_wk (L2 := [_, _, _, _, _, dum]) ⟨Or.inl rfl, Or.inl rfl, Or.inl rfl, Or.inl rfl, Or.inl rfl, Or.inr rfl, trivial⟩ ?_
          exact h

theorem g_X12_sum_0 {post : SG → Int32 → Prop} {σ : SG} {a : Int32} (h : (((nI 50) ≤ a → ((a ≤ (nI 300) → (∃ p7 : SG → Int32 → Prop, IN_X12_sumBy AF σ [.ref 102, .int a] p7 ∧ ∀ (t6 : SG) (r5 : Int32), p7 t6 r5 → post t6 r5)) ∧ (¬ a ≤ (nI 300) → (∀ s12 : SG, s12 = up σ 103 6 ((σ 103 6) + (nI 1)) → post s12 (-6 : Int32))))) ∧ (¬ (nI 50) ≤ a → (∀ s15 : SG, s15 = up σ 103 4 ((σ 103 4) + (nI 1)) → post s15 (-4 : Int32))))) : T_X12_sum AF post 0 [.ref 102, .int a, dum] [] σ := by
  refine tt_iload_n (q := 1) dX12_sum_0 rfl rfl ?_
  refine tt_bipush (q := 3) dX12_sum_1 bi_50 rfl ?_
  refine tt_sipush (q := 6) dX12_sum_3 si_300 rfl ?_
  refine callSi_3 (q := 9) dX12_sum_6 (Or.inl ⟨rfl, rfl, ⟨rfl, Nat.le_of_ble_eq_true rfl, ?_⟩⟩) (Nat.le_of_ble_eq_true rfl) rfl (fun t2 r1 ht2 => ht2)
  refine (show TT cX12_within RX12 false CT0 CN0 _ _ _ none 0 [_, _, _] [] _ _ from ?_)
  refine tt_iload_n (q := 1) dX12_within_0 rfl rfl ?_
  refine tt_iload_n (q := 2) dX12_within_1 rfl rfl ?_
  refine tt_icmp_ge (q := 5) (t := 10) dX12_within_2 rfl rfl (fun c => ?_) (fun c => ?_)
  · replace h := h.1 c
    refine tt_iload_n (q := 11) dX12_within_10 rfl rfl ?_
    refine tt_iload_n (q := 12) dX12_within_11 rfl rfl ?_
    refine tt_icmp_le (q := 15) (t := 20) dX12_within_12 rfl rfl (fun c => ?_) (fun c => ?_)
    · replace h := h.1 c
      refine tt_iconst (q := 21) dX12_within_20 ki_0 rfl ?_
      refine tt_iret dX12_within_21 ⟨rfl, _, rfl, ?_⟩
      refine sti_n_2 (q := 10) dX12_sum_9 rfl rfl rfl ?_
      refine tt_iload_n (q := 11) dX12_sum_10 rfl rfl ?_
      refine tt_if_eq (q := 14) (t := 22) dX12_sum_11 rfl rfl (fun c => ?_) (fun c => absurd c (by decide))
      clear c
      refine tt_aload_n (q := 23) dX12_sum_22 rfl rfl ?_
      refine tt_iload_n (q := 24) dX12_sum_23 rfl rfl ?_
      obtain ⟨p7, hp8, h⟩ := h
      refine callVi_1 (q := 27) dX12_sum_24 (Or.inr (Or.inr (⟨rfl, rfl, hp8⟩))) (Nat.le_of_ble_eq_true rfl) rfl (fun t6 r5 hr9 => ?_)
      replace h := h t6 r5 hr9
      exact tt_iret dX12_sum_27 ⟨rfl, _, rfl, h⟩
    · replace h := h.2 c
      refine tt_bipush (q := 17) dX12_within_15 bi_m6 rfl ?_
      refine tt_goto (t := 21) dX12_within_17 rfl ?_
      refine tt_iret dX12_within_21 ⟨rfl, _, rfl, ?_⟩
      refine sti_n_2 (q := 10) dX12_sum_9 rfl rfl rfl ?_
      refine tt_iload_n (q := 11) dX12_sum_10 rfl rfl ?_
      refine tt_if_eq (q := 14) (t := 22) dX12_sum_11 rfl rfl (fun c => absurd c (by decide)) (fun c => ?_)
      clear c
      refine tt_aload_n (q := 15) dX12_sum_14 rfl rfl ?_
      refine tt_iload_n (q := 16) dX12_sum_15 rfl rfl ?_
      refine callVi_1 (q := 19) dX12_sum_16 (Or.inr (Or.inl ⟨rfl, rfl, ⟨⟨_, _, rfl, rfl, (Nat.le_of_ble_eq_true rfl), rc_102⟩, Nat.le_of_ble_eq_true rfl, ?_⟩⟩)) (Nat.le_of_ble_eq_true rfl) rfl (fun t11 r10 ht11 => ht11)
      refine (show TT cX12_refuse RX12 false CT0 CN0 _ _ _ none 0 [_, _] [] _ _ from ?_)
      refine tt_aload_n (q := 1) dX12_refuse_0 rfl rfl ?_
      refine tt_getR (q := 4) dX12_refuse_1 fl_X12_7 or_102_0 (Nat.le_of_ble_eq_true rfl) rfl rfl ?_
      refine tt_iload_n (q := 5) dX12_refuse_4 rfl rfl ?_
      refine tt_inegE (v := nI 6) (q := 6) dX12_refuse_5 (by decide) rfl ?_
      refine tt_dup2 (q := 7) dX12_refuse_6 rfl rfl rfl ?_
      refine tt_iald (q := 8) dX12_refuse_7 ia_103 (Nat.le_of_ble_eq_true rfl) rfl (Nat.le_of_ble_eq_true rfl : 6 < 7) rfl ?_
      refine tt_iconst (q := 9) dX12_refuse_8 ki_1 rfl ?_
      refine tt_iadd (q := 10) dX12_refuse_9 rfl ?_
      refine tt_iast (q := 11) dX12_refuse_10 ia_103 (Nat.le_of_ble_eq_true rfl) rfl (Nat.le_of_ble_eq_true rfl : 6 < 7) rfl ?_
      replace h := h _ rfl
      refine tt_iload_n (q := 12) dX12_refuse_11 rfl rfl ?_
      refine tt_iret dX12_refuse_12 ⟨rfl, _, rfl, ?_⟩
      refine tt_goto (t := 27) dX12_sum_19 rfl ?_
      exact tt_iret dX12_sum_27 ⟨rfl, _, rfl, h⟩
  · replace h := h.2 c
    refine tt_bipush (q := 7) dX12_within_5 bi_m4 rfl ?_
    refine tt_goto (t := 21) dX12_within_7 rfl ?_
    refine tt_iret dX12_within_21 ⟨rfl, _, rfl, ?_⟩
    refine sti_n_2 (q := 10) dX12_sum_9 rfl rfl rfl ?_
    refine tt_iload_n (q := 11) dX12_sum_10 rfl rfl ?_
    refine tt_if_eq (q := 14) (t := 22) dX12_sum_11 rfl rfl (fun c => absurd c (by decide)) (fun c => ?_)
    clear c
    refine tt_aload_n (q := 15) dX12_sum_14 rfl rfl ?_
    refine tt_iload_n (q := 16) dX12_sum_15 rfl rfl ?_
    refine callVi_1 (q := 19) dX12_sum_16 (Or.inr (Or.inl ⟨rfl, rfl, ⟨⟨_, _, rfl, rfl, (Nat.le_of_ble_eq_true rfl), rc_102⟩, Nat.le_of_ble_eq_true rfl, ?_⟩⟩)) (Nat.le_of_ble_eq_true rfl) rfl (fun t14 r13 ht14 => ht14)
    refine (show TT cX12_refuse RX12 false CT0 CN0 _ _ _ none 0 [_, _] [] _ _ from ?_)
    refine tt_aload_n (q := 1) dX12_refuse_0 rfl rfl ?_
    refine tt_getR (q := 4) dX12_refuse_1 fl_X12_7 or_102_0 (Nat.le_of_ble_eq_true rfl) rfl rfl ?_
    refine tt_iload_n (q := 5) dX12_refuse_4 rfl rfl ?_
    refine tt_inegE (v := nI 4) (q := 6) dX12_refuse_5 (by decide) rfl ?_
    refine tt_dup2 (q := 7) dX12_refuse_6 rfl rfl rfl ?_
    refine tt_iald (q := 8) dX12_refuse_7 ia_103 (Nat.le_of_ble_eq_true rfl) rfl (Nat.le_of_ble_eq_true rfl : 4 < 7) rfl ?_
    refine tt_iconst (q := 9) dX12_refuse_8 ki_1 rfl ?_
    refine tt_iadd (q := 10) dX12_refuse_9 rfl ?_
    refine tt_iast (q := 11) dX12_refuse_10 ia_103 (Nat.le_of_ble_eq_true rfl) rfl (Nat.le_of_ble_eq_true rfl : 4 < 7) rfl ?_
    replace h := h _ rfl
    refine tt_iload_n (q := 12) dX12_refuse_11 rfl rfl ?_
    refine tt_iret dX12_refuse_12 ⟨rfl, _, rfl, ?_⟩
    refine tt_goto (t := 27) dX12_sum_19 rfl ?_
    exact tt_iret dX12_sum_27 ⟨rfl, _, rfl, h⟩

theorem g_X12_bestPace_0 {post : SG → Int32 → Prop} {σ : SG} (h : T_X12_bestPace AF post 8 [.ref 102, .int (-9 : Int32), .int (nI 0), .int (nI 50), dum] [] σ) : T_X12_bestPace AF post 0 [.ref 102, dum, dum, dum, dum] [] σ := by
  refine tt_bipush (q := 2) dX12_bestPace_0 bi_m9 rfl ?_
  refine sti_n_1 (q := 3) dX12_bestPace_2 rfl rfl rfl ?_
  refine tt_iconst (q := 4) dX12_bestPace_3 ki_0 rfl ?_
  refine sti_n_2 (q := 5) dX12_bestPace_4 rfl rfl rfl ?_
  refine tt_bipush (q := 7) dX12_bestPace_5 bi_50 rfl ?_
  refine sti_n_3 (q := 8) dX12_bestPace_7 rfl rfl rfl ?_
  exact h
theorem g_X12_bestPace_8 {post : SG → Int32 → Prop} {σ : SG} {be : Int32} {le : Int32} {pa : Nat} (h : (pa < 2 ^ 31 ∧ ((300 < pa → post σ be) ∧ (pa ≤ 300 → (∃ p5 : SG → Int32 → Prop, IN_X12_sumBy AF σ [.ref 102, .int (nI pa)] p5 ∧ ∀ (t4 : SG) (r3 : Int32), p5 t4 r3 → ((r3 < 0 → T_X12_bestPace AF post 8 [.ref 102, .int be, .int le, .int (nI (pa + 10)), dum] [] t4) ∧ (¬ r3 < 0 → ((be < 0 → T_X12_bestPace AF post 8 [.ref 102, .int (nI pa), .int r3, .int (nI (pa + 10)), dum] [] t4) ∧ (¬ be < 0 → ((r3 ≤ le → T_X12_bestPace AF post 8 [.ref 102, .int (nI pa), .int r3, .int (nI (pa + 10)), dum] [] t4) ∧ (¬ r3 ≤ le → T_X12_bestPace AF post 8 [.ref 102, .int be, .int le, .int (nI (pa + 10)), dum] [] t4))))))))))) : T_X12_bestPace AF post 8 [.ref 102, .int be, .int le, .int (nI pa), dum] [] σ := by
  refine tt_iload_n (q := 9) dX12_bestPace_8 rfl rfl ?_
  refine tt_sipush (q := 12) dX12_bestPace_9 si_300 rfl ?_
  obtain ⟨l2, h⟩ := h
  refine tt_icmp_gt (q := 15) (t := 51) dX12_bestPace_12 rfl rfl (fun c => ?_) (fun c => ?_)
  · replace h := h.1 ((nI_ltI (by decide) l2).1 c)
    refine tt_iload_n (q := 52) dX12_bestPace_51 rfl rfl ?_
    exact tt_iret dX12_bestPace_52 ⟨rfl, _, rfl, h⟩
  · replace h := h.2 (Nat.le_of_not_lt (fun z => c ((nI_ltI (by decide) l2).2 z)))
    refine tt_aload_n (q := 16) dX12_bestPace_15 rfl rfl ?_
    refine tt_iload_n (q := 17) dX12_bestPace_16 rfl rfl ?_
    obtain ⟨p5, hp6, h⟩ := h
    refine callVi_1 (q := 20) dX12_bestPace_17 (⟨rfl, rfl, hp6⟩) (Nat.le_of_ble_eq_true rfl) rfl (fun t4 r3 hr7 => ?_)
    replace h := h t4 r3 hr7
    refine sti_4 (q := 22) dX12_bestPace_20 rfl rfl ?_
    refine tt_iload (q := 24) dX12_bestPace_22 rfl rfl ?_
    refine tt_if_lt (q := 27) (t := 45) dX12_bestPace_24 rfl rfl (fun c => ?_) (fun c => ?_)
    · replace h := h.1 c
      refine inc_3 (q := 48) dX12_bestPace_45 (nI_inc10 _) rfl rfl ?_
      refine tt_goto (t := 8) dX12_bestPace_48 rfl ?_
      refine tt_wk (L2 := [_, _, _, _, dum]) ⟨Or.inl rfl, Or.inl rfl, Or.inl rfl, Or.inl rfl, Or.inr rfl, trivial⟩ ?_
      exact h
    · replace h := h.2 c
      refine tt_iload_n (q := 28) dX12_bestPace_27 rfl rfl ?_
      refine tt_if_lt (q := 31) (t := 40) dX12_bestPace_28 rfl rfl (fun c => ?_) (fun c => ?_)
      · replace h := h.1 c
        refine tt_iload_n (q := 41) dX12_bestPace_40 rfl rfl ?_
        refine sti_n_1 (q := 42) dX12_bestPace_41 rfl rfl rfl ?_
        refine tt_iload (q := 44) dX12_bestPace_42 rfl rfl ?_
        refine sti_n_2 (q := 45) dX12_bestPace_44 rfl rfl rfl ?_
        refine inc_3 (q := 48) dX12_bestPace_45 (nI_inc10 _) rfl rfl ?_
        refine tt_goto (t := 8) dX12_bestPace_48 rfl ?_
        refine tt_wk (L2 := [_, _, _, _, dum]) ⟨Or.inl rfl, Or.inl rfl, Or.inl rfl, Or.inl rfl, Or.inr rfl, trivial⟩ ?_
        exact h
      · replace h := h.2 c
        refine tt_iload (q := 33) dX12_bestPace_31 rfl rfl ?_
        refine tt_iload_n (q := 34) dX12_bestPace_33 rfl rfl ?_
        refine tt_icmp_le (q := 37) (t := 40) dX12_bestPace_34 rfl rfl (fun c => ?_) (fun c => ?_)
        · replace h := h.1 c
          refine tt_iload_n (q := 41) dX12_bestPace_40 rfl rfl ?_
          refine sti_n_1 (q := 42) dX12_bestPace_41 rfl rfl rfl ?_
          refine tt_iload (q := 44) dX12_bestPace_42 rfl rfl ?_
          refine sti_n_2 (q := 45) dX12_bestPace_44 rfl rfl rfl ?_
          refine inc_3 (q := 48) dX12_bestPace_45 (nI_inc10 _) rfl rfl ?_
          refine tt_goto (t := 8) dX12_bestPace_48 rfl ?_
          refine tt_wk (L2 := [_, _, _, _, dum]) ⟨Or.inl rfl, Or.inl rfl, Or.inl rfl, Or.inl rfl, Or.inr rfl, trivial⟩ ?_
          exact h
        · replace h := h.2 c
          refine tt_goto (t := 45) dX12_bestPace_37 rfl ?_
          refine inc_3 (q := 48) dX12_bestPace_45 (nI_inc10 _) rfl rfl ?_
          refine tt_goto (t := 8) dX12_bestPace_48 rfl ?_
          refine tt_wk (L2 := [_, _, _, _, dum]) ⟨Or.inl rfl, Or.inl rfl, Or.inl rfl, Or.inl rfl, Or.inr rfl, trivial⟩ ?_
          exact h

theorem g_X12_learn_0 {post : SG → Int32 → Prop} {σ : SG} {k : Int32} (h : ((k < 0 → (∀ s8 : SG, s8 = up σ 103 1 ((σ 103 1) + (nI 1)) → post s8 (-1 : Int32))) ∧ (¬ k < 0 → (((σ 104 2) ≤ k → (∀ s12 : SG, s12 = up σ 103 1 ((σ 103 1) + (nI 1)) → post s12 (-1 : Int32))) ∧ (¬ (σ 104 2) ≤ k → (∃ j16 : Nat, (((nI 185) + ((nI 3) * k)) + (nI 1)) = nI j16 ∧ j16 < 197 ∧ (∃ p20 : SG → Int32 → Prop, IN_X12_solvesOf AF σ [.ref 102] p20 ∧ ∀ (t19 : SG) (r18 : Int32), p20 t19 r18 → T_X12_learn AF post 33 [.ref 102, .int k, .int (σ 104 j16), .int r18, .int (-9 : Int32), .int (nI 0), dum] [] t19))))))) : T_X12_learn AF post 0 [.ref 102, .int k, dum, dum, dum, dum, dum] [] σ := by
  refine tt_aload_n (q := 1) dX12_learn_0 rfl rfl ?_
  refine tt_iload_n (q := 2) dX12_learn_1 rfl rfl ?_
  refine callVi_1 (q := 5) dX12_learn_2 (Or.inl ⟨rfl, rfl, ⟨⟨_, _, rfl, rfl, (Nat.le_of_ble_eq_true rfl), rc_102⟩, Nat.le_of_ble_eq_true rfl, ?_⟩⟩) (Nat.le_of_ble_eq_true rfl) rfl (fun t2 r1 ht2 => ht2)
  refine (show TT cX12_isStep RX12 false CT_X12_isStep CN0 _ _ _ none 0 [_, _] [] _ _ from ?_)
  refine tt_iload_n (q := 1) dX12_isStep_0 rfl rfl ?_
  refine tt_aload_n (q := 2) dX12_isStep_1 rfl rfl ?_
  refine tt_getR (q := 5) dX12_isStep_2 fl_X12_13 or_102_1 (Nat.le_of_ble_eq_true rfl) rfl rfl ?_
  refine tt_iconst (q := 6) dX12_isStep_5 ki_2 rfl ?_
  refine tt_iald (q := 7) dX12_isStep_6 ia_104 (Nat.le_of_ble_eq_true rfl) rfl (Nat.le_of_ble_eq_true rfl : 2 < 197) rfl ?_
  refine callSi_2 (q := 10) dX12_isStep_7 (⟨rfl, rfl, ⟨rfl, Nat.le_of_ble_eq_true rfl, ?_⟩⟩) (Nat.le_of_ble_eq_true rfl) rfl (fun t4 r3 ht4 => ht4)
  refine (show TT cX12_isIn RX12 false CT0 CN0 _ _ _ none 0 [_, _] [] _ _ from ?_)
  refine tt_iload_n (q := 1) dX12_isIn_0 rfl rfl ?_
  refine tt_if_lt (q := 4) (t := 13) dX12_isIn_1 rfl rfl (fun c => ?_) (fun c => ?_)
  · replace h := h.1 c
    refine tt_iconst (q := 14) dX12_isIn_13 ki_0 rfl ?_
    refine tt_iret dX12_isIn_14 ⟨rfl, _, rfl, Or.inl nI_0, ?_⟩
    refine tt_iret dX12_isStep_10 ⟨rfl, _, rfl, Or.inl nI_0, ?_⟩
    refine tt_if_ne (q := 8) (t := 14) dX12_learn_5 rfl rfl (fun c => absurd c (by decide)) (fun c => ?_)
    clear c
    refine tt_aload_n (q := 9) dX12_learn_8 rfl rfl ?_
    refine tt_iconst (q := 10) dX12_learn_9 ki_m1 rfl ?_
    refine callVi_1 (q := 13) dX12_learn_10 (Or.inr (Or.inl ⟨rfl, rfl, ⟨⟨_, _, rfl, rfl, (Nat.le_of_ble_eq_true rfl), rc_102⟩, Nat.le_of_ble_eq_true rfl, ?_⟩⟩)) (Nat.le_of_ble_eq_true rfl) rfl (fun t7 r6 ht7 => ht7)
    refine (show TT cX12_refuse RX12 false CT0 CN0 _ _ _ none 0 [_, _] [] _ _ from ?_)
    refine tt_aload_n (q := 1) dX12_refuse_0 rfl rfl ?_
    refine tt_getR (q := 4) dX12_refuse_1 fl_X12_7 or_102_0 (Nat.le_of_ble_eq_true rfl) rfl rfl ?_
    refine tt_iload_n (q := 5) dX12_refuse_4 rfl rfl ?_
    refine tt_inegE (v := nI 1) (q := 6) dX12_refuse_5 (by decide) rfl ?_
    refine tt_dup2 (q := 7) dX12_refuse_6 rfl rfl rfl ?_
    refine tt_iald (q := 8) dX12_refuse_7 ia_103 (Nat.le_of_ble_eq_true rfl) rfl (Nat.le_of_ble_eq_true rfl : 1 < 7) rfl ?_
    refine tt_iconst (q := 9) dX12_refuse_8 ki_1 rfl ?_
    refine tt_iadd (q := 10) dX12_refuse_9 rfl ?_
    refine tt_iast (q := 11) dX12_refuse_10 ia_103 (Nat.le_of_ble_eq_true rfl) rfl (Nat.le_of_ble_eq_true rfl : 1 < 7) rfl ?_
    replace h := h _ rfl
    refine tt_iload_n (q := 12) dX12_refuse_11 rfl rfl ?_
    refine tt_iret dX12_refuse_12 ⟨rfl, _, rfl, ?_⟩
    exact tt_iret dX12_learn_13 ⟨rfl, _, rfl, h⟩
  · replace h := h.2 c
    refine tt_iload_n (q := 5) dX12_isIn_4 rfl rfl ?_
    refine tt_iload_n (q := 6) dX12_isIn_5 rfl rfl ?_
    refine tt_icmp_ge (q := 9) (t := 13) dX12_isIn_6 rfl rfl (fun c => ?_) (fun c => ?_)
    · replace h := h.1 c
      refine tt_iconst (q := 14) dX12_isIn_13 ki_0 rfl ?_
      refine tt_iret dX12_isIn_14 ⟨rfl, _, rfl, Or.inl nI_0, ?_⟩
      refine tt_iret dX12_isStep_10 ⟨rfl, _, rfl, Or.inl nI_0, ?_⟩
      refine tt_if_ne (q := 8) (t := 14) dX12_learn_5 rfl rfl (fun c => absurd c (by decide)) (fun c => ?_)
      clear c
      refine tt_aload_n (q := 9) dX12_learn_8 rfl rfl ?_
      refine tt_iconst (q := 10) dX12_learn_9 ki_m1 rfl ?_
      refine callVi_1 (q := 13) dX12_learn_10 (Or.inr (Or.inl ⟨rfl, rfl, ⟨⟨_, _, rfl, rfl, (Nat.le_of_ble_eq_true rfl), rc_102⟩, Nat.le_of_ble_eq_true rfl, ?_⟩⟩)) (Nat.le_of_ble_eq_true rfl) rfl (fun t11 r10 ht11 => ht11)
      refine (show TT cX12_refuse RX12 false CT0 CN0 _ _ _ none 0 [_, _] [] _ _ from ?_)
      refine tt_aload_n (q := 1) dX12_refuse_0 rfl rfl ?_
      refine tt_getR (q := 4) dX12_refuse_1 fl_X12_7 or_102_0 (Nat.le_of_ble_eq_true rfl) rfl rfl ?_
      refine tt_iload_n (q := 5) dX12_refuse_4 rfl rfl ?_
      refine tt_inegE (v := nI 1) (q := 6) dX12_refuse_5 (by decide) rfl ?_
      refine tt_dup2 (q := 7) dX12_refuse_6 rfl rfl rfl ?_
      refine tt_iald (q := 8) dX12_refuse_7 ia_103 (Nat.le_of_ble_eq_true rfl) rfl (Nat.le_of_ble_eq_true rfl : 1 < 7) rfl ?_
      refine tt_iconst (q := 9) dX12_refuse_8 ki_1 rfl ?_
      refine tt_iadd (q := 10) dX12_refuse_9 rfl ?_
      refine tt_iast (q := 11) dX12_refuse_10 ia_103 (Nat.le_of_ble_eq_true rfl) rfl (Nat.le_of_ble_eq_true rfl : 1 < 7) rfl ?_
      replace h := h _ rfl
      refine tt_iload_n (q := 12) dX12_refuse_11 rfl rfl ?_
      refine tt_iret dX12_refuse_12 ⟨rfl, _, rfl, ?_⟩
      exact tt_iret dX12_learn_13 ⟨rfl, _, rfl, h⟩
    · replace h := h.2 c
      refine tt_iconst (q := 10) dX12_isIn_9 ki_1 rfl ?_
      refine tt_goto (t := 14) dX12_isIn_10 rfl ?_
      refine tt_iret dX12_isIn_14 ⟨rfl, _, rfl, Or.inr rfl, ?_⟩
      refine tt_iret dX12_isStep_10 ⟨rfl, _, rfl, Or.inr rfl, ?_⟩
      refine tt_if_ne (q := 8) (t := 14) dX12_learn_5 rfl rfl (fun c => ?_) (fun c => absurd c (by decide))
      clear c
      refine tt_aload_n (q := 15) dX12_learn_14 rfl rfl ?_
      refine tt_iload_n (q := 16) dX12_learn_15 rfl rfl ?_
      refine tt_iconst (q := 17) dX12_learn_16 ki_1 rfl ?_
      refine callVi_2 (q := 20) dX12_learn_17 (Or.inr (Or.inr (Or.inl ⟨rfl, rfl, ⟨⟨_, _, rfl, rfl, (Nat.le_of_ble_eq_true rfl), rc_102⟩, Nat.le_of_ble_eq_true rfl, ?_⟩⟩))) (Nat.le_of_ble_eq_true rfl) rfl (fun t14 r13 ht14 => ht14)
      refine (show TT cX12_stepOf RX12 false CT0 CN0 _ _ _ none 0 [_, _, _] [] _ _ from ?_)
      refine tt_aload_n (q := 1) dX12_stepOf_0 rfl rfl ?_
      refine tt_getR (q := 4) dX12_stepOf_1 fl_X12_13 or_102_1 (Nat.le_of_ble_eq_true rfl) rfl rfl ?_
      refine tt_sipush (q := 7) dX12_stepOf_4 si_185 rfl ?_
      refine tt_iconst (q := 8) dX12_stepOf_7 ki_3 rfl ?_
      refine tt_iload_n (q := 9) dX12_stepOf_8 rfl rfl ?_
      refine tt_imul (q := 10) dX12_stepOf_9 rfl ?_
      refine tt_iadd (q := 11) dX12_stepOf_10 rfl ?_
      refine tt_iload_n (q := 12) dX12_stepOf_11 rfl rfl ?_
      refine tt_iadd (q := 13) dX12_stepOf_12 rfl ?_
      obtain ⟨j16, e17, l15, h⟩ := h
      refine tt_iald (q := 14) dX12_stepOf_13 ia_104 (Nat.le_of_ble_eq_true rfl) e17 l15 rfl ?_
      refine tt_iret dX12_stepOf_14 ⟨rfl, _, rfl, ?_⟩
      refine sti_n_2 (q := 21) dX12_learn_20 rfl rfl rfl ?_
      refine tt_aload_n (q := 22) dX12_learn_21 rfl rfl ?_
      obtain ⟨p20, hp21, h⟩ := h
      refine callVi_0 (q := 25) dX12_learn_22 (Or.inr (Or.inr (Or.inr (⟨rfl, rfl, hp21⟩)))) (Nat.le_of_ble_eq_true rfl) rfl (fun t19 r18 hr22 => ?_)
      replace h := h t19 r18 hr22
      refine sti_n_3 (q := 26) dX12_learn_25 rfl rfl rfl ?_
      refine tt_bipush (q := 28) dX12_learn_26 bi_m9 rfl ?_
      refine sti_4 (q := 30) dX12_learn_28 rfl rfl ?_
      refine tt_iconst (q := 31) dX12_learn_30 ki_0 rfl ?_
      refine sti_5 (q := 33) dX12_learn_31 rfl rfl ?_
      exact h
theorem g_X12_learn_33 {post : SG → Int32 → Prop} {σ : SG} {k : Nat} {was : Int32} {mo : Int32} {be : Int32} {r : Nat} (h : (((σ 104 1) ≤ (nI r) → (185 + (3 * k) + 1 < 197 ∧ (∀ s3 : SG, s3 = up σ 104 (185 + (3 * k) + 1) was → post s3 be))) ∧ (¬ (σ 104 1) ≤ (nI r) → ((¬ ((was >>> ((nI r) &&& 31)) &&& (nI 1)) = (nI 1) → (185 + (3 * k) + 1 < 197 ∧ (∀ s6 : SG, s6 = up σ 104 (185 + (3 * k) + 1) (was ||| ((nI 1) <<< ((nI r) &&& 31))) → (∃ p9 : SG → Int32 → Prop, IN_X12_solvesOf AF s6 [.ref 102] p9 ∧ ∀ (t8 : SG) (r7 : Int32), p9 t8 r7 → ((mo < r7 → T_X12_learn AF post 33 [.ref 102, .int (nI k), .int was, .int r7, .int (nI r), .int (nI (r + 1)), dum] [] t8) ∧ (¬ mo < r7 → T_X12_learn AF post 33 [.ref 102, .int (nI k), .int was, .int mo, .int be, .int (nI (r + 1)), dum] [] t8)))))) ∧ (((was >>> ((nI r) &&& 31)) &&& (nI 1)) = (nI 1) → T_X12_learn AF post 33 [.ref 102, .int (nI k), .int was, .int mo, .int be, .int (nI (r + 1)), dum] [] σ))))) : T_X12_learn AF post 33 [.ref 102, .int (nI k), .int was, .int mo, .int be, .int (nI r), dum] [] σ := by
  refine tt_iload (q := 35) dX12_learn_33 rfl rfl ?_
  refine tt_aload_n (q := 36) dX12_learn_35 rfl rfl ?_
  refine tt_getR (q := 39) dX12_learn_36 fl_X12_13 or_102_1 (Nat.le_of_ble_eq_true rfl) rfl rfl ?_
  refine tt_iconst (q := 40) dX12_learn_39 ki_1 rfl ?_
  refine tt_iald (q := 41) dX12_learn_40 ia_104 (Nat.le_of_ble_eq_true rfl) rfl (Nat.le_of_ble_eq_true rfl : 1 < 197) rfl ?_
  refine tt_icmp_ge (q := 44) (t := 105) dX12_learn_41 rfl rfl (fun c => ?_) (fun c => ?_)
  · replace h := h.1 c
    refine tt_aload_n (q := 106) dX12_learn_105 rfl rfl ?_
    refine tt_getR (q := 109) dX12_learn_106 fl_X12_13 or_102_1 (Nat.le_of_ble_eq_true rfl) rfl rfl ?_
    refine tt_sipush (q := 112) dX12_learn_109 si_185 rfl ?_
    refine tt_iconst (q := 113) dX12_learn_112 ki_3 rfl ?_
    refine tt_iload_n (q := 114) dX12_learn_113 rfl rfl ?_
    refine tt_imulN (q := 115) dX12_learn_114 rfl ?_
    refine tt_iaddN (q := 116) dX12_learn_115 rfl ?_
    refine tt_iconst (q := 117) dX12_learn_116 ki_1 rfl ?_
    refine tt_iaddN (q := 118) dX12_learn_117 rfl ?_
    refine tt_iload_n (q := 119) dX12_learn_118 rfl rfl ?_
    obtain ⟨l2, h⟩ := h
    refine tt_iast (q := 120) dX12_learn_119 ia_104 (Nat.le_of_ble_eq_true rfl) rfl l2 rfl ?_
    replace h := h _ rfl
    refine tt_iload (q := 122) dX12_learn_120 rfl rfl ?_
    exact tt_iret dX12_learn_122 ⟨rfl, _, rfl, h⟩
  · replace h := h.2 c
    refine tt_iload_n (q := 45) dX12_learn_44 rfl rfl ?_
    refine tt_iload (q := 47) dX12_learn_45 rfl rfl ?_
    refine tt_ishr (q := 48) dX12_learn_47 rfl ?_
    refine tt_iconst (q := 49) dX12_learn_48 ki_1 rfl ?_
    refine tt_iand (q := 50) dX12_learn_49 rfl ?_
    refine tt_iconst (q := 51) dX12_learn_50 ki_1 rfl ?_
    refine tt_icmp_ne (q := 54) (t := 57) dX12_learn_51 rfl rfl (fun c => ?_) (fun c => ?_)
    · replace h := h.1 c
      refine tt_aload_n (q := 58) dX12_learn_57 rfl rfl ?_
      refine tt_getR (q := 61) dX12_learn_58 fl_X12_13 or_102_1 (Nat.le_of_ble_eq_true rfl) rfl rfl ?_
      refine tt_sipush (q := 64) dX12_learn_61 si_185 rfl ?_
      refine tt_iconst (q := 65) dX12_learn_64 ki_3 rfl ?_
      refine tt_iload_n (q := 66) dX12_learn_65 rfl rfl ?_
      refine tt_imulN (q := 67) dX12_learn_66 rfl ?_
      refine tt_iaddN (q := 68) dX12_learn_67 rfl ?_
      refine tt_iconst (q := 69) dX12_learn_68 ki_1 rfl ?_
      refine tt_iaddN (q := 70) dX12_learn_69 rfl ?_
      refine tt_iload_n (q := 71) dX12_learn_70 rfl rfl ?_
      refine tt_iconst (q := 72) dX12_learn_71 ki_1 rfl ?_
      refine tt_iload (q := 74) dX12_learn_72 rfl rfl ?_
      refine tt_ishl (q := 75) dX12_learn_74 rfl ?_
      refine tt_ior (q := 76) dX12_learn_75 rfl ?_
      obtain ⟨l5, h⟩ := h
      refine tt_iast (q := 77) dX12_learn_76 ia_104 (Nat.le_of_ble_eq_true rfl) rfl l5 rfl ?_
      replace h := h _ rfl
      refine tt_aload_n (q := 78) dX12_learn_77 rfl rfl ?_
      obtain ⟨p9, hp10, h⟩ := h
      refine callVi_0 (q := 81) dX12_learn_78 (Or.inr (Or.inr (Or.inr (⟨rfl, rfl, hp10⟩)))) (Nat.le_of_ble_eq_true rfl) rfl (fun t8 r7 hr11 => ?_)
      replace h := h t8 r7 hr11
      refine sti_6 (q := 83) dX12_learn_81 rfl rfl ?_
      refine tt_iload (q := 85) dX12_learn_83 rfl rfl ?_
      refine tt_iload_n (q := 86) dX12_learn_85 rfl rfl ?_
      refine tt_icmp_gt (q := 89) (t := 92) dX12_learn_86 rfl rfl (fun c => ?_) (fun c => ?_)
      · replace h := h.1 c
        refine tt_iload (q := 94) dX12_learn_92 rfl rfl ?_
        refine sti_4 (q := 96) dX12_learn_94 rfl rfl ?_
        refine tt_iload (q := 98) dX12_learn_96 rfl rfl ?_
        refine sti_n_3 (q := 99) dX12_learn_98 rfl rfl rfl ?_
        refine inc_5 (q := 102) dX12_learn_99 (nI_inc1 _) rfl rfl ?_
        refine tt_goto (t := 33) dX12_learn_102 rfl ?_
        refine tt_wk (L2 := [_, _, _, _, _, _, dum]) ⟨Or.inl rfl, Or.inl rfl, Or.inl rfl, Or.inl rfl, Or.inl rfl, Or.inl rfl, Or.inr rfl, trivial⟩ ?_
        exact h
      · replace h := h.2 c
        refine tt_goto (t := 99) dX12_learn_89 rfl ?_
        refine inc_5 (q := 102) dX12_learn_99 (nI_inc1 _) rfl rfl ?_
        refine tt_goto (t := 33) dX12_learn_102 rfl ?_
        refine tt_wk (L2 := [_, _, _, _, _, _, dum]) ⟨Or.inl rfl, Or.inl rfl, Or.inl rfl, Or.inl rfl, Or.inl rfl, Or.inl rfl, Or.inr rfl, trivial⟩ ?_
        exact h
    · replace h := h.2 c
      refine tt_goto (t := 99) dX12_learn_54 rfl ?_
      refine inc_5 (q := 102) dX12_learn_99 (nI_inc1 _) rfl rfl ?_
      refine tt_goto (t := 33) dX12_learn_102 rfl ?_
      exact h

theorem g_X12_five_0 {post : SG → Int32 → Prop} {σ : SG} {a : Int32} (h : (((nI 1) ≤ a → ((a ≤ (nI 9999) → ((¬ (σ 102 24) = (nI 5) → (∃ j7 : Nat, (σ 102 24) = nI j7 ∧ j7 < 5 ∧ (∀ s9 : SG, s9 = up σ 118 j7 a → (∀ s10 : SG, s10 = up s9 102 24 ((s9 102 24) + (nI 1)) → post s10 (s10 102 24))))) ∧ ((σ 102 24) = (nI 5) → (∀ s13 : SG, s13 = up σ 103 6 ((σ 103 6) + (nI 1)) → post s13 (-6 : Int32))))) ∧ (¬ a ≤ (nI 9999) → (∀ s16 : SG, s16 = up σ 103 6 ((σ 103 6) + (nI 1)) → post s16 (-6 : Int32))))) ∧ (¬ (nI 1) ≤ a → (∀ s19 : SG, s19 = up σ 103 4 ((σ 103 4) + (nI 1)) → post s19 (-4 : Int32))))) : T_X12_five AF post 0 [.ref 102, .int a, dum] [] σ := by
  refine tt_iload_n (q := 1) dX12_five_0 rfl rfl ?_
  refine tt_iconst (q := 2) dX12_five_1 ki_1 rfl ?_
  refine tt_sipush (q := 5) dX12_five_2 si_9999 rfl ?_
  refine callSi_3 (q := 8) dX12_five_5 (Or.inl ⟨rfl, rfl, ⟨rfl, Nat.le_of_ble_eq_true rfl, ?_⟩⟩) (Nat.le_of_ble_eq_true rfl) rfl (fun t2 r1 ht2 => ht2)
  refine (show TT cX12_within RX12 false CT0 CN0 _ _ _ none 0 [_, _, _] [] _ _ from ?_)
  refine tt_iload_n (q := 1) dX12_within_0 rfl rfl ?_
  refine tt_iload_n (q := 2) dX12_within_1 rfl rfl ?_
  refine tt_icmp_ge (q := 5) (t := 10) dX12_within_2 rfl rfl (fun c => ?_) (fun c => ?_)
  · replace h := h.1 c
    refine tt_iload_n (q := 11) dX12_within_10 rfl rfl ?_
    refine tt_iload_n (q := 12) dX12_within_11 rfl rfl ?_
    refine tt_icmp_le (q := 15) (t := 20) dX12_within_12 rfl rfl (fun c => ?_) (fun c => ?_)
    · replace h := h.1 c
      refine tt_iconst (q := 21) dX12_within_20 ki_0 rfl ?_
      refine tt_iret dX12_within_21 ⟨rfl, _, rfl, ?_⟩
      refine sti_n_2 (q := 9) dX12_five_8 rfl rfl rfl ?_
      refine tt_iload_n (q := 10) dX12_five_9 rfl rfl ?_
      refine tt_if_ne (q := 13) (t := 24) dX12_five_10 rfl rfl (fun c => absurd c (by decide)) (fun c => ?_)
      clear c
      refine tt_aload_n (q := 14) dX12_five_13 rfl rfl ?_
      refine tt_getI (q := 17) dX12_five_14 fl_X12_205 oi_102_24 (Nat.le_of_ble_eq_true rfl) rfl ?_
      refine tt_iconst (q := 18) dX12_five_17 ki_5 rfl ?_
      refine tt_icmp_ne (q := 21) (t := 24) dX12_five_18 rfl rfl (fun c => ?_) (fun c => ?_)
      · replace h := h.1 c
        refine tt_iload_n (q := 25) dX12_five_24 rfl rfl ?_
        refine tt_if_eq (q := 28) (t := 34) dX12_five_25 rfl rfl (fun c => ?_) (fun c => absurd c (by decide))
        clear c
        refine tt_aload_n (q := 35) dX12_five_34 rfl rfl ?_
        refine tt_getR (q := 38) dX12_five_35 fl_X12_55 or_102_23 (Nat.le_of_ble_eq_true rfl) rfl rfl ?_
        refine tt_aload_n (q := 39) dX12_five_38 rfl rfl ?_
        refine tt_getI (q := 42) dX12_five_39 fl_X12_205 oi_102_24 (Nat.le_of_ble_eq_true rfl) rfl ?_
        refine tt_iload_n (q := 43) dX12_five_42 rfl rfl ?_
        obtain ⟨j7, e8, l6, h⟩ := h
        refine tt_iast (q := 44) dX12_five_43 ia_118 (Nat.le_of_ble_eq_true rfl) e8 l6 rfl ?_
        replace h := h _ rfl
        refine tt_aload_n (q := 45) dX12_five_44 rfl rfl ?_
        refine tt_dup (q := 46) dX12_five_45 rfl rfl ?_
        refine tt_getI (q := 49) dX12_five_46 fl_X12_205 oi_102_24 (Nat.le_of_ble_eq_true rfl) rfl ?_
        refine tt_iconst (q := 50) dX12_five_49 ki_1 rfl ?_
        refine tt_iadd (q := 51) dX12_five_50 rfl ?_
        refine tt_putI (q := 54) dX12_five_51 fl_X12_205 oi_102_24 (fp_12_24 _) (Nat.le_of_ble_eq_true rfl) rfl ?_
        replace h := h _ rfl
        refine tt_aload_n (q := 55) dX12_five_54 rfl rfl ?_
        refine tt_getI (q := 58) dX12_five_55 fl_X12_205 oi_102_24 (Nat.le_of_ble_eq_true rfl) rfl ?_
        exact tt_iret dX12_five_58 ⟨rfl, _, rfl, h⟩
      · replace h := h.2 c
        refine tt_bipush (q := 23) dX12_five_21 bi_m6 rfl ?_
        refine sti_n_2 (q := 24) dX12_five_23 rfl rfl rfl ?_
        refine tt_iload_n (q := 25) dX12_five_24 rfl rfl ?_
        refine tt_if_eq (q := 28) (t := 34) dX12_five_25 rfl rfl (fun c => absurd c (by decide)) (fun c => ?_)
        clear c
        refine tt_aload_n (q := 29) dX12_five_28 rfl rfl ?_
        refine tt_iload_n (q := 30) dX12_five_29 rfl rfl ?_
        refine callVi_1 (q := 33) dX12_five_30 (Or.inr (⟨rfl, rfl, ⟨⟨_, _, rfl, rfl, (Nat.le_of_ble_eq_true rfl), rc_102⟩, Nat.le_of_ble_eq_true rfl, ?_⟩⟩)) (Nat.le_of_ble_eq_true rfl) rfl (fun t12 r11 ht12 => ht12)
        refine (show TT cX12_refuse RX12 false CT0 CN0 _ _ _ none 0 [_, _] [] _ _ from ?_)
        refine tt_aload_n (q := 1) dX12_refuse_0 rfl rfl ?_
        refine tt_getR (q := 4) dX12_refuse_1 fl_X12_7 or_102_0 (Nat.le_of_ble_eq_true rfl) rfl rfl ?_
        refine tt_iload_n (q := 5) dX12_refuse_4 rfl rfl ?_
        refine tt_inegE (v := nI 6) (q := 6) dX12_refuse_5 (by decide) rfl ?_
        refine tt_dup2 (q := 7) dX12_refuse_6 rfl rfl rfl ?_
        refine tt_iald (q := 8) dX12_refuse_7 ia_103 (Nat.le_of_ble_eq_true rfl) rfl (Nat.le_of_ble_eq_true rfl : 6 < 7) rfl ?_
        refine tt_iconst (q := 9) dX12_refuse_8 ki_1 rfl ?_
        refine tt_iadd (q := 10) dX12_refuse_9 rfl ?_
        refine tt_iast (q := 11) dX12_refuse_10 ia_103 (Nat.le_of_ble_eq_true rfl) rfl (Nat.le_of_ble_eq_true rfl : 6 < 7) rfl ?_
        replace h := h _ rfl
        refine tt_iload_n (q := 12) dX12_refuse_11 rfl rfl ?_
        refine tt_iret dX12_refuse_12 ⟨rfl, _, rfl, ?_⟩
        exact tt_iret dX12_five_33 ⟨rfl, _, rfl, h⟩
    · replace h := h.2 c
      refine tt_bipush (q := 17) dX12_within_15 bi_m6 rfl ?_
      refine tt_goto (t := 21) dX12_within_17 rfl ?_
      refine tt_iret dX12_within_21 ⟨rfl, _, rfl, ?_⟩
      refine sti_n_2 (q := 9) dX12_five_8 rfl rfl rfl ?_
      refine tt_iload_n (q := 10) dX12_five_9 rfl rfl ?_
      refine tt_if_ne (q := 13) (t := 24) dX12_five_10 rfl rfl (fun c => ?_) (fun c => absurd c (by decide))
      clear c
      refine tt_iload_n (q := 25) dX12_five_24 rfl rfl ?_
      refine tt_if_eq (q := 28) (t := 34) dX12_five_25 rfl rfl (fun c => absurd c (by decide)) (fun c => ?_)
      clear c
      refine tt_aload_n (q := 29) dX12_five_28 rfl rfl ?_
      refine tt_iload_n (q := 30) dX12_five_29 rfl rfl ?_
      refine callVi_1 (q := 33) dX12_five_30 (Or.inr (⟨rfl, rfl, ⟨⟨_, _, rfl, rfl, (Nat.le_of_ble_eq_true rfl), rc_102⟩, Nat.le_of_ble_eq_true rfl, ?_⟩⟩)) (Nat.le_of_ble_eq_true rfl) rfl (fun t15 r14 ht15 => ht15)
      refine (show TT cX12_refuse RX12 false CT0 CN0 _ _ _ none 0 [_, _] [] _ _ from ?_)
      refine tt_aload_n (q := 1) dX12_refuse_0 rfl rfl ?_
      refine tt_getR (q := 4) dX12_refuse_1 fl_X12_7 or_102_0 (Nat.le_of_ble_eq_true rfl) rfl rfl ?_
      refine tt_iload_n (q := 5) dX12_refuse_4 rfl rfl ?_
      refine tt_inegE (v := nI 6) (q := 6) dX12_refuse_5 (by decide) rfl ?_
      refine tt_dup2 (q := 7) dX12_refuse_6 rfl rfl rfl ?_
      refine tt_iald (q := 8) dX12_refuse_7 ia_103 (Nat.le_of_ble_eq_true rfl) rfl (Nat.le_of_ble_eq_true rfl : 6 < 7) rfl ?_
      refine tt_iconst (q := 9) dX12_refuse_8 ki_1 rfl ?_
      refine tt_iadd (q := 10) dX12_refuse_9 rfl ?_
      refine tt_iast (q := 11) dX12_refuse_10 ia_103 (Nat.le_of_ble_eq_true rfl) rfl (Nat.le_of_ble_eq_true rfl : 6 < 7) rfl ?_
      replace h := h _ rfl
      refine tt_iload_n (q := 12) dX12_refuse_11 rfl rfl ?_
      refine tt_iret dX12_refuse_12 ⟨rfl, _, rfl, ?_⟩
      exact tt_iret dX12_five_33 ⟨rfl, _, rfl, h⟩
  · replace h := h.2 c
    refine tt_bipush (q := 7) dX12_within_5 bi_m4 rfl ?_
    refine tt_goto (t := 21) dX12_within_7 rfl ?_
    refine tt_iret dX12_within_21 ⟨rfl, _, rfl, ?_⟩
    refine sti_n_2 (q := 9) dX12_five_8 rfl rfl rfl ?_
    refine tt_iload_n (q := 10) dX12_five_9 rfl rfl ?_
    refine tt_if_ne (q := 13) (t := 24) dX12_five_10 rfl rfl (fun c => ?_) (fun c => absurd c (by decide))
    clear c
    refine tt_iload_n (q := 25) dX12_five_24 rfl rfl ?_
    refine tt_if_eq (q := 28) (t := 34) dX12_five_25 rfl rfl (fun c => absurd c (by decide)) (fun c => ?_)
    clear c
    refine tt_aload_n (q := 29) dX12_five_28 rfl rfl ?_
    refine tt_iload_n (q := 30) dX12_five_29 rfl rfl ?_
    refine callVi_1 (q := 33) dX12_five_30 (Or.inr (⟨rfl, rfl, ⟨⟨_, _, rfl, rfl, (Nat.le_of_ble_eq_true rfl), rc_102⟩, Nat.le_of_ble_eq_true rfl, ?_⟩⟩)) (Nat.le_of_ble_eq_true rfl) rfl (fun t18 r17 ht18 => ht18)
    refine (show TT cX12_refuse RX12 false CT0 CN0 _ _ _ none 0 [_, _] [] _ _ from ?_)
    refine tt_aload_n (q := 1) dX12_refuse_0 rfl rfl ?_
    refine tt_getR (q := 4) dX12_refuse_1 fl_X12_7 or_102_0 (Nat.le_of_ble_eq_true rfl) rfl rfl ?_
    refine tt_iload_n (q := 5) dX12_refuse_4 rfl rfl ?_
    refine tt_inegE (v := nI 4) (q := 6) dX12_refuse_5 (by decide) rfl ?_
    refine tt_dup2 (q := 7) dX12_refuse_6 rfl rfl rfl ?_
    refine tt_iald (q := 8) dX12_refuse_7 ia_103 (Nat.le_of_ble_eq_true rfl) rfl (Nat.le_of_ble_eq_true rfl : 4 < 7) rfl ?_
    refine tt_iconst (q := 9) dX12_refuse_8 ki_1 rfl ?_
    refine tt_iadd (q := 10) dX12_refuse_9 rfl ?_
    refine tt_iast (q := 11) dX12_refuse_10 ia_103 (Nat.le_of_ble_eq_true rfl) rfl (Nat.le_of_ble_eq_true rfl : 4 < 7) rfl ?_
    replace h := h _ rfl
    refine tt_iload_n (q := 12) dX12_refuse_11 rfl rfl ?_
    refine tt_iret dX12_refuse_12 ⟨rfl, _, rfl, ?_⟩
    exact tt_iret dX12_five_33 ⟨rfl, _, rfl, h⟩

theorem g_X12_middleSum_0 {post : SG → Int32 → Prop} {σ : SG} (h : T_X12_middleSum AF post 19 [.ref 102, .int (nI 0), .int (σ 118 0), .int (σ 118 0), .int (nI 0)] [] σ) : T_X12_middleSum AF post 0 [.ref 102, dum, dum, dum, dum] [] σ := by
  refine tt_iconst (q := 1) dX12_middleSum_0 ki_0 rfl ?_
  refine sti_n_1 (q := 2) dX12_middleSum_1 rfl rfl rfl ?_
  refine tt_aload_n (q := 3) dX12_middleSum_2 rfl rfl ?_
  refine tt_getR (q := 6) dX12_middleSum_3 fl_X12_55 or_102_23 (Nat.le_of_ble_eq_true rfl) rfl rfl ?_
  refine tt_iconst (q := 7) dX12_middleSum_6 ki_0 rfl ?_
  refine tt_iald (q := 8) dX12_middleSum_7 ia_118 (Nat.le_of_ble_eq_true rfl) rfl (Nat.le_of_ble_eq_true rfl : 0 < 5) rfl ?_
  refine sti_n_2 (q := 9) dX12_middleSum_8 rfl rfl rfl ?_
  refine tt_aload_n (q := 10) dX12_middleSum_9 rfl rfl ?_
  refine tt_getR (q := 13) dX12_middleSum_10 fl_X12_55 or_102_23 (Nat.le_of_ble_eq_true rfl) rfl rfl ?_
  refine tt_iconst (q := 14) dX12_middleSum_13 ki_0 rfl ?_
  refine tt_iald (q := 15) dX12_middleSum_14 ia_118 (Nat.le_of_ble_eq_true rfl) rfl (Nat.le_of_ble_eq_true rfl : 0 < 5) rfl ?_
  refine sti_n_3 (q := 16) dX12_middleSum_15 rfl rfl rfl ?_
  refine tt_iconst (q := 17) dX12_middleSum_16 ki_0 rfl ?_
  refine sti_4 (q := 19) dX12_middleSum_17 rfl rfl ?_
  exact h
theorem g_X12_middleSum_19 {post : SG → Int32 → Prop} {σ : SG} {sum : Int32} {le : Int32} {mo : Int32} {k : Nat} (h : (k < 2 ^ 31 ∧ ((5 ≤ k → post σ ((sum - le) - mo)) ∧ (k < 5 → (k < 5 ∧ (k < 5 ∧ ((le ≤ (σ 118 k) → (k < 5 ∧ (((σ 118 k) ≤ mo → T_X12_middleSum AF post 19 [.ref 102, .int (sum + (σ 118 k)), .int le, .int mo, .int (nI (k + 1))] [] σ) ∧ (¬ (σ 118 k) ≤ mo → (k < 5 ∧ T_X12_middleSum AF post 19 [.ref 102, .int (sum + (σ 118 k)), .int le, .int (σ 118 k), .int (nI (k + 1))] [] σ))))) ∧ (¬ le ≤ (σ 118 k) → (k < 5 ∧ (k < 5 ∧ (((σ 118 k) ≤ mo → T_X12_middleSum AF post 19 [.ref 102, .int (sum + (σ 118 k)), .int (σ 118 k), .int mo, .int (nI (k + 1))] [] σ) ∧ (¬ (σ 118 k) ≤ mo → (k < 5 ∧ T_X12_middleSum AF post 19 [.ref 102, .int (sum + (σ 118 k)), .int (σ 118 k), .int (σ 118 k), .int (nI (k + 1))] [] σ))))))))))))) : T_X12_middleSum AF post 19 [.ref 102, .int sum, .int le, .int mo, .int (nI k)] [] σ := by
  refine tt_iload (q := 21) dX12_middleSum_19 rfl rfl ?_
  refine tt_iconst (q := 22) dX12_middleSum_21 ki_5 rfl ?_
  obtain ⟨l2, h⟩ := h
  refine tt_icmp_ge (q := 25) (t := 87) dX12_middleSum_22 rfl rfl (fun c => ?_) (fun c => ?_)
  · replace h := h.1 ((nI_leI (by decide) l2).1 c)
    refine tt_iload_n (q := 88) dX12_middleSum_87 rfl rfl ?_
    refine tt_iload_n (q := 89) dX12_middleSum_88 rfl rfl ?_
    refine tt_isub (q := 90) dX12_middleSum_89 rfl ?_
    refine tt_iload_n (q := 91) dX12_middleSum_90 rfl rfl ?_
    refine tt_isub (q := 92) dX12_middleSum_91 rfl ?_
    exact tt_iret dX12_middleSum_92 ⟨rfl, _, rfl, h⟩
  · replace h := h.2 (Nat.lt_of_not_le (fun z => c ((nI_leI (by decide) l2).2 z)))
    refine tt_iload_n (q := 26) dX12_middleSum_25 rfl rfl ?_
    refine tt_aload_n (q := 27) dX12_middleSum_26 rfl rfl ?_
    refine tt_getR (q := 30) dX12_middleSum_27 fl_X12_55 or_102_23 (Nat.le_of_ble_eq_true rfl) rfl rfl ?_
    refine tt_iload (q := 32) dX12_middleSum_30 rfl rfl ?_
    obtain ⟨l3, h⟩ := h
    refine tt_iald (q := 33) dX12_middleSum_32 ia_118 (Nat.le_of_ble_eq_true rfl) rfl l3 rfl ?_
    refine tt_iadd (q := 34) dX12_middleSum_33 rfl ?_
    refine sti_n_1 (q := 35) dX12_middleSum_34 rfl rfl rfl ?_
    refine tt_aload_n (q := 36) dX12_middleSum_35 rfl rfl ?_
    refine tt_getR (q := 39) dX12_middleSum_36 fl_X12_55 or_102_23 (Nat.le_of_ble_eq_true rfl) rfl rfl ?_
    refine tt_iload (q := 41) dX12_middleSum_39 rfl rfl ?_
    obtain ⟨l4, h⟩ := h
    refine tt_iald (q := 42) dX12_middleSum_41 ia_118 (Nat.le_of_ble_eq_true rfl) rfl l4 rfl ?_
    refine tt_iload_n (q := 43) dX12_middleSum_42 rfl rfl ?_
    refine tt_icmp_ge (q := 46) (t := 56) dX12_middleSum_43 rfl rfl (fun c => ?_) (fun c => ?_)
    · replace h := h.1 c
      refine tt_iload_n (q := 57) dX12_middleSum_56 rfl rfl ?_
      refine sti_n_2 (q := 58) dX12_middleSum_57 rfl rfl rfl ?_
      refine tt_aload_n (q := 59) dX12_middleSum_58 rfl rfl ?_
      refine tt_getR (q := 62) dX12_middleSum_59 fl_X12_55 or_102_23 (Nat.le_of_ble_eq_true rfl) rfl rfl ?_
      refine tt_iload (q := 64) dX12_middleSum_62 rfl rfl ?_
      obtain ⟨l6, h⟩ := h
      refine tt_iald (q := 65) dX12_middleSum_64 ia_118 (Nat.le_of_ble_eq_true rfl) rfl l6 rfl ?_
      refine tt_iload_n (q := 66) dX12_middleSum_65 rfl rfl ?_
      refine tt_icmp_le (q := 69) (t := 79) dX12_middleSum_66 rfl rfl (fun c => ?_) (fun c => ?_)
      · replace h := h.1 c
        refine tt_iload_n (q := 80) dX12_middleSum_79 rfl rfl ?_
        refine sti_n_3 (q := 81) dX12_middleSum_80 rfl rfl rfl ?_
        refine inc_4 (q := 84) dX12_middleSum_81 (nI_inc1 _) rfl rfl ?_
        refine tt_goto (t := 19) dX12_middleSum_84 rfl ?_
        exact h
      · replace h := h.2 c
        refine tt_aload_n (q := 70) dX12_middleSum_69 rfl rfl ?_
        refine tt_getR (q := 73) dX12_middleSum_70 fl_X12_55 or_102_23 (Nat.le_of_ble_eq_true rfl) rfl rfl ?_
        refine tt_iload (q := 75) dX12_middleSum_73 rfl rfl ?_
        obtain ⟨l8, h⟩ := h
        refine tt_iald (q := 76) dX12_middleSum_75 ia_118 (Nat.le_of_ble_eq_true rfl) rfl l8 rfl ?_
        refine tt_goto (t := 80) dX12_middleSum_76 rfl ?_
        refine sti_n_3 (q := 81) dX12_middleSum_80 rfl rfl rfl ?_
        refine inc_4 (q := 84) dX12_middleSum_81 (nI_inc1 _) rfl rfl ?_
        refine tt_goto (t := 19) dX12_middleSum_84 rfl ?_
        exact h
    · replace h := h.2 c
      refine tt_aload_n (q := 47) dX12_middleSum_46 rfl rfl ?_
      refine tt_getR (q := 50) dX12_middleSum_47 fl_X12_55 or_102_23 (Nat.le_of_ble_eq_true rfl) rfl rfl ?_
      refine tt_iload (q := 52) dX12_middleSum_50 rfl rfl ?_
      obtain ⟨l9, h⟩ := h
      refine tt_iald (q := 53) dX12_middleSum_52 ia_118 (Nat.le_of_ble_eq_true rfl) rfl l9 rfl ?_
      refine tt_goto (t := 57) dX12_middleSum_53 rfl ?_
      refine sti_n_2 (q := 58) dX12_middleSum_57 rfl rfl rfl ?_
      refine tt_aload_n (q := 59) dX12_middleSum_58 rfl rfl ?_
      refine tt_getR (q := 62) dX12_middleSum_59 fl_X12_55 or_102_23 (Nat.le_of_ble_eq_true rfl) rfl rfl ?_
      refine tt_iload (q := 64) dX12_middleSum_62 rfl rfl ?_
      obtain ⟨l10, h⟩ := h
      refine tt_iald (q := 65) dX12_middleSum_64 ia_118 (Nat.le_of_ble_eq_true rfl) rfl l10 rfl ?_
      refine tt_iload_n (q := 66) dX12_middleSum_65 rfl rfl ?_
      refine tt_icmp_le (q := 69) (t := 79) dX12_middleSum_66 rfl rfl (fun c => ?_) (fun c => ?_)
      · replace h := h.1 c
        refine tt_iload_n (q := 80) dX12_middleSum_79 rfl rfl ?_
        refine sti_n_3 (q := 81) dX12_middleSum_80 rfl rfl rfl ?_
        refine inc_4 (q := 84) dX12_middleSum_81 (nI_inc1 _) rfl rfl ?_
        refine tt_goto (t := 19) dX12_middleSum_84 rfl ?_
        exact h
      · replace h := h.2 c
        refine tt_aload_n (q := 70) dX12_middleSum_69 rfl rfl ?_
        refine tt_getR (q := 73) dX12_middleSum_70 fl_X12_55 or_102_23 (Nat.le_of_ble_eq_true rfl) rfl rfl ?_
        refine tt_iload (q := 75) dX12_middleSum_73 rfl rfl ?_
        obtain ⟨l12, h⟩ := h
        refine tt_iald (q := 76) dX12_middleSum_75 ia_118 (Nat.le_of_ble_eq_true rfl) rfl l12 rfl ?_
        refine tt_goto (t := 80) dX12_middleSum_76 rfl ?_
        refine sti_n_3 (q := 81) dX12_middleSum_80 rfl rfl rfl ?_
        refine inc_4 (q := 84) dX12_middleSum_81 (nI_inc1 _) rfl rfl ?_
        refine tt_goto (t := 19) dX12_middleSum_84 rfl ?_
        exact h

theorem g_X12_middle_0 {post : SG → Int32 → Prop} {σ : SG} {a : Int32} (h : ((a < 0 → (∀ s6 : SG, s6 = up σ 103 2 ((σ 103 2) + (nI 1)) → post s6 (-2 : Int32))) ∧ (¬ a < 0 → (((nI 2) ≤ a → (∀ s10 : SG, s10 = up σ 103 2 ((σ 103 2) + (nI 1)) → post s10 (-2 : Int32))) ∧ (¬ (nI 2) ≤ a → (((σ 102 24) = (nI 5) → (∃ p14 : SG → Int32 → Prop, IN_X12_middleSum AF σ [.ref 102] p14 ∧ ∀ (t13 : SG) (r12 : Int32), p14 t13 r12 → ((¬ a = (nI 1) → (∀ s18 : SG, s18 = up t13 102 24 (nI 5) → ((¬ a = 0 → ((¬ (r12 - r12 / (nI 3) * (nI 3)) = 0 → post s18 (nI 3)) ∧ ((r12 - r12 / (nI 3) * (nI 3)) = 0 → post s18 (nI 1)))) ∧ (a = 0 → ((¬ (r12 - r12 / (nI 3) * (nI 3)) = 0 → post s18 r12) ∧ ((r12 - r12 / (nI 3) * (nI 3)) = 0 → post s18 (r12 / (nI 3)))))))) ∧ (a = (nI 1) → (∀ s22 : SG, s22 = up t13 102 24 (nI 0) → ((¬ a = 0 → ((¬ (r12 - r12 / (nI 3) * (nI 3)) = 0 → post s22 (nI 3)) ∧ ((r12 - r12 / (nI 3) * (nI 3)) = 0 → post s22 (nI 1)))) ∧ (a = 0 → ((¬ (r12 - r12 / (nI 3) * (nI 3)) = 0 → post s22 r12) ∧ ((r12 - r12 / (nI 3) * (nI 3)) = 0 → post s22 (r12 / (nI 3))))))))))) ∧ (¬ (σ 102 24) = (nI 5) → (∀ s28 : SG, s28 = up σ 103 3 ((σ 103 3) + (nI 1)) → post s28 (-3 : Int32))))))))) : T_X12_middle AF post 0 [.ref 102, .int a, dum] [] σ := by
  refine tt_iload_n (q := 1) dX12_middle_0 rfl rfl ?_
  refine tt_iconst (q := 2) dX12_middle_1 ki_2 rfl ?_
  refine callSi_2 (q := 5) dX12_middle_2 (Or.inl ⟨rfl, rfl, ⟨rfl, Nat.le_of_ble_eq_true rfl, ?_⟩⟩) (Nat.le_of_ble_eq_true rfl) rfl (fun t2 r1 ht2 => ht2)
  refine (show TT cX12_isIn RX12 false CT0 CN0 _ _ _ none 0 [_, _] [] _ _ from ?_)
  refine tt_iload_n (q := 1) dX12_isIn_0 rfl rfl ?_
  refine tt_if_lt (q := 4) (t := 13) dX12_isIn_1 rfl rfl (fun c => ?_) (fun c => ?_)
  · replace h := h.1 c
    refine tt_iconst (q := 14) dX12_isIn_13 ki_0 rfl ?_
    refine tt_iret dX12_isIn_14 ⟨rfl, _, rfl, Or.inl nI_0, ?_⟩
    refine tt_if_ne (q := 8) (t := 15) dX12_middle_5 rfl rfl (fun c => absurd c (by decide)) (fun c => ?_)
    clear c
    refine tt_aload_n (q := 9) dX12_middle_8 rfl rfl ?_
    refine tt_bipush (q := 11) dX12_middle_9 bi_m2 rfl ?_
    refine callVi_1 (q := 14) dX12_middle_11 (Or.inr (Or.inl ⟨rfl, rfl, ⟨⟨_, _, rfl, rfl, (Nat.le_of_ble_eq_true rfl), rc_102⟩, Nat.le_of_ble_eq_true rfl, ?_⟩⟩)) (Nat.le_of_ble_eq_true rfl) rfl (fun t5 r4 ht5 => ht5)
    refine (show TT cX12_refuse RX12 false CT0 CN0 _ _ _ none 0 [_, _] [] _ _ from ?_)
    refine tt_aload_n (q := 1) dX12_refuse_0 rfl rfl ?_
    refine tt_getR (q := 4) dX12_refuse_1 fl_X12_7 or_102_0 (Nat.le_of_ble_eq_true rfl) rfl rfl ?_
    refine tt_iload_n (q := 5) dX12_refuse_4 rfl rfl ?_
    refine tt_inegE (v := nI 2) (q := 6) dX12_refuse_5 (by decide) rfl ?_
    refine tt_dup2 (q := 7) dX12_refuse_6 rfl rfl rfl ?_
    refine tt_iald (q := 8) dX12_refuse_7 ia_103 (Nat.le_of_ble_eq_true rfl) rfl (Nat.le_of_ble_eq_true rfl : 2 < 7) rfl ?_
    refine tt_iconst (q := 9) dX12_refuse_8 ki_1 rfl ?_
    refine tt_iadd (q := 10) dX12_refuse_9 rfl ?_
    refine tt_iast (q := 11) dX12_refuse_10 ia_103 (Nat.le_of_ble_eq_true rfl) rfl (Nat.le_of_ble_eq_true rfl : 2 < 7) rfl ?_
    replace h := h _ rfl
    refine tt_iload_n (q := 12) dX12_refuse_11 rfl rfl ?_
    refine tt_iret dX12_refuse_12 ⟨rfl, _, rfl, ?_⟩
    exact tt_iret dX12_middle_14 ⟨rfl, _, rfl, h⟩
  · replace h := h.2 c
    refine tt_iload_n (q := 5) dX12_isIn_4 rfl rfl ?_
    refine tt_iload_n (q := 6) dX12_isIn_5 rfl rfl ?_
    refine tt_icmp_ge (q := 9) (t := 13) dX12_isIn_6 rfl rfl (fun c => ?_) (fun c => ?_)
    · replace h := h.1 c
      refine tt_iconst (q := 14) dX12_isIn_13 ki_0 rfl ?_
      refine tt_iret dX12_isIn_14 ⟨rfl, _, rfl, Or.inl nI_0, ?_⟩
      refine tt_if_ne (q := 8) (t := 15) dX12_middle_5 rfl rfl (fun c => absurd c (by decide)) (fun c => ?_)
      clear c
      refine tt_aload_n (q := 9) dX12_middle_8 rfl rfl ?_
      refine tt_bipush (q := 11) dX12_middle_9 bi_m2 rfl ?_
      refine callVi_1 (q := 14) dX12_middle_11 (Or.inr (Or.inl ⟨rfl, rfl, ⟨⟨_, _, rfl, rfl, (Nat.le_of_ble_eq_true rfl), rc_102⟩, Nat.le_of_ble_eq_true rfl, ?_⟩⟩)) (Nat.le_of_ble_eq_true rfl) rfl (fun t9 r8 ht9 => ht9)
      refine (show TT cX12_refuse RX12 false CT0 CN0 _ _ _ none 0 [_, _] [] _ _ from ?_)
      refine tt_aload_n (q := 1) dX12_refuse_0 rfl rfl ?_
      refine tt_getR (q := 4) dX12_refuse_1 fl_X12_7 or_102_0 (Nat.le_of_ble_eq_true rfl) rfl rfl ?_
      refine tt_iload_n (q := 5) dX12_refuse_4 rfl rfl ?_
      refine tt_inegE (v := nI 2) (q := 6) dX12_refuse_5 (by decide) rfl ?_
      refine tt_dup2 (q := 7) dX12_refuse_6 rfl rfl rfl ?_
      refine tt_iald (q := 8) dX12_refuse_7 ia_103 (Nat.le_of_ble_eq_true rfl) rfl (Nat.le_of_ble_eq_true rfl : 2 < 7) rfl ?_
      refine tt_iconst (q := 9) dX12_refuse_8 ki_1 rfl ?_
      refine tt_iadd (q := 10) dX12_refuse_9 rfl ?_
      refine tt_iast (q := 11) dX12_refuse_10 ia_103 (Nat.le_of_ble_eq_true rfl) rfl (Nat.le_of_ble_eq_true rfl : 2 < 7) rfl ?_
      replace h := h _ rfl
      refine tt_iload_n (q := 12) dX12_refuse_11 rfl rfl ?_
      refine tt_iret dX12_refuse_12 ⟨rfl, _, rfl, ?_⟩
      exact tt_iret dX12_middle_14 ⟨rfl, _, rfl, h⟩
    · replace h := h.2 c
      refine tt_iconst (q := 10) dX12_isIn_9 ki_1 rfl ?_
      refine tt_goto (t := 14) dX12_isIn_10 rfl ?_
      refine tt_iret dX12_isIn_14 ⟨rfl, _, rfl, Or.inr rfl, ?_⟩
      refine tt_if_ne (q := 8) (t := 15) dX12_middle_5 rfl rfl (fun c => ?_) (fun c => absurd c (by decide))
      clear c
      refine tt_aload_n (q := 16) dX12_middle_15 rfl rfl ?_
      refine tt_getI (q := 19) dX12_middle_16 fl_X12_205 oi_102_24 (Nat.le_of_ble_eq_true rfl) rfl ?_
      refine tt_iconst (q := 20) dX12_middle_19 ki_5 rfl ?_
      refine tt_icmp_eq (q := 23) (t := 30) dX12_middle_20 rfl rfl (fun c => ?_) (fun c => ?_)
      · replace h := h.1 c
        refine tt_aload_n (q := 31) dX12_middle_30 rfl rfl ?_
        obtain ⟨p14, hp15, h⟩ := h
        refine callVi_0 (q := 34) dX12_middle_31 (Or.inr (Or.inr (⟨rfl, rfl, hp15⟩))) (Nat.le_of_ble_eq_true rfl) rfl (fun t13 r12 hr16 => ?_)
        replace h := h t13 r12 hr16
        refine sti_n_2 (q := 35) dX12_middle_34 rfl rfl rfl ?_
        refine tt_aload_n (q := 36) dX12_middle_35 rfl rfl ?_
        refine tt_iload_n (q := 37) dX12_middle_36 rfl rfl ?_
        refine tt_iconst (q := 38) dX12_middle_37 ki_1 rfl ?_
        refine tt_icmp_ne (q := 41) (t := 45) dX12_middle_38 rfl rfl (fun c => ?_) (fun c => ?_)
        · replace h := h.1 c
          refine tt_iconst (q := 46) dX12_middle_45 ki_5 rfl ?_
          refine tt_putI (q := 49) dX12_middle_46 fl_X12_205 oi_102_24 (fp_12_24 _) (Nat.le_of_ble_eq_true rfl) rfl ?_
          replace h := h _ rfl
          refine tt_iload_n (q := 50) dX12_middle_49 rfl rfl ?_
          refine tt_if_ne (q := 53) (t := 69) dX12_middle_50 rfl rfl (fun c => ?_) (fun c => ?_)
          · replace h := h.1 c
            refine tt_iload_n (q := 70) dX12_middle_69 rfl rfl ?_
            refine tt_iconst (q := 71) dX12_middle_70 ki_3 rfl ?_
            refine tt_irem (q := 72) dX12_middle_71 (by decide) rfl ?_
            refine tt_if_ne (q := 75) (t := 79) dX12_middle_72 rfl rfl (fun c => ?_) (fun c => ?_)
            · replace h := h.1 c
              refine tt_iconst (q := 80) dX12_middle_79 ki_3 rfl ?_
              exact tt_iret dX12_middle_80 ⟨rfl, _, rfl, h⟩
            · replace h := h.2 c
              refine tt_iconst (q := 76) dX12_middle_75 ki_1 rfl ?_
              refine tt_goto (t := 80) dX12_middle_76 rfl ?_
              exact tt_iret dX12_middle_80 ⟨rfl, _, rfl, h⟩
          · replace h := h.2 c
            refine tt_iload_n (q := 54) dX12_middle_53 rfl rfl ?_
            refine tt_iconst (q := 55) dX12_middle_54 ki_3 rfl ?_
            refine tt_irem (q := 56) dX12_middle_55 (by decide) rfl ?_
            refine tt_if_ne (q := 59) (t := 65) dX12_middle_56 rfl rfl (fun c => ?_) (fun c => ?_)
            · replace h := h.1 c
              refine tt_iload_n (q := 66) dX12_middle_65 rfl rfl ?_
              refine tt_goto (t := 80) dX12_middle_66 rfl ?_
              exact tt_iret dX12_middle_80 ⟨rfl, _, rfl, h⟩
            · replace h := h.2 c
              refine tt_iload_n (q := 60) dX12_middle_59 rfl rfl ?_
              refine tt_iconst (q := 61) dX12_middle_60 ki_3 rfl ?_
              refine tt_idiv (q := 62) dX12_middle_61 (by decide) rfl ?_
              refine tt_goto (t := 80) dX12_middle_62 rfl ?_
              exact tt_iret dX12_middle_80 ⟨rfl, _, rfl, h⟩
        · replace h := h.2 c
          refine tt_iconst (q := 42) dX12_middle_41 ki_0 rfl ?_
          refine tt_goto (t := 46) dX12_middle_42 rfl ?_
          refine tt_putI (q := 49) dX12_middle_46 fl_X12_205 oi_102_24 (fp_12_24 _) (Nat.le_of_ble_eq_true rfl) rfl ?_
          replace h := h _ rfl
          refine tt_iload_n (q := 50) dX12_middle_49 rfl rfl ?_
          refine tt_if_ne (q := 53) (t := 69) dX12_middle_50 rfl rfl (fun c => ?_) (fun c => ?_)
          · replace h := h.1 c
            refine tt_iload_n (q := 70) dX12_middle_69 rfl rfl ?_
            refine tt_iconst (q := 71) dX12_middle_70 ki_3 rfl ?_
            refine tt_irem (q := 72) dX12_middle_71 (by decide) rfl ?_
            refine tt_if_ne (q := 75) (t := 79) dX12_middle_72 rfl rfl (fun c => ?_) (fun c => ?_)
            · replace h := h.1 c
              refine tt_iconst (q := 80) dX12_middle_79 ki_3 rfl ?_
              exact tt_iret dX12_middle_80 ⟨rfl, _, rfl, h⟩
            · replace h := h.2 c
              refine tt_iconst (q := 76) dX12_middle_75 ki_1 rfl ?_
              refine tt_goto (t := 80) dX12_middle_76 rfl ?_
              exact tt_iret dX12_middle_80 ⟨rfl, _, rfl, h⟩
          · replace h := h.2 c
            refine tt_iload_n (q := 54) dX12_middle_53 rfl rfl ?_
            refine tt_iconst (q := 55) dX12_middle_54 ki_3 rfl ?_
            refine tt_irem (q := 56) dX12_middle_55 (by decide) rfl ?_
            refine tt_if_ne (q := 59) (t := 65) dX12_middle_56 rfl rfl (fun c => ?_) (fun c => ?_)
            · replace h := h.1 c
              refine tt_iload_n (q := 66) dX12_middle_65 rfl rfl ?_
              refine tt_goto (t := 80) dX12_middle_66 rfl ?_
              exact tt_iret dX12_middle_80 ⟨rfl, _, rfl, h⟩
            · replace h := h.2 c
              refine tt_iload_n (q := 60) dX12_middle_59 rfl rfl ?_
              refine tt_iconst (q := 61) dX12_middle_60 ki_3 rfl ?_
              refine tt_idiv (q := 62) dX12_middle_61 (by decide) rfl ?_
              refine tt_goto (t := 80) dX12_middle_62 rfl ?_
              exact tt_iret dX12_middle_80 ⟨rfl, _, rfl, h⟩
      · replace h := h.2 c
        refine tt_aload_n (q := 24) dX12_middle_23 rfl rfl ?_
        refine tt_bipush (q := 26) dX12_middle_24 bi_m3 rfl ?_
        refine callVi_1 (q := 29) dX12_middle_26 (Or.inr (Or.inl ⟨rfl, rfl, ⟨⟨_, _, rfl, rfl, (Nat.le_of_ble_eq_true rfl), rc_102⟩, Nat.le_of_ble_eq_true rfl, ?_⟩⟩)) (Nat.le_of_ble_eq_true rfl) rfl (fun t27 r26 ht27 => ht27)
        refine (show TT cX12_refuse RX12 false CT0 CN0 _ _ _ none 0 [_, _] [] _ _ from ?_)
        refine tt_aload_n (q := 1) dX12_refuse_0 rfl rfl ?_
        refine tt_getR (q := 4) dX12_refuse_1 fl_X12_7 or_102_0 (Nat.le_of_ble_eq_true rfl) rfl rfl ?_
        refine tt_iload_n (q := 5) dX12_refuse_4 rfl rfl ?_
        refine tt_inegE (v := nI 3) (q := 6) dX12_refuse_5 (by decide) rfl ?_
        refine tt_dup2 (q := 7) dX12_refuse_6 rfl rfl rfl ?_
        refine tt_iald (q := 8) dX12_refuse_7 ia_103 (Nat.le_of_ble_eq_true rfl) rfl (Nat.le_of_ble_eq_true rfl : 3 < 7) rfl ?_
        refine tt_iconst (q := 9) dX12_refuse_8 ki_1 rfl ?_
        refine tt_iadd (q := 10) dX12_refuse_9 rfl ?_
        refine tt_iast (q := 11) dX12_refuse_10 ia_103 (Nat.le_of_ble_eq_true rfl) rfl (Nat.le_of_ble_eq_true rfl : 3 < 7) rfl ?_
        replace h := h _ rfl
        refine tt_iload_n (q := 12) dX12_refuse_11 rfl rfl ?_
        refine tt_iret dX12_refuse_12 ⟨rfl, _, rfl, ?_⟩
        exact tt_iret dX12_middle_29 ⟨rfl, _, rfl, h⟩

theorem g_X12_need_0 {post : SG → Int32 → Prop} {σ : SG} {most : Int32} (h : (((nI 1) ≤ most → ((most ≤ (nI 9999) → (((σ 102 24) = (nI 4) → T_X12_need AF post 38 [.ref 102, .int most, dum, .int (nI 9999)] [] σ) ∧ (¬ (σ 102 24) = (nI 4) → (∀ s8 : SG, s8 = up σ 103 3 ((σ 103 3) + (nI 1)) → post s8 (-3 : Int32))))) ∧ (¬ most ≤ (nI 9999) → (∀ s11 : SG, s11 = up σ 103 6 ((σ 103 6) + (nI 1)) → post s11 (-6 : Int32))))) ∧ (¬ (nI 1) ≤ most → (∀ s14 : SG, s14 = up σ 103 4 ((σ 103 4) + (nI 1)) → post s14 (-4 : Int32))))) : T_X12_need AF post 0 [.ref 102, .int most, dum, dum] [] σ := by
  refine tt_iload_n (q := 1) dX12_need_0 rfl rfl ?_
  refine tt_iconst (q := 2) dX12_need_1 ki_1 rfl ?_
  refine tt_sipush (q := 5) dX12_need_2 si_9999 rfl ?_
  refine callSi_3 (q := 8) dX12_need_5 (Or.inl ⟨rfl, rfl, ⟨rfl, Nat.le_of_ble_eq_true rfl, ?_⟩⟩) (Nat.le_of_ble_eq_true rfl) rfl (fun t2 r1 ht2 => ht2)
  refine (show TT cX12_within RX12 false CT0 CN0 _ _ _ none 0 [_, _, _] [] _ _ from ?_)
  refine tt_iload_n (q := 1) dX12_within_0 rfl rfl ?_
  refine tt_iload_n (q := 2) dX12_within_1 rfl rfl ?_
  refine tt_icmp_ge (q := 5) (t := 10) dX12_within_2 rfl rfl (fun c => ?_) (fun c => ?_)
  · replace h := h.1 c
    refine tt_iload_n (q := 11) dX12_within_10 rfl rfl ?_
    refine tt_iload_n (q := 12) dX12_within_11 rfl rfl ?_
    refine tt_icmp_le (q := 15) (t := 20) dX12_within_12 rfl rfl (fun c => ?_) (fun c => ?_)
    · replace h := h.1 c
      refine tt_iconst (q := 21) dX12_within_20 ki_0 rfl ?_
      refine tt_iret dX12_within_21 ⟨rfl, _, rfl, ?_⟩
      refine sti_n_2 (q := 9) dX12_need_8 rfl rfl rfl ?_
      refine tt_iload_n (q := 10) dX12_need_9 rfl rfl ?_
      refine tt_if_ne (q := 13) (t := 24) dX12_need_10 rfl rfl (fun c => absurd c (by decide)) (fun c => ?_)
      clear c
      refine tt_aload_n (q := 14) dX12_need_13 rfl rfl ?_
      refine tt_getI (q := 17) dX12_need_14 fl_X12_205 oi_102_24 (Nat.le_of_ble_eq_true rfl) rfl ?_
      refine tt_iconst (q := 18) dX12_need_17 ki_4 rfl ?_
      refine tt_icmp_eq (q := 21) (t := 24) dX12_need_18 rfl rfl (fun c => ?_) (fun c => ?_)
      · replace h := h.1 c
        refine tt_iload_n (q := 25) dX12_need_24 rfl rfl ?_
        refine tt_if_eq (q := 28) (t := 34) dX12_need_25 rfl rfl (fun c => ?_) (fun c => absurd c (by decide))
        clear c
        refine tt_sipush (q := 37) dX12_need_34 si_9999 rfl ?_
        refine sti_n_3 (q := 38) dX12_need_37 rfl rfl rfl ?_
        refine tt_wk (L2 := [_, _, dum, _]) ⟨Or.inl rfl, Or.inl rfl, Or.inr rfl, Or.inl rfl, trivial⟩ ?_
        exact h
      · replace h := h.2 c
        refine tt_bipush (q := 23) dX12_need_21 bi_m3 rfl ?_
        refine sti_n_2 (q := 24) dX12_need_23 rfl rfl rfl ?_
        refine tt_iload_n (q := 25) dX12_need_24 rfl rfl ?_
        refine tt_if_eq (q := 28) (t := 34) dX12_need_25 rfl rfl (fun c => absurd c (by decide)) (fun c => ?_)
        clear c
        refine tt_aload_n (q := 29) dX12_need_28 rfl rfl ?_
        refine tt_iload_n (q := 30) dX12_need_29 rfl rfl ?_
        refine callVi_1 (q := 33) dX12_need_30 (Or.inr (Or.inl ⟨rfl, rfl, ⟨⟨_, _, rfl, rfl, (Nat.le_of_ble_eq_true rfl), rc_102⟩, Nat.le_of_ble_eq_true rfl, ?_⟩⟩)) (Nat.le_of_ble_eq_true rfl) rfl (fun t7 r6 ht7 => ht7)
        refine (show TT cX12_refuse RX12 false CT0 CN0 _ _ _ none 0 [_, _] [] _ _ from ?_)
        refine tt_aload_n (q := 1) dX12_refuse_0 rfl rfl ?_
        refine tt_getR (q := 4) dX12_refuse_1 fl_X12_7 or_102_0 (Nat.le_of_ble_eq_true rfl) rfl rfl ?_
        refine tt_iload_n (q := 5) dX12_refuse_4 rfl rfl ?_
        refine tt_inegE (v := nI 3) (q := 6) dX12_refuse_5 (by decide) rfl ?_
        refine tt_dup2 (q := 7) dX12_refuse_6 rfl rfl rfl ?_
        refine tt_iald (q := 8) dX12_refuse_7 ia_103 (Nat.le_of_ble_eq_true rfl) rfl (Nat.le_of_ble_eq_true rfl : 3 < 7) rfl ?_
        refine tt_iconst (q := 9) dX12_refuse_8 ki_1 rfl ?_
        refine tt_iadd (q := 10) dX12_refuse_9 rfl ?_
        refine tt_iast (q := 11) dX12_refuse_10 ia_103 (Nat.le_of_ble_eq_true rfl) rfl (Nat.le_of_ble_eq_true rfl : 3 < 7) rfl ?_
        replace h := h _ rfl
        refine tt_iload_n (q := 12) dX12_refuse_11 rfl rfl ?_
        refine tt_iret dX12_refuse_12 ⟨rfl, _, rfl, ?_⟩
        exact tt_iret dX12_need_33 ⟨rfl, _, rfl, h⟩
    · replace h := h.2 c
      refine tt_bipush (q := 17) dX12_within_15 bi_m6 rfl ?_
      refine tt_goto (t := 21) dX12_within_17 rfl ?_
      refine tt_iret dX12_within_21 ⟨rfl, _, rfl, ?_⟩
      refine sti_n_2 (q := 9) dX12_need_8 rfl rfl rfl ?_
      refine tt_iload_n (q := 10) dX12_need_9 rfl rfl ?_
      refine tt_if_ne (q := 13) (t := 24) dX12_need_10 rfl rfl (fun c => ?_) (fun c => absurd c (by decide))
      clear c
      refine tt_iload_n (q := 25) dX12_need_24 rfl rfl ?_
      refine tt_if_eq (q := 28) (t := 34) dX12_need_25 rfl rfl (fun c => absurd c (by decide)) (fun c => ?_)
      clear c
      refine tt_aload_n (q := 29) dX12_need_28 rfl rfl ?_
      refine tt_iload_n (q := 30) dX12_need_29 rfl rfl ?_
      refine callVi_1 (q := 33) dX12_need_30 (Or.inr (Or.inl ⟨rfl, rfl, ⟨⟨_, _, rfl, rfl, (Nat.le_of_ble_eq_true rfl), rc_102⟩, Nat.le_of_ble_eq_true rfl, ?_⟩⟩)) (Nat.le_of_ble_eq_true rfl) rfl (fun t10 r9 ht10 => ht10)
      refine (show TT cX12_refuse RX12 false CT0 CN0 _ _ _ none 0 [_, _] [] _ _ from ?_)
      refine tt_aload_n (q := 1) dX12_refuse_0 rfl rfl ?_
      refine tt_getR (q := 4) dX12_refuse_1 fl_X12_7 or_102_0 (Nat.le_of_ble_eq_true rfl) rfl rfl ?_
      refine tt_iload_n (q := 5) dX12_refuse_4 rfl rfl ?_
      refine tt_inegE (v := nI 6) (q := 6) dX12_refuse_5 (by decide) rfl ?_
      refine tt_dup2 (q := 7) dX12_refuse_6 rfl rfl rfl ?_
      refine tt_iald (q := 8) dX12_refuse_7 ia_103 (Nat.le_of_ble_eq_true rfl) rfl (Nat.le_of_ble_eq_true rfl : 6 < 7) rfl ?_
      refine tt_iconst (q := 9) dX12_refuse_8 ki_1 rfl ?_
      refine tt_iadd (q := 10) dX12_refuse_9 rfl ?_
      refine tt_iast (q := 11) dX12_refuse_10 ia_103 (Nat.le_of_ble_eq_true rfl) rfl (Nat.le_of_ble_eq_true rfl : 6 < 7) rfl ?_
      replace h := h _ rfl
      refine tt_iload_n (q := 12) dX12_refuse_11 rfl rfl ?_
      refine tt_iret dX12_refuse_12 ⟨rfl, _, rfl, ?_⟩
      exact tt_iret dX12_need_33 ⟨rfl, _, rfl, h⟩
  · replace h := h.2 c
    refine tt_bipush (q := 7) dX12_within_5 bi_m4 rfl ?_
    refine tt_goto (t := 21) dX12_within_7 rfl ?_
    refine tt_iret dX12_within_21 ⟨rfl, _, rfl, ?_⟩
    refine sti_n_2 (q := 9) dX12_need_8 rfl rfl rfl ?_
    refine tt_iload_n (q := 10) dX12_need_9 rfl rfl ?_
    refine tt_if_ne (q := 13) (t := 24) dX12_need_10 rfl rfl (fun c => ?_) (fun c => absurd c (by decide))
    clear c
    refine tt_iload_n (q := 25) dX12_need_24 rfl rfl ?_
    refine tt_if_eq (q := 28) (t := 34) dX12_need_25 rfl rfl (fun c => absurd c (by decide)) (fun c => ?_)
    clear c
    refine tt_aload_n (q := 29) dX12_need_28 rfl rfl ?_
    refine tt_iload_n (q := 30) dX12_need_29 rfl rfl ?_
    refine callVi_1 (q := 33) dX12_need_30 (Or.inr (Or.inl ⟨rfl, rfl, ⟨⟨_, _, rfl, rfl, (Nat.le_of_ble_eq_true rfl), rc_102⟩, Nat.le_of_ble_eq_true rfl, ?_⟩⟩)) (Nat.le_of_ble_eq_true rfl) rfl (fun t13 r12 ht13 => ht13)
    refine (show TT cX12_refuse RX12 false CT0 CN0 _ _ _ none 0 [_, _] [] _ _ from ?_)
    refine tt_aload_n (q := 1) dX12_refuse_0 rfl rfl ?_
    refine tt_getR (q := 4) dX12_refuse_1 fl_X12_7 or_102_0 (Nat.le_of_ble_eq_true rfl) rfl rfl ?_
    refine tt_iload_n (q := 5) dX12_refuse_4 rfl rfl ?_
    refine tt_inegE (v := nI 4) (q := 6) dX12_refuse_5 (by decide) rfl ?_
    refine tt_dup2 (q := 7) dX12_refuse_6 rfl rfl rfl ?_
    refine tt_iald (q := 8) dX12_refuse_7 ia_103 (Nat.le_of_ble_eq_true rfl) rfl (Nat.le_of_ble_eq_true rfl : 4 < 7) rfl ?_
    refine tt_iconst (q := 9) dX12_refuse_8 ki_1 rfl ?_
    refine tt_iadd (q := 10) dX12_refuse_9 rfl ?_
    refine tt_iast (q := 11) dX12_refuse_10 ia_103 (Nat.le_of_ble_eq_true rfl) rfl (Nat.le_of_ble_eq_true rfl : 4 < 7) rfl ?_
    replace h := h _ rfl
    refine tt_iload_n (q := 12) dX12_refuse_11 rfl rfl ?_
    refine tt_iret dX12_refuse_12 ⟨rfl, _, rfl, ?_⟩
    exact tt_iret dX12_need_33 ⟨rfl, _, rfl, h⟩
theorem g_X12_need_38 {post : SG → Int32 → Prop} {σ : SG} {most : Int32} {v : Nat} (h : (((nI v) ≤ 0 → post σ (-9 : Int32)) ∧ (¬ (nI v) ≤ 0 → (∀ s2 : SG, s2 = up σ 118 4 (nI v) → (∃ p5 : SG → Int32 → Prop, IN_X12_middleSum AF s2 [.ref 102] p5 ∧ ∀ (t4 : SG) (r3 : Int32), p5 t4 r3 → ((((nI 3) * most) < r3 → T_X12_need AF post 38 [.ref 102, .int most, dum, .int ((nI v) + (-1))] [] t4) ∧ (¬ ((nI 3) * most) < r3 → post t4 (nI v)))))))) : T_X12_need AF post 38 [.ref 102, .int most, dum, .int (nI v)] [] σ := by
  refine tt_iload_n (q := 39) dX12_need_38 rfl rfl ?_
  refine tt_if_le (q := 42) (t := 67) dX12_need_39 rfl rfl (fun c => ?_) (fun c => ?_)
  · replace h := h.1 c
    refine tt_bipush (q := 69) dX12_need_67 bi_m9 rfl ?_
    exact tt_iret dX12_need_69 ⟨rfl, _, rfl, h⟩
  · replace h := h.2 c
    refine tt_aload_n (q := 43) dX12_need_42 rfl rfl ?_
    refine tt_getR (q := 46) dX12_need_43 fl_X12_55 or_102_23 (Nat.le_of_ble_eq_true rfl) rfl rfl ?_
    refine tt_iconst (q := 47) dX12_need_46 ki_4 rfl ?_
    refine tt_iload_n (q := 48) dX12_need_47 rfl rfl ?_
    refine tt_iast (q := 49) dX12_need_48 ia_118 (Nat.le_of_ble_eq_true rfl) rfl (Nat.le_of_ble_eq_true rfl : 4 < 5) rfl ?_
    replace h := h _ rfl
    refine tt_aload_n (q := 50) dX12_need_49 rfl rfl ?_
    obtain ⟨p5, hp6, h⟩ := h
    refine callVi_0 (q := 53) dX12_need_50 (Or.inr (Or.inr (⟨rfl, rfl, hp6⟩))) (Nat.le_of_ble_eq_true rfl) rfl (fun t4 r3 hr7 => ?_)
    replace h := h t4 r3 hr7
    refine tt_iconst (q := 54) dX12_need_53 ki_3 rfl ?_
    refine tt_iload_n (q := 55) dX12_need_54 rfl rfl ?_
    refine tt_imul (q := 56) dX12_need_55 rfl ?_
    refine tt_icmp_gt (q := 59) (t := 61) dX12_need_56 rfl rfl (fun c => ?_) (fun c => ?_)
    · replace h := h.1 c
      refine inc_3 (q := 64) dX12_need_61 (nI_incIm1 _) rfl rfl ?_
      refine tt_goto (t := 38) dX12_need_64 rfl ?_
      exact h
    · replace h := h.2 c
      refine tt_iload_n (q := 60) dX12_need_59 rfl rfl ?_
      exact tt_iret dX12_need_60 ⟨rfl, _, rfl, h⟩

theorem g_X12_film_0 {post : SG → Int32 → Prop} {σ : SG} {a : Int32} (h : (((nI 0) ≤ a → ((a ≤ (nI 127) → ((¬ (σ 102 26) = (nI 8) → (∃ j7 : Nat, (σ 102 26) = nI j7 ∧ j7 < 8 ∧ (∀ s9 : SG, s9 = up σ 119 j7 a → (∀ s10 : SG, s10 = up s9 102 26 ((s9 102 26) + (nI 1)) → post s10 (s10 102 26))))) ∧ ((σ 102 26) = (nI 8) → (∀ s13 : SG, s13 = up σ 103 6 ((σ 103 6) + (nI 1)) → post s13 (-6 : Int32))))) ∧ (¬ a ≤ (nI 127) → (∀ s16 : SG, s16 = up σ 103 6 ((σ 103 6) + (nI 1)) → post s16 (-6 : Int32))))) ∧ (¬ (nI 0) ≤ a → (∀ s19 : SG, s19 = up σ 103 4 ((σ 103 4) + (nI 1)) → post s19 (-4 : Int32))))) : T_X12_film AF post 0 [.ref 102, .int a, dum] [] σ := by
  refine tt_iload_n (q := 1) dX12_film_0 rfl rfl ?_
  refine tt_iconst (q := 2) dX12_film_1 ki_0 rfl ?_
  refine tt_bipush (q := 4) dX12_film_2 bi_127 rfl ?_
  refine callSi_3 (q := 7) dX12_film_4 (Or.inl ⟨rfl, rfl, ⟨rfl, Nat.le_of_ble_eq_true rfl, ?_⟩⟩) (Nat.le_of_ble_eq_true rfl) rfl (fun t2 r1 ht2 => ht2)
  refine (show TT cX12_within RX12 false CT0 CN0 _ _ _ none 0 [_, _, _] [] _ _ from ?_)
  refine tt_iload_n (q := 1) dX12_within_0 rfl rfl ?_
  refine tt_iload_n (q := 2) dX12_within_1 rfl rfl ?_
  refine tt_icmp_ge (q := 5) (t := 10) dX12_within_2 rfl rfl (fun c => ?_) (fun c => ?_)
  · replace h := h.1 c
    refine tt_iload_n (q := 11) dX12_within_10 rfl rfl ?_
    refine tt_iload_n (q := 12) dX12_within_11 rfl rfl ?_
    refine tt_icmp_le (q := 15) (t := 20) dX12_within_12 rfl rfl (fun c => ?_) (fun c => ?_)
    · replace h := h.1 c
      refine tt_iconst (q := 21) dX12_within_20 ki_0 rfl ?_
      refine tt_iret dX12_within_21 ⟨rfl, _, rfl, ?_⟩
      refine sti_n_2 (q := 8) dX12_film_7 rfl rfl rfl ?_
      refine tt_iload_n (q := 9) dX12_film_8 rfl rfl ?_
      refine tt_if_ne (q := 12) (t := 24) dX12_film_9 rfl rfl (fun c => absurd c (by decide)) (fun c => ?_)
      clear c
      refine tt_aload_n (q := 13) dX12_film_12 rfl rfl ?_
      refine tt_getI (q := 16) dX12_film_13 fl_X12_211 oi_102_26 (Nat.le_of_ble_eq_true rfl) rfl ?_
      refine tt_bipush (q := 18) dX12_film_16 bi_8 rfl ?_
      refine tt_icmp_ne (q := 21) (t := 24) dX12_film_18 rfl rfl (fun c => ?_) (fun c => ?_)
      · replace h := h.1 c
        refine tt_iload_n (q := 25) dX12_film_24 rfl rfl ?_
        refine tt_if_eq (q := 28) (t := 34) dX12_film_25 rfl rfl (fun c => ?_) (fun c => absurd c (by decide))
        clear c
        refine tt_aload_n (q := 35) dX12_film_34 rfl rfl ?_
        refine tt_getR (q := 38) dX12_film_35 fl_X12_58 or_102_25 (Nat.le_of_ble_eq_true rfl) rfl rfl ?_
        refine tt_aload_n (q := 39) dX12_film_38 rfl rfl ?_
        refine tt_getI (q := 42) dX12_film_39 fl_X12_211 oi_102_26 (Nat.le_of_ble_eq_true rfl) rfl ?_
        refine tt_iload_n (q := 43) dX12_film_42 rfl rfl ?_
        obtain ⟨j7, e8, l6, h⟩ := h
        refine tt_iast (q := 44) dX12_film_43 ia_119 (Nat.le_of_ble_eq_true rfl) e8 l6 rfl ?_
        replace h := h _ rfl
        refine tt_aload_n (q := 45) dX12_film_44 rfl rfl ?_
        refine tt_dup (q := 46) dX12_film_45 rfl rfl ?_
        refine tt_getI (q := 49) dX12_film_46 fl_X12_211 oi_102_26 (Nat.le_of_ble_eq_true rfl) rfl ?_
        refine tt_iconst (q := 50) dX12_film_49 ki_1 rfl ?_
        refine tt_iadd (q := 51) dX12_film_50 rfl ?_
        refine tt_putI (q := 54) dX12_film_51 fl_X12_211 oi_102_26 (fp_12_26 _) (Nat.le_of_ble_eq_true rfl) rfl ?_
        replace h := h _ rfl
        refine tt_aload_n (q := 55) dX12_film_54 rfl rfl ?_
        refine tt_getI (q := 58) dX12_film_55 fl_X12_211 oi_102_26 (Nat.le_of_ble_eq_true rfl) rfl ?_
        exact tt_iret dX12_film_58 ⟨rfl, _, rfl, h⟩
      · replace h := h.2 c
        refine tt_bipush (q := 23) dX12_film_21 bi_m6 rfl ?_
        refine sti_n_2 (q := 24) dX12_film_23 rfl rfl rfl ?_
        refine tt_iload_n (q := 25) dX12_film_24 rfl rfl ?_
        refine tt_if_eq (q := 28) (t := 34) dX12_film_25 rfl rfl (fun c => absurd c (by decide)) (fun c => ?_)
        clear c
        refine tt_aload_n (q := 29) dX12_film_28 rfl rfl ?_
        refine tt_iload_n (q := 30) dX12_film_29 rfl rfl ?_
        refine callVi_1 (q := 33) dX12_film_30 (Or.inr (⟨rfl, rfl, ⟨⟨_, _, rfl, rfl, (Nat.le_of_ble_eq_true rfl), rc_102⟩, Nat.le_of_ble_eq_true rfl, ?_⟩⟩)) (Nat.le_of_ble_eq_true rfl) rfl (fun t12 r11 ht12 => ht12)
        refine (show TT cX12_refuse RX12 false CT0 CN0 _ _ _ none 0 [_, _] [] _ _ from ?_)
        refine tt_aload_n (q := 1) dX12_refuse_0 rfl rfl ?_
        refine tt_getR (q := 4) dX12_refuse_1 fl_X12_7 or_102_0 (Nat.le_of_ble_eq_true rfl) rfl rfl ?_
        refine tt_iload_n (q := 5) dX12_refuse_4 rfl rfl ?_
        refine tt_inegE (v := nI 6) (q := 6) dX12_refuse_5 (by decide) rfl ?_
        refine tt_dup2 (q := 7) dX12_refuse_6 rfl rfl rfl ?_
        refine tt_iald (q := 8) dX12_refuse_7 ia_103 (Nat.le_of_ble_eq_true rfl) rfl (Nat.le_of_ble_eq_true rfl : 6 < 7) rfl ?_
        refine tt_iconst (q := 9) dX12_refuse_8 ki_1 rfl ?_
        refine tt_iadd (q := 10) dX12_refuse_9 rfl ?_
        refine tt_iast (q := 11) dX12_refuse_10 ia_103 (Nat.le_of_ble_eq_true rfl) rfl (Nat.le_of_ble_eq_true rfl : 6 < 7) rfl ?_
        replace h := h _ rfl
        refine tt_iload_n (q := 12) dX12_refuse_11 rfl rfl ?_
        refine tt_iret dX12_refuse_12 ⟨rfl, _, rfl, ?_⟩
        exact tt_iret dX12_film_33 ⟨rfl, _, rfl, h⟩
    · replace h := h.2 c
      refine tt_bipush (q := 17) dX12_within_15 bi_m6 rfl ?_
      refine tt_goto (t := 21) dX12_within_17 rfl ?_
      refine tt_iret dX12_within_21 ⟨rfl, _, rfl, ?_⟩
      refine sti_n_2 (q := 8) dX12_film_7 rfl rfl rfl ?_
      refine tt_iload_n (q := 9) dX12_film_8 rfl rfl ?_
      refine tt_if_ne (q := 12) (t := 24) dX12_film_9 rfl rfl (fun c => ?_) (fun c => absurd c (by decide))
      clear c
      refine tt_iload_n (q := 25) dX12_film_24 rfl rfl ?_
      refine tt_if_eq (q := 28) (t := 34) dX12_film_25 rfl rfl (fun c => absurd c (by decide)) (fun c => ?_)
      clear c
      refine tt_aload_n (q := 29) dX12_film_28 rfl rfl ?_
      refine tt_iload_n (q := 30) dX12_film_29 rfl rfl ?_
      refine callVi_1 (q := 33) dX12_film_30 (Or.inr (⟨rfl, rfl, ⟨⟨_, _, rfl, rfl, (Nat.le_of_ble_eq_true rfl), rc_102⟩, Nat.le_of_ble_eq_true rfl, ?_⟩⟩)) (Nat.le_of_ble_eq_true rfl) rfl (fun t15 r14 ht15 => ht15)
      refine (show TT cX12_refuse RX12 false CT0 CN0 _ _ _ none 0 [_, _] [] _ _ from ?_)
      refine tt_aload_n (q := 1) dX12_refuse_0 rfl rfl ?_
      refine tt_getR (q := 4) dX12_refuse_1 fl_X12_7 or_102_0 (Nat.le_of_ble_eq_true rfl) rfl rfl ?_
      refine tt_iload_n (q := 5) dX12_refuse_4 rfl rfl ?_
      refine tt_inegE (v := nI 6) (q := 6) dX12_refuse_5 (by decide) rfl ?_
      refine tt_dup2 (q := 7) dX12_refuse_6 rfl rfl rfl ?_
      refine tt_iald (q := 8) dX12_refuse_7 ia_103 (Nat.le_of_ble_eq_true rfl) rfl (Nat.le_of_ble_eq_true rfl : 6 < 7) rfl ?_
      refine tt_iconst (q := 9) dX12_refuse_8 ki_1 rfl ?_
      refine tt_iadd (q := 10) dX12_refuse_9 rfl ?_
      refine tt_iast (q := 11) dX12_refuse_10 ia_103 (Nat.le_of_ble_eq_true rfl) rfl (Nat.le_of_ble_eq_true rfl : 6 < 7) rfl ?_
      replace h := h _ rfl
      refine tt_iload_n (q := 12) dX12_refuse_11 rfl rfl ?_
      refine tt_iret dX12_refuse_12 ⟨rfl, _, rfl, ?_⟩
      exact tt_iret dX12_film_33 ⟨rfl, _, rfl, h⟩
  · replace h := h.2 c
    refine tt_bipush (q := 7) dX12_within_5 bi_m4 rfl ?_
    refine tt_goto (t := 21) dX12_within_7 rfl ?_
    refine tt_iret dX12_within_21 ⟨rfl, _, rfl, ?_⟩
    refine sti_n_2 (q := 8) dX12_film_7 rfl rfl rfl ?_
    refine tt_iload_n (q := 9) dX12_film_8 rfl rfl ?_
    refine tt_if_ne (q := 12) (t := 24) dX12_film_9 rfl rfl (fun c => ?_) (fun c => absurd c (by decide))
    clear c
    refine tt_iload_n (q := 25) dX12_film_24 rfl rfl ?_
    refine tt_if_eq (q := 28) (t := 34) dX12_film_25 rfl rfl (fun c => absurd c (by decide)) (fun c => ?_)
    clear c
    refine tt_aload_n (q := 29) dX12_film_28 rfl rfl ?_
    refine tt_iload_n (q := 30) dX12_film_29 rfl rfl ?_
    refine callVi_1 (q := 33) dX12_film_30 (Or.inr (⟨rfl, rfl, ⟨⟨_, _, rfl, rfl, (Nat.le_of_ble_eq_true rfl), rc_102⟩, Nat.le_of_ble_eq_true rfl, ?_⟩⟩)) (Nat.le_of_ble_eq_true rfl) rfl (fun t18 r17 ht18 => ht18)
    refine (show TT cX12_refuse RX12 false CT0 CN0 _ _ _ none 0 [_, _] [] _ _ from ?_)
    refine tt_aload_n (q := 1) dX12_refuse_0 rfl rfl ?_
    refine tt_getR (q := 4) dX12_refuse_1 fl_X12_7 or_102_0 (Nat.le_of_ble_eq_true rfl) rfl rfl ?_
    refine tt_iload_n (q := 5) dX12_refuse_4 rfl rfl ?_
    refine tt_inegE (v := nI 4) (q := 6) dX12_refuse_5 (by decide) rfl ?_
    refine tt_dup2 (q := 7) dX12_refuse_6 rfl rfl rfl ?_
    refine tt_iald (q := 8) dX12_refuse_7 ia_103 (Nat.le_of_ble_eq_true rfl) rfl (Nat.le_of_ble_eq_true rfl : 4 < 7) rfl ?_
    refine tt_iconst (q := 9) dX12_refuse_8 ki_1 rfl ?_
    refine tt_iadd (q := 10) dX12_refuse_9 rfl ?_
    refine tt_iast (q := 11) dX12_refuse_10 ia_103 (Nat.le_of_ble_eq_true rfl) rfl (Nat.le_of_ble_eq_true rfl : 4 < 7) rfl ?_
    replace h := h _ rfl
    refine tt_iload_n (q := 12) dX12_refuse_11 rfl rfl ?_
    refine tt_iret dX12_refuse_12 ⟨rfl, _, rfl, ?_⟩
    exact tt_iret dX12_film_33 ⟨rfl, _, rfl, h⟩

theorem g_X12_held_0 {post : SG → Int32 → Prop} {σ : SG} {r : Int32} {more : Int32} (h : ((r < 0 → (∀ s8 : SG, s8 = up σ 103 1 ((σ 103 1) + (nI 1)) → post s8 (-1 : Int32))) ∧ (¬ r < 0 → (((σ 104 1) ≤ r → (∀ s12 : SG, s12 = up σ 103 1 ((σ 103 1) + (nI 1)) → post s12 (-1 : Int32))) ∧ (¬ (σ 104 1) ≤ r → (((nI 0) ≤ more → ((more ≤ (nI 99) → T_X12_held AF post 33 [.ref 102, .int r, .int more, dum, .int (nI 0)] [] σ) ∧ (¬ more ≤ (nI 99) → (∀ s19 : SG, s19 = up σ 103 6 ((σ 103 6) + (nI 1)) → post s19 (-6 : Int32))))) ∧ (¬ (nI 0) ≤ more → (∀ s22 : SG, s22 = up σ 103 4 ((σ 103 4) + (nI 1)) → post s22 (-4 : Int32))))))))) : T_X12_held AF post 0 [.ref 102, .int r, .int more, dum, dum] [] σ := by
  refine tt_aload_n (q := 1) dX12_held_0 rfl rfl ?_
  refine tt_iload_n (q := 2) dX12_held_1 rfl rfl ?_
  refine callVi_1 (q := 5) dX12_held_2 (Or.inl ⟨rfl, rfl, ⟨⟨_, _, rfl, rfl, (Nat.le_of_ble_eq_true rfl), rc_102⟩, Nat.le_of_ble_eq_true rfl, ?_⟩⟩) (Nat.le_of_ble_eq_true rfl) rfl (fun t2 r1 ht2 => ht2)
  refine (show TT cX12_isRow RX12 false CT_X12_isRow CN0 _ _ _ none 0 [_, _] [] _ _ from ?_)
  refine tt_iload_n (q := 1) dX12_isRow_0 rfl rfl ?_
  refine tt_aload_n (q := 2) dX12_isRow_1 rfl rfl ?_
  refine tt_getR (q := 5) dX12_isRow_2 fl_X12_13 or_102_1 (Nat.le_of_ble_eq_true rfl) rfl rfl ?_
  refine tt_iconst (q := 6) dX12_isRow_5 ki_1 rfl ?_
  refine tt_iald (q := 7) dX12_isRow_6 ia_104 (Nat.le_of_ble_eq_true rfl) rfl (Nat.le_of_ble_eq_true rfl : 1 < 197) rfl ?_
  refine callSi_2 (q := 10) dX12_isRow_7 (⟨rfl, rfl, ⟨rfl, Nat.le_of_ble_eq_true rfl, ?_⟩⟩) (Nat.le_of_ble_eq_true rfl) rfl (fun t4 r3 ht4 => ht4)
  refine (show TT cX12_isIn RX12 false CT0 CN0 _ _ _ none 0 [_, _] [] _ _ from ?_)
  refine tt_iload_n (q := 1) dX12_isIn_0 rfl rfl ?_
  refine tt_if_lt (q := 4) (t := 13) dX12_isIn_1 rfl rfl (fun c => ?_) (fun c => ?_)
  · replace h := h.1 c
    refine tt_iconst (q := 14) dX12_isIn_13 ki_0 rfl ?_
    refine tt_iret dX12_isIn_14 ⟨rfl, _, rfl, Or.inl nI_0, ?_⟩
    refine tt_iret dX12_isRow_10 ⟨rfl, _, rfl, Or.inl nI_0, ?_⟩
    refine tt_if_eq (q := 8) (t := 18) dX12_held_5 rfl rfl (fun c => ?_) (fun c => absurd c (by decide))
    clear c
    refine tt_iconst (q := 19) dX12_held_18 ki_m1 rfl ?_
    refine sti_n_3 (q := 20) dX12_held_19 rfl rfl rfl ?_
    refine tt_iload_n (q := 21) dX12_held_20 rfl rfl ?_
    refine tt_if_eq (q := 24) (t := 30) dX12_held_21 rfl rfl (fun c => absurd c (by decide)) (fun c => ?_)
    clear c
    refine tt_aload_n (q := 25) dX12_held_24 rfl rfl ?_
    refine tt_iload_n (q := 26) dX12_held_25 rfl rfl ?_
    refine callVi_1 (q := 29) dX12_held_26 (Or.inr (Or.inr (Or.inl ⟨rfl, rfl, ⟨⟨_, _, rfl, rfl, (Nat.le_of_ble_eq_true rfl), rc_102⟩, Nat.le_of_ble_eq_true rfl, ?_⟩⟩))) (Nat.le_of_ble_eq_true rfl) rfl (fun t7 r6 ht7 => ht7)
    refine (show TT cX12_refuse RX12 false CT0 CN0 _ _ _ none 0 [_, _] [] _ _ from ?_)
    refine tt_aload_n (q := 1) dX12_refuse_0 rfl rfl ?_
    refine tt_getR (q := 4) dX12_refuse_1 fl_X12_7 or_102_0 (Nat.le_of_ble_eq_true rfl) rfl rfl ?_
    refine tt_iload_n (q := 5) dX12_refuse_4 rfl rfl ?_
    refine tt_inegE (v := nI 1) (q := 6) dX12_refuse_5 (by decide) rfl ?_
    refine tt_dup2 (q := 7) dX12_refuse_6 rfl rfl rfl ?_
    refine tt_iald (q := 8) dX12_refuse_7 ia_103 (Nat.le_of_ble_eq_true rfl) rfl (Nat.le_of_ble_eq_true rfl : 1 < 7) rfl ?_
    refine tt_iconst (q := 9) dX12_refuse_8 ki_1 rfl ?_
    refine tt_iadd (q := 10) dX12_refuse_9 rfl ?_
    refine tt_iast (q := 11) dX12_refuse_10 ia_103 (Nat.le_of_ble_eq_true rfl) rfl (Nat.le_of_ble_eq_true rfl : 1 < 7) rfl ?_
    replace h := h _ rfl
    refine tt_iload_n (q := 12) dX12_refuse_11 rfl rfl ?_
    refine tt_iret dX12_refuse_12 ⟨rfl, _, rfl, ?_⟩
    exact tt_iret dX12_held_29 ⟨rfl, _, rfl, h⟩
  · replace h := h.2 c
    refine tt_iload_n (q := 5) dX12_isIn_4 rfl rfl ?_
    refine tt_iload_n (q := 6) dX12_isIn_5 rfl rfl ?_
    refine tt_icmp_ge (q := 9) (t := 13) dX12_isIn_6 rfl rfl (fun c => ?_) (fun c => ?_)
    · replace h := h.1 c
      refine tt_iconst (q := 14) dX12_isIn_13 ki_0 rfl ?_
      refine tt_iret dX12_isIn_14 ⟨rfl, _, rfl, Or.inl nI_0, ?_⟩
      refine tt_iret dX12_isRow_10 ⟨rfl, _, rfl, Or.inl nI_0, ?_⟩
      refine tt_if_eq (q := 8) (t := 18) dX12_held_5 rfl rfl (fun c => ?_) (fun c => absurd c (by decide))
      clear c
      refine tt_iconst (q := 19) dX12_held_18 ki_m1 rfl ?_
      refine sti_n_3 (q := 20) dX12_held_19 rfl rfl rfl ?_
      refine tt_iload_n (q := 21) dX12_held_20 rfl rfl ?_
      refine tt_if_eq (q := 24) (t := 30) dX12_held_21 rfl rfl (fun c => absurd c (by decide)) (fun c => ?_)
      clear c
      refine tt_aload_n (q := 25) dX12_held_24 rfl rfl ?_
      refine tt_iload_n (q := 26) dX12_held_25 rfl rfl ?_
      refine callVi_1 (q := 29) dX12_held_26 (Or.inr (Or.inr (Or.inl ⟨rfl, rfl, ⟨⟨_, _, rfl, rfl, (Nat.le_of_ble_eq_true rfl), rc_102⟩, Nat.le_of_ble_eq_true rfl, ?_⟩⟩))) (Nat.le_of_ble_eq_true rfl) rfl (fun t11 r10 ht11 => ht11)
      refine (show TT cX12_refuse RX12 false CT0 CN0 _ _ _ none 0 [_, _] [] _ _ from ?_)
      refine tt_aload_n (q := 1) dX12_refuse_0 rfl rfl ?_
      refine tt_getR (q := 4) dX12_refuse_1 fl_X12_7 or_102_0 (Nat.le_of_ble_eq_true rfl) rfl rfl ?_
      refine tt_iload_n (q := 5) dX12_refuse_4 rfl rfl ?_
      refine tt_inegE (v := nI 1) (q := 6) dX12_refuse_5 (by decide) rfl ?_
      refine tt_dup2 (q := 7) dX12_refuse_6 rfl rfl rfl ?_
      refine tt_iald (q := 8) dX12_refuse_7 ia_103 (Nat.le_of_ble_eq_true rfl) rfl (Nat.le_of_ble_eq_true rfl : 1 < 7) rfl ?_
      refine tt_iconst (q := 9) dX12_refuse_8 ki_1 rfl ?_
      refine tt_iadd (q := 10) dX12_refuse_9 rfl ?_
      refine tt_iast (q := 11) dX12_refuse_10 ia_103 (Nat.le_of_ble_eq_true rfl) rfl (Nat.le_of_ble_eq_true rfl : 1 < 7) rfl ?_
      replace h := h _ rfl
      refine tt_iload_n (q := 12) dX12_refuse_11 rfl rfl ?_
      refine tt_iret dX12_refuse_12 ⟨rfl, _, rfl, ?_⟩
      exact tt_iret dX12_held_29 ⟨rfl, _, rfl, h⟩
    · replace h := h.2 c
      refine tt_iconst (q := 10) dX12_isIn_9 ki_1 rfl ?_
      refine tt_goto (t := 14) dX12_isIn_10 rfl ?_
      refine tt_iret dX12_isIn_14 ⟨rfl, _, rfl, Or.inr rfl, ?_⟩
      refine tt_iret dX12_isRow_10 ⟨rfl, _, rfl, Or.inr rfl, ?_⟩
      refine tt_if_eq (q := 8) (t := 18) dX12_held_5 rfl rfl (fun c => absurd c (by decide)) (fun c => ?_)
      clear c
      refine tt_iload_n (q := 9) dX12_held_8 rfl rfl ?_
      refine tt_iconst (q := 10) dX12_held_9 ki_0 rfl ?_
      refine tt_bipush (q := 12) dX12_held_10 bi_99 rfl ?_
      refine callSi_3 (q := 15) dX12_held_12 (Or.inr (Or.inl ⟨rfl, rfl, ⟨rfl, Nat.le_of_ble_eq_true rfl, ?_⟩⟩)) (Nat.le_of_ble_eq_true rfl) rfl (fun t14 r13 ht14 => ht14)
      refine (show TT cX12_within RX12 false CT0 CN0 _ _ _ none 0 [_, _, _] [] _ _ from ?_)
      refine tt_iload_n (q := 1) dX12_within_0 rfl rfl ?_
      refine tt_iload_n (q := 2) dX12_within_1 rfl rfl ?_
      refine tt_icmp_ge (q := 5) (t := 10) dX12_within_2 rfl rfl (fun c => ?_) (fun c => ?_)
      · replace h := h.1 c
        refine tt_iload_n (q := 11) dX12_within_10 rfl rfl ?_
        refine tt_iload_n (q := 12) dX12_within_11 rfl rfl ?_
        refine tt_icmp_le (q := 15) (t := 20) dX12_within_12 rfl rfl (fun c => ?_) (fun c => ?_)
        · replace h := h.1 c
          refine tt_iconst (q := 21) dX12_within_20 ki_0 rfl ?_
          refine tt_iret dX12_within_21 ⟨rfl, _, rfl, ?_⟩
          refine tt_goto (t := 19) dX12_held_15 rfl ?_
          refine sti_n_3 (q := 20) dX12_held_19 rfl rfl rfl ?_
          refine tt_iload_n (q := 21) dX12_held_20 rfl rfl ?_
          refine tt_if_eq (q := 24) (t := 30) dX12_held_21 rfl rfl (fun c => ?_) (fun c => absurd c (by decide))
          clear c
          refine tt_iconst (q := 31) dX12_held_30 ki_0 rfl ?_
          refine sti_4 (q := 33) dX12_held_31 rfl rfl ?_
          refine tt_wk (L2 := [_, _, _, dum, _]) ⟨Or.inl rfl, Or.inl rfl, Or.inl rfl, Or.inr rfl, Or.inl rfl, trivial⟩ ?_
          exact h
        · replace h := h.2 c
          refine tt_bipush (q := 17) dX12_within_15 bi_m6 rfl ?_
          refine tt_goto (t := 21) dX12_within_17 rfl ?_
          refine tt_iret dX12_within_21 ⟨rfl, _, rfl, ?_⟩
          refine tt_goto (t := 19) dX12_held_15 rfl ?_
          refine sti_n_3 (q := 20) dX12_held_19 rfl rfl rfl ?_
          refine tt_iload_n (q := 21) dX12_held_20 rfl rfl ?_
          refine tt_if_eq (q := 24) (t := 30) dX12_held_21 rfl rfl (fun c => absurd c (by decide)) (fun c => ?_)
          clear c
          refine tt_aload_n (q := 25) dX12_held_24 rfl rfl ?_
          refine tt_iload_n (q := 26) dX12_held_25 rfl rfl ?_
          refine callVi_1 (q := 29) dX12_held_26 (Or.inr (Or.inr (Or.inl ⟨rfl, rfl, ⟨⟨_, _, rfl, rfl, (Nat.le_of_ble_eq_true rfl), rc_102⟩, Nat.le_of_ble_eq_true rfl, ?_⟩⟩))) (Nat.le_of_ble_eq_true rfl) rfl (fun t18 r17 ht18 => ht18)
          refine (show TT cX12_refuse RX12 false CT0 CN0 _ _ _ none 0 [_, _] [] _ _ from ?_)
          refine tt_aload_n (q := 1) dX12_refuse_0 rfl rfl ?_
          refine tt_getR (q := 4) dX12_refuse_1 fl_X12_7 or_102_0 (Nat.le_of_ble_eq_true rfl) rfl rfl ?_
          refine tt_iload_n (q := 5) dX12_refuse_4 rfl rfl ?_
          refine tt_inegE (v := nI 6) (q := 6) dX12_refuse_5 (by decide) rfl ?_
          refine tt_dup2 (q := 7) dX12_refuse_6 rfl rfl rfl ?_
          refine tt_iald (q := 8) dX12_refuse_7 ia_103 (Nat.le_of_ble_eq_true rfl) rfl (Nat.le_of_ble_eq_true rfl : 6 < 7) rfl ?_
          refine tt_iconst (q := 9) dX12_refuse_8 ki_1 rfl ?_
          refine tt_iadd (q := 10) dX12_refuse_9 rfl ?_
          refine tt_iast (q := 11) dX12_refuse_10 ia_103 (Nat.le_of_ble_eq_true rfl) rfl (Nat.le_of_ble_eq_true rfl : 6 < 7) rfl ?_
          replace h := h _ rfl
          refine tt_iload_n (q := 12) dX12_refuse_11 rfl rfl ?_
          refine tt_iret dX12_refuse_12 ⟨rfl, _, rfl, ?_⟩
          exact tt_iret dX12_held_29 ⟨rfl, _, rfl, h⟩
      · replace h := h.2 c
        refine tt_bipush (q := 7) dX12_within_5 bi_m4 rfl ?_
        refine tt_goto (t := 21) dX12_within_7 rfl ?_
        refine tt_iret dX12_within_21 ⟨rfl, _, rfl, ?_⟩
        refine tt_goto (t := 19) dX12_held_15 rfl ?_
        refine sti_n_3 (q := 20) dX12_held_19 rfl rfl rfl ?_
        refine tt_iload_n (q := 21) dX12_held_20 rfl rfl ?_
        refine tt_if_eq (q := 24) (t := 30) dX12_held_21 rfl rfl (fun c => absurd c (by decide)) (fun c => ?_)
        clear c
        refine tt_aload_n (q := 25) dX12_held_24 rfl rfl ?_
        refine tt_iload_n (q := 26) dX12_held_25 rfl rfl ?_
        refine callVi_1 (q := 29) dX12_held_26 (Or.inr (Or.inr (Or.inl ⟨rfl, rfl, ⟨⟨_, _, rfl, rfl, (Nat.le_of_ble_eq_true rfl), rc_102⟩, Nat.le_of_ble_eq_true rfl, ?_⟩⟩))) (Nat.le_of_ble_eq_true rfl) rfl (fun t21 r20 ht21 => ht21)
        refine (show TT cX12_refuse RX12 false CT0 CN0 _ _ _ none 0 [_, _] [] _ _ from ?_)
        refine tt_aload_n (q := 1) dX12_refuse_0 rfl rfl ?_
        refine tt_getR (q := 4) dX12_refuse_1 fl_X12_7 or_102_0 (Nat.le_of_ble_eq_true rfl) rfl rfl ?_
        refine tt_iload_n (q := 5) dX12_refuse_4 rfl rfl ?_
        refine tt_inegE (v := nI 4) (q := 6) dX12_refuse_5 (by decide) rfl ?_
        refine tt_dup2 (q := 7) dX12_refuse_6 rfl rfl rfl ?_
        refine tt_iald (q := 8) dX12_refuse_7 ia_103 (Nat.le_of_ble_eq_true rfl) rfl (Nat.le_of_ble_eq_true rfl : 4 < 7) rfl ?_
        refine tt_iconst (q := 9) dX12_refuse_8 ki_1 rfl ?_
        refine tt_iadd (q := 10) dX12_refuse_9 rfl ?_
        refine tt_iast (q := 11) dX12_refuse_10 ia_103 (Nat.le_of_ble_eq_true rfl) rfl (Nat.le_of_ble_eq_true rfl : 4 < 7) rfl ?_
        replace h := h _ rfl
        refine tt_iload_n (q := 12) dX12_refuse_11 rfl rfl ?_
        refine tt_iret dX12_refuse_12 ⟨rfl, _, rfl, ?_⟩
        exact tt_iret dX12_held_29 ⟨rfl, _, rfl, h⟩
theorem g_X12_held_33 {post : SG → Int32 → Prop} {σ : SG} {r : Nat} {more : Int32} {i : Nat} (h : (95 + (9 * r) < 197 ∧ (((σ 104 (95 + (9 * r))) ≤ (nI i) → (95 + (9 * r) < 197 ∧ (((σ 102 26) ≤ (σ 104 (95 + (9 * r))) → post σ (-9 : Int32)) ∧ (¬ (σ 102 26) ≤ (σ 104 (95 + (9 * r))) → post σ (nI 99))))) ∧ (¬ (σ 104 (95 + (9 * r))) ≤ (nI i) → (((σ 102 26) ≤ (nI i) → post σ (nI i)) ∧ (¬ (σ 102 26) ≤ (nI i) → (i < 8 ∧ (i < 2 ^ 31 ∧ ((¬ i = 0 → (1 ≤ i ∧ (95 + (9 * r) + 1 + (i - 1) < 197 ∧ (95 + (9 * r) + 1 + i < 197 ∧ (∃ p24 : SG → Int32 → Prop, IN_X12_takes AF σ [.ref 102, .int (σ 104 (95 + (9 * r) + 1 + (i - 1))), .int (σ 104 (95 + (9 * r) + 1 + i))] p24 ∧ ∀ (t23 : SG) (r22 : Int32), p24 t23 r22 → (((σ 119 i) ≤ (r22 + more) → T_X12_held AF post 33 [.ref 102, .int (nI r), .int more, dum, .int (nI (i + 1))] [] t23) ∧ (¬ (σ 119 i) ≤ (r22 + more) → post t23 (nI i)))))))) ∧ (i = 0 → (95 + (9 * r) + 1 + i < 197 ∧ (∃ p33 : SG → Int32 → Prop, IN_X12_takes AF σ [.ref 102, .int (-9 : Int32), .int (σ 104 (95 + (9 * r) + 1 + i))] p33 ∧ ∀ (t32 : SG) (r31 : Int32), p33 t32 r31 → (((σ 119 i) ≤ (r31 + more) → T_X12_held AF post 33 [.ref 102, .int (nI r), .int more, dum, .int (nI (i + 1))] [] t32) ∧ (¬ (σ 119 i) ≤ (r31 + more) → post t32 (nI i))))))))))))))) : T_X12_held AF post 33 [.ref 102, .int (nI r), .int more, dum, .int (nI i)] [] σ := by
  refine tt_iload (q := 35) dX12_held_33 rfl rfl ?_
  refine tt_aload_n (q := 36) dX12_held_35 rfl rfl ?_
  refine tt_iload_n (q := 37) dX12_held_36 rfl rfl ?_
  refine callVi_1 (q := 40) dX12_held_37 (Or.inr (Or.inr (Or.inr (Or.inl ⟨rfl, rfl, ⟨⟨_, _, rfl, rfl, (Nat.le_of_ble_eq_true rfl), rc_102⟩, Nat.le_of_ble_eq_true rfl, ?_⟩⟩)))) (Nat.le_of_ble_eq_true rfl) rfl (fun t2 r1 ht2 => ht2)
  refine (show TT cX12_size RX12 false CT0 CN0 _ _ _ none 0 [_, _] [] _ _ from ?_)
  refine tt_aload_n (q := 1) dX12_size_0 rfl rfl ?_
  refine tt_getR (q := 4) dX12_size_1 fl_X12_13 or_102_1 (Nat.le_of_ble_eq_true rfl) rfl rfl ?_
  refine tt_bipush (q := 6) dX12_size_4 bi_95 rfl ?_
  refine tt_bipush (q := 8) dX12_size_6 bi_9 rfl ?_
  refine tt_iload_n (q := 9) dX12_size_8 rfl rfl ?_
  refine tt_imulN (q := 10) dX12_size_9 rfl ?_
  refine tt_iaddN (q := 11) dX12_size_10 rfl ?_
  obtain ⟨l3, h⟩ := h
  refine tt_iald (q := 12) dX12_size_11 ia_104 (Nat.le_of_ble_eq_true rfl) rfl l3 rfl ?_
  refine tt_iret dX12_size_12 ⟨rfl, _, rfl, ?_⟩
  refine tt_icmp_ge (q := 43) (t := 80) dX12_held_40 rfl rfl (fun c => ?_) (fun c => ?_)
  · replace h := h.1 c
    refine tt_aload_n (q := 81) dX12_held_80 rfl rfl ?_
    refine tt_getI (q := 84) dX12_held_81 fl_X12_211 oi_102_26 (Nat.le_of_ble_eq_true rfl) rfl ?_
    refine tt_aload_n (q := 85) dX12_held_84 rfl rfl ?_
    refine tt_iload_n (q := 86) dX12_held_85 rfl rfl ?_
    refine callVi_1 (q := 89) dX12_held_86 (Or.inr (Or.inr (Or.inr (Or.inl ⟨rfl, rfl, ⟨⟨_, _, rfl, rfl, (Nat.le_of_ble_eq_true rfl), rc_102⟩, Nat.le_of_ble_eq_true rfl, ?_⟩⟩)))) (Nat.le_of_ble_eq_true rfl) rfl (fun t6 r5 ht6 => ht6)
    refine (show TT cX12_size RX12 false CT0 CN0 _ _ _ none 0 [_, _] [] _ _ from ?_)
    refine tt_aload_n (q := 1) dX12_size_0 rfl rfl ?_
    refine tt_getR (q := 4) dX12_size_1 fl_X12_13 or_102_1 (Nat.le_of_ble_eq_true rfl) rfl rfl ?_
    refine tt_bipush (q := 6) dX12_size_4 bi_95 rfl ?_
    refine tt_bipush (q := 8) dX12_size_6 bi_9 rfl ?_
    refine tt_iload_n (q := 9) dX12_size_8 rfl rfl ?_
    refine tt_imulN (q := 10) dX12_size_9 rfl ?_
    refine tt_iaddN (q := 11) dX12_size_10 rfl ?_
    obtain ⟨l7, h⟩ := h
    refine tt_iald (q := 12) dX12_size_11 ia_104 (Nat.le_of_ble_eq_true rfl) rfl l7 rfl ?_
    refine tt_iret dX12_size_12 ⟨rfl, _, rfl, ?_⟩
    refine tt_icmp_le (q := 92) (t := 97) dX12_held_89 rfl rfl (fun c => ?_) (fun c => ?_)
    · replace h := h.1 c
      refine tt_bipush (q := 99) dX12_held_97 bi_m9 rfl ?_
      exact tt_iret dX12_held_99 ⟨rfl, _, rfl, h⟩
    · replace h := h.2 c
      refine tt_bipush (q := 94) dX12_held_92 bi_99 rfl ?_
      refine tt_goto (t := 99) dX12_held_94 rfl ?_
      exact tt_iret dX12_held_99 ⟨rfl, _, rfl, h⟩
  · replace h := h.2 c
    refine tt_iload (q := 45) dX12_held_43 rfl rfl ?_
    refine tt_aload_n (q := 46) dX12_held_45 rfl rfl ?_
    refine tt_getI (q := 49) dX12_held_46 fl_X12_211 oi_102_26 (Nat.le_of_ble_eq_true rfl) rfl ?_
    refine tt_icmp_ge (q := 52) (t := 71) dX12_held_49 rfl rfl (fun c => ?_) (fun c => ?_)
    · replace h := h.1 c
      refine tt_iload (q := 73) dX12_held_71 rfl rfl ?_
      exact tt_iret dX12_held_73 ⟨rfl, _, rfl, h⟩
    · replace h := h.2 c
      refine tt_aload_n (q := 53) dX12_held_52 rfl rfl ?_
      refine tt_getR (q := 56) dX12_held_53 fl_X12_58 or_102_25 (Nat.le_of_ble_eq_true rfl) rfl rfl ?_
      refine tt_iload (q := 58) dX12_held_56 rfl rfl ?_
      obtain ⟨l10, h⟩ := h
      refine tt_iald (q := 59) dX12_held_58 ia_119 (Nat.le_of_ble_eq_true rfl) rfl l10 rfl ?_
      refine tt_aload_n (q := 60) dX12_held_59 rfl rfl ?_
      refine tt_iload_n (q := 61) dX12_held_60 rfl rfl ?_
      refine tt_iload (q := 63) dX12_held_61 rfl rfl ?_
      refine callVi_2 (q := 66) dX12_held_63 (Or.inr (Or.inr (Or.inr (Or.inr (⟨rfl, rfl, ⟨⟨_, _, rfl, rfl, (Nat.le_of_ble_eq_true rfl), rc_102⟩, Nat.le_of_ble_eq_true rfl, ?_⟩⟩))))) (Nat.le_of_ble_eq_true rfl) rfl (fun t12 r11 ht12 => ht12)
      refine (show TT cX12_takesOf RX12 false CT_X12_takesOf CN0 _ _ _ none 0 [_, _, _] [] _ _ from ?_)
      refine tt_aload_n (q := 1) dX12_takesOf_0 rfl rfl ?_
      refine tt_iload_n (q := 2) dX12_takesOf_1 rfl rfl ?_
      obtain ⟨l14, h⟩ := h
      refine tt_if_ne (q := 5) (t := 10) dX12_takesOf_2 rfl rfl (fun c => ?_) (fun c => ?_)
      · replace h := h.1 (fun z => c ((nI_eq l14 (by decide)).2 z))
        refine tt_aload_n (q := 11) dX12_takesOf_10 rfl rfl ?_
        refine tt_iload_n (q := 12) dX12_takesOf_11 rfl rfl ?_
        refine tt_iload_n (q := 13) dX12_takesOf_12 rfl rfl ?_
        refine tt_iconst (q := 14) dX12_takesOf_13 ki_1 rfl ?_
        obtain ⟨l15, h⟩ := h
        refine tt_isubN (q := 15) dX12_takesOf_14 l15 rfl ?_
        refine callVi_2 (q := 18) dX12_takesOf_15 (Or.inl ⟨rfl, rfl, ⟨⟨_, _, rfl, rfl, (Nat.le_of_ble_eq_true rfl), rc_102⟩, Nat.le_of_ble_eq_true rfl, ?_⟩⟩) (Nat.le_of_ble_eq_true rfl) rfl (fun t17 r16 ht17 => ht17)
        refine (show TT cX12_moveOf RX12 false CT0 CN0 _ _ _ none 0 [_, _, _] [] _ _ from ?_)
        refine tt_aload_n (q := 1) dX12_moveOf_0 rfl rfl ?_
        refine tt_getR (q := 4) dX12_moveOf_1 fl_X12_13 or_102_1 (Nat.le_of_ble_eq_true rfl) rfl rfl ?_
        refine tt_bipush (q := 6) dX12_moveOf_4 bi_95 rfl ?_
        refine tt_bipush (q := 8) dX12_moveOf_6 bi_9 rfl ?_
        refine tt_iload_n (q := 9) dX12_moveOf_8 rfl rfl ?_
        refine tt_imulN (q := 10) dX12_moveOf_9 rfl ?_
        refine tt_iaddN (q := 11) dX12_moveOf_10 rfl ?_
        refine tt_iconst (q := 12) dX12_moveOf_11 ki_1 rfl ?_
        refine tt_iaddN (q := 13) dX12_moveOf_12 rfl ?_
        refine tt_iload_n (q := 14) dX12_moveOf_13 rfl rfl ?_
        refine tt_iaddN (q := 15) dX12_moveOf_14 rfl ?_
        obtain ⟨l18, h⟩ := h
        refine tt_iald (q := 16) dX12_moveOf_15 ia_104 (Nat.le_of_ble_eq_true rfl) rfl l18 rfl ?_
        refine tt_iret dX12_moveOf_16 ⟨rfl, _, rfl, ?_⟩
        refine tt_aload_n (q := 19) dX12_takesOf_18 rfl rfl ?_
        refine tt_iload_n (q := 20) dX12_takesOf_19 rfl rfl ?_
        refine tt_iload_n (q := 21) dX12_takesOf_20 rfl rfl ?_
        refine callVi_2 (q := 24) dX12_takesOf_21 (Or.inl ⟨rfl, rfl, ⟨⟨_, _, rfl, rfl, (Nat.le_of_ble_eq_true rfl), rc_102⟩, Nat.le_of_ble_eq_true rfl, ?_⟩⟩) (Nat.le_of_ble_eq_true rfl) rfl (fun t20 r19 ht20 => ht20)
        refine (show TT cX12_moveOf RX12 false CT0 CN0 _ _ _ none 0 [_, _, _] [] _ _ from ?_)
        refine tt_aload_n (q := 1) dX12_moveOf_0 rfl rfl ?_
        refine tt_getR (q := 4) dX12_moveOf_1 fl_X12_13 or_102_1 (Nat.le_of_ble_eq_true rfl) rfl rfl ?_
        refine tt_bipush (q := 6) dX12_moveOf_4 bi_95 rfl ?_
        refine tt_bipush (q := 8) dX12_moveOf_6 bi_9 rfl ?_
        refine tt_iload_n (q := 9) dX12_moveOf_8 rfl rfl ?_
        refine tt_imulN (q := 10) dX12_moveOf_9 rfl ?_
        refine tt_iaddN (q := 11) dX12_moveOf_10 rfl ?_
        refine tt_iconst (q := 12) dX12_moveOf_11 ki_1 rfl ?_
        refine tt_iaddN (q := 13) dX12_moveOf_12 rfl ?_
        refine tt_iload_n (q := 14) dX12_moveOf_13 rfl rfl ?_
        refine tt_iaddN (q := 15) dX12_moveOf_14 rfl ?_
        obtain ⟨l21, h⟩ := h
        refine tt_iald (q := 16) dX12_moveOf_15 ia_104 (Nat.le_of_ble_eq_true rfl) rfl l21 rfl ?_
        refine tt_iret dX12_moveOf_16 ⟨rfl, _, rfl, ?_⟩
        obtain ⟨p24, hp25, h⟩ := h
        refine callVi_2 (q := 27) dX12_takesOf_24 (Or.inr (⟨rfl, rfl, hp25⟩)) (Nat.le_of_ble_eq_true rfl) rfl (fun t23 r22 hr26 => ?_)
        replace h := h t23 r22 hr26
        refine tt_iret dX12_takesOf_27 ⟨rfl, _, rfl, ?_⟩
        refine tt_iload_n (q := 67) dX12_held_66 rfl rfl ?_
        refine tt_iadd (q := 68) dX12_held_67 rfl ?_
        refine tt_icmp_le (q := 71) (t := 74) dX12_held_68 rfl rfl (fun c => ?_) (fun c => ?_)
        · replace h := h.1 c
          refine inc_4 (q := 77) dX12_held_74 (nI_inc1 _) rfl rfl ?_
          refine tt_goto (t := 33) dX12_held_77 rfl ?_
          exact h
        · replace h := h.2 c
          refine tt_iload (q := 73) dX12_held_71 rfl rfl ?_
          exact tt_iret dX12_held_73 ⟨rfl, _, rfl, h⟩
      · replace h := h.2 ((nI_eq l14 (by decide)).1 c)
        refine tt_bipush (q := 7) dX12_takesOf_5 bi_m9 rfl ?_
        refine tt_goto (t := 18) dX12_takesOf_7 rfl ?_
        refine tt_aload_n (q := 19) dX12_takesOf_18 rfl rfl ?_
        refine tt_iload_n (q := 20) dX12_takesOf_19 rfl rfl ?_
        refine tt_iload_n (q := 21) dX12_takesOf_20 rfl rfl ?_
        refine callVi_2 (q := 24) dX12_takesOf_21 (Or.inl ⟨rfl, rfl, ⟨⟨_, _, rfl, rfl, (Nat.le_of_ble_eq_true rfl), rc_102⟩, Nat.le_of_ble_eq_true rfl, ?_⟩⟩) (Nat.le_of_ble_eq_true rfl) rfl (fun t29 r28 ht29 => ht29)
        refine (show TT cX12_moveOf RX12 false CT0 CN0 _ _ _ none 0 [_, _, _] [] _ _ from ?_)
        refine tt_aload_n (q := 1) dX12_moveOf_0 rfl rfl ?_
        refine tt_getR (q := 4) dX12_moveOf_1 fl_X12_13 or_102_1 (Nat.le_of_ble_eq_true rfl) rfl rfl ?_
        refine tt_bipush (q := 6) dX12_moveOf_4 bi_95 rfl ?_
        refine tt_bipush (q := 8) dX12_moveOf_6 bi_9 rfl ?_
        refine tt_iload_n (q := 9) dX12_moveOf_8 rfl rfl ?_
        refine tt_imulN (q := 10) dX12_moveOf_9 rfl ?_
        refine tt_iaddN (q := 11) dX12_moveOf_10 rfl ?_
        refine tt_iconst (q := 12) dX12_moveOf_11 ki_1 rfl ?_
        refine tt_iaddN (q := 13) dX12_moveOf_12 rfl ?_
        refine tt_iload_n (q := 14) dX12_moveOf_13 rfl rfl ?_
        refine tt_iaddN (q := 15) dX12_moveOf_14 rfl ?_
        obtain ⟨l30, h⟩ := h
        refine tt_iald (q := 16) dX12_moveOf_15 ia_104 (Nat.le_of_ble_eq_true rfl) rfl l30 rfl ?_
        refine tt_iret dX12_moveOf_16 ⟨rfl, _, rfl, ?_⟩
        obtain ⟨p33, hp34, h⟩ := h
        refine callVi_2 (q := 27) dX12_takesOf_24 (Or.inr (⟨rfl, rfl, hp34⟩)) (Nat.le_of_ble_eq_true rfl) rfl (fun t32 r31 hr35 => ?_)
        replace h := h t32 r31 hr35
        refine tt_iret dX12_takesOf_27 ⟨rfl, _, rfl, ?_⟩
        refine tt_iload_n (q := 67) dX12_held_66 rfl rfl ?_
        refine tt_iadd (q := 68) dX12_held_67 rfl ?_
        refine tt_icmp_le (q := 71) (t := 74) dX12_held_68 rfl rfl (fun c => ?_) (fun c => ?_)
        · replace h := h.1 c
          refine inc_4 (q := 77) dX12_held_74 (nI_inc1 _) rfl rfl ?_
          refine tt_goto (t := 33) dX12_held_77 rfl ?_
          exact h
        · replace h := h.2 c
          refine tt_iload (q := 73) dX12_held_71 rfl rfl ?_
          exact tt_iret dX12_held_73 ⟨rfl, _, rfl, h⟩

theorem g_X12_heldUp_0 {post : SG → Int32 → Prop} {σ : SG} {r : Int32} (h : ((r < 0 → (∀ s8 : SG, s8 = up σ 103 1 ((σ 103 1) + (nI 1)) → post s8 (-1 : Int32))) ∧ (¬ r < 0 → (((σ 104 1) ≤ r → (∀ s12 : SG, s12 = up σ 103 1 ((σ 103 1) + (nI 1)) → post s12 (-1 : Int32))) ∧ (¬ (σ 104 1) ≤ r → T_X12_heldUp AF post 18 [.ref 102, .int r, .int (nI 0), .int (nI 0), dum] [] σ))))) : T_X12_heldUp AF post 0 [.ref 102, .int r, dum, dum, dum] [] σ := by
  refine tt_aload_n (q := 1) dX12_heldUp_0 rfl rfl ?_
  refine tt_iload_n (q := 2) dX12_heldUp_1 rfl rfl ?_
  refine callVi_1 (q := 5) dX12_heldUp_2 (Or.inl ⟨rfl, rfl, ⟨⟨_, _, rfl, rfl, (Nat.le_of_ble_eq_true rfl), rc_102⟩, Nat.le_of_ble_eq_true rfl, ?_⟩⟩) (Nat.le_of_ble_eq_true rfl) rfl (fun t2 r1 ht2 => ht2)
  refine (show TT cX12_isRow RX12 false CT_X12_isRow CN0 _ _ _ none 0 [_, _] [] _ _ from ?_)
  refine tt_iload_n (q := 1) dX12_isRow_0 rfl rfl ?_
  refine tt_aload_n (q := 2) dX12_isRow_1 rfl rfl ?_
  refine tt_getR (q := 5) dX12_isRow_2 fl_X12_13 or_102_1 (Nat.le_of_ble_eq_true rfl) rfl rfl ?_
  refine tt_iconst (q := 6) dX12_isRow_5 ki_1 rfl ?_
  refine tt_iald (q := 7) dX12_isRow_6 ia_104 (Nat.le_of_ble_eq_true rfl) rfl (Nat.le_of_ble_eq_true rfl : 1 < 197) rfl ?_
  refine callSi_2 (q := 10) dX12_isRow_7 (⟨rfl, rfl, ⟨rfl, Nat.le_of_ble_eq_true rfl, ?_⟩⟩) (Nat.le_of_ble_eq_true rfl) rfl (fun t4 r3 ht4 => ht4)
  refine (show TT cX12_isIn RX12 false CT0 CN0 _ _ _ none 0 [_, _] [] _ _ from ?_)
  refine tt_iload_n (q := 1) dX12_isIn_0 rfl rfl ?_
  refine tt_if_lt (q := 4) (t := 13) dX12_isIn_1 rfl rfl (fun c => ?_) (fun c => ?_)
  · replace h := h.1 c
    refine tt_iconst (q := 14) dX12_isIn_13 ki_0 rfl ?_
    refine tt_iret dX12_isIn_14 ⟨rfl, _, rfl, Or.inl nI_0, ?_⟩
    refine tt_iret dX12_isRow_10 ⟨rfl, _, rfl, Or.inl nI_0, ?_⟩
    refine tt_if_ne (q := 8) (t := 14) dX12_heldUp_5 rfl rfl (fun c => absurd c (by decide)) (fun c => ?_)
    clear c
    refine tt_aload_n (q := 9) dX12_heldUp_8 rfl rfl ?_
    refine tt_iconst (q := 10) dX12_heldUp_9 ki_m1 rfl ?_
    refine callVi_1 (q := 13) dX12_heldUp_10 (Or.inr (Or.inl ⟨rfl, rfl, ⟨⟨_, _, rfl, rfl, (Nat.le_of_ble_eq_true rfl), rc_102⟩, Nat.le_of_ble_eq_true rfl, ?_⟩⟩)) (Nat.le_of_ble_eq_true rfl) rfl (fun t7 r6 ht7 => ht7)
    refine (show TT cX12_refuse RX12 false CT0 CN0 _ _ _ none 0 [_, _] [] _ _ from ?_)
    refine tt_aload_n (q := 1) dX12_refuse_0 rfl rfl ?_
    refine tt_getR (q := 4) dX12_refuse_1 fl_X12_7 or_102_0 (Nat.le_of_ble_eq_true rfl) rfl rfl ?_
    refine tt_iload_n (q := 5) dX12_refuse_4 rfl rfl ?_
    refine tt_inegE (v := nI 1) (q := 6) dX12_refuse_5 (by decide) rfl ?_
    refine tt_dup2 (q := 7) dX12_refuse_6 rfl rfl rfl ?_
    refine tt_iald (q := 8) dX12_refuse_7 ia_103 (Nat.le_of_ble_eq_true rfl) rfl (Nat.le_of_ble_eq_true rfl : 1 < 7) rfl ?_
    refine tt_iconst (q := 9) dX12_refuse_8 ki_1 rfl ?_
    refine tt_iadd (q := 10) dX12_refuse_9 rfl ?_
    refine tt_iast (q := 11) dX12_refuse_10 ia_103 (Nat.le_of_ble_eq_true rfl) rfl (Nat.le_of_ble_eq_true rfl : 1 < 7) rfl ?_
    replace h := h _ rfl
    refine tt_iload_n (q := 12) dX12_refuse_11 rfl rfl ?_
    refine tt_iret dX12_refuse_12 ⟨rfl, _, rfl, ?_⟩
    exact tt_iret dX12_heldUp_13 ⟨rfl, _, rfl, h⟩
  · replace h := h.2 c
    refine tt_iload_n (q := 5) dX12_isIn_4 rfl rfl ?_
    refine tt_iload_n (q := 6) dX12_isIn_5 rfl rfl ?_
    refine tt_icmp_ge (q := 9) (t := 13) dX12_isIn_6 rfl rfl (fun c => ?_) (fun c => ?_)
    · replace h := h.1 c
      refine tt_iconst (q := 14) dX12_isIn_13 ki_0 rfl ?_
      refine tt_iret dX12_isIn_14 ⟨rfl, _, rfl, Or.inl nI_0, ?_⟩
      refine tt_iret dX12_isRow_10 ⟨rfl, _, rfl, Or.inl nI_0, ?_⟩
      refine tt_if_ne (q := 8) (t := 14) dX12_heldUp_5 rfl rfl (fun c => absurd c (by decide)) (fun c => ?_)
      clear c
      refine tt_aload_n (q := 9) dX12_heldUp_8 rfl rfl ?_
      refine tt_iconst (q := 10) dX12_heldUp_9 ki_m1 rfl ?_
      refine callVi_1 (q := 13) dX12_heldUp_10 (Or.inr (Or.inl ⟨rfl, rfl, ⟨⟨_, _, rfl, rfl, (Nat.le_of_ble_eq_true rfl), rc_102⟩, Nat.le_of_ble_eq_true rfl, ?_⟩⟩)) (Nat.le_of_ble_eq_true rfl) rfl (fun t11 r10 ht11 => ht11)
      refine (show TT cX12_refuse RX12 false CT0 CN0 _ _ _ none 0 [_, _] [] _ _ from ?_)
      refine tt_aload_n (q := 1) dX12_refuse_0 rfl rfl ?_
      refine tt_getR (q := 4) dX12_refuse_1 fl_X12_7 or_102_0 (Nat.le_of_ble_eq_true rfl) rfl rfl ?_
      refine tt_iload_n (q := 5) dX12_refuse_4 rfl rfl ?_
      refine tt_inegE (v := nI 1) (q := 6) dX12_refuse_5 (by decide) rfl ?_
      refine tt_dup2 (q := 7) dX12_refuse_6 rfl rfl rfl ?_
      refine tt_iald (q := 8) dX12_refuse_7 ia_103 (Nat.le_of_ble_eq_true rfl) rfl (Nat.le_of_ble_eq_true rfl : 1 < 7) rfl ?_
      refine tt_iconst (q := 9) dX12_refuse_8 ki_1 rfl ?_
      refine tt_iadd (q := 10) dX12_refuse_9 rfl ?_
      refine tt_iast (q := 11) dX12_refuse_10 ia_103 (Nat.le_of_ble_eq_true rfl) rfl (Nat.le_of_ble_eq_true rfl : 1 < 7) rfl ?_
      replace h := h _ rfl
      refine tt_iload_n (q := 12) dX12_refuse_11 rfl rfl ?_
      refine tt_iret dX12_refuse_12 ⟨rfl, _, rfl, ?_⟩
      exact tt_iret dX12_heldUp_13 ⟨rfl, _, rfl, h⟩
    · replace h := h.2 c
      refine tt_iconst (q := 10) dX12_isIn_9 ki_1 rfl ?_
      refine tt_goto (t := 14) dX12_isIn_10 rfl ?_
      refine tt_iret dX12_isIn_14 ⟨rfl, _, rfl, Or.inr rfl, ?_⟩
      refine tt_iret dX12_isRow_10 ⟨rfl, _, rfl, Or.inr rfl, ?_⟩
      refine tt_if_ne (q := 8) (t := 14) dX12_heldUp_5 rfl rfl (fun c => ?_) (fun c => absurd c (by decide))
      clear c
      refine tt_iconst (q := 15) dX12_heldUp_14 ki_0 rfl ?_
      refine sti_n_2 (q := 16) dX12_heldUp_15 rfl rfl rfl ?_
      refine tt_iconst (q := 17) dX12_heldUp_16 ki_0 rfl ?_
      refine sti_n_3 (q := 18) dX12_heldUp_17 rfl rfl rfl ?_
      exact h
theorem g_X12_heldUp_18 {post : SG → Int32 → Prop} {σ : SG} {r : Nat} {v : Int32} {i : Nat} (h : (((σ 102 26) ≤ (nI i) → (∀ s2 : SG, s2 = up σ 102 26 (nI 0) → post s2 v)) ∧ (¬ (σ 102 26) ≤ (nI i) → (95 + (9 * r) < 197 ∧ (((σ 104 (95 + (9 * r))) ≤ (nI i) → (i < 8 ∧ (((σ 119 i) ≤ (nI 0) → T_X12_heldUp AF post 18 [.ref 102, .int (nI r), .int (v + (nI 0)), .int (nI (i + 1)), dum] [] σ) ∧ (¬ (σ 119 i) ≤ (nI 0) → (i < 8 ∧ T_X12_heldUp AF post 18 [.ref 102, .int (nI r), .int (v + ((σ 119 i) - (nI 0))), .int (nI (i + 1)), dum] [] σ))))) ∧ (¬ (σ 104 (95 + (9 * r))) ≤ (nI i) → (i < 2 ^ 31 ∧ ((¬ i = 0 → (1 ≤ i ∧ (95 + (9 * r) + 1 + (i - 1) < 197 ∧ (95 + (9 * r) + 1 + i < 197 ∧ (∃ p23 : SG → Int32 → Prop, IN_X12_takes AF σ [.ref 102, .int (σ 104 (95 + (9 * r) + 1 + (i - 1))), .int (σ 104 (95 + (9 * r) + 1 + i))] p23 ∧ ∀ (t22 : SG) (r21 : Int32), p23 t22 r21 → (i < 8 ∧ (((t22 119 i) ≤ r21 → T_X12_heldUp AF post 18 [.ref 102, .int (nI r), .int (v + (nI 0)), .int (nI (i + 1)), dum] [] t22) ∧ (¬ (t22 119 i) ≤ r21 → (i < 8 ∧ T_X12_heldUp AF post 18 [.ref 102, .int (nI r), .int (v + ((t22 119 i) - r21)), .int (nI (i + 1)), dum] [] t22))))))))) ∧ (i = 0 → (95 + (9 * r) + 1 + i < 197 ∧ (∃ p34 : SG → Int32 → Prop, IN_X12_takes AF σ [.ref 102, .int (-9 : Int32), .int (σ 104 (95 + (9 * r) + 1 + i))] p34 ∧ ∀ (t33 : SG) (r32 : Int32), p34 t33 r32 → (i < 8 ∧ (((t33 119 i) ≤ r32 → T_X12_heldUp AF post 18 [.ref 102, .int (nI r), .int (v + (nI 0)), .int (nI (i + 1)), dum] [] t33) ∧ (¬ (t33 119 i) ≤ r32 → (i < 8 ∧ T_X12_heldUp AF post 18 [.ref 102, .int (nI r), .int (v + ((t33 119 i) - r32)), .int (nI (i + 1)), dum] [] t33))))))))))))))) : T_X12_heldUp AF post 18 [.ref 102, .int (nI r), .int v, .int (nI i), dum] [] σ := by
  refine tt_iload_n (q := 19) dX12_heldUp_18 rfl rfl ?_
  refine tt_aload_n (q := 20) dX12_heldUp_19 rfl rfl ?_
  refine tt_getI (q := 23) dX12_heldUp_20 fl_X12_211 oi_102_26 (Nat.le_of_ble_eq_true rfl) rfl ?_
  refine tt_icmp_ge (q := 26) (t := 80) dX12_heldUp_23 rfl rfl (fun c => ?_) (fun c => ?_)
  · replace h := h.1 c
    refine tt_aload_n (q := 81) dX12_heldUp_80 rfl rfl ?_
    refine tt_iconst (q := 82) dX12_heldUp_81 ki_0 rfl ?_
    refine tt_putI (q := 85) dX12_heldUp_82 fl_X12_211 oi_102_26 (fp_12_26 _) (Nat.le_of_ble_eq_true rfl) rfl ?_
    replace h := h _ rfl
    refine tt_iload_n (q := 86) dX12_heldUp_85 rfl rfl ?_
    exact tt_iret dX12_heldUp_86 ⟨rfl, _, rfl, h⟩
  · replace h := h.2 c
    refine tt_iload_n (q := 27) dX12_heldUp_26 rfl rfl ?_
    refine tt_aload_n (q := 28) dX12_heldUp_27 rfl rfl ?_
    refine tt_iload_n (q := 29) dX12_heldUp_28 rfl rfl ?_
    refine callVi_1 (q := 32) dX12_heldUp_29 (Or.inr (Or.inr (Or.inl ⟨rfl, rfl, ⟨⟨_, _, rfl, rfl, (Nat.le_of_ble_eq_true rfl), rc_102⟩, Nat.le_of_ble_eq_true rfl, ?_⟩⟩))) (Nat.le_of_ble_eq_true rfl) rfl (fun t4 r3 ht4 => ht4)
    refine (show TT cX12_size RX12 false CT0 CN0 _ _ _ none 0 [_, _] [] _ _ from ?_)
    refine tt_aload_n (q := 1) dX12_size_0 rfl rfl ?_
    refine tt_getR (q := 4) dX12_size_1 fl_X12_13 or_102_1 (Nat.le_of_ble_eq_true rfl) rfl rfl ?_
    refine tt_bipush (q := 6) dX12_size_4 bi_95 rfl ?_
    refine tt_bipush (q := 8) dX12_size_6 bi_9 rfl ?_
    refine tt_iload_n (q := 9) dX12_size_8 rfl rfl ?_
    refine tt_imulN (q := 10) dX12_size_9 rfl ?_
    refine tt_iaddN (q := 11) dX12_size_10 rfl ?_
    obtain ⟨l5, h⟩ := h
    refine tt_iald (q := 12) dX12_size_11 ia_104 (Nat.le_of_ble_eq_true rfl) rfl l5 rfl ?_
    refine tt_iret dX12_size_12 ⟨rfl, _, rfl, ?_⟩
    refine tt_icmp_ge (q := 35) (t := 44) dX12_heldUp_32 rfl rfl (fun c => ?_) (fun c => ?_)
    · replace h := h.1 c
      refine tt_iconst (q := 45) dX12_heldUp_44 ki_0 rfl ?_
      refine sti_4 (q := 47) dX12_heldUp_45 rfl rfl ?_
      refine tt_iload_n (q := 48) dX12_heldUp_47 rfl rfl ?_
      refine tt_aload_n (q := 49) dX12_heldUp_48 rfl rfl ?_
      refine tt_getR (q := 52) dX12_heldUp_49 fl_X12_58 or_102_25 (Nat.le_of_ble_eq_true rfl) rfl rfl ?_
      refine tt_iload_n (q := 53) dX12_heldUp_52 rfl rfl ?_
      obtain ⟨l7, h⟩ := h
      refine tt_iald (q := 54) dX12_heldUp_53 ia_119 (Nat.le_of_ble_eq_true rfl) rfl l7 rfl ?_
      refine tt_iload (q := 56) dX12_heldUp_54 rfl rfl ?_
      refine tt_icmp_le (q := 59) (t := 71) dX12_heldUp_56 rfl rfl (fun c => ?_) (fun c => ?_)
      · replace h := h.1 c
        refine tt_iconst (q := 72) dX12_heldUp_71 ki_0 rfl ?_
        refine tt_iadd (q := 73) dX12_heldUp_72 rfl ?_
        refine sti_n_2 (q := 74) dX12_heldUp_73 rfl rfl rfl ?_
        refine inc_3 (q := 77) dX12_heldUp_74 (nI_inc1 _) rfl rfl ?_
        refine tt_goto (t := 18) dX12_heldUp_77 rfl ?_
        refine tt_wk (L2 := [_, _, _, _, dum]) ⟨Or.inl rfl, Or.inl rfl, Or.inl rfl, Or.inl rfl, Or.inr rfl, trivial⟩ ?_
        exact h
      · replace h := h.2 c
        refine tt_aload_n (q := 60) dX12_heldUp_59 rfl rfl ?_
        refine tt_getR (q := 63) dX12_heldUp_60 fl_X12_58 or_102_25 (Nat.le_of_ble_eq_true rfl) rfl rfl ?_
        refine tt_iload_n (q := 64) dX12_heldUp_63 rfl rfl ?_
        obtain ⟨l9, h⟩ := h
        refine tt_iald (q := 65) dX12_heldUp_64 ia_119 (Nat.le_of_ble_eq_true rfl) rfl l9 rfl ?_
        refine tt_iload (q := 67) dX12_heldUp_65 rfl rfl ?_
        refine tt_isub (q := 68) dX12_heldUp_67 rfl ?_
        refine tt_goto (t := 72) dX12_heldUp_68 rfl ?_
        refine tt_iadd (q := 73) dX12_heldUp_72 rfl ?_
        refine sti_n_2 (q := 74) dX12_heldUp_73 rfl rfl rfl ?_
        refine inc_3 (q := 77) dX12_heldUp_74 (nI_inc1 _) rfl rfl ?_
        refine tt_goto (t := 18) dX12_heldUp_77 rfl ?_
        refine tt_wk (L2 := [_, _, _, _, dum]) ⟨Or.inl rfl, Or.inl rfl, Or.inl rfl, Or.inl rfl, Or.inr rfl, trivial⟩ ?_
        exact h
    · replace h := h.2 c
      refine tt_aload_n (q := 36) dX12_heldUp_35 rfl rfl ?_
      refine tt_iload_n (q := 37) dX12_heldUp_36 rfl rfl ?_
      refine tt_iload_n (q := 38) dX12_heldUp_37 rfl rfl ?_
      refine callVi_2 (q := 41) dX12_heldUp_38 (Or.inr (Or.inr (Or.inr (⟨rfl, rfl, ⟨⟨_, _, rfl, rfl, (Nat.le_of_ble_eq_true rfl), rc_102⟩, Nat.le_of_ble_eq_true rfl, ?_⟩⟩)))) (Nat.le_of_ble_eq_true rfl) rfl (fun t11 r10 ht11 => ht11)
      refine (show TT cX12_takesOf RX12 false CT_X12_takesOf CN0 _ _ _ none 0 [_, _, _] [] _ _ from ?_)
      refine tt_aload_n (q := 1) dX12_takesOf_0 rfl rfl ?_
      refine tt_iload_n (q := 2) dX12_takesOf_1 rfl rfl ?_
      obtain ⟨l13, h⟩ := h
      refine tt_if_ne (q := 5) (t := 10) dX12_takesOf_2 rfl rfl (fun c => ?_) (fun c => ?_)
      · replace h := h.1 (fun z => c ((nI_eq l13 (by decide)).2 z))
        refine tt_aload_n (q := 11) dX12_takesOf_10 rfl rfl ?_
        refine tt_iload_n (q := 12) dX12_takesOf_11 rfl rfl ?_
        refine tt_iload_n (q := 13) dX12_takesOf_12 rfl rfl ?_
        refine tt_iconst (q := 14) dX12_takesOf_13 ki_1 rfl ?_
        obtain ⟨l14, h⟩ := h
        refine tt_isubN (q := 15) dX12_takesOf_14 l14 rfl ?_
        refine callVi_2 (q := 18) dX12_takesOf_15 (Or.inl ⟨rfl, rfl, ⟨⟨_, _, rfl, rfl, (Nat.le_of_ble_eq_true rfl), rc_102⟩, Nat.le_of_ble_eq_true rfl, ?_⟩⟩) (Nat.le_of_ble_eq_true rfl) rfl (fun t16 r15 ht16 => ht16)
        refine (show TT cX12_moveOf RX12 false CT0 CN0 _ _ _ none 0 [_, _, _] [] _ _ from ?_)
        refine tt_aload_n (q := 1) dX12_moveOf_0 rfl rfl ?_
        refine tt_getR (q := 4) dX12_moveOf_1 fl_X12_13 or_102_1 (Nat.le_of_ble_eq_true rfl) rfl rfl ?_
        refine tt_bipush (q := 6) dX12_moveOf_4 bi_95 rfl ?_
        refine tt_bipush (q := 8) dX12_moveOf_6 bi_9 rfl ?_
        refine tt_iload_n (q := 9) dX12_moveOf_8 rfl rfl ?_
        refine tt_imulN (q := 10) dX12_moveOf_9 rfl ?_
        refine tt_iaddN (q := 11) dX12_moveOf_10 rfl ?_
        refine tt_iconst (q := 12) dX12_moveOf_11 ki_1 rfl ?_
        refine tt_iaddN (q := 13) dX12_moveOf_12 rfl ?_
        refine tt_iload_n (q := 14) dX12_moveOf_13 rfl rfl ?_
        refine tt_iaddN (q := 15) dX12_moveOf_14 rfl ?_
        obtain ⟨l17, h⟩ := h
        refine tt_iald (q := 16) dX12_moveOf_15 ia_104 (Nat.le_of_ble_eq_true rfl) rfl l17 rfl ?_
        refine tt_iret dX12_moveOf_16 ⟨rfl, _, rfl, ?_⟩
        refine tt_aload_n (q := 19) dX12_takesOf_18 rfl rfl ?_
        refine tt_iload_n (q := 20) dX12_takesOf_19 rfl rfl ?_
        refine tt_iload_n (q := 21) dX12_takesOf_20 rfl rfl ?_
        refine callVi_2 (q := 24) dX12_takesOf_21 (Or.inl ⟨rfl, rfl, ⟨⟨_, _, rfl, rfl, (Nat.le_of_ble_eq_true rfl), rc_102⟩, Nat.le_of_ble_eq_true rfl, ?_⟩⟩) (Nat.le_of_ble_eq_true rfl) rfl (fun t19 r18 ht19 => ht19)
        refine (show TT cX12_moveOf RX12 false CT0 CN0 _ _ _ none 0 [_, _, _] [] _ _ from ?_)
        refine tt_aload_n (q := 1) dX12_moveOf_0 rfl rfl ?_
        refine tt_getR (q := 4) dX12_moveOf_1 fl_X12_13 or_102_1 (Nat.le_of_ble_eq_true rfl) rfl rfl ?_
        refine tt_bipush (q := 6) dX12_moveOf_4 bi_95 rfl ?_
        refine tt_bipush (q := 8) dX12_moveOf_6 bi_9 rfl ?_
        refine tt_iload_n (q := 9) dX12_moveOf_8 rfl rfl ?_
        refine tt_imulN (q := 10) dX12_moveOf_9 rfl ?_
        refine tt_iaddN (q := 11) dX12_moveOf_10 rfl ?_
        refine tt_iconst (q := 12) dX12_moveOf_11 ki_1 rfl ?_
        refine tt_iaddN (q := 13) dX12_moveOf_12 rfl ?_
        refine tt_iload_n (q := 14) dX12_moveOf_13 rfl rfl ?_
        refine tt_iaddN (q := 15) dX12_moveOf_14 rfl ?_
        obtain ⟨l20, h⟩ := h
        refine tt_iald (q := 16) dX12_moveOf_15 ia_104 (Nat.le_of_ble_eq_true rfl) rfl l20 rfl ?_
        refine tt_iret dX12_moveOf_16 ⟨rfl, _, rfl, ?_⟩
        obtain ⟨p23, hp24, h⟩ := h
        refine callVi_2 (q := 27) dX12_takesOf_24 (Or.inr (⟨rfl, rfl, hp24⟩)) (Nat.le_of_ble_eq_true rfl) rfl (fun t22 r21 hr25 => ?_)
        replace h := h t22 r21 hr25
        refine tt_iret dX12_takesOf_27 ⟨rfl, _, rfl, ?_⟩
        refine tt_goto (t := 45) dX12_heldUp_41 rfl ?_
        refine sti_4 (q := 47) dX12_heldUp_45 rfl rfl ?_
        refine tt_iload_n (q := 48) dX12_heldUp_47 rfl rfl ?_
        refine tt_aload_n (q := 49) dX12_heldUp_48 rfl rfl ?_
        refine tt_getR (q := 52) dX12_heldUp_49 fl_X12_58 or_102_25 (Nat.le_of_ble_eq_true rfl) rfl rfl ?_
        refine tt_iload_n (q := 53) dX12_heldUp_52 rfl rfl ?_
        obtain ⟨l26, h⟩ := h
        refine tt_iald (q := 54) dX12_heldUp_53 ia_119 (Nat.le_of_ble_eq_true rfl) rfl l26 rfl ?_
        refine tt_iload (q := 56) dX12_heldUp_54 rfl rfl ?_
        refine tt_icmp_le (q := 59) (t := 71) dX12_heldUp_56 rfl rfl (fun c => ?_) (fun c => ?_)
        · replace h := h.1 c
          refine tt_iconst (q := 72) dX12_heldUp_71 ki_0 rfl ?_
          refine tt_iadd (q := 73) dX12_heldUp_72 rfl ?_
          refine sti_n_2 (q := 74) dX12_heldUp_73 rfl rfl rfl ?_
          refine inc_3 (q := 77) dX12_heldUp_74 (nI_inc1 _) rfl rfl ?_
          refine tt_goto (t := 18) dX12_heldUp_77 rfl ?_
          refine tt_wk (L2 := [_, _, _, _, dum]) ⟨Or.inl rfl, Or.inl rfl, Or.inl rfl, Or.inl rfl, Or.inr rfl, trivial⟩ ?_
          exact h
        · replace h := h.2 c
          refine tt_aload_n (q := 60) dX12_heldUp_59 rfl rfl ?_
          refine tt_getR (q := 63) dX12_heldUp_60 fl_X12_58 or_102_25 (Nat.le_of_ble_eq_true rfl) rfl rfl ?_
          refine tt_iload_n (q := 64) dX12_heldUp_63 rfl rfl ?_
          obtain ⟨l28, h⟩ := h
          refine tt_iald (q := 65) dX12_heldUp_64 ia_119 (Nat.le_of_ble_eq_true rfl) rfl l28 rfl ?_
          refine tt_iload (q := 67) dX12_heldUp_65 rfl rfl ?_
          refine tt_isub (q := 68) dX12_heldUp_67 rfl ?_
          refine tt_goto (t := 72) dX12_heldUp_68 rfl ?_
          refine tt_iadd (q := 73) dX12_heldUp_72 rfl ?_
          refine sti_n_2 (q := 74) dX12_heldUp_73 rfl rfl rfl ?_
          refine inc_3 (q := 77) dX12_heldUp_74 (nI_inc1 _) rfl rfl ?_
          refine tt_goto (t := 18) dX12_heldUp_77 rfl ?_
          refine tt_wk (L2 := [_, _, _, _, dum]) ⟨Or.inl rfl, Or.inl rfl, Or.inl rfl, Or.inl rfl, Or.inr rfl, trivial⟩ ?_
          exact h
      · replace h := h.2 ((nI_eq l13 (by decide)).1 c)
        refine tt_bipush (q := 7) dX12_takesOf_5 bi_m9 rfl ?_
        refine tt_goto (t := 18) dX12_takesOf_7 rfl ?_
        refine tt_aload_n (q := 19) dX12_takesOf_18 rfl rfl ?_
        refine tt_iload_n (q := 20) dX12_takesOf_19 rfl rfl ?_
        refine tt_iload_n (q := 21) dX12_takesOf_20 rfl rfl ?_
        refine callVi_2 (q := 24) dX12_takesOf_21 (Or.inl ⟨rfl, rfl, ⟨⟨_, _, rfl, rfl, (Nat.le_of_ble_eq_true rfl), rc_102⟩, Nat.le_of_ble_eq_true rfl, ?_⟩⟩) (Nat.le_of_ble_eq_true rfl) rfl (fun t30 r29 ht30 => ht30)
        refine (show TT cX12_moveOf RX12 false CT0 CN0 _ _ _ none 0 [_, _, _] [] _ _ from ?_)
        refine tt_aload_n (q := 1) dX12_moveOf_0 rfl rfl ?_
        refine tt_getR (q := 4) dX12_moveOf_1 fl_X12_13 or_102_1 (Nat.le_of_ble_eq_true rfl) rfl rfl ?_
        refine tt_bipush (q := 6) dX12_moveOf_4 bi_95 rfl ?_
        refine tt_bipush (q := 8) dX12_moveOf_6 bi_9 rfl ?_
        refine tt_iload_n (q := 9) dX12_moveOf_8 rfl rfl ?_
        refine tt_imulN (q := 10) dX12_moveOf_9 rfl ?_
        refine tt_iaddN (q := 11) dX12_moveOf_10 rfl ?_
        refine tt_iconst (q := 12) dX12_moveOf_11 ki_1 rfl ?_
        refine tt_iaddN (q := 13) dX12_moveOf_12 rfl ?_
        refine tt_iload_n (q := 14) dX12_moveOf_13 rfl rfl ?_
        refine tt_iaddN (q := 15) dX12_moveOf_14 rfl ?_
        obtain ⟨l31, h⟩ := h
        refine tt_iald (q := 16) dX12_moveOf_15 ia_104 (Nat.le_of_ble_eq_true rfl) rfl l31 rfl ?_
        refine tt_iret dX12_moveOf_16 ⟨rfl, _, rfl, ?_⟩
        obtain ⟨p34, hp35, h⟩ := h
        refine callVi_2 (q := 27) dX12_takesOf_24 (Or.inr (⟨rfl, rfl, hp35⟩)) (Nat.le_of_ble_eq_true rfl) rfl (fun t33 r32 hr36 => ?_)
        replace h := h t33 r32 hr36
        refine tt_iret dX12_takesOf_27 ⟨rfl, _, rfl, ?_⟩
        refine tt_goto (t := 45) dX12_heldUp_41 rfl ?_
        refine sti_4 (q := 47) dX12_heldUp_45 rfl rfl ?_
        refine tt_iload_n (q := 48) dX12_heldUp_47 rfl rfl ?_
        refine tt_aload_n (q := 49) dX12_heldUp_48 rfl rfl ?_
        refine tt_getR (q := 52) dX12_heldUp_49 fl_X12_58 or_102_25 (Nat.le_of_ble_eq_true rfl) rfl rfl ?_
        refine tt_iload_n (q := 53) dX12_heldUp_52 rfl rfl ?_
        obtain ⟨l37, h⟩ := h
        refine tt_iald (q := 54) dX12_heldUp_53 ia_119 (Nat.le_of_ble_eq_true rfl) rfl l37 rfl ?_
        refine tt_iload (q := 56) dX12_heldUp_54 rfl rfl ?_
        refine tt_icmp_le (q := 59) (t := 71) dX12_heldUp_56 rfl rfl (fun c => ?_) (fun c => ?_)
        · replace h := h.1 c
          refine tt_iconst (q := 72) dX12_heldUp_71 ki_0 rfl ?_
          refine tt_iadd (q := 73) dX12_heldUp_72 rfl ?_
          refine sti_n_2 (q := 74) dX12_heldUp_73 rfl rfl rfl ?_
          refine inc_3 (q := 77) dX12_heldUp_74 (nI_inc1 _) rfl rfl ?_
          refine tt_goto (t := 18) dX12_heldUp_77 rfl ?_
          refine tt_wk (L2 := [_, _, _, _, dum]) ⟨Or.inl rfl, Or.inl rfl, Or.inl rfl, Or.inl rfl, Or.inr rfl, trivial⟩ ?_
          exact h
        · replace h := h.2 c
          refine tt_aload_n (q := 60) dX12_heldUp_59 rfl rfl ?_
          refine tt_getR (q := 63) dX12_heldUp_60 fl_X12_58 or_102_25 (Nat.le_of_ble_eq_true rfl) rfl rfl ?_
          refine tt_iload_n (q := 64) dX12_heldUp_63 rfl rfl ?_
          obtain ⟨l39, h⟩ := h
          refine tt_iald (q := 65) dX12_heldUp_64 ia_119 (Nat.le_of_ble_eq_true rfl) rfl l39 rfl ?_
          refine tt_iload (q := 67) dX12_heldUp_65 rfl rfl ?_
          refine tt_isub (q := 68) dX12_heldUp_67 rfl ?_
          refine tt_goto (t := 72) dX12_heldUp_68 rfl ?_
          refine tt_iadd (q := 73) dX12_heldUp_72 rfl ?_
          refine sti_n_2 (q := 74) dX12_heldUp_73 rfl rfl rfl ?_
          refine inc_3 (q := 77) dX12_heldUp_74 (nI_inc1 _) rfl rfl ?_
          refine tt_goto (t := 18) dX12_heldUp_77 rfl ?_
          refine tt_wk (L2 := [_, _, _, _, dum]) ⟨Or.inl rfl, Or.inl rfl, Or.inl rfl, Or.inl rfl, Or.inr rfl, trivial⟩ ?_
          exact h

theorem g_X12_image_0 {post : SG → Int32 → Prop} {σ : SG} (h : T_X12_image AF post 2 [.ref 102, .int (nI 0)] [] σ) : T_X12_image AF post 0 [.ref 102, dum] [] σ := by
  refine tt_iconst (q := 1) dX12_image_0 ki_0 rfl ?_
  refine sti_n_1 (q := 2) dX12_image_1 rfl rfl rfl ?_
  exact h
theorem g_X12_image_2 {post : SG → Int32 → Prop} {σ : SG} {k : Nat} (h : (k < 2 ^ 31 ∧ ((197 ≤ k → (∀ s3 : SG, s3 = up σ 102 3 (nI 1) → post s3 (s3 104 1))) ∧ (k < 197 → (k < 197 ∧ (k < 197 ∧ (∀ s6 : SG, s6 = up σ 105 k (σ 104 k) → T_X12_image AF post 2 [.ref 102, .int (nI (k + 1))] [] s6))))))) : T_X12_image AF post 2 [.ref 102, .int (nI k)] [] σ := by
  refine tt_iload_n (q := 3) dX12_image_2 rfl rfl ?_
  refine tt_sipush (q := 6) dX12_image_3 si_197 rfl ?_
  obtain ⟨l2, h⟩ := h
  refine tt_icmp_ge (q := 9) (t := 27) dX12_image_6 rfl rfl (fun c => ?_) (fun c => ?_)
  · replace h := h.1 ((nI_leI (by decide) l2).1 c)
    refine tt_aload_n (q := 28) dX12_image_27 rfl rfl ?_
    refine tt_iconst (q := 29) dX12_image_28 ki_1 rfl ?_
    refine tt_putI (q := 32) dX12_image_29 fl_X12_214 oi_102_3 fp_12_3_1 (Nat.le_of_ble_eq_true rfl) rfl ?_
    replace h := h _ rfl
    refine tt_aload_n (q := 33) dX12_image_32 rfl rfl ?_
    refine tt_getR (q := 36) dX12_image_33 fl_X12_13 or_102_1 (Nat.le_of_ble_eq_true rfl) rfl rfl ?_
    refine tt_iconst (q := 37) dX12_image_36 ki_1 rfl ?_
    refine tt_iald (q := 38) dX12_image_37 ia_104 (Nat.le_of_ble_eq_true rfl) rfl (Nat.le_of_ble_eq_true rfl : 1 < 197) rfl ?_
    exact tt_iret dX12_image_38 ⟨rfl, _, rfl, h⟩
  · replace h := h.2 (Nat.lt_of_not_le (fun z => c ((nI_leI (by decide) l2).2 z)))
    refine tt_aload_n (q := 10) dX12_image_9 rfl rfl ?_
    refine tt_getR (q := 13) dX12_image_10 fl_X12_16 or_102_2 (Nat.le_of_ble_eq_true rfl) rfl rfl ?_
    refine tt_iload_n (q := 14) dX12_image_13 rfl rfl ?_
    refine tt_aload_n (q := 15) dX12_image_14 rfl rfl ?_
    refine tt_getR (q := 18) dX12_image_15 fl_X12_13 or_102_1 (Nat.le_of_ble_eq_true rfl) rfl rfl ?_
    refine tt_iload_n (q := 19) dX12_image_18 rfl rfl ?_
    obtain ⟨l4, h⟩ := h
    refine tt_iald (q := 20) dX12_image_19 ia_104 (Nat.le_of_ble_eq_true rfl) rfl l4 rfl ?_
    obtain ⟨l5, h⟩ := h
    refine tt_iast (q := 21) dX12_image_20 ia_105 (Nat.le_of_ble_eq_true rfl) rfl l5 rfl ?_
    replace h := h _ rfl
    refine inc_1 (q := 24) dX12_image_21 (nI_inc1 _) rfl rfl ?_
    refine tt_goto (t := 2) dX12_image_24 rfl ?_
    exact h

theorem g_X12_on_0 {post : SG → Int32 → Prop} {σ : SG} (h : ((¬ (σ 102 3) = 0 → T_X12_on AF post 16 [.ref 102, .int (nI 0)] [] σ) ∧ ((σ 102 3) = 0 → (∀ s4 : SG, s4 = up σ 103 3 ((σ 103 3) + (nI 1)) → post s4 (-3 : Int32))))) : T_X12_on AF post 0 [.ref 102, dum] [] σ := by
  refine tt_aload_n (q := 1) dX12_on_0 rfl rfl ?_
  refine tt_getI (q := 4) dX12_on_1 fl_X12_214 oi_102_3 (Nat.le_of_ble_eq_true rfl) rfl ?_
  refine tt_if_ne (q := 7) (t := 14) dX12_on_4 rfl rfl (fun c => ?_) (fun c => ?_)
  · replace h := h.1 c
    refine tt_iconst (q := 15) dX12_on_14 ki_0 rfl ?_
    refine sti_n_1 (q := 16) dX12_on_15 rfl rfl rfl ?_
    exact h
  · replace h := h.2 c
    refine tt_aload_n (q := 8) dX12_on_7 rfl rfl ?_
    refine tt_bipush (q := 10) dX12_on_8 bi_m3 rfl ?_
    refine callVi_1 (q := 13) dX12_on_10 (⟨rfl, rfl, ⟨⟨_, _, rfl, rfl, (Nat.le_of_ble_eq_true rfl), rc_102⟩, Nat.le_of_ble_eq_true rfl, ?_⟩⟩) (Nat.le_of_ble_eq_true rfl) rfl (fun t3 r2 ht3 => ht3)
    refine (show TT cX12_refuse RX12 false CT0 CN0 _ _ _ none 0 [_, _] [] _ _ from ?_)
    refine tt_aload_n (q := 1) dX12_refuse_0 rfl rfl ?_
    refine tt_getR (q := 4) dX12_refuse_1 fl_X12_7 or_102_0 (Nat.le_of_ble_eq_true rfl) rfl rfl ?_
    refine tt_iload_n (q := 5) dX12_refuse_4 rfl rfl ?_
    refine tt_inegE (v := nI 3) (q := 6) dX12_refuse_5 (by decide) rfl ?_
    refine tt_dup2 (q := 7) dX12_refuse_6 rfl rfl rfl ?_
    refine tt_iald (q := 8) dX12_refuse_7 ia_103 (Nat.le_of_ble_eq_true rfl) rfl (Nat.le_of_ble_eq_true rfl : 3 < 7) rfl ?_
    refine tt_iconst (q := 9) dX12_refuse_8 ki_1 rfl ?_
    refine tt_iadd (q := 10) dX12_refuse_9 rfl ?_
    refine tt_iast (q := 11) dX12_refuse_10 ia_103 (Nat.le_of_ble_eq_true rfl) rfl (Nat.le_of_ble_eq_true rfl : 3 < 7) rfl ?_
    replace h := h _ rfl
    refine tt_iload_n (q := 12) dX12_refuse_11 rfl rfl ?_
    refine tt_iret dX12_refuse_12 ⟨rfl, _, rfl, ?_⟩
    exact tt_iret dX12_on_13 ⟨rfl, _, rfl, h⟩
theorem g_X12_on_16 {post : SG → Int32 → Prop} {σ : SG} {k : Nat} (h : (k < 2 ^ 31 ∧ ((197 ≤ k → post σ (σ 104 1)) ∧ (k < 197 → (k < 197 ∧ (k < 197 ∧ (∀ s5 : SG, s5 = up σ 104 k (σ 105 k) → T_X12_on AF post 16 [.ref 102, .int (nI (k + 1))] [] s5))))))) : T_X12_on AF post 16 [.ref 102, .int (nI k)] [] σ := by
  refine tt_iload_n (q := 17) dX12_on_16 rfl rfl ?_
  refine tt_sipush (q := 20) dX12_on_17 si_197 rfl ?_
  obtain ⟨l2, h⟩ := h
  refine tt_icmp_ge (q := 23) (t := 41) dX12_on_20 rfl rfl (fun c => ?_) (fun c => ?_)
  · replace h := h.1 ((nI_leI (by decide) l2).1 c)
    refine tt_aload_n (q := 42) dX12_on_41 rfl rfl ?_
    refine tt_getR (q := 45) dX12_on_42 fl_X12_13 or_102_1 (Nat.le_of_ble_eq_true rfl) rfl rfl ?_
    refine tt_iconst (q := 46) dX12_on_45 ki_1 rfl ?_
    refine tt_iald (q := 47) dX12_on_46 ia_104 (Nat.le_of_ble_eq_true rfl) rfl (Nat.le_of_ble_eq_true rfl : 1 < 197) rfl ?_
    exact tt_iret dX12_on_47 ⟨rfl, _, rfl, h⟩
  · replace h := h.2 (Nat.lt_of_not_le (fun z => c ((nI_leI (by decide) l2).2 z)))
    refine tt_aload_n (q := 24) dX12_on_23 rfl rfl ?_
    refine tt_getR (q := 27) dX12_on_24 fl_X12_13 or_102_1 (Nat.le_of_ble_eq_true rfl) rfl rfl ?_
    refine tt_iload_n (q := 28) dX12_on_27 rfl rfl ?_
    refine tt_aload_n (q := 29) dX12_on_28 rfl rfl ?_
    refine tt_getR (q := 32) dX12_on_29 fl_X12_16 or_102_2 (Nat.le_of_ble_eq_true rfl) rfl rfl ?_
    refine tt_iload_n (q := 33) dX12_on_32 rfl rfl ?_
    obtain ⟨l3, h⟩ := h
    refine tt_iald (q := 34) dX12_on_33 ia_105 (Nat.le_of_ble_eq_true rfl) rfl l3 rfl ?_
    obtain ⟨l4, h⟩ := h
    refine tt_iast (q := 35) dX12_on_34 ia_104 (Nat.le_of_ble_eq_true rfl) rfl l4 rfl ?_
    replace h := h _ rfl
    refine inc_1 (q := 38) dX12_on_35 (nI_inc1 _) rfl rfl ?_
    refine tt_goto (t := 16) dX12_on_38 rfl ?_
    exact h

theorem g_X12_count_0 {post : SG → Int32 → Prop} {σ : SG} {w : Int32} (h : ((w ≤ (nI 10) → ((w = nI 0 → (∃ j3 : Nat, w = nI j3 ∧ j3 < 197 ∧ post σ (σ 104 j3))) ∧ (w = nI 1 → (∃ j6 : Nat, w = nI j6 ∧ j6 < 197 ∧ post σ (σ 104 j6))) ∧ (w = nI 2 → (∃ j9 : Nat, w = nI j9 ∧ j9 < 197 ∧ post σ (σ 104 j9))) ∧ (w = nI 3 → T_X12_count AF post 77 [.ref 102, .int w, .int (nI 0), .int (nI 0)] [] σ) ∧ (w = nI 4 → post σ (σ 102 24)) ∧ (w = nI 5 → post σ (σ 102 26)) ∧ (w = nI 6 → post σ (σ 102 6)) ∧ ((¬ w = nI 0 ∧ ¬ w = nI 1 ∧ ¬ w = nI 2 ∧ ¬ w = nI 3 ∧ ¬ w = nI 4 ∧ ¬ w = nI 5 ∧ ¬ w = nI 6) → post σ (-9 : Int32)))) ∧ (¬ w ≤ (nI 10) → (((nI 17) ≤ w → ((w = nI 0 → (∃ j13 : Nat, w = nI j13 ∧ j13 < 197 ∧ post σ (σ 104 j13))) ∧ (w = nI 1 → (∃ j16 : Nat, w = nI j16 ∧ j16 < 197 ∧ post σ (σ 104 j16))) ∧ (w = nI 2 → (∃ j19 : Nat, w = nI j19 ∧ j19 < 197 ∧ post σ (σ 104 j19))) ∧ (w = nI 3 → T_X12_count AF post 77 [.ref 102, .int w, .int (nI 0), .int (nI 0)] [] σ) ∧ (w = nI 4 → post σ (σ 102 24)) ∧ (w = nI 5 → post σ (σ 102 26)) ∧ (w = nI 6 → post σ (σ 102 6)) ∧ ((¬ w = nI 0 ∧ ¬ w = nI 1 ∧ ¬ w = nI 2 ∧ ¬ w = nI 3 ∧ ¬ w = nI 4 ∧ ¬ w = nI 5 ∧ ¬ w = nI 6) → post σ (-9 : Int32)))) ∧ (¬ (nI 17) ≤ w → (∃ j22 : Nat, (w - (nI 10)) = nI j22 ∧ j22 < 7 ∧ post σ (σ 103 j22))))))) : T_X12_count AF post 0 [.ref 102, .int w, dum, dum] [] σ := by
  refine tt_iload_n (q := 1) dX12_count_0 rfl rfl ?_
  refine tt_bipush (q := 3) dX12_count_1 bi_10 rfl ?_
  refine tt_icmp_le (q := 6) (t := 22) dX12_count_3 rfl rfl (fun c => ?_) (fun c => ?_)
  · replace h := h.1 c
    refine tt_iconst (q := 23) dX12_count_22 ki_0 rfl ?_
    refine sti_n_2 (q := 24) dX12_count_23 rfl rfl rfl ?_
    refine tt_iload_n (q := 25) dX12_count_24 rfl rfl ?_
    by_cases c0 : w = nI 0
    · replace h := h.1 c0
      refine tt_tswI (t := 68) (off := 43) dX12_count_25 (by rw [c0]; decide) (by rw [c0]; decide) (by rw [c0]; decide) rfl ?_
      refine tt_aload_n (q := 69) dX12_count_68 rfl rfl ?_
      refine tt_getR (q := 72) dX12_count_69 fl_X12_13 or_102_1 (Nat.le_of_ble_eq_true rfl) rfl rfl ?_
      refine tt_iload_n (q := 73) dX12_count_72 rfl rfl ?_
      obtain ⟨j3, e4, l2, h⟩ := h
      refine tt_iald (q := 74) dX12_count_73 ia_104 (Nat.le_of_ble_eq_true rfl) e4 l2 rfl ?_
      exact tt_iret dX12_count_74 ⟨rfl, _, rfl, h⟩
    by_cases c1 : w = nI 1
    · replace h := h.2.1 c1
      refine tt_tswI (t := 68) (off := 43) dX12_count_25 (by rw [c1]; decide) (by rw [c1]; decide) (by rw [c1]; decide) rfl ?_
      refine tt_aload_n (q := 69) dX12_count_68 rfl rfl ?_
      refine tt_getR (q := 72) dX12_count_69 fl_X12_13 or_102_1 (Nat.le_of_ble_eq_true rfl) rfl rfl ?_
      refine tt_iload_n (q := 73) dX12_count_72 rfl rfl ?_
      obtain ⟨j6, e7, l5, h⟩ := h
      refine tt_iald (q := 74) dX12_count_73 ia_104 (Nat.le_of_ble_eq_true rfl) e7 l5 rfl ?_
      exact tt_iret dX12_count_74 ⟨rfl, _, rfl, h⟩
    by_cases c2 : w = nI 2
    · replace h := h.2.2.1 c2
      refine tt_tswI (t := 68) (off := 43) dX12_count_25 (by rw [c2]; decide) (by rw [c2]; decide) (by rw [c2]; decide) rfl ?_
      refine tt_aload_n (q := 69) dX12_count_68 rfl rfl ?_
      refine tt_getR (q := 72) dX12_count_69 fl_X12_13 or_102_1 (Nat.le_of_ble_eq_true rfl) rfl rfl ?_
      refine tt_iload_n (q := 73) dX12_count_72 rfl rfl ?_
      obtain ⟨j9, e10, l8, h⟩ := h
      refine tt_iald (q := 74) dX12_count_73 ia_104 (Nat.le_of_ble_eq_true rfl) e10 l8 rfl ?_
      exact tt_iret dX12_count_74 ⟨rfl, _, rfl, h⟩
    by_cases c3 : w = nI 3
    · replace h := h.2.2.2.1 c3
      refine tt_tswI (t := 75) (off := 50) dX12_count_25 (by rw [c3]; decide) (by rw [c3]; decide) (by rw [c3]; decide) rfl ?_
      refine tt_iconst (q := 76) dX12_count_75 ki_0 rfl ?_
      refine sti_n_3 (q := 77) dX12_count_76 rfl rfl rfl ?_
      exact h
    by_cases c4 : w = nI 4
    · replace h := h.2.2.2.2.1 c4
      refine tt_tswI (t := 111) (off := 86) dX12_count_25 (by rw [c4]; decide) (by rw [c4]; decide) (by rw [c4]; decide) rfl ?_
      refine tt_aload_n (q := 112) dX12_count_111 rfl rfl ?_
      refine tt_getI (q := 115) dX12_count_112 fl_X12_205 oi_102_24 (Nat.le_of_ble_eq_true rfl) rfl ?_
      exact tt_iret dX12_count_115 ⟨rfl, _, rfl, h⟩
    by_cases c5 : w = nI 5
    · replace h := h.2.2.2.2.2.1 c5
      refine tt_tswI (t := 116) (off := 91) dX12_count_25 (by rw [c5]; decide) (by rw [c5]; decide) (by rw [c5]; decide) rfl ?_
      refine tt_aload_n (q := 117) dX12_count_116 rfl rfl ?_
      refine tt_getI (q := 120) dX12_count_117 fl_X12_211 oi_102_26 (Nat.le_of_ble_eq_true rfl) rfl ?_
      exact tt_iret dX12_count_120 ⟨rfl, _, rfl, h⟩
    by_cases c6 : w = nI 6
    · replace h := h.2.2.2.2.2.2.1 c6
      refine tt_tswI (t := 121) (off := 96) dX12_count_25 (by rw [c6]; decide) (by rw [c6]; decide) (by rw [c6]; decide) rfl ?_
      refine tt_aload_n (q := 122) dX12_count_121 rfl rfl ?_
      refine tt_getI (q := 125) dX12_count_122 fl_X12_69 oi_102_6 (Nat.le_of_ble_eq_true rfl) rfl ?_
      exact tt_iret dX12_count_125 ⟨rfl, _, rfl, h⟩
    replace h := h.2.2.2.2.2.2.2 ⟨c0, c1, c2, c3, c4, c5, c6⟩
    refine tt_tswO (t := 126) dX12_count_25 (tsw_out_6 ⟨c0, c1, c2, c3, c4, c5, c6⟩) rfl ?_
    refine tt_bipush (q := 128) dX12_count_126 bi_m9 rfl ?_
    exact tt_iret dX12_count_128 ⟨rfl, _, rfl, h⟩
  · replace h := h.2 c
    refine tt_iload_n (q := 7) dX12_count_6 rfl rfl ?_
    refine tt_bipush (q := 9) dX12_count_7 bi_17 rfl ?_
    refine tt_icmp_ge (q := 12) (t := 22) dX12_count_9 rfl rfl (fun c => ?_) (fun c => ?_)
    · replace h := h.1 c
      refine tt_iconst (q := 23) dX12_count_22 ki_0 rfl ?_
      refine sti_n_2 (q := 24) dX12_count_23 rfl rfl rfl ?_
      refine tt_iload_n (q := 25) dX12_count_24 rfl rfl ?_
      by_cases c0 : w = nI 0
      · replace h := h.1 c0
        refine tt_tswI (t := 68) (off := 43) dX12_count_25 (by rw [c0]; decide) (by rw [c0]; decide) (by rw [c0]; decide) rfl ?_
        refine tt_aload_n (q := 69) dX12_count_68 rfl rfl ?_
        refine tt_getR (q := 72) dX12_count_69 fl_X12_13 or_102_1 (Nat.le_of_ble_eq_true rfl) rfl rfl ?_
        refine tt_iload_n (q := 73) dX12_count_72 rfl rfl ?_
        obtain ⟨j13, e14, l12, h⟩ := h
        refine tt_iald (q := 74) dX12_count_73 ia_104 (Nat.le_of_ble_eq_true rfl) e14 l12 rfl ?_
        exact tt_iret dX12_count_74 ⟨rfl, _, rfl, h⟩
      by_cases c1 : w = nI 1
      · replace h := h.2.1 c1
        refine tt_tswI (t := 68) (off := 43) dX12_count_25 (by rw [c1]; decide) (by rw [c1]; decide) (by rw [c1]; decide) rfl ?_
        refine tt_aload_n (q := 69) dX12_count_68 rfl rfl ?_
        refine tt_getR (q := 72) dX12_count_69 fl_X12_13 or_102_1 (Nat.le_of_ble_eq_true rfl) rfl rfl ?_
        refine tt_iload_n (q := 73) dX12_count_72 rfl rfl ?_
        obtain ⟨j16, e17, l15, h⟩ := h
        refine tt_iald (q := 74) dX12_count_73 ia_104 (Nat.le_of_ble_eq_true rfl) e17 l15 rfl ?_
        exact tt_iret dX12_count_74 ⟨rfl, _, rfl, h⟩
      by_cases c2 : w = nI 2
      · replace h := h.2.2.1 c2
        refine tt_tswI (t := 68) (off := 43) dX12_count_25 (by rw [c2]; decide) (by rw [c2]; decide) (by rw [c2]; decide) rfl ?_
        refine tt_aload_n (q := 69) dX12_count_68 rfl rfl ?_
        refine tt_getR (q := 72) dX12_count_69 fl_X12_13 or_102_1 (Nat.le_of_ble_eq_true rfl) rfl rfl ?_
        refine tt_iload_n (q := 73) dX12_count_72 rfl rfl ?_
        obtain ⟨j19, e20, l18, h⟩ := h
        refine tt_iald (q := 74) dX12_count_73 ia_104 (Nat.le_of_ble_eq_true rfl) e20 l18 rfl ?_
        exact tt_iret dX12_count_74 ⟨rfl, _, rfl, h⟩
      by_cases c3 : w = nI 3
      · replace h := h.2.2.2.1 c3
        refine tt_tswI (t := 75) (off := 50) dX12_count_25 (by rw [c3]; decide) (by rw [c3]; decide) (by rw [c3]; decide) rfl ?_
        refine tt_iconst (q := 76) dX12_count_75 ki_0 rfl ?_
        refine sti_n_3 (q := 77) dX12_count_76 rfl rfl rfl ?_
        exact h
      by_cases c4 : w = nI 4
      · replace h := h.2.2.2.2.1 c4
        refine tt_tswI (t := 111) (off := 86) dX12_count_25 (by rw [c4]; decide) (by rw [c4]; decide) (by rw [c4]; decide) rfl ?_
        refine tt_aload_n (q := 112) dX12_count_111 rfl rfl ?_
        refine tt_getI (q := 115) dX12_count_112 fl_X12_205 oi_102_24 (Nat.le_of_ble_eq_true rfl) rfl ?_
        exact tt_iret dX12_count_115 ⟨rfl, _, rfl, h⟩
      by_cases c5 : w = nI 5
      · replace h := h.2.2.2.2.2.1 c5
        refine tt_tswI (t := 116) (off := 91) dX12_count_25 (by rw [c5]; decide) (by rw [c5]; decide) (by rw [c5]; decide) rfl ?_
        refine tt_aload_n (q := 117) dX12_count_116 rfl rfl ?_
        refine tt_getI (q := 120) dX12_count_117 fl_X12_211 oi_102_26 (Nat.le_of_ble_eq_true rfl) rfl ?_
        exact tt_iret dX12_count_120 ⟨rfl, _, rfl, h⟩
      by_cases c6 : w = nI 6
      · replace h := h.2.2.2.2.2.2.1 c6
        refine tt_tswI (t := 121) (off := 96) dX12_count_25 (by rw [c6]; decide) (by rw [c6]; decide) (by rw [c6]; decide) rfl ?_
        refine tt_aload_n (q := 122) dX12_count_121 rfl rfl ?_
        refine tt_getI (q := 125) dX12_count_122 fl_X12_69 oi_102_6 (Nat.le_of_ble_eq_true rfl) rfl ?_
        exact tt_iret dX12_count_125 ⟨rfl, _, rfl, h⟩
      replace h := h.2.2.2.2.2.2.2 ⟨c0, c1, c2, c3, c4, c5, c6⟩
      refine tt_tswO (t := 126) dX12_count_25 (tsw_out_6 ⟨c0, c1, c2, c3, c4, c5, c6⟩) rfl ?_
      refine tt_bipush (q := 128) dX12_count_126 bi_m9 rfl ?_
      exact tt_iret dX12_count_128 ⟨rfl, _, rfl, h⟩
    · replace h := h.2 c
      refine tt_aload_n (q := 13) dX12_count_12 rfl rfl ?_
      refine tt_getR (q := 16) dX12_count_13 fl_X12_7 or_102_0 (Nat.le_of_ble_eq_true rfl) rfl rfl ?_
      refine tt_iload_n (q := 17) dX12_count_16 rfl rfl ?_
      refine tt_bipush (q := 19) dX12_count_17 bi_10 rfl ?_
      refine tt_isub (q := 20) dX12_count_19 rfl ?_
      obtain ⟨j22, e23, l21, h⟩ := h
      refine tt_iald (q := 21) dX12_count_20 ia_103 (Nat.le_of_ble_eq_true rfl) e23 l21 rfl ?_
      exact tt_iret dX12_count_21 ⟨rfl, _, rfl, h⟩
theorem g_X12_count_77 {post : SG → Int32 → Prop} {σ : SG} {w : Int32} {n : Nat} {p : Nat} (h : (p < 2 ^ 31 ∧ ((6 ≤ p → post σ (nI n)) ∧ (p < 6 → (5 + p < 197 ∧ ((¬ (σ 104 (5 + p)) = (nI p) → T_X12_count AF post 77 [.ref 102, .int w, .int (nI (n + 0)), .int (nI (p + 1))] [] σ) ∧ ((σ 104 (5 + p)) = (nI p) → T_X12_count AF post 77 [.ref 102, .int w, .int (nI (n + 1)), .int (nI (p + 1))] [] σ))))))) : T_X12_count AF post 77 [.ref 102, .int w, .int (nI n), .int (nI p)] [] σ := by
  refine tt_iload_n (q := 78) dX12_count_77 rfl rfl ?_
  refine tt_bipush (q := 80) dX12_count_78 bi_6 rfl ?_
  obtain ⟨l2, h⟩ := h
  refine tt_icmp_ge (q := 83) (t := 109) dX12_count_80 rfl rfl (fun c => ?_) (fun c => ?_)
  · replace h := h.1 ((nI_leI (by decide) l2).1 c)
    refine tt_iload_n (q := 110) dX12_count_109 rfl rfl ?_
    exact tt_iret dX12_count_110 ⟨rfl, _, rfl, h⟩
  · replace h := h.2 (Nat.lt_of_not_le (fun z => c ((nI_leI (by decide) l2).2 z)))
    refine tt_iload_n (q := 84) dX12_count_83 rfl rfl ?_
    refine tt_aload_n (q := 85) dX12_count_84 rfl rfl ?_
    refine tt_getR (q := 88) dX12_count_85 fl_X12_13 or_102_1 (Nat.le_of_ble_eq_true rfl) rfl rfl ?_
    refine tt_iconst (q := 89) dX12_count_88 ki_5 rfl ?_
    refine tt_iload_n (q := 90) dX12_count_89 rfl rfl ?_
    refine tt_iaddN (q := 91) dX12_count_90 rfl ?_
    obtain ⟨l3, h⟩ := h
    refine tt_iald (q := 92) dX12_count_91 ia_104 (Nat.le_of_ble_eq_true rfl) rfl l3 rfl ?_
    refine tt_iload_n (q := 93) dX12_count_92 rfl rfl ?_
    refine tt_icmp_ne (q := 96) (t := 100) dX12_count_93 rfl rfl (fun c => ?_) (fun c => ?_)
    · replace h := h.1 c
      refine tt_iconst (q := 101) dX12_count_100 ki_0 rfl ?_
      refine tt_iaddN (q := 102) dX12_count_101 rfl ?_
      refine sti_n_2 (q := 103) dX12_count_102 rfl rfl rfl ?_
      refine inc_3 (q := 106) dX12_count_103 (nI_inc1 _) rfl rfl ?_
      refine tt_goto (t := 77) dX12_count_106 rfl ?_
      exact h
    · replace h := h.2 c
      refine tt_iconst (q := 97) dX12_count_96 ki_1 rfl ?_
      refine tt_goto (t := 101) dX12_count_97 rfl ?_
      refine tt_iaddN (q := 102) dX12_count_101 rfl ?_
      refine sti_n_2 (q := 103) dX12_count_102 rfl rfl rfl ?_
      refine inc_3 (q := 106) dX12_count_103 (nI_inc1 _) rfl rfl ?_
      refine tt_goto (t := 77) dX12_count_106 rfl ?_
      exact h
