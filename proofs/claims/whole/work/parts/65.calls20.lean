/-! row: the call -/
theorem CH.h {S S' : Nat → Int32} {σ : SG} (h : CH S σ) (e : ∀ j, (j = 3 ∨ j = 4 ∨ (47 ≤ j ∧ j < 95)) → S' j = S j) : CH S' σ := by
  refine ⟨fun t ht => ⟨?_, ?_, fun c hc => ?_⟩, ?_, ?_⟩
  · rw [e _ (by omega)]; exact (h.1 t ht).1
  · rw [e _ (by omega)]; exact (h.1 t ht).2.1
  · show σ (65 + 1 + t) c = S' (59 + 6 * t + c)
    rw [e _ (by omega)]; exact (h.1 t ht).2.2 c hc
  · rw [e _ (by omega)]; exact h.2.1
  · rw [e _ (by omega)]; exact h.2.2
theorem CY.k {S S' : Nat → Int32} {σ : SG} (h : CY S σ) (e : ∀ j, (j = 2 ∨ 185 ≤ j) → S' j = S j) : CY S' σ := by
  unfold CY
  rw [show cK S' = cK S from congrArg na (e 2 (by omega)), e 2 (by omega)]
  refine ⟨h.1, fun k hk => ?_⟩
  rw [pls_e (S := S) (e _ (by omega)), rws_e (S := S) (e _ (by omega)), see_e (S := S) (e _ (by omega))]
  exact h.2 k hk
theorem CN.k {S S' : Nat → Int32} {σ : SG} (h : CN_ S σ) (e : ∀ p, p < 6 → S' (5 + p) = S (5 + p)) : CN_ S' σ := by
  unfold CN_
  rw [show cur S' = cur S from rk_cong (fun p hp => congrArg na (e p hp))]
  exact h
theorem CW.less {S : Nat → Int32} {σ τ : SG} (hW : CW S σ) (hS : IS S) {R : Nat} (hR : cR S = R) (h : ∀ k, 36 ≤ k → k ≤ 59 → k ≠ 38 + 1 + R → τ k = σ k) : CW S τ := by
  have h10 := hS.2.1.2
  refine ⟨by rw [h 36 (by decide) (by decide) (by omega)]; exact hW.1, fun r hr => ?_⟩
  obtain ⟨q1, q2, q3⟩ := hW.2 r hr
  exact ⟨by rw [h 37 (by decide) (by decide) (by omega)]; exact q1, fun i hi => by rw [h (38 + 1 + r) (by omega) (by omega) (by omega)]; exact q2 i hi, fun o ho => by rw [h (49 + 1 + r) (by omega) (by omega) (by omega)]; exact q3 o ho⟩
theorem KC.rowE {Z σ τ : SG} (hC : KC Z σ) (hI : KI Z) {R : Nat} (hR : cR (Z 104) = R) (h10 : R < 10) (F : ∀ k, k < 102 → k ≠ 1 → k ≠ 38 + 1 + R → τ k = σ k) (t1 : τ 1 1 = nI 0) : KC (stE Z) τ := by
  have hS := hI.1
  refine hC.re3 (fun k _ b => stE_k b) (fun j hj => stE_2 hj) stE_6 t1 (fun k hk => F k (by omega) (by omega) (by omega)) (by rw [F 73 (by decide) (by decide) (by omega)]) (hC.1.fr (fun k a b => F k (by omega) (by omega) (by omega))) ?_ ?_ ?_ ?_ ?_
  · rw [stE_k (by decide)]; exact hC.2.1.fr hS (fun k a b => F k (by omega) (by omega) (by omega))
  · rw [stE_k (by decide)]; exact hC.2.2.1.less hS hR (fun k a b c => F k (by omega) (by omega) c)
  · rw [stE_k (by decide)]; exact hC.2.2.2.1.fr (fun k a b => F k (by omega) (by omega) (by omega))
  · rw [stE_k (by decide)]; exact hC.2.2.2.2.1.fr (fun k a b => F k (by omega) (by omega) (by omega))
  · rw [stE_k (by decide)]; unfold CN_; rw [F 0 (by decide) (by decide) (by omega)]; exact hC.2.2.2.2.2.1
theorem en_F {S S' : Nat → Int32} (hS : IS S) {R n : Nat} {μ : Nat → Nat} (tA : TA (cT S) S S') (hm : ∀ i, i < n → mv S' R i = μ i) (hμ : ∀ i, i < n → μ i < 2 * cT S) (o : Nat) : ∀ i, i ≤ n → en S' R i o = enF (mo S) μ i o
  | 0, _ => rfl
  | i + 1, hi => by
    rw [en, enF, en_F hS tA hm hμ o i (by omega), hm i (by omega)]
    exact tA.moE hS (hμ i (by omega)) (hμ i (by omega)) _
theorem KC.rowT {Z σ τ : SG} (hC : KC Z σ) (hI : KI Z) {R n : Nat} {μ : Nat → Nat} (hR : cR (Z 104) = R) (h10 : R < 10) (n8 : n ≤ 8) (hμ : ∀ i, i < n → μ i < 2 * cT (Z 104)) (F : ∀ k, k < 102 → k ≠ 1 → k ≠ 36 → k ≠ 37 → k ≠ 38 + 1 + R → k ≠ 49 + 1 + R → τ k = σ k) (t1 : τ 1 1 = nI 0) (b1 : τ 36 0 = nI (R + 1)) (b2 : ∀ o, o < 720 → τ (49 + 1 + R) o = nI (enF (mo (Z 104)) μ n o)) (b3 : τ 37 R = nI n) (b4 : ∀ j, j ≠ R → τ 37 j = σ 37 j) (b5 : ∀ i, i < n → τ (38 + 1 + R) i = nI (μ i)) : KC (stR Z R n μ) τ := by
  have hS := hI.1
  have hT := hS.1.2
  have tA : TA 6 (Z 104) (stR Z R n μ 104) := fun t p ht hp => stR_o (by omega) (by omega)
  have tA2 : TA (cT (Z 104)) (Z 104) (stR Z R n μ 104) := fun t p ht hp => tA t p (by omega) hp
  have rA : RA R (Z 104) (stR Z R n μ 104) := fun r j hr hj => stR_o (by omega) (by omega)
  have eR : cR (stR Z R n μ 104) = R + 1 := by unfold cR; rw [stR_1, na_nI (by omega)]
  refine hC.re3 (fun k a b => stR_k a b) (fun j hj => stR_2 hj) stR_6 t1 (fun k hk => F k (by omega) (by omega) (by omega) (by omega) (by omega) (by omega)) (by rw [F 73 (by decide) (by decide) (by decide) (by decide) (by omega) (by omega)]) (hC.1.fr (fun k a b => F k (by omega) (by omega) (by omega) (by omega) (by omega) (by omega))) ((hC.2.1.fr hS (fun k a b => F k (by omega) (by omega) (by omega) (by omega) (by omega) (by omega))).ta hS (stR_o (by decide) (by omega)) tA2) ⟨by rw [b1, stR_1], fun r hr => ?_⟩ ((hC.2.2.2.1.fr (fun k a b => F k (by omega) (by omega) (by omega) (by omega) (by omega) (by omega))).h (fun j hj => stR_o (by omega) (by omega))) ((hC.2.2.2.2.1.fr (fun k a b => F k (by omega) (by omega) (by omega) (by omega) (by omega) (by omega))).k (fun j hj => stR_o (by omega) (by omega))) (CN.k (S := Z 104) (by unfold CN_; rw [F 0 (by decide) (by decide) (by decide) (by decide) (by omega) (by omega)]; exact hC.2.2.2.2.2.1) (fun p hp => stR_o (by omega) (by omega)))
  rw [eR] at hr
  by_cases d : r = R
  · rw [d]
    have e1 : ln (stR Z R n μ 104) R = n := by unfold ln; rw [stR_l, na_nI (by omega)]
    have e2 : ∀ i, i < n → mv (stR Z R n μ 104) R i = μ i := fun i hi => by
      have := hμ i hi
      unfold mv
      rw [stR_m hi, na_nI (by omega)]
    rw [e1]
    refine ⟨b3, fun i hi => by rw [e2 i hi]; exact b5 i hi, fun o ho => ?_⟩
    unfold eo
    rw [e1, en_F hS tA2 e2 hμ o n (Nat.le_refl _)]
    exact b2 o ho
  · obtain ⟨q1, q2, q3⟩ := hC.2.2.1.2 r (by omega)
    obtain ⟨l0, l1, l8, lm⟩ := hS.2.2.2.2.1 r (by omega)
    rw [rA.lnE (by omega)]
    refine ⟨by rw [b4 r d]; exact q1, fun i hi => ?_, fun o ho => ?_⟩
    · rw [F (38 + 1 + r) (by omega) (by omega) (by omega) (by omega) (by omega) (by omega), rA.mvE (by omega) (by omega)]; exact q2 i hi
    · rw [F (49 + 1 + r) (by omega) (by omega) (by omega) (by omega) (by omega) (by omega), eo_A hS tA2 rA (by omega) (by omega) (fun i hi => (lm i hi).2)]; exact q3 o ho
theorem KM.rowT {Z σ τ : SG} (hM : KM Z σ) {R n : Nat} {μ : Nat → Nat} (F : ∀ k, k ≠ 102 → k ≠ 104 → k ≠ 107 → τ k = σ k) (F2 : ∀ j, j ≠ 6 → j ≠ 7 → τ 102 j = σ 102 j) (t6 : τ 102 6 = nI 0) (k2 : τ 104 1 = nI (R + 1)) (k3 : ∀ j, j ≠ 1 → τ 104 j = if 95 + 9 * R ≤ j ∧ j < 95 + 9 * R + (n + 1) then (if j - (95 + 9 * R) = 0 then nI n else nI (μ (j - (95 + 9 * R) - 1))) else σ 104 j) : KM (stR Z R n μ) τ := by
  refine hM.re3 (fun k a b => stR_k a b) (fun j hj => stR_2 hj) stR_6 t6 (fun j hj => ?_) (fun k a b c => F k (by omega) a.2 b) (fun j hj => F2 j (by omega) (by omega))
  by_cases d1 : j = 1
  · rw [d1, k2, stR_1]
  rw [k3 j d1]
  by_cases d2 : j = 95 + 9 * R
  · rw [d2, if_pos (by omega), if_pos (by omega), stR_l]
  by_cases d3 : 95 + 9 * R < j ∧ j < 95 + 9 * R + 1 + n
  · rw [if_pos (by omega), if_neg (by omega)]
    obtain ⟨i, rfl⟩ : ∃ i, j = 95 + 9 * R + 1 + i := ⟨j - (95 + 9 * R + 1), by omega⟩
    rw [stR_m (by omega), show 95 + 9 * R + 1 + i - (95 + 9 * R) - 1 = i by omega]
  · rw [if_neg (by omega), stR_o d1 (by omega)]
    exact hM.1 j hj
theorem J_row {Z σ : SG} (hI : KI Z) (hC : KC Z σ) (hM : KM Z σ)  : ∃ p, IN_X11_row AF σ [.ref 0] p ∧ ∀ t r, p t r → ∃ q, IN_X12_row AF t [.ref 102] q ∧ ∀ t' r', q t' r' → r = r' ∧ KK t' := by
  have hS := hI.1
  have hT := hS.1.2
  have hR := hS.2.1.2
  have h16 := tape_I hI
  obtain ⟨R, hRn⟩ : ∃ R, cR (Z 104) = R := ⟨_, rfl⟩
  obtain ⟨X, hX⟩ : ∃ X, rr (tB Z) (na (Z 102 6)) (cT (Z 104)) (na (Z 102 6) + 1) 0 0 (fun _ => 0) = X := ⟨_, rfl⟩
  have hX2 := rr_ok (B := tB Z) (L := na (Z 102 6)) (T := cT (Z 104)) (na (Z 102 6) + 1) 0 0 (fun _ => 0) (Nat.zero_le _) (Nat.zero_le _) (fun j hj => absurd hj (Nat.not_lt_zero _))
  rw [hX] at hX2
  by_cases c0 : R < 10
  · by_cases cX : X.1 = none
    · obtain ⟨n1, n8, hμ⟩ := hX2.2 cX
      refine joint (Z' := stR Z R X.2.1 X.2.2) (x := nI R) (C := fun s p => IN_X11_row AF s [.ref 0] p) (M := fun s p => IN_X12_row AF s [.ref 102] p) (hI.re3 (fun k a b => stR_k a b) (fun j hj => stR_2 hj) stR_6 (row_IS hS hRn c0 n1 n8 hμ) (fun _ h => row_PX hS hRn c0 n8 h)) hM ?_ (fun t hM => ?_)
      · refine ⟨⟨_, _, rfl, rfl, Nat.le_of_ble_eq_true rfl, rc_0⟩, Nat.le_of_ble_eq_true rfl, g_X11_row_0 ?_⟩
        rw [show σ 36 0 = nI (cR (Z 104)) from hC.2.2.1.1.trans hS.2.1.1]
        rw [hRn]
        rw [show σ 7 0 = nI (cT (Z 104)) from hC.2.1.1.trans hS.1.1]
        refine ⟨fun _ => ?_, fun c => absurd (nI_lt c0 (by decide)) c⟩
        have hk2 : 38 + 1 + R < AF.1 := Nat.lt_of_lt_of_le (show 38 + 1 + R < 120 by omega) (Nat.le_of_ble_eq_true rfl)
        have rC : rrC (fun τ x => (∀ y, y ≠ 1 → y ≠ 38 + 1 + R → τ y = σ y) ∧ (∀ j, j ≠ 2 → τ 1 j = σ 1 j) ∧ (∀ fi, X.1 = some fi → x = nI fi) ∧ (X.1 = none → x = -9 ∧ τ 1 2 = nI X.2.1 ∧ ∀ j, j < X.2.1 → τ (38 + 1 + R) j = nI (X.2.2 j))) σ (38 + 1 + R) X := fun τ a b => ⟨fun fi e => ⟨a, b, fun fj e2 => by rw [e] at e2; cases e2; rfl, fun e2 => absurd (e.symm.trans e2) (by simp)⟩, fun e p q => ⟨a, b, fun fj e2 => absurd (e.symm.trans e2) (by simp), fun _ => ⟨rfl, p, q⟩⟩⟩
        refine ⟨R, rfl, c0, _, ⟨⟨_, _, rfl, rfl, Nat.le_of_ble_eq_true rfl, rc_1⟩, Nat.le_of_ble_eq_true rfl, g_X6_readRow_0 (gi_38 R c0) hk2 (fun s1 e1 => creadRow (gi_38 R c0) hk2 (by omega) (by omega) h16 hT (fun i hi => tB_lt hI hi) (fun i hi => tB_C hI hC hi) (tape_C hI hC) (na (Z 102 6) + 1) 0 0 (fun _ => 0) s1 (by decide) (Nat.zero_le _) (by omega) (fun _ => rfl) (fun j hj => absurd hj (Nat.not_lt_zero _)) (fun z => absurd z (Nat.lt_irrefl _)) (by rw [hX]; exact rC) (fun y a b => by rw [e1, up_k a]) (fun j hj => by rw [e1, up_j hj]) (by rw [e1, up_s]) (fun j hj => absurd hj (Nat.not_lt_zero _)))⟩, ?_⟩
        rintro t6 r5 ⟨a1, a2, a3, a4⟩ s10 e10
        have F : ∀ k, k ≠ 1 → k ≠ 38 + 1 + R → s10 k = σ k := fun k a b => by rw [e10, up_k a]; exact a1 k a b
        obtain ⟨e5, a5, a6⟩ := a4 cX
        refine ⟨fun _ => ?_, fun z => absurd e5 z⟩
        refine ⟨fun τ x => x = 0 → DC (stR Z R X.2.1 X.2.2) σ (nI R) τ (τ 36 0 - nI 1), ?_, fun t13 ht => ht rfl⟩
        rw [show s10 1 2 = nI X.2.1 by rw [e10, up_j (by decide)]; exact a5]
        refine ok_takeR (M := 2 * cT (Z 104)) (μ := X.2.2) (mo := mo (Z 104)) c0 n8 (by omega) (by rw [F 36 (by decide) (by omega), ← hRn]; exact hC.2.2.1.1.trans hS.2.1.1) (fun i hi => by rw [e10, up_k (by omega)]; exact a6 i hi) hμ (fun m o hm ho => by rw [F (21 + 1 + m) (by omega) (by omega)]; exact hC.2.1.2.2.1 m o hm ho) (fun m o hm ho => mo_lt hS hm ho) (fun τ b1 b2 b3 b4 b5 _ => ?_)
        have G : ∀ k, k ≠ 1 → k ≠ 36 → k ≠ 37 → k ≠ 38 + 1 + R → k ≠ 49 + 1 + R → τ k = σ k := fun k a b c d e => by rw [b5 k b c e]; exact F k a d
        refine ⟨by rw [b1, nI_subN (by omega), Nat.add_sub_cancel], hC.rowT hI hRn c0 n8 hμ (fun k _ a b c d e => G k a b c d e) (by rw [b5 1 (by decide) (by decide) (by omega), e10, up_s]) b1 b2 b3 (fun j hj => by rw [b4 j hj, F 37 (by decide) (by omega)]) (fun i hi => ?_), fun k hk => G k (by omega) (by omega) (by omega) (by omega) (by omega)⟩
        rw [b5 (38 + 1 + R) (by omega) (by omega) (by omega), e10, up_k (by omega)]
        exact a6 i hi
      · refine ⟨⟨_, _, rfl, rfl, Nat.le_of_ble_eq_true rfl, rc_102⟩, Nat.le_of_ble_eq_true rfl, g_X12_row_0 ?_⟩
        rw [show t 104 1 = nI (cR (Z 104)) from (hM.1 1 (by decide)).trans hS.2.1.1]
        rw [hRn]
        refine ⟨fun _ => ?_, fun c => absurd c (fun z => by rw [nI_eq (by omega) (by decide)] at z; omega)⟩
        have rM : rrM (fun τ x => (∀ y, y ≠ 102 → y ≠ 107 → τ y = t y) ∧ (∀ j, j ≠ 7 → τ 102 j = t 102 j) ∧ (∀ fi, X.1 = some fi → x = nI 0 ∧ τ 102 7 = nI fi) ∧ (X.1 = none → x = nI 1 ∧ τ 107 0 = nI X.2.1 ∧ ∀ j, j < X.2.1 → τ 107 (j + 1) = nI (X.2.2 j))) t X := fun τ a b => ⟨fun fi e p => ⟨a, b, fun fj e2 => by rw [e] at e2; cases e2; exact ⟨rfl, p⟩, fun e2 => absurd (e.symm.trans e2) (by simp)⟩, fun e p q => ⟨a, b, fun fj e2 => absurd (e.symm.trans e2) (by simp), fun _ => ⟨rfl, p, q⟩⟩⟩
        refine ⟨_, ⟨⟨_, _, rfl, rfl, Nat.le_of_ble_eq_true rfl, rc_102⟩, Nat.le_of_ble_eq_true rfl, g_X12_readsRow_0 (fun s1 e1 => mreadRow h16 hT (fun i hi => tB_lt hI hi) (fun i hi => tB_M hI hM hi) (tape_M hI hM) ((hM.1 0 (by decide)).trans hS.1.1) (na (Z 102 6) + 1) 0 0 (fun _ => 0) s1 (by decide) (Nat.zero_le _) (by omega) (by rw [hX]; exact rM) (fun y a b => by rw [e1, up_k a]) (fun j hj => by rw [e1, up_j hj]) (by rw [e1, up_s]) (fun j hj => absurd hj (Nat.not_lt_zero _)))⟩, ?_⟩
        rintro t3 r2 ⟨a1, a2, a3, a4⟩ s7 e7
        have F : ∀ k, k ≠ 102 → k ≠ 107 → s7 k = t k := fun k a b => by rw [e7, up_k a]; exact a1 k a b
        have F2 : ∀ j, j ≠ 6 → j ≠ 7 → s7 102 j = t 102 j := fun j a b => by rw [e7, up_j a]; exact a2 j b
        have F6 : s7 102 6 = nI 0 := by rw [e7, up_s]
        obtain ⟨e5, a5, a6⟩ := a4 cX
        refine ⟨fun _ => ?_, fun z => absurd (e5.symm.trans z) (by decide +kernel)⟩
        refine mrow (S := Z 104) (n := X.2.1) (v := fun i => if i = 0 then nI X.2.1 else nI (X.2.2 (i - 1))) c0 n8 (σ := s7) (fun i hi => ?_) (if_pos rfl) (by rw [F 104 (by decide) (by decide), ← hRn]; exact (hM.1 1 (by decide)).trans hS.2.1.1) (fun τ k1 k2 k3 => ⟨rfl, hM.rowT (fun k a b c => by rw [k1 k b]; exact F k a c) (fun j a b => by rw [k1 102 (by decide)]; exact F2 j a b) (by rw [k1 102 (by decide)]; exact F6) k2 (fun j hj => by rw [k3 j hj, F 104 (by decide) (by decide)]), fun k hk => by rw [k1 k (by omega)]; exact F k (by omega) (by omega)⟩) (X.2.1 + 1) 0 (Nat.zero_add _) s7 (fun _ _ => rfl) (fun j => by rw [if_neg (by omega)])
        rw [e7, up_k (by decide)]
        by_cases d : i = 0
        · rw [if_pos d, d]; exact a5
        · rw [if_neg d]
          have := a6 (i - 1) (by omega)
          rw [Nat.sub_add_cancel (by omega)] at this
          exact this
    · obtain ⟨fi, hfi⟩ := Option.ne_none_iff_exists'.1 cX
      refine joint (Z' := stE Z) (x := (-20 : Int32) - nI fi) (C := fun s p => IN_X11_row AF s [.ref 0] p) (M := fun s p => IN_X12_row AF s [.ref 102] p) hI.empty hM ?_ (fun t hM => ?_)
      · refine ⟨⟨_, _, rfl, rfl, Nat.le_of_ble_eq_true rfl, rc_0⟩, Nat.le_of_ble_eq_true rfl, g_X11_row_0 ?_⟩
        rw [show σ 36 0 = nI (cR (Z 104)) from hC.2.2.1.1.trans hS.2.1.1]
        rw [hRn]
        rw [show σ 7 0 = nI (cT (Z 104)) from hC.2.1.1.trans hS.1.1]
        refine ⟨fun _ => ?_, fun c => absurd (nI_lt c0 (by decide)) c⟩
        have hk2 : 38 + 1 + R < AF.1 := Nat.lt_of_lt_of_le (show 38 + 1 + R < 120 by omega) (Nat.le_of_ble_eq_true rfl)
        have rC : rrC (fun τ x => (∀ y, y ≠ 1 → y ≠ 38 + 1 + R → τ y = σ y) ∧ (∀ j, j ≠ 2 → τ 1 j = σ 1 j) ∧ (∀ fi, X.1 = some fi → x = nI fi) ∧ (X.1 = none → x = -9 ∧ τ 1 2 = nI X.2.1 ∧ ∀ j, j < X.2.1 → τ (38 + 1 + R) j = nI (X.2.2 j))) σ (38 + 1 + R) X := fun τ a b => ⟨fun fi e => ⟨a, b, fun fj e2 => by rw [e] at e2; cases e2; rfl, fun e2 => absurd (e.symm.trans e2) (by simp)⟩, fun e p q => ⟨a, b, fun fj e2 => absurd (e.symm.trans e2) (by simp), fun _ => ⟨rfl, p, q⟩⟩⟩
        refine ⟨R, rfl, c0, _, ⟨⟨_, _, rfl, rfl, Nat.le_of_ble_eq_true rfl, rc_1⟩, Nat.le_of_ble_eq_true rfl, g_X6_readRow_0 (gi_38 R c0) hk2 (fun s1 e1 => creadRow (gi_38 R c0) hk2 (by omega) (by omega) h16 hT (fun i hi => tB_lt hI hi) (fun i hi => tB_C hI hC hi) (tape_C hI hC) (na (Z 102 6) + 1) 0 0 (fun _ => 0) s1 (by decide) (Nat.zero_le _) (by omega) (fun _ => rfl) (fun j hj => absurd hj (Nat.not_lt_zero _)) (fun z => absurd z (Nat.lt_irrefl _)) (by rw [hX]; exact rC) (fun y a b => by rw [e1, up_k a]) (fun j hj => by rw [e1, up_j hj]) (by rw [e1, up_s]) (fun j hj => absurd hj (Nat.not_lt_zero _)))⟩, ?_⟩
        rintro t6 r5 ⟨a1, a2, a3, a4⟩ s10 e10
        have F : ∀ k, k ≠ 1 → k ≠ 38 + 1 + R → s10 k = σ k := fun k a b => by rw [e10, up_k a]; exact a1 k a b
        have e5 := a3 fi hfi
        subst e5
        exact ⟨fun z => absurd z (nI_ne9 (by have := hX2.1 fi hfi; omega)), fun _ => ⟨rfl, hC.rowE hI hRn c0 (fun k _ a b => F k a b) (by rw [e10, up_s]), fun k hk => F k (by omega) (by omega)⟩⟩
      · refine ⟨⟨_, _, rfl, rfl, Nat.le_of_ble_eq_true rfl, rc_102⟩, Nat.le_of_ble_eq_true rfl, g_X12_row_0 ?_⟩
        rw [show t 104 1 = nI (cR (Z 104)) from (hM.1 1 (by decide)).trans hS.2.1.1]
        rw [hRn]
        refine ⟨fun _ => ?_, fun c => absurd c (fun z => by rw [nI_eq (by omega) (by decide)] at z; omega)⟩
        have rM : rrM (fun τ x => (∀ y, y ≠ 102 → y ≠ 107 → τ y = t y) ∧ (∀ j, j ≠ 7 → τ 102 j = t 102 j) ∧ (∀ fi, X.1 = some fi → x = nI 0 ∧ τ 102 7 = nI fi) ∧ (X.1 = none → x = nI 1 ∧ τ 107 0 = nI X.2.1 ∧ ∀ j, j < X.2.1 → τ 107 (j + 1) = nI (X.2.2 j))) t X := fun τ a b => ⟨fun fi e p => ⟨a, b, fun fj e2 => by rw [e] at e2; cases e2; exact ⟨rfl, p⟩, fun e2 => absurd (e.symm.trans e2) (by simp)⟩, fun e p q => ⟨a, b, fun fj e2 => absurd (e.symm.trans e2) (by simp), fun _ => ⟨rfl, p, q⟩⟩⟩
        refine ⟨_, ⟨⟨_, _, rfl, rfl, Nat.le_of_ble_eq_true rfl, rc_102⟩, Nat.le_of_ble_eq_true rfl, g_X12_readsRow_0 (fun s1 e1 => mreadRow h16 hT (fun i hi => tB_lt hI hi) (fun i hi => tB_M hI hM hi) (tape_M hI hM) ((hM.1 0 (by decide)).trans hS.1.1) (na (Z 102 6) + 1) 0 0 (fun _ => 0) s1 (by decide) (Nat.zero_le _) (by omega) (by rw [hX]; exact rM) (fun y a b => by rw [e1, up_k a]) (fun j hj => by rw [e1, up_j hj]) (by rw [e1, up_s]) (fun j hj => absurd hj (Nat.not_lt_zero _)))⟩, ?_⟩
        rintro t3 r2 ⟨a1, a2, a3, a4⟩ s7 e7
        have F : ∀ k, k ≠ 102 → k ≠ 107 → s7 k = t k := fun k a b => by rw [e7, up_k a]; exact a1 k a b
        have F2 : ∀ j, j ≠ 6 → j ≠ 7 → s7 102 j = t 102 j := fun j a b => by rw [e7, up_j a]; exact a2 j b
        have F6 : s7 102 6 = nI 0 := by rw [e7, up_s]
        obtain ⟨e5, a5⟩ := a3 fi hfi
        refine ⟨fun z => absurd (by rw [e5, nI_0]) z, fun _ => ⟨by rw [e7, up_j (by decide), a5], hM.empty F (fun j a b _ => F2 j a b) F6, fun k hk => F k (by omega) (by omega)⟩⟩
  · exact joint (Z' := rf Z 6) (x := -6) (C := fun s p => IN_X11_row AF s [.ref 0] p) (M := fun s p => IN_X12_row AF s [.ref 102] p) (hI.rf 6) hM ⟨⟨_, _, rfl, rfl, Nat.le_of_ble_eq_true rfl, rc_0⟩, Nat.le_of_ble_eq_true rfl, g_X11_row_0 (by rw [show σ 36 0 = nI (cR (Z 104)) from hC.2.2.1.1.trans hS.2.1.1, hRn, show σ 7 0 = nI (cT (Z 104)) from hC.2.1.1.trans hS.1.1]; exact ⟨fun c => absurd c (nI_nlt (by omega) (by omega)), fun _ => DC_rf hC hI (by decide) (by decide)⟩)⟩ (fun t hM => ⟨⟨_, _, rfl, rfl, Nat.le_of_ble_eq_true rfl, rc_102⟩, Nat.le_of_ble_eq_true rfl, g_X12_row_0 (by rw [show t 104 1 = nI (cR (Z 104)) from (hM.1 1 (by decide)).trans hS.2.1.1, hRn]; exact ⟨fun c => absurd (by rw [show R = 10 by omega]) c, fun _ => DM_rf hM (by decide)⟩)⟩)
