/-! better: the first's half -/
theorem B0_ok {S : Nat → Int32} : BK S B0 := ⟨by decide, by decide, fun i hi => absurd hi (Nat.not_lt_zero _)⟩
theorem C_better {Z σ : SG} (hI : KI Z) (hC : KC Z σ) {a b : Int32} {r n : Nat} (c0 : ¬ a < 0) (c1 : ¬ nI (cR (Z 104)) ≤ a) (c2 : nI 1 ≤ b) (c3 : b ≤ nI 5) (hr : r < cR (Z 104)) (ea : a = nI r) (hn : n ≤ 5) (eb : b = nI n) {B : BT} (hB : B = ms (Z 104) n 0 (rk (dT (Z 104) r)) 0 (fun _ => 0) B0) {post : SG → Int32 → Prop}
    (K0 : B.1 = 0 → ∀ τ : SG, DC (rf Z 3) σ (-3) τ (-3) → post τ (-3)) (K1 : 0 < B.1 → ∀ τ : SG, DC (stF Z B) σ (nI B.2.1) τ (nI B.2.1) → post τ (nI B.2.1)) : IN_X11_better AF σ [.ref 0, .int a, .int b] post := by
  have hS := hI.1
  have hR := hS.2.1.2
  have ho : rk (dT (Z 104) r) < 720 := (P_rk (dT_PM hS hr)).1
  have hBK : BK (Z 104) B := by rw [hB]; exact ms_ok hS n 0 _ 0 _ _ (by omega) (by omega) (fun i hi => absurd hi (Nat.not_lt_zero _)) B0_ok
  refine ⟨⟨_, _, rfl, rfl, Nat.le_of_ble_eq_true rfl, rc_0⟩, Nat.le_of_ble_eq_true rfl, g_X11_better_0 ?_⟩
  rw [show σ 36 0 = nI (cR (Z 104)) from hC.2.2.1.1.trans hS.2.1.1]
  refine ⟨fun c => absurd c c0, fun _ => ⟨fun c => absurd c c1, fun _ => ⟨fun _ => ⟨fun _ => ?_, fun c => absurd c3 c⟩, fun c => absurd c2 c⟩⟩⟩
  subst ea
  subst eb
  refine ⟨fun τ x => (∀ k, k ≠ 60 → τ k = σ k) ∧ x = nI (rk (dT (Z 104) r)), ok_solvedFrom hS hC.2.1 hC.2.2.1 hr (fun τ h => ⟨h, rfl⟩), ?_⟩
  rintro t16 x ⟨h16, rfl⟩
  have hC16 := hC.fr (τ := t16) hI (fun k hk => h16 k hk.2.2.2.1) (by rw [h16 73 (by decide)])
  refine ⟨fun τ x => (B.1 = 0 ∧ x = -9 ∧ (∀ k, k ≠ 73 → k ≠ 75 → k ≠ 76 → τ k = t16 k) ∧ τ 73 1 = t16 73 1) ∨ (0 < B.1 ∧ x = nI B.2.1 ∧ (∀ k, k ≠ 73 → k ≠ 74 → k ≠ 75 → k ≠ 76 → τ k = t16 k) ∧ τ 73 1 = nI B.1 ∧ ∀ i, i < B.1 → τ 74 i = nI (B.2.2 i)), ok_leastT hS hC16.2.1 hC16.2.2.2.1 ho hn hB (fun τ a b c => Or.inl ⟨a, rfl, b, c⟩) (fun τ a b c d => Or.inr ⟨a, rfl, b, c, d⟩), ?_⟩
  rintro t21 x (⟨b0, rfl, f, g⟩ | ⟨b0, rfl, f, g, g2⟩)
  · refine ⟨fun c => absurd rfl c, fun _ s es => K0 b0 s ?_⟩
    have hC21 := hC16.fr (τ := t21) hI (fun k hk => f k hk.2.2.2.2.1 hk.2.2.2.2.2.1 hk.2.2.2.2.2.2.1) g
    obtain ⟨_, q2, q3⟩ := DC_rf (x := -3) hC21 hI (c := 3) (by decide) (by decide) s es
    exact ⟨rfl, q2, fun k hk => by rw [q3 k hk, f k (by omega) (by omega) (by omega), h16 k (by omega)]⟩
  · refine ⟨fun _ => K1 b0 t21 ⟨rfl, hC16.found hI hBK.1 (fun k hk h74 => f k hk.2.2.2.2.1 h74 hk.2.2.2.2.2.1 hk.2.2.2.2.2.2.1) g g2, fun k hk => by rw [f k (by omega) (by omega) (by omega) (by omega), h16 k (by omega)]⟩, fun c => absurd c (nI_ne9 (by have := hBK.2.1; omega))⟩
