/-! better: the reference's half -/
theorem M_better {Z σ : SG} (hI : KI Z) (hM : KM Z σ) {a b : Int32} {r n : Nat} (c0 : ¬ a < 0) (c1 : ¬ nI (cR (Z 104)) ≤ a) (c2 : nI 1 ≤ b) (c3 : b ≤ nI 5) (hr : r < cR (Z 104)) (ea : a = nI r) (hn : n ≤ 5) (eb : b = nI n) {B : BT} (hB : B = ms (Z 104) n 0 (rk (dT (Z 104) r)) 0 (fun _ => 0) B0) {post : SG → Int32 → Prop}
    (K0 : B.1 = 0 → ∀ τ : SG, DM (rf Z 3) σ (-3) τ (-3) → post τ (-3)) (K1 : 0 < B.1 → ∀ τ : SG, DM (stF Z B) σ (nI B.2.1) τ (nI B.2.1) → post τ (nI B.2.1)) : IN_X12_better AF σ [.ref 102, .int a, .int b] post := by
  have hS := hI.1
  have hR := hS.2.1.2
  have hg := dT_PM hS hr
  have ho : rk (dT (Z 104) r) < 720 := (P_rk hg).1
  have hBK : BK (Z 104) B := by rw [hB]; exact ms_ok hS n 0 _ 0 _ _ (by omega) (by omega) (fun i hi => absurd hi (Nat.not_lt_zero _)) B0_ok
  refine ⟨⟨_, _, rfl, rfl, Nat.le_of_ble_eq_true rfl, rc_102⟩, Nat.le_of_ble_eq_true rfl, g_X12_better_0 ?_⟩
  rw [show σ 104 1 = nI (cR (Z 104)) from (hM.1 1 (by decide)).trans hS.2.1.1]
  refine ⟨fun c => absurd c c0, fun _ => ⟨fun c => absurd c c1, fun _ => ⟨fun _ => ⟨fun _ => ?_, fun c => absurd c3 c⟩, fun c => absurd c2 c⟩⟩⟩
  subst ea
  subst eb
  refine ⟨fun τ x => τ = σ ∧ x = nI (dT (Z 104) r 0), ok_doesTo hS hM.1.ms hr (by decide) ⟨rfl, rfl⟩, ?_⟩
  rintro t0 x0 ⟨h0, rfl⟩
  intro u0 e0 v0 d0
  rw [h0] at e0
  clear h0
  have k0 : ∀ k, k ≠ 111 → k ≠ 112 → v0 k = σ k := fun k x y => by rw [d0, up_k y, e0, up_k x]
  have a0 : ∀ q, q < 1 → v0 111 q = nI (dT (Z 104) r q) := fun q hq => by
    rw [d0, up_k (by decide), e0]
    by_cases e : q = 0
    · rw [e, up_s]
    · omega
  have b0 : ∀ q, q < 1 → v0 112 q = nI q := fun q hq => by
    rw [d0]
    by_cases e : q = 0
    · rw [e, up_s]
    · omega
  clear d0 e0
  refine ⟨fun τ x => τ = v0 ∧ x = nI (dT (Z 104) r 1), ok_doesTo hS (hM.1.ms.fr (k0 104 (by decide) (by decide))) hr (by decide) ⟨rfl, rfl⟩, ?_⟩
  rintro t1 x1 ⟨h1, rfl⟩
  intro u1 e1 v1 d1
  rw [h1] at e1
  clear h1
  have k1 : ∀ k, k ≠ 111 → k ≠ 112 → v1 k = σ k := fun k x y => by rw [d1, up_k y, e1, up_k x]; exact k0 k x y
  have a1 : ∀ q, q < 2 → v1 111 q = nI (dT (Z 104) r q) := fun q hq => by
    rw [d1, up_k (by decide), e1]
    by_cases e : q = 1
    · rw [e, up_s]
    · rw [up_j e]; exact a0 q (by omega)
  have b1 : ∀ q, q < 2 → v1 112 q = nI q := fun q hq => by
    rw [d1]
    by_cases e : q = 1
    · rw [e, up_s]
    · rw [up_j e, e1, up_k (by decide)]; exact b0 q (by omega)
  clear d1 e1
  refine ⟨fun τ x => τ = v1 ∧ x = nI (dT (Z 104) r 2), ok_doesTo hS (hM.1.ms.fr (k1 104 (by decide) (by decide))) hr (by decide) ⟨rfl, rfl⟩, ?_⟩
  rintro t2 x2 ⟨h2, rfl⟩
  intro u2 e2 v2 d2
  rw [h2] at e2
  clear h2
  have k2 : ∀ k, k ≠ 111 → k ≠ 112 → v2 k = σ k := fun k x y => by rw [d2, up_k y, e2, up_k x]; exact k1 k x y
  have a2 : ∀ q, q < 3 → v2 111 q = nI (dT (Z 104) r q) := fun q hq => by
    rw [d2, up_k (by decide), e2]
    by_cases e : q = 2
    · rw [e, up_s]
    · rw [up_j e]; exact a1 q (by omega)
  have b2 : ∀ q, q < 3 → v2 112 q = nI q := fun q hq => by
    rw [d2]
    by_cases e : q = 2
    · rw [e, up_s]
    · rw [up_j e, e2, up_k (by decide)]; exact b1 q (by omega)
  clear d2 e2
  refine ⟨fun τ x => τ = v2 ∧ x = nI (dT (Z 104) r 3), ok_doesTo hS (hM.1.ms.fr (k2 104 (by decide) (by decide))) hr (by decide) ⟨rfl, rfl⟩, ?_⟩
  rintro t3 x3 ⟨h3, rfl⟩
  intro u3 e3 v3 d3
  rw [h3] at e3
  clear h3
  have k3 : ∀ k, k ≠ 111 → k ≠ 112 → v3 k = σ k := fun k x y => by rw [d3, up_k y, e3, up_k x]; exact k2 k x y
  have a3 : ∀ q, q < 4 → v3 111 q = nI (dT (Z 104) r q) := fun q hq => by
    rw [d3, up_k (by decide), e3]
    by_cases e : q = 3
    · rw [e, up_s]
    · rw [up_j e]; exact a2 q (by omega)
  have b3 : ∀ q, q < 4 → v3 112 q = nI q := fun q hq => by
    rw [d3]
    by_cases e : q = 3
    · rw [e, up_s]
    · rw [up_j e, e3, up_k (by decide)]; exact b2 q (by omega)
  clear d3 e3
  refine ⟨fun τ x => τ = v3 ∧ x = nI (dT (Z 104) r 4), ok_doesTo hS (hM.1.ms.fr (k3 104 (by decide) (by decide))) hr (by decide) ⟨rfl, rfl⟩, ?_⟩
  rintro t4 x4 ⟨h4, rfl⟩
  intro u4 e4 v4 d4
  rw [h4] at e4
  clear h4
  have k4 : ∀ k, k ≠ 111 → k ≠ 112 → v4 k = σ k := fun k x y => by rw [d4, up_k y, e4, up_k x]; exact k3 k x y
  have a4 : ∀ q, q < 5 → v4 111 q = nI (dT (Z 104) r q) := fun q hq => by
    rw [d4, up_k (by decide), e4]
    by_cases e : q = 4
    · rw [e, up_s]
    · rw [up_j e]; exact a3 q (by omega)
  have b4 : ∀ q, q < 5 → v4 112 q = nI q := fun q hq => by
    rw [d4]
    by_cases e : q = 4
    · rw [e, up_s]
    · rw [up_j e, e4, up_k (by decide)]; exact b3 q (by omega)
  clear d4 e4
  refine ⟨fun τ x => τ = v4 ∧ x = nI (dT (Z 104) r 5), ok_doesTo hS (hM.1.ms.fr (k4 104 (by decide) (by decide))) hr (by decide) ⟨rfl, rfl⟩, ?_⟩
  rintro t5 x5 ⟨h5, rfl⟩
  intro u5 e5 v5 d5
  rw [h5] at e5
  clear h5
  have k5 : ∀ k, k ≠ 111 → k ≠ 112 → v5 k = σ k := fun k x y => by rw [d5, up_k y, e5, up_k x]; exact k4 k x y
  have a5 : ∀ q, q < 6 → v5 111 q = nI (dT (Z 104) r q) := fun q hq => by
    rw [d5, up_k (by decide), e5]
    by_cases e : q = 5
    · rw [e, up_s]
    · rw [up_j e]; exact a4 q (by omega)
  have b5 : ∀ q, q < 6 → v5 112 q = nI q := fun q hq => by
    rw [d5]
    by_cases e : q = 5
    · rw [e, up_s]
    · rw [up_j e, e5, up_k (by decide)]; exact b4 q (by omega)
  clear d5 e5
  intro s59 e59
  have f59 : ∀ k, k ≠ 102 → k ≠ 111 → k ≠ 112 → s59 k = σ k := fun k x y z => by rw [e59, up_k x]; exact k5 k y z
  have g59 : ∀ j, j ≠ 16 → s59 102 j = σ 102 j := fun j hj => by rw [e59, up_j hj, k5 102 (by decide) (by decide)]
  refine ⟨fun τ x => x = 0 → TF 0 s59 τ ∧ BM (s59 109) B τ, tries_ok hS hg (F0 := s59 109) hn n 0 _ 0 (fun _ => 0) B0 7 (Nat.zero_add _) (by omega) ho (by omega) (fun i hi => absurd hi (Nat.not_lt_zero _)) B0_ok s59 (hM.1.ms.fr (f59 104 (by decide) (by decide) (by decide))) (fun p hp => by rw [e59, up_k (by decide)]; exact a5 p hp) (fun p hp => ?_) ⟨by rw [e59, up_s]; rfl, fun z => absurd z (Nat.not_lt_zero _), fun i hi => absurd hi (Nat.not_lt_zero _), fun _ _ => rfl⟩ (fun i hi => absurd hi (Nat.not_lt_zero _)) _ (fun τ x y _ => by rw [hB]; exact ⟨x, y⟩), fun t ht => ?_⟩
  · rw [e59, up_k (by decide), show 6 * 0 + p = p by omega, b5 p hp]
    have h1 := inv6_of (P_ok ho).1 hp
    rw [(P_rk hg).2 p hp] at h1
    unfold plO
    rw [h1]
  obtain ⟨h1, h2⟩ := ht rfl
  have l5 := hBK.1
  have ft : ∀ k, (103 ≤ k ∧ k ≤ 106) ∨ k = 118 ∨ k = 119 → t k = σ k := fun k hk => by rw [h1.1 k (by omega) (by omega) (by omega) (by omega), f59 k (by omega) (by omega) (by omega)]
  have fl : ∀ k, k < 102 → t k = σ k := fun k hk => by rw [h1.1 k (by omega) (by omega) (by omega) (by omega), f59 k (by omega) (by omega) (by omega)]
  have gt : ∀ j, j ≠ 15 → j ≠ 16 → t 102 j = σ 102 j := fun j x y => by rw [h1.2.1 j x y]; exact g59 j y
  rw [h2.1, nI0_eq (by omega)]
  refine ⟨fun c s66 e66 => ?_, fun c s69 e69 => ?_⟩
  · have e15 : s66 102 15 = nI B.2.1 := by rw [e66, up_j (by decide)]; exact h2.2.1 (by omega)
    rw [e15]
    refine K1 (by omega) s66 ⟨rfl, hM.found l5 (fun k hk => by rw [e66, up_k (by omega)]; exact ft k hk) (fun j x y z => by rw [e66, up_j x]; exact gt j y z) (by rw [e66, up_s]) (fun i hi => by rw [e66, up_k (by decide)]; exact h2.2.2.1 i hi), fun k hk => by rw [e66, up_k (by omega)]; exact fl k hk⟩
  · have hMt : KM Z t := hM.fr (ft 103 (by decide)) (ft 104 (by decide)) (ft 105 (by decide)) (ft 106 (by decide)) (by funext j; rw [h2.2.2.2 c j, f59 109 (by decide) (by decide) (by decide)]) (ft 118 (by decide)) (ft 119 (by decide)) (fun j x y _ => gt j x y)
    obtain ⟨_, q2, q3⟩ := DM_rf (x := -3) hMt (c := 3) (by decide) s69 e69
    exact K0 c s69 ⟨rfl, q2, fun k hk => by rw [q3 k hk]; exact fl k hk⟩
