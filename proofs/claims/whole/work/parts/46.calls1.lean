/-! the calls, one by one: goes, does, now, seconds, mean, tried, solves, fewest -/
theorem J_seconds {Z σ : SG} (hI : KI Z) (hC : KC Z σ) (hM : KM Z σ) (a : Int32) : ∃ p, IN_X11_seconds AF σ [.ref 0, .int a] p ∧ ∀ t r, p t r → ∃ q, IN_X12_seconds AF t [.ref 102, .int a] q ∧ ∀ t' r', q t' r' → r = r' ∧ KK t' := by
  have hS := hI.1
  have hR := hS.2.1.2
  have hT := hS.1.2
  by_cases c0 : a < 0
  · refine joint (Z' := rf Z 1) (x := -1) (C := fun s p => IN_X11_seconds AF s [.ref 0, .int a] p) (M := fun s p => IN_X12_seconds AF s [.ref 102, .int a] p) (hI.rf 1) hM ?_ (fun t hM => ?_)
    · refine ⟨⟨_, _, rfl, rfl, Nat.le_of_ble_eq_true rfl, rc_0⟩, Nat.le_of_ble_eq_true rfl, g_X11_seconds_0 ?_⟩
      rw [show σ 36 0 = nI (cR (Z 104)) from hC.2.2.1.1.trans hS.2.1.1]
      exact ⟨fun _ => DC_rf hC hI (by decide) (by decide), fun c => absurd c0 c⟩
    · refine ⟨⟨_, _, rfl, rfl, Nat.le_of_ble_eq_true rfl, rc_102⟩, Nat.le_of_ble_eq_true rfl, g_X12_seconds_0 ?_⟩
      rw [show t 104 1 = nI (cR (Z 104)) from (hM.1 1 (by decide)).trans hS.2.1.1]
      exact ⟨fun _ => DM_rf hM (by decide), fun c => absurd c0 c⟩
  by_cases c1 : nI (cR (Z 104)) ≤ a
  · refine joint (Z' := rf Z 1) (x := -1) (C := fun s p => IN_X11_seconds AF s [.ref 0, .int a] p) (M := fun s p => IN_X12_seconds AF s [.ref 102, .int a] p) (hI.rf 1) hM ?_ (fun t hM => ?_)
    · refine ⟨⟨_, _, rfl, rfl, Nat.le_of_ble_eq_true rfl, rc_0⟩, Nat.le_of_ble_eq_true rfl, g_X11_seconds_0 ?_⟩
      rw [show σ 36 0 = nI (cR (Z 104)) from hC.2.2.1.1.trans hS.2.1.1]
      exact ⟨fun c => absurd c c0, fun _ => ⟨fun _ => DC_rf hC hI (by decide) (by decide), fun c => absurd c1 c⟩⟩
    · refine ⟨⟨_, _, rfl, rfl, Nat.le_of_ble_eq_true rfl, rc_102⟩, Nat.le_of_ble_eq_true rfl, g_X12_seconds_0 ?_⟩
      rw [show t 104 1 = nI (cR (Z 104)) from (hM.1 1 (by decide)).trans hS.2.1.1]
      exact ⟨fun c => absurd c c0, fun _ => ⟨fun _ => DM_rf hM (by decide), fun c => absurd c1 c⟩⟩
  obtain ⟨r, hr, ea⟩ := arg_in (by omega) c0 c1
  refine joint (Z' := Z) (x := nI (rt (Z 104) r)) (C := fun s p => IN_X11_seconds AF s [.ref 0, .int a] p) (M := fun s p => IN_X12_seconds AF s [.ref 102, .int a] p) hI hM ?_ (fun t hM => ?_)
  · refine ⟨⟨_, _, rfl, rfl, Nat.le_of_ble_eq_true rfl, rc_0⟩, Nat.le_of_ble_eq_true rfl, g_X11_seconds_0 ?_⟩
    rw [show σ 36 0 = nI (cR (Z 104)) from hC.2.2.1.1.trans hS.2.1.1]
    refine ⟨fun c => absurd c c0, fun _ => ⟨fun c => absurd c c1, fun _ => ?_⟩⟩
    subst ea
    refine ⟨fun τ x => τ = σ ∧ x = nI (rt (Z 104) r), ok_rowTime hS hC.2.2.2.1 hC.2.2.1 hr ⟨rfl, rfl⟩, ?_⟩
    rintro t x ⟨rfl, rfl⟩
    exact DC_rfl hC
  · refine ⟨⟨_, _, rfl, rfl, Nat.le_of_ble_eq_true rfl, rc_102⟩, Nat.le_of_ble_eq_true rfl, g_X12_seconds_0 ?_⟩
    rw [show t 104 1 = nI (cR (Z 104)) from (hM.1 1 (by decide)).trans hS.2.1.1]
    refine ⟨fun c => absurd c c0, fun _ => ⟨fun c => absurd c c1, fun _ => ?_⟩⟩
    subst ea
    refine ⟨fun τ x => τ = t ∧ x = nI (rt (Z 104) r), ok_secs hS hM.1.ms hr ⟨rfl, rfl⟩, ?_⟩
    rintro t x ⟨rfl, rfl⟩
    exact DM_rfl hM
theorem J_mean {Z σ : SG} (hI : KI Z) (hC : KC Z σ) (hM : KM Z σ) (a : Int32) : ∃ p, IN_X11_mean AF σ [.ref 0, .int a] p ∧ ∀ t r, p t r → ∃ q, IN_X12_mean AF t [.ref 102, .int a] q ∧ ∀ t' r', q t' r' → r = r' ∧ KK t' := by
  have hS := hI.1
  have hR := hS.2.1.2
  have hT := hS.1.2
  by_cases c0 : a < 0
  · refine joint (Z' := rf Z 1) (x := -1) (C := fun s p => IN_X11_mean AF s [.ref 0, .int a] p) (M := fun s p => IN_X12_mean AF s [.ref 102, .int a] p) (hI.rf 1) hM ?_ (fun t hM => ?_)
    · refine ⟨⟨_, _, rfl, rfl, Nat.le_of_ble_eq_true rfl, rc_0⟩, Nat.le_of_ble_eq_true rfl, g_X11_mean_0 ?_⟩
      rw [show σ 36 0 = nI (cR (Z 104)) from hC.2.2.1.1.trans hS.2.1.1]
      exact ⟨fun _ => DC_rf hC hI (by decide) (by decide), fun c => absurd c0 c⟩
    · refine ⟨⟨_, _, rfl, rfl, Nat.le_of_ble_eq_true rfl, rc_102⟩, Nat.le_of_ble_eq_true rfl, g_X12_mean_0 ?_⟩
      rw [show t 104 1 = nI (cR (Z 104)) from (hM.1 1 (by decide)).trans hS.2.1.1]
      exact ⟨fun _ => DM_rf hM (by decide), fun c => absurd c0 c⟩
  by_cases c1 : nI (cR (Z 104)) ≤ a
  · refine joint (Z' := rf Z 1) (x := -1) (C := fun s p => IN_X11_mean AF s [.ref 0, .int a] p) (M := fun s p => IN_X12_mean AF s [.ref 102, .int a] p) (hI.rf 1) hM ?_ (fun t hM => ?_)
    · refine ⟨⟨_, _, rfl, rfl, Nat.le_of_ble_eq_true rfl, rc_0⟩, Nat.le_of_ble_eq_true rfl, g_X11_mean_0 ?_⟩
      rw [show σ 36 0 = nI (cR (Z 104)) from hC.2.2.1.1.trans hS.2.1.1]
      exact ⟨fun c => absurd c c0, fun _ => ⟨fun _ => DC_rf hC hI (by decide) (by decide), fun c => absurd c1 c⟩⟩
    · refine ⟨⟨_, _, rfl, rfl, Nat.le_of_ble_eq_true rfl, rc_102⟩, Nat.le_of_ble_eq_true rfl, g_X12_mean_0 ?_⟩
      rw [show t 104 1 = nI (cR (Z 104)) from (hM.1 1 (by decide)).trans hS.2.1.1]
      exact ⟨fun c => absurd c c0, fun _ => ⟨fun _ => DM_rf hM (by decide), fun c => absurd c1 c⟩⟩
  obtain ⟨r, hr, ea⟩ := arg_in (by omega) c0 c1
  refine joint (Z' := Z) (x := nI 100 * nI (rt (Z 104) r) + nI (ln (Z 104) r) * Z 104 3 * Z 104 4) (C := fun s p => IN_X11_mean AF s [.ref 0, .int a] p) (M := fun s p => IN_X12_mean AF s [.ref 102, .int a] p) hI hM ?_ (fun t hM => ?_)
  · refine ⟨⟨_, _, rfl, rfl, Nat.le_of_ble_eq_true rfl, rc_0⟩, Nat.le_of_ble_eq_true rfl, g_X11_mean_0 ?_⟩
    rw [show σ 36 0 = nI (cR (Z 104)) from hC.2.2.1.1.trans hS.2.1.1]
    refine ⟨fun c => absurd c c0, fun _ => ⟨fun c => absurd c c1, fun _ => ?_⟩⟩
    subst ea
    refine ⟨fun τ x => τ = σ ∧ x = nI (rt (Z 104) r), ok_rowTime hS hC.2.2.2.1 hC.2.2.1 hr ⟨rfl, rfl⟩, ?_⟩
    rintro t x ⟨rfl, rfl⟩
    refine ⟨r, rfl, by omega, ?_⟩
    rw [(hC.2.2.1.2 r hr).1, hC.2.2.2.1.2.1, hC.2.2.2.1.2.2]
    exact DC_rfl hC
  · refine ⟨⟨_, _, rfl, rfl, Nat.le_of_ble_eq_true rfl, rc_102⟩, Nat.le_of_ble_eq_true rfl, g_X12_mean_0 ?_⟩
    rw [show t 104 1 = nI (cR (Z 104)) from (hM.1 1 (by decide)).trans hS.2.1.1]
    refine ⟨fun c => absurd c c0, fun _ => ⟨fun c => absurd c c1, fun _ => ?_⟩⟩
    subst ea
    refine ⟨fun τ x => τ = t ∧ x = nI (rt (Z 104) r), ok_secs hS hM.1.ms hr ⟨rfl, rfl⟩, ?_⟩
    rintro t x ⟨rfl, rfl⟩
    refine ⟨95 + 9 * r, by rw [pk_mul, nI_add], by omega, ?_⟩
    rw [hM.1 (95 + 9 * r) (by omega), hM.1 3 (by decide), hM.1 4 (by decide), (hS.2.2.2.2.1 r hr).1]
    exact DM_rfl hM
theorem J_does {Z σ : SG} (hI : KI Z) (hC : KC Z σ) (hM : KM Z σ) (a b : Int32) : ∃ p, IN_X11_does AF σ [.ref 0, .int a, .int b] p ∧ ∀ t r, p t r → ∃ q, IN_X12_does AF t [.ref 102, .int a, .int b] q ∧ ∀ t' r', q t' r' → r = r' ∧ KK t' := by
  have hS := hI.1
  have hR := hS.2.1.2
  have hT := hS.1.2
  by_cases c0 : a < 0
  · refine joint (Z' := rf Z 1) (x := -1) (C := fun s p => IN_X11_does AF s [.ref 0, .int a, .int b] p) (M := fun s p => IN_X12_does AF s [.ref 102, .int a, .int b] p) (hI.rf 1) hM ?_ (fun t hM => ?_)
    · refine ⟨⟨_, _, rfl, rfl, Nat.le_of_ble_eq_true rfl, rc_0⟩, Nat.le_of_ble_eq_true rfl, g_X11_does_0 ?_⟩
      rw [show σ 36 0 = nI (cR (Z 104)) from hC.2.2.1.1.trans hS.2.1.1]
      exact ⟨fun _ => DC_rf hC hI (by decide) (by decide), fun c => absurd c0 c⟩
    · refine ⟨⟨_, _, rfl, rfl, Nat.le_of_ble_eq_true rfl, rc_102⟩, Nat.le_of_ble_eq_true rfl, g_X12_does_0 ?_⟩
      rw [show t 104 1 = nI (cR (Z 104)) from (hM.1 1 (by decide)).trans hS.2.1.1]
      exact ⟨fun _ => DM_rf hM (by decide), fun c => absurd c0 c⟩
  by_cases c1 : nI (cR (Z 104)) ≤ a
  · refine joint (Z' := rf Z 1) (x := -1) (C := fun s p => IN_X11_does AF s [.ref 0, .int a, .int b] p) (M := fun s p => IN_X12_does AF s [.ref 102, .int a, .int b] p) (hI.rf 1) hM ?_ (fun t hM => ?_)
    · refine ⟨⟨_, _, rfl, rfl, Nat.le_of_ble_eq_true rfl, rc_0⟩, Nat.le_of_ble_eq_true rfl, g_X11_does_0 ?_⟩
      rw [show σ 36 0 = nI (cR (Z 104)) from hC.2.2.1.1.trans hS.2.1.1]
      exact ⟨fun c => absurd c c0, fun _ => ⟨fun _ => DC_rf hC hI (by decide) (by decide), fun c => absurd c1 c⟩⟩
    · refine ⟨⟨_, _, rfl, rfl, Nat.le_of_ble_eq_true rfl, rc_102⟩, Nat.le_of_ble_eq_true rfl, g_X12_does_0 ?_⟩
      rw [show t 104 1 = nI (cR (Z 104)) from (hM.1 1 (by decide)).trans hS.2.1.1]
      exact ⟨fun c => absurd c c0, fun _ => ⟨fun _ => DM_rf hM (by decide), fun c => absurd c1 c⟩⟩
  by_cases c2 : b < 0
  · refine joint (Z' := rf Z 1) (x := -1) (C := fun s p => IN_X11_does AF s [.ref 0, .int a, .int b] p) (M := fun s p => IN_X12_does AF s [.ref 102, .int a, .int b] p) (hI.rf 1) hM ?_ (fun t hM => ?_)
    · refine ⟨⟨_, _, rfl, rfl, Nat.le_of_ble_eq_true rfl, rc_0⟩, Nat.le_of_ble_eq_true rfl, g_X11_does_0 ?_⟩
      rw [show σ 36 0 = nI (cR (Z 104)) from hC.2.2.1.1.trans hS.2.1.1]
      exact ⟨fun c => absurd c c0, fun _ => ⟨fun c => absurd c c1, fun _ => ⟨fun _ => DC_rf hC hI (by decide) (by decide), fun c => absurd c2 c⟩⟩⟩
    · refine ⟨⟨_, _, rfl, rfl, Nat.le_of_ble_eq_true rfl, rc_102⟩, Nat.le_of_ble_eq_true rfl, g_X12_does_0 ?_⟩
      rw [show t 104 1 = nI (cR (Z 104)) from (hM.1 1 (by decide)).trans hS.2.1.1]
      exact ⟨fun c => absurd c c0, fun _ => ⟨fun c => absurd c c1, fun _ => ⟨fun _ => DM_rf hM (by decide), fun c => absurd c2 c⟩⟩⟩
  by_cases c3 : nI 6 ≤ b
  · refine joint (Z' := rf Z 1) (x := -1) (C := fun s p => IN_X11_does AF s [.ref 0, .int a, .int b] p) (M := fun s p => IN_X12_does AF s [.ref 102, .int a, .int b] p) (hI.rf 1) hM ?_ (fun t hM => ?_)
    · refine ⟨⟨_, _, rfl, rfl, Nat.le_of_ble_eq_true rfl, rc_0⟩, Nat.le_of_ble_eq_true rfl, g_X11_does_0 ?_⟩
      rw [show σ 36 0 = nI (cR (Z 104)) from hC.2.2.1.1.trans hS.2.1.1]
      exact ⟨fun c => absurd c c0, fun _ => ⟨fun c => absurd c c1, fun _ => ⟨fun c => absurd c c2, fun _ => ⟨fun _ => DC_rf hC hI (by decide) (by decide), fun c => absurd c3 c⟩⟩⟩⟩
    · refine ⟨⟨_, _, rfl, rfl, Nat.le_of_ble_eq_true rfl, rc_102⟩, Nat.le_of_ble_eq_true rfl, g_X12_does_0 ?_⟩
      rw [show t 104 1 = nI (cR (Z 104)) from (hM.1 1 (by decide)).trans hS.2.1.1]
      exact ⟨fun c => absurd c c0, fun _ => ⟨fun c => absurd c c1, fun _ => ⟨fun c => absurd c c2, fun _ => ⟨fun _ => DM_rf hM (by decide), fun c => absurd c3 c⟩⟩⟩⟩
  obtain ⟨r, hr, ea⟩ := arg_in (by omega) c0 c1
  obtain ⟨p, hp, eb⟩ := arg_in (by decide) c2 c3
  refine joint (Z' := Z) (x := nI (dT (Z 104) r p)) (C := fun s p => IN_X11_does AF s [.ref 0, .int a, .int b] p) (M := fun s p => IN_X12_does AF s [.ref 102, .int a, .int b] p) hI hM ?_ (fun t hM => ?_)
  · refine ⟨⟨_, _, rfl, rfl, Nat.le_of_ble_eq_true rfl, rc_0⟩, Nat.le_of_ble_eq_true rfl, g_X11_does_0 ?_⟩
    rw [show σ 36 0 = nI (cR (Z 104)) from hC.2.2.1.1.trans hS.2.1.1]
    refine ⟨fun c => absurd c c0, fun _ => ⟨fun c => absurd c c1, fun _ => ⟨fun c => absurd c c2, fun _ => ⟨fun c => absurd c c3, fun _ => ?_⟩⟩⟩⟩
    subst ea
    subst eb
    refine ⟨fun τ x => τ = σ ∧ x = nI (dT (Z 104) r p), ok_goal hS hC.2.1 hC.2.2.1 hr hp ⟨rfl, rfl⟩, ?_⟩
    rintro t x ⟨rfl, rfl⟩
    exact DC_rfl hC
  · refine ⟨⟨_, _, rfl, rfl, Nat.le_of_ble_eq_true rfl, rc_102⟩, Nat.le_of_ble_eq_true rfl, g_X12_does_0 ?_⟩
    rw [show t 104 1 = nI (cR (Z 104)) from (hM.1 1 (by decide)).trans hS.2.1.1]
    refine ⟨fun c => absurd c c0, fun _ => ⟨fun c => absurd c c1, fun _ => ⟨fun c => absurd c c2, fun _ => ⟨fun c => absurd c c3, fun _ => ?_⟩⟩⟩⟩
    subst ea
    subst eb
    refine ⟨fun τ x => τ = t ∧ x = nI (dT (Z 104) r p), ok_doesTo hS hM.1.ms hr hp ⟨rfl, rfl⟩, ?_⟩
    rintro t x ⟨rfl, rfl⟩
    exact DM_rfl hM
theorem J_goes {Z σ : SG} (hI : KI Z) (hC : KC Z σ) (hM : KM Z σ) (a b : Int32) : ∃ p, IN_X11_goes AF σ [.ref 0, .int a, .int b] p ∧ ∀ t r, p t r → ∃ q, IN_X12_goes AF t [.ref 102, .int a, .int b] q ∧ ∀ t' r', q t' r' → r = r' ∧ KK t' := by
  have hS := hI.1
  have hR := hS.2.1.2
  have hT := hS.1.2
  by_cases c0 : a < 0
  · refine joint (Z' := rf Z 1) (x := -1) (C := fun s p => IN_X11_goes AF s [.ref 0, .int a, .int b] p) (M := fun s p => IN_X12_goes AF s [.ref 102, .int a, .int b] p) (hI.rf 1) hM ?_ (fun t hM => ?_)
    · refine ⟨⟨_, _, rfl, rfl, Nat.le_of_ble_eq_true rfl, rc_0⟩, Nat.le_of_ble_eq_true rfl, g_X11_goes_0 ?_⟩
      rw [show nI 2 * σ 7 0 = nI (2 * cT (Z 104)) by rw [hC.2.1.1, hS.1.1, pk_mul]]
      exact ⟨fun _ => DC_rf hC hI (by decide) (by decide), fun c => absurd c0 c⟩
    · refine ⟨⟨_, _, rfl, rfl, Nat.le_of_ble_eq_true rfl, rc_102⟩, Nat.le_of_ble_eq_true rfl, g_X12_goes_0 ?_⟩
      rw [show nI 2 * t 104 0 = nI (2 * cT (Z 104)) by rw [hM.1 0 (by decide), hS.1.1, pk_mul]]
      exact ⟨fun _ => DM_rf hM (by decide), fun c => absurd c0 c⟩
  by_cases c1 : nI (2 * cT (Z 104)) ≤ a
  · refine joint (Z' := rf Z 1) (x := -1) (C := fun s p => IN_X11_goes AF s [.ref 0, .int a, .int b] p) (M := fun s p => IN_X12_goes AF s [.ref 102, .int a, .int b] p) (hI.rf 1) hM ?_ (fun t hM => ?_)
    · refine ⟨⟨_, _, rfl, rfl, Nat.le_of_ble_eq_true rfl, rc_0⟩, Nat.le_of_ble_eq_true rfl, g_X11_goes_0 ?_⟩
      rw [show nI 2 * σ 7 0 = nI (2 * cT (Z 104)) by rw [hC.2.1.1, hS.1.1, pk_mul]]
      exact ⟨fun c => absurd c c0, fun _ => ⟨fun _ => DC_rf hC hI (by decide) (by decide), fun c => absurd c1 c⟩⟩
    · refine ⟨⟨_, _, rfl, rfl, Nat.le_of_ble_eq_true rfl, rc_102⟩, Nat.le_of_ble_eq_true rfl, g_X12_goes_0 ?_⟩
      rw [show nI 2 * t 104 0 = nI (2 * cT (Z 104)) by rw [hM.1 0 (by decide), hS.1.1, pk_mul]]
      exact ⟨fun c => absurd c c0, fun _ => ⟨fun _ => DM_rf hM (by decide), fun c => absurd c1 c⟩⟩
  by_cases c2 : b < 0
  · refine joint (Z' := rf Z 1) (x := -1) (C := fun s p => IN_X11_goes AF s [.ref 0, .int a, .int b] p) (M := fun s p => IN_X12_goes AF s [.ref 102, .int a, .int b] p) (hI.rf 1) hM ?_ (fun t hM => ?_)
    · refine ⟨⟨_, _, rfl, rfl, Nat.le_of_ble_eq_true rfl, rc_0⟩, Nat.le_of_ble_eq_true rfl, g_X11_goes_0 ?_⟩
      rw [show nI 2 * σ 7 0 = nI (2 * cT (Z 104)) by rw [hC.2.1.1, hS.1.1, pk_mul]]
      exact ⟨fun c => absurd c c0, fun _ => ⟨fun c => absurd c c1, fun _ => ⟨fun _ => DC_rf hC hI (by decide) (by decide), fun c => absurd c2 c⟩⟩⟩
    · refine ⟨⟨_, _, rfl, rfl, Nat.le_of_ble_eq_true rfl, rc_102⟩, Nat.le_of_ble_eq_true rfl, g_X12_goes_0 ?_⟩
      rw [show nI 2 * t 104 0 = nI (2 * cT (Z 104)) by rw [hM.1 0 (by decide), hS.1.1, pk_mul]]
      exact ⟨fun c => absurd c c0, fun _ => ⟨fun c => absurd c c1, fun _ => ⟨fun _ => DM_rf hM (by decide), fun c => absurd c2 c⟩⟩⟩
  by_cases c3 : nI 6 ≤ b
  · refine joint (Z' := rf Z 1) (x := -1) (C := fun s p => IN_X11_goes AF s [.ref 0, .int a, .int b] p) (M := fun s p => IN_X12_goes AF s [.ref 102, .int a, .int b] p) (hI.rf 1) hM ?_ (fun t hM => ?_)
    · refine ⟨⟨_, _, rfl, rfl, Nat.le_of_ble_eq_true rfl, rc_0⟩, Nat.le_of_ble_eq_true rfl, g_X11_goes_0 ?_⟩
      rw [show nI 2 * σ 7 0 = nI (2 * cT (Z 104)) by rw [hC.2.1.1, hS.1.1, pk_mul]]
      exact ⟨fun c => absurd c c0, fun _ => ⟨fun c => absurd c c1, fun _ => ⟨fun c => absurd c c2, fun _ => ⟨fun _ => DC_rf hC hI (by decide) (by decide), fun c => absurd c3 c⟩⟩⟩⟩
    · refine ⟨⟨_, _, rfl, rfl, Nat.le_of_ble_eq_true rfl, rc_102⟩, Nat.le_of_ble_eq_true rfl, g_X12_goes_0 ?_⟩
      rw [show nI 2 * t 104 0 = nI (2 * cT (Z 104)) by rw [hM.1 0 (by decide), hS.1.1, pk_mul]]
      exact ⟨fun c => absurd c c0, fun _ => ⟨fun c => absurd c c1, fun _ => ⟨fun c => absurd c c2, fun _ => ⟨fun _ => DM_rf hM (by decide), fun c => absurd c3 c⟩⟩⟩⟩
  obtain ⟨m, hm, ea⟩ := arg_in (by omega) c0 c1
  obtain ⟨p, hp, eb⟩ := arg_in (by decide) c2 c3
  refine joint (Z' := Z) (x := nI (gm (Z 104) m p)) (C := fun s p => IN_X11_goes AF s [.ref 0, .int a, .int b] p) (M := fun s p => IN_X12_goes AF s [.ref 102, .int a, .int b] p) hI hM ?_ (fun t hM => ?_)
  · refine ⟨⟨_, _, rfl, rfl, Nat.le_of_ble_eq_true rfl, rc_0⟩, Nat.le_of_ble_eq_true rfl, g_X11_goes_0 ?_⟩
    rw [show nI 2 * σ 7 0 = nI (2 * cT (Z 104)) by rw [hC.2.1.1, hS.1.1, pk_mul]]
    refine ⟨fun c => absurd c c0, fun _ => ⟨fun c => absurd c c1, fun _ => ⟨fun c => absurd c c2, fun _ => ⟨fun c => absurd c c3, fun _ => ?_⟩⟩⟩⟩
    subst ea
    subst eb
    refine ⟨m, rfl, by omega, p, rfl, hp, ?_⟩
    rw [hC.2.1.2.1 m p hm hp]
    exact DC_rfl hC
  · refine ⟨⟨_, _, rfl, rfl, Nat.le_of_ble_eq_true rfl, rc_102⟩, Nat.le_of_ble_eq_true rfl, g_X12_goes_0 ?_⟩
    rw [show nI 2 * t 104 0 = nI (2 * cT (Z 104)) by rw [hM.1 0 (by decide), hS.1.1, pk_mul]]
    refine ⟨fun c => absurd c c0, fun _ => ⟨fun c => absurd c c1, fun _ => ⟨fun c => absurd c c2, fun _ => ⟨fun c => absurd c c3, fun _ => ?_⟩⟩⟩⟩
    subst ea
    subst eb
    refine ⟨fun τ x => τ = t ∧ x = nI (gm (Z 104) m p), ok_goesTo hS hM.1.ms hm hp ⟨rfl, rfl⟩, ?_⟩
    rintro t x ⟨rfl, rfl⟩
    exact DM_rfl hM
theorem J_now {Z σ : SG} (hI : KI Z) (hC : KC Z σ) (hM : KM Z σ) (a : Int32) : ∃ p, IN_X11_now AF σ [.ref 0, .int a] p ∧ ∀ t r, p t r → ∃ q, IN_X12_now AF t [.ref 102, .int a] q ∧ ∀ t' r', q t' r' → r = r' ∧ KK t' := by
  have hS := hI.1
  by_cases c0 : a < 0
  · refine joint (Z' := rf Z 1) (x := -1) (C := fun s p => IN_X11_now AF s [.ref 0, .int a] p) (M := fun s p => IN_X12_now AF s [.ref 102, .int a] p) (hI.rf 1) hM ?_ (fun t hM => ?_)
    · refine ⟨⟨_, _, rfl, rfl, Nat.le_of_ble_eq_true rfl, rc_0⟩, Nat.le_of_ble_eq_true rfl, g_X11_now_0 ?_⟩
      exact ⟨fun _ => DC_rf hC hI (by decide) (by decide), fun c => absurd c0 c⟩
    · refine ⟨⟨_, _, rfl, rfl, Nat.le_of_ble_eq_true rfl, rc_102⟩, Nat.le_of_ble_eq_true rfl, g_X12_now_0 ?_⟩
      exact ⟨fun _ => DM_rf hM (by decide), fun c => absurd c0 c⟩
  by_cases c1 : nI 6 ≤ a
  · refine joint (Z' := rf Z 1) (x := -1) (C := fun s p => IN_X11_now AF s [.ref 0, .int a] p) (M := fun s p => IN_X12_now AF s [.ref 102, .int a] p) (hI.rf 1) hM ?_ (fun t hM => ?_)
    · refine ⟨⟨_, _, rfl, rfl, Nat.le_of_ble_eq_true rfl, rc_0⟩, Nat.le_of_ble_eq_true rfl, g_X11_now_0 ?_⟩
      exact ⟨fun c => absurd c c0, fun _ => ⟨fun _ => DC_rf hC hI (by decide) (by decide), fun c => absurd c1 c⟩⟩
    · refine ⟨⟨_, _, rfl, rfl, Nat.le_of_ble_eq_true rfl, rc_102⟩, Nat.le_of_ble_eq_true rfl, g_X12_now_0 ?_⟩
      exact ⟨fun c => absurd c c0, fun _ => ⟨fun _ => DM_rf hM (by decide), fun c => absurd c1 c⟩⟩
  obtain ⟨p, hp, ea⟩ := arg_in (by decide) c0 c1
  refine joint (Z' := Z) (x := nI (P (cur (Z 104)) p)) (C := fun s p => IN_X11_now AF s [.ref 0, .int a] p) (M := fun s p => IN_X12_now AF s [.ref 102, .int a] p) hI hM ?_ (fun t hM => ?_)
  · refine ⟨⟨_, _, rfl, rfl, Nat.le_of_ble_eq_true rfl, rc_0⟩, Nat.le_of_ble_eq_true rfl, g_X11_now_0 ?_⟩
    refine ⟨fun c => absurd c c0, fun _ => ⟨fun c => absurd c c1, fun _ => ?_⟩⟩
    subst ea
    have hc := cur_lt hS
    rw [show σ 0 12 = nI (cur (Z 104)) from hC.2.2.2.2.2.1]
    refine ⟨cur (Z 104) * 6 + p, by rw [pk_mul, nI_add], by omega, ?_⟩
    rw [hC.1.1 _ p hc hp]
    exact DC_rfl hC
  · refine ⟨⟨_, _, rfl, rfl, Nat.le_of_ble_eq_true rfl, rc_102⟩, Nat.le_of_ble_eq_true rfl, g_X12_now_0 ?_⟩
    refine ⟨fun c => absurd c c0, fun _ => ⟨fun c => absurd c c1, fun _ => ?_⟩⟩
    subst ea
    refine ⟨5 + p, nI_add _ _, by omega, ?_⟩
    rw [hM.1 (5 + p) (by omega), hS.2.2.2.2.2.1.1 p hp, ← cur_P hS hp]
    exact DM_rfl hM
theorem J_tried {Z σ : SG} (hI : KI Z) (hC : KC Z σ) (hM : KM Z σ)  : ∃ p, IN_X11_tried AF σ [.ref 0] p ∧ ∀ t r, p t r → ∃ q, IN_X12_tried AF t [.ref 102] q ∧ ∀ t' r', q t' r' → r = r' ∧ KK t' := by
  have hS := hI.1
  refine joint (Z' := Z) (x := aI (tr (Z 104) (cur (Z 104))).2.1) (C := fun s p => IN_X11_tried AF s [.ref 0] p) (M := fun s p => IN_X12_tried AF s [.ref 102] p) hI hM ?_ (fun t hM => ?_)
  · refine ⟨⟨_, _, rfl, rfl, Nat.le_of_ble_eq_true rfl, rc_0⟩, Nat.le_of_ble_eq_true rfl, g_X11_tried_0 ?_⟩
    refine ?_
    rw [show σ 0 12 = nI (cur (Z 104)) from hC.2.2.2.2.2.1]
    refine ⟨fun τ x => x = 0 → TRC (tr (Z 104) (cur (Z 104))) τ ∧ ∀ k, k ≠ 81 → k ≠ 82 → τ k = σ k, ok_tryFrom hS hC.1 hC.2.2.1 hC.2.2.2.2.1 (cur_lt hS) (fun τ a _ c _ => ⟨a, c⟩), fun t ht => ?_⟩
    obtain ⟨h1, h2⟩ := ht rfl
    exact ⟨h1.1, hC.fr hI (fun k hk => h2 k hk.2.2.2.2.2.2.2.1 hk.2.2.2.2.2.2.2.2) (by rw [h2 73 (by decide) (by decide)]), fun k hk => h2 k (by omega) (by omega)⟩
  · refine ⟨⟨_, _, rfl, rfl, Nat.le_of_ble_eq_true rfl, rc_102⟩, Nat.le_of_ble_eq_true rfl, g_X12_tried_0 ?_⟩
    refine ?_
    intro s3 e3 s4 e4 s5 e5 s6 e6 s7 e7 s8 e8
    obtain ⟨h1, h2⟩ := cpNow hS hM.1 115 (by decide) e3 e4 e5 e6 e7 e8
    refine ⟨fun τ x => x = 0 → TRM (tr (Z 104) (cur (Z 104))) τ ∧ GF s8 τ, ok_goesOn hS (hM.1.ms.fr (h2 104 (by decide))) (cur_lt hS) h1 (fun τ a _ c _ => ⟨a, c⟩), fun t2 ht => ?_⟩
    obtain ⟨q1, q2⟩ := ht rfl
    have fin : GF t t2 := ⟨fun k a b c d e => by rw [q2.1 k a b c d e]; exact h2 k c, fun j hj => by rw [q2.2 j hj, h2 102 (by decide)]⟩
    exact ⟨q1.1, hM.gf fin, fun k hk => fin.1 k (by omega) (by omega) (by omega) (by omega) (by omega)⟩
theorem J_solves {Z σ : SG} (hI : KI Z) (hC : KC Z σ) (hM : KM Z σ)  : ∃ p, IN_X11_solves AF σ [.ref 0] p ∧ ∀ t r, p t r → ∃ q, IN_X12_solves AF t [.ref 102] q ∧ ∀ t' r', q t' r' → r = r' ∧ KK t' := by
  have hS := hI.1
  refine joint (Z' := Z) (x := nI (svN (Z 104) 720)) (C := fun s p => IN_X11_solves AF s [.ref 0] p) (M := fun s p => IN_X12_solves AF s [.ref 102] p) hI hM ?_ (fun t hM => ?_)
  · refine ⟨⟨_, _, rfl, rfl, Nat.le_of_ble_eq_true rfl, rc_0⟩, Nat.le_of_ble_eq_true rfl, g_X11_solves_0 ?_⟩
    refine ?_
    refine ⟨fun τ x => x = nI (svN (Z 104) 720) ∧ ∀ k, k ≠ 81 → k ≠ 82 → τ k = σ k, ok_solved hS hC.1 hC.2.2.1 hC.2.2.2.2.1 (fun τ c => ⟨rfl, c⟩), fun t x ht => ?_⟩
    obtain ⟨h1, h2⟩ := ht
    exact ⟨h1, hC.fr hI (fun k hk => h2 k hk.2.2.2.2.2.2.2.1 hk.2.2.2.2.2.2.2.2) (by rw [h2 73 (by decide) (by decide)]), fun k hk => h2 k (by omega) (by omega)⟩
  · refine ⟨⟨_, _, rfl, rfl, Nat.le_of_ble_eq_true rfl, rc_102⟩, Nat.le_of_ble_eq_true rfl, g_X12_solves_0 ?_⟩
    refine ?_
    refine ⟨fun τ x => x = nI (svN (Z 104) 720) ∧ GF t τ, ok_solvesOf hS hM.1.ms (fun τ c => ⟨rfl, c⟩), fun t2 x ht => ?_⟩
    obtain ⟨h1, fin⟩ := ht
    exact ⟨h1, hM.gf fin, fun k hk => fin.1 k (by omega) (by omega) (by omega) (by omega) (by omega)⟩
theorem J_fewest {Z σ : SG} (hI : KI Z) (hC : KC Z σ) (hM : KM Z σ)  : ∃ p, IN_X11_fewest AF σ [.ref 0] p ∧ ∀ t r, p t r → ∃ q, IN_X12_fewest AF t [.ref 102] q ∧ ∀ t' r', q t' r' → r = r' ∧ KK t' := by
  have hS := hI.1
  refine joint (Z' := Z) (x := σ 34 (cur (Z 104))) (C := fun s p => IN_X11_fewest AF s [.ref 0] p) (M := fun s p => IN_X12_fewest AF s [.ref 102] p) hI hM ?_ (fun t hM => ?_)
  · refine ⟨⟨_, _, rfl, rfl, Nat.le_of_ble_eq_true rfl, rc_0⟩, Nat.le_of_ble_eq_true rfl, g_X11_fewest_0 ?_⟩
    refine ?_
    exact ⟨cur (Z 104), hC.2.2.2.2.2.1, cur_lt hS, DC_rfl hC⟩
  · refine ⟨⟨_, _, rfl, rfl, Nat.le_of_ble_eq_true rfl, rc_102⟩, Nat.le_of_ble_eq_true rfl, g_X12_fewest_0 ?_⟩
    refine ?_
    refine ⟨fun τ x => x = 0 → FF t τ ∧ ∀ x, x < 720 → isD (2 * cT (Z 104)) (mo (Z 104)) x (τ 113 x), ok_findFar hS hM.1.ms (fun τ a b _ => ⟨a, b⟩), fun t2 ht => ?_⟩
    obtain ⟨q1, q2⟩ := ht rfl
    have hM2 := hM.ff q1
    have hc := cur_lt hS
    refine ⟨fun τ x => τ = t2 ∧ x = nI (cur (Z 104)), ok_mnumP ia_104 (Nat.le_of_ble_eq_true rfl) (by decide) hc (fun p hp => by rw [hM2.1 (5 + p) (by omega), hS.2.2.2.2.2.1.1 p hp, ← cur_P hS hp]) ⟨rfl, rfl⟩, ?_⟩
    rintro t2 x ⟨rfl, rfl⟩
    exact ⟨cur (Z 104), rfl, hc, isD_uniq (q2 _ hc) (hC.2.1.2.2.2 _ hc), hM2, fun k hk => q1 k (by omega) (by omega) (by omega)⟩
