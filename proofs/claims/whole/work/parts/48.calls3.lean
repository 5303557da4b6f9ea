/-! put, sum, triedRow, rowOf, found -/
theorem arg_pos {v : Int32} {lo n : Nat} (hn : n + 1 < 2 ^ 31) (hl : lo < 2 ^ 31) (h0 : nI lo ≤ v) (h1 : v ≤ nI n) : ∃ j, lo ≤ j ∧ j ≤ n ∧ v = nI j := by
  have a0 := Int32.le_iff_toInt_le.1 h0
  have a1 := Int32.le_iff_toInt_le.1 h1
  rw [nI_toInt hl] at a0
  rw [nI_toInt (by omega)] at a1
  obtain ⟨j, hj, e⟩ := arg_in (v := v) (n := n + 1) hn (fun z => by
    have z := Int32.lt_iff_toInt_lt.1 z
    rw [show (0 : Int32).toInt = 0 by decide] at z
    omega) (fun z => by
    have z := Int32.le_iff_toInt_le.1 z
    rw [nI_toInt hn] at z
    omega)
  rw [e, nI_toInt (by omega)] at a0
  exact ⟨j, by omega, by omega, e⟩
theorem sol_P {Z σ t : SG} (hM : KM Z t) {o : Nat} (h1 : PL σ 104 5 o) (h2 : ∀ j, (j < 5 ∨ 5 + 6 ≤ j) → σ 104 j = t 104 j) (h3 : ∀ k, k ≠ 104 → σ k = t k) : KM (stN Z o) σ := hM.now h1 h2 (fun k a _ => h3 k a)
theorem J_put {Z σ : SG} (hI : KI Z) (hC : KC Z σ) (hM : KM Z σ) (a : Int32) : ∃ p, IN_X11_put AF σ [.ref 0, .int a] p ∧ ∀ t r, p t r → ∃ q, IN_X12_put AF t [.ref 102, .int a] q ∧ ∀ t' r', q t' r' → r = r' ∧ KK t' := by
  by_cases c0 : nI 0 ≤ a
  · by_cases c1 : a ≤ nI 719
    · obtain ⟨o, _, ho, ea⟩ := arg_pos (by decide) (by decide) c0 c1
      have ho7 : o < 720 := by omega
      refine joint (Z' := stN Z o) (x := sol o) (C := fun s p => IN_X11_put AF s [.ref 0, .int a] p) (M := fun s p => IN_X12_put AF s [.ref 102, .int a] p) (hI.now ho7) hM ?_ (fun t hM => ?_)
      · refine ⟨⟨_, _, rfl, rfl, Nat.le_of_ble_eq_true rfl, rc_0⟩, Nat.le_of_ble_eq_true rfl, g_X11_put_0 ⟨fun _ => ⟨fun _ => ?_, fun c => absurd c1 c⟩, fun c => absurd c0 c⟩⟩
        exact DC_now hC hI ho7 ea
      · refine ⟨⟨_, _, rfl, rfl, Nat.le_of_ble_eq_true rfl, rc_102⟩, Nat.le_of_ble_eq_true rfl, g_X12_put_0 ⟨fun _ => ⟨fun _ => ?_, fun c => absurd c1 c⟩, fun c => absurd c0 c⟩⟩
        subst ea
        refine ⟨fun τ x => x = 0 → PL τ 104 5 o ∧ (∀ j, (j < 5 ∨ 5 + 6 ≤ j) → τ 104 j = t 104 j) ∧ ∀ k, k ≠ 104 → τ k = t k, ok_puts ia_104 (Nat.le_of_ble_eq_true rfl) (by decide) ho7 (fun τ a b c _ => ⟨a, b, c⟩), fun t2 ht => ?_⟩
        obtain ⟨h1, h2, h3⟩ := ht rfl
        have k := sol_P hM h1 h2 h3
        rw [nI0_eq (by omega)]
        exact ⟨fun c => ⟨(if_neg c).symm, k, fun k hk => h3 k (by omega)⟩, fun c => ⟨(if_pos c).symm, k, fun k hk => h3 k (by omega)⟩⟩
    · refine joint (Z' := rf Z 6) (x := -6) (C := fun s p => IN_X11_put AF s [.ref 0, .int a] p) (M := fun s p => IN_X12_put AF s [.ref 102, .int a] p) (hI.rf 6) hM ?_ (fun t hM => ?_)
      · exact ⟨⟨_, _, rfl, rfl, Nat.le_of_ble_eq_true rfl, rc_0⟩, Nat.le_of_ble_eq_true rfl, g_X11_put_0 ⟨fun _ => ⟨fun c => absurd c c1, fun _ => DC_rf hC hI (by decide) (by decide)⟩, fun c => absurd c0 c⟩⟩
      · exact ⟨⟨_, _, rfl, rfl, Nat.le_of_ble_eq_true rfl, rc_102⟩, Nat.le_of_ble_eq_true rfl, g_X12_put_0 ⟨fun _ => ⟨fun c => absurd c c1, fun _ => DM_rf hM (by decide)⟩, fun c => absurd c0 c⟩⟩
  · refine joint (Z' := rf Z 4) (x := -4) (C := fun s p => IN_X11_put AF s [.ref 0, .int a] p) (M := fun s p => IN_X12_put AF s [.ref 102, .int a] p) (hI.rf 4) hM ?_ (fun t hM => ?_)
    · exact ⟨⟨_, _, rfl, rfl, Nat.le_of_ble_eq_true rfl, rc_0⟩, Nat.le_of_ble_eq_true rfl, g_X11_put_0 ⟨fun c => absurd c c0, fun _ => DC_rf hC hI (by decide) (by decide)⟩⟩
    · exact ⟨⟨_, _, rfl, rfl, Nat.le_of_ble_eq_true rfl, rc_102⟩, Nat.le_of_ble_eq_true rfl, g_X12_put_0 ⟨fun c => absurd c c0, fun _ => DM_rf hM (by decide)⟩⟩
theorem J_sum {Z σ : SG} (hI : KI Z) (hC : KC Z σ) (hM : KM Z σ) (a : Int32) : ∃ p, IN_X11_sum AF σ [.ref 0, .int a] p ∧ ∀ t r, p t r → ∃ q, IN_X12_sum AF t [.ref 102, .int a] q ∧ ∀ t' r', q t' r' → r = r' ∧ KK t' := by
  have hS := hI.1
  by_cases c0 : nI 50 ≤ a
  · by_cases c1 : a ≤ nI 300
    · obtain ⟨o, _, ho, ea⟩ := arg_pos (by decide) (by decide) c0 c1
      refine joint (Z' := Z) (x := smO (Z 104) o (cur (Z 104))) (C := fun s p => IN_X11_sum AF s [.ref 0, .int a] p) (M := fun s p => IN_X12_sum AF s [.ref 102, .int a] p) hI hM ?_ (fun t hM => ?_)
      · refine ⟨⟨_, _, rfl, rfl, Nat.le_of_ble_eq_true rfl, rc_0⟩, Nat.le_of_ble_eq_true rfl, g_X11_sum_0 ⟨fun _ => ⟨fun _ => ?_, fun c => absurd c1 c⟩, fun c => absurd c0 c⟩⟩
        subst ea
        rw [show σ 0 12 = nI (cur (Z 104)) from hC.2.2.2.2.2.1]
        refine ⟨fun τ x => x = 0 → TRC (tr (Z 104) (cur (Z 104))) τ ∧ ∀ k, k ≠ 81 → k ≠ 82 → τ k = σ k, ok_tryFrom hS hC.1 hC.2.2.1 hC.2.2.2.2.1 (cur_lt hS) (fun τ a _ c _ => ⟨a, c⟩), fun t ht => ?_⟩
        obtain ⟨h1, h2⟩ := ht rfl
        have hC2 := hC.fr (τ := t) hI (fun k hk => h2 k hk.2.2.2.2.2.2.2.1 hk.2.2.2.2.2.2.2.2) (by rw [h2 73 (by decide) (by decide)])
        refine ⟨fun τ x => τ = t ∧ x = smO (Z 104) o (cur (Z 104)), ok_sumOf hS hC2.2.2.1 hC2.2.2.2.1 hC2.2.2.2.2.1 ho (cur_lt hS) h1 ⟨rfl, rfl⟩, ?_⟩
        rintro t x ⟨rfl, rfl⟩
        exact ⟨rfl, hC2, fun k hk => h2 k (by omega) (by omega)⟩
      · refine ⟨⟨_, _, rfl, rfl, Nat.le_of_ble_eq_true rfl, rc_102⟩, Nat.le_of_ble_eq_true rfl, g_X12_sum_0 ⟨fun _ => ⟨fun _ => ?_, fun c => absurd c1 c⟩, fun c => absurd c0 c⟩⟩
        subst ea
        refine ⟨fun τ x => GF t τ ∧ x = smO (Z 104) o (cur (Z 104)), ok_sumBy hS hM.1 ho (fun τ g => ⟨g, rfl⟩), ?_⟩
        rintro t2 x ⟨fin, rfl⟩
        exact ⟨rfl, hM.gf fin, fun k hk => fin.1 k (by omega) (by omega) (by omega) (by omega) (by omega)⟩
    · refine joint (Z' := rf Z 6) (x := -6) (C := fun s p => IN_X11_sum AF s [.ref 0, .int a] p) (M := fun s p => IN_X12_sum AF s [.ref 102, .int a] p) (hI.rf 6) hM ?_ (fun t hM => ?_)
      · exact ⟨⟨_, _, rfl, rfl, Nat.le_of_ble_eq_true rfl, rc_0⟩, Nat.le_of_ble_eq_true rfl, g_X11_sum_0 ⟨fun _ => ⟨fun c => absurd c c1, fun _ => DC_rf hC hI (by decide) (by decide)⟩, fun c => absurd c0 c⟩⟩
      · exact ⟨⟨_, _, rfl, rfl, Nat.le_of_ble_eq_true rfl, rc_102⟩, Nat.le_of_ble_eq_true rfl, g_X12_sum_0 ⟨fun _ => ⟨fun c => absurd c c1, fun _ => DM_rf hM (by decide)⟩, fun c => absurd c0 c⟩⟩
  · refine joint (Z' := rf Z 4) (x := -4) (C := fun s p => IN_X11_sum AF s [.ref 0, .int a] p) (M := fun s p => IN_X12_sum AF s [.ref 102, .int a] p) (hI.rf 4) hM ?_ (fun t hM => ?_)
    · exact ⟨⟨_, _, rfl, rfl, Nat.le_of_ble_eq_true rfl, rc_0⟩, Nat.le_of_ble_eq_true rfl, g_X11_sum_0 ⟨fun c => absurd c c0, fun _ => DC_rf hC hI (by decide) (by decide)⟩⟩
    · exact ⟨⟨_, _, rfl, rfl, Nat.le_of_ble_eq_true rfl, rc_102⟩, Nat.le_of_ble_eq_true rfl, g_X12_sum_0 ⟨fun c => absurd c c0, fun _ => DM_rf hM (by decide)⟩⟩
theorem J_triedRow {Z σ : SG} (hI : KI Z) (hC : KC Z σ) (hM : KM Z σ) (a : Int32) : ∃ p, IN_X11_triedRow AF σ [.ref 0, .int a] p ∧ ∀ t r, p t r → ∃ q, IN_X12_triedRow AF t [.ref 102, .int a] q ∧ ∀ t' r', q t' r' → r = r' ∧ KK t' := by
  have hS := hI.1
  have hK := hS.2.2.1.2
  by_cases c0 : a < 0
  · refine joint (Z' := rf Z 1) (x := -1) (C := fun s p => IN_X11_triedRow AF s [.ref 0, .int a] p) (M := fun s p => IN_X12_triedRow AF s [.ref 102, .int a] p) (hI.rf 1) hM ?_ (fun t hM => ?_)
    · refine ⟨⟨_, _, rfl, rfl, Nat.le_of_ble_eq_true rfl, rc_0⟩, Nat.le_of_ble_eq_true rfl, g_X11_triedRow_0 ?_⟩
      rw [show σ 77 0 = nI (cK (Z 104)) from hC.2.2.2.2.1.1.trans hS.2.2.1.1]
      exact ⟨fun _ => DC_rf hC hI (by decide) (by decide), fun c => absurd c0 c⟩
    · refine ⟨⟨_, _, rfl, rfl, Nat.le_of_ble_eq_true rfl, rc_102⟩, Nat.le_of_ble_eq_true rfl, g_X12_triedRow_0 ?_⟩
      rw [show t 104 2 = nI (cK (Z 104)) from (hM.1 2 (by decide)).trans hS.2.2.1.1]
      exact ⟨fun _ => DM_rf hM (by decide), fun c => absurd c0 c⟩
  by_cases c1 : nI (cK (Z 104)) ≤ a
  · refine joint (Z' := rf Z 1) (x := -1) (C := fun s p => IN_X11_triedRow AF s [.ref 0, .int a] p) (M := fun s p => IN_X12_triedRow AF s [.ref 102, .int a] p) (hI.rf 1) hM ?_ (fun t hM => ?_)
    · refine ⟨⟨_, _, rfl, rfl, Nat.le_of_ble_eq_true rfl, rc_0⟩, Nat.le_of_ble_eq_true rfl, g_X11_triedRow_0 ?_⟩
      rw [show σ 77 0 = nI (cK (Z 104)) from hC.2.2.2.2.1.1.trans hS.2.2.1.1]
      exact ⟨fun c => absurd c c0, fun _ => ⟨fun _ => DC_rf hC hI (by decide) (by decide), fun c => absurd c1 c⟩⟩
    · refine ⟨⟨_, _, rfl, rfl, Nat.le_of_ble_eq_true rfl, rc_102⟩, Nat.le_of_ble_eq_true rfl, g_X12_triedRow_0 ?_⟩
      rw [show t 104 2 = nI (cK (Z 104)) from (hM.1 2 (by decide)).trans hS.2.2.1.1]
      exact ⟨fun c => absurd c c0, fun _ => ⟨fun _ => DM_rf hM (by decide), fun c => absurd c1 c⟩⟩
  obtain ⟨k0, hk0, ea⟩ := arg_in (by omega) c0 c1
  refine joint (Z' := Z) (x := aI ((tr (Z 104) (cur (Z 104))).2.2 k0)) (C := fun s p => IN_X11_triedRow AF s [.ref 0, .int a] p) (M := fun s p => IN_X12_triedRow AF s [.ref 102, .int a] p) hI hM ?_ (fun t hM => ?_)
  · refine ⟨⟨_, _, rfl, rfl, Nat.le_of_ble_eq_true rfl, rc_0⟩, Nat.le_of_ble_eq_true rfl, g_X11_triedRow_0 ?_⟩
    rw [show σ 77 0 = nI (cK (Z 104)) from hC.2.2.2.2.1.1.trans hS.2.2.1.1]
    refine ⟨fun c => absurd c c0, fun _ => ⟨fun c => absurd c c1, fun _ => ?_⟩⟩
    subst ea
    rw [show σ 0 12 = nI (cur (Z 104)) from hC.2.2.2.2.2.1]
    refine ⟨fun τ x => x = 0 → TRC (tr (Z 104) (cur (Z 104))) τ ∧ ∀ k, k ≠ 81 → k ≠ 82 → τ k = σ k, ok_tryFrom hS hC.1 hC.2.2.1 hC.2.2.2.2.1 (cur_lt hS) (fun τ a _ c _ => ⟨a, c⟩), fun t ht => ?_⟩
    obtain ⟨h1, h2⟩ := ht rfl
    exact ⟨k0, rfl, by omega, h1.2 k0 (by omega), hC.fr hI (fun k hk => h2 k hk.2.2.2.2.2.2.2.1 hk.2.2.2.2.2.2.2.2) (by rw [h2 73 (by decide) (by decide)]), fun k hk => h2 k (by omega) (by omega)⟩
  · refine ⟨⟨_, _, rfl, rfl, Nat.le_of_ble_eq_true rfl, rc_102⟩, Nat.le_of_ble_eq_true rfl, g_X12_triedRow_0 ?_⟩
    rw [show t 104 2 = nI (cK (Z 104)) from (hM.1 2 (by decide)).trans hS.2.2.1.1]
    refine ⟨fun c => absurd c c0, fun _ => ⟨fun c => absurd c c1, fun _ => ?_⟩⟩
    subst ea
    intro s3 e3 s4 e4 s5 e5 s6 e6 s7 e7 s8 e8
    obtain ⟨h1, h2⟩ := cpNow hS hM.1 115 (by decide) e3 e4 e5 e6 e7 e8
    refine ⟨fun τ x => x = 0 → TRM (tr (Z 104) (cur (Z 104))) τ ∧ GF s8 τ, ok_goesOn hS (hM.1.ms.fr (h2 104 (by decide))) (cur_lt hS) h1 (fun τ a _ c _ => ⟨a, c⟩), fun t2 ht => ?_⟩
    obtain ⟨q1, q2⟩ := ht rfl
    have fin : GF t t2 := ⟨fun k a b c d e => by rw [q2.1 k a b c d e]; exact h2 k c, fun j hj => by rw [q2.2 j hj, h2 102 (by decide)]⟩
    exact ⟨k0, rfl, by omega, q1.2 k0 (by omega), hM.gf fin, fun k hk => fin.1 k (by omega) (by omega) (by omega) (by omega) (by omega)⟩
