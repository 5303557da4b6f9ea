/-! found, rowOf -/
def fdX (Z : SG) (a : Int32) : Int32 := if a = -1 then Z 102 14 else if a < 0 then -9 else if Z 102 14 ≤ a then -9 else Z 109 (na a)
theorem J_found {Z σ : SG} (hI : KI Z) (hC : KC Z σ) (hM : KM Z σ) (a : Int32) : ∃ p, IN_X11_found AF σ [.ref 0, .int a] p ∧ ∀ t r, p t r → ∃ q, IN_X12_found AF t [.ref 102, .int a] q ∧ ∀ t' r', q t' r' → r = r' ∧ KK t' := by
  have hF := hI.2.2.2.1
  have h7 := hC.2.2.2.2.2.2.1
  have arg : ¬ a < 0 → ¬ Z 102 14 ≤ a → ∃ j, j < na (Z 102 14) ∧ a = nI j := fun c1 c2 => arg_in (by omega) c1 (by rw [← hF.1]; exact c2)
  refine joint (Z' := Z) (x := fdX Z a) (C := fun s p => IN_X11_found AF s [.ref 0, .int a] p) (M := fun s p => IN_X12_found AF s [.ref 102, .int a] p) hI hM ?_ (fun t hM => ?_)
  · refine ⟨⟨_, _, rfl, rfl, Nat.le_of_ble_eq_true rfl, rc_0⟩, Nat.le_of_ble_eq_true rfl, g_X11_found_0 ?_⟩
    rw [h7.1]
    refine ⟨fun c => ⟨fun c1 => ⟨by rw [fdX, if_neg c, if_pos c1], hC, fun _ _ => rfl⟩, fun c1 => ⟨fun c2 => ⟨by rw [fdX, if_neg c, if_neg c1, if_pos c2], hC, fun _ _ => rfl⟩, fun c2 => ?_⟩⟩, fun c => ⟨by rw [fdX, if_pos c], hC, fun _ _ => rfl⟩⟩
    obtain ⟨j, hj, e⟩ := arg c1 c2
    refine ⟨j, e, by omega, ?_, hC, fun _ _ => rfl⟩
    rw [fdX, if_neg c, if_neg c1, if_neg c2, h7.2 j hj, e, na_nI (by omega)]
  · refine ⟨⟨_, _, rfl, rfl, Nat.le_of_ble_eq_true rfl, rc_102⟩, Nat.le_of_ble_eq_true rfl, g_X12_found_0 ?_⟩
    rw [hM.2.2.2.1.2.2.1]
    refine ⟨fun c => ⟨fun c1 => ⟨by rw [fdX, if_neg c, if_pos c1], hM, fun _ _ => rfl⟩, fun c1 => ⟨fun c2 => ⟨by rw [fdX, if_neg c, if_neg c1, if_pos c2], hM, fun _ _ => rfl⟩, fun c2 => ?_⟩⟩, fun c => ⟨by rw [fdX, if_pos c], hM, fun _ _ => rfl⟩⟩
    obtain ⟨j, hj, e⟩ := arg c1 c2
    refine ⟨j, e, by omega, ?_, hM, fun _ _ => rfl⟩
    rw [fdX, if_neg c, if_neg c1, if_neg c2, hM.2.2.2.2.2.1 j hj, e, na_nI (by omega)]
def roX (S : Nat → Int32) (r : Nat) (b : Int32) : Int32 := if b = -1 then nI (ln S r) else if b < 0 then -9 else if nI (ln S r) ≤ b then -9 else nI (mv S r (na b))
theorem J_rowOf {Z σ : SG} (hI : KI Z) (hC : KC Z σ) (hM : KM Z σ) (a b : Int32) : ∃ p, IN_X11_rowOf AF σ [.ref 0, .int a, .int b] p ∧ ∀ t r, p t r → ∃ q, IN_X12_rowOf AF t [.ref 102, .int a, .int b] q ∧ ∀ t' r', q t' r' → r = r' ∧ KK t' := by
  have hS := hI.1
  have hR := hS.2.1.2
  have hT := hS.1.2
  by_cases c0 : a < 0
  · refine joint (Z' := rf Z 1) (x := -1) (C := fun s p => IN_X11_rowOf AF s [.ref 0, .int a, .int b] p) (M := fun s p => IN_X12_rowOf AF s [.ref 102, .int a, .int b] p) (hI.rf 1) hM ?_ (fun t hM => ?_)
    · refine ⟨⟨_, _, rfl, rfl, Nat.le_of_ble_eq_true rfl, rc_0⟩, Nat.le_of_ble_eq_true rfl, g_X11_rowOf_0 ?_⟩
      rw [show σ 36 0 = nI (cR (Z 104)) from hC.2.2.1.1.trans hS.2.1.1]
      exact ⟨fun _ => DC_rf hC hI (by decide) (by decide), fun c => absurd c0 c⟩
    · refine ⟨⟨_, _, rfl, rfl, Nat.le_of_ble_eq_true rfl, rc_102⟩, Nat.le_of_ble_eq_true rfl, g_X12_rowOf_0 ?_⟩
      rw [show t 104 1 = nI (cR (Z 104)) from (hM.1 1 (by decide)).trans hS.2.1.1]
      exact ⟨fun _ => DM_rf hM (by decide), fun c => absurd c0 c⟩
  by_cases c1 : nI (cR (Z 104)) ≤ a
  · refine joint (Z' := rf Z 1) (x := -1) (C := fun s p => IN_X11_rowOf AF s [.ref 0, .int a, .int b] p) (M := fun s p => IN_X12_rowOf AF s [.ref 102, .int a, .int b] p) (hI.rf 1) hM ?_ (fun t hM => ?_)
    · refine ⟨⟨_, _, rfl, rfl, Nat.le_of_ble_eq_true rfl, rc_0⟩, Nat.le_of_ble_eq_true rfl, g_X11_rowOf_0 ?_⟩
      rw [show σ 36 0 = nI (cR (Z 104)) from hC.2.2.1.1.trans hS.2.1.1]
      exact ⟨fun c => absurd c c0, fun _ => ⟨fun _ => DC_rf hC hI (by decide) (by decide), fun c => absurd c1 c⟩⟩
    · refine ⟨⟨_, _, rfl, rfl, Nat.le_of_ble_eq_true rfl, rc_102⟩, Nat.le_of_ble_eq_true rfl, g_X12_rowOf_0 ?_⟩
      rw [show t 104 1 = nI (cR (Z 104)) from (hM.1 1 (by decide)).trans hS.2.1.1]
      exact ⟨fun c => absurd c c0, fun _ => ⟨fun _ => DM_rf hM (by decide), fun c => absurd c1 c⟩⟩
  obtain ⟨r, hr, ea⟩ := arg_in (by omega) c0 c1
  have l8 := hS.2.2.2.2.1 r hr
  refine joint (Z' := Z) (x := roX (Z 104) r b) (C := fun s p => IN_X11_rowOf AF s [.ref 0, .int a, .int b] p) (M := fun s p => IN_X12_rowOf AF s [.ref 102, .int a, .int b] p) hI hM ?_ (fun t hM => ?_)
  · refine ⟨⟨_, _, rfl, rfl, Nat.le_of_ble_eq_true rfl, rc_0⟩, Nat.le_of_ble_eq_true rfl, g_X11_rowOf_0 ?_⟩
    rw [show σ 36 0 = nI (cR (Z 104)) from hC.2.2.1.1.trans hS.2.1.1]
    refine ⟨fun c => absurd c c0, fun _ => ⟨fun c => absurd c c1, fun _ => ?_⟩⟩
    subst ea
    have w := hC.2.2.1.2 r hr
    refine ⟨fun c => ⟨fun c1 => ⟨by rw [roX, if_neg c, if_pos c1], hC, fun _ _ => rfl⟩, fun c1 => ⟨r, rfl, by omega, ?_⟩⟩, fun c => ⟨r, rfl, by omega, by rw [roX, if_pos c]; exact w.1, hC, fun _ _ => rfl⟩⟩
    rw [w.1]
    refine ⟨fun c2 => ⟨by rw [roX, if_neg c, if_neg c1, if_pos c2], hC, fun _ _ => rfl⟩, fun c2 => ?_⟩
    obtain ⟨i, hi, e⟩ := arg_in (by omega) c1 c2
    refine ⟨r, rfl, by omega, i, e, by omega, ?_, hC, fun _ _ => rfl⟩
    rw [roX, if_neg c, if_neg c1, if_neg c2, w.2.1 i hi, e, na_nI (by omega)]
  · refine ⟨⟨_, _, rfl, rfl, Nat.le_of_ble_eq_true rfl, rc_102⟩, Nat.le_of_ble_eq_true rfl, g_X12_rowOf_0 ?_⟩
    rw [show t 104 1 = nI (cR (Z 104)) from (hM.1 1 (by decide)).trans hS.2.1.1]
    refine ⟨fun c => absurd c c0, fun _ => ⟨fun c => absurd c c1, fun _ => ?_⟩⟩
    subst ea
    have w : t 104 (95 + 9 * r) = nI (ln (Z 104) r) := by rw [hM.1 _ (by omega)]; exact l8.1
    have ix : nI 95 + nI 9 * nI r = nI (95 + 9 * r) := by rw [pk_mul, nI_add]
    refine ⟨fun c => ⟨95 + 9 * r, ix, by omega, fun c1 => ⟨by rw [roX, if_neg c, if_pos c1], hM, fun _ _ => rfl⟩, fun c1 => ?_⟩, fun c => ⟨95 + 9 * r, ix, by omega, by rw [roX, if_pos c]; exact w, hM, fun _ _ => rfl⟩⟩
    rw [w]
    refine ⟨fun c2 => ⟨by rw [roX, if_neg c, if_neg c1, if_pos c2], hM, fun _ _ => rfl⟩, fun c2 => ?_⟩
    obtain ⟨i, hi, e⟩ := arg_in (by omega) c1 c2
    refine ⟨95 + 9 * r + 1 + i, by rw [ix, e, nI_add, nI_add], by omega, ?_, hM, fun _ _ => rfl⟩
    rw [roX, if_neg c, if_neg c1, if_neg c2, hM.1 _ (by omega), (l8.2.2.2 i hi).1, e, na_nI (by omega)]
