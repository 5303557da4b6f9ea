/-! first -/
theorem le1 {x : Int32} : nI 1 ≤ x ↔ ¬ x ≤ 0 := by
  rw [Int32.le_iff_toInt_le, Int32.le_iff_toInt_le, nI_toInt (by decide), show (0 : Int32).toInt = 0 by decide]
  omega
theorem mfirst {Z σ : SG} (hI : KI Z) (hM : KM Z σ) {D : Nat → Int32} (hD : ∀ x, x < 720 → σ 113 x = D x) {post : SG → Int32 → Prop} :
    ∀ f m, m + f = 2 * cT (Z 104) → ∀ s : SG, FF σ s → s 113 = σ 113 → (∀ τ : SG, FF σ τ → post τ (fsF (2 * cT (Z 104)) (mo (Z 104)) D (cur (Z 104)) f m)) → T_X12_first AF post 28 [.ref 102, .int (D (cur (Z 104))), .int (nI m), dum] [] s := by
  have hS := hI.1
  have hT := hS.1.2
  have e0 : ∀ s : SG, FF σ s → nI 2 * s 104 0 = nI (2 * cT (Z 104)) := fun s h => by rw [h 104 (by decide) (by decide) (by decide), hM.1 0 (by decide), hS.1.1, pk_mul]
  intro f
  induction f with
  | zero =>
    intro m hm s h1 h2 K
    apply g_X12_first_28
    rw [e0 s h1]
    exact ⟨fun _ => K s h1, fun c => absurd (nI_le (show 2 * cT (Z 104) ≤ m by omega) (by omega)) c⟩
  | succ f ih =>
    intro m hm s h1 h2 K
    have hm2 : m < 2 * cT (Z 104) := by omega
    have hx := mo_lt hS hm2 (cur_lt hS)
    have hF : FS (Z 104) s := (hM.ff h1).1
    apply g_X12_first_28
    rw [e0 s h1]
    refine ⟨fun c => absurd c (nI_ge hm2 (by omega)), fun _ => ?_⟩
    intro s3 e3 s4 e4 s5 e5 s6 e6 s7 e7 s8 e8
    obtain ⟨g1, g2⟩ := cpNow hS hF 114 (by decide) e3 e4 e5 e6 e7 e8
    refine ⟨fun τ x => x = 0 → PL τ 114 0 (mo (Z 104) m (cur (Z 104))) ∧ ∀ k', k' ≠ 114 → k' ≠ 108 → τ k' = s8 k', ok_makes hS (hF.ms.fr (g2 104 (by decide))) ia_114 (Nat.le_of_ble_eq_true rfl) (by decide) (by decide) hm2 (fun τ a _ d _ => ⟨PL_mo hS (cur_lt hS) hm2 g1 a, d⟩), fun t9 ht => ?_⟩
    obtain ⟨q1, q2⟩ := ht rfl
    refine ⟨fun τ x => τ = t9 ∧ x = nI (mo (Z 104) m (cur (Z 104))), ok_mnumP ia_114 (Nat.le_of_ble_eq_true rfl) (by decide) hx q1 ⟨rfl, rfl⟩, ?_⟩
    rintro t9 x ⟨rfl, rfl⟩
    have ft : FF σ t9 := fun k a b c => by rw [q2 k c a, g2 k c]; exact h1 k a b c
    have e113 : t9 113 = σ 113 := by rw [q2 113 (by decide) (by decide), g2 113 (by decide), h2]
    refine ⟨_, rfl, hx, ?_⟩
    rw [e113, hD _ hx]
    refine ⟨fun c => ih (m + 1) (by omega) t9 ft e113 (fun τ h => ?_), fun c => ?_⟩
    · have := K τ h
      rw [fsF, if_neg c] at this
      exact this
    · have := K t9 ft
      rw [fsF, if_pos c] at this
      exact this
theorem J_first {Z σ : SG} (hI : KI Z) (hC : KC Z σ) (hM : KM Z σ)  : ∃ p, IN_X11_first AF σ [.ref 0] p ∧ ∀ t r, p t r → ∃ q, IN_X12_first AF t [.ref 102] q ∧ ∀ t' r', q t' r' → r = r' ∧ KK t' := by
  have hS := hI.1
  refine joint (Z' := Z) (x := fst (2 * cT (Z 104)) (mo (Z 104)) (σ 34) (cur (Z 104))) (C := fun s p => IN_X11_first AF s [.ref 0] p) (M := fun s p => IN_X12_first AF s [.ref 102] p) hI hM ?_ (fun t hM => ?_)
  · refine ⟨⟨_, _, rfl, rfl, Nat.le_of_ble_eq_true rfl, rc_0⟩, Nat.le_of_ble_eq_true rfl, g_X11_first_0 ?_⟩
    refine ?_
    rw [show σ 0 12 = nI (cur (Z 104)) from hC.2.2.2.2.2.1]
    refine ⟨fun τ x => τ = σ ∧ x = fst (2 * cT (Z 104)) (mo (Z 104)) (σ 34) (cur (Z 104)), ok_firstT hS hC.2.1 (cur_lt hS) ⟨rfl, rfl⟩, ?_⟩
    rintro t x ⟨rfl, rfl⟩
    exact DC_rfl hC
  · refine ⟨⟨_, _, rfl, rfl, Nat.le_of_ble_eq_true rfl, rc_102⟩, Nat.le_of_ble_eq_true rfl, g_X12_first_0 ?_⟩
    refine ?_
    refine ⟨fun τ x => x = 0 → FF t τ ∧ ∀ x, x < 720 → isD (2 * cT (Z 104)) (mo (Z 104)) x (τ 113 x), ok_findFar hS hM.1.ms (fun τ a b _ => ⟨a, b⟩), fun t2 ht => ?_⟩
    obtain ⟨q1, q2⟩ := ht rfl
    have hM2 := hM.ff q1
    have hc := cur_lt hS
    have hD : ∀ x, x < 720 → t2 113 x = σ 34 x := fun x hx => isD_uniq (q2 x hx) (hC.2.1.2.2.2 x hx)
    refine ⟨fun τ x => τ = t2 ∧ x = nI (cur (Z 104)), ok_mnumP ia_104 (Nat.le_of_ble_eq_true rfl) (by decide) hc (now_PL hS hM2) ⟨rfl, rfl⟩, ?_⟩
    rintro t2 x ⟨rfl, rfl⟩
    refine ⟨cur (Z 104), rfl, hc, ?_⟩
    rw [hD _ hc, le1]
    refine ⟨fun c => mfirst hI hM2 hD (2 * cT (Z 104)) 0 (Nat.zero_add _) t2 (fun _ _ _ _ => rfl) rfl (fun τ h => ⟨?_, hM2.ff h, fun k hk => by rw [h k (by omega) (by omega) (by omega), q1 k (by omega) (by omega) (by omega)]⟩), fun c => ⟨?_, hM2, fun k hk => q1 k (by omega) (by omega) (by omega)⟩⟩
    · rw [fst, if_neg c]
    · rw [fst, if_pos (Classical.not_not.mp c)]
