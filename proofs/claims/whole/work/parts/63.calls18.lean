/-! image, on -/
theorem cpy_at {σ : SG} {k0 k1 t j : Nat} (h : j < t) : cpy σ k0 0 k1 0 t k1 j = σ k0 j := by
  unfold cpy
  rw [if_pos ⟨rfl, Nat.zero_le _, by omega⟩, Nat.zero_add, Nat.sub_zero]
theorem PXI.rf (S : Nat → Int32) : PXI S S := ⟨Nat.le_refl _, Nat.le_refl _, Nat.le_refl _, fun _ _ _ _ => rfl, fun _ _ _ _ => rfl, fun _ _ => ⟨rfl, rfl⟩⟩
def stI (Z : SG) : SG := fun k j => if k = 102 ∧ j = 3 then nI 1 else if k = 105 then Z 104 j else Z k j
theorem stI_k {Z : SG} {k : Nat} (h : k ≠ 102) (h2 : k ≠ 105) : stI Z k = Z k := funext fun j => by
  unfold stI
  rw [if_neg (fun z => h z.1), if_neg h2]
theorem stI_2 {Z : SG} {j : Nat} (h : j ≠ 3) : stI Z 102 j = Z 102 j := by
  unfold stI
  rw [if_neg (fun z => h z.2), if_neg (by decide)]
theorem stI_3 {Z : SG} : stI Z 102 3 = nI 1 := if_pos ⟨rfl, rfl⟩
theorem stI_5 {Z : SG} : stI Z 105 = Z 104 := funext fun j => by
  unfold stI
  rw [if_neg (fun z => absurd z.1 (by decide)), if_pos rfl]
theorem KI.img {Z : SG} (hI : KI Z) : KI (stI Z) := by
  unfold KI
  rw [stI_k (k := 104) (by decide) (by decide), stI_k (k := 106) (by decide) (by decide), stI_k (k := 118) (by decide) (by decide), stI_k (k := 119) (by decide) (by decide), stI_2 (j := 6) (by decide), stI_2 (j := 14) (by decide), stI_2 (j := 24) (by decide), stI_2 (j := 26) (by decide), stI_5, stI_3]
  exact ⟨hI.1, Or.inr ⟨rfl, hI.1, PXI.rf _⟩, hI.2.2⟩
theorem KC.img {Z σ τ : SG} (hC : KC Z σ) (hI : KI Z) (F : ∀ x, x < 87 ∨ 101 ≤ x → τ x = σ x) (h : KP (stI Z) τ) : KC (stI Z) τ := by
  obtain ⟨g1, g2, g3, g4, g5, g6, g7, g8, g9, g10, g11, g12⟩ := hC
  have hS := hI.1
  refine ⟨?_, ?_, ?_, ?_, ?_, ?_, ?_, ?_, ?_, ?_, h, ?_⟩
  · exact g1.fr (fun k a b => F k (by omega))
  · rw [stI_k (by decide) (by decide)]; exact g2.fr hS (fun k a b => F k (by omega))
  · rw [stI_k (by decide) (by decide)]; exact g3.fr hS (fun k a b => F k (by omega))
  · rw [stI_k (by decide) (by decide)]; exact g4.fr (fun k a b => F k (by omega))
  · rw [stI_k (by decide) (by decide)]; exact g5.fr (fun k a b => F k (by omega))
  · unfold CN_; rw [stI_k (by decide) (by decide), F 0 (by decide)]; exact g6
  · unfold KF; rw [stI_2 (by decide), stI_k (by decide) (by decide), F 73 (by decide), F 74 (by decide)]; exact g7
  · unfold KT; rw [stI_2 (by decide), stI_k (by decide) (by decide), F 1 (by decide), F 2 (by decide)]; exact g8
  · unfold KV; rw [stI_2 (by decide), stI_k (by decide) (by decide), F 83 (by decide), F 84 (by decide)]; exact g9
  · unfold KL; rw [stI_2 (by decide), stI_k (by decide) (by decide), F 85 (by decide), F 86 (by decide)]; exact g10
  · unfold KR; rw [stI_k (by decide) (by decide), F 101 (by decide)]; exact g12
theorem KM.img {Z σ τ : SG} (hM : KM Z σ) (h5 : ∀ j, j < 197 → τ 105 j = σ 104 j) (F : ∀ x, 103 ≤ x → x ≠ 105 → τ x = σ x) (F2 : ∀ j, j ≠ 3 → τ 102 j = σ 102 j) (e3 : τ 102 3 = nI 1) : KM (stI Z) τ := by
  obtain ⟨g1, g2, g3, g4, g5, g6, g7, g8⟩ := hM
  unfold KM FS
  rw [stI_k (k := 103) (by decide) (by decide), stI_k (k := 104) (by decide) (by decide), stI_k (k := 106) (by decide) (by decide), stI_k (k := 109) (by decide) (by decide), stI_k (k := 118) (by decide) (by decide), stI_k (k := 119) (by decide) (by decide), stI_2 (j := 6) (by decide), stI_2 (j := 14) (by decide), stI_2 (j := 24) (by decide), stI_2 (j := 26) (by decide), stI_5, stI_3, F 103 (by decide) (by decide), F 104 (by decide) (by decide), F 106 (by decide) (by decide), F 109 (by decide) (by decide), F 118 (by decide) (by decide), F 119 (by decide) (by decide), F2 6 (by decide), F2 14 (by decide), F2 24 (by decide), F2 26 (by decide)]
  exact ⟨g1, fun j hj => (h5 j hj).trans (g1 j hj), g3, ⟨e3, g4.2⟩, g5, g6, g7, g8⟩
theorem mimage {σ : SG} {post : SG → Int32 → Prop} (K : ∀ τ : SG, (∀ j, j < 197 → τ 105 j = σ 104 j) → (∀ x, x ≠ 105 → τ x = σ x) → ∀ s, s = up τ 102 3 (nI 1) → post s (s 104 1)) :
    ∀ f k, k + f = 197 → ∀ τ : SG, (∀ j, j < k → τ 105 j = σ 104 j) → (∀ x, x ≠ 105 → τ x = σ x) → T_X12_image AF post 2 [.ref 102, .int (nI k)] [] τ := by
  intro f
  induction f with
  | zero =>
    intro k hk τ h1 h2
    obtain rfl : k = 197 := by omega
    apply g_X12_image_2
    exact ⟨by decide, fun _ => K τ h1 h2, fun c => absurd c (by decide)⟩
  | succ f ih =>
    intro k hk τ h1 h2
    apply g_X12_image_2
    refine ⟨by omega, fun c => absurd c (by omega), fun _ => ⟨by omega, by omega, fun s es => ih (k + 1) (by omega) s (fun j hj => ?_) (fun x hx => by rw [es, up_k hx]; exact h2 x hx)⟩⟩
    rw [es]
    by_cases d : j = k
    · rw [d, up_s, h2 104 (by decide)]
    · rw [up_j d]; exact h1 j (by omega)
theorem mon {σ : SG} {post : SG → Int32 → Prop} (K : ∀ τ : SG, (∀ j, j < 197 → τ 104 j = σ 105 j) → (∀ x, x ≠ 104 → τ x = σ x) → post τ (τ 104 1)) :
    ∀ f k, k + f = 197 → ∀ τ : SG, (∀ j, j < k → τ 104 j = σ 105 j) → (∀ x, x ≠ 104 → τ x = σ x) → T_X12_on AF post 16 [.ref 102, .int (nI k)] [] τ := by
  intro f
  induction f with
  | zero =>
    intro k hk τ h1 h2
    obtain rfl : k = 197 := by omega
    apply g_X12_on_16
    exact ⟨by decide, fun _ => K τ h1 h2, fun c => absurd c (by decide)⟩
  | succ f ih =>
    intro k hk τ h1 h2
    apply g_X12_on_16
    refine ⟨by omega, fun c => absurd c (by omega), fun _ => ⟨by omega, by omega, fun s es => ih (k + 1) (by omega) s (fun j hj => ?_) (fun x hx => by rw [es, up_k hx]; exact h2 x hx)⟩⟩
    rw [es]
    by_cases d : j = k
    · rw [d, up_s, h2 105 (by decide)]
    · rw [up_j d]; exact h1 j (by omega)
theorem J_image {Z σ : SG} (hI : KI Z) (hC : KC Z σ) (hM : KM Z σ)  : ∃ p, IN_X11_image AF σ [.ref 0] p ∧ ∀ t r, p t r → ∃ q, IN_X12_image AF t [.ref 102] q ∧ ∀ t' r', q t' r' → r = r' ∧ KK t' := by
  have hS := hI.1
  refine joint (Z' := stI Z) (x := Z 104 1) (C := fun s p => IN_X11_image AF s [.ref 0] p) (M := fun s p => IN_X12_image AF s [.ref 102] p) hI.img hM ?_ (fun t hM => ?_)
  · refine ⟨⟨_, _, rfl, rfl, Nat.le_of_ble_eq_true rfl, rc_0⟩, Nat.le_of_ble_eq_true rfl, g_X11_image_0 ?_⟩
    refine ?_
    intro s1 e1 s2 e2 s3 e3 s4 e4 s5 e5 s8 e8 s9 e9 s10 e10 s11 e11 s12 e12 s13 e13 s14 e14 s15 e15 s16 e16 s17 e17
    have F : ∀ x, x < 87 ∨ 101 ≤ x → s17 x = σ x := fun x hx => by rw [e17, cpy_k (by omega), e16, cpy_k (by omega), e15, cpy_k (by omega), e14, cpy_k (by omega), e13, cpy_k (by omega), e12, cpy_k (by omega), e11, cpy_k (by omega), e10, cpy_k (by omega), e9, cpy_k (by omega), e8, cpy_k (by omega), e5, up_k (by omega), e4, up_k (by omega), e3, up_k (by omega), e2, up_k (by omega), e1, up_k (by omega)]
    have p0 : s17 87 0 = nI 1 := by rw [e17, cpy_k (by decide), e16, cpy_k (by decide), e15, cpy_k (by decide), e14, cpy_k (by decide), e13, cpy_k (by decide), e12, cpy_k (by decide), e11, cpy_k (by decide), e10, cpy_k (by decide), e9, cpy_k (by decide), e8, cpy_k (by decide), e5, up_j (by decide), e4, up_j (by decide), e3, up_j (by decide), e2, up_j (by decide), e1, up_s]
    have p1 : s17 87 1 = σ 7 0 := by rw [e17, cpy_k (by decide), e16, cpy_k (by decide), e15, cpy_k (by decide), e14, cpy_k (by decide), e13, cpy_k (by decide), e12, cpy_k (by decide), e11, cpy_k (by decide), e10, cpy_k (by decide), e9, cpy_k (by decide), e8, cpy_k (by decide), e5, up_j (by decide), e4, up_j (by decide), e3, up_j (by decide), e2, up_s, e1, up_k (by decide)]
    have p2 : s17 87 2 = σ 36 0 := by rw [e17, cpy_k (by decide), e16, cpy_k (by decide), e15, cpy_k (by decide), e14, cpy_k (by decide), e13, cpy_k (by decide), e12, cpy_k (by decide), e11, cpy_k (by decide), e10, cpy_k (by decide), e9, cpy_k (by decide), e8, cpy_k (by decide), e5, up_j (by decide), e4, up_j (by decide), e3, up_s, e2, up_k (by decide), e1, up_k (by decide)]
    have p3 : s17 87 3 = σ 77 0 := by rw [e17, cpy_k (by decide), e16, cpy_k (by decide), e15, cpy_k (by decide), e14, cpy_k (by decide), e13, cpy_k (by decide), e12, cpy_k (by decide), e11, cpy_k (by decide), e10, cpy_k (by decide), e9, cpy_k (by decide), e8, cpy_k (by decide), e5, up_j (by decide), e4, up_s, e3, up_k (by decide), e2, up_k (by decide), e1, up_k (by decide)]
    have p4 : s17 87 4 = σ 0 12 := by rw [e17, cpy_k (by decide), e16, cpy_k (by decide), e15, cpy_k (by decide), e14, cpy_k (by decide), e13, cpy_k (by decide), e12, cpy_k (by decide), e11, cpy_k (by decide), e10, cpy_k (by decide), e9, cpy_k (by decide), e8, cpy_k (by decide), e5, up_s, e4, up_k (by decide), e3, up_k (by decide), e2, up_k (by decide), e1, up_k (by decide)]
    have q90 : ∀ j, j < 6 → s17 90 j = σ 63 j := fun j hj => by rw [e17, cpy_k (by decide), e16, cpy_k (by decide), e15, cpy_k (by decide), e14, cpy_k (by decide), e13, cpy_k (by decide), e12, cpy_k (by decide), e11, cpy_k (by decide), e10, cpy_k (by decide), e9, cpy_k (by decide), e8, cpy_at (by omega), e5, up_k (by decide), e4, up_k (by decide), e3, up_k (by decide), e2, up_k (by decide), e1, up_k (by decide)]
    have q91 : ∀ j, j < 6 → s17 91 j = σ 64 j := fun j hj => by rw [e17, cpy_k (by decide), e16, cpy_k (by decide), e15, cpy_k (by decide), e14, cpy_k (by decide), e13, cpy_k (by decide), e12, cpy_k (by decide), e11, cpy_k (by decide), e10, cpy_k (by decide), e9, cpy_at (by omega), e8, cpy_k (by decide), e5, up_k (by decide), e4, up_k (by decide), e3, up_k (by decide), e2, up_k (by decide), e1, up_k (by decide)]
    have q93 : ∀ j, j < 6 → s17 93 j = σ 66 j := fun j hj => by rw [e17, cpy_k (by decide), e16, cpy_k (by decide), e15, cpy_k (by decide), e14, cpy_k (by decide), e13, cpy_k (by decide), e12, cpy_k (by decide), e11, cpy_k (by decide), e10, cpy_at (by omega), e9, cpy_k (by decide), e8, cpy_k (by decide), e5, up_k (by decide), e4, up_k (by decide), e3, up_k (by decide), e2, up_k (by decide), e1, up_k (by decide)]
    have q94 : ∀ j, j < 6 → s17 94 j = σ 67 j := fun j hj => by rw [e17, cpy_k (by decide), e16, cpy_k (by decide), e15, cpy_k (by decide), e14, cpy_k (by decide), e13, cpy_k (by decide), e12, cpy_k (by decide), e11, cpy_at (by omega), e10, cpy_k (by decide), e9, cpy_k (by decide), e8, cpy_k (by decide), e5, up_k (by decide), e4, up_k (by decide), e3, up_k (by decide), e2, up_k (by decide), e1, up_k (by decide)]
    have q95 : ∀ j, j < 6 → s17 95 j = σ 68 j := fun j hj => by rw [e17, cpy_k (by decide), e16, cpy_k (by decide), e15, cpy_k (by decide), e14, cpy_k (by decide), e13, cpy_k (by decide), e12, cpy_at (by omega), e11, cpy_k (by decide), e10, cpy_k (by decide), e9, cpy_k (by decide), e8, cpy_k (by decide), e5, up_k (by decide), e4, up_k (by decide), e3, up_k (by decide), e2, up_k (by decide), e1, up_k (by decide)]
    have q96 : ∀ j, j < 6 → s17 96 j = σ 69 j := fun j hj => by rw [e17, cpy_k (by decide), e16, cpy_k (by decide), e15, cpy_k (by decide), e14, cpy_k (by decide), e13, cpy_at (by omega), e12, cpy_k (by decide), e11, cpy_k (by decide), e10, cpy_k (by decide), e9, cpy_k (by decide), e8, cpy_k (by decide), e5, up_k (by decide), e4, up_k (by decide), e3, up_k (by decide), e2, up_k (by decide), e1, up_k (by decide)]
    have q97 : ∀ j, j < 6 → s17 97 j = σ 70 j := fun j hj => by rw [e17, cpy_k (by decide), e16, cpy_k (by decide), e15, cpy_k (by decide), e14, cpy_at (by omega), e13, cpy_k (by decide), e12, cpy_k (by decide), e11, cpy_k (by decide), e10, cpy_k (by decide), e9, cpy_k (by decide), e8, cpy_k (by decide), e5, up_k (by decide), e4, up_k (by decide), e3, up_k (by decide), e2, up_k (by decide), e1, up_k (by decide)]
    have q98 : ∀ j, j < 6 → s17 98 j = σ 71 j := fun j hj => by rw [e17, cpy_k (by decide), e16, cpy_k (by decide), e15, cpy_at (by omega), e14, cpy_k (by decide), e13, cpy_k (by decide), e12, cpy_k (by decide), e11, cpy_k (by decide), e10, cpy_k (by decide), e9, cpy_k (by decide), e8, cpy_k (by decide), e5, up_k (by decide), e4, up_k (by decide), e3, up_k (by decide), e2, up_k (by decide), e1, up_k (by decide)]
    have q99 : ∀ j, j < 2 → s17 99 j = σ 72 j := fun j hj => by rw [e17, cpy_k (by decide), e16, cpy_at (by omega), e15, cpy_k (by decide), e14, cpy_k (by decide), e13, cpy_k (by decide), e12, cpy_k (by decide), e11, cpy_k (by decide), e10, cpy_k (by decide), e9, cpy_k (by decide), e8, cpy_k (by decide), e5, up_k (by decide), e4, up_k (by decide), e3, up_k (by decide), e2, up_k (by decide), e1, up_k (by decide)]
    have q100 : ∀ j, j < 4 → s17 100 j = σ 80 j := fun j hj => by rw [e17, cpy_at (by omega), e16, cpy_k (by decide), e15, cpy_k (by decide), e14, cpy_k (by decide), e13, cpy_k (by decide), e12, cpy_k (by decide), e11, cpy_k (by decide), e10, cpy_k (by decide), e9, cpy_k (by decide), e8, cpy_k (by decide), e5, up_k (by decide), e4, up_k (by decide), e3, up_k (by decide), e2, up_k (by decide), e1, up_k (by decide)]
    have q92 : ∀ t j, t < 6 → j < 6 → s17 (92 + 1 + t) j = σ (65 + 1 + t) j := fun t j ht hj => by
      rcases lt6 ht with rfl | rfl | rfl | rfl | rfl | rfl
      · exact q93 j hj
      · exact q94 j hj
      · exact q95 j hj
      · exact q96 j hj
      · exact q97 j hj
      · exact q98 j hj
    have hH := hC.2.2.2.1
    refine ⟨by rw [F 36 (by decide)]; exact hC.2.2.1.1, hC.img hI F ⟨by rw [p0, stI_3], fun _ => ?_⟩, fun k hk => F k (by omega)⟩
    rw [stI_5, p1, p2, p3, p4]
    refine ⟨hC.2.1.1, hC.2.2.1.1, hC.2.2.2.2.1.1, hC.2.2.2.2.2.1, fun t ht => ⟨(q90 t ht).trans (hH.1 t ht).1, (q91 t ht).trans (hH.1 t ht).2.1, fun c hc => (q92 t c ht hc).trans ((hH.1 t ht).2.2 c hc)⟩, (q99 0 (by decide)).trans hH.2.1, (q99 1 (by decide)).trans hH.2.2, fun k hk => ?_⟩
    have hK := hS.2.2.1.2
    rw [q100 k (by omega)]
    exact (hC.2.2.2.2.1.2 k hk).2.2
  · refine ⟨⟨_, _, rfl, rfl, Nat.le_of_ble_eq_true rfl, rc_102⟩, Nat.le_of_ble_eq_true rfl, g_X12_image_0 ?_⟩
    refine ?_
    refine mimage (fun τ h1 h2 s es => ?_) 197 0 rfl t (fun j hj => absurd hj (Nat.not_lt_zero _)) (fun _ _ => rfl)
    refine ⟨by rw [es, up_k (by decide), h2 104 (by decide)]; exact hM.1 1 (by decide), hM.img (fun j hj => by rw [es, up_k (by decide)]; exact h1 j hj) (fun x a b => by rw [es, up_k (by omega)]; exact h2 x b) (fun j hj => by rw [es, up_j hj, h2 102 (by decide)]) (by rw [es, up_s]), fun k hk => by rw [es, up_k (by omega)]; exact h2 k (by omega)⟩
def stO (Z : SG) : SG := fun k j => if k = 104 then Z 105 j else Z k j
theorem stO_k {Z : SG} {k : Nat} (h : k ≠ 104) : stO Z k = Z k := funext fun j => if_neg h
theorem stO_4 {Z : SG} : stO Z 104 = Z 105 := funext fun j => if_pos rfl
theorem PXI.ta {I S : Nat → Int32} (h : PXI I S) : TA (cT I) S I := fun t p ht hp => h.2.2.2.1 t p ht hp
theorem PXI.ra {I S : Nat → Int32} (h : PXI I S) : RA (cR I) S I := fun r j hr hj => h.2.2.2.2.1 r j hr hj
theorem J_on {Z σ : SG} (hI : KI Z) (hC : KC Z σ) (hM : KM Z σ)  : ∃ p, IN_X11_on AF σ [.ref 0] p ∧ ∀ t r, p t r → ∃ q, IN_X12_on AF t [.ref 102] q ∧ ∀ t' r', q t' r' → r = r' ∧ KK t' := by
  have hS := hI.1
  have hz3 : σ 87 0 = Z 102 3 := hC.2.2.2.2.2.2.2.2.2.2.1.1
  by_cases n1 : Z 102 3 = nI 0
  · exact joint (Z' := rf Z 3) (x := -3) (C := fun s p => IN_X11_on AF s [.ref 0] p) (M := fun s p => IN_X12_on AF s [.ref 102] p) (hI.rf 3) hM ⟨⟨_, _, rfl, rfl, Nat.le_of_ble_eq_true rfl, rc_0⟩, Nat.le_of_ble_eq_true rfl, g_X11_on_0 (by rw [hz3]; exact ⟨fun c => absurd (by rw [n1, nI_0]) c, fun _ => DC_rf hC hI (by decide) (by decide)⟩)⟩ (fun t hM => ⟨⟨_, _, rfl, rfl, Nat.le_of_ble_eq_true rfl, rc_102⟩, Nat.le_of_ble_eq_true rfl, g_X12_on_0 (by rw [hM.2.2.2.1.1]; exact ⟨fun c => absurd (by rw [n1, nI_0]) c, fun _ => DM_rf hM (by decide)⟩)⟩)
  · have h1 : Z 102 3 = nI 1 := (hI.2.1.resolve_left n1).1
    have n0 : ¬ Z 102 3 = 0 := fun z => n1 (by rw [z, nI_0])
    refine joint (Z' := stO Z) (x := Z 105 1) (C := fun s p => IN_X11_on AF s [.ref 0] p) (M := fun s p => IN_X12_on AF s [.ref 102] p) (hI.re (fun k hk => stO_k hk) (by rw [stO_4]; exact (hI.2.1.resolve_left n1).2.1) (fun _ _ => by rw [stO_4]; exact PXI.rf _)) hM ?_ (fun t hM => ?_)
    · refine ⟨⟨_, _, rfl, rfl, Nat.le_of_ble_eq_true rfl, rc_0⟩, Nat.le_of_ble_eq_true rfl, g_X11_on_0 ?_⟩
      rw [hz3]
      refine ⟨fun _ => ?_, fun c => absurd c n0⟩
      have hx := hI.2.1.resolve_left n1
      obtain ⟨_, hS5, hX⟩ := hx
      have hP := hC.2.2.2.2.2.2.2.2.2.2.1.2 h1
      obtain ⟨r1, r2, r3, r4, r5, r6, r7, r8⟩ := hP
      have tA := hX.ta
      have rA := hX.ra
      have hT := hS.1.2
      have hR := hS.2.1.2
      have x1 := hX.1
      have x2 := hX.2.1
      have x3 := hX.2.2.1
      intro s4 e4
      refine ⟨fun τ x => x = 0 → (∀ o, o < 720 → isD (2 * cT (Z 105)) (mo (Z 105)) o (τ 34 o)) ∧ ∀ k, k ≠ 34 → k ≠ 35 → τ k = s4 k, ok_measure (Nat.le_of_ble_eq_true rfl) rfl rfl rfl (M := 2 * cT (Z 105)) (mo := mo (Z 105)) (by omega) (fun m hm o ho => mo_lt hS5 hm ho) (by rw [e4, up_s, r1, hS5.1.1, pk_mul]) (fun m hm o ho => by rw [e4, up_k (by omega), hC.2.1.2.2.1 m o (by omega) ho, tA.moE hS hm (by omega)]) (fun τ a b _ => ⟨a, b⟩), fun t6 ht => ?_⟩
      obtain ⟨d1, d2⟩ := ht rfl
      intro s10 e10 s11 e11 s12 e12 s15 e15 s16 e16 s17 e17 s18 e18 s19 e19 s20 e20 s21 e21 s22 e22 s23 e23 s24 e24
      have F : ∀ x, x ≠ 36 → x ≠ 77 → x ≠ 0 → x ≠ 63 → x ≠ 64 → (x < 66 ∨ 72 < x) → x ≠ 80 → s24 x = t6 x := fun x _ _ _ _ _ _ _ => by rw [e24, cpy_k (by omega), e23, cpy_k (by omega), e22, cpy_k (by omega), e21, cpy_k (by omega), e20, cpy_k (by omega), e19, cpy_k (by omega), e18, cpy_k (by omega), e17, cpy_k (by omega), e16, cpy_k (by omega), e15, cpy_k (by omega), e12, up_k (by omega), e11, up_k (by omega), e10, up_k (by omega)]
      have G : ∀ x, x ≠ 7 → x ≠ 34 → x ≠ 35 → t6 x = σ x := fun x a b c => by rw [d2 x b c, e4, up_k a]
      have H : ∀ x, x ≠ 7 → x ≠ 34 → x ≠ 35 → x ≠ 36 → x ≠ 77 → x ≠ 0 → x ≠ 63 → x ≠ 64 → (x < 66 ∨ 72 < x) → x ≠ 80 → s24 x = σ x := fun x a b c d e f g h i j => by rw [F x d e f g h i j, G x a b c]
      have p36 : s24 36 0 = σ 87 2 := by rw [e24, cpy_k (by decide), e23, cpy_k (by decide), e22, cpy_k (by decide), e21, cpy_k (by decide), e20, cpy_k (by decide), e19, cpy_k (by decide), e18, cpy_k (by decide), e17, cpy_k (by decide), e16, cpy_k (by decide), e15, cpy_k (by decide), e12, up_k (by decide), e11, up_k (by decide), e10, up_s, G 87 (by decide) (by decide) (by decide)]
      have p77 : s24 77 0 = σ 87 3 := by rw [e24, cpy_k (by decide), e23, cpy_k (by decide), e22, cpy_k (by decide), e21, cpy_k (by decide), e20, cpy_k (by decide), e19, cpy_k (by decide), e18, cpy_k (by decide), e17, cpy_k (by decide), e16, cpy_k (by decide), e15, cpy_k (by decide), e12, up_k (by decide), e11, up_s, e10, up_k (by decide), G 87 (by decide) (by decide) (by decide)]
      have p0 : s24 0 12 = σ 87 4 := by rw [e24, cpy_k (by decide), e23, cpy_k (by decide), e22, cpy_k (by decide), e21, cpy_k (by decide), e20, cpy_k (by decide), e19, cpy_k (by decide), e18, cpy_k (by decide), e17, cpy_k (by decide), e16, cpy_k (by decide), e15, cpy_k (by decide), e12, up_s, e11, up_k (by decide), e10, up_k (by decide), G 87 (by decide) (by decide) (by decide)]
      have q63 : ∀ j, j < 6 → s24 63 j = σ 90 j := fun j hj => by rw [e24, cpy_k (by decide), e23, cpy_k (by decide), e22, cpy_k (by decide), e21, cpy_k (by decide), e20, cpy_k (by decide), e19, cpy_k (by decide), e18, cpy_k (by decide), e17, cpy_k (by decide), e16, cpy_k (by decide), e15, cpy_at (by omega), e12, up_k (by decide), e11, up_k (by decide), e10, up_k (by decide), G 90 (by decide) (by decide) (by decide)]
      have q64 : ∀ j, j < 6 → s24 64 j = σ 91 j := fun j hj => by rw [e24, cpy_k (by decide), e23, cpy_k (by decide), e22, cpy_k (by decide), e21, cpy_k (by decide), e20, cpy_k (by decide), e19, cpy_k (by decide), e18, cpy_k (by decide), e17, cpy_k (by decide), e16, cpy_at (by omega), e15, cpy_k (by decide), e12, up_k (by decide), e11, up_k (by decide), e10, up_k (by decide), G 91 (by decide) (by decide) (by decide)]
      have q66 : ∀ j, j < 6 → s24 66 j = σ 93 j := fun j hj => by rw [e24, cpy_k (by decide), e23, cpy_k (by decide), e22, cpy_k (by decide), e21, cpy_k (by decide), e20, cpy_k (by decide), e19, cpy_k (by decide), e18, cpy_k (by decide), e17, cpy_at (by omega), e16, cpy_k (by decide), e15, cpy_k (by decide), e12, up_k (by decide), e11, up_k (by decide), e10, up_k (by decide), G 93 (by decide) (by decide) (by decide)]
      have q67 : ∀ j, j < 6 → s24 67 j = σ 94 j := fun j hj => by rw [e24, cpy_k (by decide), e23, cpy_k (by decide), e22, cpy_k (by decide), e21, cpy_k (by decide), e20, cpy_k (by decide), e19, cpy_k (by decide), e18, cpy_at (by omega), e17, cpy_k (by decide), e16, cpy_k (by decide), e15, cpy_k (by decide), e12, up_k (by decide), e11, up_k (by decide), e10, up_k (by decide), G 94 (by decide) (by decide) (by decide)]
      have q68 : ∀ j, j < 6 → s24 68 j = σ 95 j := fun j hj => by rw [e24, cpy_k (by decide), e23, cpy_k (by decide), e22, cpy_k (by decide), e21, cpy_k (by decide), e20, cpy_k (by decide), e19, cpy_at (by omega), e18, cpy_k (by decide), e17, cpy_k (by decide), e16, cpy_k (by decide), e15, cpy_k (by decide), e12, up_k (by decide), e11, up_k (by decide), e10, up_k (by decide), G 95 (by decide) (by decide) (by decide)]
      have q69 : ∀ j, j < 6 → s24 69 j = σ 96 j := fun j hj => by rw [e24, cpy_k (by decide), e23, cpy_k (by decide), e22, cpy_k (by decide), e21, cpy_k (by decide), e20, cpy_at (by omega), e19, cpy_k (by decide), e18, cpy_k (by decide), e17, cpy_k (by decide), e16, cpy_k (by decide), e15, cpy_k (by decide), e12, up_k (by decide), e11, up_k (by decide), e10, up_k (by decide), G 96 (by decide) (by decide) (by decide)]
      have q70 : ∀ j, j < 6 → s24 70 j = σ 97 j := fun j hj => by rw [e24, cpy_k (by decide), e23, cpy_k (by decide), e22, cpy_k (by decide), e21, cpy_at (by omega), e20, cpy_k (by decide), e19, cpy_k (by decide), e18, cpy_k (by decide), e17, cpy_k (by decide), e16, cpy_k (by decide), e15, cpy_k (by decide), e12, up_k (by decide), e11, up_k (by decide), e10, up_k (by decide), G 97 (by decide) (by decide) (by decide)]
      have q71 : ∀ j, j < 6 → s24 71 j = σ 98 j := fun j hj => by rw [e24, cpy_k (by decide), e23, cpy_k (by decide), e22, cpy_at (by omega), e21, cpy_k (by decide), e20, cpy_k (by decide), e19, cpy_k (by decide), e18, cpy_k (by decide), e17, cpy_k (by decide), e16, cpy_k (by decide), e15, cpy_k (by decide), e12, up_k (by decide), e11, up_k (by decide), e10, up_k (by decide), G 98 (by decide) (by decide) (by decide)]
      have q72 : ∀ j, j < 2 → s24 72 j = σ 99 j := fun j hj => by rw [e24, cpy_k (by decide), e23, cpy_at (by omega), e22, cpy_k (by decide), e21, cpy_k (by decide), e20, cpy_k (by decide), e19, cpy_k (by decide), e18, cpy_k (by decide), e17, cpy_k (by decide), e16, cpy_k (by decide), e15, cpy_k (by decide), e12, up_k (by decide), e11, up_k (by decide), e10, up_k (by decide), G 99 (by decide) (by decide) (by decide)]
      have q80 : ∀ j, j < 4 → s24 80 j = σ 100 j := fun j hj => by rw [e24, cpy_at (by omega), e23, cpy_k (by decide), e22, cpy_k (by decide), e21, cpy_k (by decide), e20, cpy_k (by decide), e19, cpy_k (by decide), e18, cpy_k (by decide), e17, cpy_k (by decide), e16, cpy_k (by decide), e15, cpy_k (by decide), e12, up_k (by decide), e11, up_k (by decide), e10, up_k (by decide), G 100 (by decide) (by decide) (by decide)]
      have q65 : ∀ t j, t < 6 → j < 6 → s24 (65 + 1 + t) j = σ (92 + 1 + t) j := fun t j ht hj => by
        rcases lt6 ht with rfl | rfl | rfl | rfl | rfl | rfl
        · exact q66 j hj
        · exact q67 j hj
        · exact q68 j hj
        · exact q69 j hj
        · exact q70 j hj
        · exact q71 j hj
      refine ⟨by rw [p36]; exact r2, hC.re (fun k hk => stO_k hk) (fun k hk => H k (by omega) (by omega) (by omega) (by omega) (by omega) (by omega) (by omega) (by omega) (by omega) (by omega)) (by rw [H 73 (by decide) (by decide) (by decide) (by decide) (by decide) (by decide) (by decide) (by decide) (by decide) (by decide)]) (hC.1.fr (fun k a b => H k (by omega) (by omega) (by omega) (by omega) (by omega) (by omega) (by omega) (by omega) (by omega) (by omega))) ?_ ?_ ?_ ?_ ?_, fun k hk => H k (by omega) (by omega) (by omega) (by omega) (by omega) (by omega) (by omega) (by omega) (by omega) (by omega)⟩
      · rw [stO_4]
        refine ⟨by rw [F 7 (by decide) (by decide) (by decide) (by decide) (by decide) (by decide) (by decide), d2 7 (by decide) (by decide), e4, up_s]; exact r1, fun m p hm hp => ?_, fun m o hm ho => ?_, fun o ho => ?_⟩
        · rw [H (8 + 1 + m) (by omega) (by omega) (by omega) (by omega) (by omega) (by omega) (by omega) (by omega) (by omega) (by omega), hC.2.1.2.1 m p (by omega) hp, tA.gmE hm hp]
        · rw [H (21 + 1 + m) (by omega) (by omega) (by omega) (by omega) (by omega) (by omega) (by omega) (by omega) (by omega) (by omega), hC.2.1.2.2.1 m o (by omega) ho, tA.moE hS hm (by omega)]
        · rw [F 34 (by decide) (by decide) (by decide) (by decide) (by decide) (by decide) (by decide)]
          exact d1 o ho
      · rw [stO_4]
        refine ⟨by rw [p36]; exact r2, fun r hr => ?_⟩
        obtain ⟨w1, w2, w3⟩ := hC.2.2.1.2 r (by omega)
        obtain ⟨l0, l1, l8, lm⟩ := hS.2.2.2.2.1 r (by omega)
        obtain ⟨k0, k1, k8, km⟩ := hS5.2.2.2.2.1 r hr
        rw [rA.lnE hr] at k0 k1 k8 km ⊢
        refine ⟨by rw [H 37 (by decide) (by decide) (by decide) (by decide) (by decide) (by decide) (by decide) (by decide) (by decide) (by decide)]; exact w1, fun i hi => ?_, fun o ho => ?_⟩
        · rw [H (38 + 1 + r) (by omega) (by omega) (by omega) (by omega) (by omega) (by omega) (by omega) (by omega) (by omega) (by omega), rA.mvE hr (by omega)]; exact w2 i hi
        · rw [H (49 + 1 + r) (by omega) (by omega) (by omega) (by omega) (by omega) (by omega) (by omega) (by omega) (by omega) (by omega), eo_A hS tA rA hr (by omega) (fun i hi => by rw [← rA.mvE hr (by omega)]; exact (km i hi).2)]; exact w3 o ho
      · rw [stO_4]
        exact ⟨fun t ht => ⟨(q63 t ht).trans (r5 t ht).1, (q64 t ht).trans (r5 t ht).2.1, fun c hc => (q65 t c ht hc).trans ((r5 t ht).2.2 c hc)⟩, (q72 0 (by decide)).trans r6, (q72 1 (by decide)).trans r7⟩
      · rw [stO_4]
        refine ⟨by rw [p77]; exact r3, fun k hk => ?_⟩
        obtain ⟨w1, w2, w3⟩ := hC.2.2.2.2.1.2 k (by omega)
        have hK := hS.2.2.1.2
        obtain ⟨y1, y2⟩ := hX.2.2.2.2.2 k hk
        refine ⟨?_, ?_, ?_⟩
        · rw [H 78 (by decide) (by decide) (by decide) (by decide) (by decide) (by decide) (by decide) (by decide) (by decide) (by decide), pls_e y1]; exact w1
        · rw [H 79 (by decide) (by decide) (by decide) (by decide) (by decide) (by decide) (by decide) (by decide) (by decide) (by decide), rws_e y2]; exact w2
        · rw [q80 k (by omega)]; exact r8 k hk
      · rw [stO_4]
        unfold CN_
        rw [p0]; exact r4
    · refine ⟨⟨_, _, rfl, rfl, Nat.le_of_ble_eq_true rfl, rc_102⟩, Nat.le_of_ble_eq_true rfl, g_X12_on_0 ?_⟩
      rw [hM.2.2.2.1.1]
      refine ⟨fun _ => ?_, fun c => absurd c n0⟩
      refine mon (fun τ h1 h2 => ?_) 197 0 rfl t (fun j hj => absurd hj (Nat.not_lt_zero _)) (fun _ _ => rfl)
      exact ⟨(h1 1 (by decide)).trans (hM.2.1 1 (by decide)), hM.re (fun k hk => stO_k hk) (by rw [stO_4]; exact fun j hj => (h1 j hj).trans (hM.2.1 j hj)) (fun k a b c => h2 k (by omega)) (fun j a => by rw [h2 102 (by decide)]), fun k hk => h2 k (by omega)⟩
