/-! the law's loop -/
theorem law_j {C : (SG → Int32 → Prop) → Prop} {M : SG → (SG → Int32 → Prop) → Prop} {W : SG → Prop} {F : Prop} (J : ∃ p, C p ∧ ∀ t r, p t r → ∃ q, M t q ∧ ∀ t' r', q t' r' → r = r' ∧ KK t') (w : ∀ t, KK t → W t) : ∃ p, C p ∧ ∀ t r, p t r → ∃ q, M t q ∧ ∀ t' r', q t' r' → ((r = r' → W t') ∧ (¬ r = r' → F)) := by
  obtain ⟨p, hp, h⟩ := J
  refine ⟨p, hp, fun t r ht => ?_⟩
  obtain ⟨q, hq, h2⟩ := h t r ht
  exact ⟨q, hq, fun t' r' ht' => ⟨fun _ => w t' (h2 t' r' ht').2, fun z => absurd (h2 t' r' ht').1 z⟩⟩
theorem law_j1 {C : (SG → Int32 → Prop) → Prop} {M : SG → (SG → Int32 → Prop) → Prop} {W : SG → Prop} {F B : Prop} (b : B) (J : ∃ p, C p ∧ ∀ t r, p t r → ∃ q, M t q ∧ ∀ t' r', q t' r' → r = r' ∧ KK t') (w : ∀ t, KK t → W t) : B ∧ ∃ p, C p ∧ ∀ t r, p t r → B ∧ ∃ q, M t q ∧ ∀ t' r', q t' r' → ((r = r' → W t') ∧ (¬ r = r' → F)) := by
  obtain ⟨p, hp, h⟩ := law_j (F := F) J w
  refine ⟨b, p, hp, fun t r ht => ⟨b, h t r ht⟩⟩
theorem law_j2 {C : (SG → Int32 → Prop) → Prop} {M : SG → (SG → Int32 → Prop) → Prop} {W : SG → Prop} {F B D : Prop} (b : B) (d : D) (J : ∃ p, C p ∧ ∀ t r, p t r → ∃ q, M t q ∧ ∀ t' r', q t' r' → r = r' ∧ KK t') (w : ∀ t, KK t → W t) : B ∧ D ∧ ∃ p, C p ∧ ∀ t r, p t r → B ∧ D ∧ ∃ q, M t q ∧ ∀ t' r', q t' r' → ((r = r' → W t') ∧ (¬ r = r' → F)) := by
  obtain ⟨p, hp, h⟩ := law_j (F := F) J w
  refine ⟨b, d, p, hp, fun t r ht => ⟨b, d, h t r ht⟩⟩
theorem law_j3 {C : (SG → Int32 → Prop) → Prop} {M : SG → (SG → Int32 → Prop) → Prop} {W : SG → Prop} {F B D E : Prop} (b : B) (d : D) (e : E) (J : ∃ p, C p ∧ ∀ t r, p t r → ∃ q, M t q ∧ ∀ t' r', q t' r' → r = r' ∧ KK t') (w : ∀ t, KK t → W t) : B ∧ D ∧ E ∧ ∃ p, C p ∧ ∀ t r, p t r → B ∧ D ∧ E ∧ ∃ q, M t q ∧ ∀ t' r', q t' r' → ((r = r' → W t') ∧ (¬ r = r' → F)) := by
  obtain ⟨p, hp, h⟩ := law_j (F := F) J w
  refine ⟨b, d, e, p, hp, fun t r ht => ⟨b, d, e, h t r ht⟩⟩
set_option maxHeartbeats 4000000 in
theorem law_loop {Ln : Nat} {xs : Nat → Int32} (hL : Ln ≤ 2048) : ∀ f i, Ln < i + 4 * f + 4 → i ≤ Ln + 4 → ∀ σ, KK σ → T_L_law Ln xs 18 [.ref scr, .ref 0, .ref 102, .int (nI i)] [] AF σ := by
  intro f
  induction f with
  | zero =>
    intro i h1 h2 σ hK
    refine g_L_law_18 (by omega) ⟨fun _ => rfl, fun c => absurd ?_ c⟩
    rw [Int32.lt_iff_toInt_lt, pk_sub_toInt (by omega) (by decide), nI_toInt (by omega)]
    omega
  | succ f ih =>
    intro i h1 h2 σ hK
    refine g_L_law_18 (by omega) ⟨fun _ => rfl, fun c => ?_⟩
    have hi : i + 4 ≤ Ln := by
      rw [Int32.lt_iff_toInt_lt, pk_sub_toInt (by omega) (by decide), nI_toInt (by omega)] at c
      omega
    have w : ∀ t, KK t → T_L_law Ln xs 18 [.ref scr, .ref 0, .ref 102, .int (nI (i + 4))] [] AF t := fun t h => ih (i + 4) (by omega) (by omega) t h
    have b1 : i + 1 < Ln := by omega
    have b2 : i + 2 < Ln := by omega
    have b3 : i + 3 < Ln := by omega
    obtain ⟨Z, hI, hC, hM⟩ := hK
    refine ⟨by omega, ?_⟩
    exact ⟨fun _ => law_j3 b1 b2 b3 (J_feed hI hC hM _ _) w,
      fun _ => law_j (J_turn hI hC hM) w,
      fun _ => law_j (J_row hI hC hM) w,
      fun _ => law_j2 b1 b2 (J_goes hI hC hM _ _) w,
      fun _ => law_j2 b1 b2 (J_rowOf hI hC hM _ _) w,
      fun _ => law_j2 b1 b2 (J_does hI hC hM _ _) w,
      fun _ => law_j1 b1 (J_order hI hC hM _) w,
      fun _ => law_j1 b1 (J_keeps hI hC hM _) w,
      fun _ => law_j1 b1 (J_now hI hC hM _) w,
      fun _ => law_j1 b1 (J_make hI hC hM _) w,
      fun _ => law_j1 b1 (J_makeRow hI hC hM _) w,
      fun _ => law_j1 b1 (J_put hI hC hM _) w,
      fun _ => law_j3 b1 b2 b3 (J_time hI hC hM _ _ _) w,
      fun _ => law_j3 b1 b2 b3 (J_after hI hC hM _ _ _) w,
      fun _ => law_j2 b1 b2 (J_locks hI hC hM _ _) w,
      fun _ => law_j2 b1 b2 (J_kind hI hC hM _ _) w,
      fun _ => law_j1 b1 (J_seconds hI hC hM _) w,
      fun _ => law_j1 b1 (J_mean hI hC hM _) w,
      fun _ => law_j2 b1 b2 (J_drawn hI hC hM _ _) w,
      fun _ => law_j2 b1 b2 (J_better hI hC hM _ _) w,
      fun _ => law_j1 b1 (J_found hI hC hM _) w,
      fun _ => law_j (J_fewest hI hC hM) w,
      fun _ => law_j (J_first hI hC hM) w,
      fun _ => law_j2 b1 b2 (J_step hI hC hM _ _) w,
      fun _ => law_j (J_tried hI hC hM) w,
      fun _ => law_j1 b1 (J_triedRow hI hC hM _) w,
      fun _ => law_j (J_solves hI hC hM) w,
      fun _ => law_j (J_lacks hI hC hM) w,
      fun _ => law_j2 b1 b2 (J_luck hI hC hM _ _) w,
      fun _ => law_j2 b1 b2 (J_see hI hC hM _ _) w,
      fun _ => law_j1 b1 (J_sum hI hC hM _) w,
      fun _ => law_j (J_bestPace hI hC hM) w,
      fun _ => law_j1 b1 (J_learn hI hC hM _) w,
      fun _ => law_j1 b1 (J_five hI hC hM _) w,
      fun _ => law_j1 b1 (J_middle hI hC hM _) w,
      fun _ => law_j1 b1 (J_need hI hC hM _) w,
      fun _ => law_j1 b1 (J_film hI hC hM _) w,
      fun _ => law_j2 b1 b2 (J_held hI hC hM _ _) w,
      fun _ => law_j1 b1 (J_heldUp hI hC hM _) w,
      fun _ => law_j (J_image hI hC hM) w,
      fun _ => law_j (J_on hI hC hM) w,
      fun _ => law_j1 b1 (J_count hI hC hM _) w,
      fun _ => w σ ⟨Z, hI, hC, hM⟩⟩
