/-! findFar: how far orders are, the reference's way -/
def fd (S : Nat → Int32) (n x : Nat) (v : Int32) : Prop := (∃ d, d ≤ n ∧ v = nI d ∧ rc (2 * cT S) (mo S) d x ∧ ∀ k, k < d → ¬ rc (2 * cT S) (mo S) k x) ∨ (v = -9 ∧ ¬ rc (2 * cT S) (mo S) n x)
def FV (S : Nat → Int32) (n fl o m : Nat) (V : Nat → Int32) : Prop := (∀ x, x < 720 → fd S n x (V x) ∨ (V x = nI (n + 1) ∧ rc (2 * cT S) (mo S) (n + 1) x ∧ ¬ rc (2 * cT S) (mo S) n x)) ∧ (∀ x, x < 720 → V x = -9 → ∀ o' m', o' < 720 → m' < 2 * cT S → (o' < o ∨ (o' = o ∧ m' < m)) → V o' = nI n → ¬ mo S m' o' = x) ∧ (fl = 0 → ∀ x, x < 720 → ¬ V x = nI (n + 1)) ∧ n + 1 + fl ≤ cnt (fun x => nn (V x)) 720 ∧ fl ≤ 1
theorem FV_n {S : Nat → Int32} {n fl o m : Nat} {V : Nat → Int32} (h : FV S n fl o m V) : n + 1 + fl ≤ 720 := Nat.le_trans h.2.2.2.1 (cnt_le _ _)
theorem FV_step {S : Nat → Int32} {n fl : Nat} {V : Nat → Int32} (h : FV S n fl 720 0 V) : ∀ x, x < 720 → fd S (n + 1) x (V x) := fun x hx => by
  have hn := FV_n h
  rcases h.1 x hx with (⟨d, h1, h2, h3, h4⟩ | ⟨h1, h2⟩) | ⟨h1, h2, h3⟩
  · exact Or.inl ⟨d, by omega, h2, h3, h4⟩
  · refine Or.inr ⟨h1, fun z => ?_⟩
    rcases z with z | ⟨m, o', hm, ho', hr, he⟩
    · exact h2 z
    · have ho : V o' = nI n := by
        rcases h.1 o' ho' with (⟨d, g1, g2, g3, g4⟩ | ⟨g1, g2⟩) | ⟨g1, g2, g3⟩
        · have : d = n := Classical.byContradiction fun w => by
            have hdn : d + 1 ≤ n := by omega
            have r1 : rc (2 * cT S) (mo S) (d + 1) x := Or.inr ⟨m, o', hm, ho', g3, he⟩
            exact h2 (rc_mono r1 hdn)
          rw [g2, this]
        · exact absurd hr g2
        · exact absurd hr g3
      exact h.2.1 x hx h1 o' m ho' hm (Or.inl ho') ho he
  · exact Or.inl ⟨n + 1, Nat.le_refl _, h1, h2, fun k hk z => h3 (rc_mono z (by omega))⟩
theorem FV_done {S : Nat → Int32} (hS : IS S) {n : Nat} {V : Nat → Int32} (h : FV S n 0 720 0 V) : ∀ x, x < 720 → isD (2 * cT S) (mo S) x (V x) := by
  have hn := FV_n h
  have h1 := FV_step h
  have n9 : ∀ d, d ≤ n + 1 → ¬ nI d = (-9 : Int32) := fun d hd => nI_ne9 (by omega)
  have cl : ∀ x, x < 720 → rc (2 * cT S) (mo S) (n + 1) x → rc (2 * cT S) (mo S) n x := fun x hx z => by
    rcases h1 x hx with ⟨d, g1, g2, g3, g4⟩ | ⟨g1, g2⟩
    · by_cases e : d = n + 1
      · exact absurd (by rw [g2, e]) (h.2.2.1 rfl x hx)
      · exact rc_mono g3 (by omega)
    · exact absurd z g2
  have all : ∀ j x, x < 720 → rc (2 * cT S) (mo S) j x → rc (2 * cT S) (mo S) n x := fun j => by
    induction j with
    | zero => exact fun x _ z => rc_mono z (Nat.zero_le _)
    | succ j ih =>
      intro x hx z
      rcases z with z | ⟨m, o', hm, ho', hr, he⟩
      · exact ih x hx z
      · exact cl x hx (Or.inr ⟨m, o', hm, ho', ih o' ho' hr, he⟩)
  intro x hx
  rcases h1 x hx with ⟨d, g1, g2, g3, g4⟩ | ⟨g1, g2⟩
  · have : ¬ d = n + 1 := fun e => h.2.2.1 rfl x hx (by rw [g2, e])
    exact Or.inl ⟨d, g2, by omega, g3, g4⟩
  · exact Or.inr ⟨g1, fun j z => g2 (Or.inl (all j x hx z))⟩
def FF (σ τ : SG) : Prop := ∀ k, k ≠ 108 → k ≠ 113 → k ≠ 114 → τ k = σ k
theorem lt0_neg : ((-9 : Int32) < 0) := by decide
theorem lt0_nI {n : Nat} (h : n < 2 ^ 31) : ¬ (nI n < (0 : Int32)) := fun z => by
  rw [← nI_0, nI_ltI h (by decide)] at z
  omega
theorem far_m {S : Nat → Int32} (hS : IS S) {σ : SG} (hM : MS S σ) {n o : Nat} (ho : o < 720) {post : SG → Int32 → Prop}
    (N : ∀ s fl, FF σ s → FV S n fl (o + 1) 0 (s 113) → T_X12_findFar AF post 43 [.ref 102, .int (nI fl), .int (nI n), .int (nI (o + 1)), dum, dum] [] s) :
    ∀ c m, m + c = 2 * cT S → ∀ s fl, FF σ s → FV S n fl o m (s 113) → s 113 o = nI n → T_X12_findFar AF post 66 [.ref 102, .int (nI fl), .int (nI n), .int (nI o), .int (nI m), dum] [] s := by
  have hT := hS.1.2
  have e0 : ∀ s : SG, FF σ s → nI 2 * s 104 0 = nI (2 * cT S) := fun s h => by rw [h 104 (by decide) (by decide) (by decide), hM 0 (by decide) (by decide), hS.1.1, pk_mul]
  intro c
  induction c with
  | zero =>
    intro m hm s fl h1 h2 h3
    apply g_X12_findFar_66
    rw [e0 s h1]
    refine ⟨fun _ => N s fl h1 ⟨h2.1, fun x hx hv o' m' ho' hm' hlt => ?_, h2.2.2⟩, fun c => absurd (nI_le (show 2 * cT S ≤ m by omega) (by omega)) c⟩
    exact h2.2.1 x hx hv o' m' ho' hm' (by omega)
  | succ c ih =>
    intro m hm s fl h1 h2 h3
    have hm2 : m < 2 * cT S := by omega
    have hn := FV_n h2
    have hx := mo_lt hS hm2 ho
    apply g_X12_findFar_66
    rw [e0 s h1]
    refine ⟨fun c => absurd c (nI_ge hm2 (by omega)), fun _ => ⟨fun τ x => x = 0 → PL τ 114 0 o ∧ ∀ k', k' ≠ 114 → τ k' = s k', ok_puts ia_114 (Nat.le_of_ble_eq_true rfl) (by decide) ho (fun τ a _ d _ => ⟨a, d⟩), fun t3 ht3 => ?_⟩⟩
    obtain ⟨p1, p2⟩ := ht3 rfl
    have hM3 : MS S t3 := hM.fr (by rw [p2 104 (by decide)]; exact h1 104 (by decide) (by decide) (by decide))
    refine ⟨fun τ x => x = 0 → PL τ 114 0 (mo S m o) ∧ ∀ k', k' ≠ 114 → k' ≠ 108 → τ k' = t3 k', ok_makes hS hM3 ia_114 (Nat.le_of_ble_eq_true rfl) (by decide) (by decide) hm2 (fun τ a _ d _ => ⟨PL_mo hS ho hm2 p1 a, d⟩), fun t8 ht8 => ?_⟩
    obtain ⟨q1, q2⟩ := ht8 rfl
    refine ⟨fun τ x => τ = t8 ∧ x = nI (mo S m o), ok_mnumP ia_114 (Nat.le_of_ble_eq_true rfl) (by decide) hx q1 ⟨rfl, rfl⟩, ?_⟩
    rintro t13 x ⟨rfl, rfl⟩
    have ft : FF σ t13 := fun k a b c => by rw [q2 k c a, p2 k c]; exact h1 k a b c
    have e113 : t13 113 = s 113 := by rw [q2 113 (by decide) (by decide), p2 113 (by decide)]
    rw [e113]
    have rco : rc (2 * cT S) (mo S) n o := by
      rcases h2.1 o ho with (⟨d, g1, g2, g3, g4⟩ | ⟨g1, g2⟩) | ⟨g1, g2, g3⟩
      · exact rc_mono g3 g1
      · rw [h3] at g1
        exact absurd g1 (nI_ne9 (by omega))
      · rw [h3] at g1
        exact absurd (nI_inj (by omega) (by omega) g1) (by omega)
    refine ⟨mo S m o, rfl, hx, fun c => ⟨mo S m o, rfl, hx, fun s24 e24 => ?_⟩, fun c => ?_⟩
    · have hv : s 113 (mo S m o) = -9 ∧ ¬ rc (2 * cT S) (mo S) n (mo S m o) := by
        rcases h2.1 _ hx with (⟨d, g1, g2, g3, g4⟩ | g) | ⟨g1, g2, g3⟩
        · rw [g2] at c
          exact absurd c (lt0_nI (by omega))
        · exact g
        · rw [g1] at c
          exact absurd c (lt0_nI (by omega))
      have nxo : ¬ mo S m o = o := fun e => by rw [e, h3] at hv; exact nI_ne9 (by omega) hv.1
      have V1 : s24 113 (mo S m o) = nI (n + 1) := by rw [e24, up_s]
      have V2 : ∀ y, ¬ y = mo S m o → s24 113 y = s 113 y := fun y hy => by rw [e24, up_j hy, e113]
      have f24 : FF σ s24 := fun k a b c => by rw [e24, up_k b]; exact ft k a b c
      clear e24
      refine ih (m + 1) (by omega) s24 1 f24 ⟨fun y hy => ?_, fun y hy hvy o' m' ho' hm' hlt hvo => ?_, fun z => absurd z (by decide), ?_, by decide⟩ (by rw [V2 o (Ne.symm nxo)]; exact h3)
      · by_cases e : y = mo S m o
        · rw [e, V1]
          exact Or.inr ⟨rfl, Or.inr ⟨m, o, hm2, ho, rco, rfl⟩, hv.2⟩
        · rw [V2 y e]; exact h2.1 y hy
      · have ey : ¬ y = mo S m o := fun e => by rw [e, V1] at hvy; exact nI_ne9 (by omega) hvy
        rw [V2 y ey] at hvy
        have eo : ¬ o' = mo S m o := fun e => by rw [e, V1] at hvo; exact absurd (nI_inj (by omega) (by omega) hvo) (by omega)
        rw [V2 o' eo] at hvo
        by_cases e2 : o' = o ∧ m' = m
        · rw [e2.1, e2.2]; exact fun z => ey z.symm
        · exact h2.2.1 y hy hvy o' m' ho' hm' (by omega) hvo
      · have hc := cnt_up (f := fun x => nn (s 113 x)) (g := fun x => nn (s24 113 x)) (x := mo S m o) (n := 720) (by show nn (s 113 (mo S m o)) = false; rw [hv.1]; rfl) (by show nn (s24 113 (mo S m o)) = true; rw [V1]; exact decide_eq_true (nI_ne9 (by omega))) (fun j hj => by show nn _ = nn _; rw [V2 j hj]) hx
        have := h2.2.2.2.1
        have := h2.2.2.2.2
        omega
    · refine ih (m + 1) (by omega) t13 fl ft ⟨by rw [e113]; exact h2.1, fun y hy hvy o' m' ho' hm' hlt hvo => ?_, by rw [e113]; exact h2.2.2.1, by rw [e113]; exact h2.2.2.2.1, h2.2.2.2.2⟩ (by rw [e113]; exact h3)
      rw [e113] at hvy hvo
      by_cases e2 : o' = o ∧ m' = m
      · rw [e2.1, e2.2]
        exact fun z => by rw [z, hvy] at c; exact c lt0_neg
      · exact h2.2.1 y hy hvy o' m' ho' hm' (by omega) hvo
theorem far_o {S : Nat → Int32} (hS : IS S) {σ : SG} (hM : MS S σ) {n : Nat} {post : SG → Int32 → Prop}
    (K : ∀ τ : SG, FF σ τ → (∀ x, x < 720 → isD (2 * cT S) (mo S) x (τ 113 x)) → post τ 0)
    (N : ∀ s : SG, FF σ s → (∀ x, x < 720 → fd S (n + 1) x (s 113 x)) → n + 1 + 1 ≤ cnt (fun x => nn (s 113 x)) 720 → T_X12_findFar AF post 35 [.ref 102, .int (nI 1), .int (nI (n + 1)), dum, dum, dum] [] s) :
    ∀ c o, o + c = 720 → ∀ s fl, FF σ s → FV S n fl o 0 (s 113) → T_X12_findFar AF post 43 [.ref 102, .int (nI fl), .int (nI n), .int (nI o), dum, dum] [] s := by
  intro c
  induction c with
  | zero =>
    intro o ho s fl h1 h2
    obtain rfl : o = 720 := by omega
    apply g_X12_findFar_43
    refine ⟨by decide, fun _ => ?_, fun c => absurd c (by decide)⟩
    by_cases e : fl = 0
    · subst e
      apply g_X12_findFar_35
      exact ⟨fun _ => K s h1 (FV_done hS h2), fun c => absurd nI_0 c⟩
    · have e1 : fl = 1 := by have := h2.2.2.2.2; omega
      subst e1
      exact N s h1 (FV_step h2) h2.2.2.2.1
  | succ c ih =>
    intro o ho s fl h1 h2
    have ho7 : o < 720 := by omega
    apply g_X12_findFar_43
    refine ⟨by omega, fun c => absurd c (by omega), fun _ => ⟨ho7, fun c => ?_, fun c => ?_⟩⟩
    · exact far_m hS hM ho7 (fun s fl a b => ih (o + 1) (by omega) s fl a b) (2 * cT S) 0 (Nat.zero_add _) s fl h1 h2 c
    · refine ih (o + 1) (by omega) s fl h1 ⟨h2.1, fun x hx hv o' m' ho' hm' hlt hvo => ?_, h2.2.2⟩
      by_cases e : o' = o
      · rw [e] at hvo
        exact absurd hvo c
      · exact h2.2.1 x hx hv o' m' ho' hm' (by omega) hvo
theorem far_n {S : Nat → Int32} (hS : IS S) {σ : SG} (hM : MS S σ) {post : SG → Int32 → Prop}
    (K : ∀ τ : SG, FF σ τ → (∀ x, x < 720 → isD (2 * cT S) (mo S) x (τ 113 x)) → post τ 0) :
    ∀ f n, n + f = 721 → ∀ s : SG, FF σ s → (∀ x, x < 720 → fd S n x (s 113 x)) → n + 1 ≤ cnt (fun x => nn (s 113 x)) 720 → T_X12_findFar AF post 35 [.ref 102, .int (nI 1), .int (nI n), dum, dum, dum] [] s := by
  intro f
  induction f with
  | zero =>
    intro n hn s _ _ h3
    have := cnt_le (fun x => nn (s 113 x)) 720
    omega
  | succ f ih =>
    intro n hn s h1 h2 h3
    have hc := cnt_le (fun x => nn (s 113 x)) 720
    apply g_X12_findFar_35
    refine ⟨fun c => absurd c (by decide +kernel), fun _ => far_o hS hM K (fun s a b c => ih (n + 1) (by omega) s a b c) 720 0 rfl s 0 h1 ⟨fun x hx => Or.inl (h2 x hx), fun x hx hv o' m' _ _ hlt => by omega, fun _ x hx e => ?_, h3, by decide⟩⟩
    rcases h2 x hx with ⟨d, g1, g2, _, _⟩ | ⟨g1, _⟩
    · rw [g2] at e
      exact absurd (nI_inj (by omega) (by omega) e) (by omega)
    · rw [g1] at e
      exact nI_ne9 (show n + 1 < 2 ^ 31 by omega) e.symm
theorem cnt_one {f : Nat → Bool} {x : Nat} (hx : f x = true) : ∀ {n : Nat}, x < n → 1 ≤ cnt f n
  | 0, h => absurd h (Nat.not_lt_zero _)
  | n + 1, h => by
    unfold cnt
    by_cases e : x = n
    · subst e
      rw [if_pos hx]
      omega
    · have := cnt_one hx (show x < n by omega)
      omega
theorem far_i {S : Nat → Int32} (hS : IS S) {σ : SG} (hM : MS S σ) {post : SG → Int32 → Prop}
    (K : ∀ τ : SG, FF σ τ → (∀ x, x < 720 → isD (2 * cT S) (mo S) x (τ 113 x)) → post τ 0) :
    ∀ c o, o + c = 720 → ∀ s : SG, FF σ s → (∀ x, x < o → s 113 x = if x = 0 then nI 0 else -9) → T_X12_findFar AF post 2 [.ref 102, .int (nI o), dum, dum, dum, dum] [] s := by
  intro c
  induction c with
  | zero =>
    intro o ho s h1 h2
    obtain rfl : o = 720 := by omega
    apply g_X12_findFar_2
    refine ⟨by decide, fun _ => far_n hS hM K 721 0 rfl s h1 (fun x hx => ?_) (cnt_one (x := 0) (by show nn (s 113 0) = true; rw [h2 0 (by decide), if_pos rfl]; exact decide_eq_true (nI_ne9 (by decide))) (by decide)), fun c => absurd c (by decide)⟩
    rw [h2 x hx]
    split
    · next e => exact Or.inl ⟨0, Nat.le_refl _, rfl, e, fun k hk => absurd hk (Nat.not_lt_zero _)⟩
    · next e => exact Or.inr ⟨rfl, e⟩
  | succ c ih =>
    intro o ho s h1 h2
    have ho7 : o < 720 := by omega
    have go : ∀ v : Int32, v = (if o = 0 then nI 0 else -9) → ∀ s1, s1 = up s 113 o v → T_X12_findFar AF post 2 [.ref 102, .int (nI (o + 1)), dum, dum, dum, dum] [] s1 := fun v hv s1 e1 => by
      subst e1
      refine ih (o + 1) (by omega) _ (fun k a b c => by rw [up_k b]; exact h1 k a b c) (fun x hx => ?_)
      by_cases e : x = o
      · rw [e, up_s, hv]
      · rw [up_j e]; exact h2 x (by omega)
    apply g_X12_findFar_2
    exact ⟨by omega, fun c => absurd c (by omega), fun _ => ⟨by omega, fun c => ⟨ho7, go _ (if_neg c).symm⟩, fun c => ⟨ho7, go _ (if_pos c).symm⟩⟩⟩
theorem ok_findFar {S : Nat → Int32} (hS : IS S) {σ : SG} (hM : MS S σ) {post : SG → Int32 → Prop}
    (K : ∀ τ : SG, FF σ τ → (∀ x, x < 720 → isD (2 * cT S) (mo S) x (τ 113 x)) → post τ 0) : IN_X12_findFar AF σ [.ref 102] post :=
  ⟨⟨_, _, rfl, rfl, Nat.le_of_ble_eq_true rfl, rc_102⟩, Nat.le_of_ble_eq_true rfl, g_X12_findFar_0 (far_i hS hM K 720 0 rfl σ (fun _ _ _ _ => rfl) (fun x hx => absurd hx (Nat.not_lt_zero _)))⟩
