/-! the reference's helpers: goesTo, doesTo, makes, makesRow, isSolved -/
/-- the reference's s is S, but for NOW -/
def MS (S : Nat → Int32) (σ : SG) : Prop := ∀ j, j < 197 → (j < 5 ∨ 11 ≤ j) → σ 104 j = S j
theorem MS.fr {S : Nat → Int32} {σ τ : SG} (h : MS S σ) (e : τ 104 = σ 104) : MS S τ := by unfold MS; rw [e]; exact h
theorem ok_goesTo {S : Nat → Int32} (hS : IS S) {σ : SG} (hM : MS S σ) {m p : Nat} (hm : m < 2 * cT S) (hp : p < 6) {post : SG → Int32 → Prop} (K : post σ (nI (gm S m p))) : IN_X12_goesTo AF σ [.ref 102, .int (nI m), .int (nI p)] post := by
  have hT := hS.1.2
  refine ⟨⟨_, _, rfl, rfl, Nat.le_of_ble_eq_true rfl, rc_102⟩, Nat.le_of_ble_eq_true rfl, g_X12_goesTo_0 ⟨by omega, by omega, by omega, ?_, ?_⟩⟩
  all_goals have hg := (hS.2.2.2.1 (m / 2) (by omega))
  · intro hm2
    rw [gm, if_neg hm2] at K
    have rd : ∀ q, q < 6 → σ 104 (11 + 6 * (m / 2) + q) = nI (gT S (m / 2) q) := fun q hq => by rw [hM _ (by omega) (by omega)]; exact hg.1 q hq
    have eqv : ∀ q, q < 6 → (σ 104 (11 + 6 * (m / 2) + q) = nI p ↔ gT S (m / 2) q = p) := fun q hq => by rw [rd q hq]; have := hg.2.1 q hq; exact nI_eq (by omega) (by omega)
    unfold inv6 at K
    refine ⟨by omega, fun c0 => ⟨by omega, fun c1 => ⟨by omega, fun c2 => ⟨by omega, fun c3 => ⟨by omega, fun c4 => ⟨by omega, fun c5 => ?_, fun c5 => ?_⟩, fun c4 => ?_⟩, fun c3 => ?_⟩, fun c2 => ?_⟩, fun c1 => ?_⟩, fun c0 => ?_⟩
    all_goals try rw [eqv 0 (by decide)] at c0
    all_goals try rw [eqv 1 (by decide)] at c1
    all_goals try rw [eqv 2 (by decide)] at c2
    all_goals try rw [eqv 3 (by decide)] at c3
    all_goals try rw [eqv 4 (by decide)] at c4
    all_goals try rw [eqv 5 (by decide)] at c5
    · rwa [if_neg c0, if_neg c1, if_neg c2, if_neg c3, if_neg c4, if_neg c5] at K
    · rwa [if_neg c0, if_neg c1, if_neg c2, if_neg c3, if_neg c4, if_pos c5] at K
    · rwa [if_neg c0, if_neg c1, if_neg c2, if_neg c3, if_pos c4] at K
    · rwa [if_neg c0, if_neg c1, if_neg c2, if_pos c3] at K
    · rwa [if_neg c0, if_neg c1, if_pos c2] at K
    · rwa [if_neg c0, if_pos c1] at K
    · rwa [if_pos c0] at K
  · intro hm2
    rw [gm, if_pos hm2, ← hg.1 p hp] at K
    refine ⟨by omega, ?_⟩
    rw [hM _ (by omega) (by omega)]
    exact K
theorem doesTo_loop {S : Nat → Int32} (hS : IS S) {σ : SG} (hM : MS S σ) {r p : Nat} (hr : r < cR S) (hp : p < 6) {post : SG → Int32 → Prop} (K : post σ (nI (dT S r p))) :
    ∀ f i, i + f = ln S r → T_X12_doesTo AF post 5 [.ref 102, .int (nI r), .int (nI p), .int (nI (dTn S r i p)), .int (nI i)] [] σ := by
  have hr10 := hS.2.1.2
  obtain ⟨b1, b2, b3, b4⟩ := hS.2.2.2.2.1 r hr
  have e1 : σ 104 (95 + 9 * r) = nI (ln S r) := by rw [hM _ (by omega) (by omega)]; exact b1
  intro f
  induction f with
  | zero =>
    intro i hi
    apply g_X12_doesTo_5
    rw [e1]
    refine ⟨by omega, fun _ => ?_, fun c => absurd (nI_le (show ln S r ≤ i by omega) (by omega)) c⟩
    obtain rfl : i = ln S r := by omega
    exact K
  | succ f ih =>
    intro i hi
    apply g_X12_doesTo_5
    rw [e1]
    obtain ⟨d1, d2⟩ := b4 i (by omega)
    have hx := dTn_lt hS hr (show i ≤ ln S r by omega) hp
    refine ⟨by omega, fun c => absurd c (nI_ge (show i < ln S r by omega) (by omega)), fun _ => ⟨by omega, ?_⟩⟩
    rw [hM (95 + 9 * r + 1 + i) (by omega) (by omega), d1]
    refine ⟨fun τ x => τ = σ ∧ x = nI (gm S (mv S r i) (dTn S r i p)), ok_goesTo hS hM d2 hx ⟨rfl, rfl⟩, ?_⟩
    rintro t x ⟨rfl, rfl⟩
    exact ih (i + 1) (by omega)
theorem ok_doesTo {S : Nat → Int32} (hS : IS S) {σ : SG} (hM : MS S σ) {r p : Nat} (hr : r < cR S) (hp : p < 6) {post : SG → Int32 → Prop} (K : post σ (nI (dT S r p))) : IN_X12_doesTo AF σ [.ref 102, .int (nI r), .int (nI p)] post :=
  ⟨⟨_, _, rfl, rfl, Nat.le_of_ble_eq_true rfl, rc_102⟩, Nat.le_of_ble_eq_true rfl, g_X12_doesTo_0 (doesTo_loop hS hM hr hp K (ln S r) 0 (Nat.zero_add _))⟩
set_option maxHeartbeats 4000000 in
theorem ok_makes {S : Nat → Int32} (hS : IS S) {σ : SG} (hM : MS S σ) {k n fr : Nat} (hia : IA k n) (hk : k < AF.1) (hk8 : k ≠ 108) (hfr : fr + 6 ≤ n) {m : Nat} (hm : m < 2 * cT S) {post : SG → Int32 → Prop}
    (K : ∀ τ : SG, (∀ p, p < 6 → τ k (fr + gm S m p) = σ k (fr + p)) → (∀ j, (j < fr ∨ fr + 6 ≤ j) → τ k j = σ k j) → (∀ k', k' ≠ k → k' ≠ 108 → τ k' = σ k') → post τ 0) : IN_X12_makes AF σ [.ref 102, .ref k, .int (nI fr), .int (nI m)] post := by
  have hg := gm_PM hS hm
  refine ⟨⟨_, _, rfl, rfl, Nat.le_of_ble_eq_true rfl, rc_102⟩, Nat.le_of_ble_eq_true rfl, g_X12_makes_0 hia hk ?_⟩
  refine ⟨fun τ x => τ = σ ∧ x = nI (gm S m 0), ok_goesTo hS hM hm (by decide) ⟨rfl, rfl⟩, ?_⟩
  rintro t0 x0 ⟨h0, rfl⟩
  refine ⟨by omega, gm S m 0, rfl, hg.1 0 (by decide), fun s0 e0 => ?_⟩
  have f0 : ∀ k', k' ≠ 108 → s0 k' = σ k' := fun k' hk' => by rw [e0, up_k hk', h0]
  have v0 : ∀ p, p < 1 → s0 108 (gm S m p) = σ k (fr + p) := fun p hp => by
    rw [e0]
    by_cases e : p = 0
    · rw [e, up_s, h0]
    · omega
  clear e0
  refine ⟨fun τ x => τ = s0 ∧ x = nI (gm S m 1), ok_goesTo hS (hM.fr (f0 104 (by decide))) hm (by decide) ⟨rfl, rfl⟩, ?_⟩
  rintro t1 x1 ⟨h1, rfl⟩
  refine ⟨by omega, gm S m 1, rfl, hg.1 1 (by decide), fun s1 e1 => ?_⟩
  have f1 : ∀ k', k' ≠ 108 → s1 k' = σ k' := fun k' hk' => by rw [e1, up_k hk', h1]; exact f0 k' hk'
  have v1 : ∀ p, p < 2 → s1 108 (gm S m p) = σ k (fr + p) := fun p hp => by
    rw [e1]
    by_cases e : p = 1
    · rw [e, up_s, h1]; exact congrFun (f0 k hk8) _
    · rw [up_j (fun z => e (hg.2 p 1 (by omega) (by decide) z)), h1]; exact v0 p (by omega)
  clear e1
  refine ⟨fun τ x => τ = s1 ∧ x = nI (gm S m 2), ok_goesTo hS (hM.fr (f1 104 (by decide))) hm (by decide) ⟨rfl, rfl⟩, ?_⟩
  rintro t2 x2 ⟨h2, rfl⟩
  refine ⟨by omega, gm S m 2, rfl, hg.1 2 (by decide), fun s2 e2 => ?_⟩
  have f2 : ∀ k', k' ≠ 108 → s2 k' = σ k' := fun k' hk' => by rw [e2, up_k hk', h2]; exact f1 k' hk'
  have v2 : ∀ p, p < 3 → s2 108 (gm S m p) = σ k (fr + p) := fun p hp => by
    rw [e2]
    by_cases e : p = 2
    · rw [e, up_s, h2]; exact congrFun (f1 k hk8) _
    · rw [up_j (fun z => e (hg.2 p 2 (by omega) (by decide) z)), h2]; exact v1 p (by omega)
  clear e2
  refine ⟨fun τ x => τ = s2 ∧ x = nI (gm S m 3), ok_goesTo hS (hM.fr (f2 104 (by decide))) hm (by decide) ⟨rfl, rfl⟩, ?_⟩
  rintro t3 x3 ⟨h3, rfl⟩
  refine ⟨by omega, gm S m 3, rfl, hg.1 3 (by decide), fun s3 e3 => ?_⟩
  have f3 : ∀ k', k' ≠ 108 → s3 k' = σ k' := fun k' hk' => by rw [e3, up_k hk', h3]; exact f2 k' hk'
  have v3 : ∀ p, p < 4 → s3 108 (gm S m p) = σ k (fr + p) := fun p hp => by
    rw [e3]
    by_cases e : p = 3
    · rw [e, up_s, h3]; exact congrFun (f2 k hk8) _
    · rw [up_j (fun z => e (hg.2 p 3 (by omega) (by decide) z)), h3]; exact v2 p (by omega)
  clear e3
  refine ⟨fun τ x => τ = s3 ∧ x = nI (gm S m 4), ok_goesTo hS (hM.fr (f3 104 (by decide))) hm (by decide) ⟨rfl, rfl⟩, ?_⟩
  rintro t4 x4 ⟨h4, rfl⟩
  refine ⟨by omega, gm S m 4, rfl, hg.1 4 (by decide), fun s4 e4 => ?_⟩
  have f4 : ∀ k', k' ≠ 108 → s4 k' = σ k' := fun k' hk' => by rw [e4, up_k hk', h4]; exact f3 k' hk'
  have v4 : ∀ p, p < 5 → s4 108 (gm S m p) = σ k (fr + p) := fun p hp => by
    rw [e4]
    by_cases e : p = 4
    · rw [e, up_s, h4]; exact congrFun (f3 k hk8) _
    · rw [up_j (fun z => e (hg.2 p 4 (by omega) (by decide) z)), h4]; exact v3 p (by omega)
  clear e4
  refine ⟨fun τ x => τ = s4 ∧ x = nI (gm S m 5), ok_goesTo hS (hM.fr (f4 104 (by decide))) hm (by decide) ⟨rfl, rfl⟩, ?_⟩
  rintro t5 x5 ⟨h5, rfl⟩
  refine ⟨by omega, gm S m 5, rfl, hg.1 5 (by decide), fun s5 e5 => ?_⟩
  have f5 : ∀ k', k' ≠ 108 → s5 k' = σ k' := fun k' hk' => by rw [e5, up_k hk', h5]; exact f4 k' hk'
  have v5 : ∀ p, p < 6 → s5 108 (gm S m p) = σ k (fr + p) := fun p hp => by
    rw [e5]
    by_cases e : p = 5
    · rw [e, up_s, h5]; exact congrFun (f4 k hk8) _
    · rw [up_j (fun z => e (hg.2 p 5 (by omega) (by decide) z)), h5]; exact v4 p (by omega)
  clear e5
  have w : ∀ q, q < 6 → s5 108 q = σ k (fr + inv6 (gm S m) q) := fun q hq => by
    obtain ⟨h1, h2⟩ := inv6_spec hg hq
    rw [← v5 _ h1, h2]
  refine ⟨by omega, fun u0 d0 => ?_⟩
  have a0 : ∀ k', k' ≠ k → u0 k' = s5 k' := fun k' hk' => by rw [d0, up_k hk']
  have b0 : ∀ q, q < 1 → u0 k (fr + q) = s5 108 q := fun q hq => by
    rw [d0]
    by_cases e : q = 0
    · rw [e, up_s]
    · omega
  have c0 : ∀ j, (j < fr ∨ fr + 6 ≤ j) → u0 k j = s5 k j := fun j hj => by rw [d0, up_j (by omega)]
  clear d0
  refine ⟨by omega, fun u1 d1 => ?_⟩
  have a1 : ∀ k', k' ≠ k → u1 k' = s5 k' := fun k' hk' => by rw [d1, up_k hk']; exact a0 k' hk'
  have b1 : ∀ q, q < 2 → u1 k (fr + q) = s5 108 q := fun q hq => by
    rw [d1]
    by_cases e : q = 1
    · rw [e, up_s]; exact congrFun (a0 108 (Ne.symm hk8)) _
    · rw [up_j (by omega)]; exact b0 q (by omega)
  have c1 : ∀ j, (j < fr ∨ fr + 6 ≤ j) → u1 k j = s5 k j := fun j hj => by rw [d1, up_j (by omega)]; exact c0 j hj
  clear d1
  refine ⟨by omega, fun u2 d2 => ?_⟩
  have a2 : ∀ k', k' ≠ k → u2 k' = s5 k' := fun k' hk' => by rw [d2, up_k hk']; exact a1 k' hk'
  have b2 : ∀ q, q < 3 → u2 k (fr + q) = s5 108 q := fun q hq => by
    rw [d2]
    by_cases e : q = 2
    · rw [e, up_s]; exact congrFun (a1 108 (Ne.symm hk8)) _
    · rw [up_j (by omega)]; exact b1 q (by omega)
  have c2 : ∀ j, (j < fr ∨ fr + 6 ≤ j) → u2 k j = s5 k j := fun j hj => by rw [d2, up_j (by omega)]; exact c1 j hj
  clear d2
  refine ⟨by omega, fun u3 d3 => ?_⟩
  have a3 : ∀ k', k' ≠ k → u3 k' = s5 k' := fun k' hk' => by rw [d3, up_k hk']; exact a2 k' hk'
  have b3 : ∀ q, q < 4 → u3 k (fr + q) = s5 108 q := fun q hq => by
    rw [d3]
    by_cases e : q = 3
    · rw [e, up_s]; exact congrFun (a2 108 (Ne.symm hk8)) _
    · rw [up_j (by omega)]; exact b2 q (by omega)
  have c3 : ∀ j, (j < fr ∨ fr + 6 ≤ j) → u3 k j = s5 k j := fun j hj => by rw [d3, up_j (by omega)]; exact c2 j hj
  clear d3
  refine ⟨by omega, fun u4 d4 => ?_⟩
  have a4 : ∀ k', k' ≠ k → u4 k' = s5 k' := fun k' hk' => by rw [d4, up_k hk']; exact a3 k' hk'
  have b4 : ∀ q, q < 5 → u4 k (fr + q) = s5 108 q := fun q hq => by
    rw [d4]
    by_cases e : q = 4
    · rw [e, up_s]; exact congrFun (a3 108 (Ne.symm hk8)) _
    · rw [up_j (by omega)]; exact b3 q (by omega)
  have c4 : ∀ j, (j < fr ∨ fr + 6 ≤ j) → u4 k j = s5 k j := fun j hj => by rw [d4, up_j (by omega)]; exact c3 j hj
  clear d4
  refine ⟨by omega, fun u5 d5 => ?_⟩
  have a5 : ∀ k', k' ≠ k → u5 k' = s5 k' := fun k' hk' => by rw [d5, up_k hk']; exact a4 k' hk'
  have b5 : ∀ q, q < 6 → u5 k (fr + q) = s5 108 q := fun q hq => by
    rw [d5]
    by_cases e : q = 5
    · rw [e, up_s]; exact congrFun (a4 108 (Ne.symm hk8)) _
    · rw [up_j (by omega)]; exact b4 q (by omega)
  have c5 : ∀ j, (j < fr ∨ fr + 6 ≤ j) → u5 k j = s5 k j := fun j hj => by rw [d5, up_j (by omega)]; exact c4 j hj
  clear d5
  refine K u5 (fun p hp => ?_) (fun j hj => ?_) (fun k' h1 h2 => ?_)
  · rw [b5 _ (hg.1 p hp), w _ (hg.1 p hp), inv6_of hg hp]
  · rw [c5 j hj, f5 k hk8]
  · rw [a5 k' h1, f5 k' h2]
theorem makesRow_loop {S : Nat → Int32} (hS : IS S) {σ : SG} (hM : MS S σ) {k n fr : Nat} (hia : IA k n) (hk : k < AF.1) (hk8 : k ≠ 108) (hk4 : k ≠ 104 ∨ fr = 5) (hfr : fr + 6 ≤ n) {r : Nat} (hr : r < cR S) {post : SG → Int32 → Prop}
    (K : ∀ τ : SG, (∀ p, p < 6 → τ k (fr + dT S r p) = σ k (fr + p)) → (∀ j, (j < fr ∨ fr + 6 ≤ j) → τ k j = σ k j) → (∀ k', k' ≠ k → k' ≠ 108 → τ k' = σ k') → post τ 0) :
    ∀ f i, i + f = ln S r → ∀ s : SG, (∀ p, p < 6 → s k (fr + dTn S r i p) = σ k (fr + p)) → (∀ j, (j < fr ∨ fr + 6 ≤ j) → s k j = σ k j) → (∀ k', k' ≠ k → k' ≠ 108 → s k' = σ k') → T_X12_makesRow AF post 3 [.ref 102, .ref k, .int (nI fr), .int (nI r), .int (nI i)] [] s := by
  have hr10 := hS.2.1.2
  obtain ⟨b1, b2, b3, b4⟩ := hS.2.2.2.2.1 r hr
  intro f
  induction f with
  | zero =>
    intro i hi s h1 h2 h3
    have hMs : MS S s := fun j hj hj2 => by
      rw [← hM j hj hj2]
      by_cases e : k = 104
      · have h5 : fr = 5 := by omega
        rw [← e, h2 j (by omega)]
      · rw [h3 104 (Ne.symm e) (by decide)]
    apply g_X12_makesRow_3 hia hk
    rw [hMs (95 + 9 * r) (by omega) (by omega), b1]
    refine ⟨by omega, fun _ => ?_, fun c => absurd (nI_le (show ln S r ≤ i by omega) (by omega)) c⟩
    obtain rfl : i = ln S r := by omega
    exact K s h1 h2 h3
  | succ f ih =>
    intro i hi s h1 h2 h3
    have hMs : MS S s := fun j hj hj2 => by
      rw [← hM j hj hj2]
      by_cases e : k = 104
      · have h5 : fr = 5 := by omega
        rw [← e, h2 j (by omega)]
      · rw [h3 104 (Ne.symm e) (by decide)]
    apply g_X12_makesRow_3 hia hk
    obtain ⟨d1, d2⟩ := b4 i (by omega)
    rw [hMs (95 + 9 * r) (by omega) (by omega), b1]
    refine ⟨by omega, fun c => absurd c (nI_ge (show i < ln S r by omega) (by omega)), fun _ => ⟨by omega, ?_⟩⟩
    rw [hMs (95 + 9 * r + 1 + i) (by omega) (by omega), d1]
    refine ⟨fun τ x => x = 0 → (∀ p, p < 6 → τ k (fr + gm S (mv S r i) p) = s k (fr + p)) ∧ (∀ j, (j < fr ∨ fr + 6 ≤ j) → τ k j = s k j) ∧ (∀ k', k' ≠ k → k' ≠ 108 → τ k' = s k'), ok_makes hS hMs hia hk hk8 hfr d2 (fun τ a b c _ => ⟨a, b, c⟩), fun t ht => ?_⟩
    obtain ⟨a, b, c⟩ := ht rfl
    refine ih (i + 1) (by omega) t (fun p hp => ?_) (fun j hj => by rw [b j hj]; exact h2 j hj) (fun k' e1 e2 => by rw [c k' e1 e2]; exact h3 k' e1 e2)
    have hx := dTn_lt hS hr (show i ≤ ln S r by omega) hp
    show t k (fr + gm S (mv S r i) (dTn S r i p)) = _
    rw [a _ hx]
    exact h1 p hp
theorem ok_makesRow {S : Nat → Int32} (hS : IS S) {σ : SG} (hM : MS S σ) {k n fr : Nat} (hia : IA k n) (hk : k < AF.1) (hk8 : k ≠ 108) (hk4 : k ≠ 104 ∨ fr = 5) (hfr : fr + 6 ≤ n) {r : Nat} (hr : r < cR S) {post : SG → Int32 → Prop}
    (K : ∀ τ : SG, (∀ p, p < 6 → τ k (fr + dT S r p) = σ k (fr + p)) → (∀ j, (j < fr ∨ fr + 6 ≤ j) → τ k j = σ k j) → (∀ k', k' ≠ k → k' ≠ 108 → τ k' = σ k') → post τ 0) : IN_X12_makesRow AF σ [.ref 102, .ref k, .int (nI fr), .int (nI r)] post :=
  ⟨⟨_, _, rfl, rfl, Nat.le_of_ble_eq_true rfl, rc_102⟩, Nat.le_of_ble_eq_true rfl, g_X12_makesRow_0 hia hk (makesRow_loop hS hM hia hk hk8 hk4 hfr hr K (ln S r) 0 (Nat.zero_add _) σ (fun _ _ => rfl) (fun _ _ => rfl) (fun _ _ _ => rfl))⟩
/-- from fr on an array holds the order o -/
def PL (σ : SG) (k fr o : Nat) : Prop := ∀ p, p < 6 → σ k (fr + p) = nI (P o p)
theorem PL_to {S : Nat → Int32} (hS : IS S) {σ τ : SG} {k fr o o2 : Nat} {g : Nat → Nat} (hg : PM g) (e : ∀ p, p < 6 → P o2 (g p) = P o p) (h : PL σ k fr o) (h2 : ∀ p, p < 6 → τ k (fr + g p) = σ k (fr + p)) : PL τ k fr o2 := fun q hq => by
  obtain ⟨h3, h4⟩ := inv6_spec hg hq
  have h5 := h2 _ h3
  rw [h4, h _ h3] at h5
  rw [h5, ← e _ h3, h4]
theorem PL_mo {S : Nat → Int32} (hS : IS S) {σ τ : SG} {k fr o m : Nat} (ho : o < 720) (hm : m < 2 * cT S) (h : PL σ k fr o) (h2 : ∀ p, p < 6 → τ k (fr + gm S m p) = σ k (fr + p)) : PL τ k fr (mo S m o) :=
  PL_to hS (gm_PM hS hm) (fun p hp => by have hg := gm_PM hS hm; rw [mo, mvO_P hg ho (hg.1 _ hp), act_at hg hp]) h h2
theorem PL_eo {S : Nat → Int32} (hS : IS S) {σ τ : SG} {k fr o r : Nat} (ho : o < 720) (hr : r < cR S) (h : PL σ k fr o) (h2 : ∀ p, p < 6 → τ k (fr + dT S r p) = σ k (fr + p)) : PL τ k fr (eo S r o) :=
  PL_to hS (dT_PM hS hr) (fun p hp => eo_P hS hr ho hp) h h2
theorem P_eq0 {o : Nat} (ho : o < 720) (h : ∀ p, p < 6 → P o p = p) : o = 0 := P_inj ho (by decide) (fun p hp => by rw [h p hp, P_0 hp])
theorem ok_isSolved {σ : SG} {k n fr : Nat} (hia : IA k n) (hk : k < AF.1) (hfr : fr + 6 ≤ n) {o : Nat} (ho : o < 720) (h : PL σ k fr o) {post : SG → Int32 → Prop} (K : post σ (nI (if o = 0 then 1 else 0))) : IN_X12_isSolved AF σ [.ref k, .int (nI fr)] post := by
  have eqv : ∀ p, p < 6 → (σ k (fr + p) = nI p ↔ P o p = p) := fun p hp => by rw [h p hp]; have := (P_ok ho).1.1 p hp; exact nI_eq (by omega) (by omega)
  have no : ∀ p, p < 6 → ¬ σ k (fr + p) = nI p → post σ (nI 0) := fun p hp c => by
    rw [eqv p hp] at c
    rwa [if_neg (fun z => c (by rw [z]; exact P_0 hp))] at K
  refine ⟨rfl, Nat.le_of_ble_eq_true rfl, g_X12_isSolved_0 hia hk ⟨by omega, fun c0 => ⟨by omega, fun c1 => ⟨by omega, fun c2 => ⟨by omega, fun c3 => ⟨by omega, fun c4 => ⟨by omega, fun c5 => ?_, no 5 (by decide)⟩, no 4 (by decide)⟩, no 3 (by decide)⟩, no 2 (by decide)⟩, no 1 (by decide)⟩, no 0 (by decide)⟩⟩
  have e : o = 0 := P_eq0 ho fun p hp => by
    rcases lt6 hp with rfl | rfl | rfl | rfl | rfl | rfl
    · exact (eqv 0 hp).1 c0
    · exact (eqv 1 hp).1 c1
    · exact (eqv 2 hp).1 c2
    · exact (eqv 3 hp).1 c3
    · exact (eqv 4 hp).1 c4
    · exact (eqv 5 hp).1 c5
  rwa [if_pos e] at K
