/-! goal, solvedFrom, moved, takeRead of turns and rows, firstTowardsSolved -/
theorem goal_loop {S : Nat → Int32} (hS : IS S) {σ : SG} (hU : CU S σ) (hW : CW S σ) {r p : Nat} (hr : r < cR S) (hp : p < 6) {post : SG → Int32 → Prop} (K : post σ (nI (dT S r p))) :
    ∀ f i, i + f = ln S r → T_X5_goal AF post 5 [.ref 36, .int (nI r), .int (nI p), .int (nI (dTn S r i p)), .int (nI i)] [] σ := by
  have hr10 := hS.2.1.2
  obtain ⟨b1, b2, b3, b4⟩ := hS.2.2.2.2.1 r hr
  obtain ⟨c1, c2, c3⟩ := hW.2 r hr
  intro f
  induction f with
  | zero =>
    intro i hi
    apply g_X5_goal_5
    rw [c1]
    refine ⟨by omega, fun _ => ?_, fun c => absurd (nI_le (show ln S r ≤ i by omega) (by omega)) c⟩
    obtain rfl : i = ln S r := by omega
    exact K
  | succ f ih =>
    intro i hi
    apply g_X5_goal_5
    rw [c1]
    obtain ⟨d1, d2⟩ := b4 i (by omega)
    have hT := hS.1.2
    have hx := dTn_lt hS hr (show i ≤ ln S r by omega) hp
    refine ⟨by omega, fun c => absurd c (nI_ge (show i < ln S r by omega) (by omega)), fun _ => ⟨by omega, by omega, mv S r i, c2 i (by omega), by omega, hx, ?_⟩⟩
    rw [hU.2.1 _ _ d2 hx]
    exact ih (i + 1) (by omega)
theorem ok_goal {S : Nat → Int32} (hS : IS S) {σ : SG} (hU : CU S σ) (hW : CW S σ) {r p : Nat} (hr : r < cR S) (hp : p < 6) {post : SG → Int32 → Prop} (K : post σ (nI (dT S r p))) : IN_X5_goal AF σ [.ref 36, .int (nI r), .int (nI p)] post :=
  ⟨⟨_, _, rfl, rfl, Nat.le_of_ble_eq_true rfl, rc_36⟩, Nat.le_of_ble_eq_true rfl, g_X5_goal_0 (goal_loop hS hU hW hr hp K (ln S r) 0 (Nat.zero_add _))⟩
set_option maxHeartbeats 4000000 in
theorem ok_solvedFrom {S : Nat → Int32} (hS : IS S) {σ : SG} (hU : CU S σ) (hW : CW S σ) {r : Nat} (hr : r < cR S) {post : SG → Int32 → Prop} (K : ∀ τ : SG, (∀ k, k ≠ 60 → τ k = σ k) → post τ (nI (rk (dT S r)))) : IN_X5_solvedFrom AF σ [.ref 36, .int (nI r)] post := by
  refine ⟨⟨_, _, rfl, rfl, Nat.le_of_ble_eq_true rfl, rc_36⟩, Nat.le_of_ble_eq_true rfl, g_X5_solvedFrom_0 ?_⟩
  refine ⟨fun τ r2 => τ = σ ∧ r2 = nI (dT S r 0), ok_goal hS hU hW hr (by decide) ⟨rfl, rfl⟩, ?_⟩
  rintro t0 r0 ⟨rfl, rfl⟩
  intro s0 e0
  have f0 : ∀ k, k ≠ 60 → s0 k = t0 k := fun k hk => by rw [e0, up_k hk]
  have v0 : ∀ q, q < 1 → s0 60 q = nI (dT S r q) := fun q hq => by obtain rfl : q = 0 := by omega
                                                                   rw [e0, up_s]
  clear e0
  refine ⟨fun τ r2 => τ = s0 ∧ r2 = nI (dT S r 1), ok_goal hS (hU.fr hS (fun k h1 h2 => f0 k (by omega))) (hW.fr hS (fun k h1 h2 => f0 k (by omega))) hr (by decide) ⟨rfl, rfl⟩, ?_⟩
  rintro t1 r1 ⟨rfl, rfl⟩
  intro s1 e1
  have f1 : ∀ k, k ≠ 60 → s1 k = t0 k := fun k hk => by rw [e1, up_k hk]; exact f0 k hk
  have v1 : ∀ q, q < 2 → s1 60 q = nI (dT S r q) := fun q hq => by
    rw [e1]
    by_cases e : q = 1
    · rw [e, up_s]
    · rw [up_j e]; exact v0 q (by omega)
  clear e1
  refine ⟨fun τ r2 => τ = s1 ∧ r2 = nI (dT S r 2), ok_goal hS (hU.fr hS (fun k h1 h2 => f1 k (by omega))) (hW.fr hS (fun k h1 h2 => f1 k (by omega))) hr (by decide) ⟨rfl, rfl⟩, ?_⟩
  rintro t2 r2 ⟨rfl, rfl⟩
  intro s2 e2
  have f2 : ∀ k, k ≠ 60 → s2 k = t0 k := fun k hk => by rw [e2, up_k hk]; exact f1 k hk
  have v2 : ∀ q, q < 3 → s2 60 q = nI (dT S r q) := fun q hq => by
    rw [e2]
    by_cases e : q = 2
    · rw [e, up_s]
    · rw [up_j e]; exact v1 q (by omega)
  clear e2
  refine ⟨fun τ r2 => τ = s2 ∧ r2 = nI (dT S r 3), ok_goal hS (hU.fr hS (fun k h1 h2 => f2 k (by omega))) (hW.fr hS (fun k h1 h2 => f2 k (by omega))) hr (by decide) ⟨rfl, rfl⟩, ?_⟩
  rintro t3 r3 ⟨rfl, rfl⟩
  intro s3 e3
  have f3 : ∀ k, k ≠ 60 → s3 k = t0 k := fun k hk => by rw [e3, up_k hk]; exact f2 k hk
  have v3 : ∀ q, q < 4 → s3 60 q = nI (dT S r q) := fun q hq => by
    rw [e3]
    by_cases e : q = 3
    · rw [e, up_s]
    · rw [up_j e]; exact v2 q (by omega)
  clear e3
  refine ⟨fun τ r2 => τ = s3 ∧ r2 = nI (dT S r 4), ok_goal hS (hU.fr hS (fun k h1 h2 => f3 k (by omega))) (hW.fr hS (fun k h1 h2 => f3 k (by omega))) hr (by decide) ⟨rfl, rfl⟩, ?_⟩
  rintro t4 r4 ⟨rfl, rfl⟩
  intro s4 e4
  have f4 : ∀ k, k ≠ 60 → s4 k = t0 k := fun k hk => by rw [e4, up_k hk]; exact f3 k hk
  have v4 : ∀ q, q < 5 → s4 60 q = nI (dT S r q) := fun q hq => by
    rw [e4]
    by_cases e : q = 4
    · rw [e, up_s]
    · rw [up_j e]; exact v3 q (by omega)
  clear e4
  refine ⟨fun τ r2 => τ = s4 ∧ r2 = nI (dT S r 5), ok_goal hS (hU.fr hS (fun k h1 h2 => f4 k (by omega))) (hW.fr hS (fun k h1 h2 => f4 k (by omega))) hr (by decide) ⟨rfl, rfl⟩, ?_⟩
  rintro t5 r5 ⟨rfl, rfl⟩
  intro s5 e5
  have f5 : ∀ k, k ≠ 60 → s5 k = t0 k := fun k hk => by rw [e5, up_k hk]; exact f4 k hk
  have v5 : ∀ q, q < 6 → s5 60 q = nI (dT S r q) := fun q hq => by
    rw [e5]
    by_cases e : q = 5
    · rw [e, up_s]
    · rw [up_j e]; exact v4 q (by omega)
  clear e5
  refine ⟨fun τ r2 => τ = s5 ∧ r2 = nI (rk (dT S r)), ok_numberOf ia_60 (Nat.le_of_ble_eq_true rfl) (dT_PM hS hr) v5 ⟨rfl, rfl⟩, ?_⟩
  rintro t6 r6 ⟨rfl, rfl⟩
  exact K _ f5
theorem ok_moved {σ : SG} (hO : CO σ) {o : Nat} (ho : o < 720) {k : Nat} (hia : IA k 6) (hk : k < AF.1) (hk4 : k ≠ 6) {f : Nat → Nat} (hf : PM f) (hv : ∀ p, p < 6 → σ k p = nI (f p)) {post : SG → Int32 → Prop} (K : ∀ τ : SG, (∀ k, k ≠ 6 → τ k = σ k) → post τ (nI (mvO f o))) : IN_X4_moved AF σ [.ref 3, .int (nI o), .ref k] post := by
  refine ⟨⟨_, _, rfl, rfl, Nat.le_of_ble_eq_true rfl, rc_3⟩, Nat.le_of_ble_eq_true rfl, g_X4_moved_0 hia hk ?_⟩
  refine ⟨by omega, f 0, hv 0 (by decide), hf.1 0 (by decide), fun s0 e0 => ?_⟩
  have f0 : ∀ k, k ≠ 6 → s0 k = σ k := fun k hk => by rw [e0, up_k hk]
  have v0 : ∀ q, q < 1 → s0 6 (f q) = nI (P o q) := fun q hq => by
    rw [e0]
    by_cases e : q = 0
    · rw [e, up_s]; exact hO.1 o 0 ho (by decide)
    · omega
  clear e0
  refine ⟨by omega, f 1, (by rw [f0 k hk4]; exact hv 1 (by decide)), hf.1 1 (by decide), fun s1 e1 => ?_⟩
  have f1 : ∀ k, k ≠ 6 → s1 k = σ k := fun k hk => by rw [e1, up_k hk]; exact f0 k hk
  have v1 : ∀ q, q < 2 → s1 6 (f q) = nI (P o q) := fun q hq => by
    rw [e1]
    by_cases e : q = 1
    · rw [e, up_s, f0 4 (by decide)]; exact hO.1 o 1 ho (by decide)
    · rw [up_j (fun z => e (hf.2 q 1 (by omega) (by decide) z))]; exact v0 q (by omega)
  clear e1
  refine ⟨by omega, f 2, (by rw [f1 k hk4]; exact hv 2 (by decide)), hf.1 2 (by decide), fun s2 e2 => ?_⟩
  have f2 : ∀ k, k ≠ 6 → s2 k = σ k := fun k hk => by rw [e2, up_k hk]; exact f1 k hk
  have v2 : ∀ q, q < 3 → s2 6 (f q) = nI (P o q) := fun q hq => by
    rw [e2]
    by_cases e : q = 2
    · rw [e, up_s, f1 4 (by decide)]; exact hO.1 o 2 ho (by decide)
    · rw [up_j (fun z => e (hf.2 q 2 (by omega) (by decide) z))]; exact v1 q (by omega)
  clear e2
  refine ⟨by omega, f 3, (by rw [f2 k hk4]; exact hv 3 (by decide)), hf.1 3 (by decide), fun s3 e3 => ?_⟩
  have f3 : ∀ k, k ≠ 6 → s3 k = σ k := fun k hk => by rw [e3, up_k hk]; exact f2 k hk
  have v3 : ∀ q, q < 4 → s3 6 (f q) = nI (P o q) := fun q hq => by
    rw [e3]
    by_cases e : q = 3
    · rw [e, up_s, f2 4 (by decide)]; exact hO.1 o 3 ho (by decide)
    · rw [up_j (fun z => e (hf.2 q 3 (by omega) (by decide) z))]; exact v2 q (by omega)
  clear e3
  refine ⟨by omega, f 4, (by rw [f3 k hk4]; exact hv 4 (by decide)), hf.1 4 (by decide), fun s4 e4 => ?_⟩
  have f4 : ∀ k, k ≠ 6 → s4 k = σ k := fun k hk => by rw [e4, up_k hk]; exact f3 k hk
  have v4 : ∀ q, q < 5 → s4 6 (f q) = nI (P o q) := fun q hq => by
    rw [e4]
    by_cases e : q = 4
    · rw [e, up_s, f3 4 (by decide)]; exact hO.1 o 4 ho (by decide)
    · rw [up_j (fun z => e (hf.2 q 4 (by omega) (by decide) z))]; exact v3 q (by omega)
  clear e4
  refine ⟨by omega, f 5, (by rw [f4 k hk4]; exact hv 5 (by decide)), hf.1 5 (by decide), fun s5 e5 => ?_⟩
  have f5 : ∀ k, k ≠ 6 → s5 k = σ k := fun k hk => by rw [e5, up_k hk]; exact f4 k hk
  have v5 : ∀ q, q < 6 → s5 6 (f q) = nI (P o q) := fun q hq => by
    rw [e5]
    by_cases e : q = 5
    · rw [e, up_s, f4 4 (by decide)]; exact hO.1 o 5 ho (by decide)
    · rw [up_j (fun z => e (hf.2 q 5 (by omega) (by decide) z))]; exact v4 q (by omega)
  clear e5
  refine ⟨fun τ r2 => τ = s5 ∧ r2 = nI (mvO f o), ok_numberOf ia_6 (Nat.le_of_ble_eq_true rfl) (act_PM hf (P_ok ho).1) (fun q hq => ?_) ⟨rfl, rfl⟩, ?_⟩
  · obtain ⟨h1, h2⟩ := inv6_spec hf hq
    have h3 := v5 (inv6 f q) h1
    rw [h2] at h3
    exact h3
  · rintro t6 r6 ⟨rfl, rfl⟩
    exact K _ f5
