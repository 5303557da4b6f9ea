/-! takeRead of turns and of rows, firstTowardsSolved -/
theorem inv6_inv6 {f : Nat → Nat} (hf : PM f) {p : Nat} (hp : p < 6) : inv6 (inv6 f) p = f p := by
  have h := inv6_of (inv6_PM hf) (hf.1 p hp)
  rw [inv6_of hf hp] at h
  exact h
theorem mvO_inv2 {f : Nat → Nat} (hf : PM f) {o : Nat} (ho : o < 720) : mvO f (mvO (inv6 f) o) = o := by
  have h := mvO_inv (inv6_PM hf) ho
  rw [mvO_cong (inv6_PM (inv6_PM hf)) (fun p hp => inv6_inv6 hf hp)] at h
  exact h
def TK (T : Nat) (π : Nat → Nat) (σ s : SG) : Prop := (∀ p, p < 6 → s (8 + 1 + (2 * T + 1)) p = nI (inv6 π p)) ∧ ∀ k, k ≠ 6 → k ≠ 8 + 1 + (2 * T + 1) → k ≠ 21 + 1 + 2 * T → k ≠ 21 + 1 + (2 * T + 1) → s k = σ k
theorem takeT_loop {σ : SG} (hO : CO σ) {T : Nat} (hT : T < 6) (h0 : σ 7 0 = nI T) {π : Nat → Nat} (hπ : PM π) (hg : ∀ p, p < 6 → σ (8 + 1 + 2 * T) p = nI (π p)) {mo' : Nat → Nat → Nat} (hold : ∀ m o, m < 2 * T → o < 720 → σ (21 + 1 + m) o = nI (mo' m o)) (hlt : ∀ m o, m < 2 * T → o < 720 → mo' m o < 720) (e1 : ∀ o, o < 720 → mo' (2 * T) o = mvO π o) (e2 : ∀ o, o < 720 → mo' (2 * T + 1) o = mvO (inv6 π) o) {post : SG → Int32 → Prop}
    (K : ∀ τ : SG, τ 7 0 = nI (T + 1) → (∀ p, p < 6 → τ (8 + 1 + (2 * T + 1)) p = nI (inv6 π p)) → (∀ m o, m < 2 * T + 2 → o < 720 → τ (21 + 1 + m) o = nI (mo' m o)) → (∀ o, o < 720 → isD (2 * T + 2) mo' o (τ 34 o)) → (∀ k, k ≠ 6 → k ≠ 7 → k ≠ 8 + 1 + (2 * T + 1) → k ≠ 21 + 1 + 2 * T → k ≠ 21 + 1 + (2 * T + 1) → k ≠ 34 → k ≠ 35 → τ k = σ k) → post τ 0) :
    ∀ f o, o + f = 720 → ∀ s : SG, TK T π σ s → (∀ o', o' < o → s (21 + 1 + 2 * T) o' = nI (mvO π o') ∧ s (21 + 1 + (2 * T + 1)) (mvO π o') = nI o') → T_X9_takeRead AF post 43 [.ref 7, .int (nI (2 * T)), .int (nI (2 * T + 1)), .int (nI o), dum] [] s := by
  intro f
  induction f with
  | zero =>
    intro o ho s hs hr
    obtain rfl : o = 720 := by omega
    apply g_X9_takeRead_43
    refine ⟨by decide, fun _ s1 es => ?_, fun c => absurd c (by decide)⟩
    have f1 : ∀ k, k ≠ 7 → s1 k = s k := fun k hk => by rw [es, up_k hk]
    have f2 : ∀ k, k ≠ 6 → k ≠ 7 → k ≠ 8 + 1 + (2 * T + 1) → k ≠ 21 + 1 + 2 * T → k ≠ 21 + 1 + (2 * T + 1) → s1 k = σ k := fun k a b c d e => by rw [f1 k b]; exact hs.2 k a c d e
    have h70 : s1 7 0 = nI (T + 1) := by rw [es, up_s, hs.2 7 (by decide) (by omega) (by omega) (by omega), h0, nI_add]
    have hmv : ∀ m o, m < 2 * T + 2 → o < 720 → s1 (21 + 1 + m) o = nI (mo' m o) := fun m o hm ho => by
      by_cases c1 : m = 2 * T
      · rw [c1, f1 _ (by omega), (hr o ho).1, e1 o ho]
      · by_cases c2 : m = 2 * T + 1
        · have h1 := mvO_lt (inv6_PM hπ) ho
          have h2 := (hr _ h1).2
          rw [mvO_inv2 hπ ho] at h2
          rw [c2, f1 _ (by omega), h2, e2 o ho]
        · rw [f2 _ (by omega) (by omega) (by omega) (by omega) (by omega)]; exact hold m o (by omega) ho
    have hmo : ∀ m, m < 2 * T + 2 → ∀ o, o < 720 → mo' m o < 720 := fun m hm o ho => by
      by_cases c1 : m = 2 * T
      · rw [c1, e1 o ho]; exact mvO_lt hπ ho
      · by_cases c2 : m = 2 * T + 1
        · rw [c2, e2 o ho]; exact mvO_lt (inv6_PM hπ) ho
        · exact hlt m o (by omega) ho
    refine ⟨fun τ r => r = 0 → post τ 0, ok_measure (A := AF) (M := 2 * T + 2) (mo := mo') (Nat.le_of_ble_eq_true rfl) rfl rfl rfl (by omega) hmo (by rw [h70, pk_mul]; rfl) (fun m hm o ho => hmv m o hm ho) (fun τ hD hf _ => ?_), fun τ hp => hp rfl⟩
    refine K τ (by rw [hf 7 (by decide) (by decide)]; exact h70) (fun p hp => by rw [hf _ (by omega) (by omega), f1 _ (by omega)]; exact hs.1 p hp) (fun m o hm ho => by rw [hf _ (by omega) (by omega)]; exact hmv m o hm ho) hD (fun k a b c d e g h => by rw [hf k g h]; exact f2 k a b c d e)
  | succ f ih =>
    intro o ho s hs hr
    have ho7 : o < 720 := by omega
    apply g_X9_takeRead_43
    have hgs : ∀ p, p < 6 → s (8 + 1 + 2 * T) p = nI (π p) := fun p hp => by rw [hs.2 _ (by omega) (by omega) (by omega) (by omega)]; exact hg p hp
    have hOs : CO s := hO.fr (fun k a b => hs.2 k (by omega) (by omega) (by omega) (by omega))
    refine ⟨by omega, fun c => absurd c (by omega), fun _ => ⟨by omega, fun τ r => (∀ k, k ≠ 6 → τ k = s k) ∧ r = nI (mvO π o), ok_moved hOs ho7 (gi_8 _ (show 2 * T < 12 by omega)) (gl_8 _ (by omega)) (by omega) hπ hgs (fun τ h => ⟨h, rfl⟩), ?_⟩⟩
    rintro τ r ⟨hτ, rfl⟩
    have hx := mvO_lt hπ ho7
    refine ⟨by omega, ho7, fun s1 es1 => ⟨by omega, mvO π o, rfl, hx, fun s2 es2 => ?_⟩⟩
    subst es1
    subst es2
    have rd : ∀ k j, up (up τ (21 + 1 + 2 * T) o (nI (mvO π o))) (21 + 1 + (2 * T + 1)) (mvO π o) (nI o) k j = if k = 21 + 1 + (2 * T + 1) ∧ j = mvO π o then nI o else if k = 21 + 1 + 2 * T ∧ j = o then nI (mvO π o) else τ k j := fun _ _ => rfl
    refine ih (o + 1) (by omega) _ ⟨fun p hp => ?_, fun k a b c d => ?_⟩ (fun o' ho' => ?_)
    · rw [rd, if_neg (by omega), if_neg (by omega), hτ _ (by omega)]; exact hs.1 p hp
    · rw [up_k (by omega), up_k (by omega), hτ k a]; exact hs.2 k a b c d
    · by_cases e : o' = o
      · subst e
        exact ⟨by rw [rd, if_neg (by omega), if_pos ⟨rfl, rfl⟩], by rw [rd, if_pos ⟨rfl, rfl⟩]⟩
      · have ho2 : o' < o := by omega
        obtain ⟨h1, h2⟩ := hr o' ho2
        have hne : mvO π o' ≠ mvO π o := fun z => e (by rw [← mvO_inv hπ (show o' < 720 by omega), z, mvO_inv hπ ho7])
        exact ⟨by rw [rd, if_neg (by omega), if_neg (by omega), hτ _ (by omega)]; exact h1, by rw [rd, if_neg (fun z => hne z.2), if_neg (by omega), hτ _ (by omega)]; exact h2⟩
theorem ok_takeT {σ : SG} (hO : CO σ) {T : Nat} (hT : T < 6) (h0 : σ 7 0 = nI T) {π : Nat → Nat} (hπ : PM π) (hg : ∀ p, p < 6 → σ (8 + 1 + 2 * T) p = nI (π p)) {mo' : Nat → Nat → Nat} (hold : ∀ m o, m < 2 * T → o < 720 → σ (21 + 1 + m) o = nI (mo' m o)) (hlt : ∀ m o, m < 2 * T → o < 720 → mo' m o < 720) (e1 : ∀ o, o < 720 → mo' (2 * T) o = mvO π o) (e2 : ∀ o, o < 720 → mo' (2 * T + 1) o = mvO (inv6 π) o) {post : SG → Int32 → Prop}
    (K : ∀ τ : SG, τ 7 0 = nI (T + 1) → (∀ p, p < 6 → τ (8 + 1 + (2 * T + 1)) p = nI (inv6 π p)) → (∀ m o, m < 2 * T + 2 → o < 720 → τ (21 + 1 + m) o = nI (mo' m o)) → (∀ o, o < 720 → isD (2 * T + 2) mo' o (τ 34 o)) → (∀ k, k ≠ 6 → k ≠ 7 → k ≠ 8 + 1 + (2 * T + 1) → k ≠ 21 + 1 + 2 * T → k ≠ 21 + 1 + (2 * T + 1) → k ≠ 34 → k ≠ 35 → τ k = σ k) → post τ 0) : IN_X9_takeRead AF σ [.ref 7] post := by
  refine ⟨⟨_, _, rfl, rfl, Nat.le_of_ble_eq_true rfl, rc_7⟩, Nat.le_of_ble_eq_true rfl, g_X9_takeRead_0 ?_⟩
  have eb : nI 2 * σ 7 0 + nI 1 = nI (2 * T + 1) := by rw [h0, pk_mul, nI_add]
  have ef : nI 2 * σ 7 0 = nI (2 * T) := by rw [h0, pk_mul]
  rw [eb, ef]
  refine ⟨2 * T + 1, rfl, by omega, 2 * T, rfl, by omega, π 0, hg 0 (by decide), hπ.1 0 (by decide), fun s0 e0 => ?_⟩
  have f0 : ∀ k, k ≠ 8 + 1 + (2 * T + 1) → s0 k = σ k := fun k hk => by rw [e0, up_k hk]
  have v0 : ∀ q, q < 1 → s0 (8 + 1 + (2 * T + 1)) (π q) = nI q := fun q hq => by
    rw [e0]
    by_cases e : q = 0
    · rw [e, up_s]
    · omega
  clear e0
  refine ⟨2 * T + 1, rfl, by omega, 2 * T, rfl, by omega, π 1, (by rw [f0 _ (by omega)]; exact hg 1 (by decide)), hπ.1 1 (by decide), fun s1 e1 => ?_⟩
  have f1 : ∀ k, k ≠ 8 + 1 + (2 * T + 1) → s1 k = σ k := fun k hk => by rw [e1, up_k hk]; exact f0 k hk
  have v1 : ∀ q, q < 2 → s1 (8 + 1 + (2 * T + 1)) (π q) = nI q := fun q hq => by
    rw [e1]
    by_cases e : q = 1
    · rw [e, up_s]
    · rw [up_j (fun z => e (hπ.2 q 1 (by omega) (by decide) z))]; exact v0 q (by omega)
  clear e1
  refine ⟨2 * T + 1, rfl, by omega, 2 * T, rfl, by omega, π 2, (by rw [f1 _ (by omega)]; exact hg 2 (by decide)), hπ.1 2 (by decide), fun s2 e2 => ?_⟩
  have f2 : ∀ k, k ≠ 8 + 1 + (2 * T + 1) → s2 k = σ k := fun k hk => by rw [e2, up_k hk]; exact f1 k hk
  have v2 : ∀ q, q < 3 → s2 (8 + 1 + (2 * T + 1)) (π q) = nI q := fun q hq => by
    rw [e2]
    by_cases e : q = 2
    · rw [e, up_s]
    · rw [up_j (fun z => e (hπ.2 q 2 (by omega) (by decide) z))]; exact v1 q (by omega)
  clear e2
  refine ⟨2 * T + 1, rfl, by omega, 2 * T, rfl, by omega, π 3, (by rw [f2 _ (by omega)]; exact hg 3 (by decide)), hπ.1 3 (by decide), fun s3 e3 => ?_⟩
  have f3 : ∀ k, k ≠ 8 + 1 + (2 * T + 1) → s3 k = σ k := fun k hk => by rw [e3, up_k hk]; exact f2 k hk
  have v3 : ∀ q, q < 4 → s3 (8 + 1 + (2 * T + 1)) (π q) = nI q := fun q hq => by
    rw [e3]
    by_cases e : q = 3
    · rw [e, up_s]
    · rw [up_j (fun z => e (hπ.2 q 3 (by omega) (by decide) z))]; exact v2 q (by omega)
  clear e3
  refine ⟨2 * T + 1, rfl, by omega, 2 * T, rfl, by omega, π 4, (by rw [f3 _ (by omega)]; exact hg 4 (by decide)), hπ.1 4 (by decide), fun s4 e4 => ?_⟩
  have f4 : ∀ k, k ≠ 8 + 1 + (2 * T + 1) → s4 k = σ k := fun k hk => by rw [e4, up_k hk]; exact f3 k hk
  have v4 : ∀ q, q < 5 → s4 (8 + 1 + (2 * T + 1)) (π q) = nI q := fun q hq => by
    rw [e4]
    by_cases e : q = 4
    · rw [e, up_s]
    · rw [up_j (fun z => e (hπ.2 q 4 (by omega) (by decide) z))]; exact v3 q (by omega)
  clear e4
  refine ⟨2 * T + 1, rfl, by omega, 2 * T, rfl, by omega, π 5, (by rw [f4 _ (by omega)]; exact hg 5 (by decide)), hπ.1 5 (by decide), fun s5 e5 => ?_⟩
  have f5 : ∀ k, k ≠ 8 + 1 + (2 * T + 1) → s5 k = σ k := fun k hk => by rw [e5, up_k hk]; exact f4 k hk
  have v5 : ∀ q, q < 6 → s5 (8 + 1 + (2 * T + 1)) (π q) = nI q := fun q hq => by
    rw [e5]
    by_cases e : q = 5
    · rw [e, up_s]
    · rw [up_j (fun z => e (hπ.2 q 5 (by omega) (by decide) z))]; exact v4 q (by omega)
  clear e5
  refine takeT_loop hO hT h0 hπ hg hold hlt e1 e2 K 720 0 rfl s5 ⟨fun p hp => ?_, fun k a b c d => f5 k b⟩ (fun o' ho' => absurd ho' (Nat.not_lt_zero _))
  obtain ⟨h1, h2⟩ := inv6_spec hπ hp
  have h3 := v5 (inv6 π p) h1
  rw [h2] at h3
  exact h3
def enF (mo : Nat → Nat → Nat) (μ : Nat → Nat) : Nat → Nat → Nat
  | 0, o => o
  | i + 1, o => mo (μ i) (enF mo μ i o)
theorem enF_lt {mo : Nat → Nat → Nat} {μ : Nat → Nat} {M n : Nat} (hmo : ∀ m o, m < M → o < 720 → mo m o < 720) (hμ : ∀ i, i < n → μ i < M) {o : Nat} (ho : o < 720) : ∀ {i : Nat}, i ≤ n → enF mo μ i o < 720
  | 0, _ => ho
  | i + 1, hi => hmo _ _ (hμ i hi) (enF_lt hmo hμ ho (Nat.le_of_succ_le hi))
theorem takeR_in {σ : SG} {R n M : Nat} (hR : R < 10) (hn : n ≤ 8) (hM : M ≤ 12) {μ : Nat → Nat} {mo : Nat → Nat → Nat} (h0 : σ 36 0 = nI R) (hm : ∀ i, i < n → σ (38 + 1 + R) i = nI (μ i)) (hμ : ∀ i, i < n → μ i < M) (hmv : ∀ m o, m < M → o < 720 → σ (21 + 1 + m) o = nI (mo m o)) (hmo : ∀ m o, m < M → o < 720 → mo m o < 720) {o : Nat} (ho : o < 720) {post : SG → Int32 → Prop}
    (K : ∀ s1 : SG, s1 = up σ (49 + 1 + R) o (nI (enF mo μ n o)) → T_X5_takeRead AF post 12 [.ref 36, .int (nI n), .int (nI (o + 1)), dum, dum] [] s1) :
    ∀ f i, i + f = n → T_X5_takeRead AF post 24 [.ref 36, .int (nI n), .int (nI o), .int (nI (enF mo μ i o)), .int (nI i)] [] σ := by
  intro f
  induction f with
  | zero =>
    intro i hi
    obtain rfl : i = n := by omega
    apply g_X5_takeRead_24
    exact ⟨by omega, by omega, fun _ => ⟨R, h0, hR, ho, K⟩, fun c => absurd c (by omega)⟩
  | succ f ih =>
    intro i hi
    apply g_X5_takeRead_24
    have hx := enF_lt hmo hμ ho (show i ≤ n by omega)
    refine ⟨by omega, by omega, fun c => absurd c (by omega), fun _ => ⟨R, h0, hR, by omega, μ i, hm i (by omega), by have := hμ i (by omega); omega, hx, ?_⟩⟩
    rw [hmv _ _ (hμ i (by omega)) hx]
    exact ih (i + 1) (by omega)
theorem takeR_out {σ : SG} {R n M : Nat} (hR : R < 10) (hn : n ≤ 8) (hM : M ≤ 12) {μ : Nat → Nat} {mo : Nat → Nat → Nat} (h0 : σ 36 0 = nI R) (hm : ∀ i, i < n → σ (38 + 1 + R) i = nI (μ i)) (hμ : ∀ i, i < n → μ i < M) (hmv : ∀ m o, m < M → o < 720 → σ (21 + 1 + m) o = nI (mo m o)) (hmo : ∀ m o, m < M → o < 720 → mo m o < 720) {post : SG → Int32 → Prop}
    (K : ∀ τ : SG, τ 36 0 = nI (R + 1) → (∀ o, o < 720 → τ (49 + 1 + R) o = nI (enF mo μ n o)) → (∀ k, k ≠ 36 → k ≠ 49 + 1 + R → τ k = σ k) → post τ 0) :
    ∀ f o, o + f = 720 → ∀ s : SG, (∀ o', o' < o → s (49 + 1 + R) o' = nI (enF mo μ n o')) → (∀ k, k ≠ 49 + 1 + R → s k = σ k) → T_X5_takeRead AF post 12 [.ref 36, .int (nI n), .int (nI o), dum, dum] [] s := by
  intro f
  induction f with
  | zero =>
    intro o ho s h1 h2
    obtain rfl : o = 720 := by omega
    apply g_X5_takeRead_12
    refine ⟨by decide, fun _ s1 e1 => ?_, fun c => absurd c (by decide)⟩
    subst e1
    exact K _ (by rw [up_s, h2 36 (by omega), h0, nI_add]) (fun o ho => by rw [up_k (by omega)]; exact h1 o ho) (fun k a b => by rw [up_k a]; exact h2 k b)
  | succ f ih =>
    intro o ho s h1 h2
    apply g_X5_takeRead_12
    refine ⟨by omega, fun c => absurd c (by omega), fun _ => ?_⟩
    refine takeR_in (mo := mo) (μ := μ) hR hn hM (by rw [h2 36 (by omega)]; exact h0) (fun i hi => by rw [h2 _ (by omega)]; exact hm i hi) hμ (fun m o hm2 ho2 => by rw [h2 _ (by omega)]; exact hmv m o hm2 ho2) hmo (show o < 720 by omega) (fun s1 e1 => ?_) n 0 (Nat.zero_add _)
    subst e1
    refine ih (o + 1) (by omega) _ (fun o' ho' => ?_) (fun k a => by rw [up_k a]; exact h2 k a)
    by_cases e : o' = o
    · rw [e, up_s]
    · rw [up_j e]; exact h1 o' (by omega)
theorem ok_takeR {σ : SG} {R n M : Nat} (hR : R < 10) (hn : n ≤ 8) (hM : M ≤ 12) {μ : Nat → Nat} {mo : Nat → Nat → Nat} (h0 : σ 36 0 = nI R) (hm : ∀ i, i < n → σ (38 + 1 + R) i = nI (μ i)) (hμ : ∀ i, i < n → μ i < M) (hmv : ∀ m o, m < M → o < 720 → σ (21 + 1 + m) o = nI (mo m o)) (hmo : ∀ m o, m < M → o < 720 → mo m o < 720) {post : SG → Int32 → Prop}
    (K : ∀ τ : SG, τ 36 0 = nI (R + 1) → (∀ o, o < 720 → τ (49 + 1 + R) o = nI (enF mo μ n o)) → τ 37 R = nI n → (∀ j, j ≠ R → τ 37 j = σ 37 j) → (∀ k, k ≠ 36 → k ≠ 37 → k ≠ 49 + 1 + R → τ k = σ k) → post τ 0) : IN_X5_takeRead AF σ [.ref 36, .int (nI n)] post := by
  refine ⟨⟨_, _, rfl, rfl, Nat.le_of_ble_eq_true rfl, rc_36⟩, Nat.le_of_ble_eq_true rfl, g_X5_takeRead_0 ⟨R, h0, hR, fun s1 e1 => ?_⟩⟩
  have f1 : ∀ k, k ≠ 37 → s1 k = σ k := fun k hk => by rw [e1, up_k hk]
  refine takeR_out (mo := mo) (μ := μ) hR hn hM (by rw [f1 36 (by decide)]; exact h0) (fun i hi => by rw [f1 _ (by omega)]; exact hm i hi) hμ (fun m o hm2 ho2 => by rw [f1 _ (by omega)]; exact hmv m o hm2 ho2) hmo (fun τ a1 a2 a3 => K τ a1 a2 (by rw [a3 37 (by decide) (by omega), e1, up_s]) (fun j hj => by rw [a3 37 (by decide) (by omega), e1, up_j hj]) (fun k b1 b2 b3 => by rw [a3 k b1 b3]; exact f1 k b2)) 720 0 rfl s1 (fun o' ho' => absurd ho' (Nat.not_lt_zero _)) (fun _ _ => rfl)
/-- the least move that begins so few -/
def fsF (M : Nat) (mo : Nat → Nat → Nat) (D : Nat → Int32) (o : Nat) : Nat → Nat → Int32
  | 0, _ => -9
  | f + 1, m => if D (mo m o) = D o - nI 1 then nI m else fsF M mo D o f (m + 1)
def fst (M : Nat) (mo : Nat → Nat → Nat) (D : Nat → Int32) (o : Nat) : Int32 := if D o ≤ 0 then -9 else fsF M mo D o M 0
theorem first_loop {S : Nat → Int32} (hS : IS S) {σ : SG} (hU : CU S σ) {o : Nat} (ho : o < 720) (hp : ¬ σ 34 o ≤ 0) {post : SG → Int32 → Prop} : ∀ f m, m + f = 2 * cT S → post σ (fsF (2 * cT S) (mo S) (σ 34) o f m) → T_X9_firstTowardsSolved AF post 2 [.ref 7, .int (nI o), .int (nI m)] [] σ := by
  have hT := hS.1.2
  have e0 : nI 2 * σ 7 0 = nI (2 * cT S) := by rw [hU.1, hS.1.1, pk_mul]
  intro f
  induction f with
  | zero =>
    intro m hm K
    apply g_X9_firstTowardsSolved_2
    rw [e0]
    exact ⟨fun _ => K, fun c => absurd (nI_le (show 2 * cT S ≤ m by omega) (by omega)) c⟩
  | succ f ih =>
    intro m hm K
    apply g_X9_firstTowardsSolved_2
    rw [e0]
    have hm2 : m < 2 * cT S := by omega
    refine ⟨fun c => absurd c (nI_ge (show m < 2 * cT S by omega) (by omega)), fun _ => ⟨ho, fun c => absurd c hp, fun _ => ⟨by omega, ho, mo S m o, hU.2.2.1 m o hm2 ho, mo_lt hS hm2 ho, ho, fun c => ?_, fun c => ?_⟩⟩⟩
    · refine ih (m + 1) (by omega) ?_
      rw [fsF, if_neg c] at K
      exact K
    · rw [fsF, if_pos c] at K
      exact K
theorem ok_firstT {S : Nat → Int32} (hS : IS S) {σ : SG} (hU : CU S σ) {o : Nat} (ho : o < 720) {post : SG → Int32 → Prop} (K : post σ (fst (2 * cT S) (mo S) (σ 34) o)) : IN_X9_firstTowardsSolved AF σ [.ref 7, .int (nI o)] post := by
  refine ⟨⟨_, _, rfl, rfl, Nat.le_of_ble_eq_true rfl, rc_7⟩, Nat.le_of_ble_eq_true rfl, g_X9_firstTowardsSolved_0 ?_⟩
  by_cases hp : σ 34 o ≤ 0
  · rw [fst, if_pos hp] at K
    apply g_X9_firstTowardsSolved_2
    exact ⟨fun _ => K, fun _ => ⟨ho, fun _ => K, fun c => absurd hp c⟩⟩
  · rw [fst, if_neg hp] at K
    exact first_loop hS hU ho hp (2 * cT S) 0 (Nat.zero_add _) K
