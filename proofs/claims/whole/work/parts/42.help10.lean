/-! the search of BETTER: the one of the reference -/
/-- where the piece from p is, when the order o is still to be made of g -/
def plO (o : Nat) (g : Nat → Nat) (p : Nat) : Nat := inv6 (P o) (g p)
theorem plO_lt {o : Nat} (ho : o < 720) {g : Nat → Nat} (hg : PM g) {p : Nat} (hp : p < 6) : plO o g p < 6 := (inv6_spec (P_ok ho).1 (hg.1 p hp)).1
theorem plO_mo {S : Nat → Int32} (hS : IS S) {m o : Nat} (hm : m < 2 * cT S) (ho : o < 720) {g : Nat → Nat} (hg : PM g) {p : Nat} (hp : p < 6) : gm S m (plO o g p) = plO (mo S m o) g p := by
  have h1 := gm_PM hS hm
  have h2 := plO_lt ho hg hp
  have h3 := mo_lt hS hm ho
  have h4 : P (mo S m o) (gm S m (plO o g p)) = g p := by
    rw [mo, mvO_P h1 ho (h1.1 _ h2), act_at h1 h2]
    exact (inv6_spec (P_ok ho).1 (hg.1 p hp)).2
  have h5 := inv6_of (P_ok h3).1 (h1.1 _ h2)
  rw [h4] at h5
  exact h5.symm
theorem plO_0 {g : Nat → Nat} (hg : PM g) {p : Nat} (hp : p < 6) : plO 0 g p = g p := by
  have h1 := inv6_of (P_ok (show 0 < 720 by decide)).1 (hg.1 p hp)
  rw [P_0 (hg.1 p hp)] at h1
  exact h1
theorem plO_eq {o : Nat} (ho : o < 720) {g : Nat → Nat} (hg : PM g) (h : ∀ p, p < 6 → plO o g p = g p) : o = 0 := P_eq0 ho fun x hx => by
  obtain ⟨p, hp, rfl⟩ := hg.surj hx
  have h2 := (inv6_spec (P_ok ho).1 (hg.1 p hp)).2
  have h3 : inv6 (P o) (g p) = g p := h p hp
  rwa [h3] at h2
def BM (F0 : Nat → Int32) (b : BT) (τ : SG) : Prop := τ 102 16 = nI b.1 ∧ (0 < b.1 → τ 102 15 = nI b.2.1) ∧ (∀ i, i < b.1 → τ 109 i = nI (b.2.2 i)) ∧ (b.1 = 0 → ∀ j, τ 109 j = F0 j)
def TF (k : Nat) (σ τ : SG) : Prop := (∀ k', k' ≠ 102 → k' ≠ 109 → k' ≠ 110 → k' ≠ 112 → τ k' = σ k') ∧ (∀ j, j ≠ 15 → j ≠ 16 → τ 102 j = σ 102 j) ∧ (∀ j, j < 6 * k + 6 → τ 112 j = σ 112 j) ∧ ∀ i, i < k → τ 110 i = σ 110 i
theorem TF.rf {k : Nat} {σ : SG} : TF k σ σ := ⟨fun _ _ _ _ _ => rfl, fun _ _ _ => rfl, fun _ _ => rfl, fun _ _ => rfl⟩
theorem TF.tr {k : Nat} {σ τ υ : SG} (h : TF k σ τ) (h2 : TF k τ υ) : TF k σ υ := ⟨fun k' a b c d => (h2.1 k' a b c d).trans (h.1 k' a b c d), fun j a b => (h2.2.1 j a b).trans (h.2.1 j a b), fun j a => (h2.2.2.1 j a).trans (h.2.2.1 j a), fun j a => (h2.2.2.2 j a).trans (h.2.2.2 j a)⟩
theorem TF.dn {k : Nat} {σ τ : SG} (h : TF (k + 1) σ τ) : TF k σ τ := ⟨h.1, h.2.1, fun j a => h.2.2.1 j (by omega), fun j a => h.2.2.2 j (by omega)⟩
def MIH (S : Nat → Int32) (g : Nat → Nat) (F0 : Nat → Int32) (n f : Nat) : Prop := ∀ k o tm q b d, k + f = n → f < d → o < 720 → tm ≤ 297 * k → (∀ i, i < k → q i < 2 * cT S) → BK S b → ∀ s : SG, MS S s → (∀ p, p < 6 → s 111 p = nI (g p)) → (∀ p, p < 6 → s 112 (6 * k + p) = nI (plO o g p)) → BM F0 b s → (∀ i, i < k → s 110 i = nI (q i)) → ∀ post : SG → Int32 → Prop,
    (∀ τ : SG, TF k s τ → BM F0 (ms S f k o tm q b) τ → post τ 0) → IN_X12_tries d AF s [.ref 102, .int (nI k), .int (nI n), .int (nI tm)] post
theorem ml_loop {S : Nat → Int32} (hS : IS S) {g : Nat → Nat} (hg : PM g) {F0 : Nat → Int32} {n f : Nat} (hn : n ≤ 5) (IHf : MIH S g F0 n f) {k o tm d : Nat} {q : Nat → Nat} (hk : k + f + 1 = n) (hd : f < d) (ho : o < 720) (ht : tm ≤ 297 * k) (hq : ∀ i, i < k → q i < 2 * cT S) {σ : SG} (hM : MS S σ) (hG : ∀ p, p < 6 → σ 111 p = nI (g p)) (hP : ∀ p, p < 6 → σ 112 (6 * k + p) = nI (plO o g p)) (hW : ∀ i, i < k → σ 110 i = nI (q i)) {post : SG → Int32 → Prop} :
    ∀ c m b, m + c = 2 * cT S → BK S b → (∀ τ : SG, TF k σ τ → BM F0 (msL (fun m b => ms S f (k + 1) (mo S m o) (tm + tk S (prv q k) m) (sq q k m) b) c m b) τ → post τ 0) →
    ∀ s : SG, TF k σ s → BM F0 b s → T_X12_tries d AF post 156 [.ref 102, .int (nI k), .int (nI n), .int (nI tm), .int (nI m), dum] [] s := by
  have hT := hS.1.2
  have e0 : ∀ s : SG, TF k σ s → nI 2 * s 104 0 = nI (2 * cT S) := fun s h => by rw [h.1 104 (by decide) (by decide) (by decide) (by decide), hM 0 (by decide) (by decide), hS.1.1, pk_mul]
  intro c
  induction c with
  | zero =>
    intro m b hm hb K s h1 h2
    apply g_X12_tries_156
    rw [e0 s h1]
    exact ⟨fun _ => K s h1 h2, fun c => absurd (nI_le (show 2 * cT S ≤ m by omega) (by omega)) c⟩
  | succ c ih =>
    intro m b hm hb K s h1 h2
    have hm2 : m < 2 * cT S := by omega
    have hx := mo_lt hS hm2 ho
    have hMs : MS S s := hM.fr (h1.1 104 (by decide) (by decide) (by decide) (by decide))
    have hPs : ∀ p, p < 6 → s 112 (6 * k + p) = nI (plO o g p) := fun p hp => by rw [h1.2.2.1 _ (by omega)]; exact hP p hp
    have lt := fun p (hp : p < 6) => plO_lt ho hg hp
    rw [msL] at K
    apply g_X12_tries_156
    rw [e0 s h1]
    refine ⟨fun c => absurd c (nI_ge hm2 (by omega)), fun _ => ?_⟩
    refine ⟨by omega, ?_⟩
    rw [show s 112 (6 * k + 0) = nI (plO o g 0) from hPs 0 (by decide)]
    refine ⟨fun τ x => τ = s ∧ x = nI (gm S m (plO o g 0)), ok_goesTo hS hMs hm2 (lt 0 (by decide)) ⟨rfl, rfl⟩, ?_⟩
    rintro t0 x0 ⟨h0', rfl⟩
    refine ⟨by omega, fun s0 e0 => ?_⟩
    rw [h0'] at e0
    clear h0'
    have k0 : ∀ k', k' ≠ 112 → s0 k' = s k' := fun k' hk' => by rw [e0, up_k hk']
    have f0 : ∀ j, j < 6 * k + 6 → s0 112 j = s 112 j := fun j hj => by rw [e0, up_j (by omega)]
    have v0 : ∀ p, p < 1 → s0 112 (6 * k + 6 + p) = nI (gm S m (plO o g p)) := fun p hp => by
      rw [e0]
      by_cases e : p = 0
      · rw [e, up_s]
      · omega
    clear e0
    refine ⟨by omega, ?_⟩
    rw [show s0 112 (6 * k + 1) = nI (plO o g 1) from (f0 _ (by omega)).trans (hPs 1 (by decide))]
    refine ⟨fun τ x => τ = s0 ∧ x = nI (gm S m (plO o g 1)), ok_goesTo hS (hMs.fr (k0 104 (by decide))) hm2 (lt 1 (by decide)) ⟨rfl, rfl⟩, ?_⟩
    rintro t1 x1 ⟨h1', rfl⟩
    refine ⟨by omega, fun s1 e1 => ?_⟩
    rw [h1'] at e1
    clear h1'
    have k1 : ∀ k', k' ≠ 112 → s1 k' = s k' := fun k' hk' => by rw [e1, up_k hk']; exact k0 k' hk'
    have f1 : ∀ j, j < 6 * k + 6 → s1 112 j = s 112 j := fun j hj => by rw [e1, up_j (by omega)]; exact f0 j hj
    have v1 : ∀ p, p < 2 → s1 112 (6 * k + 6 + p) = nI (gm S m (plO o g p)) := fun p hp => by
      rw [e1]
      by_cases e : p = 1
      · rw [e, up_s]
      · rw [up_j (by omega)]; exact v0 p (by omega)
    clear e1
    refine ⟨by omega, ?_⟩
    rw [show s1 112 (6 * k + 2) = nI (plO o g 2) from (f1 _ (by omega)).trans (hPs 2 (by decide))]
    refine ⟨fun τ x => τ = s1 ∧ x = nI (gm S m (plO o g 2)), ok_goesTo hS (hMs.fr (k1 104 (by decide))) hm2 (lt 2 (by decide)) ⟨rfl, rfl⟩, ?_⟩
    rintro t2 x2 ⟨h2', rfl⟩
    refine ⟨by omega, fun s2 e2 => ?_⟩
    rw [h2'] at e2
    clear h2'
    have k2 : ∀ k', k' ≠ 112 → s2 k' = s k' := fun k' hk' => by rw [e2, up_k hk']; exact k1 k' hk'
    have f2 : ∀ j, j < 6 * k + 6 → s2 112 j = s 112 j := fun j hj => by rw [e2, up_j (by omega)]; exact f1 j hj
    have v2 : ∀ p, p < 3 → s2 112 (6 * k + 6 + p) = nI (gm S m (plO o g p)) := fun p hp => by
      rw [e2]
      by_cases e : p = 2
      · rw [e, up_s]
      · rw [up_j (by omega)]; exact v1 p (by omega)
    clear e2
    refine ⟨by omega, ?_⟩
    rw [show s2 112 (6 * k + 3) = nI (plO o g 3) from (f2 _ (by omega)).trans (hPs 3 (by decide))]
    refine ⟨fun τ x => τ = s2 ∧ x = nI (gm S m (plO o g 3)), ok_goesTo hS (hMs.fr (k2 104 (by decide))) hm2 (lt 3 (by decide)) ⟨rfl, rfl⟩, ?_⟩
    rintro t3 x3 ⟨h3', rfl⟩
    refine ⟨by omega, fun s3 e3 => ?_⟩
    rw [h3'] at e3
    clear h3'
    have k3 : ∀ k', k' ≠ 112 → s3 k' = s k' := fun k' hk' => by rw [e3, up_k hk']; exact k2 k' hk'
    have f3 : ∀ j, j < 6 * k + 6 → s3 112 j = s 112 j := fun j hj => by rw [e3, up_j (by omega)]; exact f2 j hj
    have v3 : ∀ p, p < 4 → s3 112 (6 * k + 6 + p) = nI (gm S m (plO o g p)) := fun p hp => by
      rw [e3]
      by_cases e : p = 3
      · rw [e, up_s]
      · rw [up_j (by omega)]; exact v2 p (by omega)
    clear e3
    refine ⟨by omega, ?_⟩
    rw [show s3 112 (6 * k + 4) = nI (plO o g 4) from (f3 _ (by omega)).trans (hPs 4 (by decide))]
    refine ⟨fun τ x => τ = s3 ∧ x = nI (gm S m (plO o g 4)), ok_goesTo hS (hMs.fr (k3 104 (by decide))) hm2 (lt 4 (by decide)) ⟨rfl, rfl⟩, ?_⟩
    rintro t4 x4 ⟨h4', rfl⟩
    refine ⟨by omega, fun s4 e4 => ?_⟩
    rw [h4'] at e4
    clear h4'
    have k4 : ∀ k', k' ≠ 112 → s4 k' = s k' := fun k' hk' => by rw [e4, up_k hk']; exact k3 k' hk'
    have f4 : ∀ j, j < 6 * k + 6 → s4 112 j = s 112 j := fun j hj => by rw [e4, up_j (by omega)]; exact f3 j hj
    have v4 : ∀ p, p < 5 → s4 112 (6 * k + 6 + p) = nI (gm S m (plO o g p)) := fun p hp => by
      rw [e4]
      by_cases e : p = 4
      · rw [e, up_s]
      · rw [up_j (by omega)]; exact v3 p (by omega)
    clear e4
    refine ⟨by omega, ?_⟩
    rw [show s4 112 (6 * k + 5) = nI (plO o g 5) from (f4 _ (by omega)).trans (hPs 5 (by decide))]
    refine ⟨fun τ x => τ = s4 ∧ x = nI (gm S m (plO o g 5)), ok_goesTo hS (hMs.fr (k4 104 (by decide))) hm2 (lt 5 (by decide)) ⟨rfl, rfl⟩, ?_⟩
    rintro t5 x5 ⟨h5', rfl⟩
    refine ⟨by omega, fun s5 e5 => ?_⟩
    rw [h5'] at e5
    clear h5'
    have k5 : ∀ k', k' ≠ 112 → s5 k' = s k' := fun k' hk' => by rw [e5, up_k hk']; exact k4 k' hk'
    have f5 : ∀ j, j < 6 * k + 6 → s5 112 j = s 112 j := fun j hj => by rw [e5, up_j (by omega)]; exact f4 j hj
    have v5 : ∀ p, p < 6 → s5 112 (6 * k + 6 + p) = nI (gm S m (plO o g p)) := fun p hp => by
      rw [e5]
      by_cases e : p = 5
      · rw [e, up_s]
      · rw [up_j (by omega)]; exact v4 p (by omega)
    clear e5
    refine ⟨by omega, fun s9 e9 => ⟨by omega, ?_⟩⟩
    have k9 : ∀ k', k' ≠ 110 → k' ≠ 112 → s9 k' = s k' := fun k' a b => by rw [e9, up_k a]; exact k5 k' b
    have f9 : TF k s s9 := ⟨fun k' a b c d => k9 k' c d, fun j _ _ => by rw [k9 102 (by decide) (by decide)], fun j hj => by rw [e9, up_k (by decide)]; exact f5 j hj, fun i hi => by rw [e9, up_j (by omega), k5 110 (by decide)]⟩
    have w9 : ∀ i, i < k + 1 → s9 110 i = nI (sq q k m i) := fun i hi => by
      unfold sq
      rw [e9]
      by_cases e : i = k
      · rw [e, up_s, if_pos rfl]
      · rw [up_j e, if_neg e, k5 110 (by decide), h1.2.2.2 i (by omega)]; exact hW i (by omega)
    have p9 : ∀ p, p < 6 → s9 112 (6 * (k + 1) + p) = nI (plO (mo S m o) g p) := fun p hp => by rw [e9, up_k (by decide), show 6 * (k + 1) + p = 6 * k + 6 + p by omega, v5 p hp, plO_mo hS hm2 ho hg hp]
    have b9 : BM F0 b s9 := by unfold BM; rw [k9 102 (by decide) (by decide), k9 109 (by decide) (by decide)]; exact h2
    have M9 : MS S s9 := hMs.fr (k9 104 (by decide) (by decide))
    have G9 : ∀ p, p < 6 → s9 111 p = nI (g p) := fun p hp => by rw [k9 111 (by decide) (by decide), h1.1 111 (by decide) (by decide) (by decide) (by decide)]; exact hG p hp
    have tkl := tk_le hS.2.2.2.2.2.2.1 (prv_lt hS hq) (show m < 12 by omega)
    have go : IN_X12_tries d AF s9 [.ref 102, .int (nI (k + 1)), .int (nI n), .int (nI tm + nI (tk S (prv q k) m))] (fun τ x => x = 0 → TF (k + 1) s9 τ ∧ BM F0 (ms S f (k + 1) (mo S m o) (tm + tk S (prv q k) m) (sq q k m) b) τ) := by
      rw [nI_add]
      exact IHf (k + 1) _ _ _ b d (by omega) hd hx (by omega) (sq_lt hq hm2) hb s9 M9 G9 p9 b9 w9 _ (fun τ a b _ => ⟨a, b⟩)
    have fin : ∀ t : SG, (0 = (0 : Int32) → TF (k + 1) s9 t ∧ BM F0 (ms S f (k + 1) (mo S m o) (tm + tk S (prv q k) m) (sq q k m) b) t) → T_X12_tries d AF post 156 [.ref 102, .int (nI k), .int (nI n), .int (nI tm), .int (nI (m + 1)), dum] [] t := fun t ht => by
      obtain ⟨g1, g2⟩ := ht rfl
      exact ih (m + 1) _ (by omega) (ms_ok hS f (k + 1) _ _ _ b (by omega) (by omega) (sq_lt hq hm2) hb) K t ((h1.tr f9).tr g1.dn) g2
    refine ⟨fun k0 => ?_, fun k0 => ?_⟩
    · have ep : prv q k = some (q (k - 1)) := if_neg k0
      have hlt := prv_lt hS hq
      rw [ep] at go hlt fin
      refine ⟨by omega, by omega, ?_⟩
      rw [show s9 110 (k - 1) = aI (some (q (k - 1))) by rw [w9 (k - 1) (by omega), sq, if_neg (by omega)]; rfl]
      refine ⟨fun τ x => τ = s9 ∧ x = nI (tk S (some (q (k - 1))) m), ok_mtakes (a := some (q (k - 1))) hS.2.2.2.2.2.2.1 M9 (show m < 12 by omega) hlt ⟨rfl, rfl⟩, ?_⟩
      rintro t x ⟨rfl, rfl⟩
      exact ⟨_, go, fin⟩
    · have ep : prv q k = none := if_pos k0
      rw [ep] at go fin
      refine ⟨fun τ x => τ = s9 ∧ x = nI (tk S none m), ok_mtakes (a := none) hS.2.2.2.2.2.2.1 M9 (show m < 12 by omega) (fun b hb => absurd hb (by simp)) ⟨rfl, rfl⟩, ?_⟩
      rintro t x ⟨rfl, rfl⟩
      exact ⟨_, go, fin⟩
theorem mcopy {S : Nat → Int32} {F0 : Nat → Int32} {n k tm d : Nat} {q : Nat → Nat} (hk : k ≤ 5) (hn : n ≤ 5) (hk0 : 0 < k) {σ : SG} (hW : ∀ i, i < k → σ 110 i = nI (q i)) {post : SG → Int32 → Prop}
    (R : ∀ s' : SG, TF k σ s' → BM F0 (k, tm, q) s' → ((k = n → post s' 0) ∧ (¬ k = n → ((s' 102 16 ≤ 0 → T_X12_tries d AF post 156 [.ref 102, .int (nI k), .int (nI n), .int (nI tm), .int (nI 0), dum] [] s') ∧ (¬ s' 102 16 ≤ 0 → ((nI tm < s' 102 15 → T_X12_tries d AF post 156 [.ref 102, .int (nI k), .int (nI n), .int (nI tm), .int (nI 0), dum] [] s') ∧ (¬ nI tm < s' 102 15 → post s' 0))))))) :
    ∀ c i, i + c = k → ∀ s : SG, TF k σ s → s 102 16 = nI k → s 102 15 = nI tm → (∀ j, j < i → s 109 j = nI (q j)) → T_X12_tries d AF post 106 [.ref 102, .int (nI k), .int (nI n), .int (nI tm), dum, .int (nI i)] [] s := by
  intro c
  induction c with
  | zero =>
    intro i hi s h1 h2 h3 h4
    obtain rfl : i = k := by omega
    apply g_X12_tries_106
    exact ⟨by omega, by omega, fun _ => ⟨by omega, by omega, R s h1 ⟨h2, fun _ => h3, h4, fun z => absurd z (by show ¬ i = 0; omega)⟩⟩, fun c => absurd c (by omega)⟩
  | succ c ih =>
    intro i hi s h1 h2 h3 h4
    apply g_X12_tries_106
    refine ⟨by omega, by omega, fun c => absurd c (by omega), fun _ => ⟨by omega, by omega, fun s1 e1 => ?_⟩⟩
    subst e1
    refine ih (i + 1) (by omega) _ ⟨fun k' a b c d => by rw [up_k b]; exact h1.1 k' a b c d, fun j a b => by rw [up_k (by decide)]; exact h1.2.1 j a b, fun j a => by rw [up_k (by decide)]; exact h1.2.2.1 j a, fun j a => by rw [up_k (by decide)]; exact h1.2.2.2 j a⟩ (by rw [up_k (by decide)]; exact h2) (by rw [up_k (by decide)]; exact h3) (fun j hj => ?_)
    by_cases e : j = i
    · rw [e, up_s, h1.2.2.2 i (by omega)]; exact hW i (by omega)
    · rw [up_j e]; exact h4 j (by omega)
theorem nI0_le {x : Nat} (hx : x < 2 ^ 31) : nI x ≤ 0 ↔ x = 0 := by
  rw [← nI_0, nI_leI hx (by decide)]; omega
theorem nI0_eq {x : Nat} (hx : x < 2 ^ 31) : nI x = 0 ↔ x = 0 := by
  rw [← nI_0, nI_eq hx (by decide)]
theorem tries_ok {S : Nat → Int32} (hS : IS S) {g : Nat → Nat} (hg : PM g) {F0 : Nat → Int32} {n : Nat} (hn : n ≤ 5) : ∀ f, MIH S g F0 n f := by
  intro f
  induction f with
  | zero =>
    intro k o tm q b d hk hd ho ht hq hb s hM hG hP h2 hW post K
    obtain ⟨d, rfl⟩ : ∃ e, d = e + 1 := ⟨d - 1, by omega⟩
    have hbl := look_ok (o := o) hb (show k ≤ 5 by omega) ht hq
    have b5 := hb.1
    have b6 := hb.2.1
    have rest : ∀ s' : SG, TF k s s' → BM F0 (look k o tm q b) s' → ((k = n → post s' 0) ∧ (¬ k = n → ((s' 102 16 ≤ 0 → T_X12_tries d AF post 156 [.ref 102, .int (nI k), .int (nI n), .int (nI tm), .int (nI 0), dum] [] s') ∧ (¬ s' 102 16 ≤ 0 → ((nI tm < s' 102 15 → T_X12_tries d AF post 156 [.ref 102, .int (nI k), .int (nI n), .int (nI tm), .int (nI 0), dum] [] s') ∧ (¬ nI tm < s' 102 15 → post s' 0)))))) := fun s' r1 r2 => by
      have l5 := hbl.1
      have l6 := hbl.2.1
      refine ⟨fun _ => K s' r1 ?_, fun c => absurd (show k = n by omega) c⟩
      rw [ms]; exact r2
    have same : look k o tm q b = b → k < 2 ^ 31 ∧ n < 2 ^ 31 ∧ ((k = n → post s 0) ∧ (¬ k = n → ((s 102 16 ≤ 0 → T_X12_tries d AF post 156 [.ref 102, .int (nI k), .int (nI n), .int (nI tm), .int (nI 0), dum] [] s) ∧ (¬ s 102 16 ≤ 0 → ((nI tm < s 102 15 → T_X12_tries d AF post 156 [.ref 102, .int (nI k), .int (nI n), .int (nI tm), .int (nI 0), dum] [] s) ∧ (¬ nI tm < s 102 15 → post s 0)))))) := fun e => ⟨by omega, by omega, rest s TF.rf (by rw [e]; exact h2)⟩
    have new : look k o tm q b = (k, tm, q) → 0 < k → ∀ s1, s1 = up s 102 16 (nI k) → ∀ s2, s2 = up s1 102 15 (nI tm) → T_X12_tries d AF post 106 [.ref 102, .int (nI k), .int (nI n), .int (nI tm), dum, .int (nI 0)] [] s2 := fun e hk0 s1 e1 s2 e2 => by
      rw [e] at rest
      have f2 : TF k s s2 := ⟨fun k' a _ _ _ => by rw [e2, up_k a, e1, up_k a], fun j a b => by rw [e2, up_j a, e1, up_j b], fun j _ => by rw [e2, up_k (by decide), e1, up_k (by decide)], fun j _ => by rw [e2, up_k (by decide), e1, up_k (by decide)]⟩
      exact mcopy (S := S) (F0 := F0) (by omega) hn hk0 (fun i hi => by rw [e2, up_k (by decide), e1, up_k (by decide)]; exact hW i hi) (fun s' r1 r2 => rest s' (f2.tr r1) r2) k 0 (Nat.zero_add _) s2 TF.rf (by rw [e2, up_j (by decide), e1, up_s]) (by rw [e2, up_s]) (fun j hj => absurd hj (Nat.not_lt_zero _))
    have eqv : ∀ p, p < 6 → (s 112 (6 * k + p) = s 111 p ↔ plO o g p = g p) := fun p hp => by
      have l1 := plO_lt ho hg hp
      have l2 := hg.1 p hp
      rw [hP p hp, hG p hp]
      exact nI_eq (by omega) (by omega)
    have no : ∀ p, p < 6 → ¬ s 112 (6 * k + p) = s 111 p → look k o tm q b = b := fun p hp c => look_id fun z => c ((eqv p hp).2 (by rw [z]; exact plO_0 hg hp))
    refine ⟨⟨_, _, rfl, rfl, Nat.le_of_ble_eq_true rfl, rc_102⟩, Nat.le_of_ble_eq_true rfl, g_X12_tries_0 ⟨fun ck => ?_, fun ck => ⟨by omega, fun c0 => same (no 0 (by decide) c0), fun c0 => ⟨by omega, fun c1 => same (no 1 (by decide) c1), fun c1 => ⟨by omega, fun c2 => same (no 2 (by decide) c2), fun c2 => ⟨by omega, fun c3 => same (no 3 (by decide) c3), fun c3 => ⟨by omega, fun c4 => same (no 4 (by decide) c4), fun c4 => ⟨by omega, fun c5 => same (no 5 (by decide) c5), fun c5 => ?_⟩⟩⟩⟩⟩⟩⟩⟩
    · have k0 : k = 0 := (nI0_le (show k < 2 ^ 31 by omega)).1 ck
      exact same (if_neg fun z => by omega)
    have k0 : 0 < k := by
      have : ¬ k = 0 := fun z => ck ((nI0_le (show k < 2 ^ 31 by omega)).2 z)
      omega
    have co : o = 0 := plO_eq ho hg fun p hp => by
      rcases lt6 hp with rfl | rfl | rfl | rfl | rfl | rfl
      · exact (eqv 0 hp).1 c0
      · exact (eqv 1 hp).1 c1
      · exact (eqv 2 hp).1 c2
      · exact (eqv 3 hp).1 c3
      · exact (eqv 4 hp).1 c4
      · exact (eqv 5 hp).1 c5
    refine ⟨fun z0 => ?_, fun z0 => ⟨fun cl => ?_, fun cl => ⟨fun ce => ?_, fun ce => ⟨fun cg => ?_, fun cg => ?_⟩⟩⟩⟩
    all_goals rw [h2.1, nI0_eq (by omega)] at z0
    · exact new (if_pos ⟨k0, co, Or.inl z0⟩) k0
    all_goals have e15 := h2.2.1 (by omega)
    · rw [e15, nI_ltI (by omega) (by omega)] at cl
      exact new (if_pos ⟨k0, co, by omega⟩) k0
    all_goals rw [e15, nI_ltI (by omega) (by omega)] at cl
    all_goals rw [e15, nI_eq (by omega) (by omega)] at ce
    · exact same (if_neg fun z => by omega)
    all_goals rw [h2.1, nI_leI (by omega) (by omega)] at cg
    · exact same (if_neg fun z => by omega)
    · exact new (if_pos ⟨k0, co, by omega⟩) k0
  | succ f IHf =>
    intro k o tm q b d hk hd ho ht hq hb s hM hG hP h2 hW post K
    obtain ⟨d, rfl⟩ : ∃ e, d = e + 1 := ⟨d - 1, by omega⟩
    have hbl := look_ok (o := o) hb (show k ≤ 5 by omega) ht hq
    have b5 := hb.1
    have b6 := hb.2.1
    have rest : ∀ s' : SG, TF k s s' → BM F0 (look k o tm q b) s' → ((k = n → post s' 0) ∧ (¬ k = n → ((s' 102 16 ≤ 0 → T_X12_tries d AF post 156 [.ref 102, .int (nI k), .int (nI n), .int (nI tm), .int (nI 0), dum] [] s') ∧ (¬ s' 102 16 ≤ 0 → ((nI tm < s' 102 15 → T_X12_tries d AF post 156 [.ref 102, .int (nI k), .int (nI n), .int (nI tm), .int (nI 0), dum] [] s') ∧ (¬ nI tm < s' 102 15 → post s' 0)))))) := fun s' r1 r2 => by
      have l5 := hbl.1
      have l6 := hbl.2.1
      rw [ms] at K
      have go : ¬ (0 < (look k o tm q b).1 ∧ (look k o tm q b).2.1 ≤ tm) → T_X12_tries d AF post 156 [.ref 102, .int (nI k), .int (nI n), .int (nI tm), .int (nI 0), dum] [] s' := fun c => by
        rw [if_neg c] at K
        exact ml_loop hS hg hn IHf (by omega) (by omega) ho ht hq hM hG hP hW (2 * cT S) 0 _ (Nat.zero_add _) hbl K s' r1 r2
      refine ⟨fun c => absurd c (by omega), fun _ => ?_⟩
      rw [r2.1, nI0_le (by omega)]
      refine ⟨fun c => go (by omega), fun c => ?_⟩
      rw [r2.2.1 (by omega), nI_ltI (by omega) (by omega)]
      refine ⟨fun c2 => go (by omega), fun c2 => ?_⟩
      rw [if_pos ⟨by omega, by omega⟩] at K
      exact K s' r1 r2
    have same : look k o tm q b = b → k < 2 ^ 31 ∧ n < 2 ^ 31 ∧ ((k = n → post s 0) ∧ (¬ k = n → ((s 102 16 ≤ 0 → T_X12_tries d AF post 156 [.ref 102, .int (nI k), .int (nI n), .int (nI tm), .int (nI 0), dum] [] s) ∧ (¬ s 102 16 ≤ 0 → ((nI tm < s 102 15 → T_X12_tries d AF post 156 [.ref 102, .int (nI k), .int (nI n), .int (nI tm), .int (nI 0), dum] [] s) ∧ (¬ nI tm < s 102 15 → post s 0)))))) := fun e => ⟨by omega, by omega, rest s TF.rf (by rw [e]; exact h2)⟩
    have new : look k o tm q b = (k, tm, q) → 0 < k → ∀ s1, s1 = up s 102 16 (nI k) → ∀ s2, s2 = up s1 102 15 (nI tm) → T_X12_tries d AF post 106 [.ref 102, .int (nI k), .int (nI n), .int (nI tm), dum, .int (nI 0)] [] s2 := fun e hk0 s1 e1 s2 e2 => by
      rw [e] at rest
      have f2 : TF k s s2 := ⟨fun k' a _ _ _ => by rw [e2, up_k a, e1, up_k a], fun j a b => by rw [e2, up_j a, e1, up_j b], fun j _ => by rw [e2, up_k (by decide), e1, up_k (by decide)], fun j _ => by rw [e2, up_k (by decide), e1, up_k (by decide)]⟩
      exact mcopy (S := S) (F0 := F0) (by omega) hn hk0 (fun i hi => by rw [e2, up_k (by decide), e1, up_k (by decide)]; exact hW i hi) (fun s' r1 r2 => rest s' (f2.tr r1) r2) k 0 (Nat.zero_add _) s2 TF.rf (by rw [e2, up_j (by decide), e1, up_s]) (by rw [e2, up_s]) (fun j hj => absurd hj (Nat.not_lt_zero _))
    have eqv : ∀ p, p < 6 → (s 112 (6 * k + p) = s 111 p ↔ plO o g p = g p) := fun p hp => by
      have l1 := plO_lt ho hg hp
      have l2 := hg.1 p hp
      rw [hP p hp, hG p hp]
      exact nI_eq (by omega) (by omega)
    have no : ∀ p, p < 6 → ¬ s 112 (6 * k + p) = s 111 p → look k o tm q b = b := fun p hp c => look_id fun z => c ((eqv p hp).2 (by rw [z]; exact plO_0 hg hp))
    refine ⟨⟨_, _, rfl, rfl, Nat.le_of_ble_eq_true rfl, rc_102⟩, Nat.le_of_ble_eq_true rfl, g_X12_tries_0 ⟨fun ck => ?_, fun ck => ⟨by omega, fun c0 => same (no 0 (by decide) c0), fun c0 => ⟨by omega, fun c1 => same (no 1 (by decide) c1), fun c1 => ⟨by omega, fun c2 => same (no 2 (by decide) c2), fun c2 => ⟨by omega, fun c3 => same (no 3 (by decide) c3), fun c3 => ⟨by omega, fun c4 => same (no 4 (by decide) c4), fun c4 => ⟨by omega, fun c5 => same (no 5 (by decide) c5), fun c5 => ?_⟩⟩⟩⟩⟩⟩⟩⟩
    · have k0 : k = 0 := (nI0_le (show k < 2 ^ 31 by omega)).1 ck
      exact same (if_neg fun z => by omega)
    have k0 : 0 < k := by
      have : ¬ k = 0 := fun z => ck ((nI0_le (show k < 2 ^ 31 by omega)).2 z)
      omega
    have co : o = 0 := plO_eq ho hg fun p hp => by
      rcases lt6 hp with rfl | rfl | rfl | rfl | rfl | rfl
      · exact (eqv 0 hp).1 c0
      · exact (eqv 1 hp).1 c1
      · exact (eqv 2 hp).1 c2
      · exact (eqv 3 hp).1 c3
      · exact (eqv 4 hp).1 c4
      · exact (eqv 5 hp).1 c5
    refine ⟨fun z0 => ?_, fun z0 => ⟨fun cl => ?_, fun cl => ⟨fun ce => ?_, fun ce => ⟨fun cg => ?_, fun cg => ?_⟩⟩⟩⟩
    all_goals rw [h2.1, nI0_eq (by omega)] at z0
    · exact new (if_pos ⟨k0, co, Or.inl z0⟩) k0
    all_goals have e15 := h2.2.1 (by omega)
    · rw [e15, nI_ltI (by omega) (by omega)] at cl
      exact new (if_pos ⟨k0, co, by omega⟩) k0
    all_goals rw [e15, nI_ltI (by omega) (by omega)] at cl
    all_goals rw [e15, nI_eq (by omega) (by omega)] at ce
    · exact same (if_neg fun z => by omega)
    all_goals rw [h2.1, nI_leI (by omega) (by omega)] at cg
    · exact same (if_neg fun z => by omega)
    · exact new (if_pos ⟨k0, co, by omega⟩) k0
