/-! THE STATE: Z is what the reference holds (by its objects' numbers); RC: the class holds the same; RM: the reference holds it -/
def cT (S : Nat → Int32) : Nat := na (S 0)
def cR (S : Nat → Int32) : Nat := na (S 1)
def cK (S : Nat → Int32) : Nat := na (S 2)
def gT (S : Nat → Int32) (t p : Nat) : Nat := na (S (11 + 6 * t + p))
def gm (S : Nat → Int32) (m : Nat) : Nat → Nat := if m % 2 = 0 then gT S (m / 2) else inv6 (gT S (m / 2))
def ln (S : Nat → Int32) (r : Nat) : Nat := na (S (95 + 9 * r))
def mv (S : Nat → Int32) (r i : Nat) : Nat := na (S (95 + 9 * r + 1 + i))
def dTn (S : Nat → Int32) (r : Nat) : Nat → Nat → Nat
  | 0, p => p
  | i + 1, p => gm S (mv S r i) (dTn S r i p)
def dT (S : Nat → Int32) (r p : Nat) : Nat := dTn S r (ln S r) p
def nw (S : Nat → Int32) (p : Nat) : Nat := na (S (5 + p))
def mo (S : Nat → Int32) (m o : Nat) : Nat := mvO (gm S m) o
def en (S : Nat → Int32) (r : Nat) : Nat → Nat → Nat
  | 0, o => o
  | i + 1, o => mo S (mv S r i) (en S r i o)
def eo (S : Nat → Int32) (r o : Nat) : Nat := en S r (ln S r) o
def ti (S : Nat → Int32) (t : Nat) : Nat := na (S (47 + t))
def ba (S : Nat → Int32) (t : Nat) : Nat := na (S (53 + t))
def af (S : Nat → Int32) (a c : Nat) : Int32 := S (59 + 6 * a + c)
def pls (S : Nat → Int32) (k : Nat) : Nat := na (S (185 + 3 * k))
def rws (S : Nat → Int32) (k : Nat) : Nat := na (S (185 + 3 * k + 1))
def see (S : Nat → Int32) (k : Nat) : Nat := na (S (185 + 3 * k + 2))
def IH (S : Nat → Int32) : Prop :=
  (∀ t, t < 6 → S (47 + t) = nI (ti S t) ∧ 1 ≤ ti S t ∧ ti S t ≤ 99 ∧ S (53 + t) = nI (ba S t) ∧ ba S t ≤ 99) ∧
  (∀ a c, a < 6 → c < 6 → -9 ≤ (af S a c).toInt ∧ (af S a c).toInt ≤ 99) ∧
  (∀ t, cT S ≤ t → t < 6 → S (47 + t) = nI 10 ∧ S (53 + t) = nI 0 ∧ ∀ c, c < 6 → af S t c = nI 0 ∧ af S c t = nI 0) ∧
  (S 3 = nI (na (S 3)) ∧ na (S 3) ≤ 100) ∧ (S 4 = nI (na (S 4)) ∧ na (S 4) ≤ 99)
def IS (S : Nat → Int32) : Prop :=
  (S 0 = nI (cT S) ∧ cT S ≤ 6) ∧ (S 1 = nI (cR S) ∧ cR S ≤ 10) ∧ (S 2 = nI (cK S) ∧ cK S ≤ 4) ∧
  (∀ t, t < cT S → (∀ p, p < 6 → S (11 + 6 * t + p) = nI (gT S t p)) ∧ PM (gT S t)) ∧
  (∀ r, r < cR S → S (95 + 9 * r) = nI (ln S r) ∧ 1 ≤ ln S r ∧ ln S r ≤ 8 ∧ ∀ i, i < ln S r → S (95 + 9 * r + 1 + i) = nI (mv S r i) ∧ mv S r i < 2 * cT S) ∧
  ((∀ p, p < 6 → S (5 + p) = nI (nw S p)) ∧ PM (nw S)) ∧ IH S ∧
  (∀ k, k < cK S → S (185 + 3 * k) = nI (pls S k) ∧ pls S k < 64 ∧ S (185 + 3 * k + 1) = nI (rws S k) ∧ rws S k < 1024 ∧ S (185 + 3 * k + 2) = nI (see S k) ∧ see S k ≤ 99)
theorem gm_PM {S : Nat → Int32} (h : IS S) {m : Nat} (hm : m < 2 * cT S) : PM (gm S m) := by
  have h1 := (h.2.2.2.1 (m / 2) (by omega)).2
  unfold gm
  split
  · exact h1
  · exact inv6_PM h1
theorem mo_lt {S : Nat → Int32} (h : IS S) {m : Nat} (hm : m < 2 * cT S) {o : Nat} (ho : o < 720) : mo S m o < 720 := mvO_lt (gm_PM h hm) ho
theorem dTn_lt {S : Nat → Int32} (h : IS S) {r : Nat} (hr : r < cR S) : ∀ {i p : Nat}, i ≤ ln S r → p < 6 → dTn S r i p < 6
  | 0, p, _, hp => hp
  | i + 1, p, hi, hp => (gm_PM h ((h.2.2.2.2.1 r hr).2.2.2 i hi).2).1 _ (dTn_lt h hr (Nat.le_of_succ_le hi) hp)
theorem dTn_PM {S : Nat → Int32} (h : IS S) {r : Nat} (hr : r < cR S) : ∀ {i : Nat}, i ≤ ln S r → PM (dTn S r i)
  | 0, _ => PM_id
  | i + 1, hi => (gm_PM h ((h.2.2.2.2.1 r hr).2.2.2 i hi).2).comp (dTn_PM h hr (Nat.le_of_succ_le hi))
theorem dT_PM {S : Nat → Int32} (h : IS S) {r : Nat} (hr : r < cR S) : PM (dT S r) := dTn_PM h hr (Nat.le_refl _)
theorem en_lt {S : Nat → Int32} (h : IS S) {r : Nat} (hr : r < cR S) {o : Nat} (ho : o < 720) : ∀ {i : Nat}, i ≤ ln S r → en S r i o < 720
  | 0, _ => ho
  | i + 1, hi => mo_lt h ((h.2.2.2.2.1 r hr).2.2.2 i hi).2 (en_lt h hr ho (Nat.le_of_succ_le hi))
/-- what a row does to an order: the piece at p goes to the place that the row does -/
theorem en_P {S : Nat → Int32} (h : IS S) {r : Nat} (hr : r < cR S) {o : Nat} (ho : o < 720) : ∀ {i p : Nat}, i ≤ ln S r → p < 6 → P (en S r i o) (dTn S r i p) = P o p
  | 0, p, _, _ => rfl
  | i + 1, p, hi, hp => by
    have h1 := gm_PM h ((h.2.2.2.2.1 r hr).2.2.2 i hi).2
    have h2 := en_lt h hr ho (Nat.le_of_succ_le hi)
    have h3 := dTn_lt h hr (Nat.le_of_succ_le hi) hp
    show P (mvO (gm S (mv S r i)) (en S r i o)) (gm S (mv S r i) (dTn S r i p)) = P o p
    rw [mvO_P h1 h2 (h1.1 _ h3), act_at h1 h3]
    exact en_P h hr ho (Nat.le_of_succ_le hi) hp
theorem eo_lt {S : Nat → Int32} (h : IS S) {r : Nat} (hr : r < cR S) {o : Nat} (ho : o < 720) : eo S r o < 720 := en_lt h hr ho (Nat.le_refl _)
theorem eo_P {S : Nat → Int32} (h : IS S) {r : Nat} (hr : r < cR S) {o p : Nat} (ho : o < 720) (hp : p < 6) : P (eo S r o) (dT S r p) = P o p := en_P h hr ho (Nat.le_refl _) hp
def cur (S : Nat → Int32) : Nat := rk (nw S)
theorem cur_lt {S : Nat → Int32} (h : IS S) : cur S < 720 := (P_rk h.2.2.2.2.2.1.2).1
theorem cur_P {S : Nat → Int32} (h : IS S) {p : Nat} (hp : p < 6) : P (cur S) p = nw S p := (P_rk h.2.2.2.2.2.1.2).2 p hp
def AG (lo hi : Nat) (σ τ : SG) : Prop := ∀ k, lo ≤ k → k ≤ hi → τ k = σ k
theorem AG.rf {lo hi : Nat} {σ : SG} : AG lo hi σ σ := fun _ _ _ => rfl
theorem AG.tr {lo hi : Nat} {σ τ υ : SG} (h : AG lo hi σ τ) (h2 : AG lo hi τ υ) : AG lo hi σ υ := fun k h3 h4 => (h2 k h3 h4).trans (h k h3 h4)
theorem AG.up {lo hi k j : Nat} {σ τ : SG} {v : Int32} (h : AG lo hi σ τ) (hk : k < lo ∨ hi < k) : AG lo hi σ (up τ k j v) := fun k2 h1 h2 => by rw [up_k (by omega)]; exact h k2 h1 h2
theorem AG.sub {lo hi lo2 hi2 : Nat} {σ τ : SG} (h : AG lo hi σ τ) (h1 : lo ≤ lo2) (h2 : hi2 ≤ hi) : AG lo2 hi2 σ τ := fun k h3 h4 => h k (by omega) (by omega)
-- the class's blocks
def CO (σ : SG) : Prop := (∀ o p, o < 720 → p < 6 → σ 4 (o * 6 + p) = nI (P o p)) ∧ ∀ o, o < 720 → σ 5 o = nI (ow o)
def CU (S : Nat → Int32) (σ : SG) : Prop := σ 7 0 = S 0 ∧ (∀ m p, m < 2 * cT S → p < 6 → σ (8 + 1 + m) p = nI (gm S m p)) ∧ (∀ m o, m < 2 * cT S → o < 720 → σ (21 + 1 + m) o = nI (mo S m o)) ∧ ∀ o, o < 720 → isD (2 * cT S) (mo S) o (σ 34 o)
def CW (S : Nat → Int32) (σ : SG) : Prop := σ 36 0 = S 1 ∧ ∀ r, r < cR S → σ 37 r = nI (ln S r) ∧ (∀ i, i < ln S r → σ (38 + 1 + r) i = nI (mv S r i)) ∧ ∀ o, o < 720 → σ (49 + 1 + r) o = nI (eo S r o)
def CH (S : Nat → Int32) (σ : SG) : Prop := (∀ t, t < 6 → σ 63 t = S (47 + t) ∧ σ 64 t = S (53 + t) ∧ ∀ c, c < 6 → σ (65 + 1 + t) c = af S t c) ∧ σ 72 0 = S 3 ∧ σ 72 1 = S 4
def CY (S : Nat → Int32) (σ : SG) : Prop := σ 77 0 = S 2 ∧ ∀ k, k < cK S → σ 78 k = nI (pls S k) ∧ σ 79 k = nI (rws S k) ∧ σ 80 k = nI (see S k)
def CN_ (S : Nat → Int32) (σ : SG) : Prop := σ 0 12 = nI (cur S)
theorem CO.fr {σ τ : SG} (h : CO σ) (a : AG 4 5 σ τ) : CO τ := by
  unfold CO; rw [a 4 (by decide) (by decide), a 5 (by decide) (by decide)]; exact h
theorem CU.fr {S : Nat → Int32} {σ τ : SG} (h : CU S σ) (hS : IS S) (a : AG 7 34 σ τ) : CU S τ := by
  have hT := hS.1.2
  refine ⟨by rw [a 7 (by decide) (by decide)]; exact h.1, fun m p hm hp => by rw [a _ (by omega) (by omega)]; exact h.2.1 m p hm hp, fun m o hm ho => by rw [a _ (by omega) (by omega)]; exact h.2.2.1 m o hm ho, fun o ho => by rw [a 34 (by decide) (by decide)]; exact h.2.2.2 o ho⟩
theorem CW.fr {S : Nat → Int32} {σ τ : SG} (h : CW S σ) (hS : IS S) (a : AG 36 59 σ τ) : CW S τ := by
  have hR := hS.2.1.2
  refine ⟨by rw [a 36 (by decide) (by decide)]; exact h.1, fun r hr => ?_⟩
  rw [a 37 (by decide) (by decide), a (38 + 1 + r) (by omega) (by omega), a (49 + 1 + r) (by omega) (by omega)]
  exact h.2 r hr
theorem CH.fr {S : Nat → Int32} {σ τ : SG} (h : CH S σ) (a : AG 63 72 σ τ) : CH S τ := by
  refine ⟨fun t ht => ?_, by rw [a 72 (by decide) (by decide)]; exact h.2.1, by rw [a 72 (by decide) (by decide)]; exact h.2.2⟩
  rw [a 63 (by decide) (by decide), a 64 (by decide) (by decide), a (65 + 1 + t) (by omega) (by omega)]
  exact h.1 t ht
theorem CY.fr {S : Nat → Int32} {σ τ : SG} (h : CY S σ) (a : AG 77 80 σ τ) : CY S τ := by
  unfold CY; rw [a 77 (by decide) (by decide), a 78 (by decide) (by decide), a 79 (by decide) (by decide), a 80 (by decide) (by decide)]; exact h
theorem arg_in {v : Int32} {n : Nat} (hn : n < 2 ^ 31) (h0 : ¬ v < 0) (h1 : ¬ nI n ≤ v) : ∃ j, j < n ∧ v = nI j := by
  rcases pk_ix v hn with h | h | h
  · exact absurd h h0
  · exact absurd h h1
  · exact h
