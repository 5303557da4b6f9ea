/-! THE RELATION: Z is what the reference holds, by its objects' numbers; KC: the first holds the same; KM: the reference holds it -/
def ins (v : Nat) : List Nat → List Nat
  | [] => [v]
  | a :: l => if v < a then v :: a :: l else a :: ins v l
def srt (F : Nat → Int32) : Nat → List Nat
  | 0 => []
  | n + 1 => ins (na (F n)) (srt F n)
def PXI (I S : Nat → Int32) : Prop := cT I ≤ cT S ∧ cR I ≤ cR S ∧ cK I ≤ cK S ∧ (∀ t p, t < cT I → p < 6 → I (11 + 6 * t + p) = S (11 + 6 * t + p)) ∧ (∀ r j, r < cR I → j < 9 → I (95 + 9 * r + j) = S (95 + 9 * r + j)) ∧ ∀ k, k < cK I → I (185 + 3 * k) = S (185 + 3 * k) ∧ I (185 + 3 * k + 1) = S (185 + 3 * k + 1)
def KI (Z : SG) : Prop := IS (Z 104) ∧ (Z 102 3 = nI 0 ∨ (Z 102 3 = nI 1 ∧ IS (Z 105) ∧ PXI (Z 105) (Z 104))) ∧
  (Z 102 6 = nI (na (Z 102 6)) ∧ na (Z 102 6) ≤ 16 ∧ ∀ j, j < na (Z 102 6) → Z 106 j = nI (na (Z 106 j)) ∧ na (Z 106 j) < 256) ∧
  (Z 102 14 = nI (na (Z 102 14)) ∧ na (Z 102 14) ≤ 5) ∧
  (Z 102 24 = nI (na (Z 102 24)) ∧ na (Z 102 24) ≤ 5 ∧ ∀ j, j < na (Z 102 24) → Z 118 j = nI (na (Z 118 j)) ∧ 1 ≤ na (Z 118 j) ∧ na (Z 118 j) ≤ 9999) ∧
  (Z 102 26 = nI (na (Z 102 26)) ∧ na (Z 102 26) ≤ 8 ∧ ∀ j, j < na (Z 102 26) → Z 119 j = nI (na (Z 119 j)) ∧ na (Z 119 j) ≤ 127)
def KF (Z σ : SG) : Prop := σ 73 1 = Z 102 14 ∧ ∀ i, i < na (Z 102 14) → σ 74 i = Z 109 i
def KT (Z σ : SG) : Prop := σ 1 1 = Z 102 6 ∧ ∀ i, i < na (Z 102 6) → σ 2 i = Z 106 i
def KV (Z σ : SG) : Prop := σ 83 0 = Z 102 24 ∧ ∀ i, i < na (Z 102 24) → σ 84 i = nI ((srt (Z 118) (na (Z 102 24))).getD i 0)
def KL (Z σ : SG) : Prop := σ 85 0 = Z 102 26 ∧ ∀ i, i < na (Z 102 26) → σ 86 i = Z 119 i
def KP (Z σ : SG) : Prop := σ 87 0 = Z 102 3 ∧ (Z 102 3 = nI 1 → σ 87 1 = Z 105 0 ∧ σ 87 2 = Z 105 1 ∧ σ 87 3 = Z 105 2 ∧ σ 87 4 = nI (cur (Z 105)) ∧
  (∀ t, t < 6 → σ 90 t = Z 105 (47 + t) ∧ σ 91 t = Z 105 (53 + t) ∧ ∀ c, c < 6 → σ (92 + 1 + t) c = af (Z 105) t c) ∧ σ 99 0 = Z 105 3 ∧ σ 99 1 = Z 105 4 ∧ ∀ k, k < cK (Z 105) → σ 100 k = nI (see (Z 105) k))
def KR (Z σ : SG) : Prop := ∀ c, 1 ≤ c → c ≤ 6 → σ 101 c = Z 103 c
def KC (Z σ : SG) : Prop := CO σ ∧ CU (Z 104) σ ∧ CW (Z 104) σ ∧ CH (Z 104) σ ∧ CY (Z 104) σ ∧ CN_ (Z 104) σ ∧ KF Z σ ∧ KT Z σ ∧ KV Z σ ∧ KL Z σ ∧ KP Z σ ∧ KR Z σ
def KM (Z σ : SG) : Prop := FS (Z 104) σ ∧ (∀ j, j < 197 → σ 105 j = Z 105 j) ∧ (∀ j, j < 7 → σ 103 j = Z 103 j) ∧ (σ 102 3 = Z 102 3 ∧ σ 102 6 = Z 102 6 ∧ σ 102 14 = Z 102 14 ∧ σ 102 24 = Z 102 24 ∧ σ 102 26 = Z 102 26) ∧ (∀ j, j < 16 → σ 106 j = Z 106 j) ∧ (∀ i, i < na (Z 102 14) → σ 109 i = Z 109 i) ∧ (∀ i, i < 5 → σ 118 i = Z 118 i) ∧ ∀ i, i < 8 → σ 119 i = Z 119 i
/-- the objects of the first that outlive a call -/
def kp (k : Nat) : Prop := k < 102 ∧ k ≠ 6 ∧ k ≠ 35 ∧ k ≠ 60 ∧ k ≠ 73 ∧ k ≠ 75 ∧ k ≠ 76 ∧ k ≠ 81 ∧ k ≠ 82
theorem KC.fr {Z σ τ : SG} (h : KC Z σ) (hI : KI Z) (a : ∀ k, kp k → τ k = σ k) (a73 : τ 73 1 = σ 73 1) : KC Z τ := by
  obtain ⟨h1, h2, h3, h4, h5, h6, h7, h8, h9, h10, h11, h12⟩ := h
  have hS := hI.1
  have kk : ∀ k, k < 102 → k ≠ 6 → k ≠ 35 → k ≠ 60 → (k < 73 ∨ k = 74 ∨ (76 < k ∧ k < 81) ∨ 82 < k) → τ k = σ k := fun k b1 b2 b3 b4 b5 => a k ⟨b1, b2, b3, b4, by omega, by omega, by omega, by omega, by omega⟩
  refine ⟨h1.fr (fun k b c => kk k (by omega) (by omega) (by omega) (by omega) (by omega)), h2.fr hS (fun k b c => kk k (by omega) (by omega) (by omega) (by omega) (by omega)), h3.fr hS (fun k b c => kk k (by omega) (by omega) (by omega) (by omega) (by omega)), h4.fr (fun k b c => kk k (by omega) (by omega) (by omega) (by omega) (by omega)), h5.fr (fun k b c => kk k (by omega) (by omega) (by omega) (by omega) (by omega)), ?_, ?_, ?_, ?_, ?_, ?_, ?_⟩
  · unfold CN_; rw [kk 0 (by decide) (by decide) (by decide) (by decide) (by decide)]; exact h6
  · unfold KF; rw [a73, kk 74 (by decide) (by decide) (by decide) (by decide) (by decide)]; exact h7
  · unfold KT; rw [kk 1 (by decide) (by decide) (by decide) (by decide) (by decide), kk 2 (by decide) (by decide) (by decide) (by decide) (by decide)]; exact h8
  · unfold KV; rw [kk 83 (by decide) (by decide) (by decide) (by decide) (by decide), kk 84 (by decide) (by decide) (by decide) (by decide) (by decide)]; exact h9
  · unfold KL; rw [kk 85 (by decide) (by decide) (by decide) (by decide) (by decide), kk 86 (by decide) (by decide) (by decide) (by decide) (by decide)]; exact h10
  · unfold KP
    rw [kk 87 (by decide) (by decide) (by decide) (by decide) (by decide), kk 90 (by decide) (by decide) (by decide) (by decide) (by decide), kk 91 (by decide) (by decide) (by decide) (by decide) (by decide), kk 99 (by decide) (by decide) (by decide) (by decide) (by decide), kk 100 (by decide) (by decide) (by decide) (by decide) (by decide)]
    refine ⟨h11.1, fun c => ?_⟩
    obtain ⟨g1, g2, g3, g4, g5, g6⟩ := h11.2 c
    refine ⟨g1, g2, g3, g4, fun t ht => ?_, g6⟩
    rw [kk (92 + 1 + t) (by omega) (by omega) (by omega) (by omega) (by omega)]
    exact g5 t ht
  · unfold KR; rw [kk 101 (by decide) (by decide) (by decide) (by decide) (by decide)]; exact h12
/-- one refusal more -/
def rf (Z : SG) (c : Nat) : SG := up Z 103 c (Z 103 c + nI 1)
theorem rf_k {Z : SG} {c k : Nat} (h : k ≠ 103) : rf Z c k = Z k := up_k h
theorem KI.rf {Z : SG} (h : KI Z) (c : Nat) : KI (rf Z c) := by
  unfold KI
  rw [rf_k (k := 104) (by decide), rf_k (k := 102) (by decide), rf_k (k := 105) (by decide), rf_k (k := 106) (by decide), rf_k (k := 118) (by decide), rf_k (k := 119) (by decide)]
  exact h
theorem KC.rf {Z σ : SG} (h : KC Z σ) (hI : KI Z) {c : Nat} (h1 : 1 ≤ c) (h6 : c ≤ 6) : KC (rf Z c) (up σ 101 c (σ 101 c + nI 1)) := by
  have f : ∀ k, k ≠ 101 → up σ 101 c (σ 101 c + nI 1) k = σ k := fun k hk => up_k hk
  obtain ⟨g1, g2, g3, g4, g5, g6, g7, g8, g9, g10, g11, g12⟩ := h
  have hS := hI.1
  unfold KC KF KT KV KL KP KR CN_
  rw [rf_k (k := 104) (by decide), rf_k (k := 102) (by decide), rf_k (k := 105) (by decide), rf_k (k := 106) (by decide), rf_k (k := 118) (by decide), rf_k (k := 119) (by decide), rf_k (k := 109) (by decide)]
  refine ⟨g1.fr (fun k a b => f k (by omega)), g2.fr hS (fun k a b => f k (by omega)), g3.fr hS (fun k a b => f k (by omega)), g4.fr (fun k a b => f k (by omega)), g5.fr (fun k a b => f k (by omega)), g6, g7, g8, g9, g10, ⟨g11.1, fun z => ?_⟩, fun d a b => ?_⟩
  · obtain ⟨q1, q2, q3, q4, q5, q6⟩ := g11.2 z
    refine ⟨q1, q2, q3, q4, fun t ht => ?_, q6⟩
    rw [f (92 + 1 + t) (by omega)]
    exact q5 t ht
  · show up σ 101 c (σ 101 c + nI 1) 101 d = up Z 103 c (Z 103 c + nI 1) 103 d
    by_cases e : d = c
    · rw [e, up_s, up_s, g12 c h1 h6]
    · rw [up_j e, up_j e]; exact g12 d a b
theorem KM.fr {Z σ τ : SG} (h : KM Z σ) (a3 : τ 103 = σ 103) (a4 : τ 104 = σ 104) (a5 : τ 105 = σ 105) (a6 : τ 106 = σ 106) (a9 : τ 109 = σ 109) (a18 : τ 118 = σ 118) (a19 : τ 119 = σ 119) (a2 : ∀ j, j ≠ 15 → j ≠ 16 → j ≠ 22 → τ 102 j = σ 102 j) : KM Z τ := by
  unfold KM FS
  rw [a3, a4, a5, a6, a9, a18, a19, a2 3 (by decide) (by decide) (by decide), a2 6 (by decide) (by decide) (by decide), a2 14 (by decide) (by decide) (by decide), a2 24 (by decide) (by decide) (by decide), a2 26 (by decide) (by decide) (by decide)]
  exact h
theorem KM.hi {Z σ τ : SG} (h : KM Z σ) (a : ∀ k, 102 ≤ k → τ k = σ k) : KM Z τ := h.fr (a _ (by decide)) (a _ (by decide)) (a _ (by decide)) (a _ (by decide)) (a _ (by decide)) (a _ (by decide)) (a _ (by decide)) (fun j _ _ _ => by rw [a 102 (by decide)])
theorem KM.gf {Z σ τ : SG} (h : KM Z σ) (a : GF σ τ) : KM Z τ := h.fr (a.1 _ (by decide) (by decide) (by decide) (by decide) (by decide)) (a.1 _ (by decide) (by decide) (by decide) (by decide) (by decide)) (a.1 _ (by decide) (by decide) (by decide) (by decide) (by decide)) (a.1 _ (by decide) (by decide) (by decide) (by decide) (by decide)) (a.1 _ (by decide) (by decide) (by decide) (by decide) (by decide)) (a.1 _ (by decide) (by decide) (by decide) (by decide) (by decide)) (a.1 _ (by decide) (by decide) (by decide) (by decide) (by decide)) (fun j _ _ b => a.2 j b)
theorem KM.ff {Z σ τ : SG} (h : KM Z σ) (a : FF σ τ) : KM Z τ := h.fr (a _ (by decide) (by decide) (by decide)) (a _ (by decide) (by decide) (by decide)) (a _ (by decide) (by decide) (by decide)) (a _ (by decide) (by decide) (by decide)) (a _ (by decide) (by decide) (by decide)) (a _ (by decide) (by decide) (by decide)) (a _ (by decide) (by decide) (by decide)) (fun j _ _ _ => by rw [a 102 (by decide) (by decide) (by decide)])
theorem KM.rf {Z σ : SG} (h : KM Z σ) {c : Nat} (h6 : c ≤ 6) : KM (rf Z c) (up σ 103 c (σ 103 c + nI 1)) := by
  obtain ⟨g1, g2, g3, g4, g5, g6, g7, g8⟩ := h
  unfold KM FS
  rw [rf_k (k := 104) (by decide), rf_k (k := 102) (by decide), rf_k (k := 105) (by decide), rf_k (k := 106) (by decide), rf_k (k := 118) (by decide), rf_k (k := 119) (by decide), rf_k (k := 109) (by decide)]
  refine ⟨g1, g2, fun j hj => ?_, g4, g5, g6, g7, g8⟩
  show up σ 103 c (σ 103 c + nI 1) 103 j = up Z 103 c (Z 103 c + nI 1) 103 j
  by_cases e : j = c
  · rw [e, up_s, up_s, g3 c (by omega)]
  · rw [up_j e, up_j e]; exact g3 j hj
/-- the law's own: both hold what the reference should -/
def KK (σ : SG) : Prop := ∃ Z, KI Z ∧ KC Z σ ∧ KM Z σ
/-- what a call of the first, of the reference owes: its answer x, what is held then -/
def DC (Z' σ : SG) (x : Int32) (τ : SG) (r : Int32) : Prop := r = x ∧ KC Z' τ ∧ ∀ k, 102 ≤ k → τ k = σ k
def DM (Z' σ : SG) (x : Int32) (τ : SG) (r : Int32) : Prop := r = x ∧ KM Z' τ ∧ ∀ k, k < 102 → τ k = σ k
theorem KC.lo {Z σ τ : SG} (h : KC Z σ) (hI : KI Z) (a : ∀ k, k < 102 → τ k = σ k) : KC Z τ := h.fr hI (fun k hk => a k hk.1) (by rw [a 73 (by decide)])
theorem joint {Z Z' σ : SG} {x : Int32} (hI : KI Z') {C M : SG → (SG → Int32 → Prop) → Prop} (hM : KM Z σ) (h1 : C σ (DC Z' σ x)) (h2 : ∀ t, KM Z t → M t (DM Z' t x)) : ∃ p, C σ p ∧ ∀ t r, p t r → ∃ q, M t q ∧ ∀ t' r', q t' r' → r = r' ∧ KK t' :=
  ⟨_, h1, fun t r ht => ⟨_, h2 t (hM.hi ht.2.2), fun t' r' ht' => ⟨ht.1.trans ht'.1.symm, Z', hI, ht.2.1.lo hI ht'.2.2, ht'.2.1⟩⟩⟩
theorem DC_rf {Z σ : SG} (h : KC Z σ) (hI : KI Z) {c : Nat} (h1 : 1 ≤ c) (h6 : c ≤ 6) {x : Int32} : ∀ s, s = up σ 101 c (σ 101 c + nI 1) → DC (rf Z c) σ x s x := fun s e => by
  subst e
  exact ⟨rfl, h.rf hI h1 h6, fun k hk => up_k (by omega)⟩
theorem DM_rf {Z σ : SG} (h : KM Z σ) {c : Nat} (h6 : c ≤ 6) {x : Int32} : ∀ s, s = up σ 103 c (σ 103 c + nI 1) → DM (rf Z c) σ x s x := fun s e => by
  subst e
  exact ⟨rfl, h.rf h6, fun k hk => up_k (by omega)⟩
theorem DC_rfl {Z σ : SG} (h : KC Z σ) {x : Int32} : DC Z σ x σ x := ⟨rfl, h, fun _ _ => rfl⟩
theorem DM_rfl {Z σ : SG} (h : KM Z σ) {x : Int32} : DM Z σ x σ x := ⟨rfl, h, fun _ _ => rfl⟩
