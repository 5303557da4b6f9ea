/-! FOUND changes: better (what is held then) -/
def stF (Z : SG) (B : BT) : SG := fun k j => if k = 102 ∧ j = 14 then nI B.1 else if k = 109 then nI (B.2.2 j) else Z k j
theorem stF_k {Z : SG} {B : BT} {k : Nat} (h : k ≠ 102) (h2 : k ≠ 109) : stF Z B k = Z k := funext fun j => by
  show (if k = 102 ∧ j = 14 then _ else if k = 109 then _ else _) = _
  rw [if_neg (fun z => h z.1), if_neg h2]
theorem stF_2 {Z : SG} {B : BT} {j : Nat} (h : j ≠ 14) : stF Z B 102 j = Z 102 j := by
  show (if 102 = 102 ∧ j = 14 then _ else if 102 = 109 then _ else _) = _
  rw [if_neg (fun z => h z.2), if_neg (by decide)]
theorem stF_l {Z : SG} {B : BT} : stF Z B 102 14 = nI B.1 := if_pos ⟨rfl, rfl⟩
theorem stF_m {Z : SG} {B : BT} {j : Nat} : stF Z B 109 j = nI (B.2.2 j) := by
  show (if 109 = 102 ∧ j = 14 then _ else if 109 = 109 then _ else _) = _
  rw [if_neg (fun z => absurd z.1 (by decide)), if_pos rfl]
theorem KI.found {Z : SG} (h : KI Z) {B : BT} (hB : B.1 ≤ 5) : KI (stF Z B) := by
  unfold KI
  rw [stF_k (k := 104) (by decide) (by decide), stF_k (k := 105) (by decide) (by decide), stF_k (k := 106) (by decide) (by decide), stF_k (k := 118) (by decide) (by decide), stF_k (k := 119) (by decide) (by decide), stF_2 (j := 3) (by decide), stF_2 (j := 6) (by decide), stF_2 (j := 24) (by decide), stF_2 (j := 26) (by decide), stF_l, na_nI (by omega)]
  exact ⟨h.1, h.2.1, h.2.2.1, ⟨rfl, hB⟩, h.2.2.2.2⟩
theorem KC.found {Z σ τ : SG} (h : KC Z σ) (hI : KI Z) {B : BT} (hB : B.1 ≤ 5) (a : ∀ k, kp k → k ≠ 74 → τ k = σ k) (a1 : τ 73 1 = nI B.1) (a2 : ∀ i, i < B.1 → τ 74 i = nI (B.2.2 i)) : KC (stF Z B) τ := by
  have h74 : KC Z (fun k => if k = 74 then σ 74 else if k = 73 then σ 73 else τ k) := h.fr hI (fun k hk => by
    by_cases e : k = 74
    · rw [e]; rfl
    · show (if k = 74 then σ 74 else if k = 73 then σ 73 else τ k) = _
      rw [if_neg e, if_neg hk.2.2.2.2.1, a k hk e]) rfl
  obtain ⟨g1, g2, g3, g4, g5, g6, g7, g8, g9, g10, g11, g12⟩ := h74
  have f : ∀ k, k ≠ 73 → k ≠ 74 → (fun k => if k = 74 then σ 74 else if k = 73 then σ 73 else τ k) k = τ k := fun k b c => by
    show (if k = 74 then σ 74 else if k = 73 then σ 73 else τ k) = _
    rw [if_neg c, if_neg b]
  have hS := hI.1
  unfold KC KT KV KL KP KR CN_
  rw [stF_k (k := 103) (by decide) (by decide), stF_k (k := 104) (by decide) (by decide), stF_k (k := 105) (by decide) (by decide), stF_k (k := 106) (by decide) (by decide), stF_k (k := 118) (by decide) (by decide), stF_k (k := 119) (by decide) (by decide), stF_2 (j := 3) (by decide), stF_2 (j := 6) (by decide), stF_2 (j := 24) (by decide), stF_2 (j := 26) (by decide)]
  refine ⟨g1.fr (fun k a b => (f k (by omega) (by omega)).symm), g2.fr hS (fun k a b => (f k (by omega) (by omega)).symm), g3.fr hS (fun k a b => (f k (by omega) (by omega)).symm), g4.fr (fun k a b => (f k (by omega) (by omega)).symm), g5.fr (fun k a b => (f k (by omega) (by omega)).symm), g6, ⟨by rw [stF_l]; exact a1, fun i hi => ?_⟩, g8, g9, g10, ⟨g11.1, fun z => ?_⟩, g12⟩
  · rw [stF_l, na_nI (by omega)] at hi
    rw [stF_m]
    exact a2 i hi
  · obtain ⟨q1, q2, q3, q4, q5, q6⟩ := g11.2 z
    refine ⟨q1, q2, q3, q4, fun t ht => ?_, q6⟩
    have := q5 t ht
    rw [f (92 + 1 + t) (by omega) (by omega)] at this
    exact this
theorem KM.found {Z σ τ : SG} (h : KM Z σ) {B : BT} (hB : B.1 ≤ 5) (b : ∀ k, (103 ≤ k ∧ k ≤ 106) ∨ k = 118 ∨ k = 119 → τ k = σ k) (c : ∀ j, j ≠ 14 → j ≠ 15 → j ≠ 16 → τ 102 j = σ 102 j) (a1 : τ 102 14 = nI B.1) (a2 : ∀ i, i < B.1 → τ 109 i = nI (B.2.2 i)) : KM (stF Z B) τ := by
  obtain ⟨g1, g2, g3, g4, g5, g6, g7, g8⟩ := h
  unfold KM FS
  rw [stF_k (k := 103) (by decide) (by decide), stF_k (k := 104) (by decide) (by decide), stF_k (k := 105) (by decide) (by decide), stF_k (k := 106) (by decide) (by decide), stF_k (k := 118) (by decide) (by decide), stF_k (k := 119) (by decide) (by decide), stF_2 (j := 3) (by decide), stF_2 (j := 6) (by decide), stF_2 (j := 24) (by decide), stF_2 (j := 26) (by decide), stF_l, na_nI (by omega), b 103 (by decide), b 104 (by decide), b 105 (by decide), b 106 (by decide), b 118 (by decide), b 119 (by decide), c 3 (by decide) (by decide) (by decide), c 6 (by decide) (by decide) (by decide), c 24 (by decide) (by decide) (by decide), c 26 (by decide) (by decide) (by decide)]
  exact ⟨g1, g2, g3, ⟨g4.1, g4.2.1, a1, g4.2.2.2.1, g4.2.2.2.2⟩, g5, fun i hi => by rw [stF_m]; exact a2 i hi, g7, g8⟩
