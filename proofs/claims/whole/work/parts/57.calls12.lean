/-! tape, film, times change: the general lemmas; five, middle, need -/
theorem KC.re2 {Z Z' σ τ : SG} (hC : KC Z σ) (hI : KI Z) (h4 : Z' 104 = Z 104) (h3 : Z' 103 = Z 103) (h5 : Z' 105 = Z 105) (h9 : Z' 109 = Z 109) (z3 : Z' 102 3 = Z 102 3) (z14 : Z' 102 14 = Z 102 14)
    (a : ∀ k, k < 102 → k ≠ 1 → k ≠ 2 → k ≠ 83 → k ≠ 84 → k ≠ 85 → k ≠ 86 → τ k = σ k) (cT : KT Z' τ) (cV : KV Z' τ) (cL : KL Z' τ) : KC Z' τ := by
  have f : ∀ k, k < 102 → k ≠ 1 → k ≠ 2 → k ≠ 83 → k ≠ 84 → k ≠ 85 → k ≠ 86 → τ k = σ k := a
  obtain ⟨g1, g2, g3, g4, g5, g6, g7, g8, g9, g10, g11, g12⟩ := hC
  have hS := hI.1
  refine ⟨?_, ?_, ?_, ?_, ?_, ?_, ?_, cT, cV, cL, ?_, ?_⟩
  · exact g1.fr (fun k b c => f k (by omega) (by omega) (by omega) (by omega) (by omega) (by omega) (by omega))
  · rw [h4]; exact g2.fr hS (fun k b c => f k (by omega) (by omega) (by omega) (by omega) (by omega) (by omega) (by omega))
  · rw [h4]; exact g3.fr hS (fun k b c => f k (by omega) (by omega) (by omega) (by omega) (by omega) (by omega) (by omega))
  · rw [h4]; exact g4.fr (fun k b c => f k (by omega) (by omega) (by omega) (by omega) (by omega) (by omega) (by omega))
  · rw [h4]; exact g5.fr (fun k b c => f k (by omega) (by omega) (by omega) (by omega) (by omega) (by omega) (by omega))
  · unfold CN_; rw [h4, f 0 (by decide) (by decide) (by decide) (by decide) (by decide) (by decide) (by decide)]; exact g6
  · unfold KF; rw [z14, h9, f 73 (by decide) (by decide) (by decide) (by decide) (by decide) (by decide) (by decide), f 74 (by decide) (by decide) (by decide) (by decide) (by decide) (by decide) (by decide)]; exact g7
  · unfold KP
    rw [z3, h5, f 87 (by decide) (by decide) (by decide) (by decide) (by decide) (by decide) (by decide), f 90 (by decide) (by decide) (by decide) (by decide) (by decide) (by decide) (by decide), f 91 (by decide) (by decide) (by decide) (by decide) (by decide) (by decide) (by decide), f 99 (by decide) (by decide) (by decide) (by decide) (by decide) (by decide) (by decide), f 100 (by decide) (by decide) (by decide) (by decide) (by decide) (by decide) (by decide)]
    refine ⟨g11.1, fun c => ?_⟩
    obtain ⟨q1, q2, q3, q4, q5, q6⟩ := g11.2 c
    refine ⟨q1, q2, q3, q4, fun t ht => ?_, q6⟩
    rw [f (92 + 1 + t) (by omega) (by omega) (by omega) (by omega) (by omega) (by omega) (by omega)]
    exact q5 t ht
  · unfold KR; rw [h3, f 101 (by decide) (by decide) (by decide) (by decide) (by decide) (by decide) (by decide)]; exact g12
theorem KI.re2 {Z Z' : SG} (h : KI Z) (h4 : Z' 104 = Z 104) (h5 : Z' 105 = Z 105) (z3 : Z' 102 3 = Z 102 3) (z14 : Z' 102 14 = Z 102 14)
    (hT : Z' 102 6 = nI (na (Z' 102 6)) ∧ na (Z' 102 6) ≤ 16 ∧ ∀ j, j < na (Z' 102 6) → Z' 106 j = nI (na (Z' 106 j)) ∧ na (Z' 106 j) < 256)
    (hV : Z' 102 24 = nI (na (Z' 102 24)) ∧ na (Z' 102 24) ≤ 5 ∧ ∀ j, j < na (Z' 102 24) → Z' 118 j = nI (na (Z' 118 j)) ∧ 1 ≤ na (Z' 118 j) ∧ na (Z' 118 j) ≤ 9999)
    (hL : Z' 102 26 = nI (na (Z' 102 26)) ∧ na (Z' 102 26) ≤ 8 ∧ ∀ j, j < na (Z' 102 26) → Z' 119 j = nI (na (Z' 119 j)) ∧ na (Z' 119 j) ≤ 127) : KI Z' := by
  unfold KI
  rw [h4, h5, z3, z14]
  exact ⟨h.1, h.2.1, hT, h.2.2.2.1, hV, hL⟩
theorem KM.re2 {Z Z' σ τ : SG} (h : KM Z σ) (h4 : Z' 104 = Z 104) (h3 : Z' 103 = Z 103) (h5 : Z' 105 = Z 105) (h9 : Z' 109 = Z 109) (z3 : Z' 102 3 = Z 102 3) (z14 : Z' 102 14 = Z 102 14)
    (a : ∀ k, (103 ≤ k ∧ k ≤ 105) ∨ k = 109 → τ k = σ k) (a3 : τ 102 3 = σ 102 3) (a14 : τ 102 14 = σ 102 14) (b6 : τ 102 6 = Z' 102 6) (b24 : τ 102 24 = Z' 102 24) (b26 : τ 102 26 = Z' 102 26)
    (c6 : ∀ j, j < 16 → τ 106 j = Z' 106 j) (c8 : ∀ j, j < 5 → τ 118 j = Z' 118 j) (c9 : ∀ j, j < 8 → τ 119 j = Z' 119 j) : KM Z' τ := by
  obtain ⟨g1, g2, g3, g4, g5, g6, g7, g8⟩ := h
  unfold KM FS
  rw [h4, h3, h5, h9, z3, z14, a 103 (by omega), a 104 (by omega), a 105 (by omega), a 109 (by omega), a3, a14]
  exact ⟨g1, g2, g3, ⟨g4.1, b6, g4.2.2.1, b24, b26⟩, c6, g6, c8, c9⟩
/-! the times, sorted -/
theorem ins_len (v : Nat) : ∀ l : List Nat, (ins v l).length = l.length + 1
  | [] => rfl
  | a :: l => by
    unfold ins
    split
    · rfl
    · rw [List.length_cons, ins_len v l, List.length_cons]
theorem ins_mem {v x : Nat} : ∀ {l : List Nat}, x ∈ ins v l ↔ x = v ∨ x ∈ l
  | [] => by simp [ins]
  | a :: l => by
    unfold ins
    split
    · simp
    · rw [List.mem_cons, ins_mem, List.mem_cons]
      constructor
      · rintro (h | h | h)
        · exact Or.inr (Or.inl h)
        · exact Or.inl h
        · exact Or.inr (Or.inr h)
      · rintro (h | h | h)
        · exact Or.inr (Or.inl h)
        · exact Or.inl h
        · exact Or.inr (Or.inr h)
theorem ins_pw {v : Nat} : ∀ {l : List Nat}, l.Pairwise (· ≤ ·) → (ins v l).Pairwise (· ≤ ·)
  | [], _ => by simp [ins]
  | a :: l, h => by
    obtain ⟨h1, h2⟩ := List.pairwise_cons.1 h
    unfold ins
    split
    · refine List.pairwise_cons.2 ⟨fun x hx => ?_, h⟩
      rcases List.mem_cons.1 hx with e | e
      · omega
      · have := h1 x e; omega
    · refine List.pairwise_cons.2 ⟨fun x hx => ?_, ins_pw h2⟩
      rcases ins_mem.1 hx with e | e
      · omega
      · exact h1 x e
theorem ins_sum (v : Nat) : ∀ l : List Nat, (ins v l).sum = v + l.sum
  | [] => rfl
  | a :: l => by
    unfold ins
    split
    · rfl
    · rw [List.sum_cons, ins_sum v l, List.sum_cons]; omega
theorem srt_len (F : Nat → Int32) : ∀ n, (srt F n).length = n
  | 0 => rfl
  | n + 1 => by rw [srt, ins_len, srt_len F n]
theorem srt_pw (F : Nat → Int32) : ∀ n, (srt F n).Pairwise (· ≤ ·)
  | 0 => List.Pairwise.nil
  | n + 1 => ins_pw (srt_pw F n)
theorem srt_mem {F : Nat → Int32} {x : Nat} : ∀ {n}, x ∈ srt F n ↔ ∃ j, j < n ∧ x = na (F j)
  | 0 => by simp [srt]
  | n + 1 => by
    rw [srt, ins_mem, srt_mem]
    constructor
    · rintro (h | ⟨j, h1, h2⟩)
      · exact ⟨n, by omega, h⟩
      · exact ⟨j, by omega, h2⟩
    · rintro ⟨j, h1, h2⟩
      by_cases e : j = n
      · exact Or.inl (by rw [h2, e])
      · exact Or.inr ⟨j, by omega, h2⟩
theorem srt_cong {F G : Nat → Int32} : ∀ {n}, (∀ j, j < n → F j = G j) → srt F n = srt G n
  | 0, _ => rfl
  | n + 1, h => by rw [srt, srt, srt_cong (fun j hj => h j (by omega)), h n (by omega)]
theorem ins_get {v : Nat} : ∀ {l : List Nat} {ap : Nat}, ap ≤ l.length → (∀ j, j < ap → l.getD j 0 ≤ v) → (∀ j, ap ≤ j → j < l.length → v < l.getD j 0) → ∀ i, (ins v l).getD i 0 = if i < ap then l.getD i 0 else if i = ap then v else l.getD (i - 1) 0
  | [], ap, h0, _, _, i => by
    obtain rfl : ap = 0 := by simpa using h0
    rw [if_neg (Nat.not_lt_zero _)]
    match i with
    | 0 => rfl
    | i + 1 => rw [if_neg (by omega)]; rfl
  | x :: l, 0, h0, h1, h2, i => by
    have := h2 0 (Nat.le_refl _) (by simp)
    have hx : v < x := this
    unfold ins
    rw [if_pos hx, if_neg (Nat.not_lt_zero _)]
    match i with
    | 0 => rfl
    | i + 1 => rw [if_neg (by omega)]; rfl
  | x :: l, ap + 1, h0, h1, h2, i => by
    have hx : x ≤ v := h1 0 (by omega)
    have hl : ap ≤ l.length := by simpa using h0
    unfold ins
    rw [if_neg (by omega)]
    match i with
    | 0 => rw [if_pos (by omega)]; rfl
    | i + 1 =>
      have ih := ins_get (v := v) (l := l) hl (fun j hj => h1 (j + 1) (by omega)) (fun j a b => h2 (j + 1) (by omega) (by simpa using b)) i
      show (ins v l).getD i 0 = _
      rw [ih]
      by_cases c : i < ap
      · rw [if_pos c, if_pos (show i + 1 < ap + 1 by omega)]; rfl
      · rw [if_neg c, if_neg (show ¬ i + 1 < ap + 1 by omega)]
        by_cases d : i = ap
        · rw [if_pos d, if_pos (show i + 1 = ap + 1 by omega)]
        · rw [if_neg d, if_neg (show ¬ i + 1 = ap + 1 by omega)]
          match i, d, c with
          | 0, d, c => exact absurd (by omega) d
          | i + 1, _, _ => rfl
theorem pw_get {l : List Nat} (h : l.Pairwise (· ≤ ·)) {i j : Nat} (hi : i ≤ j) (hj : j < l.length) : l.getD i 0 ≤ l.getD j 0 := by
  by_cases e : i = j
  · rw [e]; exact Nat.le_refl _
  · have := List.pairwise_iff_getElem.1 h i j (by omega) hj (by omega)
    rw [← List.getElem_eq_getD (h := by omega) 0, ← List.getElem_eq_getD (h := hj) 0]
    exact this
theorem srt_le {F : Nat → Int32} {n M : Nat} (h : ∀ j, j < n → na (F j) ≤ M) {i : Nat} (hi : i < n) : (srt F n).getD i 0 ≤ M := by
  have hl : i < (srt F n).length := by rw [srt_len]; exact hi
  rw [← List.getElem_eq_getD (h := hl) 0]
  obtain ⟨j, h1, h2⟩ := srt_mem.1 (List.getElem_mem hl)
  rw [h2]
  exact h j h1
theorem srt_ge {F : Nat → Int32} {n M : Nat} (h : ∀ j, j < n → M ≤ na (F j)) {i : Nat} (hi : i < n) : M ≤ (srt F n).getD i 0 := by
  have hl : i < (srt F n).length := by rw [srt_len]; exact hi
  rw [← List.getElem_eq_getD (h := hl) 0]
  obtain ⟨j, h1, h2⟩ := srt_mem.1 (List.getElem_mem hl)
  rw [h2]
  exact h j h1
/-- the class puts a time among the sorted ones -/
theorem ok_addV {σ : SG} {l : List Nat} {v : Nat} (hl : l.length < 5) (hp : l.Pairwise (· ≤ ·)) (hb : ∀ i, i < l.length → l.getD i 0 < 2 ^ 31) (hv : v < 2 ^ 31) (e0 : σ 83 0 = nI l.length) (e1 : ∀ i, i < l.length → σ 84 i = nI (l.getD i 0)) {post : SG → Int32 → Prop}
    (K : ∀ τ : SG, τ 83 0 = nI (l.length + 1) → (∀ i, i < l.length + 1 → τ 84 i = nI ((ins v l).getD i 0)) → (∀ k, k ≠ 83 → k ≠ 84 → τ k = σ k) → post τ 0) : IN_X7_add AF σ [.ref 83, .int (nI v)] post := by
  refine ⟨⟨_, _, rfl, rfl, Nat.le_of_ble_eq_true rfl, rc_83⟩, Nat.le_of_ble_eq_true rfl, g_X7_add_0 ?_⟩
  rw [e0]
  suffices H : ∀ ap, ap ≤ l.length → ∀ τ : SG, (∀ j, ap ≤ j → j < l.length → v < l.getD j 0) → τ 83 0 = nI l.length → (∀ i, i < ap → τ 84 i = nI (l.getD i 0)) → (∀ i, ap < i → i ≤ l.length → τ 84 i = nI (l.getD (i - 1) 0)) → (∀ k, k ≠ 83 → k ≠ 84 → τ k = σ k) → T_X7_add AF post 5 [.ref 83, .int (nI v), .int (nI ap)] [] τ from
    H l.length (Nat.le_refl _) σ (fun j a b => by omega) e0 e1 (fun i a b => by omega) (fun _ _ _ => rfl)
  have done : ∀ ap, ap ≤ l.length → ∀ τ : SG, (∀ j, ap ≤ j → j < l.length → v < l.getD j 0) → τ 83 0 = nI l.length → (∀ i, i < ap → τ 84 i = nI (l.getD i 0)) → (∀ i, ap < i → i ≤ l.length → τ 84 i = nI (l.getD (i - 1) 0)) → (∀ k, k ≠ 83 → k ≠ 84 → τ k = σ k) → (∀ j, j < ap → l.getD j 0 ≤ v) → (ap < 5 ∧ (∀ s3 : SG, s3 = up τ 84 ap (nI v) → (∀ s4 : SG, s4 = up s3 83 0 ((s3 83 0) + (nI 1)) → post s4 0))) := by
    intro ap ha τ h1 h2 h3 h4 h5 h6
    refine ⟨by omega, fun s3 es3 s4 es4 => ?_⟩
    subst es4
    subst es3
    refine K _ (by rw [up_s, up_k (by decide), h2, nI_add]) (fun i hi => ?_) (fun k a b => by rw [up_k a, up_k b]; exact h5 k a b)
    rw [up_k (by decide), ins_get ha h6 h1 i]
    by_cases c : i < ap
    · rw [if_pos c, up_j (by omega)]; exact h3 i c
    · rw [if_neg c]
      by_cases d : i = ap
      · rw [if_pos d, d, up_s]
      · rw [if_neg d, up_j d]; exact h4 i (by omega) (by omega)
  intro ap
  induction ap with
  | zero =>
    intro ha τ h1 h2 h3 h4 h5
    apply g_X7_add_5
    exact ⟨fun _ => done 0 ha τ h1 h2 h3 h4 h5 (fun j hj => absurd hj (Nat.not_lt_zero _)), fun c => absurd (by rw [nI0_le (by decide)]) c⟩
  | succ ap ih =>
    intro ha τ h1 h2 h3 h4 h5
    apply g_X7_add_5
    refine ⟨fun c => absurd ((nI0_le (by omega)).1 c) (by omega), fun _ => ⟨by omega, by omega, ?_⟩⟩
    have hx := hb ap (by omega)
    rw [Nat.add_sub_cancel, h3 ap (by omega), nI_leI hx hv]
    refine ⟨fun c => done (ap + 1) ha τ h1 h2 h3 h4 h5 (fun j hj => Nat.le_trans (pw_get hp (show j ≤ ap by omega) (by omega)) c), fun c => ⟨by omega, by omega, by omega, fun s es => ?_⟩⟩
    rw [sb_m1 (by omega), Nat.add_sub_cancel]
    subst es
    refine ih (by omega) _ (fun j a b => ?_) (by rw [up_k (by decide)]; exact h2) (fun i hi => by rw [up_j (by omega)]; exact h3 i (by omega)) (fun i a b => ?_) (fun k a b => by rw [up_k b]; exact h5 k a b)
    · by_cases e : j = ap
      · rw [e]; omega
      · exact h1 j (by omega) b
    · by_cases e : i = ap + 1
      · rw [e, up_s, Nat.add_sub_cancel]
      · rw [up_j e]; exact h4 i (by omega) b
def mnF (F : Nat → Int32) : Nat → Nat
  | 0 => na (F 0)
  | k + 1 => if mnF F k ≤ na (F k) then mnF F k else na (F k)
def mxF (F : Nat → Int32) : Nat → Nat
  | 0 => na (F 0)
  | k + 1 => if na (F k) ≤ mxF F k then mxF F k else na (F k)
theorem mnF_ok (F : Nat → Int32) : ∀ k, k ≤ 5 → (∃ j, j < 5 ∧ mnF F k = na (F j)) ∧ ∀ j, j < k → mnF F k ≤ na (F j)
  | 0, _ => ⟨⟨0, by decide, rfl⟩, fun j hj => absurd hj (Nat.not_lt_zero _)⟩
  | k + 1, h => by
    obtain ⟨⟨j, h1, h2⟩, h3⟩ := mnF_ok F k (by omega)
    rw [mnF]
    split
    · rename_i c
      refine ⟨⟨j, h1, h2⟩, fun i hi => ?_⟩
      by_cases e : i = k
      · rw [e]; exact c
      · exact h3 i (by omega)
    · rename_i c
      refine ⟨⟨k, by omega, rfl⟩, fun i hi => ?_⟩
      by_cases e : i = k
      · rw [e]; exact Nat.le_refl _
      · have := h3 i (by omega); omega
theorem mxF_ok (F : Nat → Int32) : ∀ k, k ≤ 5 → (∃ j, j < 5 ∧ mxF F k = na (F j)) ∧ ∀ j, j < k → na (F j) ≤ mxF F k
  | 0, _ => ⟨⟨0, by decide, rfl⟩, fun j hj => absurd hj (Nat.not_lt_zero _)⟩
  | k + 1, h => by
    obtain ⟨⟨j, h1, h2⟩, h3⟩ := mxF_ok F k (by omega)
    rw [mxF]
    split
    · rename_i c
      refine ⟨⟨j, h1, h2⟩, fun i hi => ?_⟩
      by_cases e : i = k
      · rw [e]; exact c
      · exact h3 i (by omega)
    · rename_i c
      refine ⟨⟨k, by omega, rfl⟩, fun i hi => ?_⟩
      by_cases e : i = k
      · rw [e]; exact Nat.le_refl _
      · have := h3 i (by omega); omega
def ms3 (l : List Nat) : Nat := l.getD 1 0 + l.getD 2 0 + l.getD 3 0
theorem srt_sum (F : Nat → Int32) : (srt F 5).sum = na (F 0) + na (F 1) + na (F 2) + na (F 3) + na (F 4) := by
  rw [srt, ins_sum, srt, ins_sum, srt, ins_sum, srt, ins_sum, srt, ins_sum, srt]
  simp only [List.sum_nil]
  omega
theorem mid_eq (F : Nat → Int32) : na (F 0) + na (F 1) + na (F 2) + na (F 3) + na (F 4) = ms3 (srt F 5) + mnF F 5 + mxF F 5 := by
  have hl := srt_len F 5
  have hp := srt_pw F 5
  have hs := srt_sum F
  have hm := fun x => srt_mem (F := F) (x := x) (n := 5)
  obtain ⟨⟨j1, a1, a2⟩, a3⟩ := mnF_ok F 5 (by decide)
  obtain ⟨⟨j2, b1, b2⟩, b3⟩ := mxF_ok F 5 (by decide)
  generalize srt F 5 = l at hl hp hs hm ⊢
  match l, hl with
  | [s0, s1, s2, s3, s4], _ =>
    have p1 := pw_get hp (i := 0) (j := 1) (by decide) (show 1 < 5 by decide)
    have p2 := pw_get hp (i := 1) (j := 2) (by decide) (show 2 < 5 by decide)
    have p3 := pw_get hp (i := 2) (j := 3) (by decide) (show 3 < 5 by decide)
    have p4 := pw_get hp (i := 3) (j := 4) (by decide) (show 4 < 5 by decide)
    have p1 : s0 ≤ s1 := p1
    have p2 : s1 ≤ s2 := p2
    have p3 : s2 ≤ s3 := p3
    have p4 : s3 ≤ s4 := p4
    have q1 : s0 ≤ mnF F 5 := by
      have := (hm _).2 ⟨j1, a1, a2⟩
      simp only [List.mem_cons, List.not_mem_nil, or_false] at this
      omega
    have q2 : mnF F 5 ≤ s0 := by
      obtain ⟨j, h1, h2⟩ := (hm s0).1 (by simp)
      rw [h2]; exact a3 j h1
    have q3 : mxF F 5 ≤ s4 := by
      have := (hm _).2 ⟨j2, b1, b2⟩
      simp only [List.mem_cons, List.not_mem_nil, or_false] at this
      omega
    have q4 : s4 ≤ mxF F 5 := by
      obtain ⟨j, h1, h2⟩ := (hm s4).1 (by simp)
      rw [h2]; exact b3 j h1
    simp only [List.sum_cons, List.sum_nil] at hs
    show _ = s1 + s2 + s3 + mnF F 5 + mxF F 5
    omega
def smF (F : Nat → Int32) : Nat → Nat
  | 0 => 0
  | k + 1 => smF F k + na (F k)
theorem ok_mid {σ : SG} (h : ∀ j, j < 5 → σ 118 j = nI (na (σ 118 j)) ∧ na (σ 118 j) ≤ 9999) {post : SG → Int32 → Prop} (K : post σ (nI (ms3 (srt (σ 118) 5)))) : IN_X12_middleSum AF σ [.ref 102] post := by
  refine ⟨⟨_, _, rfl, rfl, Nat.le_of_ble_eq_true rfl, rc_102⟩, Nat.le_of_ble_eq_true rfl, g_X12_middleSum_0 ?_⟩
  have mn : ∀ k, k ≤ 5 → mnF (σ 118) k ≤ 9999 := fun k hk => by
    obtain ⟨⟨j, h1, h2⟩, _⟩ := mnF_ok (σ 118) k hk
    rw [h2]; exact (h j h1).2
  have mx : ∀ k, k ≤ 5 → mxF (σ 118) k ≤ 9999 := fun k hk => by
    obtain ⟨⟨j, h1, h2⟩, _⟩ := mxF_ok (σ 118) k hk
    rw [h2]; exact (h j h1).2
  suffices H : ∀ f k, k + f = 5 → T_X12_middleSum AF post 19 [.ref 102, .int (nI (smF (σ 118) k)), .int (nI (mnF (σ 118) k)), .int (nI (mxF (σ 118) k)), .int (nI k)] [] σ by
    have := H 5 0 rfl
    rw [show nI (mnF (σ 118) 0) = σ 118 0 from (h 0 (by decide)).1.symm, show nI (mxF (σ 118) 0) = σ 118 0 from (h 0 (by decide)).1.symm] at this
    exact this
  intro f
  induction f with
  | zero =>
    intro k hk
    obtain rfl : k = 5 := by omega
    apply g_X12_middleSum_19
    refine ⟨by decide, fun _ => ?_, fun c => absurd c (by decide)⟩
    have e := mid_eq (σ 118)
    have e2 : smF (σ 118) 5 = na (σ 118 0) + na (σ 118 1) + na (σ 118 2) + na (σ 118 3) + na (σ 118 4) := by
      simp only [smF]; omega
    rw [nI_subN (by omega), nI_subN (by omega), show smF (σ 118) 5 - mnF (σ 118) 5 - mxF (σ 118) 5 = ms3 (srt (σ 118) 5) by omega]
    exact K
  | succ f ih =>
    intro k hk
    have n := ih (k + 1) (by omega)
    obtain ⟨e1, e2⟩ := h k (by omega)
    have m1 := mn k (by omega)
    have m2 := mx k (by omega)
    rw [smF, mnF, mxF, ← nI_add, ← e1] at n
    have c1 : nI (mnF (σ 118) k) ≤ σ 118 k ↔ mnF (σ 118) k ≤ na (σ 118 k) := by
      conv => lhs; rw [e1]
      exact nI_leI (by omega) (by omega)
    have c2 : σ 118 k ≤ nI (mxF (σ 118) k) ↔ na (σ 118 k) ≤ mxF (σ 118) k := by
      conv => lhs; rw [e1]
      exact nI_leI (by omega) (by omega)
    apply g_X12_middleSum_19
    rw [c1, c2]
    refine ⟨by omega, fun c => absurd c (by omega), fun _ => ⟨by omega, by omega, fun c => ⟨by omega, fun d => ?_, fun d => ⟨by omega, ?_⟩⟩, fun c => ⟨by omega, by omega, fun d => ?_, fun d => ⟨by omega, ?_⟩⟩⟩⟩
    · rw [if_pos c, if_pos d] at n; exact n
    · rw [if_pos c, if_neg d, ← e1] at n; exact n
    · rw [if_neg c, if_pos d, ← e1] at n; exact n
    · rw [if_neg c, if_neg d, ← e1] at n; exact n
