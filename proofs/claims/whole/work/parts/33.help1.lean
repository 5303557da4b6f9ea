/-! layOut, forget -/
def wv (p : Nat) : Nat := [720, 120, 24, 6, 2, 1, 1].getD p 1
def owp (o : Nat) : Nat → Nat
  | 0 => 0
  | p + 1 => owp o p + if P o p = p then 2 ^ p else 0
theorem ow_eq (o : Nat) : owp o 6 = ow o := by
  unfold ow owp owp owp owp owp owp owp
  rw [Nat.zero_add]
def okL (o p : Nat) : Bool := decide ((oS o p).1 < 64) && (decide ((oS o p).2 / wy p < 720) && (decide ((oS o p).2 < 720) && (decide (P o p < 6) && (decide (clr (oS o p).1 (P o p) = (oS o (p + 1)).1) && (decide (owp o p < 2 ^ p) && decide (owp o p < 64))))))
theorem okL_all : (List.range 720).all (fun o => (List.range 6).all (fun p => okL o p)) = true := by decide +kernel
theorem okL_at {o p : Nat} (ho : o < 720) (hp : p < 6) : (oS o p).1 < 64 ∧ (oS o p).2 / wy p < 720 ∧ (oS o p).2 < 720 ∧ P o p < 6 ∧ clr (oS o p).1 (P o p) = (oS o (p + 1)).1 ∧ owp o p < 2 ^ p ∧ owp o p < 64 := by
  have h := List.all_eq_true.mp (List.all_eq_true.mp okL_all o (List.mem_range.mpr ho)) p (List.mem_range.mpr hp)
  unfold okL at h
  simp only [Bool.and_eq_true, decide_eq_true_eq] at h
  exact h
theorem orB_all : (List.range 6).all (fun p => (List.range 64).all fun a => decide (a < 2 ^ p → (nI a ||| (nI 1 <<< (nI p &&& 31))) = nI (a + 2 ^ p))) = true := by decide +kernel
theorem orB {p a : Nat} (hp : p < 6) (ha : a < 64) (h : a < 2 ^ p) : (nI a ||| (nI 1 <<< (nI p &&& 31))) = nI (a + 2 ^ p) := of_decide_eq_true (List.all_eq_true.mp (List.all_eq_true.mp orB_all p (List.mem_range.mpr hp)) a (List.mem_range.mpr ha)) h
theorem wv_step {p : Nat} (hp : p < 6) : max 1 (wv p / (6 - p)) = wy p ∧ wv (p + 1) = wy p ∧ wv p < 2 ^ 31 ∧ wv p / (6 - p) < 2 ^ 31 ∧ 0 < wy p ∧ wy p < 2 ^ 31 := by
  rcases lt6 hp with rfl | rfl | rfl | rfl | rfl | rfl <;> decide
theorem nI_eqI {a b : Nat} (ha : a < 2 ^ 31) (hb : b < 2 ^ 31) : nI a = nI b ↔ a = b := nI_eq ha hb
theorem layOut_loop {A : AL} (hn : 6 < A.1) (hd0 : A.2.2 3 0 = true) (hd1 : A.2.2 3 1 = true) {σ0 : SG} {o : Nat} (ho : o < 720) {post : SG → Int32 → Prop}
    (K : ∀ τ : SG, (∀ q, q < 6 → τ 4 (o * 6 + q) = nI (P o q)) → τ 5 o = nI (ow o) → (∀ k j, k ≠ 4 → k ≠ 5 → τ k j = σ0 k j) → (∀ j, j < o * 6 ∨ o * 6 + 6 ≤ j → τ 4 j = σ0 4 j) → (∀ j, j ≠ o → τ 5 j = σ0 5 j) → post τ 0) :
    ∀ f p, p + f = 6 → ∀ τ : SG, (∀ q, q < p → τ 4 (o * 6 + q) = nI (P o q)) → τ 5 o = nI (owp o p) → (∀ k j, k ≠ 4 → k ≠ 5 → τ k j = σ0 k j) → (∀ j, j < o * 6 ∨ o * 6 + 6 ≤ j → τ 4 j = σ0 4 j) → (∀ j, j ≠ o → τ 5 j = σ0 5 j) →
    T_X4_layOut A post 13 [.ref 3, .int (nI o), .int (nI (oS o p).1), .int (nI (oS o p).2), .int (nI (wv p)), .int (nI p), dum] [] τ := by
  intro f
  induction f with
  | zero =>
    intro p hp τ h1 h2 h3 h4 h5
    obtain rfl : p = 6 := by omega
    apply g_X4_layOut_13 hn hd0 hd1
    exact ⟨by decide, fun _ => K τ h1 (by rw [h2, ow_eq]) h3 h4 h5, fun c => absurd c (by decide)⟩
  | succ f ih =>
    intro p hp τ h1 h2 h3 h4 h5
    have hp6 : p < 6 := by omega
    obtain ⟨a1, a2, a3, a4, a5, a6, a7⟩ := okL_at ho hp6
    obtain ⟨w1, w2, w3, w4, w5, w6⟩ := wv_step hp6
    apply g_X4_layOut_13 hn hd0 hd1
    rw [w1]
    refine ⟨by omega, fun c => absurd c (by omega), fun _ => ⟨by omega, w3, by omega, by omega, by decide, w4, by omega, w5, w6, fun τ' r => τ' = τ ∧ r = nI (P o p), ok_nthOf (by omega) a1 a2 ⟨rfl, rfl⟩, ?_⟩⟩
    rintro τ' r ⟨rfl, rfl⟩
    have b := bits a1 a4
    rw [b.2.1, a5]
    have e2 : (oS o p).2 % wy p = (oS o (p + 1)).2 := rfl
    rw [e2, ← w2]
    have k4 : ∀ q, q < p + 1 → up τ' 4 (o * 6 + p) (nI (P o p)) 4 (o * 6 + q) = nI (P o q) := fun q hq => by
      by_cases e : q = p
      · rw [e, up_s]
      · rw [up_j (by omega)]; exact h1 q (by omega)
    refine ⟨by omega, by rw [w2]; exact w5, by rw [w2]; exact w6, by omega, fun s1 e1 => ⟨fun c => ?_, fun c => ⟨ho, ho, fun s2 e3 => ?_⟩⟩⟩
    · subst e1
      refine ih (p + 1) (by omega) _ k4 ?_ (fun k j n4 n5 => by rw [up_k n4]; exact h3 k j n4 n5) (fun j hj => by rw [up_j (by omega)]; exact h4 j hj) (fun j hj => by rw [up_k (by decide)]; exact h5 j hj)
      rw [up_k (by decide), h2, owp, if_neg (fun z => c (by rw [z])), Nat.add_zero]
    · have hpp : P o p = p := (nI_eq (by omega) (by omega)).1 c
      subst e1
      subst e3
      refine ih (p + 1) (by omega) _ (fun q hq => by rw [up_k (by decide)]; exact k4 q hq) ?_ (fun k j n4 n5 => by rw [up_k n5, up_k n4]; exact h3 k j n4 n5) (fun j hj => by rw [up_k (by decide), up_j (by omega)]; exact h4 j hj) (fun j hj => by rw [up_j hj, up_k (by decide)]; exact h5 j hj)
      rw [up_s, up_k (by decide), h2, orB hp6 a7 a6, owp, if_pos hpp]
theorem ok_layOut {A : AL} (hn : 6 < A.1) (hd0 : A.2.2 3 0 = true) (hd1 : A.2.2 3 1 = true) {σ0 : SG} {o : Nat} (ho : o < 720) (h0 : σ0 5 o = 0) {post : SG → Int32 → Prop}
    (K : ∀ τ : SG, (∀ q, q < 6 → τ 4 (o * 6 + q) = nI (P o q)) → τ 5 o = nI (ow o) → (∀ k j, k ≠ 4 → k ≠ 5 → τ k j = σ0 k j) → (∀ j, j < o * 6 ∨ o * 6 + 6 ≤ j → τ 4 j = σ0 4 j) → (∀ j, j ≠ o → τ 5 j = σ0 5 j) → post τ 0) : IN_X4_layOut A σ0 [.ref 3, .int (nI o)] post :=
  ⟨⟨_, _, rfl, rfl, Nat.lt_trans (by decide) hn, rc_3⟩, Nat.le_of_ble_eq_true rfl, g_X4_layOut_0 hn hd0 hd1 (layOut_loop hn hd0 hd1 ho K 6 0 rfl σ0 (fun q hq => absurd hq (Nat.not_lt_zero _)) (by rw [h0]; exact nI_0.symm) (fun _ _ _ _ => rfl) (fun _ _ => rfl) (fun _ _ => rfl))⟩
/-- forget: what a turn's times are at first -/
def fgA (b : Nat) (σ τ : SG) (t n : Nat) : Prop := τ (b + 2) t = nI 10 ∧ τ (b + 3) t = nI 0 ∧ (∀ i, i < n → τ (b + 4 + 1 + t) i = nI 0 ∧ τ (b + 4 + 1 + i) t = nI 0) ∧ ∀ k j, (k = b + 2 ∧ j = t) ∨ (k = b + 3 ∧ j = t) ∨ (k = b + 4 + 1 + t ∧ j < 6) ∨ (b + 4 < k ∧ k ≤ b + 4 + 6 ∧ j = t) ∨ τ k j = σ k j
theorem forget_loop_61 {A : AL} (hn : 72 < A.1) (hd0 : A.2.2 61 0 = true) (hd1 : A.2.2 61 1 = true) {σ0 : SG} {t : Nat} (ht : t < 6) {post : SG → Int32 → Prop} (K : ∀ τ, fgA 61 σ0 τ t 6 → post τ 0) : ∀ f i, i + f = 6 → ∀ τ, fgA 61 σ0 τ t i → T_X2_forget A post 21 [.ref 61, .int (nI t), .int (nI i)] [] τ := by
  intro f
  induction f with
  | zero =>
    intro i hi τ h
    obtain rfl : i = 6 := by omega
    apply g_X2_forget_21_61 hn hd0 hd1
    exact ⟨by decide, fun _ => K τ h, fun c => absurd c (by decide)⟩
  | succ f ih =>
    intro i hi τ h
    apply g_X2_forget_21_61 hn hd0 hd1
    refine ⟨by omega, fun c => absurd c (by omega), fun _ => ⟨ht, by omega, fun s1 e1 => ⟨by omega, ht, fun s2 e2 => ?_⟩⟩⟩
    subst e1
    subst e2
    obtain ⟨h1, h2, h3, h4⟩ := h
    have rd : ∀ k j, up (up τ (65 + 1 + t) i (nI 0)) (65 + 1 + i) t (nI 0) k j = if k = 65 + 1 + i ∧ j = t then nI 0 else if k = 65 + 1 + t ∧ j = i then nI 0 else τ k j := fun k j => rfl
    refine ih (i + 1) (by omega) _ ⟨?_, ?_, fun i2 hi2 => ⟨?_, ?_⟩, fun k j => ?_⟩
    · rw [rd, if_neg (by omega), if_neg (by omega)]; exact h1
    · rw [rd, if_neg (by omega), if_neg (by omega)]; exact h2
    · rw [rd]
      split
      · rfl
      · split
        · rfl
        · exact (h3 i2 (by omega)).1
    · rw [rd]
      split
      · rfl
      · split
        · rfl
        · exact (h3 i2 (by omega)).2
    · rw [rd]
      rcases h4 k j with h | h | h | h | h
      · exact Or.inl h
      · exact Or.inr (Or.inl h)
      · exact Or.inr (Or.inr (Or.inl h))
      · exact Or.inr (Or.inr (Or.inr (Or.inl h)))
      · by_cases c1 : k = 65 + 1 + i ∧ j = t
        · exact Or.inr (Or.inr (Or.inr (Or.inl ⟨by omega, by omega, c1.2⟩)))
        · by_cases c2 : k = 65 + 1 + t ∧ j = i
          · exact Or.inr (Or.inr (Or.inl ⟨c2.1, by omega⟩))
          · rw [if_neg c1, if_neg c2]; exact Or.inr (Or.inr (Or.inr (Or.inr h)))
theorem ok_forget_61 {A : AL} (hn : 72 < A.1) (hd0 : A.2.2 61 0 = true) (hd1 : A.2.2 61 1 = true) {σ0 : SG} {t : Nat} (ht : t < 6) {post : SG → Int32 → Prop} (K : ∀ τ, fgA 61 σ0 τ t 6 → post τ 0) : IN_X2_forget A σ0 [.ref 61, .int (nI t)] post := by
  refine ⟨⟨_, _, rfl, rfl, Nat.lt_trans (by decide) hn, rc_61⟩, Nat.le_of_ble_eq_true rfl, g_X2_forget_0_61 hn hd0 hd1 ⟨ht, fun s1 e1 => ⟨ht, fun s2 e2 => ?_⟩⟩⟩
  subst e1
  subst e2
  refine forget_loop_61 hn hd0 hd1 ht K 6 0 rfl _ ⟨?_, ?_, fun i hi => absurd hi (Nat.not_lt_zero _), fun k j => ?_⟩
  · rw [up_k (by decide), up_s]
  · exact up_s
  · by_cases c1 : k = 64 ∧ j = t
    · exact Or.inr (Or.inl c1)
    · by_cases c2 : k = 63 ∧ j = t
      · exact Or.inl c2
      · refine Or.inr (Or.inr (Or.inr (Or.inr ?_)))
        show (if k = 64 ∧ j = t then _ else if k = 63 ∧ j = t then _ else σ0 k j) = σ0 k j
        rw [if_neg c1, if_neg c2]

theorem forget_loop_88 {A : AL} (hn : 99 < A.1) (hd0 : A.2.2 88 0 = true) (hd1 : A.2.2 88 1 = true) {σ0 : SG} {t : Nat} (ht : t < 6) {post : SG → Int32 → Prop} (K : ∀ τ, fgA 88 σ0 τ t 6 → post τ 0) : ∀ f i, i + f = 6 → ∀ τ, fgA 88 σ0 τ t i → T_X2_forget A post 21 [.ref 88, .int (nI t), .int (nI i)] [] τ := by
  intro f
  induction f with
  | zero =>
    intro i hi τ h
    obtain rfl : i = 6 := by omega
    apply g_X2_forget_21_88 hn hd0 hd1
    exact ⟨by decide, fun _ => K τ h, fun c => absurd c (by decide)⟩
  | succ f ih =>
    intro i hi τ h
    apply g_X2_forget_21_88 hn hd0 hd1
    refine ⟨by omega, fun c => absurd c (by omega), fun _ => ⟨ht, by omega, fun s1 e1 => ⟨by omega, ht, fun s2 e2 => ?_⟩⟩⟩
    subst e1
    subst e2
    obtain ⟨h1, h2, h3, h4⟩ := h
    have rd : ∀ k j, up (up τ (92 + 1 + t) i (nI 0)) (92 + 1 + i) t (nI 0) k j = if k = 92 + 1 + i ∧ j = t then nI 0 else if k = 92 + 1 + t ∧ j = i then nI 0 else τ k j := fun k j => rfl
    refine ih (i + 1) (by omega) _ ⟨?_, ?_, fun i2 hi2 => ⟨?_, ?_⟩, fun k j => ?_⟩
    · rw [rd, if_neg (by omega), if_neg (by omega)]; exact h1
    · rw [rd, if_neg (by omega), if_neg (by omega)]; exact h2
    · rw [rd]
      split
      · rfl
      · split
        · rfl
        · exact (h3 i2 (by omega)).1
    · rw [rd]
      split
      · rfl
      · split
        · rfl
        · exact (h3 i2 (by omega)).2
    · rw [rd]
      rcases h4 k j with h | h | h | h | h
      · exact Or.inl h
      · exact Or.inr (Or.inl h)
      · exact Or.inr (Or.inr (Or.inl h))
      · exact Or.inr (Or.inr (Or.inr (Or.inl h)))
      · by_cases c1 : k = 92 + 1 + i ∧ j = t
        · exact Or.inr (Or.inr (Or.inr (Or.inl ⟨by omega, by omega, c1.2⟩)))
        · by_cases c2 : k = 92 + 1 + t ∧ j = i
          · exact Or.inr (Or.inr (Or.inl ⟨c2.1, by omega⟩))
          · rw [if_neg c1, if_neg c2]; exact Or.inr (Or.inr (Or.inr (Or.inr h)))
theorem ok_forget_88 {A : AL} (hn : 99 < A.1) (hd0 : A.2.2 88 0 = true) (hd1 : A.2.2 88 1 = true) {σ0 : SG} {t : Nat} (ht : t < 6) {post : SG → Int32 → Prop} (K : ∀ τ, fgA 88 σ0 τ t 6 → post τ 0) : IN_X2_forget A σ0 [.ref 88, .int (nI t)] post := by
  refine ⟨⟨_, _, rfl, rfl, Nat.lt_trans (by decide) hn, rc_88⟩, Nat.le_of_ble_eq_true rfl, g_X2_forget_0_88 hn hd0 hd1 ⟨ht, fun s1 e1 => ⟨ht, fun s2 e2 => ?_⟩⟩⟩
  subst e1
  subst e2
  refine forget_loop_88 hn hd0 hd1 ht K 6 0 rfl _ ⟨?_, ?_, fun i hi => absurd hi (Nat.not_lt_zero _), fun k j => ?_⟩
  · rw [up_k (by decide), up_s]
  · exact up_s
  · by_cases c1 : k = 91 ∧ j = t
    · exact Or.inr (Or.inl c1)
    · by_cases c2 : k = 90 ∧ j = t
      · exact Or.inl c2
      · refine Or.inr (Or.inr (Or.inr (Or.inr ?_)))
        show (if k = 91 ∧ j = t then _ else if k = 90 ∧ j = t then _ else σ0 k j) = σ0 k j
        rw [if_neg c1, if_neg c2]
