/-! PURE: how far orders are, and measure() -/
def rc (M : Nat) (mo : Nat → Nat → Nat) : Nat → Nat → Prop
  | 0, o => o = 0
  | n + 1, o => rc M mo n o ∨ ∃ m o', m < M ∧ o' < 720 ∧ rc M mo n o' ∧ mo m o' = o
theorem rc_mono {M : Nat} {mo : Nat → Nat → Nat} {n k o : Nat} (h : rc M mo n o) (hk : n ≤ k) : rc M mo k o := by
  induction hk with
  | refl => exact h
  | step _ ih => exact Or.inl ih
theorem rc_lt {M : Nat} {mo : Nat → Nat → Nat} (hmo : ∀ m, m < M → ∀ o, o < 720 → mo m o < 720) : ∀ {n o : Nat}, rc M mo n o → o < 720
  | 0, o, h => by rw [show o = 0 from h]; decide
  | n + 1, o, h => by
    rcases h with h | ⟨m, o', h1, h2, h3, h4⟩
    · exact rc_lt hmo h
    · rw [← h4]; exact hmo m h1 o' h2
def isD (M : Nat) (mo : Nat → Nat → Nat) (o : Nat) (v : Int32) : Prop := (∃ n, v = nI n ∧ n < 720 ∧ rc M mo n o ∧ ∀ k, k < n → ¬ rc M mo k o) ∨ (v = -9 ∧ ∀ n, ¬ rc M mo n o)
theorem isD_uniq {M : Nat} {mo : Nat → Nat → Nat} {o : Nat} {v w : Int32} (h : isD M mo o v) (h' : isD M mo o w) : v = w := by
  rcases h with ⟨n, rfl, -, h1, h2⟩ | ⟨rfl, h1⟩ <;> rcases h' with ⟨k, rfl, -, h3, h4⟩ | ⟨rfl, h3⟩
  · rcases Nat.lt_trichotomy n k with h | h | h
    · exact absurd h1 (h4 n h)
    · rw [h]
    · exact absurd h3 (h2 k h)
  · exact absurd h1 (h3 n)
  · exact absurd h3 (h1 k)
  · rfl
theorem nI_ne9 {n : Nat} (h : n < 2 ^ 31) : ¬ nI n = (-9 : Int32) := fun q => by
  have h1 := nI_toInt h
  rw [q] at h1
  have h2 : (-9 : Int32).toInt = -9 := by decide
  omega
def cnt (f : Nat → Bool) : Nat → Nat
  | 0 => 0
  | n + 1 => cnt f n + if f n = true then 1 else 0
theorem cnt_le (f : Nat → Bool) : ∀ n, cnt f n ≤ n
  | 0 => Nat.le_refl 0
  | n + 1 => by
    have := cnt_le f n
    unfold cnt
    split <;> omega
theorem cnt_lt {f : Nat → Bool} {x : Nat} (hx : f x = false) : ∀ {n : Nat}, x < n → cnt f n < n
  | 0, h => absurd h (Nat.not_lt_zero _)
  | n + 1, h => by
    unfold cnt
    by_cases e : x = n
    · subst e
      have := cnt_le f x
      rw [hx]
      simp
      omega
    · have := cnt_lt hx (show x < n by omega)
      split <;> omega
theorem cnt_same {f g : Nat → Bool} : ∀ {n : Nat}, (∀ j, j < n → f j = g j) → cnt f n = cnt g n
  | 0, _ => rfl
  | n + 1, h => by
    unfold cnt
    rw [cnt_same (fun j hj => h j (Nat.lt_succ_of_lt hj)), h n (Nat.lt_succ_self n)]
theorem cnt_up {f g : Nat → Bool} {x : Nat} (hx : f x = false) (hg : g x = true) (ho : ∀ j, j ≠ x → g j = f j) : ∀ {n : Nat}, x < n → cnt g n = cnt f n + 1
  | 0, h => absurd h (Nat.not_lt_zero _)
  | n + 1, h => by
    unfold cnt
    by_cases e : x = n
    · subst e
      rw [hx, hg, cnt_same (fun j hj => ho j (Nat.ne_of_lt hj))]
      simp
    · rw [cnt_up hx hg ho (show x < n by omega), ho n (Ne.symm e)]
      omega
theorem up_s {σ : SG} {k j : Nat} {v : Int32} : up σ k j v k j = v := by
  unfold up
  rw [if_pos ⟨rfl, rfl⟩]
theorem up_j {σ : SG} {k j j2 : Nat} {v : Int32} (h : j2 ≠ j) : up σ k j v k j2 = σ k j2 := by
  unfold up
  rw [if_neg (fun z => h z.2)]
theorem up_k {σ : SG} {k j k2 : Nat} {v : Int32} (h : k2 ≠ k) : up σ k j v k2 = σ k2 := (up_ne h).symm
def nn (v : Int32) : Bool := decide (¬ v = (-9 : Int32))
def BQ (M : Nat) (mo : Nat → Nat → Nat) (σ τ : SG) (kn : Nat) (q d : Nat → Nat) : Prop :=
  (1 ≤ kn ∧ q 0 = 0 ∧ d 0 = 0) ∧ (∀ j, j < kn → τ 35 j = nI (q j) ∧ q j < 720 ∧ τ 34 (q j) = nI (d j) ∧ d j ≤ j ∧ rc M mo (d j) (q j) ∧ ∀ k, k < d j → ¬ rc M mo k (q j)) ∧
  (∀ o, o < 720 → τ 34 o = (-9 : Int32) ∨ ∃ j, j < kn ∧ q j = o) ∧ (∀ j, j + 1 < kn → d j ≤ d (j + 1)) ∧ cnt (fun o => nn (τ 34 o)) 720 = kn ∧ ∀ k, k ≠ 34 → k ≠ 35 → τ k = σ k
def BJ (M : Nat) (mo : Nat → Nat → Nat) (σ : SG) (i : Nat) (τ : SG) (kn : Nat) (q d : Nat → Nat) : Prop :=
  BQ M mo σ τ kn q d ∧ i < kn ∧ (∀ j, j < i → ∀ m, m < M → ∃ j', j' < kn ∧ q j' = mo m (q j)) ∧ (∀ o, rc M mo (d i) o → ∃ j, j < kn ∧ q j = o) ∧ ∀ j, j < kn → d j ≤ d i + 1
theorem BQ.le {M : Nat} {mo : Nat → Nat → Nat} {σ τ : SG} {kn : Nat} {q d : Nat → Nat} (h : BQ M mo σ τ kn q d) : kn ≤ 720 := by
  rw [← h.2.2.2.2.1]; exact cnt_le _ _
theorem mono_of {d : Nat → Nat} {kn : Nat} (h : ∀ j, j + 1 < kn → d j ≤ d (j + 1)) : ∀ {a b : Nat}, a ≤ b → b < kn → d a ≤ d b := by
  intro a b hab
  induction hab with
  | refl => intro _; exact Nat.le_refl _
  | step hab ih => intro hb; exact Nat.le_trans (ih (by omega)) (h _ hb)
/-- a new one is put behind -/
theorem BJ.grow {M : Nat} {mo : Nat → Nat → Nat} (hmo : ∀ m, m < M → ∀ o, o < 720 → mo m o < 720) {σ : SG} {i : Nat} {τ : SG} {kn : Nat} {q d : Nat → Nat} (h : BJ M mo σ i τ kn q d) {m : Nat} (hm : m < M) (h9 : τ 34 (mo m (q i)) = (-9 : Int32)) {v w : Int32} (hv : v = nI (d i + 1)) (hw : w = nI (mo m (q i))) :
    BJ M mo σ i (up (up τ 34 (mo m (q i)) v) 35 kn w) (kn + 1) (fun j => if j = kn then mo m (q i) else q j) (fun j => if j = kn then d i + 1 else d j) := by
  obtain ⟨⟨⟨h1, hq0, hd0⟩, hj, ho, hmn, hc, hf⟩, hi, hp, hl, hu⟩ := h
  have hx : mo m (q i) < 720 := hmo m hm _ (hj i hi).2.1
  have hne : ∀ j, j < kn → q j ≠ mo m (q i) := fun j hj2 e => by
    have h2 := (hj j hj2).2.2.1
    rw [e, h9] at h2
    have h3 := (hj j hj2).2.2.2.1
    have h4 : kn ≤ 720 := by rw [← hc]; exact cnt_le _ _
    exact nI_ne9 (show d j < 2 ^ 31 by omega) h2.symm
  have hdi := (hj i hi).2.2.2.1
  have hk720 : kn < 720 := by
    rw [← hc]
    exact cnt_lt (x := mo m (q i)) (by unfold nn; rw [h9]; decide) hx
  have e34 : ∀ j, up (up τ 34 (mo m (q i)) v) 35 kn w 34 j = up τ 34 (mo m (q i)) v 34 j := fun j => by rw [up_k (by decide)]
  refine ⟨⟨⟨by omega, ?_, ?_⟩, ?_, ?_, ?_, ?_, ?_⟩, by omega, ?_, ?_, ?_⟩
  · show (if 0 = kn then _ else q 0) = 0
    rw [if_neg (by omega)]; exact hq0
  · show (if 0 = kn then _ else d 0) = 0
    rw [if_neg (by omega)]; exact hd0
  · intro j hj2
    show _ = nI (if j = kn then _ else q j) ∧ (if j = kn then _ else q j) < 720 ∧ up (up τ 34 (mo m (q i)) v) 35 kn w 34 (if j = kn then _ else q j) = nI (if j = kn then _ else d j) ∧ (if j = kn then _ else d j) ≤ j ∧ rc M mo (if j = kn then _ else d j) (if j = kn then _ else q j) ∧ ∀ k, k < (if j = kn then _ else d j) → ¬ rc M mo k (if j = kn then _ else q j)
    by_cases e : j = kn
    · subst e
      simp only [↓reduceIte]
      refine ⟨by rw [up_s, hw], hx, by rw [e34, up_s, hv], by omega, Or.inr ⟨m, q i, hm, (hj i hi).2.1, (hj i hi).2.2.2.2.1, rfl⟩, fun k hk hr => ?_⟩
      obtain ⟨j', hj', e'⟩ := hl _ (rc_mono hr (show k ≤ d i by omega))
      exact hne j' hj' e'
    · have hj3 : j < kn := by omega
      simp only [if_neg e]
      obtain ⟨a1, a2, a3, a4, a5⟩ := hj j hj3
      exact ⟨by rw [up_j e, up_k (by decide)]; exact a1, a2, by rw [e34, up_j (hne j hj3)]; exact a3, a4, a5⟩
  · intro o ho2
    by_cases e : o = mo m (q i)
    · exact Or.inr ⟨kn, by omega, by show (if kn = kn then _ else _) = o; rw [if_pos rfl, e]⟩
    · rcases ho o ho2 with h | ⟨j, hj2, h⟩
      · exact Or.inl (by rw [e34, up_j e]; exact h)
      · exact Or.inr ⟨j, by omega, by show (if j = kn then _ else _) = o; rw [if_neg (by omega)]; exact h⟩
  · intro j hj2
    show (if j = kn then _ else d j) ≤ (if j + 1 = kn then _ else d (j + 1))
    rw [if_neg (by omega)]
    by_cases e : j + 1 = kn
    · rw [if_pos e]; exact hu j (by omega)
    · rw [if_neg e]; exact hmn j (by omega)
  · rw [cnt_up (f := fun o => nn (τ 34 o)) (x := mo m (q i)) (by show nn _ = false; unfold nn; rw [h9]; decide) (by show nn _ = true; rw [e34, up_s, hv]; unfold nn; exact decide_eq_true (nI_ne9 (show d i + 1 < 2 ^ 31 by omega))) (fun j hj2 => by show nn _ = nn _; rw [e34, up_j hj2]) hx, hc]
  · intro k h34 h35
    rw [up_k h35, up_k h34]
    exact hf k h34 h35
  · intro j hj2 m' hm'
    obtain ⟨j', h2, h3⟩ := hp j hj2 m' hm'
    refine ⟨j', by omega, ?_⟩
    show (if j' = kn then _ else q j') = mo m' (if j = kn then _ else q j)
    rw [if_neg (by omega), if_neg (by omega)]; exact h3
  · intro o hr
    have hr2 : rc M mo (if i = kn then d i + 1 else d i) o := hr
    rw [if_neg (by omega)] at hr2
    obtain ⟨j, h2, h3⟩ := hl o hr2
    exact ⟨j, by omega, by show (if j = kn then _ else q j) = o; rw [if_neg (by omega)]; exact h3⟩
  · intro j hj2
    show (if j = kn then _ else d j) ≤ (if i = kn then _ else d i) + 1
    rw [if_neg (show ¬ i = kn by omega)]
    by_cases e : j = kn
    · rw [if_pos e]; exact Nat.le_refl _
    · rw [if_neg e]; exact hu j (by omega)
section MEA
theorem meas_in {A : AL} (hn : 35 < A.1) (h2 : A.2.2 7 2 = true) (h3 : A.2.2 7 3 = true) (h4 : A.2.2 7 4 = true) {σ0 : SG} {M : Nat} {mo : Nat → Nat → Nat} (hM : M ≤ 12) (hmo : ∀ m, m < M → ∀ o, o < 720 → mo m o < 720) (hh : nI 2 * σ0 7 0 = nI M) (hmv : ∀ m, m < M → ∀ o, o < 720 → σ0 (21 + 1 + m) o = nI (mo m o)) {post : SG → Int32 → Prop} {i : Nat} (K : ∀ τ kn q d, BJ M mo σ0 i τ kn q d → (∀ m, m < M → ∃ j', j' < kn ∧ q j' = mo m (q i)) → T_X9_measure A post 41 [.ref 7, .int (nI kn), .int (nI (i + 1)), dum, dum, dum] [] τ) :
    ∀ g m, m + g = M → ∀ τ kn q d, BJ M mo σ0 i τ kn q d → (∀ m', m' < m → ∃ j', j' < kn ∧ q j' = mo m' (q i)) → T_X9_measure A post 63 [.ref 7, .int (nI kn), .int (nI i), .int (nI (q i)), .int (nI m), dum] [] τ := by
  intro g
  induction g with
  | zero =>
    intro m hm τ kn q d hJ hp
    apply g_X9_measure_63 hn h2 h3 h4
    have e : τ 7 = σ0 7 := hJ.1.2.2.2.2.2 7 (by decide) (by decide)
    rw [e, hh]
    refine ⟨fun _ => K τ kn q d hJ (by rw [← hm]; exact hp), fun c => absurd (nI_le (show M ≤ m by omega) (show m < 2 ^ 31 by omega)) c⟩
  | succ g ih =>
    intro m hm τ kn q d hJ hp
    apply g_X9_measure_63 hn h2 h3 h4
    have e : τ 7 = σ0 7 := hJ.1.2.2.2.2.2 7 (by decide) (by decide)
    have em : τ (21 + 1 + m) = σ0 (21 + 1 + m) := hJ.1.2.2.2.2.2 _ (by omega) (by omega)
    obtain ⟨a1, a2, a3, a4, a5⟩ := hJ.1.2.1 i hJ.2.1
    have hmM : m < M := by omega
    have hx := hmo m hmM _ a2
    have hkn := hJ.1.le
    rw [e, hh, em, hmv m hmM _ a2]
    refine ⟨fun c => absurd c (nI_ge (by omega) (by omega)), fun _ => ⟨by omega, a2, mo m (q i), rfl, hx, fun c => ?_, fun c => ⟨by omega, fun c2 => ?_, fun c2 => ⟨a2, mo m (q i), rfl, hx, fun s1 e1 => ⟨c2, fun s2 e2 => ?_⟩⟩⟩⟩⟩
    · refine ih (m + 1) (by omega) τ kn q d hJ fun m' hm' => ?_
      by_cases e2 : m' = m
      · subst e2
        rcases hJ.1.2.2.1 _ hx with h | h
        · exact absurd h c
        · exact h
      · exact hp m' (by omega)
    · exfalso
      have hlt := cnt_lt (f := fun o => nn (τ 34 o)) (x := mo m (q i)) (by show nn _ = false; unfold nn; rw [c]; decide) hx
      rw [hJ.1.2.2.2.2.1] at hlt
      omega
    · subst e1
      subst e2
      have hJ2 := hJ.grow hmo hmM c (v := τ 34 (q i) + nI 1) (w := nI (mo m (q i))) (by rw [a3, nI_add]) rfl
      have hik : ¬ i = kn := by have := hJ.2.1; omega
      have := ih (m + 1) (by omega) _ (kn + 1) _ _ hJ2 (fun m' hm' => by
        by_cases e2 : m' = m
        · subst e2
          refine ⟨kn, by omega, ?_⟩
          show (if kn = kn then _ else _) = mo m' (if i = kn then _ else q i)
          rw [if_pos rfl, if_neg hik]
        · obtain ⟨j', h5, h6⟩ := hp m' (by omega)
          refine ⟨j', by omega, ?_⟩
          show (if j' = kn then _ else q j') = mo m' (if i = kn then _ else q i)
          rw [if_neg (by omega), if_neg hik]; exact h6)
      rw [if_neg hik] at this
      exact this
theorem meas_out {A : AL} (hn : 35 < A.1) (h2 : A.2.2 7 2 = true) (h3 : A.2.2 7 3 = true) (h4 : A.2.2 7 4 = true) {σ0 : SG} {M : Nat} {mo : Nat → Nat → Nat} (hM : M ≤ 12) (hmo : ∀ m, m < M → ∀ o, o < 720 → mo m o < 720) (hh : nI 2 * σ0 7 0 = nI M) (hmv : ∀ m, m < M → ∀ o, o < 720 → σ0 (21 + 1 + m) o = nI (mo m o)) {post : SG → Int32 → Prop} (K : ∀ τ, (∀ o, o < 720 → isD M mo o (τ 34 o)) → (∀ k, k ≠ 34 → k ≠ 35 → τ k = σ0 k) → post τ 0) :
    ∀ f i, i + f = 721 → ∀ τ kn q d, BQ M mo σ0 τ kn q d → i ≤ kn → (∀ j, j < i → ∀ m, m < M → ∃ j', j' < kn ∧ q j' = mo m (q j)) → (i < kn → (∀ o, rc M mo (d i) o → ∃ j, j < kn ∧ q j = o) ∧ ∀ j, j < kn → d j ≤ d i + 1) → T_X9_measure A post 41 [.ref 7, .int (nI kn), .int (nI i), dum, dum, dum] [] τ := by
  intro f
  induction f with
  | zero =>
    intro i hi τ kn q d hQ hk
    have := hQ.le
    omega
  | succ f ih =>
    intro i hi τ kn q d hQ hk hp hl
    have hkn := hQ.le
    apply g_X9_measure_41 hn h2 h3 h4
    refine ⟨by omega, by omega, fun c => K τ ?_ hQ.2.2.2.2.2, fun c => ⟨by omega, fun c2 => absurd c2 (by omega), fun _ => ⟨by omega, ?_⟩⟩⟩
    · intro o ho
      rcases hQ.2.2.1 o ho with h | ⟨j, hj, rfl⟩
      · refine Or.inr ⟨h, fun n hr => ?_⟩
        have hin : ∀ n o, rc M mo n o → ∃ j, j < kn ∧ q j = o := by
          intro n
          induction n with
          | zero => intro o hr; exact ⟨0, hQ.1.1, by rw [hQ.1.2.1]; exact (show o = 0 from hr).symm⟩
          | succ n ihn =>
            intro o hr
            rcases hr with hr | ⟨m, o', h5, h6, h7, h8⟩
            · exact ihn o hr
            · obtain ⟨j, hj, rfl⟩ := ihn o' h7
              rw [← h8]
              exact hp j (by omega) m h5
        obtain ⟨j, hj, rfl⟩ := hin n o hr
        obtain ⟨a1, a2, a3, a4, a5⟩ := hQ.2.1 j hj
        rw [a3] at h
        exact nI_ne9 (show d j < 2 ^ 31 by omega) h
      · obtain ⟨a1, a2, a3, a4, a5, a6⟩ := hQ.2.1 j hj
        exact Or.inl ⟨d j, a3, by omega, a5, a6⟩
    · have hJ : BJ M mo σ0 i τ kn q d := ⟨hQ, c, hp, (hl c).1, (hl c).2⟩
      rw [(hQ.2.1 i c).1]
      refine meas_in hn h2 h3 h4 hM hmo hh hmv (post := post) ?_ M 0 (by omega) τ kn q d hJ (fun m' hm' => absurd hm' (Nat.not_lt_zero _))
      intro τ' kn' q' d' hJ' hpi
      have hall : ∀ j, j < i + 1 → ∀ m, m < M → ∃ j', j' < kn' ∧ q' j' = mo m (q' j) := by
        intro j hj m hm
        by_cases e : j = i
        · rw [e]; exact hpi m hm
        · exact hJ'.2.2.1 j (by omega) m hm
      refine ih (i + 1) (by omega) τ' kn' q' d' hJ'.1 hJ'.2.1 hall fun hlt => ?_
      have hmn := hJ'.1.2.2.2.1 i hlt
      have hub := hJ'.2.2.2.2 (i + 1) hlt
      refine ⟨fun o hr => ?_, fun j hj => Nat.le_trans (hJ'.2.2.2.2 j hj) (by omega)⟩
      rcases Nat.eq_or_lt_of_le hmn with e | e
      · rw [← e] at hr
        exact hJ'.2.2.2.1 o hr
      · have e2 : d' (i + 1) = d' i + 1 := by omega
        rw [e2] at hr
        rcases hr with hr | ⟨m, o', h5, h6, h7, h8⟩
        · exact hJ'.2.2.2.1 o hr
        · obtain ⟨j, hj, rfl⟩ := hJ'.2.2.2.1 o' h7
          have hdj : d' j ≤ d' i := by
            rcases Nat.lt_or_ge (d' i) (d' j) with h | h
            · exact absurd h7 ((hJ'.1.2.1 j hj).2.2.2.2.2 _ h)
            · exact h
          have hji : j < i + 1 := by
            rcases Nat.lt_or_ge j (i + 1) with h | h
            · exact h
            · have := mono_of hJ'.1.2.2.2.1 h hj
              omega
          rw [← h8]
          exact hall j hji m h5
theorem meas_clear {A : AL} (hn : 35 < A.1) (h2 : A.2.2 7 2 = true) (h3 : A.2.2 7 3 = true) (h4 : A.2.2 7 4 = true) {σ0 : SG} {post : SG → Int32 → Prop} (K : ∀ τ, (∀ o, o < 720 → τ 34 o = (-9 : Int32)) → (∀ k, k ≠ 34 → k ≠ 35 → τ k = σ0 k) → T_X9_measure A post 2 [.ref 7, .int (nI 720), dum, dum, dum, dum] [] τ) :
    ∀ f o, o + f = 720 → ∀ τ : SG, (∀ j, j < o → τ 34 j = (-9 : Int32)) → (∀ k, k ≠ 34 → k ≠ 35 → τ k = σ0 k) → T_X9_measure A post 2 [.ref 7, .int (nI o), dum, dum, dum, dum] [] τ := by
  intro f
  induction f with
  | zero =>
    intro o ho τ h9 hf
    obtain rfl : o = 720 := by omega
    exact K τ h9 hf
  | succ f ih =>
    intro o ho τ h9 hf
    apply g_X9_measure_2 hn h2 h3 h4
    refine ⟨by omega, fun c => absurd c (by omega), fun _ => ⟨by omega, fun s e => ?_⟩⟩
    subst e
    refine ih (o + 1) (by omega) _ (fun j hj => ?_) (fun k h5 h6 => by rw [up_k h5]; exact hf k h5 h6)
    by_cases e : j = o
    · subst e; exact up_s
    · rw [up_j e]; exact h9 j (by omega)
theorem ok_measure {A : AL} (hn : 35 < A.1) (h2 : A.2.2 7 2 = true) (h3 : A.2.2 7 3 = true) (h4 : A.2.2 7 4 = true) {σ0 : SG} {M : Nat} {mo : Nat → Nat → Nat} (hM : M ≤ 12) (hmo : ∀ m, m < M → ∀ o, o < 720 → mo m o < 720) (hh : nI 2 * σ0 7 0 = nI M) (hmv : ∀ m, m < M → ∀ o, o < 720 → σ0 (21 + 1 + m) o = nI (mo m o)) {post : SG → Int32 → Prop} (K : ∀ τ, (∀ o, o < 720 → isD M mo o (τ 34 o)) → (∀ k, k ≠ 34 → k ≠ 35 → τ k = σ0 k) → post τ 0) : IN_X9_measure A σ0 [.ref 7] post := by
  refine ⟨⟨_, _, rfl, rfl, Nat.lt_trans (by decide) hn, rc_7⟩, Nat.le_of_ble_eq_true rfl, ?_⟩
  refine g_X9_measure_0 hn h2 h3 h4 (meas_clear hn h2 h3 h4 (σ0 := σ0) (post := post) (fun τ h9 hf => ?_) 720 0 rfl σ0 (fun j hj => absurd hj (Nat.not_lt_zero _)) (fun _ _ _ => rfl))
  apply g_X9_measure_2 hn h2 h3 h4
  refine ⟨by decide, fun _ s1 e1 s2 e2 => ?_, fun c => absurd c (by decide)⟩
  subst e1
  subst e2
  refine meas_out hn h2 h3 h4 hM hmo hh hmv K 721 0 rfl _ 1 (fun _ => 0) (fun _ => 0) ⟨⟨Nat.le_refl 1, rfl, rfl⟩, ?_, ?_, fun j hj => absurd hj (by omega), ?_, ?_⟩ (by decide) (fun j hj => absurd hj (Nat.not_lt_zero _)) (fun _ => ⟨fun o hr => ⟨0, by decide, (show o = 0 from hr).symm⟩, fun _ _ => by decide⟩)
  · intro j hj
    obtain rfl : j = 0 := by omega
    exact ⟨up_s, by decide, by rw [up_k (by decide), up_s], Nat.le_refl _, rfl, fun k hk => absurd hk (Nat.not_lt_zero _)⟩
  · intro o ho
    by_cases e : o = 0
    · exact Or.inr ⟨0, by decide, e.symm⟩
    · exact Or.inl (by rw [up_k (by decide), up_j e]; exact h9 o ho)
  · have h0 : ∀ n, cnt (fun _ => false) n = 0 := by
      intro n
      induction n with
      | zero => rfl
      | succ n ih => unfold cnt; rw [ih]; rfl
    rw [cnt_up (f := fun o => if o = 0 then false else nn (up (up τ 34 0 (nI 0)) 35 0 (nI 0) 34 o)) (x := 0) (if_pos rfl) (by show nn _ = true; rw [up_k (by decide), up_s]; decide) (fun j hj => (if_neg hj).symm) (by decide)]
    rw [cnt_same (g := fun _ => false) (fun j hj => ?_), h0]
    show (if j = 0 then false else nn _) = false
    by_cases e : j = 0
    · rw [if_pos e]
    · rw [if_neg e, up_k (by decide), up_j e, h9 j hj]
      decide
  · intro k h5 h6
    rw [up_k h6, up_k h5]
    exact hf k h5 h6
end MEA
