/-! the reference's try: isDone, rowFor, goesOn, solvesOf -/
def chk (d o : Nat) : Nat → Nat → Bool
  | 0, _ => true
  | f + 1, p => if d.testBit p = true ∧ ¬ P o p = p then false else chk d o f (p + 1)
theorem chk_iff {d o : Nat} : ∀ f p, chk d o f p = true ↔ ∀ q, p ≤ q → q < p + f → d.testBit q = true → P o q = q
  | 0, p => ⟨fun _ q h1 h2 => absurd h2 (by omega), fun _ => rfl⟩
  | f + 1, p => by
    have h := chk_iff (d := d) (o := o) f (p + 1)
    rw [chk]
    split
    · next c => exact ⟨fun z => absurd z (by simp), fun z => absurd (z p (Nat.le_refl _) (by omega) c.1) c.2⟩
    · next c =>
      rw [h]
      refine ⟨fun z q h1 h2 h3 => ?_, fun z q h1 h2 => z q (by omega) (by omega)⟩
      by_cases e : q = p
      · subst e
        exact Classical.byContradiction fun w => c ⟨h3, w⟩
      · exact z q (by omega) (by omega) h3
theorem dn_bits {o d : Nat} (ho : o < 720) (hd : d < 64) : dn o d = chk d o 6 0 := by
  have h := (an_at (ow_lt ho) hd).2.2.2.2
  rw [Bool.eq_iff_iff, chk_iff, dn, h, List.all_eq_true]
  refine ⟨fun z q _ h2 h3 => ?_, fun z q hq => ?_⟩
  · have := z q (List.mem_range.mpr (by omega))
    rw [h3, ow_bit ho (by omega)] at this
    simpa using this
  · have hq6 := List.mem_range.mp hq
    rw [ow_bit ho hq6]
    by_cases c : d.testBit q = true
    · rw [z q (Nat.zero_le _) (by omega) c]; simp
    · simp [c]
theorem PL0 {σ : SG} {k o : Nat} : PL σ k 0 o ↔ ∀ p, p < 6 → σ k p = nI (P o p) := by simp only [PL, Nat.zero_add]
theorem done_in {S : Nat → Int32} {σ : SG} {a k : Nat} (hia : IA a 6) (hk : a < AF.1) {o d : Nat} (ho : o < 720) (hd : d < 64) (hP : PL σ a 0 o) {post : SG → Int32 → Prop} :
    ∀ f p, p + f = 6 → post σ (nI (if chk d o f p = true then 1 else 0)) → T_X12_isDone AF post 30 [.ref 102, .ref a, .int (nI k), .int (nI d), .int (nI p)] [] σ := by
  intro f
  induction f with
  | zero =>
    intro p hp K
    apply g_X12_isDone_30 hia hk
    rw [chk, if_pos rfl] at K
    exact ⟨by omega, fun _ => K, fun c => absurd c (by omega)⟩
  | succ f ih =>
    intro p hp K
    have hp6 : p < 6 := by omega
    have hb := bit1 (show d < 1024 by omega) (show p < 10 by omega)
    have hp2 := (P_ok ho).1.1 p hp6
    apply g_X12_isDone_30 hia hk
    rw [chk] at K
    refine ⟨by omega, fun c => absurd c (by omega), fun _ => ⟨fun c => ?_, fun c => ⟨hp6, fun c2 => ?_, fun c2 => ?_⟩⟩⟩
    · rw [if_neg (c := d.testBit p = true ∧ ¬ P o p = p) (fun z => c (hb.2 z.1))] at K
      exact ih (p + 1) (by omega) K
    · rw [PL0.1 hP p hp6, nI_eq (by omega) (by omega)] at c2
      rw [if_neg (c := d.testBit p = true ∧ ¬ P o p = p) (fun z => z.2 c2)] at K
      exact ih (p + 1) (by omega) K
    · rw [PL0.1 hP p hp6, nI_eq (by omega) (by omega)] at c2
      rw [if_pos (c := d.testBit p = true ∧ ¬ P o p = p) ⟨hb.1 c, c2⟩, if_neg (show ¬ (false = true) by decide)] at K
      exact K
theorem done_loop {S : Nat → Int32} (hS : IS S) {σ : SG} (hM : MS S σ) {a k : Nat} (hia : IA a 6) (hk : a < AF.1) (hkK : k < cK S) {o : Nat} (ho : o < 720) (hP : PL σ a 0 o) {post : SG → Int32 → Prop} (K : post σ (nI (if dn o (dueN S (k + 1)) = true then 1 else 0))) :
    ∀ f j, j + f = k + 1 → T_X12_isDone AF post 5 [.ref 102, .ref a, .int (nI k), .int (nI (dueN S j)), .int (nI j)] [] σ := by
  have hK := hS.2.2.1.2
  intro f
  induction f with
  | zero =>
    intro j hj
    obtain rfl : j = k + 1 := by omega
    have hd := due_lt hS (show k + 1 ≤ cK S by omega)
    apply g_X12_isDone_5 hia hk
    rw [dn_bits ho hd] at K
    exact ⟨by omega, by omega, fun _ => done_in (S := S) hia hk ho hd hP 6 0 rfl K, fun c => absurd c (by omega)⟩
  | succ f ih =>
    intro j hj
    apply g_X12_isDone_5 hia hk
    have hd := due_lt hS (show j ≤ cK S by omega)
    have b := hS.2.2.2.2.2.2.2 j (by omega)
    refine ⟨by omega, by omega, fun c => absurd c (by omega), fun _ => ⟨by omega, ?_⟩⟩
    rw [hM (185 + 3 * j + 0) (by omega) (by omega), Nat.add_zero, b.1, (an_at hd b.2.1).2.1]
    exact ih (j + 1) (by omega)
theorem ok_isDone {S : Nat → Int32} (hS : IS S) {σ : SG} (hM : MS S σ) {a k : Nat} (hia : IA a 6) (hk : a < AF.1) (hkK : k < cK S) {o : Nat} (ho : o < 720) (hP : PL σ a 0 o) {post : SG → Int32 → Prop} (K : post σ (nI (if dn o (dueN S (k + 1)) = true then 1 else 0))) : IN_X12_isDone AF σ [.ref 102, .ref a, .int (nI k)] post :=
  ⟨⟨_, _, rfl, rfl, Nat.le_of_ble_eq_true rfl, rc_102⟩, Nat.le_of_ble_eq_true rfl, g_X12_isDone_0 hia hk (done_loop hS hM hia hk hkK ho hP K (k + 1) 0 (Nat.zero_add _))⟩
theorem rowFor_loop {S : Nat → Int32} (hS : IS S) {σ : SG} (hM : MS S σ) {k : Nat} (hkK : k < cK S) {o : Nat} (ho : o < 720) (hP : PL σ 115 0 o) {post : SG → Int32 → Prop} 
    (K : ∀ τ : SG, (∀ k', k' ≠ 108 → k' ≠ 116 → τ k' = σ k') → post τ (aI (lr S o (dueN S (k + 1)) (rws S k)))) :
    ∀ f r, r + f = cR S → lrF S o (dueN S (k + 1)) (rws S k) f r = lr S o (dueN S (k + 1)) (rws S k) → ∀ s : SG, (∀ k', k' ≠ 108 → k' ≠ 116 → s k' = σ k') → T_X12_rowFor AF post 2 [.ref 102, .int (nI k), .int (nI r), dum] [] s := by
  have hK := hS.2.2.1.2
  have hr10 := hS.2.1.2
  have e1 : ∀ s : SG, (∀ k', k' ≠ 108 → k' ≠ 116 → s k' = σ k') → s 104 1 = nI (cR S) := fun s h => by rw [h 104 (by decide) (by decide), hM 1 (by decide) (by decide)]; exact hS.2.1.1
  intro f
  induction f with
  | zero =>
    intro r hr hl s h
    apply g_X12_rowFor_2
    rw [e1 s h]
    refine ⟨fun _ => ?_, fun c => absurd (nI_le (show cR S ≤ r by omega) (by omega)) c⟩
    have := K s h
    rw [← hl, lrF] at this
    exact this
  | succ f ih =>
    intro r hr hl s h
    have hrR : r < cR S := by omega
    have b := hS.2.2.2.2.2.2.2 k hkK
    have hMs : MS S s := hM.fr (h 104 (by decide) (by decide))
    have hx := eo_lt hS hrR ho
    rw [lrF] at hl
    apply g_X12_rowFor_2
    rw [e1 s h, hMs (185 + 3 * k + 1) (by omega) (by omega), b.2.2.1, bit0 b.2.2.2.1 (show r < 10 by omega)]
    refine ⟨fun c => absurd c (nI_ge hrR (by omega)), fun _ => ⟨by omega, fun c => ?_, fun c => ?_⟩⟩
    · have c := Classical.not_not.mp c
      intro s6 e6 s7 e7 s8 e8 s9 e9 s10 e10 s11 e11
      have fx : ∀ k', k' ≠ 116 → s11 k' = s k' := fun k' hk' => by rw [e11, up_k hk', e10, up_k hk', e9, up_k hk', e8, up_k hk', e7, up_k hk', e6, up_k hk']
      have hPs : ∀ p, p < 6 → s 115 p = nI (P o p) := fun p hp => by rw [h 115 (by decide) (by decide)]; exact PL0.1 hP p hp
      have v : PL s11 116 0 o := PL0.2 fun p hp => by
        rcases lt6 hp with rfl | rfl | rfl | rfl | rfl | rfl
        · rw [e11, up_j (by decide), e10, up_j (by decide), e9, up_j (by decide), e8, up_j (by decide), e7, up_j (by decide), e6, up_s]; exact hPs 0 hp
        · rw [e11, up_j (by decide), e10, up_j (by decide), e9, up_j (by decide), e8, up_j (by decide), e7, up_s, e6, up_k (by decide)]; exact hPs 1 hp
        · rw [e11, up_j (by decide), e10, up_j (by decide), e9, up_j (by decide), e8, up_s, e7, up_k (by decide), e6, up_k (by decide)]; exact hPs 2 hp
        · rw [e11, up_j (by decide), e10, up_j (by decide), e9, up_s, e8, up_k (by decide), e7, up_k (by decide), e6, up_k (by decide)]; exact hPs 3 hp
        · rw [e11, up_j (by decide), e10, up_s, e9, up_k (by decide), e8, up_k (by decide), e7, up_k (by decide), e6, up_k (by decide)]; exact hPs 4 hp
        · rw [e11, up_s, e10, up_k (by decide), e9, up_k (by decide), e8, up_k (by decide), e7, up_k (by decide), e6, up_k (by decide)]; exact hPs 5 hp
      clear e6 e7 e8 e9 e10 e11
      refine ⟨fun τ x => x = 0 → PL τ 116 0 (eo S r o) ∧ ∀ k', k' ≠ 116 → k' ≠ 108 → τ k' = s11 k', ok_makesRow hS (hMs.fr (fx 104 (by decide))) ia_116 (Nat.le_of_ble_eq_true rfl) (by decide) (Or.inl (by decide)) (by decide) hrR (fun τ a _ d _ => ⟨PL_eo hS ho hrR v a, d⟩), fun t ht => ?_⟩
      obtain ⟨g1, g2⟩ := ht rfl
      have ft : ∀ k', k' ≠ 108 → k' ≠ 116 → t k' = σ k' := fun k' a d => by rw [g2 k' d a, fx k' d]; exact h k' a d
      refine ⟨fun τ x => τ = t ∧ x = nI (if dn (eo S r o) (dueN S (k + 1)) = true then 1 else 0), ok_isDone hS (hM.fr (ft 104 (by decide) (by decide))) ia_116 (Nat.le_of_ble_eq_true rfl) hkK hx g1 ⟨rfl, rfl⟩, ?_⟩
      rintro t x ⟨rfl, rfl⟩
      refine ⟨fun c2 => ?_, fun c2 => ?_⟩
      · have nd : ¬ dn (eo S r o) (dueN S (k + 1)) = true := fun z => by rw [if_pos z] at c2; exact absurd c2 (by decide +kernel)
        rw [if_neg (fun z => nd z.2)] at hl
        exact ih (r + 1) (by omega) hl t ft
      · have yd : dn (eo S r o) (dueN S (k + 1)) = true := Classical.byContradiction fun z => by rw [if_neg z] at c2; exact absurd c2 (by decide +kernel)
        rw [if_pos ⟨c, yd⟩] at hl
        have := K t ft
        rw [← hl] at this
        exact this
    · rw [if_neg (fun z => c z.1)] at hl
      exact ih (r + 1) (by omega) hl s h
theorem ok_rowFor {S : Nat → Int32} (hS : IS S) {σ : SG} (hM : MS S σ) {k : Nat} (hkK : k < cK S) {o : Nat} (ho : o < 720) (hP : PL σ 115 0 o) {post : SG → Int32 → Prop} 
    (K : ∀ τ : SG, (∀ k', k' ≠ 108 → k' ≠ 116 → τ k' = σ k') → post τ (aI (lr S o (dueN S (k + 1)) (rws S k)))) : IN_X12_rowFor AF σ [.ref 102, .int (nI k)] post :=
  ⟨⟨_, _, rfl, rfl, Nat.le_of_ble_eq_true rfl, rc_102⟩, Nat.le_of_ble_eq_true rfl, g_X12_rowFor_0 (rowFor_loop hS hM hkK ho hP K (cR S) 0 (Nat.zero_add _) rfl σ (fun _ _ _ => rfl))⟩
theorem trN_none {S : Nat → Int32} {o : Nat} : ∀ k j, k ≤ j → (trN S o k).2.2 j = none
  | 0, _, _ => rfl
  | k + 1, j, h => by
    have ih := trN_none (S := S) (o := o) k j (by omega)
    rw [trN]
    unfold stp
    split
    · exact ih
    · split
      · exact ih
      · split
        · exact ih
        · show (if j = k then _ else _) = _
          rw [if_neg (by omega)]
          exact ih
/-- what a try leaves in the reference -/
def TRM (x : Nat × Option Nat × (Nat → Option Nat)) (τ : SG) : Prop := τ 102 22 = aI x.2.1 ∧ ∀ j, j < 4 → τ 117 j = aI (x.2.2 j)
def GF (σ τ : SG) : Prop := (∀ k, k ≠ 102 → k ≠ 108 → k ≠ 115 → k ≠ 116 → k ≠ 117 → τ k = σ k) ∧ ∀ j, j ≠ 22 → τ 102 j = σ 102 j
theorem aI_0 {x : Option Nat} (h : ∀ b, x = some b → b < 2 ^ 31) : (0 : Int32) ≤ aI x ↔ ¬ x = none := by
  cases x with
  | none => exact ⟨fun c => absurd c (by decide), fun c => absurd rfl c⟩
  | some b => exact ⟨fun _ => by simp, fun _ => by rw [← nI_0]; exact nI_le (Nat.zero_le _) (h b rfl)⟩
theorem goesOn_loop {S : Nat → Int32} (hS : IS S) {σ : SG} (hM : MS S σ) {o : Nat} (ho : o < 720) {post : SG → Int32 → Prop}
    (K : ∀ τ : SG, TRM (tr S o) τ → PL τ 115 0 (tr S o).1 → GF σ τ → post τ 0) :
    ∀ f k, k + f = cK S → ∀ s : SG, TRM (trN S o k) s → PL s 115 0 (trN S o k).1 → GF σ s → T_X12_goesOn AF post 29 [.ref 102, .int (nI k)] [] s := by
  have hK := hS.2.2.1.2
  have hR := hS.2.1.2
  have e1 : ∀ s : SG, GF σ s → s 104 2 = nI (cK S) := fun s h => by rw [h.1 104 (by decide) (by decide) (by decide) (by decide) (by decide), hM 2 (by decide) (by decide)]; exact hS.2.2.1.1
  intro f
  induction f with
  | zero =>
    intro k hk s h1 h2 h3
    obtain rfl : k = cK S := by omega
    apply g_X12_goesOn_29
    rw [e1 s h3]
    exact ⟨fun _ => K s h1 h2 h3, fun c => absurd (nI_le (Nat.le_refl _) (by omega)) c⟩
  | succ f ih =>
    intro k hk s h1 h2 h3
    obtain ⟨w1, w2, w3⟩ := trN_ok hS ho k
    apply g_X12_goesOn_29
    rw [e1 s h3, h1.1, aI_0 (fun b hb => by have := w2 b hb; omega)]
    refine ⟨fun c => absurd c (nI_ge (show k < cK S by omega) (by omega)), fun _ => ⟨fun c => ?_, fun c => ?_⟩⟩
    · cases hst : (trN S o k).2.1 with
      | none => exact absurd hst c
      | some j =>
        have e : tr S o = trN S o k := by rw [tr, ← hk]; exact trN_stuck hst (f + 1)
        exact K s (by rw [e]; exact h1) (by rw [e]; exact h2) h3
    · have hst : (trN S o k).2.1 = none := Classical.not_not.mp c
      have hMs : MS S s := hM.fr (h3.1 104 (by decide) (by decide) (by decide) (by decide) (by decide))
      refine ⟨fun τ x => τ = s ∧ x = nI (if dn (trN S o k).1 (dueN S (k + 1)) = true then 1 else 0), ok_isDone hS hMs ia_115 (Nat.le_of_ble_eq_true rfl) (by omega) w1 h2 ⟨rfl, rfl⟩, ?_⟩
      rintro s x ⟨rfl, rfl⟩
      refine ⟨fun c2 => ?_, fun c2 => ?_⟩
      · have nd : ¬ dn (trN S o k).1 (dueN S (k + 1)) = true := fun z => by rw [if_pos z] at c2; exact absurd c2 (by decide +kernel)
        refine ⟨fun τ x => x = aI (lr S (trN S o k).1 (dueN S (k + 1)) (rws S k)) ∧ ∀ k', k' ≠ 108 → k' ≠ 116 → τ k' = s k', ok_rowFor hS hMs (by omega) w1 h2 (fun τ a => ⟨rfl, a⟩), ?_⟩
        rintro t x ⟨rfl, ht⟩
        refine ⟨by omega, fun s15 e15 => ⟨by omega, ?_⟩⟩
        have f15 : ∀ k', k' ≠ 108 → k' ≠ 116 → k' ≠ 117 → s15 k' = s k' := fun k' a b d => by rw [e15, up_k d]; exact ht k' a b
        have v15 : s15 117 k = aI (lr S (trN S o k).1 (dueN S (k + 1)) (rws S k)) := by rw [e15, up_s]
        have j15 : ∀ j, j ≠ k → s15 117 j = s 117 j := fun j hj => by rw [e15, up_j hj, ht 117 (by decide) (by decide)]
        have e : trN S o (k + 1) = match lr S (trN S o k).1 (dueN S (k + 1)) (rws S k) with
            | none => ((trN S o k).1, some k, (trN S o k).2.2)
            | some r => (eo S r (trN S o k).1, none, fun j => if j = k then some r else (trN S o k).2.2 j) := by rw [trN, stp, hst]; exact if_neg nd
        clear e15
        rw [v15]
        cases hl : lr S (trN S o k).1 (dueN S (k + 1)) (rws S k) with
        | none =>
          rw [hl] at e v15
          replace e : trN S o (k + 1) = ((trN S o k).1, some k, (trN S o k).2.2) := e
          refine ⟨fun z => absurd z (by decide), fun _ s24 e24 => ?_⟩
          subst e24
          have q : TRM (trN S o (k + 1)) (up s15 102 22 (nI k)) := by
            rw [e]
            refine ⟨by rw [up_s]; rfl, fun j hj => ?_⟩
            rw [up_k (by decide)]
            by_cases z : j = k
            · subst z
              rw [v15]
              show _ = aI ((trN S o j).2.2 j)
              rw [trN_none j j (Nat.le_refl _)]
            · rw [j15 j z]; exact h1.2 j hj
          refine ih (k + 1) (by omega) _ q (by rw [e]; exact PL0.2 fun p hp => by rw [up_k (by decide), f15 115 (by decide) (by decide) (by decide)]; exact PL0.1 h2 p hp) ⟨fun k' a b c d e => by rw [up_k a, f15 k' b d e]; exact h3.1 k' a b c d e, fun j hj => by rw [up_j hj, f15 102 (by decide) (by decide) (by decide)]; exact h3.2 j hj⟩
        | some r =>
          rw [hl] at e v15
          replace e : trN S o (k + 1) = (eo S r (trN S o k).1, none, fun j => if j = k then some r else (trN S o k).2.2 j) := e
          have hr := lr_some hl
          refine ⟨fun _ => ⟨by omega, ?_⟩, fun z => absurd ((aI_0 (fun b hb => by simp only [Option.some.injEq] at hb; omega)).2 (by simp)) z⟩
          rw [show aI (some r) = nI r from rfl]
          refine ⟨fun τ x => x = 0 → PL τ 115 0 (eo S r (trN S o k).1) ∧ ∀ k', k' ≠ 115 → k' ≠ 108 → τ k' = s15 k', ok_makesRow hS (hMs.fr (f15 104 (by decide) (by decide) (by decide))) ia_115 (Nat.le_of_ble_eq_true rfl) (by decide) (Or.inl (by decide)) (by decide) hr (fun τ a _ d _ => ⟨PL_eo hS w1 hr (PL0.2 fun p hp => by rw [f15 115 (by decide) (by decide) (by decide)]; exact PL0.1 h2 p hp) a, d⟩), fun t2 ht2 => ?_⟩
          obtain ⟨g1, g2⟩ := ht2 rfl
          have q : TRM (trN S o (k + 1)) t2 := by
            rw [e]
            refine ⟨by rw [g2 102 (by decide) (by decide), f15 102 (by decide) (by decide) (by decide), h1.1, hst], fun j hj => ?_⟩
            show t2 117 j = aI (if j = k then some r else (trN S o k).2.2 j)
            rw [g2 117 (by decide) (by decide)]
            by_cases z : j = k
            · rw [z, v15, if_pos rfl]
            · rw [j15 j z, if_neg z]; exact h1.2 j hj
          exact ih (k + 1) (by omega) t2 q (by rw [e]; exact g1) ⟨fun k' a b c d e => by rw [g2 k' c b, f15 k' b d e]; exact h3.1 k' a b c d e, fun j hj => by rw [g2 102 (by decide) (by decide), f15 102 (by decide) (by decide) (by decide)]; exact h3.2 j hj⟩
      · have yd : dn (trN S o k).1 (dueN S (k + 1)) = true := Classical.byContradiction fun z => by rw [if_neg z] at c2; exact absurd c2 (by decide +kernel)
        have e : trN S o (k + 1) = trN S o k := by rw [trN, stp, hst]; exact if_pos yd
        exact ih (k + 1) (by omega) s (by rw [e]; exact h1) (by rw [e]; exact h2) h3
theorem ok_goesOn {S : Nat → Int32} (hS : IS S) {σ : SG} (hM : MS S σ) {o : Nat} (ho : o < 720) (hP : PL σ 115 0 o) {post : SG → Int32 → Prop}
    (K : ∀ τ : SG, TRM (tr S o) τ → PL τ 115 0 (tr S o).1 → GF σ τ → post τ 0) : IN_X12_goesOn AF σ [.ref 102] post := by
  refine ⟨⟨_, _, rfl, rfl, Nat.le_of_ble_eq_true rfl, rc_102⟩, Nat.le_of_ble_eq_true rfl, g_X12_goesOn_0 ?_⟩
  intro s1 e1 s2 e2 s3 e3 s4 e4 s5 e5
  have fr : ∀ k, k ≠ 102 → k ≠ 117 → s5 k = σ k := fun k a b => by rw [e5, up_k b, e4, up_k b, e3, up_k b, e2, up_k b, e1, up_k a]
  refine goesOn_loop hS hM ho K (cK S) 0 (Nat.zero_add _) s5 ⟨?_, fun j hj => ?_⟩ (PL0.2 fun p hp => by rw [fr 115 (by decide) (by decide)]; exact PL0.1 hP p hp) ⟨fun k a _ _ _ b => fr k a b, fun j hj => by rw [e5, up_k (by decide), e4, up_k (by decide), e3, up_k (by decide), e2, up_k (by decide), e1, up_j hj]⟩
  · rw [e5, up_k (by decide), e4, up_k (by decide), e3, up_k (by decide), e2, up_k (by decide), e1, up_s]; rfl
  · have : j = 0 ∨ j = 1 ∨ j = 2 ∨ j = 3 := by omega
    rcases this with rfl | rfl | rfl | rfl
    · rw [e5, up_j (by decide), e4, up_j (by decide), e3, up_j (by decide), e2, up_s]; rfl
    · rw [e5, up_j (by decide), e4, up_j (by decide), e3, up_s]; rfl
    · rw [e5, up_j (by decide), e4, up_s]; rfl
    · rw [e5, up_s]; rfl
theorem solvesOf_loop {S : Nat → Int32} (hS : IS S) {σ : SG} (hM : MS S σ) {post : SG → Int32 → Prop} (K : ∀ τ : SG, GF σ τ → post τ (nI (svN S 720))) :
    ∀ f o, o + f = 720 → ∀ s : SG, GF σ s → T_X12_solvesOf AF post 4 [.ref 102, .int (nI (svN S o)), .int (nI o)] [] s := by
  have hK := hS.2.2.1.2
  intro f
  induction f with
  | zero =>
    intro o ho s h
    obtain rfl : o = 720 := by omega
    apply g_X12_solvesOf_4
    exact ⟨by decide, fun _ => K s h, fun c => absurd c (by decide)⟩
  | succ f ih =>
    intro o ho s h
    have ho7 : o < 720 := by omega
    apply g_X12_solvesOf_4
    refine ⟨by omega, fun c => absurd c (by omega), fun _ => ⟨fun τ x => x = 0 → PL τ 115 0 o ∧ ∀ k', k' ≠ 115 → τ k' = s k', ok_puts ia_115 (Nat.le_of_ble_eq_true rfl) (by decide) ho7 (fun τ a _ d _ => ⟨a, d⟩), fun t ht => ?_⟩⟩
    obtain ⟨g1, g2⟩ := ht rfl
    have hMt : MS S t := hM.fr (by rw [g2 104 (by decide)]; exact h.1 104 (by decide) (by decide) (by decide) (by decide) (by decide))
    refine ⟨fun τ x => x = 0 → TRM (tr S o) τ ∧ PL τ 115 0 (tr S o).1 ∧ GF t τ, ok_goesOn hS hMt ho7 g1 (fun τ a b c _ => ⟨a, b, c⟩), fun t2 ht2 => ?_⟩
    obtain ⟨q1, q2, q3⟩ := ht2 rfl
    have fin : GF σ t2 := ⟨fun k a b c d e => by rw [q3.1 k a b c d e, g2 k c]; exact h.1 k a b c d e, fun j hj => by rw [q3.2 j hj, g2 102 (by decide)]; exact h.2 j hj⟩
    have hw := (trN_ok hS ho7 (cK S))
    have step := ih (o + 1) (by omega) t2 fin
    rw [svN] at step
    rw [q1.1, aI_0 (fun b hb => by have := hw.2.1 b hb; omega)]
    refine ⟨fun c => ?_, fun c => ?_⟩
    · rwa [if_neg (svd_no1 c)] at step
    · have c := Classical.not_not.mp c
      refine ⟨fun τ x => τ = t2 ∧ x = nI (if (tr S o).1 = 0 then 1 else 0), ok_isSolved ia_115 (Nat.le_of_ble_eq_true rfl) (by decide) hw.1 q2 ⟨rfl, rfl⟩, ?_⟩
      rintro t2 x ⟨rfl, rfl⟩
      refine ⟨fun c2 => ?_, fun c2 => ?_⟩
      · have n0 : ¬ (tr S o).1 = 0 := fun z => by rw [if_pos z] at c2; exact absurd c2 (by decide +kernel)
        rwa [if_neg (svd_no2 n0)] at step
      · have y0 : (tr S o).1 = 0 := Classical.byContradiction fun z => by rw [if_neg z] at c2; exact absurd c2 (by decide +kernel)
        rwa [if_pos (svd_yes c y0)] at step
theorem ok_solvesOf {S : Nat → Int32} (hS : IS S) {σ : SG} (hM : MS S σ) {post : SG → Int32 → Prop} (K : ∀ τ : SG, GF σ τ → post τ (nI (svN S 720))) : IN_X12_solvesOf AF σ [.ref 102] post :=
  ⟨⟨_, _, rfl, rfl, Nat.le_of_ble_eq_true rfl, rc_102⟩, Nat.le_of_ble_eq_true rfl, g_X12_solvesOf_0 (solvesOf_loop hS hM K 720 0 rfl σ ⟨fun _ _ _ _ _ _ => rfl, fun _ _ => rfl⟩)⟩
