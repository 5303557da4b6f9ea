/-! the search of BETTER: what it finds, and the one of the class -/
abbrev BT := Nat × Nat × (Nat → Nat)
def msL (g : Nat → BT → BT) : Nat → Nat → BT → BT
  | 0, _, b => b
  | c + 1, m, b => msL g c (m + 1) (g m b)
noncomputable def look (k o tm : Nat) (q : Nat → Nat) (b : BT) : BT := if 0 < k ∧ o = 0 ∧ (b.1 = 0 ∨ tm < b.2.1 ∨ (tm = b.2.1 ∧ k < b.1)) then (k, tm, q) else b
def prv (q : Nat → Nat) (k : Nat) : Option Nat := if k = 0 then none else some (q (k - 1))
def sq (q : Nat → Nat) (k m : Nat) : Nat → Nat := fun i => if i = k then m else q i
noncomputable def ms (S : Nat → Int32) : Nat → Nat → Nat → Nat → (Nat → Nat) → BT → BT
  | 0, k, o, tm, q, b => look k o tm q b
  | f + 1, k, o, tm, q, b => if 0 < (look k o tm q b).1 ∧ (look k o tm q b).2.1 ≤ tm then look k o tm q b else
      msL (fun m b => ms S f (k + 1) (mo S m o) (tm + tk S (prv q k) m) (sq q k m) b) (2 * cT S) 0 (look k o tm q b)
theorem mo_inv {S : Nat → Int32} (hS : IS S) {m o : Nat} (hm : m < 2 * cT S) (ho : o < 720) : ∃ m', m' < 2 * cT S ∧ mo S m' (mo S m o) = o := by
  have h1 := (hS.2.2.2.1 (m / 2) (by omega)).2
  by_cases c : m % 2 = 0
  · refine ⟨m + 1, by omega, ?_⟩
    unfold mo gm
    rw [if_pos c, if_neg (by omega), show (m + 1) / 2 = m / 2 by omega]
    exact mvO_inv h1 ho
  · refine ⟨m - 1, by omega, ?_⟩
    unfold mo gm
    rw [if_neg c, if_pos (by omega), show (m - 1) / 2 = m / 2 by omega]
    exact mvO_inv2 h1 ho
theorem rc_back {S : Nat → Int32} (hS : IS S) {m o g : Nat} (hm : m < 2 * cT S) (ho : o < 720) (h : rc (2 * cT S) (mo S) g (mo S m o)) : rc (2 * cT S) (mo S) (g + 1) o := by
  obtain ⟨m', h1, h2⟩ := mo_inv hS hm ho
  exact Or.inr ⟨m', mo S m o, h1, mo_lt hS hm ho, h, h2⟩
theorem look_id {k o tm : Nat} {q : Nat → Nat} {b : BT} (h : ¬ o = 0) : look k o tm q b = b := if_neg fun z => h z.2.1
theorem rcz {M : Nat} {mo : Nat → Nat → Nat} : ∀ g, rc M mo g 0
  | 0 => rfl
  | g + 1 => Or.inl (rcz g)
theorem msL_id {g : Nat → BT → BT} {b : BT} : ∀ c m, (∀ i, m ≤ i → i < m + c → g i b = b) → msL g c m b = b
  | 0, _, _ => rfl
  | c + 1, m, h => by
    rw [msL, h m (Nat.le_refl _) (by omega)]
    exact msL_id c (m + 1) fun i h1 h2 => h i (by omega) (by omega)
theorem ms_id {S : Nat → Int32} (hS : IS S) {b : BT} : ∀ f k o tm q, o < 720 → ¬ rc (2 * cT S) (mo S) f o → ms S f k o tm q b = b
  | 0, k, o, tm, q, ho, h => by rw [ms]; exact look_id h
  | f + 1, k, o, tm, q, ho, h => by
    rw [ms, look_id (fun z => h (by rw [z]; exact rcz _))]
    split
    · rfl
    · refine msL_id _ 0 fun i _ hi => ms_id hS f _ _ _ _ (mo_lt hS (by omega) ho) fun z => h (rc_back hS (by omega) ho z)
def BK (S : Nat → Int32) (b : BT) : Prop := b.1 ≤ 5 ∧ b.2.1 ≤ 2000 ∧ ∀ i, i < b.1 → b.2.2 i < 2 * cT S
theorem look_ok {S : Nat → Int32} {k o tm : Nat} {q : Nat → Nat} {b : BT} (hb : BK S b) (hk : k ≤ 5) (ht : tm ≤ 297 * k) (hq : ∀ i, i < k → q i < 2 * cT S) : BK S (look k o tm q b) := by
  unfold look
  split
  · exact ⟨hk, by show tm ≤ 2000; omega, hq⟩
  · exact hb
theorem sq_lt {S : Nat → Int32} {k m : Nat} {q : Nat → Nat} (hq : ∀ i, i < k → q i < 2 * cT S) (hm : m < 2 * cT S) : ∀ i, i < k + 1 → sq q k m i < 2 * cT S := fun i hi => by
  unfold sq
  split
  · exact hm
  · exact hq i (by omega)
theorem prv_lt {S : Nat → Int32} (hS : IS S) {k : Nat} {q : Nat → Nat} (hq : ∀ i, i < k → q i < 2 * cT S) : ∀ b, prv q k = some b → b < 12 := fun b hb => by
  unfold prv at hb
  split at hb
  · simp at hb
  · simp only [Option.some.injEq] at hb
    have := hq (k - 1) (by omega)
    have := hS.1.2
    omega
theorem msL_ok {Q : BT → Prop} {g : Nat → BT → BT} : ∀ c m b, Q b → (∀ i b, m ≤ i → i < m + c → Q b → Q (g i b)) → Q (msL g c m b)
  | 0, _, _, h, _ => h
  | c + 1, m, b, h, hg => msL_ok c (m + 1) _ (hg m b (Nat.le_refl _) (by omega) h) fun i b h1 h2 => hg i b (by omega) (by omega)
theorem ms_ok {S : Nat → Int32} (hS : IS S) : ∀ f k o tm q b, k + f ≤ 5 → tm ≤ 297 * k → (∀ i, i < k → q i < 2 * cT S) → BK S b → BK S (ms S f k o tm q b)
  | 0, k, o, tm, q, b, hk, ht, hq, hb => by rw [ms]; exact look_ok hb (by omega) ht hq
  | f + 1, k, o, tm, q, b, hk, ht, hq, hb => by
    have hT := hS.1.2
    have h1 := look_ok (o := o) hb (by omega) ht hq
    rw [ms]
    split
    · exact h1
    · refine msL_ok _ 0 _ h1 fun i b _ hi hb => ?_
      have := (tk_le hS.2.2.2.2.2.2.1 (prv_lt hS hq) (show i < 12 by omega)).2
      exact ms_ok hS f (k + 1) _ _ _ b (by omega) (by omega) (sq_lt hq (by omega)) hb
noncomputable def bt (b : BT) : Int32 := if b.1 = 0 then nI 1486 else nI b.2.1
def BC (b : BT) (τ : SG) : Prop := τ 73 4 = nI b.1 ∧ τ 73 5 = bt b ∧ ∀ i, i < b.1 → τ 76 i = nI (b.2.2 i)
theorem bt_lt {S : Nat → Int32} {b : BT} (hb : BK S b) {tm : Nat} (ht : tm ≤ 1485) : nI tm < bt b ↔ ¬ (0 < b.1 ∧ b.2.1 ≤ tm) := by
  have h2 := hb.2.1
  unfold bt
  split
  · next c => rw [nI_ltI (by omega) (by decide)]; omega
  · next c => rw [nI_ltI (by omega) (by omega)]; omega
theorem bt_eq {S : Nat → Int32} {b : BT} (hb : BK S b) {tm : Nat} (ht : tm ≤ 1485) : nI tm = bt b ↔ 0 < b.1 ∧ tm = b.2.1 := by
  have h2 := hb.2.1
  unfold bt
  split
  · next c => rw [nI_eq (by omega) (by decide)]; omega
  · next c => rw [nI_eq (by omega) (by omega)]; omega
def SF (σ τ : SG) : Prop := (∀ k, k ≠ 73 → k ≠ 75 → k ≠ 76 → τ k = σ k) ∧ ∀ j, j ≠ 4 → j ≠ 5 → τ 73 j = σ 73 j
theorem SF.tr {σ τ υ : SG} (h : SF σ τ) (h2 : SF τ υ) : SF σ υ := ⟨fun k a b c => (h2.1 k a b c).trans (h.1 k a b c), fun j a b => (h2.2 j a b).trans (h.2 j a b)⟩
theorem nI_subN {a b : Nat} (h : b ≤ a) : nI a - nI b = nI (a - b) := (Int32.ofNat_sub a b h).symm
def SIH (S : Nat → Int32) (n f : Nat) : Prop := ∀ k o tm q b d, k + f = n → f < d → o < 720 → tm ≤ 297 * k → (∀ i, i < k → q i < 2 * cT S) → BK S b → ∀ s : SG, CU S s → CH S s → s 73 6 = nI n → BC b s → (∀ i, i < k → s 75 i = nI (q i)) → ∀ post : SG → Int32 → Prop,
    (∀ τ : SG, SF s τ → BC (ms S f k o tm q b) τ → (∀ i, i < k → τ 75 i = nI (q i)) → post τ 0) → IN_X1_search d AF s [.ref 73, .int (nI k), .int (nI o), .int (nI tm)] post
theorem sl_loop {S : Nat → Int32} (hS : IS S) {n f : Nat} (hn : n ≤ 5) (IHf : SIH S n f) {k o tm d : Nat} {q : Nat → Nat} (hk : k + f + 1 = n) (hd : f < d) (ho : o < 720) (ht : tm ≤ 297 * k) (hq : ∀ i, i < k → q i < 2 * cT S) {σ : SG} (hU : CU S σ) (hH : CH S σ) (h6 : σ 73 6 = nI n) {post : SG → Int32 → Prop} :
    ∀ c m b, m + c = 2 * cT S → BK S b → (∀ τ : SG, SF σ τ → BC (msL (fun m b => ms S f (k + 1) (mo S m o) (tm + tk S (prv q k) m) (sq q k m) b) c m b) τ → (∀ i, i < k → τ 75 i = nI (q i)) → post τ 0) →
    ∀ s : SG, SF σ s → BC b s → (∀ i, i < k → s 75 i = nI (q i)) → T_X1_search d AF post 34 [.ref 73, .int (nI k), .int (nI o), .int (nI tm), .int (nI m), dum, dum] [] s := by
  have hT := hS.1.2
  have e0 : ∀ s : SG, SF σ s → nI 2 * s 7 0 = nI (2 * cT S) := fun s h => by rw [h.1 7 (by decide) (by decide) (by decide), hU.1, hS.1.1, pk_mul]
  intro c
  induction c with
  | zero =>
    intro m b hm hb K s h1 h2 h3
    apply g_X1_search_34
    rw [e0 s h1]
    exact ⟨fun _ => K s h1 h2 h3, fun c => absurd (nI_le (show 2 * cT S ≤ m by omega) (by omega)) c⟩
  | succ c ih =>
    intro m b hm hb K s h1 h2 h3
    have hm2 : m < 2 * cT S := by omega
    have hx := mo_lt hS hm2 ho
    have hUs : CU S s := hU.fr hS (fun k a b => h1.1 k (by omega) (by omega) (by omega))
    have hHs : CH S s := hH.fr (fun k a b => h1.1 k (by omega) (by omega) (by omega))
    have h6s : s 73 6 = nI n := by rw [h1.2 6 (by decide) (by decide)]; exact h6
    rw [msL] at K
    apply g_X1_search_34
    rw [e0 s h1]
    refine ⟨fun c => absurd c (nI_ge hm2 (by omega)), fun _ => ⟨by omega, ho, mo S m o, hUs.2.2.1 m o hm2 ho, hx, fun c1 => ?_, fun c1 => ⟨by omega, fun s9 e9 => ?_⟩⟩⟩
    · rw [h6s, nI_subN (by omega)] at c1
      have nr : ¬ rc (2 * cT S) (mo S) f (mo S m o) := by
        rcases hUs.2.2.2 _ hx with ⟨D, e, hD, _, hmin⟩ | ⟨e, hno⟩
        · rw [e, nI_leI (by omega) (by omega)] at c1
          exact hmin f (by omega)
        · exact hno f
      rw [ms_id hS f (k + 1) _ _ _ hx nr] at K
      exact ih (m + 1) b (by omega) hb K s h1 h2 h3
    · have f9 : SF s s9 := ⟨fun k' a b c => by rw [e9, up_k b], fun j a b => by rw [e9, up_k (by decide)]⟩
      have hU9 : CU S s9 := hUs.fr hS (fun k a b => f9.1 k (by omega) (by omega) (by omega))
      have hH9 : CH S s9 := hHs.fr (fun k a b => f9.1 k (by omega) (by omega) (by omega))
      have b9 : BC b s9 := ⟨by rw [e9, up_k (by decide)]; exact h2.1, by rw [e9, up_k (by decide)]; exact h2.2.1, fun i hi => by rw [e9, up_k (by decide)]; exact h2.2.2 i hi⟩
      have t9 : ∀ i, i < k + 1 → s9 75 i = nI (sq q k m i) := fun i hi => by
        unfold sq
        rw [e9]
        by_cases e : i = k
        · rw [e, up_s, if_pos rfl]
        · rw [up_j e, if_neg e]; exact h3 i (by omega)
      have hmv : s (21 + 1 + m) o = nI (mo S m o) := hUs.2.2.1 m o hm2 ho
      have tkl := tk_le hS.2.2.2.2.2.2.1 (prv_lt hS hq) (show m < 12 by omega)
      have go : IN_X1_search d AF s9 [.ref 73, .int (nI (k + 1)), .int (s (21 + 1 + m) o), .int (nI tm + nI (tk S (prv q k) m))] (fun τ x => x = 0 → SF s9 τ ∧ BC (ms S f (k + 1) (mo S m o) (tm + tk S (prv q k) m) (sq q k m) b) τ ∧ ∀ i, i < k + 1 → τ 75 i = nI (sq q k m i)) := by
        rw [hmv, nI_add]
        exact IHf (k + 1) _ _ _ b d (by omega) hd hx (by omega) (sq_lt hq hm2) hb s9 hU9 hH9 (by rw [f9.2 6 (by decide) (by decide)]; exact h6s) b9 t9 _ (fun τ a b c _ => ⟨a, b, c⟩)
      have fin : ∀ t : SG, (0 = (0 : Int32) → SF s9 t ∧ BC (ms S f (k + 1) (mo S m o) (tm + tk S (prv q k) m) (sq q k m) b) t ∧ ∀ i, i < k + 1 → t 75 i = nI (sq q k m i)) → T_X1_search d AF post 34 [.ref 73, .int (nI k), .int (nI o), .int (nI tm), .int (nI (m + 1)), dum, dum] [] t := fun t ht => by
        obtain ⟨g1, g2, g3⟩ := ht rfl
        refine ih (m + 1) _ (by omega) (ms_ok hS f (k + 1) _ _ _ b (by omega) (by omega) (sq_lt hq hm2) hb) K t ((h1.tr f9).tr g1) g2 (fun i hi => ?_)
        rw [g3 i (by omega)]
        unfold sq
        rw [if_neg (by omega)]
      refine ⟨fun ck => ?_, fun ck => ?_⟩
      · have k0 : k = 0 := by
          have : k ≤ 0 := (nI_leI (show k < 2 ^ 31 by omega) (show 0 < 2 ^ 31 by decide)).1 ck
          omega
        have ep : prv q k = none := if_pos k0
        rw [ep] at go
        refine ⟨fun τ x => τ = s9 ∧ x = nI (tk S none m), ok_takes (a := none) hS.2.2.2.2.2.2.1 hH9 (show m < 12 by omega) (fun b hb => absurd hb (by simp)) ⟨rfl, rfl⟩, ?_⟩
        rintro t x ⟨rfl, rfl⟩
        rw [ep] at fin
        exact ⟨_, go, fin⟩
      · have k0 : ¬ k = 0 := fun z => ck (by rw [z]; exact nI_le (Nat.le_refl _) (by decide))
        have ep : prv q k = some (q (k - 1)) := if_neg k0
        have hlt := prv_lt hS hq
        rw [ep] at go hlt
        refine ⟨by omega, by omega, ?_⟩
        rw [show s9 75 (k - 1) = aI (some (q (k - 1))) by rw [t9 (k - 1) (by omega), sq, if_neg (by omega)]; rfl]
        refine ⟨fun τ x => τ = s9 ∧ x = nI (tk S (some (q (k - 1))) m), ok_takes (a := some (q (k - 1))) hS.2.2.2.2.2.2.1 hH9 (show m < 12 by omega) hlt ⟨rfl, rfl⟩, ?_⟩
        rintro t x ⟨rfl, rfl⟩
        rw [ep] at fin
        exact ⟨_, go, fin⟩
theorem cpy_k {σ : SG} {k0 a k1 c t k : Nat} (h : k ≠ k1) : cpy σ k0 a k1 c t k = σ k := funext fun j => by unfold cpy; rw [if_neg (fun z => h z.1)]
theorem search_ok {S : Nat → Int32} (hS : IS S) {n : Nat} (hn : n ≤ 5) : ∀ f, SIH S n f := by
  intro f
  induction f with
  | zero =>
    intro k o tm q b d hk hd ho ht hq hb s hU hH h6 h2 h3 post K
    obtain ⟨d, rfl⟩ : ∃ e, d = e + 1 := ⟨d - 1, by omega⟩
    have hbl := look_ok (o := o) hb (show k ≤ 5 by omega) ht hq
    have rest : ∀ s' : SG, SF s s' → BC (look k o tm q b) s' → (∀ i, i < k → s' 75 i = nI (q i)) →
        ((s' 73 6 ≤ nI k → post s' 0) ∧ (¬ s' 73 6 ≤ nI k → ((nI tm < s' 73 5 → T_X1_search d AF post 34 [.ref 73, .int (nI k), .int (nI o), .int (nI tm), .int (nI 0), dum, dum] [] s') ∧ (¬ nI tm < s' 73 5 → post s' 0)))) := fun s' r1 r2 r3 => by
      rw [r1.2 6 (by decide) (by decide), h6, r2.2.1, bt_lt hbl (by omega), nI_leI (by omega) (by omega)]
      refine ⟨fun _ => K s' r1 ?_ r3, fun c => absurd (show n ≤ k by omega) c⟩
      rw [ms]; exact r2
    have same : look k o tm q b = b → ((s 73 6 ≤ nI k → post s 0) ∧ (¬ s 73 6 ≤ nI k → ((nI tm < s 73 5 → T_X1_search d AF post 34 [.ref 73, .int (nI k), .int (nI o), .int (nI tm), .int (nI 0), dum, dum] [] s) ∧ (¬ nI tm < s 73 5 → post s 0)))) := fun e => rest s ⟨fun _ _ _ _ => rfl, fun _ _ _ => rfl⟩ (by rw [e]; exact h2) h3
    have new : look k o tm q b = (k, tm, q) → 0 < k → ∀ s1, s1 = up s 73 5 (nI tm) → ∀ s2, s2 = up s1 73 4 (nI k) → 0 + k ≤ 5 ∧ 0 + k ≤ 5 ∧ ∀ s', s' = cpy s2 75 0 76 0 k → ((s' 73 6 ≤ nI k → post s' 0) ∧ (¬ s' 73 6 ≤ nI k → ((nI tm < s' 73 5 → T_X1_search d AF post 34 [.ref 73, .int (nI k), .int (nI o), .int (nI tm), .int (nI 0), dum, dum] [] s') ∧ (¬ nI tm < s' 73 5 → post s' 0)))) := fun e hk0 s1 e1 s2 e2 => by
      refine ⟨by omega, by omega, fun s' e' => ?_⟩
      have hB : BC (k, tm, q) s' := by
        refine ⟨by rw [e', cpy_k (by decide), e2, up_s], by rw [e', cpy_k (by decide), e2, up_j (by decide), e1, up_s, bt, if_neg (by show ¬ k = 0; omega)], fun i hi => ?_⟩
        have hi : i < k := hi
        rw [e']
        unfold cpy
        rw [if_pos ⟨rfl, Nat.zero_le _, by omega⟩, Nat.zero_add, Nat.sub_zero, e2, up_k (by decide), e1, up_k (by decide)]
        exact h3 i hi
      rw [← e] at hB
      exact rest s' ⟨fun k' x y z => by rw [e', cpy_k z, e2, up_k x, e1, up_k x], fun j x y => by rw [e', cpy_k (by decide), e2, up_j x, e1, up_j y]⟩ hB (fun i hi => by rw [e', cpy_k (by decide), e2, up_k (by decide), e1, up_k (by decide)]; exact h3 i hi)
    refine ⟨rfl, Nat.le_of_ble_eq_true rfl, g_X1_search_0 ⟨fun ck => ?_, fun ck => ⟨by omega, fun co => same (look_id co), fun co => ⟨fun cl => ?_, fun cl => ⟨fun ce => ?_, fun ce => ⟨fun cg => ?_, fun cg => ?_⟩⟩⟩⟩⟩⟩
    · have k0 : k ≤ 0 := (nI_leI (show k < 2 ^ 31 by omega) (show 0 < 2 ^ 31 by decide)).1 ck
      exact same (if_neg fun z => by omega)
    all_goals have k0 : 0 < k := by
                have : ¬ k ≤ 0 := fun z => ck ((nI_leI (show k < 2 ^ 31 by omega) (show 0 < 2 ^ 31 by decide)).2 z)
                omega
    · rw [h2.2.1, bt_lt hb (by omega)] at cl
      exact new (if_pos ⟨k0, co, by omega⟩) k0
    · rw [h2.2.1, bt_lt hb (by omega)] at cl
      rw [h2.2.1, bt_eq hb (by omega)] at ce
      exact same (if_neg fun z => by omega)
    · rw [h2.2.1, bt_lt hb (by omega)] at cl
      rw [h2.2.1, bt_eq hb (by omega)] at ce
      have := hb.1
      rw [h2.1, nI_leI (by omega) (by omega)] at cg
      exact same (if_neg fun z => by omega)
    · rw [h2.2.1, bt_lt hb (by omega)] at cl
      rw [h2.2.1, bt_eq hb (by omega)] at ce
      have := hb.1
      rw [h2.1, nI_leI (by omega) (by omega)] at cg
      exact new (if_pos ⟨k0, co, by omega⟩) k0
  | succ f IHf =>
    intro k o tm q b d hk hd ho ht hq hb s hU hH h6 h2 h3 post K
    obtain ⟨d, rfl⟩ : ∃ e, d = e + 1 := ⟨d - 1, by omega⟩
    have hbl := look_ok (o := o) hb (show k ≤ 5 by omega) ht hq
    have rest : ∀ s' : SG, SF s s' → BC (look k o tm q b) s' → (∀ i, i < k → s' 75 i = nI (q i)) →
        ((s' 73 6 ≤ nI k → post s' 0) ∧ (¬ s' 73 6 ≤ nI k → ((nI tm < s' 73 5 → T_X1_search d AF post 34 [.ref 73, .int (nI k), .int (nI o), .int (nI tm), .int (nI 0), dum, dum] [] s') ∧ (¬ nI tm < s' 73 5 → post s' 0)))) := fun s' r1 r2 r3 => by
      rw [r1.2 6 (by decide) (by decide), h6, r2.2.1, bt_lt hbl (by omega), nI_leI (by omega) (by omega)]
      rw [ms] at K
      refine ⟨fun c => absurd c (by omega), fun _ => ⟨fun c => ?_, fun c => ?_⟩⟩
      · rw [if_neg c] at K
        exact sl_loop hS hn IHf (by omega) (by omega) ho ht hq hU hH h6 (2 * cT S) 0 _ (Nat.zero_add _) hbl K s' r1 r2 r3
      · have c := Classical.not_not.mp c
        rw [if_pos c] at K
        exact K s' r1 r2 r3
    have same : look k o tm q b = b → ((s 73 6 ≤ nI k → post s 0) ∧ (¬ s 73 6 ≤ nI k → ((nI tm < s 73 5 → T_X1_search d AF post 34 [.ref 73, .int (nI k), .int (nI o), .int (nI tm), .int (nI 0), dum, dum] [] s) ∧ (¬ nI tm < s 73 5 → post s 0)))) := fun e => rest s ⟨fun _ _ _ _ => rfl, fun _ _ _ => rfl⟩ (by rw [e]; exact h2) h3
    have new : look k o tm q b = (k, tm, q) → 0 < k → ∀ s1, s1 = up s 73 5 (nI tm) → ∀ s2, s2 = up s1 73 4 (nI k) → 0 + k ≤ 5 ∧ 0 + k ≤ 5 ∧ ∀ s', s' = cpy s2 75 0 76 0 k → ((s' 73 6 ≤ nI k → post s' 0) ∧ (¬ s' 73 6 ≤ nI k → ((nI tm < s' 73 5 → T_X1_search d AF post 34 [.ref 73, .int (nI k), .int (nI o), .int (nI tm), .int (nI 0), dum, dum] [] s') ∧ (¬ nI tm < s' 73 5 → post s' 0)))) := fun e hk0 s1 e1 s2 e2 => by
      refine ⟨by omega, by omega, fun s' e' => ?_⟩
      have hB : BC (k, tm, q) s' := by
        refine ⟨by rw [e', cpy_k (by decide), e2, up_s], by rw [e', cpy_k (by decide), e2, up_j (by decide), e1, up_s, bt, if_neg (by show ¬ k = 0; omega)], fun i hi => ?_⟩
        have hi : i < k := hi
        rw [e']
        unfold cpy
        rw [if_pos ⟨rfl, Nat.zero_le _, by omega⟩, Nat.zero_add, Nat.sub_zero, e2, up_k (by decide), e1, up_k (by decide)]
        exact h3 i hi
      rw [← e] at hB
      exact rest s' ⟨fun k' x y z => by rw [e', cpy_k z, e2, up_k x, e1, up_k x], fun j x y => by rw [e', cpy_k (by decide), e2, up_j x, e1, up_j y]⟩ hB (fun i hi => by rw [e', cpy_k (by decide), e2, up_k (by decide), e1, up_k (by decide)]; exact h3 i hi)
    refine ⟨rfl, Nat.le_of_ble_eq_true rfl, g_X1_search_0 ⟨fun ck => ?_, fun ck => ⟨by omega, fun co => same (look_id co), fun co => ⟨fun cl => ?_, fun cl => ⟨fun ce => ?_, fun ce => ⟨fun cg => ?_, fun cg => ?_⟩⟩⟩⟩⟩⟩
    · have k0 : k ≤ 0 := (nI_leI (show k < 2 ^ 31 by omega) (show 0 < 2 ^ 31 by decide)).1 ck
      exact same (if_neg fun z => by omega)
    all_goals have k0 : 0 < k := by
                have : ¬ k ≤ 0 := fun z => ck ((nI_leI (show k < 2 ^ 31 by omega) (show 0 < 2 ^ 31 by decide)).2 z)
                omega
    · rw [h2.2.1, bt_lt hb (by omega)] at cl
      exact new (if_pos ⟨k0, co, by omega⟩) k0
    · rw [h2.2.1, bt_lt hb (by omega)] at cl
      rw [h2.2.1, bt_eq hb (by omega)] at ce
      exact same (if_neg fun z => by omega)
    · rw [h2.2.1, bt_lt hb (by omega)] at cl
      rw [h2.2.1, bt_eq hb (by omega)] at ce
      have := hb.1
      rw [h2.1, nI_leI (by omega) (by omega)] at cg
      exact same (if_neg fun z => by omega)
    · rw [h2.2.1, bt_lt hb (by omega)] at cl
      rw [h2.2.1, bt_eq hb (by omega)] at ce
      have := hb.1
      rw [h2.1, nI_leI (by omega) (by omega)] at cg
      exact new (if_pos ⟨k0, co, by omega⟩) k0
