/-! a try: leastRow, tryFrom, solved; isDone, rowFor, goesOn, solvesOf -/
theorem an_all : (List.range 64).all (fun a => (List.range 64).all fun b => decide ((nI a &&& nI b) = nI (a &&& b)) && (decide ((nI a ||| nI b) = nI (a ||| b)) && (decide (a ||| b < 64) && (decide (a &&& b < 64) && ((a &&& b == b) == (List.range 6).all fun p => !b.testBit p || a.testBit p))))) = true := by decide +kernel
theorem an_at {a b : Nat} (ha : a < 64) (hb : b < 64) : (nI a &&& nI b) = nI (a &&& b) ∧ (nI a ||| nI b) = nI (a ||| b) ∧ a ||| b < 64 ∧ a &&& b < 64 ∧ ((a &&& b == b) = (List.range 6).all fun p => !b.testBit p || a.testBit p) := by
  have h := List.all_eq_true.mp (List.all_eq_true.mp an_all a (List.mem_range.mpr ha)) b (List.mem_range.mpr hb)
  simp only [Bool.and_eq_true, decide_eq_true_eq, beq_iff_eq] at h
  exact ⟨h.1, h.2.1, h.2.2.1, h.2.2.2.1, Bool.eq_iff_iff.mpr (by rw [beq_iff_eq]; exact Bool.eq_iff_iff.mp h.2.2.2.2 |> fun z => by rw [← z]; simp)⟩
theorem ow_all : (List.range 720).all (fun o => decide (ow o < 64) && (List.range 6).all fun p => (ow o).testBit p == decide (P o p = p)) = true := by decide +kernel
theorem ow_lt {o : Nat} (ho : o < 720) : ow o < 64 := by
  have h := List.all_eq_true.mp ow_all o (List.mem_range.mpr ho)
  simp only [Bool.and_eq_true, decide_eq_true_eq] at h
  exact h.1
theorem ow_bit {o p : Nat} (ho : o < 720) (hp : p < 6) : (ow o).testBit p = decide (P o p = p) := by
  have h := List.all_eq_true.mp ow_all o (List.mem_range.mpr ho)
  simp only [Bool.and_eq_true, decide_eq_true_eq] at h
  exact beq_iff_eq.mp (List.all_eq_true.mp h.2 p (List.mem_range.mpr hp))
def dn (o d : Nat) : Bool := ow o &&& d == d
def dueN (S : Nat → Int32) : Nat → Nat
  | 0 => 0
  | k + 1 => dueN S k ||| pls S k
def lrF (S : Nat → Int32) (o d rs : Nat) : Nat → Nat → Option Nat
  | 0, _ => none
  | f + 1, r => if rs.testBit r = true ∧ dn (eo S r o) d = true then some r else lrF S o d rs f (r + 1)
def lr (S : Nat → Int32) (o d rs : Nat) : Option Nat := lrF S o d rs (cR S) 0
def stp (S : Nat → Int32) (k : Nat) (x : Nat × Option Nat × (Nat → Option Nat)) : Nat × Option Nat × (Nat → Option Nat) :=
  match x.2.1 with
  | some _ => x
  | none => if dn x.1 (dueN S (k + 1)) = true then x else
    match lr S x.1 (dueN S (k + 1)) (rws S k) with
    | none => (x.1, some k, x.2.2)
    | some r => (eo S r x.1, none, fun j => if j = k then some r else x.2.2 j)
def trN (S : Nat → Int32) (o : Nat) : Nat → Nat × Option Nat × (Nat → Option Nat)
  | 0 => (o, none, fun _ => none)
  | k + 1 => stp S k (trN S o k)
def tr (S : Nat → Int32) (o : Nat) : Nat × Option Nat × (Nat → Option Nat) := trN S o (cK S)
theorem lrF_some {S : Nat → Int32} {o d rs : Nat} : ∀ f r {x : Nat}, lrF S o d rs f r = some x → r ≤ x ∧ x < r + f ∧ dn (eo S x o) d = true
  | 0, r, x, h => by simp [lrF] at h
  | f + 1, r, x, h => by
    rw [lrF] at h
    split at h
    · next c =>
      simp only [Option.some.injEq] at h
      subst h
      exact ⟨Nat.le_refl _, by omega, c.2⟩
    · have := lrF_some f (r + 1) h
      exact ⟨by omega, by omega, this.2.2⟩
theorem lr_some {S : Nat → Int32} {o d rs x : Nat} (h : lr S o d rs = some x) : x < cR S := by
  have := lrF_some _ _ h
  omega
def okT (S : Nat → Int32) (k : Nat) (x : Nat × Option Nat × (Nat → Option Nat)) : Prop := x.1 < 720 ∧ (∀ j, x.2.1 = some j → j < k) ∧ ∀ j r, x.2.2 j = some r → r < cR S
theorem trN_ok {S : Nat → Int32} (hS : IS S) {o : Nat} (ho : o < 720) : ∀ k, okT S k (trN S o k)
  | 0 => ⟨ho, fun _ h => by simp [trN] at h, fun _ _ h => by simp [trN] at h⟩
  | k + 1 => by
    obtain ⟨h1, h2, h3⟩ := trN_ok hS ho k
    rw [trN]
    unfold stp
    split
    · exact ⟨h1, fun j h => Nat.lt_succ_of_lt (h2 j h), h3⟩
    · split
      · exact ⟨h1, fun j h => Nat.lt_succ_of_lt (h2 j h), h3⟩
      · split
        · exact ⟨h1, fun j h => by simp only [Option.some.injEq] at h; omega, h3⟩
        · next r hr =>
          have hr2 := lr_some hr
          refine ⟨eo_lt hS hr2 h1, fun j h => by simp at h, fun j r' h => ?_⟩
          simp only at h
          split at h
          · simp only [Option.some.injEq] at h; omega
          · exact h3 j r' h
theorem trN_stuck {S : Nat → Int32} {o k j : Nat} (h : (trN S o k).2.1 = some j) : ∀ f, trN S o (k + f) = trN S o k
  | 0 => rfl
  | f + 1 => by
    have e := trN_stuck h f
    show stp S (k + f) (trN S o (k + f)) = _
    rw [e]
    unfold stp
    rw [h]
theorem due_lt {S : Nat → Int32} (hS : IS S) : ∀ {k : Nat}, k ≤ cK S → dueN S k < 64
  | 0, _ => by show 0 < 64; decide
  | k + 1, h => (an_at (due_lt hS (show k ≤ cK S by omega)) ((hS.2.2.2.2.2.2.2 k (by omega)).2.1)).2.2.1
theorem dn_iff {o d : Nat} (ho : o < 720) (hd : d < 64) : ((nI (ow o) &&& nI d) = nI d) ↔ dn o d = true := by
  have h := an_at (ow_lt ho) hd
  rw [h.1, nI_eq (by omega) (by omega), dn, beq_iff_eq]
theorem bit1 {L b : Nat} (hL : L < 1024) (hb : b < 10) : ((nI L >>> (nI b &&& 31)) &&& nI 1) = nI 1 ↔ L.testBit b = true := by
  rw [bit_at hL hb]
  split
  · next c => exact ⟨fun _ => c, fun _ => rfl⟩
  · next c => exact ⟨fun z => absurd z.symm (by decide +kernel), fun z => absurd z c⟩
theorem bit0 {L b : Nat} (hL : L < 1024) (hb : b < 10) : ((nI L >>> (nI b &&& 31)) &&& nI 1) = 0 ↔ ¬ L.testBit b = true := by
  rw [bit_at hL hb]
  split
  · next c => exact ⟨fun z => absurd z (by decide +kernel), fun z => absurd c z⟩
  · next c => exact ⟨fun _ => c, fun _ => rfl⟩
-- the class's
theorem least_loop {S : Nat → Int32} (hS : IS S) {σ : SG} (hO : CO σ) (hW : CW S σ) {o d rs : Nat} (ho : o < 720) (hd : d < 64) (hrs : rs < 1024) {post : SG → Int32 → Prop} :
    ∀ f r, r + f = cR S → post σ (aI (lrF S o d rs f r)) → T_X10_leastRow AF post 3 [.ref 77, .int (nI rs), .int (nI o), .int (nI d), .int (nI r)] [] σ := by
  have hr10 := hS.2.1.2
  have e0 : σ 36 0 = nI (cR S) := by rw [hW.1]; exact hS.2.1.1
  intro f
  induction f with
  | zero =>
    intro r hr K
    apply g_X10_leastRow_3
    rw [e0]
    exact ⟨fun _ => K, fun c => absurd (nI_le (show cR S ≤ r by omega) (by omega)) c⟩
  | succ f ih =>
    intro r hr K
    apply g_X10_leastRow_3
    rw [e0]
    have hx := eo_lt hS (show r < cR S by omega) ho
    rw [lrF] at K
    refine ⟨fun c => absurd c (nI_ge (show r < cR S by omega) (by omega)), fun _ => ⟨fun c => ?_, fun c => ⟨by omega, ho, eo S r o, (hW.2 r (by omega)).2.2 o ho, hx, ?_⟩⟩⟩
    · rw [bit1 hrs (by omega)] at c
      rw [if_neg (fun z => c z.1)] at K
      exact ih (r + 1) (by omega) K
    · rw [bit1 hrs (by omega)] at c
      rw [hO.2 _ hx]
      refine ⟨fun c2 => ?_, fun c2 => ?_⟩
      · rw [dn_iff hx hd] at c2
        rw [if_neg (fun z => c2 z.2)] at K
        exact ih (r + 1) (by omega) K
      · rw [dn_iff hx hd] at c2
        rw [if_pos ⟨c, c2⟩] at K
        exact K
theorem ok_leastRow {S : Nat → Int32} (hS : IS S) {σ : SG} (hO : CO σ) (hW : CW S σ) {o d rs : Nat} (ho : o < 720) (hd : d < 64) (hrs : rs < 1024) {post : SG → Int32 → Prop} (K : post σ (aI (lr S o d rs))) : IN_X10_leastRow AF σ [.ref 77, .int (nI rs), .int (nI o), .int (nI d)] post :=
  ⟨⟨_, _, rfl, rfl, Nat.le_of_ble_eq_true rfl, rc_77⟩, Nat.le_of_ble_eq_true rfl, g_X10_leastRow_0 (least_loop hS hO hW ho hd hrs (cR S) 0 (Nat.zero_add _) K)⟩
/-- what a try leaves in the class -/
def TRC (x : Nat × Option Nat × (Nat → Option Nat)) (τ : SG) : Prop := τ 81 1 = aI x.2.1 ∧ ∀ j, j < 4 → τ 82 j = aI (x.2.2 j)
theorem aI_ne {x : Nat} (h : x < 2 ^ 31) : ¬ aI (some x) = (-9 : Int32) := nI_ne9 h
theorem try_loop {S : Nat → Int32} (hS : IS S) {σ : SG} (hO : CO σ) (hW : CW S σ) (hY : CY S σ) {o : Nat} (ho : o < 720) {post : SG → Int32 → Prop}
    (K : ∀ τ : SG, TRC (tr S o) τ → τ 81 2 = nI (tr S o).1 → (∀ k, k ≠ 81 → k ≠ 82 → τ k = σ k) → post τ 0) :
    ∀ f k, k + f = cK S → ∀ s : SG, TRC (trN S o k) s → (∀ k', k' ≠ 81 → k' ≠ 82 → s k' = σ k') → ∀ w : Nat, w = (trN S o k).1 → ∀ du : Nat, ((trN S o k).2.1 = none → du = dueN S k) → T_X10_tryFrom AF post 12 [.ref 77, .int (nI o), .ref 81, .int (nI w), .int (nI du), .int (nI k), dum] [] s := by
  have hK := hS.2.2.1.2
  have e0 : ∀ s : SG, (∀ k', k' ≠ 81 → k' ≠ 82 → s k' = σ k') → s 77 0 = nI (cK S) := fun s h => by rw [h 77 (by decide) (by decide), hY.1]; exact hS.2.2.1.1
  have fin : ∀ s : SG, TRC (tr S o) s → (∀ k', k' ≠ 81 → k' ≠ 82 → s k' = σ k') → ∀ s2, s2 = up s 81 2 (nI (tr S o).1) → post s2 0 := fun s h1 h2 s2 e => by
    subst e
    exact K _ ⟨by rw [up_j (by decide)]; exact h1.1, fun j hj => by rw [up_k (by decide)]; exact h1.2 j hj⟩ (by rw [up_s]) (fun k a b => by rw [up_k a]; exact h2 k a b)
  intro f
  induction f with
  | zero =>
    intro k hk s h1 h2 w hw du hdu
    obtain rfl : k = cK S := by omega
    subst hw
    apply g_X10_tryFrom_12
    rw [e0 s h2]
    exact ⟨fun _ => fin s h1 h2, fun c => absurd (nI_le (Nat.le_refl _) (by omega)) c⟩
  | succ f ih =>
    intro k hk s h1 h2 w hw du hdu
    apply g_X10_tryFrom_12
    rw [e0 s h2]
    obtain ⟨w1, w2, w3⟩ := trN_ok hS ho k
    refine ⟨fun c => absurd c (nI_ge (show k < cK S by omega) (by omega)), fun _ => ⟨fun c => ?_, fun c => ?_⟩⟩
    · cases hst : (trN S o k).2.1 with
      | none => exact absurd (h1.1.trans (by rw [hst]; rfl)) c
      | some j =>
        have e : tr S o = trN S o k := by rw [tr, ← hk]; exact trN_stuck hst (f + 1)
        rw [hw, ← e]
        exact fin s (by rw [e]; exact h1) h2
    · have hst : (trN S o k).2.1 = none := by
        cases hst : (trN S o k).2.1 with
        | none => rfl
        | some j =>
          rw [h1.1, hst] at c
          exact absurd c (aI_ne (by have := w2 j hst; omega))
      obtain rfl := hdu hst
      have y := hY.2 k (by omega)
      have b := hS.2.2.2.2.2.2.2 k (by omega)
      have hd := due_lt hS (show k ≤ cK S by omega)
      have hd1 := due_lt hS (show k + 1 ≤ cK S by omega)
      have hor : (nI (dueN S k) ||| s 78 k) = nI (dueN S (k + 1)) := by rw [h2 78 (by decide) (by decide), y.1]; exact (an_at hd b.2.1).2.1
      rw [hor]
      subst hw
      have hOs : CO s := hO.fr (fun k a b => h2 k (by omega) (by omega))
      have hWs : CW S s := hW.fr hS (fun k a b => h2 k (by omega) (by omega))
      rw [hOs.2 _ w1]
      refine ⟨by omega, w1, fun c2 => ?_, fun c2 => ⟨by omega, ?_⟩⟩
      · rw [dn_iff w1 hd1] at c2
        have e : trN S o (k + 1) = trN S o k := by rw [trN, stp, hst]; exact if_pos c2
        exact ih (k + 1) (by omega) s (by rw [e]; exact h1) h2 _ (by rw [e]) _ (fun _ => rfl)
      · rw [dn_iff w1 hd1] at c2
        rw [h2 79 (by decide) (by decide), y.2.1]
        refine ⟨fun τ x => τ = s ∧ x = aI (lr S (trN S o k).1 (dueN S (k + 1)) (rws S k)), ok_leastRow hS hOs hWs w1 hd1 b.2.2.2.1 ⟨rfl, rfl⟩, ?_⟩
        rintro t x ⟨rfl, rfl⟩
        have e : trN S o (k + 1) = match lr S (trN S o k).1 (dueN S (k + 1)) (rws S k) with
            | none => ((trN S o k).1, some k, (trN S o k).2.2)
            | some r => (eo S r (trN S o k).1, none, fun j => if j = k then some r else (trN S o k).2.2 j) := by rw [trN, stp, hst]; exact if_neg c2
        cases hl : lr S (trN S o k).1 (dueN S (k + 1)) (rws S k) with
        | none =>
          rw [hl] at e
          replace e : trN S o (k + 1) = ((trN S o k).1, some k, (trN S o k).2.2) := e
          refine ⟨fun z => absurd rfl z, fun _ s1 es => ?_⟩
          subst es
          refine ih (k + 1) (by omega) _ (by rw [e]; exact ⟨by rw [up_s]; rfl, fun j hj => by rw [up_k (by decide)]; exact h1.2 j hj⟩) (fun k' a b => by rw [up_k a]; exact h2 k' a b) _ (by rw [e]) _ (fun _ => rfl)
        | some r =>
          rw [hl] at e
          replace e : trN S o (k + 1) = (eo S r (trN S o k).1, none, fun j => if j = k then some r else (trN S o k).2.2 j) := e
          have hr := lr_some hl
          have hr10 := hS.2.1.2
          refine ⟨fun _ => ⟨by omega, fun s1 es => ⟨r, rfl, by omega, w1, ?_⟩⟩, fun z => absurd z (aI_ne (by omega))⟩
          subst es
          rw [up_k (by omega), (hWs.2 r hr).2.2 _ w1]
          have q : TRC (trN S o (k + 1)) (up t 82 k (aI (some r))) := by
            rw [e]
            refine ⟨by rw [up_k (by decide), h1.1, hst], fun j hj => ?_⟩
            show up t 82 k (aI (some r)) 82 j = aI (if j = k then some r else (trN S o k).2.2 j)
            by_cases z : j = k
            · rw [z, up_s, if_pos rfl]
            · rw [up_j z, if_neg z]; exact h1.2 j hj
          exact ih (k + 1) (by omega) _ q (fun k' a b => by rw [up_k b]; exact h2 k' a b) _ (by rw [e]) _ (fun _ => rfl)
theorem ok_tryFrom {S : Nat → Int32} (hS : IS S) {σ : SG} (hO : CO σ) (hW : CW S σ) (hY : CY S σ) {o : Nat} (ho : o < 720) {post : SG → Int32 → Prop}
    (K : ∀ τ : SG, TRC (tr S o) τ → τ 81 2 = nI (tr S o).1 → (∀ k, k ≠ 81 → k ≠ 82 → τ k = σ k) → post τ 0) : IN_X10_tryFrom AF σ [.ref 77, .int (nI o), .ref 81] post := by
  refine ⟨⟨_, _, rfl, rfl, Nat.le_of_ble_eq_true rfl, rc_77⟩, Nat.le_of_ble_eq_true rfl, g_X10_tryFrom_0 ?_⟩
  intro s1 e1 s2 e2 s3 e3 s4 e4 s5 e5
  refine try_loop hS hO hW hY ho K (cK S) 0 (Nat.zero_add _) s5 ⟨?_, fun j hj => ?_⟩ (fun k a b => ?_) o rfl 0 (fun _ => rfl)
  · rw [e5, up_k (by decide), e4, up_k (by decide), e3, up_k (by decide), e2, up_k (by decide), e1, up_s]; rfl
  · have : j = 0 ∨ j = 1 ∨ j = 2 ∨ j = 3 := by omega
    rcases this with rfl | rfl | rfl | rfl
    · rw [e5, up_j (by decide), e4, up_j (by decide), e3, up_j (by decide), e2, up_s]; rfl
    · rw [e5, up_j (by decide), e4, up_j (by decide), e3, up_s]; rfl
    · rw [e5, up_j (by decide), e4, up_s]; rfl
    · rw [e5, up_s]; rfl
  · rw [e5, up_k b, e4, up_k b, e3, up_k b, e2, up_k b, e1, up_k a]
def svd (S : Nat → Int32) (o : Nat) : Bool := (tr S o).2.1 == none && (tr S o).1 == 0
def svN (S : Nat → Int32) : Nat → Nat
  | 0 => 0
  | o + 1 => svN S o + if svd S o = true then 1 else 0
theorem svd_no1 {S : Nat → Int32} {o : Nat} (h : ¬ (tr S o).2.1 = none) : ¬ svd S o = true := by
  unfold svd
  simp only [Bool.and_eq_true, beq_iff_eq]
  exact fun z => h z.1
theorem svd_no2 {S : Nat → Int32} {o : Nat} (h : ¬ (tr S o).1 = 0) : ¬ svd S o = true := by
  unfold svd
  simp only [Bool.and_eq_true, beq_iff_eq]
  exact fun z => h z.2
theorem svd_yes {S : Nat → Int32} {o : Nat} (h : (tr S o).2.1 = none) (h2 : (tr S o).1 = 0) : svd S o = true := by
  unfold svd
  rw [h, h2]; rfl
theorem aI_none {S : Nat → Int32} (hS : IS S) {o : Nat} (ho : o < 720) : aI (tr S o).2.1 = (-9 : Int32) ↔ (tr S o).2.1 = none := by
  have h2 := (trN_ok hS ho (cK S)).2.1
  have hK := hS.2.2.1.2
  refine ⟨fun c => ?_, fun c => by rw [c]; rfl⟩
  cases h : (tr S o).2.1 with
  | none => rfl
  | some j =>
    rw [h] at c
    exact absurd c (aI_ne (by have := h2 j h; omega))
theorem solved_loop {S : Nat → Int32} (hS : IS S) {σ : SG} (hO : CO σ) (hW : CW S σ) (hY : CY S σ) {post : SG → Int32 → Prop}
    (K : ∀ τ : SG, (∀ k, k ≠ 81 → k ≠ 82 → τ k = σ k) → post τ (nI (svN S 720))) :
    ∀ f o, o + f = 720 → ∀ s : SG, (∀ k, k ≠ 81 → k ≠ 82 → s k = σ k) → T_X10_solved AF post 4 [.ref 77, .ref 81, .int (nI (svN S o)), .int (nI o)] [] s := by
  intro f
  induction f with
  | zero =>
    intro o ho s h
    obtain rfl : o = 720 := by omega
    apply g_X10_solved_4
    exact ⟨by decide, fun _ => K s h, fun c => absurd c (by decide)⟩
  | succ f ih =>
    intro o ho s h
    have ho7 : o < 720 := by omega
    apply g_X10_solved_4
    refine ⟨by omega, fun c => absurd c (by omega), fun _ => ⟨fun τ x => x = 0 → TRC (tr S o) τ ∧ τ 81 2 = nI (tr S o).1 ∧ ∀ k, k ≠ 81 → k ≠ 82 → τ k = s k, ok_tryFrom hS (hO.fr (fun k a b => h k (by omega) (by omega))) (hW.fr hS (fun k a b => h k (by omega) (by omega))) (hY.fr (fun k a b => h k (by omega) (by omega))) ho7 (fun τ a b c _ => ⟨a, b, c⟩), fun t ht => ?_⟩⟩
    obtain ⟨h1, h2, h3⟩ := ht rfl
    have ht2 : ∀ k, k ≠ 81 → k ≠ 82 → t k = σ k := fun k a b => by rw [h3 k a b]; exact h k a b
    have step := ih (o + 1) (by omega) t ht2
    rw [svN] at step
    have hw := (trN_ok hS ho7 (cK S)).1
    rw [h1.1, h2, aI_none hS ho7]
    refine ⟨fun c => ?_, fun c => ⟨fun c2 => ?_, fun c2 => ?_⟩⟩
    · rwa [if_neg (svd_no1 c), Nat.add_zero] at step
    · rw [← nI_0, nI_eq (by have : (tr S o).1 < 720 := hw; omega) (by decide)] at c2
      rwa [if_neg (svd_no2 c2), Nat.add_zero] at step
    · rw [← nI_0, nI_eq (by have : (tr S o).1 < 720 := hw; omega) (by decide)] at c2
      rwa [if_pos (svd_yes c c2)] at step
theorem ok_solved {S : Nat → Int32} (hS : IS S) {σ : SG} (hO : CO σ) (hW : CW S σ) (hY : CY S σ) {post : SG → Int32 → Prop}
    (K : ∀ τ : SG, (∀ k, k ≠ 81 → k ≠ 82 → τ k = σ k) → post τ (nI (svN S 720))) : IN_X10_solved AF σ [.ref 77, .ref 81] post :=
  ⟨⟨_, _, rfl, rfl, Nat.le_of_ble_eq_true rfl, rc_77⟩, Nat.le_of_ble_eq_true rfl, g_X10_solved_0 (solved_loop hS hO hW hY K 720 0 rfl σ (fun _ _ _ => rfl))⟩
