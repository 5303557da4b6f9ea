/-! lacks, luck, bestPace, learn -/
def lkF (S : Nat → Int32) : Nat → Nat → Int32
  | 0, _ => -9
  | f + 1, o => if svd S o = true then lkF S f (o + 1) else nI o
theorem clacks {S : Nat → Int32} (hS : IS S) {σ : SG} (hO : CO σ) (hW : CW S σ) (hY : CY S σ) {post : SG → Int32 → Prop} :
    ∀ f o, o + f = 720 → ∀ s : SG, (∀ k, k ≠ 81 → k ≠ 82 → s k = σ k) → (∀ τ : SG, (∀ k, k ≠ 81 → k ≠ 82 → τ k = σ k) → post τ (lkF S f o)) → T_X11_lacks AF post 2 [.ref 0, .int (nI o)] [] s := by
  intro f
  induction f with
  | zero =>
    intro o ho s h K
    apply g_X11_lacks_2
    exact ⟨by omega, fun _ => K s h, fun c => absurd c (by omega)⟩
  | succ f ih =>
    intro o ho s h K
    have ho7 : o < 720 := by omega
    rw [lkF] at K
    apply g_X11_lacks_2
    refine ⟨by omega, fun c => absurd c (by omega), fun _ => ⟨fun τ x => x = 0 → TRC (tr S o) τ ∧ τ 81 2 = nI (tr S o).1 ∧ ∀ k, k ≠ 81 → k ≠ 82 → τ k = s k, ok_tryFrom hS (hO.fr (fun k a b => h k (by omega) (by omega))) (hW.fr hS (fun k a b => h k (by omega) (by omega))) (hY.fr (fun k a b => h k (by omega) (by omega))) ho7 (fun τ a b c _ => ⟨a, b, c⟩), fun t ht => ?_⟩⟩
    obtain ⟨h1, h2, h3⟩ := ht rfl
    have ht2 : ∀ k, k ≠ 81 → k ≠ 82 → t k = σ k := fun k a b => by rw [h3 k a b]; exact h k a b
    have hw := (trN_ok hS ho7 (cK S)).1
    rw [h1.1, h2, aI_none hS ho7]
    refine ⟨fun c => ?_, fun c => ⟨fun c2 => ?_, fun c2 => ?_⟩⟩
    · have k := K t ht2
      rwa [if_neg (svd_no1 c)] at k
    · rw [← nI_0, nI_eq (by have : (tr S o).1 < 720 := hw; omega) (by decide)] at c2
      have k := K t ht2
      rwa [if_neg (svd_no2 c2)] at k
    · rw [← nI_0, nI_eq (by have : (tr S o).1 < 720 := hw; omega) (by decide)] at c2
      refine ih (o + 1) (by omega) t ht2 (fun τ hτ => ?_)
      have k := K τ hτ
      rwa [if_pos (svd_yes c c2)] at k
theorem GF.rf {σ : SG} : GF σ σ := ⟨fun _ _ _ _ _ _ => rfl, fun _ _ => rfl⟩
theorem GF.tr {σ τ υ : SG} (h : GF σ τ) (h2 : GF τ υ) : GF σ υ := ⟨fun k a b c d e => (h2.1 k a b c d e).trans (h.1 k a b c d e), fun j hj => (h2.2 j hj).trans (h.2 j hj)⟩
theorem MS.gf {S : Nat → Int32} {σ τ : SG} (h : MS S σ) (g : GF σ τ) : MS S τ := h.fr (g.1 104 (by decide) (by decide) (by decide) (by decide) (by decide))
theorem puts_gf {σ τ : SG} (h : ∀ k, k ≠ 115 → τ k = σ k) : GF σ τ := ⟨fun k _ _ c _ _ => h k c, fun j _ => by rw [h 102 (by decide)]⟩
theorem mlacks {S : Nat → Int32} (hS : IS S) {σ : SG} (hM : MS S σ) {post : SG → Int32 → Prop} :
    ∀ f o, o + f = 720 → ∀ s : SG, GF σ s → (∀ τ : SG, GF σ τ → post τ (lkF S f o)) → T_X12_lacks AF post 2 [.ref 102, .int (nI o)] [] s := by
  have hK := hS.2.2.1.2
  intro f
  induction f with
  | zero =>
    intro o ho s h K
    apply g_X12_lacks_2
    exact ⟨by omega, fun _ => K s h, fun c => absurd c (by omega)⟩
  | succ f ih =>
    intro o ho s h K
    have ho7 : o < 720 := by omega
    rw [lkF] at K
    apply g_X12_lacks_2
    refine ⟨by omega, fun c => absurd c (by omega), fun _ => ⟨fun τ x => x = 0 → PL τ 115 0 o ∧ GF s τ, ok_puts ia_115 (Nat.le_of_ble_eq_true rfl) (by decide) ho7 (fun τ a _ d _ => ⟨a, puts_gf d⟩), fun t ht => ?_⟩⟩
    obtain ⟨g1, g2⟩ := ht rfl
    refine ⟨fun τ x => x = 0 → TRM (tr S o) τ ∧ PL τ 115 0 (tr S o).1 ∧ GF t τ, ok_goesOn hS ((hM.gf h).gf g2) ho7 g1 (fun τ a b c _ => ⟨a, b, c⟩), fun t2 ht2 => ?_⟩
    obtain ⟨q1, q2, q3⟩ := ht2 rfl
    have fin : GF σ t2 := (h.tr g2).tr q3
    have hw := (trN_ok hS ho7 (cK S))
    rw [q1.1, aI_0 (fun b hb => by have := hw.2.1 b hb; omega)]
    refine ⟨fun c => ?_, fun c => ?_⟩
    · have k := K t2 fin
      rwa [if_neg (svd_no1 c)] at k
    · have c := Classical.not_not.mp c
      refine ⟨fun τ x => τ = t2 ∧ x = nI (if (tr S o).1 = 0 then 1 else 0), ok_isSolved ia_115 (Nat.le_of_ble_eq_true rfl) (by decide) hw.1 q2 ⟨rfl, rfl⟩, ?_⟩
      rintro t2 x ⟨rfl, rfl⟩
      refine ⟨fun c2 => ?_, fun c2 => ?_⟩
      · have n0 : ¬ (tr S o).1 = 0 := fun z => by rw [if_pos z] at c2; exact absurd c2 (by decide +kernel)
        have k := K t2 fin
        rwa [if_neg (svd_no2 n0)] at k
      · have y0 : (tr S o).1 = 0 := Classical.byContradiction fun z => by rw [if_neg z] at c2; exact absurd c2 (by decide +kernel)
        refine ih (o + 1) (by omega) t2 fin (fun τ hτ => ?_)
        have k := K τ hτ
        rwa [if_pos (svd_yes c y0)] at k
theorem DC_8 {Z σ τ : SG} (hC : KC Z σ) (hI : KI Z) (h : ∀ k, k ≠ 81 → k ≠ 82 → τ k = σ k) {x : Int32} : DC Z σ x τ x := ⟨rfl, hC.fr hI (fun k hk => h k hk.2.2.2.2.2.2.2.1 hk.2.2.2.2.2.2.2.2) (by rw [h 73 (by decide) (by decide)]), fun k hk => h k (by omega) (by omega)⟩
theorem DM_gf {Z σ τ : SG} (hM : KM Z σ) (h : GF σ τ) {x : Int32} : DM Z σ x τ x := ⟨rfl, hM.gf h, fun k hk => h.1 k (by omega) (by omega) (by omega) (by omega) (by omega)⟩
theorem J_lacks {Z σ : SG} (hI : KI Z) (hC : KC Z σ) (hM : KM Z σ)  : ∃ p, IN_X11_lacks AF σ [.ref 0] p ∧ ∀ t r, p t r → ∃ q, IN_X12_lacks AF t [.ref 102] q ∧ ∀ t' r', q t' r' → r = r' ∧ KK t' := by
  have hS := hI.1
  refine joint (Z' := Z) (x := lkF (Z 104) 720 0) (C := fun s p => IN_X11_lacks AF s [.ref 0] p) (M := fun s p => IN_X12_lacks AF s [.ref 102] p) hI hM ?_ (fun t hM => ?_)
  · refine ⟨⟨_, _, rfl, rfl, Nat.le_of_ble_eq_true rfl, rc_0⟩, Nat.le_of_ble_eq_true rfl, g_X11_lacks_0 ?_⟩
    refine ?_
    exact clacks hS hC.1 hC.2.2.1 hC.2.2.2.2.1 720 0 rfl σ (fun _ _ _ => rfl) (fun τ h => DC_8 hC hI h)
  · refine ⟨⟨_, _, rfl, rfl, Nat.le_of_ble_eq_true rfl, rc_102⟩, Nat.le_of_ble_eq_true rfl, g_X12_lacks_0 ?_⟩
    refine ?_
    exact mlacks hS hM.1.ms 720 0 rfl t GF.rf (fun τ h => DM_gf hM h)
/-- the orders that come to step k; those of them that need no row -/
def cmB (S : Nat → Int32) (k o : Nat) : Bool := match (tr S o).2.1 with | none => true | some j => decide (k ≤ j)
def lyB (S : Nat → Int32) (k o : Nat) : Bool := cmB S k o && ((tr S o).2.1 != some k && (tr S o).2.2 k == none)
def cmF (S : Nat → Int32) (k : Nat) : Nat → Nat
  | 0 => 0
  | o + 1 => cmF S k o + if cmB S k o = true then 1 else 0
def lyF (S : Nat → Int32) (k : Nat) : Nat → Nat
  | 0 => 0
  | o + 1 => lyF S k o + if lyB S k o = true then 1 else 0
theorem cl_le (S : Nat → Int32) (k : Nat) : ∀ o, lyF S k o ≤ cmF S k o ∧ cmF S k o ≤ o
  | 0 => ⟨Nat.le_refl _, Nat.le_refl _⟩
  | o + 1 => by
    obtain ⟨h1, h2⟩ := cl_le S k o
    rw [lyF, cmF]
    by_cases c : cmB S k o = true
    · rw [if_pos c]
      split <;> omega
    · have : ¬ lyB S k o = true := fun z => c (by unfold lyB at z; rw [Bool.and_eq_true] at z; exact z.1)
      rw [if_neg c, if_neg this]
      omega
theorem luck_eq {S : Nat → Int32} (hS : IS S) {o k : Nat} (ho : o < 720) (hk : k < cK S) : aI (tr S o).2.1 = nI k ↔ (tr S o).2.1 = some k := by
  have hK := hS.2.2.1.2
  have h2 := (trN_ok hS ho (cK S)).2.1
  cases h : (tr S o).2.1 with
  | none => exact ⟨fun c => absurd c.symm (nI_ne9 (by omega)), fun c => by cases c⟩
  | some j =>
    have := h2 j h
    show nI j = nI k ↔ _
    rw [nI_eq (by omega) (by omega)]
    exact ⟨fun c => by rw [c], fun c => by cases c; rfl⟩
theorem made_eq {S : Nat → Int32} (hS : IS S) {o k : Nat} (ho : o < 720) : aI ((tr S o).2.2 k) = (-9 : Int32) ↔ (tr S o).2.2 k = none := by
  have hR := hS.2.1.2
  have h2 := (trN_ok hS ho (cK S)).2.2
  cases h : (tr S o).2.2 k with
  | none => exact ⟨fun _ => rfl, fun _ => rfl⟩
  | some r =>
    have := h2 k r h
    exact ⟨fun c => absurd c (aI_ne (by omega)), fun c => by cases c⟩
theorem made_lt {S : Nat → Int32} (hS : IS S) {o k : Nat} (ho : o < 720) : aI ((tr S o).2.2 k) < 0 ↔ (tr S o).2.2 k = none := by
  have hR := hS.2.1.2
  have h2 := (trN_ok hS ho (cK S)).2.2
  cases h : (tr S o).2.2 k with
  | none => exact ⟨fun _ => rfl, fun _ => lt0_neg⟩
  | some r =>
    have := h2 k r h
    exact ⟨fun c => absurd c (lt0_nI (by omega)), fun c => by cases c⟩
/-- what counts at an order, by cases -/
theorem luck_cases {S : Nat → Int32} {k o : Nat} :
    ((tr S o).2.1 = some k → cmB S k o = true ∧ ¬ lyB S k o = true) ∧
    (cmB S k o = true → ¬ (tr S o).2.1 = some k → ((tr S o).2.2 k = none → lyB S k o = true) ∧ (¬ (tr S o).2.2 k = none → ¬ lyB S k o = true)) ∧
    ((tr S o).2.1 = none → cmB S k o = true) ∧ (∀ j, (tr S o).2.1 = some j → (cmB S k o = true ↔ k ≤ j)) ∧ (¬ cmB S k o = true → ¬ lyB S k o = true) := by
  unfold lyB cmB
  refine ⟨fun c => ?_, fun c d => ⟨fun e => ?_, fun e => ?_⟩, fun c => ?_, fun j c => ?_, fun c => ?_⟩
  · rw [c]; simp
  · rw [c]; simp [d, e]
  · rw [c]; simp [e]
  · rw [c]
  · rw [c]; simp
  · intro z; rw [Bool.and_eq_true] at z; exact c z.1
theorem cluck {S : Nat → Int32} (hS : IS S) {σ : SG} (hO : CO σ) (hW : CW S σ) (hY : CY S σ) {k : Nat} (hk : k < cK S) {pt : Int32} {post : SG → Int32 → Prop}
    (K : ∀ τ : SG, (∀ k, k ≠ 81 → k ≠ 82 → τ k = σ k) → (cmF S k 720 = 0 → post τ pt) ∧ (0 < cmF S k 720 → post τ (if pt = 0 then nI (lyF S k 720 / Nat.gcd (lyF S k 720) (cmF S k 720)) else nI (cmF S k 720 / Nat.gcd (lyF S k 720) (cmF S k 720))))) :
    ∀ f o, o + f = 720 → ∀ s : SG, (∀ k, k ≠ 81 → k ≠ 82 → s k = σ k) → T_X11_luck AF post 41 [.ref 0, .int (nI k), .int pt, .int (nI (cmF S k o)), .int (nI (lyF S k o)), .int (nI o)] [] s := by
  have hK := hS.2.2.1.2
  intro f
  induction f with
  | zero =>
    intro o ho s h
    obtain rfl : o = 720 := by omega
    have l := cl_le S k 720
    apply g_X11_luck_41
    refine ⟨by decide, fun _ => ⟨fun τ x => τ = s ∧ post s x, ok_least (by omega) (by omega) (fun z => ⟨rfl, (K s h).1 z⟩) (fun z => ⟨rfl, (K s h).2 z⟩), ?_⟩, fun c => absurd c (by decide)⟩
    rintro t x ⟨rfl, q⟩
    exact q
  | succ f ih =>
    intro o ho s h
    have ho7 : o < 720 := by omega
    apply g_X11_luck_41
    refine ⟨by omega, fun c => absurd c (by omega), fun _ => ⟨fun τ x => x = 0 → TRC (tr S o) τ ∧ τ 81 2 = nI (tr S o).1 ∧ ∀ k, k ≠ 81 → k ≠ 82 → τ k = s k, ok_tryFrom hS (hO.fr (fun k a b => h k (by omega) (by omega))) (hW.fr hS (fun k a b => h k (by omega) (by omega))) (hY.fr (fun k a b => h k (by omega) (by omega))) ho7 (fun τ a b c _ => ⟨a, b, c⟩), fun t ht => ?_⟩⟩
    obtain ⟨h1, h2, h3⟩ := ht rfl
    have ht2 : ∀ k, k ≠ 81 → k ≠ 82 → t k = σ k := fun k a b => by rw [h3 k a b]; exact h k a b
    have n := ih (o + 1) (by omega) t ht2
    rw [cmF, lyF] at n
    obtain ⟨z1, z2, z3, z4, z5⟩ := luck_cases (S := S) (k := k) (o := o)
    have hw := (trN_ok hS ho7 (cK S)).2.1
    rw [h1.1, h1.2 k (by omega), aI_none hS ho7, luck_eq hS ho7 hk, made_eq hS ho7]
    have yes : cmB S k o = true → ¬ (tr S o).2.1 = some k → (¬ (tr S o).2.2 k = none → T_X11_luck AF post 41 [.ref 0, .int (nI k), .int pt, .int (nI (cmF S k o + 1)), .int (nI (lyF S k o + 0)), .int (nI (o + 1))] [] t) ∧ ((tr S o).2.2 k = none → T_X11_luck AF post 41 [.ref 0, .int (nI k), .int pt, .int (nI (cmF S k o + 1)), .int (nI (lyF S k o + 1)), .int (nI (o + 1))] [] t) := fun c d => by
      refine ⟨fun e => ?_, fun e => ?_⟩
      · rwa [if_pos c, if_neg ((z2 c d).2 e)] at n
      · rwa [if_pos c, if_pos ((z2 c d).1 e)] at n
    have at_k : (tr S o).2.1 = some k → T_X11_luck AF post 41 [.ref 0, .int (nI k), .int pt, .int (nI (cmF S k o + 1)), .int (nI (lyF S k o + 0)), .int (nI (o + 1))] [] t := fun c => by
      rwa [if_pos (z1 c).1, if_neg (z1 c).2] at n
    refine ⟨fun c => ⟨at_k, fun d => ⟨by omega, yes (z3 c) d⟩⟩, fun c => ?_⟩
    obtain ⟨j, ej⟩ := Option.ne_none_iff_exists'.1 c
    have hj := hw j ej
    rw [ej]
    show (nI j < nI k → _) ∧ (¬ nI j < nI k → _)
    rw [nI_ltI (by omega) (by omega)]
    refine ⟨fun d => ?_, fun d => ⟨fun e => at_k (ej.trans e), fun e => ⟨by omega, yes ((z4 j ej).2 (by omega)) (by rw [ej]; exact e)⟩⟩⟩
    have nc : ¬ cmB S k o = true := fun z => by have := (z4 j ej).1 z; omega
    rwa [if_neg nc, if_neg (z5 nc)] at n
theorem ok_common {σ : SG} : ∀ k d a b, b < 2 ^ k → a < 2 ^ 31 → b < 2 ^ 31 → ∀ {post : SG → Int32 → Prop}, post σ (nI (Nat.gcd a b)) → IN_X12_common (2 * k + 1 + d) AF σ [.int (nI a), .int (nI b)] post := by
  intro k
  induction k with
  | zero =>
    intro d a b hb ha hb2 post K
    obtain rfl : b = 0 := by omega
    rw [show 2 * 0 + 1 + d = d + 1 by omega]
    refine ⟨rfl, Nat.le_of_ble_eq_true rfl, g_X12_common_0 ⟨by omega, fun c => absurd rfl c, fun _ => ?_⟩⟩
    rwa [Nat.gcd_zero_right] at K
  | succ k ih =>
    intro d a b hb ha hb2 post K
    rw [show 2 * (k + 1) + 1 + d = (2 * k + 1 + d + 1) + 1 by omega]
    refine ⟨rfl, Nat.le_of_ble_eq_true rfl, g_X12_common_0 ⟨by omega, fun c => ⟨ha, by omega, hb2, fun τ x => τ = σ ∧ x = nI (Nat.gcd a b), ?_, by rintro t x ⟨rfl, rfl⟩; exact K⟩, fun c => ?_⟩⟩
    · have h1 : a % b < b := Nat.mod_lt _ (by omega)
      have g1 : Nat.gcd a b = Nat.gcd b (a % b) := by rw [Nat.gcd_comm a b, Nat.gcd_rec b a, Nat.gcd_comm]
      refine ⟨rfl, Nat.le_of_ble_eq_true rfl, g_X12_common_0 ⟨by omega, fun c2 => ⟨hb2, by omega, by omega, fun τ x => τ = σ ∧ x = nI (Nat.gcd a b), ?_, by rintro t x ⟨rfl, rfl⟩; exact ⟨rfl, rfl⟩⟩, fun c2 => ⟨rfl, by rw [g1, c2, Nat.gcd_zero_right]⟩⟩⟩
      have h2 : b % (a % b) < a % b := Nat.mod_lt _ (by omega)
      have h3 : b % (a % b) + (a % b) ≤ b := by
        have := Nat.div_add_mod b (a % b)
        have h4 : 1 ≤ b / (a % b) := Nat.div_pos (by omega) (by omega)
        have h5 : a % b * 1 ≤ a % b * (b / (a % b)) := Nat.mul_le_mul_left _ h4
        omega
      have g2 : Nat.gcd b (a % b) = Nat.gcd (a % b) (b % (a % b)) := by rw [Nat.gcd_comm b, Nat.gcd_rec (a % b) b, Nat.gcd_comm]
      rw [g1, g2]
      rw [Nat.pow_succ] at hb
      exact ih d (a % b) (b % (a % b)) (by omega) (by omega) (by omega) ⟨rfl, rfl⟩
    · subst c
      rwa [Nat.gcd_zero_right] at K
theorem mluck {S : Nat → Int32} (hS : IS S) {σ : SG} (hM : MS S σ) {k : Nat} (hk : k < cK S) {pt : Int32} {post : SG → Int32 → Prop}
    (K : ∀ τ : SG, GF σ τ → (lyF S k 720 = 0 → post τ pt) ∧ (0 < lyF S k 720 → post τ (if pt = 0 then nI (lyF S k 720 / Nat.gcd (cmF S k 720) (lyF S k 720)) else nI (cmF S k 720 / Nat.gcd (cmF S k 720) (lyF S k 720))))) :
    ∀ f o, o + f = 720 → ∀ s : SG, GF σ s → T_X12_luck AF post 37 [.ref 102, .int (nI k), .int pt, .int (nI (cmF S k o)), .int (nI (cmF S k o - lyF S k o)), .int (nI o)] [] s := by
  have hK := hS.2.2.1.2
  intro f
  induction f with
  | zero =>
    intro o ho s h
    obtain rfl : o = 720 := by omega
    obtain ⟨l1, l2⟩ := cl_le S k 720
    have k2 := K s h
    apply g_X12_luck_37
    refine ⟨by decide, fun _ => ⟨by omega, by omega, fun c => ⟨by omega, ?_⟩, fun c => k2.1 (by omega)⟩, fun c => absurd c (by decide)⟩
    have k3 := k2.2 (by omega)
    rw [show cmF S k 720 - (cmF S k 720 - lyF S k 720) = lyF S k 720 by omega]
    have g0 := Nat.gcd_pos_of_pos_right (cmF S k 720) (show 0 < lyF S k 720 by omega)
    have g1 := Nat.le_of_dvd (by omega) (Nat.gcd_dvd_right (cmF S k 720) (lyF S k 720))
    refine ⟨fun τ x => τ = s ∧ x = nI (Nat.gcd (cmF S k 720) (lyF S k 720)), ok_common 10 19 _ _ (by omega) (by omega) (by omega) ⟨rfl, rfl⟩, ?_⟩
    rintro t x ⟨rfl, rfl⟩
    refine ⟨fun c => ⟨nI_ne0 g0 (by omega), ?_⟩, fun c => ⟨by omega, nI_ne0 g0 (by omega), ?_⟩⟩
    · rw [if_neg c] at k3
      rw [pk_div (by omega) g0 (by omega)]
      exact k3
    · rw [if_pos c] at k3
      rw [pk_div (by omega) g0 (by omega)]
      exact k3
  | succ f ih =>
    intro o ho s h
    have ho7 : o < 720 := by omega
    obtain ⟨l1, l2⟩ := cl_le S k o
    apply g_X12_luck_37
    refine ⟨by omega, fun c => absurd c (by omega), fun _ => ⟨fun τ x => x = 0 → PL τ 115 0 o ∧ GF s τ, ok_puts ia_115 (Nat.le_of_ble_eq_true rfl) (by decide) ho7 (fun τ a _ d _ => ⟨a, puts_gf d⟩), fun t ht => ?_⟩⟩
    obtain ⟨g1, g2⟩ := ht rfl
    refine ⟨fun τ x => x = 0 → TRM (tr S o) τ ∧ GF t τ, ok_goesOn hS ((hM.gf h).gf g2) ho7 g1 (fun τ a b c _ => ⟨a, c⟩), fun t2 ht2 => ?_⟩
    obtain ⟨q1, q3⟩ := ht2 rfl
    have fin : GF σ t2 := (h.tr g2).tr q3
    have hw := (trN_ok hS ho7 (cK S)).2.1
    have n := ih (o + 1) (by omega) t2 fin
    rw [cmF, lyF] at n
    obtain ⟨z1, z2, z3, z4, z5⟩ := luck_cases (S := S) (k := k) (o := o)
    rw [q1.1, q1.2 k (by omega), luck_eq hS ho7 hk, made_lt hS ho7]
    have ne1 : ∀ {w : Nat}, w = cmF S k o - lyF S k o + 1 → T_X12_luck AF post 37 [.ref 102, .int (nI k), .int pt, .int (nI (cmF S k o + 1)), .int (nI w), .int (nI (o + 1))] [] t2 → T_X12_luck AF post 37 [.ref 102, .int (nI k), .int pt, .int (nI (cmF S k o + 1)), .int (nI (cmF S k o - lyF S k o + 1)), .int (nI (o + 1))] [] t2 := fun e z => by rw [e] at z; exact z
    have yes : cmB S k o = true → ¬ (tr S o).2.1 = some k → ((tr S o).2.2 k = none → T_X12_luck AF post 37 [.ref 102, .int (nI k), .int pt, .int (nI (cmF S k o + 1)), .int (nI (cmF S k o - lyF S k o + 0)), .int (nI (o + 1))] [] t2) ∧ (¬ (tr S o).2.2 k = none → T_X12_luck AF post 37 [.ref 102, .int (nI k), .int pt, .int (nI (cmF S k o + 1)), .int (nI (cmF S k o - lyF S k o + 1)), .int (nI (o + 1))] [] t2) := fun c d => by
      refine ⟨fun e => ?_, fun e => ?_⟩
      · rw [if_pos c, if_pos ((z2 c d).1 e), show cmF S k o + 1 - (lyF S k o + 1) = cmF S k o - lyF S k o + 0 by omega] at n
        exact n
      · rw [if_pos c, if_neg ((z2 c d).2 e)] at n
        exact ne1 (by omega) n
    have at_k : (tr S o).2.1 = some k → T_X12_luck AF post 37 [.ref 102, .int (nI k), .int pt, .int (nI (cmF S k o + 1)), .int (nI (cmF S k o - lyF S k o + 1)), .int (nI (o + 1))] [] t2 := fun c => by
      rw [if_pos (z1 c).1, if_neg (z1 c).2] at n
      exact ne1 (by omega) n
    cases ej : (tr S o).2.1 with
    | none =>
      rw [ej] at at_k yes
      exact ⟨fun _ => ⟨at_k, fun d => ⟨by omega, yes (z3 ej) d⟩⟩, fun c => absurd lt0_neg c⟩
    | some j =>
      have hj := hw j ej
      rw [ej] at at_k yes
      refine ⟨fun c => absurd c (lt0_nI (by omega)), fun _ => ?_⟩
      show (nI k ≤ nI j → _) ∧ (¬ nI k ≤ nI j → _)
      rw [nI_leI (by omega) (by omega)]
      refine ⟨fun d => ⟨at_k, fun e => ⟨by omega, yes ((z4 j ej).2 d) e⟩⟩, fun d => ?_⟩
      have nc : ¬ cmB S k o = true := fun z => d ((z4 j ej).1 z)
      rwa [if_neg nc, if_neg (z5 nc)] at n
def luX (S : Nat → Int32) (k : Nat) (pt : Int32) : Int32 := if lyF S k 720 = 0 then pt else if pt = 0 then nI (lyF S k 720 / Nat.gcd (cmF S k 720) (lyF S k 720)) else nI (cmF S k 720 / Nat.gcd (cmF S k 720) (lyF S k 720))
theorem luX_C {S : Nat → Int32} {k : Nat} {pt : Int32} (hpt : pt = nI 0 ∨ pt = nI 1) {Q : Int32 → Prop} (h : Q (luX S k pt)) : (cmF S k 720 = 0 → Q pt) ∧ (0 < cmF S k 720 → Q (if pt = 0 then nI (lyF S k 720 / Nat.gcd (lyF S k 720) (cmF S k 720)) else nI (cmF S k 720 / Nat.gcd (lyF S k 720) (cmF S k 720)))) := by
  have l := (cl_le S k 720).1
  unfold luX at h
  refine ⟨fun c => ?_, fun c => ?_⟩
  · rw [if_pos (by omega)] at h; exact h
  · by_cases z : lyF S k 720 = 0
    · rw [if_pos z] at h
      rw [z, Nat.gcd_zero_left, Nat.zero_div, Nat.div_self c]
      rcases hpt with e | e
      · rw [e] at h ⊢; rw [if_pos nI_0]; exact h
      · rw [e] at h ⊢; rw [if_neg (by decide +kernel)]; exact h
    · rw [if_neg z, Nat.gcd_comm] at h
      exact h
theorem luX_M {S : Nat → Int32} {k : Nat} {pt : Int32} {Q : Int32 → Prop} (h : Q (luX S k pt)) : (lyF S k 720 = 0 → Q pt) ∧ (0 < lyF S k 720 → Q (if pt = 0 then nI (lyF S k 720 / Nat.gcd (cmF S k 720) (lyF S k 720)) else nI (cmF S k 720 / Nat.gcd (cmF S k 720) (lyF S k 720)))) := by
  unfold luX at h
  refine ⟨fun c => ?_, fun c => ?_⟩
  · rw [if_pos c] at h; exact h
  · rw [if_neg (by omega)] at h; exact h
theorem J_luck {Z σ : SG} (hI : KI Z) (hC : KC Z σ) (hM : KM Z σ) (a b : Int32) : ∃ p, IN_X11_luck AF σ [.ref 0, .int a, .int b] p ∧ ∀ t r, p t r → ∃ q, IN_X12_luck AF t [.ref 102, .int a, .int b] q ∧ ∀ t' r', q t' r' → r = r' ∧ KK t' := by
  have hS := hI.1
  have hK := hS.2.2.1.2
  by_cases c0 : a < 0
  · exact joint (Z' := rf Z 1) (x := -1) (C := fun s p => IN_X11_luck AF s [.ref 0, .int a, .int b] p) (M := fun s p => IN_X12_luck AF s [.ref 102, .int a, .int b] p) (hI.rf 1) hM ⟨⟨_, _, rfl, rfl, Nat.le_of_ble_eq_true rfl, rc_0⟩, Nat.le_of_ble_eq_true rfl, g_X11_luck_0 (by rw [show σ 77 0 = nI (cK (Z 104)) from hC.2.2.2.2.1.1.trans hS.2.2.1.1]; exact ⟨fun _ => DC_rf hC hI (by decide) (by decide), fun c => absurd c0 c⟩)⟩ (fun t hM => ⟨⟨_, _, rfl, rfl, Nat.le_of_ble_eq_true rfl, rc_102⟩, Nat.le_of_ble_eq_true rfl, g_X12_luck_0 (by rw [show t 104 2 = nI (cK (Z 104)) from (hM.1 2 (by decide)).trans hS.2.2.1.1]; exact ⟨fun _ => DM_rf hM (by decide), fun c => absurd c0 c⟩)⟩)
  · by_cases c1 : nI (cK (Z 104)) ≤ a
    · exact joint (Z' := rf Z 1) (x := -1) (C := fun s p => IN_X11_luck AF s [.ref 0, .int a, .int b] p) (M := fun s p => IN_X12_luck AF s [.ref 102, .int a, .int b] p) (hI.rf 1) hM ⟨⟨_, _, rfl, rfl, Nat.le_of_ble_eq_true rfl, rc_0⟩, Nat.le_of_ble_eq_true rfl, g_X11_luck_0 (by rw [show σ 77 0 = nI (cK (Z 104)) from hC.2.2.2.2.1.1.trans hS.2.2.1.1]; exact ⟨fun c => absurd c c0, fun _ => ⟨fun _ => DC_rf hC hI (by decide) (by decide), fun c => absurd c1 c⟩⟩)⟩ (fun t hM => ⟨⟨_, _, rfl, rfl, Nat.le_of_ble_eq_true rfl, rc_102⟩, Nat.le_of_ble_eq_true rfl, g_X12_luck_0 (by rw [show t 104 2 = nI (cK (Z 104)) from (hM.1 2 (by decide)).trans hS.2.2.1.1]; exact ⟨fun c => absurd c c0, fun _ => ⟨fun _ => DM_rf hM (by decide), fun c => absurd c1 c⟩⟩)⟩)
    · by_cases c2 : b = 0
      · obtain rfl : b = nI 0 := c2.trans nI_0.symm
        obtain ⟨k0, hk0, ea⟩ := arg_in (by omega) c0 c1
        refine joint (Z' := Z) (x := luX (Z 104) k0 (nI 0)) (C := fun s p => IN_X11_luck AF s [.ref 0, .int a, .int (nI 0)] p) (M := fun s p => IN_X12_luck AF s [.ref 102, .int a, .int (nI 0)] p) hI hM ?_ (fun t hM => ?_)
        · refine ⟨⟨_, _, rfl, rfl, Nat.le_of_ble_eq_true rfl, rc_0⟩, Nat.le_of_ble_eq_true rfl, g_X11_luck_0 ?_⟩
          rw [show σ 77 0 = nI (cK (Z 104)) from hC.2.2.2.2.1.1.trans hS.2.2.1.1]
          refine ⟨fun c => absurd c c0, fun _ => ⟨fun c => absurd c c1, fun _ => ⟨fun _ => ?_, fun c => absurd nI_0 c⟩⟩⟩
          subst ea
          exact cluck hS hC.1 hC.2.2.1 hC.2.2.2.2.1 hk0 (fun τ h => luX_C (Or.inl rfl) (Q := fun x => DC Z σ (luX (Z 104) k0 (nI 0)) τ x) (DC_8 hC hI h)) 720 0 rfl σ (fun _ _ _ => rfl)
        · refine ⟨⟨_, _, rfl, rfl, Nat.le_of_ble_eq_true rfl, rc_102⟩, Nat.le_of_ble_eq_true rfl, g_X12_luck_0 ?_⟩
          rw [show t 104 2 = nI (cK (Z 104)) from (hM.1 2 (by decide)).trans hS.2.2.1.1]
          refine ⟨fun c => absurd c c0, fun _ => ⟨fun c => absurd c c1, fun _ => ⟨fun c => absurd c (by decide +kernel), fun _ => ⟨fun c => absurd c (by decide +kernel), fun _ => ?_⟩⟩⟩⟩
          subst ea
          exact mluck hS hM.1.ms hk0 (fun τ h => luX_M (Q := fun x => DM Z t (luX (Z 104) k0 (nI 0)) τ x) (DM_gf hM h)) 720 0 rfl t GF.rf
      · by_cases c3 : b = nI 1
        · subst c3
          obtain ⟨k0, hk0, ea⟩ := arg_in (by omega) c0 c1
          refine joint (Z' := Z) (x := luX (Z 104) k0 (nI 1)) (C := fun s p => IN_X11_luck AF s [.ref 0, .int a, .int (nI 1)] p) (M := fun s p => IN_X12_luck AF s [.ref 102, .int a, .int (nI 1)] p) hI hM ?_ (fun t hM => ?_)
          · refine ⟨⟨_, _, rfl, rfl, Nat.le_of_ble_eq_true rfl, rc_0⟩, Nat.le_of_ble_eq_true rfl, g_X11_luck_0 ?_⟩
            rw [show σ 77 0 = nI (cK (Z 104)) from hC.2.2.2.2.1.1.trans hS.2.2.1.1]
            refine ⟨fun c => absurd c c0, fun _ => ⟨fun c => absurd c c1, fun _ => ⟨fun c => absurd c (by decide +kernel), fun _ => ⟨fun _ => ?_, fun c => absurd rfl c⟩⟩⟩⟩
            subst ea
            exact cluck hS hC.1 hC.2.2.1 hC.2.2.2.2.1 hk0 (fun τ h => luX_C (Or.inr rfl) (Q := fun x => DC Z σ (luX (Z 104) k0 (nI 1)) τ x) (DC_8 hC hI h)) 720 0 rfl σ (fun _ _ _ => rfl)
          · refine ⟨⟨_, _, rfl, rfl, Nat.le_of_ble_eq_true rfl, rc_102⟩, Nat.le_of_ble_eq_true rfl, g_X12_luck_0 ?_⟩
            rw [show t 104 2 = nI (cK (Z 104)) from (hM.1 2 (by decide)).trans hS.2.2.1.1]
            refine ⟨fun c => absurd c c0, fun _ => ⟨fun c => absurd c c1, fun _ => ⟨fun c => absurd c (by decide +kernel), fun _ => ⟨fun c => absurd c (by decide +kernel), fun _ => ?_⟩⟩⟩⟩
            subst ea
            exact mluck hS hM.1.ms hk0 (fun τ h => luX_M (Q := fun x => DM Z t (luX (Z 104) k0 (nI 1)) τ x) (DM_gf hM h)) 720 0 rfl t GF.rf
        · by_cases c6 : b < 0
          · exact joint (Z' := rf Z 2) (x := -2) (C := fun s p => IN_X11_luck AF s [.ref 0, .int a, .int b] p) (M := fun s p => IN_X12_luck AF s [.ref 102, .int a, .int b] p) (hI.rf 2) hM ⟨⟨_, _, rfl, rfl, Nat.le_of_ble_eq_true rfl, rc_0⟩, Nat.le_of_ble_eq_true rfl, g_X11_luck_0 (by rw [show σ 77 0 = nI (cK (Z 104)) from hC.2.2.2.2.1.1.trans hS.2.2.1.1]; exact ⟨fun c => absurd c c0, fun _ => ⟨fun c => absurd c c1, fun _ => ⟨fun c => absurd c c2, fun _ => ⟨fun c => absurd c c3, fun _ => DC_rf hC hI (by decide) (by decide)⟩⟩⟩⟩)⟩ (fun t hM => ⟨⟨_, _, rfl, rfl, Nat.le_of_ble_eq_true rfl, rc_102⟩, Nat.le_of_ble_eq_true rfl, g_X12_luck_0 (by rw [show t 104 2 = nI (cK (Z 104)) from (hM.1 2 (by decide)).trans hS.2.2.1.1]; exact ⟨fun c => absurd c c0, fun _ => ⟨fun c => absurd c c1, fun _ => ⟨fun _ => DM_rf hM (by decide), fun c => absurd c6 c⟩⟩⟩)⟩)
          · by_cases c7 : nI 2 ≤ b
            · exact joint (Z' := rf Z 2) (x := -2) (C := fun s p => IN_X11_luck AF s [.ref 0, .int a, .int b] p) (M := fun s p => IN_X12_luck AF s [.ref 102, .int a, .int b] p) (hI.rf 2) hM ⟨⟨_, _, rfl, rfl, Nat.le_of_ble_eq_true rfl, rc_0⟩, Nat.le_of_ble_eq_true rfl, g_X11_luck_0 (by rw [show σ 77 0 = nI (cK (Z 104)) from hC.2.2.2.2.1.1.trans hS.2.2.1.1]; exact ⟨fun c => absurd c c0, fun _ => ⟨fun c => absurd c c1, fun _ => ⟨fun c => absurd c c2, fun _ => ⟨fun c => absurd c c3, fun _ => DC_rf hC hI (by decide) (by decide)⟩⟩⟩⟩)⟩ (fun t hM => ⟨⟨_, _, rfl, rfl, Nat.le_of_ble_eq_true rfl, rc_102⟩, Nat.le_of_ble_eq_true rfl, g_X12_luck_0 (by rw [show t 104 2 = nI (cK (Z 104)) from (hM.1 2 (by decide)).trans hS.2.2.1.1]; exact ⟨fun c => absurd c c0, fun _ => ⟨fun c => absurd c c1, fun _ => ⟨fun c => absurd c c6, fun _ => ⟨fun _ => DM_rf hM (by decide), fun c => absurd c7 c⟩⟩⟩⟩)⟩)
            · exfalso
              obtain ⟨n, hn, eb⟩ := arg_in (by decide) c6 c7
              match n, hn with
              | 0, _ => exact c2 (eb.trans nI_0)
              | 1, _ => exact c3 eb
/-- the best pace: at each step the best so far and its sum -/
def bpF (S : Nat → Int32) (o : Nat) : Nat → Nat → Int32 → Nat → Nat
  | 0, be, _, _ => be
  | f + 1, be, le, pa => if le < smO S pa o then bpF S o f be le (pa + 10) else bpF S o f pa (smO S pa o) (pa + 10)
theorem smO_pos {S : Nat → Int32} (hS : IS S) {pa o : Nat} (hp : pa ≤ 300) (ho : o < 720) (h : (tr S o).2.1 = none) : ¬ smO S pa o < 0 := by
  have hK := hS.2.2.1.2
  have : (sN S pa (tr S o).2.2 (cK S)).1 ≤ 8000 * cK S := (sN_le hS hp (trN_ok hS ho (cK S)).2.2 (cK S) (Nat.le_refl _)).1
  unfold smO
  rw [if_pos h]
  exact lt0_nI (by omega)
theorem cbest {S : Nat → Int32} (hS : IS S) {σ : SG} (hW : CW S σ) (hH : CH S σ) (hY : CY S σ) {o : Nat} (ho : o < 720) (hT : TRC (tr S o) σ) {post : SG → Int32 → Prop} :
    ∀ f pa, pa + 10 * f = 310 → ∀ be le, post σ (nI (bpF S o f be le pa)) → T_X11_bestPace AF post 49 [.ref 0, .int (nI be), .int le, .int (nI pa), dum] [] σ := by
  intro f
  induction f with
  | zero =>
    intro pa hp be le K
    apply g_X11_bestPace_49
    exact ⟨by omega, fun _ => K, fun c => absurd c (by omega)⟩
  | succ f ih =>
    intro pa hp be le K
    rw [bpF] at K
    apply g_X11_bestPace_49
    refine ⟨by omega, fun c => absurd c (by omega), fun _ => ⟨fun τ x => τ = σ ∧ x = smO S pa o, ok_sumOf hS hW hH hY (by omega) ho hT ⟨rfl, rfl⟩, ?_⟩⟩
    rintro t x ⟨rfl, rfl⟩
    refine ⟨fun c => ih _ (by omega) _ _ ?_, fun c => ih _ (by omega) _ _ ?_⟩
    · rwa [if_pos c] at K
    · rwa [if_neg c] at K
theorem mbest {S : Nat → Int32} (hS : IS S) {σ : SG} (hF : FS S σ) (h : (tr S (cur S)).2.1 = none) {post : SG → Int32 → Prop} :
    ∀ f pa, pa + 10 * f = 310 → ∀ be le, be < 2 ^ 31 → ∀ s : SG, GF σ s → (∀ τ, GF σ τ → post τ (nI (bpF S (cur S) f be le pa))) → T_X12_bestPace AF post 8 [.ref 102, .int (nI be), .int le, .int (nI pa), dum] [] s := by
  intro f
  induction f with
  | zero =>
    intro pa hp be le hb s hs K
    apply g_X12_bestPace_8
    exact ⟨by omega, fun _ => K s hs, fun c => absurd c (by omega)⟩
  | succ f ih =>
    intro pa hp be le hb s hs K
    have hFs : FS S s := fun j hj => by rw [hs.1 104 (by decide) (by decide) (by decide) (by decide) (by decide)]; exact hF j hj
    rw [bpF] at K
    apply g_X12_bestPace_8
    refine ⟨by omega, fun c => absurd c (by omega), fun _ => ⟨fun τ x => GF s τ ∧ x = smO S pa (cur S), ok_sumBy hS hFs (by omega) (fun τ g => ⟨g, rfl⟩), ?_⟩⟩
    rintro t x ⟨g, rfl⟩
    refine ⟨fun c => absurd c (smO_pos hS (by omega) (cur_lt hS) h), fun _ => ⟨fun c => absurd c (lt0_nI hb), fun _ => ⟨fun c => ih _ (by omega) _ _ (by omega) t (hs.tr g) (fun τ hτ => ?_), fun c => ih _ (by omega) _ _ hb t (hs.tr g) (fun τ hτ => ?_)⟩⟩⟩
    · have k := K τ hτ
      rwa [if_neg (fun z => by rw [Int32.lt_iff_toInt_lt] at z; rw [Int32.le_iff_toInt_le] at c; omega)] at k
    · have k := K τ hτ
      rwa [if_pos (by rw [Int32.lt_iff_toInt_lt]; rw [Int32.le_iff_toInt_le] at c; omega)] at k
theorem mbest_no {S : Nat → Int32} (hS : IS S) {σ : SG} (hF : FS S σ) (h : ¬ (tr S (cur S)).2.1 = none) {post : SG → Int32 → Prop} :
    ∀ f pa, pa + 10 * f = 310 → ∀ le, ∀ s : SG, GF σ s → (∀ τ, GF σ τ → post τ (-9 : Int32)) → T_X12_bestPace AF post 8 [.ref 102, .int (-9 : Int32), .int le, .int (nI pa), dum] [] s := by
  intro f
  induction f with
  | zero =>
    intro pa hp le s hs K
    apply g_X12_bestPace_8
    exact ⟨by omega, fun _ => K s hs, fun c => absurd c (by omega)⟩
  | succ f ih =>
    intro pa hp le s hs K
    have hFs : FS S s := fun j hj => by rw [hs.1 104 (by decide) (by decide) (by decide) (by decide) (by decide)]; exact hF j hj
    apply g_X12_bestPace_8
    refine ⟨by omega, fun c => absurd c (by omega), fun _ => ⟨fun τ x => GF s τ ∧ x = smO S pa (cur S), ok_sumBy hS hFs (by omega) (fun τ g => ⟨g, rfl⟩), ?_⟩⟩
    rintro t x ⟨g, rfl⟩
    have e : smO S pa (cur S) = -9 := by unfold smO; rw [if_neg h]
    rw [e]
    exact ⟨fun _ => ih _ (by omega) _ t (hs.tr g) K, fun c => absurd lt0_neg c⟩
def bpX (S : Nat → Int32) (o : Nat) : Int32 := if (tr S o).2.1 = none then nI (bpF S o 25 50 (smO S 50 o) 60) else -9
theorem J_bestPace {Z σ : SG} (hI : KI Z) (hC : KC Z σ) (hM : KM Z σ)  : ∃ p, IN_X11_bestPace AF σ [.ref 0] p ∧ ∀ t r, p t r → ∃ q, IN_X12_bestPace AF t [.ref 102] q ∧ ∀ t' r', q t' r' → r = r' ∧ KK t' := by
  have hS := hI.1
  refine joint (Z' := Z) (x := bpX (Z 104) (cur (Z 104))) (C := fun s p => IN_X11_bestPace AF s [.ref 0] p) (M := fun s p => IN_X12_bestPace AF s [.ref 102] p) hI hM ?_ (fun t hM => ?_)
  · refine ⟨⟨_, _, rfl, rfl, Nat.le_of_ble_eq_true rfl, rc_0⟩, Nat.le_of_ble_eq_true rfl, g_X11_bestPace_0 ?_⟩
    refine ?_
    rw [show σ 0 12 = nI (cur (Z 104)) from hC.2.2.2.2.2.1]
    refine ⟨fun τ x => x = 0 → TRC (tr (Z 104) (cur (Z 104))) τ ∧ ∀ k, k ≠ 81 → k ≠ 82 → τ k = σ k, ok_tryFrom hS hC.1 hC.2.2.1 hC.2.2.2.2.1 (cur_lt hS) (fun τ a _ c _ => ⟨a, c⟩), fun t ht => ?_⟩
    obtain ⟨h1, h2⟩ := ht rfl
    obtain ⟨_, hC2, h4⟩ := DC_8 hC hI h2 (x := 0)
    rw [h1.1, aI_none hS (cur_lt hS)]
    refine ⟨fun c => ⟨fun τ x => τ = t ∧ x = smO (Z 104) 50 (cur (Z 104)), ok_sumOf hS hC2.2.2.1 hC2.2.2.2.1 hC2.2.2.2.2.1 (by decide) (cur_lt hS) h1 ⟨rfl, rfl⟩, ?_⟩, fun c => ⟨by rw [bpX, if_neg c], hC2, h4⟩⟩
    rintro t x ⟨rfl, rfl⟩
    exact cbest hS hC2.2.2.1 hC2.2.2.2.1 hC2.2.2.2.2.1 (cur_lt hS) h1 25 60 (by decide) 50 _ ⟨by rw [bpX, if_pos c], hC2, h4⟩
  · refine ⟨⟨_, _, rfl, rfl, Nat.le_of_ble_eq_true rfl, rc_102⟩, Nat.le_of_ble_eq_true rfl, g_X12_bestPace_0 ?_⟩
    refine ?_
    by_cases h : (tr (Z 104) (cur (Z 104))).2.1 = none
    · apply g_X12_bestPace_8
      refine ⟨by decide, fun c => absurd c (by decide), fun _ => ⟨fun τ x => GF t τ ∧ x = smO (Z 104) 50 (cur (Z 104)), ok_sumBy hS hM.1 (by decide) (fun τ g => ⟨g, rfl⟩), ?_⟩⟩
      rintro t2 x ⟨g, rfl⟩
      refine ⟨fun c => absurd c (smO_pos hS (by decide) (cur_lt hS) h), fun _ => ⟨fun _ => ?_, fun c => absurd lt0_neg c⟩⟩
      exact mbest hS hM.1 h 25 60 (by decide) 50 _ (by decide) t2 g (fun τ hτ => by
        have := DM_gf hM hτ (x := bpX (Z 104) (cur (Z 104)))
        rw [bpX, if_pos h] at this
        rw [bpX, if_pos h]
        exact this)
    · exact mbest_no hS hM.1 h 26 50 (by decide) _ t GF.rf (fun τ hτ => by
        have := DM_gf hM hτ (x := bpX (Z 104) (cur (Z 104)))
        rw [bpX, if_neg h] at this
        rw [bpX, if_neg h]
        exact this)
