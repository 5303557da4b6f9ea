/-! turn: the text read as rings, by both -/
def set1 (γ : Nat → Nat) (a v : Nat) : Nat → Nat := fun q => if q = a then v else γ q
theorem set1_s {γ : Nat → Nat} {a v : Nat} : set1 γ a v a = v := if_pos rfl
theorem set1_o {γ : Nat → Nat} {a v q : Nat} (h : q ≠ a) : set1 γ a v q = γ q := if_neg h
/-- a letter stands at i, and is new -/
def nl (B : Nat → Nat) (us i : Nat) : Prop := 97 ≤ B i ∧ B i ≤ 102 ∧ ¬ us.testBit (B i - 97) = true
/-- the reading from i on: ir: in a ring; us: the letters used; le: how many of this ring; op, la: the first and the last of them; γ: the goals. The fault, the goals -/
noncomputable def tm (B : Nat → Nat) (L : Nat) : Nat → Nat → Bool → Nat → Nat → Nat → Nat → (Nat → Nat) → Option Nat × (Nat → Nat)
  | 0, _, ir, _, _, _, _, γ => (if ir = true ∨ L = 0 then some L else none, γ)
  | f + 1, i, false, us, _, op, la, γ => if B i = 40 then tm B L f (i + 1) true us 0 op la γ else (some i, γ)
  | f + 1, i, true, us, le, op, la, γ => if B i = 41 then (if 2 ≤ le then tm B L f (i + 1) false us le op la (set1 γ la op) else (some i, γ)) else
      @ite _ (nl B us i) (Classical.propDecidable _) (if le = 0 then tm B L f (i + 1) true (us ||| 2 ^ (B i - 97)) (le + 1) (B i - 97) (B i - 97) γ else tm B L f (i + 1) true (us ||| 2 ^ (B i - 97)) (le + 1) op (B i - 97) (set1 γ la (B i - 97))) (some i, γ)
theorem tm_o {B : Nat → Nat} {L f i us le op la : Nat} {γ : Nat → Nat} (c : B i = 40) : tm B L (f + 1) i false us le op la γ = tm B L f (i + 1) true us 0 op la γ := by rw [tm, if_pos c]
theorem tm_x {B : Nat → Nat} {L f i us le op la : Nat} {γ : Nat → Nat} (c : ¬ B i = 40) : tm B L (f + 1) i false us le op la γ = (some i, γ) := by rw [tm, if_neg c]
theorem tm_c {B : Nat → Nat} {L f i us le op la : Nat} {γ : Nat → Nat} (c : B i = 41) (d : 2 ≤ le) : tm B L (f + 1) i true us le op la γ = tm B L f (i + 1) false us le op la (set1 γ la op) := by rw [tm, if_pos c, if_pos d]
theorem tm_d {B : Nat → Nat} {L f i us le op la : Nat} {γ : Nat → Nat} (c : B i = 41) (d : ¬ 2 ≤ le) : tm B L (f + 1) i true us le op la γ = (some i, γ) := by rw [tm, if_pos c, if_neg d]
theorem tm_n {B : Nat → Nat} {L f i us le op la : Nat} {γ : Nat → Nat} (c : ¬ B i = 41) (d : ¬ nl B us i) : tm B L (f + 1) i true us le op la γ = (some i, γ) := by rw [tm, if_neg c, if_neg d]
theorem tm_1 {B : Nat → Nat} {L f i us le op la : Nat} {γ : Nat → Nat} (d : nl B us i) (e : le = 0) : tm B L (f + 1) i true us le op la γ = tm B L f (i + 1) true (us ||| 2 ^ (B i - 97)) (le + 1) (B i - 97) (B i - 97) γ := by rw [tm, if_neg (by have := d.1; omega), if_pos d, if_pos e]
theorem tm_2 {B : Nat → Nat} {L f i us le op la : Nat} {γ : Nat → Nat} (d : nl B us i) (e : ¬ le = 0) : tm B L (f + 1) i true us le op la γ = tm B L f (i + 1) true (us ||| 2 ^ (B i - 97)) (le + 1) op (B i - 97) (set1 γ la (B i - 97)) := by rw [tm, if_neg (by have := d.1; omega), if_pos d, if_neg e]
theorem tm_0 {B : Nat → Nat} {L i us le op la : Nat} {ir : Bool} {γ : Nat → Nat} : tm B L 0 i ir us le op la γ = (if ir = true ∨ L = 0 then some L else none, γ) := by rw [tm]
theorem tm_le {B : Nat → Nat} {L : Nat} : ∀ f i ir us le op la γ, i + f = L → ∀ x, (tm B L f i ir us le op la γ).1 = some x → x ≤ L := by
  intro f
  induction f with
  | zero =>
    intro i ir us le op la γ hi x hx
    rw [tm_0] at hx
    by_cases c : ir = true ∨ L = 0
    · rw [if_pos c] at hx; cases hx; exact Nat.le_refl _
    · rw [if_neg c] at hx; cases hx
  | succ f ih =>
    intro i ir us le op la γ hi x hx
    cases ir with
    | false =>
      by_cases c : B i = 40
      · rw [tm_o c] at hx; exact ih _ _ _ _ _ _ _ (by omega) x hx
      · rw [tm_x c] at hx; cases hx; omega
    | true =>
      by_cases c : B i = 41
      · by_cases d : 2 ≤ le
        · rw [tm_c c d] at hx; exact ih _ _ _ _ _ _ _ (by omega) x hx
        · rw [tm_d c d] at hx; cases hx; omega
      · by_cases d : nl B us i
        · by_cases e : le = 0
          · rw [tm_1 d e] at hx; exact ih _ _ _ _ _ _ _ (by omega) x hx
          · rw [tm_2 d e] at hx; exact ih _ _ _ _ _ _ _ (by omega) x hx
        · rw [tm_n c d] at hx; cases hx; omega
theorem PM.swap {δ : Nat → Nat} (h : PM δ) {a b : Nat} (ha : a < 6) (hb : b < 6) : PM (fun q => if q = a then δ b else if q = b then δ a else δ q) := by
  have s : PM (fun q => if q = a then b else if q = b then a else q) := by
    refine ⟨fun p hp => ?_, fun p q hp hq e => ?_⟩
    · show (if p = a then b else if p = b then a else p) < 6
      split
      · exact hb
      · split
        · exact ha
        · exact hp
    · have e : (if p = a then b else if p = b then a else p) = (if q = a then b else if q = b then a else q) := e
      repeat' split at e
      all_goals omega
  refine (h.comp s).cong fun q hq => ?_
  show δ (if q = a then b else if q = b then a else q) = _
  split
  · rfl
  · split <;> rfl
/-- what holds of the goals on the way -/
def tI (ir : Bool) (us le op la : Nat) (γ : Nat → Nat) : Prop := us < 64 ∧ (∀ q, q < 6 → ¬ us.testBit q = true → γ q = q) ∧ ((ir = false ∨ le = 0) → PM γ) ∧ (ir = true → 0 < le → op < 6 ∧ la < 6 ∧ us.testBit la = true ∧ PM (set1 γ la op))
theorem us_all : (List.range 64).all (fun us => (List.range 6).all fun p => decide ((nI us ||| (nI 1 <<< (nI p &&& 31))) = nI (us ||| 2 ^ p) ∧ us ||| 2 ^ p < 64) && (List.range 6).all fun q => (us ||| 2 ^ p).testBit q == (us.testBit q || q == p)) = true := by decide +kernel
theorem us_at {us p : Nat} (h : us < 64) (hp : p < 6) : (nI us ||| (nI 1 <<< (nI p &&& 31))) = nI (us ||| 2 ^ p) ∧ us ||| 2 ^ p < 64 ∧ ∀ q, q < 6 → ((us ||| 2 ^ p).testBit q = true ↔ us.testBit q = true ∨ q = p) := by
  have h := List.all_eq_true.mp (List.all_eq_true.mp us_all us (List.mem_range.mpr h)) p (List.mem_range.mpr hp)
  rw [Bool.and_eq_true, decide_eq_true_eq] at h
  refine ⟨h.1.1, h.1.2, fun q hq => ?_⟩
  have := List.all_eq_true.mp h.2 q (List.mem_range.mpr hq)
  rw [beq_iff_eq] at this
  rw [this, Bool.or_eq_true, beq_iff_eq]
theorem tI_new {us le op la p : Nat} {γ : Nat → Nat} (h : tI true us le op la γ) (hp : p < 6) (hn : ¬ us.testBit p = true) : (le = 0 → tI true (us ||| 2 ^ p) (le + 1) p p γ) ∧ (¬ le = 0 → tI true (us ||| 2 ^ p) (le + 1) op p (set1 γ la p)) := by
  obtain ⟨h1, h2, h3, h4⟩ := h
  obtain ⟨u1, u2, u3⟩ := us_at h1 hp
  refine ⟨fun e => ⟨u2, fun q hq z => h2 q hq (fun w => z ((u3 q hq).2 (Or.inl w))), fun z => ?_, fun _ _ => ⟨hp, hp, (u3 p hp).2 (Or.inr rfl), ?_⟩⟩, fun e => ?_⟩
  · rcases z with z | z
    · cases z
    · omega
  · refine (h3 (Or.inr e)).cong fun q hq => ?_
    by_cases d : q = p
    · rw [d, set1_s]; exact h2 p hp hn
    · rw [set1_o d]
  · obtain ⟨o1, o2, o3, o4⟩ := h4 rfl (by omega)
    have lp : la ≠ p := fun z => hn (by rw [← z]; exact o3)
    refine ⟨u2, fun q hq z => ?_, fun z => ?_, fun _ _ => ⟨o1, hp, (u3 p hp).2 (Or.inr rfl), ?_⟩⟩
    · have q1 : q ≠ la := fun w => z ((u3 q hq).2 (Or.inl (by rw [w]; exact o3)))
      rw [set1_o q1]
      exact h2 q hq (fun w => z ((u3 q hq).2 (Or.inl w)))
    · rcases z with z | z
      · cases z
      · omega
    · refine (o4.swap o2 hp).cong fun q hq => ?_
      have gp : γ p = p := h2 p hp hn
      by_cases d : q = la
      · rw [if_pos d, d, set1_o (Ne.symm lp), set1_o lp, set1_s, gp]
      · rw [if_neg d]
        by_cases w : q = p
        · rw [if_pos w, set1_s, w, set1_s]
        · rw [if_neg w, set1_o d, set1_o w, set1_o d]
theorem tI_close {us le op la : Nat} {γ : Nat → Nat} (h : tI true us le op la γ) (hl : 2 ≤ le) : tI false us le op la (set1 γ la op) := by
  obtain ⟨h1, h2, h3, h4⟩ := h
  obtain ⟨o1, o2, o3, o4⟩ := h4 rfl (by omega)
  refine ⟨h1, fun q hq z => ?_, fun _ => o4, fun z => by cases z⟩
  rw [set1_o (fun w => z (by rw [w]; exact o3))]
  exact h2 q hq z
theorem tI_open {us le op la op' la' : Nat} {γ : Nat → Nat} (h : tI false us le op la γ) : tI true us 0 op' la' γ := by
  obtain ⟨h1, h2, h3, h4⟩ := h
  exact ⟨h1, h2, fun _ => h3 (Or.inl rfl), fun _ z => absurd z (Nat.lt_irrefl _)⟩
theorem tm_PM {B : Nat → Nat} {L : Nat} : ∀ f i ir us le op la γ, tI ir us le op la γ → (tm B L f i ir us le op la γ).1 = none → PM (tm B L f i ir us le op la γ).2 := by
  intro f
  induction f with
  | zero =>
    intro i ir us le op la γ h hx
    rw [tm_0] at hx ⊢
    cases ir with
    | false => exact h.2.2.1 (Or.inl rfl)
    | true => rw [if_pos (Or.inl rfl)] at hx; cases hx
  | succ f ih =>
    intro i ir us le op la γ h hx
    cases ir with
    | false =>
      by_cases c : B i = 40
      · rw [tm_o c] at hx ⊢; exact ih _ _ _ _ _ _ _ (tI_open h) hx
      · rw [tm_x c] at hx; cases hx
    | true =>
      by_cases c : B i = 41
      · by_cases d : 2 ≤ le
        · rw [tm_c c d] at hx ⊢; exact ih _ _ _ _ _ _ _ (tI_close h d) hx
        · rw [tm_d c d] at hx; cases hx
      · by_cases d : nl B us i
        · have hp : B i - 97 < 6 := by have := d.1; have := d.2.1; omega
          obtain ⟨n1, n2⟩ := tI_new h hp d.2.2
          by_cases e : le = 0
          · rw [tm_1 d e] at hx ⊢; exact ih _ _ _ _ _ _ _ (n1 e) hx
          · rw [tm_2 d e] at hx ⊢; exact ih _ _ _ _ _ _ _ (n2 e) hx
        · rw [tm_n c d] at hx; cases hx
/-- the class's end -/
def ttC (post : SG → Int32 → Prop) (σ : SG) (k : Nat) (x : Option Nat × (Nat → Nat)) : Prop := ∀ τ : SG, (∀ y, y ≠ k → τ y = σ y) → (∀ fi, x.1 = some fi → post τ (nI fi)) ∧ (x.1 = none → (∀ p, p < 6 → τ k p = nI (x.2 p)) → post τ (-9))
def irI (b : Bool) : Int32 := match b with | true => nI 1 | false => nI 0
theorem irI_0 {b : Bool} : irI b = 0 ↔ b = false := by
  cases b
  · exact ⟨fun _ => rfl, fun _ => nI_0⟩
  · exact ⟨fun z => absurd z (by decide +kernel), fun z => by cases z⟩
set_option maxHeartbeats 1000000 in
theorem creadTurn {B : Nat → Nat} {L k : Nat} (hia : IA k 6) (hk : k < AF.1) (hk1 : k ≠ 1) (hk2 : k ≠ 2) (hL : L ≤ 16) (hB : ∀ i, i < L → B i < 256) {σ : SG} (hb : ∀ i, i < L → σ 2 i = nI (B i)) (hl : σ 1 1 = nI L) {post : SG → Int32 → Prop} :
    ∀ f i ir us le op la γ (s : SG), i + f = L → le ≤ i → us < 64 → la < 6 → ttC post σ k (tm B L f i ir us le op la γ) → (∀ y, y ≠ k → s y = σ y) → (∀ p, p < 6 → s k p = nI (γ p)) → T_X6_readTurn AF post 34 [.ref 1, .ref k, .int (nI us), .int (nI le), .int (nI op), .int (nI la), .int (irI ir), .int (nI i), dum] [] s := by
  intro f
  induction f with
  | zero =>
    intro i ir us le op la γ s hi hle hus hla K f1 hv
    rw [tm_0] at K
    have k := K s f1
    apply g_X6_readTurn_34 hia hk
    rw [f1 1 (Ne.symm hk1), hl, nI_leI (by omega) (by omega), nI0_eq (by omega), irI_0]
    refine ⟨fun _ => ⟨fun c => ?_, fun c => ⟨fun d => ?_, fun d => ?_⟩⟩, fun c => absurd (by omega) c⟩
    · exact k.1 L (if_pos (Or.inl (by cases ir; exact absurd rfl c; rfl)))
    · exact k.2 (if_neg (fun z => by rcases z with z | z; rw [c] at z; cases z; exact d z)) hv
    · exact k.1 L (if_pos (Or.inr d))
  | succ f ih =>
    intro i ir us le op la γ s hi hle hus hla K f1 hv
    have hiL : i < L := by omega
    have hBi := hB i hiL
    apply g_X6_readTurn_34 hia hk
    rw [f1 1 (Ne.symm hk1), hl, f1 2 (Ne.symm hk2), hb i hiL, nI_leI (by omega) (by omega), irI_0, nI_eq (by omega) (by decide), nI_eq (by omega) (by decide), sub_neg (by omega) (by decide)]
    have V : ∀ v, ∀ p, p < 6 → up s k la (nI v) k p = nI (set1 γ la v p) := fun v p hp => by
      by_cases d : p = la
      · rw [d, up_s, set1_s]
      · rw [up_j d, set1_o d]; exact hv p hp
    have F : ∀ v y, y ≠ k → up s k la (nI v) y = σ y := fun v y hy => by rw [up_k hy]; exact f1 y hy
    refine ⟨fun c => absurd c (by omega), fun _ => ⟨by omega, fun c => ⟨by omega, fun c1 => ⟨fun c2 => ?_, fun c2 => ?_⟩, fun c1 => ⟨by omega, fun c2 => ⟨la, rfl, hla, fun s24 e24 => ?_⟩, fun c2 => ?_⟩⟩, fun c => ⟨by omega, fun c1 => ?_, fun c1 => ?_⟩⟩⟩
    · obtain rfl : ir = true := by cases ir; exact absurd rfl c; rfl
      rw [tm_n c1 (fun z => by have := z.1; omega)] at K
      exact (K s f1).1 i rfl
    · obtain rfl : ir = true := by cases ir; exact absurd rfl c; rfl
      rw [nI_subN (by omega), nI_leI (by omega) (by omega)]
      refine ⟨fun c3 => ?_, fun c3 => ?_⟩
      · rw [tm_n c1 (fun z => by have := z.2.1; omega)] at K
        exact (K s f1).1 i rfl
      · have hp : B i - 97 < 6 := by omega
        rw [(bits hus hp).2.2.1, (us_at hus hp).1]
        refine ⟨fun c4 => ⟨by omega, fun c5 => ⟨la, rfl, hla, fun s18 e18 => ?_⟩, fun c5 => ?_⟩, fun c4 => ?_⟩
        · rw [tm_2 ⟨by omega, by omega, c4⟩ c5] at K
          subst e18
          exact ih (i + 1) true _ (le + 1) op _ _ _ (by omega) (by omega) (us_at hus hp).2.1 hp K (F _) (V _)
        · rw [tm_1 ⟨by omega, by omega, c4⟩ c5] at K
          exact ih (i + 1) true _ (le + 1) _ _ _ s (by omega) (by omega) (us_at hus hp).2.1 hp K f1 hv
        · rw [tm_n c1 (fun z => z.2.2 c4)] at K
          exact (K s f1).1 i rfl
    · obtain rfl : ir = true := by cases ir; exact absurd rfl c; rfl
      rw [tm_c c1 c2] at K
      subst e24
      exact ih (i + 1) false us le op la _ _ (by omega) (by omega) hus hla K (F _) (V _)
    · obtain rfl : ir = true := by cases ir; exact absurd rfl c; rfl
      rw [tm_d c1 (by omega)] at K
      exact (K s f1).1 i rfl
    · subst c
      rw [tm_o c1] at K
      exact ih (i + 1) true us 0 op la γ s (by omega) (by omega) hus hla K f1 hv
    · subst c
      rw [tm_x c1] at K
      exact (K s f1).1 i rfl
