/-! PURE: whole numbers, permutations of six, their numbers -/
def na (x : Int32) : Nat := x.toNatClampNeg
theorem na_nI {n : Nat} (h : n < 2 ^ 31) : na (nI n) = n := nI_clamp h
theorem nI_inj {a b : Nat} (ha : a < 2 ^ 31) (hb : b < 2 ^ 31) (h : nI a = nI b) : a = b := (nI_eq ha hb).1 h
def PM (f : Nat → Nat) : Prop := (∀ p, p < 6 → f p < 6) ∧ ∀ p q, p < 6 → q < 6 → f p = f q → p = q
def inv6 (f : Nat → Nat) (p : Nat) : Nat := if f 0 = p then 0 else if f 1 = p then 1 else if f 2 = p then 2 else if f 3 = p then 3 else if f 4 = p then 4 else if f 5 = p then 5 else p
def all6 (Q : Nat → Nat → Nat → Nat → Nat → Nat → Bool) : Bool :=
  (List.range 6).all fun a => (List.range 6).all fun b => a == b || (List.range 6).all fun c => a == c || (b == c || (List.range 6).all fun d => a == d || (b == d || (c == d || (List.range 6).all fun e => a == e || (b == e || (c == e || (d == e || (List.range 6).all fun f => a == f || (b == f || (c == f || (d == f || (e == f || Q a b c d e f))))))))))
theorem all6_spec {Q : Nat → Nat → Nat → Nat → Nat → Nat → Bool} (h : all6 Q = true) {a b c d e f : Nat} (ha : a < 6) (hb : b < 6) (hc : c < 6) (hd : d < 6) (he : e < 6) (hf : f < 6)
    (h1 : a ≠ b) (h2 : a ≠ c) (h3 : a ≠ d) (h4 : a ≠ e) (h5 : a ≠ f) (h6 : b ≠ c) (h7 : b ≠ d) (h8 : b ≠ e) (h9 : b ≠ f) (h10 : c ≠ d) (h11 : c ≠ e) (h12 : c ≠ f) (h13 : d ≠ e) (h14 : d ≠ f) (h15 : e ≠ f) : Q a b c d e f = true := by
  unfold all6 at h
  have k1 := List.all_eq_true.mp h a (List.mem_range.mpr ha)
  have k2 := List.all_eq_true.mp k1 b (List.mem_range.mpr hb)
  simp only [beq_eq_false_iff_ne.mpr h1, Bool.false_or] at k2
  have k3 := List.all_eq_true.mp k2 c (List.mem_range.mpr hc)
  simp only [beq_eq_false_iff_ne.mpr h2, beq_eq_false_iff_ne.mpr h6, Bool.false_or] at k3
  have k4 := List.all_eq_true.mp k3 d (List.mem_range.mpr hd)
  simp only [beq_eq_false_iff_ne.mpr h3, beq_eq_false_iff_ne.mpr h7, beq_eq_false_iff_ne.mpr h10, Bool.false_or] at k4
  have k5 := List.all_eq_true.mp k4 e (List.mem_range.mpr he)
  simp only [beq_eq_false_iff_ne.mpr h4, beq_eq_false_iff_ne.mpr h8, beq_eq_false_iff_ne.mpr h11, beq_eq_false_iff_ne.mpr h13, Bool.false_or] at k5
  have k6 := List.all_eq_true.mp k5 f (List.mem_range.mpr hf)
  simp only [beq_eq_false_iff_ne.mpr h5, beq_eq_false_iff_ne.mpr h9, beq_eq_false_iff_ne.mpr h12, beq_eq_false_iff_ne.mpr h14, beq_eq_false_iff_ne.mpr h15, Bool.false_or] at k6
  exact k6
theorem PM.q {Q : Nat → Nat → Nat → Nat → Nat → Nat → Bool} (h : all6 Q = true) {f : Nat → Nat} (hf : PM f) : Q (f 0) (f 1) (f 2) (f 3) (f 4) (f 5) = true := by
  have n : ∀ p q, p < 6 → q < 6 → p ≠ q → f p ≠ f q := fun p q hp hq hpq e => hpq (hf.2 p q hp hq e)
  exact all6_spec h (hf.1 0 (by decide)) (hf.1 1 (by decide)) (hf.1 2 (by decide)) (hf.1 3 (by decide)) (hf.1 4 (by decide)) (hf.1 5 (by decide))
    (n 0 1 (by decide) (by decide) (by decide)) (n 0 2 (by decide) (by decide) (by decide)) (n 0 3 (by decide) (by decide) (by decide)) (n 0 4 (by decide) (by decide) (by decide)) (n 0 5 (by decide) (by decide) (by decide))
    (n 1 2 (by decide) (by decide) (by decide)) (n 1 3 (by decide) (by decide) (by decide)) (n 1 4 (by decide) (by decide) (by decide)) (n 1 5 (by decide) (by decide) (by decide))
    (n 2 3 (by decide) (by decide) (by decide)) (n 2 4 (by decide) (by decide) (by decide)) (n 2 5 (by decide) (by decide) (by decide))
    (n 3 4 (by decide) (by decide) (by decide)) (n 3 5 (by decide) (by decide) (by decide)) (n 4 5 (by decide) (by decide) (by decide))
theorem lt6 {p : Nat} (h : p < 6) : p = 0 ∨ p = 1 ∨ p = 2 ∨ p = 3 ∨ p = 4 ∨ p = 5 := by omega
theorem q_surj : all6 (fun a b c d e f => (List.range 6).all fun p => a == p || (b == p || (c == p || (d == p || (e == p || f == p))))) = true := by decide +kernel
theorem PM.surj {f : Nat → Nat} (hf : PM f) {p : Nat} (hp : p < 6) : ∃ q, q < 6 ∧ f q = p := by
  have h := List.all_eq_true.mp (PM.q q_surj hf) p (List.mem_range.mpr hp)
  simp only [Bool.or_eq_true, beq_iff_eq] at h
  rcases h with h | h | h | h | h | h
  · exact ⟨0, by decide, h⟩
  · exact ⟨1, by decide, h⟩
  · exact ⟨2, by decide, h⟩
  · exact ⟨3, by decide, h⟩
  · exact ⟨4, by decide, h⟩
  · exact ⟨5, by decide, h⟩
theorem inv6_spec {f : Nat → Nat} (hf : PM f) {p : Nat} (hp : p < 6) : inv6 f p < 6 ∧ f (inv6 f p) = p := by
  obtain ⟨q, hq, h⟩ := hf.surj hp
  unfold inv6
  split
  · exact ⟨by decide, by assumption⟩
  split
  · exact ⟨by decide, by assumption⟩
  split
  · exact ⟨by decide, by assumption⟩
  split
  · exact ⟨by decide, by assumption⟩
  split
  · exact ⟨by decide, by assumption⟩
  split
  · exact ⟨by decide, by assumption⟩
  · exfalso
    rcases lt6 hq with rfl | rfl | rfl | rfl | rfl | rfl <;> contradiction
theorem inv6_of {f : Nat → Nat} (hf : PM f) {q : Nat} (hq : q < 6) : inv6 f (f q) = q := by
  obtain ⟨h1, h2⟩ := inv6_spec hf (hf.1 q hq)
  exact hf.2 _ _ h1 hq h2
theorem inv6_PM {f : Nat → Nat} (hf : PM f) : PM (inv6 f) := ⟨fun p hp => (inv6_spec hf hp).1, fun p q hp hq e => by rw [← (inv6_spec hf hp).2, e, (inv6_spec hf hq).2]⟩
theorem inv6_cong {f g : Nat → Nat} (h : ∀ p, p < 6 → f p = g p) (p : Nat) : inv6 f p = inv6 g p := by
  unfold inv6
  rw [h 0 (by decide), h 1 (by decide), h 2 (by decide), h 3 (by decide), h 4 (by decide), h 5 (by decide)]
theorem PM.cong {f g : Nat → Nat} (hf : PM f) (h : ∀ p, p < 6 → f p = g p) : PM g := ⟨fun p hp => by rw [← h p hp]; exact hf.1 p hp, fun p q hp hq e => hf.2 p q hp hq (by rw [h p hp, h q hq]; exact e)⟩
theorem PM.comp {f g : Nat → Nat} (hf : PM f) (hg : PM g) : PM (fun p => f (g p)) := ⟨fun p hp => hf.1 _ (hg.1 p hp), fun p q hp hq e => hg.2 p q hp hq (hf.2 _ _ (hg.1 p hp) (hg.1 q hq) e)⟩
theorem PM_id : PM (fun p => p) := ⟨fun _ h => h, fun _ _ _ _ h => h⟩
/-! numbers of orders -/
def ls (a b : Nat) : Nat := if b < a then 1 else 0
def rk6 (a b c d e f : Nat) : Nat := ((((ls a b + ls a c + ls a d + ls a e + ls a f) * 5 + (ls b c + ls b d + ls b e + ls b f)) * 4 + (ls c d + ls c e + ls c f)) * 3 + (ls d e + ls d f)) * 2 + ls e f
def rk (f : Nat → Nat) : Nat := rk6 (f 0) (f 1) (f 2) (f 3) (f 4) (f 5)
theorem rk_cong {f g : Nat → Nat} (h : ∀ p, p < 6 → f p = g p) : rk f = rk g := by
  unfold rk
  rw [h 0 (by decide), h 1 (by decide), h 2 (by decide), h 3 (by decide), h 4 (by decide), h 5 (by decide)]
def nth (L k : Nat) : Nat := ((List.range 6).filter (fun b => L.testBit b)).getD k 0
def wy (p : Nat) : Nat := [120, 24, 6, 2, 1, 1].getD p 1
def oS (o : Nat) : Nat → Nat × Nat
  | 0 => (63, o)
  | p + 1 => ((oS o p).1 - 2 ^ nth (oS o p).1 ((oS o p).2 / wy p), (oS o p).2 % wy p)
def P (o p : Nat) : Nat := nth (oS o p).1 ((oS o p).2 / wy p)
def ow (o : Nat) : Nat := (if P o 0 = 0 then 1 else 0) + (if P o 1 = 1 then 2 else 0) + (if P o 2 = 2 then 4 else 0) + (if P o 3 = 3 then 8 else 0) + (if P o 4 = 4 then 16 else 0) + (if P o 5 = 5 then 32 else 0)
def tv6 (l : List Nat) (p : Nat) : Nat := l.getD p 0
/-- what a look at all 720 orders shows -/
def okO (o : Nat) : Bool :=
  let a := P o 0; let b := P o 1; let c := P o 2; let d := P o 3; let e := P o 4; let f := P o 5
  decide (a < 6) && decide (b < 6) && decide (c < 6) && decide (d < 6) && decide (e < 6) && decide (f < 6) && a != b && a != c && a != d && a != e && a != f && b != c && b != d && b != e && b != f && c != d && c != e && c != f && d != e && d != f && e != f && rk6 a b c d e f == o
theorem ok_all : (List.range 720).all okO = true := by decide +kernel
theorem P_ok {o : Nat} (h : o < 720) : PM (P o) ∧ rk (P o) = o := by
  have h1 := List.all_eq_true.mp ok_all o (List.mem_range.mpr h)
  unfold okO at h1
  simp only [Bool.and_eq_true, decide_eq_true_eq, bne_iff_ne, ne_eq, beq_iff_eq] at h1
  obtain ⟨⟨⟨⟨⟨⟨⟨⟨⟨⟨⟨⟨⟨⟨⟨⟨⟨⟨⟨⟨⟨h0, h1⟩, h2⟩, h3⟩, h4⟩, h5⟩, n1⟩, n2⟩, n3⟩, n4⟩, n5⟩, n6⟩, n7⟩, n8⟩, n9⟩, n10⟩, n11⟩, n12⟩, n13⟩, n14⟩, n15⟩, hr⟩ := h1
  refine ⟨⟨fun p hp => ?_, fun p q hp hq e => ?_⟩, hr⟩
  · rcases lt6 hp with rfl | rfl | rfl | rfl | rfl | rfl <;> assumption
  · rcases lt6 hp with rfl | rfl | rfl | rfl | rfl | rfl <;> rcases lt6 hq with rfl | rfl | rfl | rfl | rfl | rfl <;> first | rfl | (exfalso; first | exact n1 e | exact n2 e | exact n3 e | exact n4 e | exact n5 e | exact n6 e | exact n7 e | exact n8 e | exact n9 e | exact n10 e | exact n11 e | exact n12 e | exact n13 e | exact n14 e | exact n15 e | exact n1 e.symm | exact n2 e.symm | exact n3 e.symm | exact n4 e.symm | exact n5 e.symm | exact n6 e.symm | exact n7 e.symm | exact n8 e.symm | exact n9 e.symm | exact n10 e.symm | exact n11 e.symm | exact n12 e.symm | exact n13 e.symm | exact n14 e.symm | exact n15 e.symm)
theorem q_rk : all6 (fun a b c d e f => decide (rk6 a b c d e f < 720) && (P (rk6 a b c d e f) 0 == a && (P (rk6 a b c d e f) 1 == b && (P (rk6 a b c d e f) 2 == c && (P (rk6 a b c d e f) 3 == d && (P (rk6 a b c d e f) 4 == e && P (rk6 a b c d e f) 5 == f)))))) = true := by decide +kernel
theorem P_rk {f : Nat → Nat} (hf : PM f) : rk f < 720 ∧ ∀ p, p < 6 → P (rk f) p = f p := by
  have h := PM.q q_rk hf
  simp only [Bool.and_eq_true, decide_eq_true_eq, beq_iff_eq] at h
  obtain ⟨h, h0, h1, h2, h3, h4, h5⟩ := h
  refine ⟨h, fun p hp => ?_⟩
  rcases lt6 hp with rfl | rfl | rfl | rfl | rfl | rfl <;> assumption
theorem rk_inj {f g : Nat → Nat} (hf : PM f) (hg : PM g) (h : rk f = rk g) {p : Nat} (hp : p < 6) : f p = g p := by
  rw [← (P_rk hf).2 p hp, h, (P_rk hg).2 p hp]
theorem P_inj {o o' : Nat} (h : o < 720) (h' : o' < 720) (e : ∀ p, p < 6 → P o p = P o' p) : o = o' := by
  rw [← (P_ok h).2, ← (P_ok h').2]
  exact rk_cong e
theorem P_0 {p : Nat} (hp : p < 6) : P 0 p = p := by
  rcases lt6 hp with rfl | rfl | rfl | rfl | rfl | rfl <;> decide +kernel
/-- a move f of the pieces that lie as in a -/
def act (f a : Nat → Nat) : Nat → Nat := fun q => a (inv6 f q)
theorem act_PM {f a : Nat → Nat} (hf : PM f) (ha : PM a) : PM (act f a) := ha.comp (inv6_PM hf)
theorem act_at {f a : Nat → Nat} (hf : PM f) {p : Nat} (hp : p < 6) : act f a (f p) = a p := by
  unfold act
  rw [inv6_of hf hp]
theorem act_cong {f g a c : Nat → Nat} (hf : PM f) (h : ∀ p, p < 6 → f p = g p) (h2 : ∀ p, p < 6 → a p = c p) {q : Nat} (hq : q < 6) : act f a q = act g c q := by
  unfold act
  rw [← inv6_cong h q, h2 _ (inv6_spec hf hq).1]
def mvO (f : Nat → Nat) (o : Nat) : Nat := rk (act f (P o))
theorem mvO_lt {f : Nat → Nat} (hf : PM f) {o : Nat} (ho : o < 720) : mvO f o < 720 := (P_rk (act_PM hf (P_ok ho).1)).1
theorem mvO_P {f : Nat → Nat} (hf : PM f) {o : Nat} (ho : o < 720) {q : Nat} (hq : q < 6) : P (mvO f o) q = act f (P o) q := (P_rk (act_PM hf (P_ok ho).1)).2 q hq
theorem mvO_cong {f g : Nat → Nat} (hf : PM f) (h : ∀ p, p < 6 → f p = g p) (o : Nat) : mvO f o = mvO g o := rk_cong fun _ hq => act_cong hf h (fun _ _ => rfl) hq
theorem mvO_inv {f : Nat → Nat} (hf : PM f) {o : Nat} (ho : o < 720) : mvO (inv6 f) (mvO f o) = o := by
  have h1 := mvO_lt hf ho
  have h2 := mvO_lt (inv6_PM hf) h1
  refine P_inj h2 ho fun p hp => ?_
  rw [mvO_P (inv6_PM hf) h1 hp]
  have h3 := (inv6_spec (inv6_PM hf) hp).1
  unfold act
  rw [mvO_P hf ho h3]
  unfold act
  congr 1
  exact (inv6_spec (inv6_PM hf) hp).2
