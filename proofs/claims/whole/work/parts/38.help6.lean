/-! takes, rowTime, secondsOf -/
theorem zI_toInt {x : Int} (h1 : -1000 ≤ x) (h2 : x ≤ 1000) : (Int32.ofInt x).toInt = x := Int32.toInt_ofInt_of_le (by omega) (by omega)
theorem nI_zI (n : Nat) : nI n = Int32.ofInt n := Int32.ofInt_eq_ofNat.symm
theorem zI_self (v : Int32) : v = Int32.ofInt v.toInt := (Int32.ofInt_toInt v).symm
theorem zI_nat {x : Int} (h : 0 ≤ x) : Int32.ofInt x = nI x.toNat := by rw [nI_zI, Int.toNat_of_nonneg h]
theorem mxA {x : Int} (h1 : -1000 ≤ x) (h2 : x ≤ 1000) : (if nI 1 < Int32.ofInt x then Int32.ofInt x else nI 1) = nI (max 1 x).toNat := by
  have e : nI 1 < Int32.ofInt x ↔ 1 < x := by rw [Int32.lt_iff_toInt_lt, zI_toInt h1 h2, nI_zI, zI_toInt (by decide) (by decide)]; rfl
  by_cases c : 1 < x
  · rw [if_pos (e.2 c), zI_nat (by omega), show max 1 x = x by omega]
  · rw [if_neg (fun z => c (e.1 z)), show max 1 x = 1 by omega]; rfl
theorem mxB {x : Int} (h1 : -1000 ≤ x) (h2 : x ≤ 1000) {Q : Int32 → Prop} (K : Q (nI (max 1 x).toNat)) : (nI 1 ≤ Int32.ofInt x → Q (Int32.ofInt x)) ∧ (¬ nI 1 ≤ Int32.ofInt x → Q (nI 1)) := by
  have e : nI 1 ≤ Int32.ofInt x ↔ 1 ≤ x := by rw [Int32.le_iff_toInt_le, zI_toInt h1 h2, nI_zI, zI_toInt (by decide) (by decide)]; rfl
  refine ⟨fun c => ?_, fun c => ?_⟩
  · rw [e] at c
    rwa [show max 1 x = x by omega, ← zI_nat (by omega)] at K
  · rw [e] at c
    rwa [show max 1 x = 1 by omega] at K
def aI : Option Nat → Int32
  | none => -9
  | some a => nI a
def bhZ (S : Nat → Int32) : Option Nat → Nat → Int
  | none, _ => 0
  | some a, m => (af S (a / 2) (m / 2)).toInt
def tkZ (S : Nat → Int32) (a : Option Nat) (m : Nat) : Int := (ti S (m / 2) : Int) + (if m % 2 = 1 then (ba S (m / 2) : Int) else 0) + bhZ S a m
def tk (S : Nat → Int32) (a : Option Nat) (m : Nat) : Nat := (max 1 (tkZ S a m)).toNat
theorem tkZ_in {S : Nat → Int32} (h : IH S) {a : Option Nat} (ha : ∀ b, a = some b → b < 12) {m : Nat} (hm : m < 12) : -1000 ≤ tkZ S a m ∧ tkZ S a m ≤ 297 := by
  obtain ⟨_, h1, h2, _, h3⟩ := h.1 (m / 2) (by omega)
  have hb : -9 ≤ bhZ S a m ∧ bhZ S a m ≤ 99 := by
    cases a with
    | none => exact ⟨show (-9:Int) ≤ 0 by decide, show (0:Int) ≤ 99 by decide⟩
    | some b => exact h.2.1 _ _ (by have := ha b rfl; omega) (by omega)
  unfold tkZ
  split <;> omega
theorem tk_le {S : Nat → Int32} (h : IH S) {a : Option Nat} (ha : ∀ b, a = some b → b < 12) {m : Nat} (hm : m < 12) : 1 ≤ tk S a m ∧ tk S a m ≤ 297 := by
  have := tkZ_in h ha hm
  unfold tk
  omega
theorem sh_all : (List.range 12).all (fun m => decide ((nI m >>> ((nI 1) &&& 31)) = nI (m / 2)) && (decide ((nI m &&& nI 1) = nI (m % 2)) && decide (nI m / nI 2 = nI (m / 2)))) = true := by decide +kernel
theorem sh_at {m : Nat} (hm : m < 12) : (nI m >>> ((nI 1) &&& 31)) = nI (m / 2) ∧ (nI m &&& nI 1) = nI (m % 2) ∧ nI m / nI 2 = nI (m / 2) := by
  have h := List.all_eq_true.mp sh_all m (List.mem_range.mpr hm)
  simp only [Bool.and_eq_true, decide_eq_true_eq] at h
  exact h
theorem ok_takes {S : Nat → Int32} (hI : IH S) {σ : SG} (hH : CH S σ) {m : Nat} (hm : m < 12) {a : Option Nat} (ha : ∀ b, a = some b → b < 12) {post : SG → Int32 → Prop} (K : post σ (nI (tk S a m))) : IN_X2_takes AF σ [.ref 61, .int (nI m), .int (aI a)] post := by
  refine ⟨⟨_, _, rfl, rfl, Nat.le_of_ble_eq_true rfl, rc_61⟩, Nat.le_of_ble_eq_true rfl, g_X2_takes_0 ?_⟩
  obtain ⟨s1, s2, s3⟩ := sh_at hm
  have hm6 : m / 2 < 6 := by omega
  obtain ⟨t1, t2, t3, t4, t5⟩ := hI.1 _ hm6
  obtain ⟨c1, c2, c3⟩ := hH.1 _ hm6
  have d1 : σ 63 (m / 2) = Int32.ofInt (ti S (m / 2)) := by rw [c1, t1, nI_zI]
  have d2 : σ 64 (m / 2) = Int32.ofInt (ba S (m / 2)) := by rw [c2, t4, nI_zI]
  obtain ⟨z1, z2⟩ := tkZ_in hI ha hm
  have K2 := K
  rw [tk, ← mxA z1 (by omega)] at K2
  rw [s1, s2]
  have e1 : (nI (m % 2) = nI 1) ↔ m % 2 = 1 := nI_eq (by omega) (by decide)
  refine ⟨m / 2, rfl, hm6, fun c => ?_, fun c => ?_⟩
  all_goals rw [e1] at c
  · rw [d1]
    refine ⟨fun ca => ?_, fun ca => ?_⟩
    · obtain rfl : a = none := by
        cases a with
        | none => rfl
        | some b => exact absurd ca (nI_ne9 (by have := ha b rfl; omega))
      rwa [tkZ, if_neg c, bhZ, Int.add_zero, Int.add_zero] at K2
    · cases a with
      | none => exact absurd rfl ca
      | some b =>
        have hb := ha b rfl
        refine ⟨b / 2, (sh_at hb).1, by omega, m / 2, rfl, hm6, ?_⟩
        rw [(hH.1 _ (show b / 2 < 6 by omega)).2.2 _ hm6, zI_self (af S (b / 2) (m / 2)), ← Int32.ofInt_add]
        rwa [tkZ, if_neg c, Int.add_zero, bhZ] at K2
  · refine ⟨m / 2, rfl, hm6, ?_⟩
    rw [d1, d2, ← Int32.ofInt_add]
    refine ⟨fun ca => ?_, fun ca => ?_⟩
    · obtain rfl : a = none := by
        cases a with
        | none => rfl
        | some b => exact absurd ca (nI_ne9 (by have := ha b rfl; omega))
      rwa [tkZ, if_pos c, bhZ, Int.add_zero] at K2
    · cases a with
      | none => exact absurd rfl ca
      | some b =>
        have hb := ha b rfl
        refine ⟨b / 2, (sh_at hb).1, by omega, m / 2, rfl, hm6, ?_⟩
        rw [(hH.1 _ (show b / 2 < 6 by omega)).2.2 _ hm6, zI_self (af S (b / 2) (m / 2)), ← Int32.ofInt_add]
        rwa [tkZ, if_pos c, bhZ] at K2
theorem ok_mtakes {S : Nat → Int32} (hI : IH S) {σ : SG} (hM : MS S σ) {m : Nat} (hm : m < 12) {a : Option Nat} (ha : ∀ b, a = some b → b < 12) {post : SG → Int32 → Prop} (K : post σ (nI (tk S a m))) : IN_X12_takes AF σ [.ref 102, .int (aI a), .int (nI m)] post := by
  refine ⟨⟨_, _, rfl, rfl, Nat.le_of_ble_eq_true rfl, rc_102⟩, Nat.le_of_ble_eq_true rfl, g_X12_takes_0 ?_⟩
  have hm6 : m / 2 < 6 := by omega
  obtain ⟨t1, t2, t3, t4, t5⟩ := hI.1 _ hm6
  have d1 : σ 104 (47 + m / 2) = Int32.ofInt (ti S (m / 2)) := by rw [hM _ (by omega) (by omega), t1, nI_zI]
  have d2 : σ 104 (53 + m / 2) = Int32.ofInt (ba S (m / 2)) := by rw [hM _ (by omega) (by omega), t4, nI_zI]
  obtain ⟨z1, z2⟩ := tkZ_in hI ha hm
  rw [tk] at K
  have K2 := mxB (Q := post σ) z1 (by omega) K
  have e0 : nI 0 = Int32.ofInt 0 := by decide
  have n9 : ¬ (0 : Int32) ≤ -9 := by decide
  have p0 : ∀ b, b < 12 → (0 : Int32) ≤ nI b := fun b hb => by rw [← nI_0]; exact nI_le (Nat.zero_le _) (by omega)
  rw [d1]
  refine ⟨by omega, by omega, by omega, by omega, fun c => ?_, fun c => ?_⟩
  · refine ⟨fun ca => ?_, fun ca => ?_⟩
    · cases a with
      | none => exact absurd ca n9
      | some b =>
        have hb := ha b rfl
        refine ⟨by omega, 59 + 6 * (b / 2) + m / 2, ?_, by omega, ?_⟩
        · rw [aI, (sh_at hb).2.2, pk_mul, nI_add, nI_add]
        · rw [hM _ (by omega) (by omega), show S (59 + 6 * (b / 2) + m / 2) = af S (b / 2) (m / 2) from rfl, e0, zI_self (af S (b / 2) (m / 2)), ← Int32.ofInt_add, ← Int32.ofInt_add]
          rwa [tkZ, if_neg c, bhZ] at K2
    · cases a with
      | some b => exact absurd (p0 b (ha b rfl)) ca
      | none =>
        rw [e0, ← Int32.ofInt_add, ← Int32.ofInt_add]
        rwa [tkZ, if_neg c, bhZ] at K2
  · refine ⟨by omega, by omega, ?_⟩
    rw [d2]
    refine ⟨fun ca => ?_, fun ca => ?_⟩
    · cases a with
      | none => exact absurd ca n9
      | some b =>
        have hb := ha b rfl
        refine ⟨by omega, 59 + 6 * (b / 2) + m / 2, ?_, by omega, ?_⟩
        · rw [aI, (sh_at hb).2.2, pk_mul, nI_add, nI_add]
        · rw [hM _ (by omega) (by omega), show S (59 + 6 * (b / 2) + m / 2) = af S (b / 2) (m / 2) from rfl, zI_self (af S (b / 2) (m / 2)), ← Int32.ofInt_add, ← Int32.ofInt_add]
          rwa [tkZ, if_pos c, bhZ] at K2
    · cases a with
      | some b => exact absurd (p0 b (ha b rfl)) ca
      | none =>
        rw [e0, ← Int32.ofInt_add, ← Int32.ofInt_add]
        rwa [tkZ, if_pos c, bhZ] at K2
/-- the move ahead of the i-th of a row -/
def ahd (S : Nat → Int32) (r : Nat) : Nat → Option Nat
  | 0 => none
  | i + 1 => some (mv S r i)
def rtF (S : Nat → Int32) (r : Nat) : Nat → Nat
  | 0 => 0
  | i + 1 => rtF S r i + tk S (ahd S r i) (mv S r i)
def rt (S : Nat → Int32) (r : Nat) : Nat := rtF S r (ln S r)
theorem mv_lt {S : Nat → Int32} (hS : IS S) {r i : Nat} (hr : r < cR S) (hi : i < ln S r) : mv S r i < 12 := by
  have h1 := ((hS.2.2.2.2.1 r hr).2.2.2 i hi).2
  have h2 := hS.1.2
  omega
theorem ahd_lt {S : Nat → Int32} (hS : IS S) {r i : Nat} (hr : r < cR S) (hi : i < ln S r) : ∀ b, ahd S r i = some b → b < 12 := by
  intro b hb
  cases i with
  | zero => exact absurd hb (by simp [ahd])
  | succ i =>
    simp only [ahd, Option.some.injEq] at hb
    rw [← hb]
    exact mv_lt hS hr (by omega)
theorem rtF_le {S : Nat → Int32} (hS : IS S) {r : Nat} (hr : r < cR S) : ∀ {i : Nat}, i ≤ ln S r → rtF S r i ≤ 297 * i
  | 0, _ => Nat.le_refl _
  | i + 1, hi => by
    have h1 := rtF_le hS hr (show i ≤ ln S r by omega)
    have h2 := (tk_le hS.2.2.2.2.2.2.1 (ahd_lt hS hr (show i < ln S r by omega)) (mv_lt hS hr (show i < ln S r by omega))).2
    rw [rtF]
    omega
theorem rowTime_loop {S : Nat → Int32} (hS : IS S) {σ : SG} (hH : CH S σ) (hW : CW S σ) {r : Nat} (hr : r < cR S) {post : SG → Int32 → Prop} (K : post σ (nI (rt S r))) :
    ∀ f i, i + f = ln S r → T_X2_rowTime AF post 5 [.ref 61, .ref 36, .int (nI r), .int (nI (rtF S r i)), .int (nI i)] [] σ := by
  have hr10 := hS.2.1.2
  obtain ⟨b1, b2, b3, b4⟩ := hS.2.2.2.2.1 r hr
  obtain ⟨c1, c2, c3⟩ := hW.2 r hr
  intro f
  induction f with
  | zero =>
    intro i hi
    apply g_X2_rowTime_5
    rw [c1]
    refine ⟨by omega, fun _ => ?_, fun c => absurd (nI_le (show ln S r ≤ i by omega) (by omega)) c⟩
    obtain rfl : i = ln S r := by omega
    exact K
  | succ f ih =>
    intro i hi
    apply g_X2_rowTime_5
    rw [c1, c2 i (by omega)]
    refine ⟨by omega, fun c => absurd c (nI_ge (show i < ln S r by omega) (by omega)), fun _ => ⟨by omega, by omega, fun c => ?_, fun c => ?_⟩⟩
    · have z : i = 0 := by
        have : i ≤ 0 := (nI_leI (show i < 2 ^ 31 by omega) (show 0 < 2 ^ 31 by decide)).1 c
        omega
      subst z
      refine ⟨fun τ x => τ = σ ∧ x = nI (tk S none (mv S r 0)), ok_takes (a := none) hS.2.2.2.2.2.2.1 hH (mv_lt hS hr (by omega)) (fun b hb => absurd hb (by simp)) ⟨rfl, rfl⟩, ?_⟩
      rintro t x ⟨rfl, rfl⟩
      rw [nI_add]
      exact ih 1 (by omega)
    · obtain ⟨j, rfl⟩ : ∃ j, i = j + 1 := ⟨i - 1, by
        have : ¬ i ≤ 0 := fun z => c ((nI_leI (show i < 2 ^ 31 by omega) (show 0 < 2 ^ 31 by decide)).2 z)
        omega⟩
      refine ⟨by omega, by omega, by omega, ?_⟩
      rw [Nat.add_sub_cancel, c2 j (by omega)]
      refine ⟨fun τ x => τ = σ ∧ x = nI (tk S (some (mv S r j)) (mv S r (j + 1))), ok_takes (a := some (mv S r j)) hS.2.2.2.2.2.2.1 hH (mv_lt hS hr (by omega)) (ahd_lt hS hr (show j + 1 < ln S r by omega)) ⟨rfl, rfl⟩, ?_⟩
      rintro t x ⟨rfl, rfl⟩
      rw [nI_add]
      exact ih (j + 1 + 1) (by omega)
theorem ok_rowTime {S : Nat → Int32} (hS : IS S) {σ : SG} (hH : CH S σ) (hW : CW S σ) {r : Nat} (hr : r < cR S) {post : SG → Int32 → Prop} (K : post σ (nI (rt S r))) : IN_X2_rowTime AF σ [.ref 61, .ref 36, .int (nI r)] post :=
  ⟨⟨_, _, rfl, rfl, Nat.le_of_ble_eq_true rfl, rc_61⟩, Nat.le_of_ble_eq_true rfl, g_X2_rowTime_0 (rowTime_loop hS hH hW hr K (ln S r) 0 (Nat.zero_add _))⟩
theorem secs_loop {S : Nat → Int32} (hS : IS S) {σ : SG} (hM : MS S σ) {r : Nat} (hr : r < cR S) {post : SG → Int32 → Prop} (K : post σ (nI (rt S r))) :
    ∀ f i, i + f = ln S r → T_X12_secondsOf AF post 4 [.ref 102, .int (nI r), .int (nI (rtF S r i)), .int (nI i)] [] σ := by
  have hr10 := hS.2.1.2
  obtain ⟨b1, b2, b3, b4⟩ := hS.2.2.2.2.1 r hr
  have c1 : σ 104 (95 + 9 * r) = nI (ln S r) := by rw [hM _ (by omega) (by omega)]; exact b1
  have c2 : ∀ i, i < ln S r → σ 104 (95 + 9 * r + 1 + i) = nI (mv S r i) := fun i hi => by rw [hM _ (by omega) (by omega)]; exact (b4 i hi).1
  intro f
  induction f with
  | zero =>
    intro i hi
    apply g_X12_secondsOf_4
    rw [c1]
    refine ⟨by omega, fun _ => ?_, fun c => absurd (nI_le (show ln S r ≤ i by omega) (by omega)) c⟩
    obtain rfl : i = ln S r := by omega
    exact K
  | succ f ih =>
    intro i hi
    apply g_X12_secondsOf_4
    rw [c1, c2 i (by omega)]
    refine ⟨by omega, fun c => absurd c (nI_ge (show i < ln S r by omega) (by omega)), fun _ => ⟨by omega, fun c => ?_, fun c => ?_⟩⟩
    · obtain ⟨j, rfl⟩ : ∃ j, i = j + 1 := ⟨i - 1, by omega⟩
      refine ⟨by omega, by omega, by omega, ?_⟩
      rw [Nat.add_sub_cancel, c2 j (by omega)]
      refine ⟨fun τ x => τ = σ ∧ x = nI (tk S (some (mv S r j)) (mv S r (j + 1))), ok_mtakes (a := some (mv S r j)) hS.2.2.2.2.2.2.1 hM (mv_lt hS hr (by omega)) (ahd_lt hS hr (show j + 1 < ln S r by omega)) ⟨rfl, rfl⟩, ?_⟩
      rintro t x ⟨rfl, rfl⟩
      rw [nI_add]
      exact ih (j + 1 + 1) (by omega)
    · subst c
      refine ⟨by omega, fun τ x => τ = σ ∧ x = nI (tk S none (mv S r 0)), ok_mtakes (a := none) hS.2.2.2.2.2.2.1 hM (mv_lt hS hr (by omega)) (fun b hb => absurd hb (by simp)) ⟨rfl, rfl⟩, ?_⟩
      rintro t x ⟨rfl, rfl⟩
      rw [nI_add]
      exact ih 1 (by omega)
theorem ok_secs {S : Nat → Int32} (hS : IS S) {σ : SG} (hM : MS S σ) {r : Nat} (hr : r < cR S) {post : SG → Int32 → Prop} (K : post σ (nI (rt S r))) : IN_X12_secondsOf AF σ [.ref 102, .int (nI r)] post :=
  ⟨⟨_, _, rfl, rfl, Nat.le_of_ble_eq_true rfl, rc_102⟩, Nat.le_of_ble_eq_true rfl, g_X12_secondsOf_0 (secs_loop hS hM hr K (ln S r) 0 (Nat.zero_add _))⟩
