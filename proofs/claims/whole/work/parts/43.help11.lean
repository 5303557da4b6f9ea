/-! leastTime; the sums of a try -/
theorem nIb {x : Nat} (h : x < 2 ^ 31) : ¬ (nI x = (0 : Int32)) ↔ 0 < x := by
  rw [nI0_eq h]; omega
def B0 : BT := (0, 0, fun _ => 0)
theorem ok_leastT {S : Nat → Int32} (hS : IS S) {σ : SG} (hU : CU S σ) (hH : CH S σ) {o n : Nat} (ho : o < 720) (hn : n ≤ 5) {b : BT} (hb : b = ms S n 0 o 0 (fun _ => 0) B0) {post : SG → Int32 → Prop}
    (K0 : ∀ τ : SG, b.1 = 0 → (∀ k, k ≠ 73 → k ≠ 75 → k ≠ 76 → τ k = σ k) → τ 73 1 = σ 73 1 → post τ (-9 : Int32))
    (K1 : ∀ τ : SG, 0 < b.1 → (∀ k, k ≠ 73 → k ≠ 74 → k ≠ 75 → k ≠ 76 → τ k = σ k) → τ 73 1 = nI b.1 → (∀ i, i < b.1 → τ 74 i = nI (b.2.2 i)) → post τ (nI b.2.1)) : IN_X1_leastTime AF σ [.ref 73, .int (nI o), .int (nI n)] post := by
  refine ⟨⟨_, _, rfl, rfl, Nat.le_of_ble_eq_true rfl, rc_73⟩, Nat.le_of_ble_eq_true rfl, g_X1_leastTime_0 ⟨by omega, by decide, ?_⟩⟩
  intro s3 e3 s4 e4 s5 e5
  have f5 : ∀ k, k ≠ 73 → s5 k = σ k := fun k hk => by rw [e5, up_k hk, e4, up_k hk, e3, up_k hk]
  have g5 : ∀ j, j ≠ 4 → j ≠ 5 → j ≠ 6 → s5 73 j = σ 73 j := fun j a b c => by rw [e5, up_j b, e4, up_j a, e3, up_j c]
  have hB0 : BK S B0 := ⟨by decide, by decide, fun i hi => absurd hi (Nat.not_lt_zero _)⟩
  have hBb : BK S b := by rw [hb]; exact ms_ok hS n 0 o 0 _ _ (by omega) (by omega) (fun i hi => absurd hi (Nat.not_lt_zero _)) hB0
  have b5 := hBb.1
  refine ⟨fun τ x => x = 0 → SF s5 τ ∧ BC b τ, search_ok hS hn n 0 o 0 (fun _ => 0) B0 7 (Nat.zero_add _) (by omega) ho (by omega) (fun i hi => absurd hi (Nat.not_lt_zero _)) hB0 s5 (hU.fr hS (fun k a b => f5 k (by omega))) (hH.fr (fun k a b => f5 k (by omega))) (by rw [e5, up_j (by decide), e4, up_j (by decide), e3, up_s, Nat.min_eq_left hn]) ⟨by rw [e5, up_j (by decide), e4, up_s]; rfl, by rw [e5, up_s]; exact (if_pos rfl).symm, fun i hi => absurd hi (Nat.not_lt_zero _)⟩ (fun i hi => absurd hi (Nat.not_lt_zero _)) _ (fun τ a c _ _ => by rw [hb]; exact ⟨a, c⟩), fun t ht => ?_⟩
  obtain ⟨h1, h2⟩ := ht rfl
  have ft : ∀ k, k ≠ 73 → k ≠ 75 → k ≠ 76 → t k = σ k := fun k a b c => by rw [h1.1 k a b c]; exact f5 k a
  have gt : ∀ j, j ≠ 4 → j ≠ 5 → j ≠ 6 → t 73 j = σ 73 j := fun j a b c => by rw [h1.2 j a b]; exact g5 j a b c
  rw [h2.1]
  refine ⟨fun c s12 e12 => ⟨b.1, by rw [e12, up_j (by decide)]; exact h2.1, by omega, by omega, fun s17 e17 => ?_⟩, fun c => ?_⟩
  · rw [nIb (by omega)] at c
    have e5' : s17 73 5 = nI b.2.1 := by rw [e17, cpy_k (by decide), e12, up_j (by decide), h2.2.1, bt, if_neg (by omega)]
    rw [e5']
    refine K1 s17 c (fun k x y z w => by rw [e17, cpy_k y, e12, up_k x]; exact ft k x z w) (by rw [e17, cpy_k (by decide), e12, up_s]) (fun i hi => ?_)
    rw [e17]
    unfold cpy
    rw [if_pos ⟨rfl, Nat.zero_le _, by omega⟩, Nat.zero_add, Nat.sub_zero, e12, up_k (by decide)]
    exact h2.2.2 i hi
  · rw [nI0_eq (by omega)] at c
    exact K0 t c ft (gt 1 (by decide) (by decide) (by decide))
def hit (S : Nat → Int32) (pace : Nat) : Option Nat → Nat
  | none => 0
  | some r => rt S r * pace / 100
def sN (S : Nat → Int32) (pace : Nat) (md : Nat → Option Nat) : Nat → Nat × Nat
  | 0 => (0, 0)
  | k + 1 => ((if k = 0 then (sN S pace md k).1 else (sN S pace md k).1 + (see S k - (sN S pace md k).2)) + hit S pace (md k), hit S pace (md k))
def smO (S : Nat → Int32) (pace o : Nat) : Int32 := if (tr S o).2.1 = none then nI (sN S pace (tr S o).2.2 (cK S)).1 else -9
theorem rt_le {S : Nat → Int32} (hS : IS S) {r : Nat} (hr : r < cR S) : rt S r ≤ 2376 := by
  have h := rtF_le hS hr (Nat.le_refl _)
  have h2 := (hS.2.2.2.2.1 r hr).2.2.1
  unfold rt
  omega
theorem hit_le {S : Nat → Int32} (hS : IS S) {pace : Nat} (hp : pace ≤ 300) {x : Option Nat} (hx : ∀ r, x = some r → r < cR S) : hit S pace x ≤ 7128 := by
  cases x with
  | none => exact Nat.zero_le _
  | some r =>
    have h := rt_le hS (hx r rfl)
    have h2 : rt S r * pace ≤ 2376 * 300 := Nat.mul_le_mul h hp
    show rt S r * pace / 100 ≤ 7128
    omega
theorem sN_le {S : Nat → Int32} (hS : IS S) {pace : Nat} (hp : pace ≤ 300) {md : Nat → Option Nat} (hm : ∀ j r, md j = some r → r < cR S) : ∀ k, k ≤ cK S → (sN S pace md k).1 ≤ 8000 * k ∧ (sN S pace md k).2 ≤ 7128
  | 0, _ => ⟨Nat.zero_le _, Nat.zero_le _⟩
  | k + 1, hk => by
    obtain ⟨h1, h2⟩ := sN_le hS hp hm k (by omega)
    have h3 := hit_le hS hp (hm k)
    have h4 := (hS.2.2.2.2.2.2.2 k (by omega)).2.2.2.2.2
    refine ⟨?_, h3⟩
    show (if k = 0 then (sN S pace md k).1 else (sN S pace md k).1 + (see S k - (sN S pace md k).2)) + hit S pace (md k) ≤ _
    split <;> omega
theorem dvN {a b : Nat} (ha : a < 2 ^ 31) (hb : b < 2 ^ 31) : nI a / nI b = nI (a / b) := (Int32.ofNat_div ha hb).symm
theorem sbI (s a : Nat) : nI s - nI a = Int32.ofInt ((s : Int) - a) := by rw [nI_zI, nI_zI, Int32.ofInt_sub]
theorem sb_mx {s a : Nat} (hs : s ≤ 99) (ha : a ≤ 8000) : (if nI 0 < nI s - nI a then nI s - nI a else nI 0) = nI (s - a) := by
  have e : nI 0 < nI s - nI a ↔ a < s := by
    rw [Int32.lt_iff_toInt_lt, sbI, Int32.toInt_ofInt_of_le (by omega) (by omega), nI_toInt (by decide)]
    omega
  by_cases c : a < s
  · rw [if_pos (e.2 c), nI_subN (by omega)]
  · rw [if_neg (fun z => c (e.1 z)), show s - a = 0 by omega]
theorem sb_le {s a : Nat} (hs : s ≤ 99) (ha : a ≤ 8000) : nI s - nI a ≤ 0 ↔ s ≤ a := by
  rw [Int32.le_iff_toInt_le, sbI, Int32.toInt_ofInt_of_le (by omega) (by omega), show (0 : Int32).toInt = 0 by decide]
  omega
theorem sumOf_loop {S : Nat → Int32} (hS : IS S) {σ : SG} (hW : CW S σ) (hH : CH S σ) (hY : CY S σ) {pace : Nat} (hp : pace ≤ 300) {md : Nat → Option Nat} (hm : ∀ j r, md j = some r → r < cR S) (hT : ∀ j, j < 4 → σ 82 j = aI (md j)) {post : SG → Int32 → Prop} (K : post σ (nI (sN S pace md (cK S)).1)) :
    ∀ f k, k + f = cK S → T_X10_sumOf AF post 20 [.ref 77, .ref 81, .int (nI pace), .int (nI (sN S pace md k).1), .int (nI (sN S pace md k).2), .int (nI k), dum] [] σ := by
  have hK := hS.2.2.1.2
  have hR := hS.2.1.2
  have e0 : σ 77 0 = nI (cK S) := by rw [hY.1]; exact hS.2.2.1.1
  intro f
  induction f with
  | zero =>
    intro k hk
    obtain rfl : k = cK S := by omega
    apply g_X10_sumOf_20
    rw [e0]
    exact ⟨fun _ => K, fun c => absurd (nI_le (Nat.le_refl _) (by omega)) c⟩
  | succ f ih =>
    intro k hk
    have b := hS.2.2.2.2.2.2.2 k (by omega)
    obtain ⟨l1, l2⟩ := sN_le hS hp hm k (by omega)
    have nx := ih (k + 1) (by omega)
    apply g_X10_sumOf_20
    rw [e0, hT k (by omega), (hY.2 k (by omega)).2.2, sb_mx b.2.2.2.2.2 (by omega)]
    refine ⟨fun c => absurd c (nI_ge (show k < cK S by omega) (by omega)), fun _ => ⟨fun ck => ?_, fun ck => ?_⟩⟩
    · have k0 : k = 0 := (nI0_le (show k < 2 ^ 31 by omega)).1 ck
      rw [sN, if_pos k0] at nx
      refine ⟨by omega, fun c => ?_, fun c => ?_⟩
      · cases hmd : md k with
        | none => rw [hmd] at c; exact absurd rfl c
        | some r =>
          have hr := hm k r hmd
          have hq : rt S r * pace ≤ 2376 * 300 := Nat.mul_le_mul (rt_le hS hr) hp
          refine ⟨fun τ x => τ = σ ∧ x = nI (rt S r), ok_rowTime hS hH hW hr ⟨rfl, rfl⟩, ?_⟩
          rintro t x ⟨rfl, rfl⟩
          rw [pk_mul, dvN (by omega) (by decide), nI_add]
          rw [hmd] at nx
          exact nx
      · cases hmd : md k with
        | none => rw [nI_add]; rw [hmd] at nx; exact nx
        | some r => rw [hmd] at c; exact absurd c (aI_ne (by have := hm k r hmd; omega))
    · have k0 : ¬ k = 0 := fun z => ck ((nI0_le (show k < 2 ^ 31 by omega)).2 z)
      rw [sN, if_neg k0] at nx
      refine ⟨by omega, by omega, fun c => ?_, fun c => ?_⟩
      · cases hmd : md k with
        | none => rw [hmd] at c; exact absurd rfl c
        | some r =>
          have hr := hm k r hmd
          have hq : rt S r * pace ≤ 2376 * 300 := Nat.mul_le_mul (rt_le hS hr) hp
          refine ⟨fun τ x => τ = σ ∧ x = nI (rt S r), ok_rowTime hS hH hW hr ⟨rfl, rfl⟩, ?_⟩
          rintro t x ⟨rfl, rfl⟩
          rw [pk_mul, dvN (by omega) (by decide), nI_add, nI_add]
          rw [hmd] at nx
          exact nx
      · cases hmd : md k with
        | none => rw [nI_add, nI_add]; rw [hmd] at nx; exact nx
        | some r => rw [hmd] at c; exact absurd c (aI_ne (by have := hm k r hmd; omega))
theorem ok_sumOf {S : Nat → Int32} (hS : IS S) {σ : SG} (hW : CW S σ) (hH : CH S σ) (hY : CY S σ) {pace o : Nat} (hp : pace ≤ 300) (ho : o < 720) (hT : TRC (tr S o) σ) {post : SG → Int32 → Prop} (K : post σ (smO S pace o)) : IN_X10_sumOf AF σ [.ref 77, .ref 81, .int (nI pace)] post := by
  refine ⟨⟨_, _, rfl, rfl, Nat.le_of_ble_eq_true rfl, rc_77⟩, Nat.le_of_ble_eq_true rfl, g_X10_sumOf_0 ?_⟩
  rw [hT.1, aI_none hS ho]
  unfold smO at K
  refine ⟨fun c => ?_, fun c => ?_⟩
  · rw [if_pos c] at K
    exact sumOf_loop hS hW hH hY hp (trN_ok hS ho _).2.2 hT.2 K (cK S) 0 (Nat.zero_add _)
  · rw [if_neg c] at K
    exact K
-- the reference's
def FS (S : Nat → Int32) (σ : SG) : Prop := ∀ j, j < 197 → σ 104 j = S j
theorem FS.ms {S : Nat → Int32} {σ : SG} (h : FS S σ) : MS S σ := fun j hj _ => h j hj
theorem cpNow {S : Nat → Int32} (hS : IS S) {σ s3 s4 s5 s6 s7 s8 : SG} (hF : FS S σ) (k : Nat) (hk : k ≠ 104) (e3 : s3 = up σ k 0 (σ 104 5)) (e4 : s4 = up s3 k 1 (s3 104 6)) (e5 : s5 = up s4 k 2 (s4 104 7)) (e6 : s6 = up s5 k 3 (s5 104 8)) (e7 : s7 = up s6 k 4 (s6 104 9)) (e8 : s8 = up s7 k 5 (s7 104 10)) : PL s8 k 0 (cur S) ∧ ∀ k', k' ≠ k → s8 k' = σ k' := by
  have hk' := Ne.symm hk
  have nwp : ∀ p, p < 6 → σ 104 (5 + p) = nI (P (cur S) p) := fun p hp => by rw [hF _ (by omega), cur_P hS hp]; exact hS.2.2.2.2.2.1.1 p hp
  refine ⟨PL0.2 fun p hp => ?_, fun k' h => by rw [e8, up_k h, e7, up_k h, e6, up_k h, e5, up_k h, e4, up_k h, e3, up_k h]⟩
  rcases lt6 hp with rfl | rfl | rfl | rfl | rfl | rfl
  · rw [e8, up_j (by decide), e7, up_j (by decide), e6, up_j (by decide), e5, up_j (by decide), e4, up_j (by decide), e3, up_s]; exact nwp 0 hp
  · rw [e8, up_j (by decide), e7, up_j (by decide), e6, up_j (by decide), e5, up_j (by decide), e4, up_s, e3, up_k hk']; exact nwp 1 hp
  · rw [e8, up_j (by decide), e7, up_j (by decide), e6, up_j (by decide), e5, up_s, e4, up_k hk', e3, up_k hk']; exact nwp 2 hp
  · rw [e8, up_j (by decide), e7, up_j (by decide), e6, up_s, e5, up_k hk', e4, up_k hk', e3, up_k hk']; exact nwp 3 hp
  · rw [e8, up_j (by decide), e7, up_s, e6, up_k hk', e5, up_k hk', e4, up_k hk', e3, up_k hk']; exact nwp 4 hp
  · rw [e8, up_s, e7, up_k hk', e6, up_k hk', e5, up_k hk', e4, up_k hk', e3, up_k hk']; exact nwp 5 hp
theorem sumBy_loop {S : Nat → Int32} (hS : IS S) {σ : SG} (hM : MS S σ) {pace : Nat} (hp : pace ≤ 300) {md : Nat → Option Nat} (hm : ∀ j r, md j = some r → r < cR S) (hT : ∀ j, j < 4 → σ 117 j = aI (md j)) {post : SG → Int32 → Prop} (K : post σ (nI (sN S pace md (cK S)).1)) :
    ∀ f k, k + f = cK S → T_X12_sumBy AF post 21 [.ref 102, .int (nI pace), .int (nI (sN S pace md k).1), .int (nI (sN S pace md k).2), .int (nI k), dum] [] σ := by
  have hK := hS.2.2.1.2
  have hR := hS.2.1.2
  have e0 : σ 104 2 = nI (cK S) := by rw [hM 2 (by decide) (by decide)]; exact hS.2.2.1.1
  intro f
  induction f with
  | zero =>
    intro k hk
    obtain rfl : k = cK S := by omega
    apply g_X12_sumBy_21
    rw [e0]
    exact ⟨fun _ => K, fun c => absurd (nI_le (Nat.le_refl _) (by omega)) c⟩
  | succ f ih =>
    intro k hk
    have b := hS.2.2.2.2.2.2.2 k (by omega)
    obtain ⟨l1, l2⟩ := sN_le hS hp hm k (by omega)
    have nx := ih (k + 1) (by omega)
    apply g_X12_sumBy_21
    rw [e0, hT k (by omega), hM (185 + 3 * k + 2) (by omega) (by omega), b.2.2.2.2.1, sb_le b.2.2.2.2.2 (by omega), aI_0 (fun r hr => by have := hm k r hr; omega)]
    have call : ∀ (v : Nat) (Q : Prop), ¬ md k = none → (Q → T_X12_sumBy AF post 21 [.ref 102, .int (nI pace), .int (nI (v + hit S pace (md k))), .int (nI (hit S pace (md k))), .int (nI (k + 1)), dum] [] σ) → Q → ∃ p : SG → Int32 → Prop, IN_X12_secondsOf AF σ [.ref 102, .int (aI (md k))] p ∧ ∀ (t : SG) (r : Int32), p t r → T_X12_sumBy AF post 21 [.ref 102, .int (nI pace), .int (nI v + ((r * nI pace) / nI 100)), .int ((r * nI pace) / nI 100), .int (nI (k + 1)), dum] [] t := fun v Q c nx q => by
      cases hmd : md k with
      | none => exact absurd hmd c
      | some r =>
        have hr := hm k r hmd
        have hq : rt S r * pace ≤ 2376 * 300 := Nat.mul_le_mul (rt_le hS hr) hp
        refine ⟨fun τ x => τ = σ ∧ x = nI (rt S r), ok_secs hS hM hr ⟨rfl, rfl⟩, ?_⟩
        rintro t x ⟨rfl, rfl⟩
        rw [pk_mul, dvN (by omega) (by decide), nI_add]
        rw [hmd] at nx
        exact nx q
    refine ⟨fun c => absurd c (nI_ge (show k < cK S by omega) (by omega)), fun _ => ⟨by omega, fun ck => ?_, fun ck => ⟨fun cs => ?_, fun cs => ?_⟩⟩⟩
    · have k0 : k = 0 := (nI0_le (show k < 2 ^ 31 by omega)).1 ck
      rw [sN, if_pos k0] at nx
      refine ⟨by omega, fun c => ⟨by omega, call _ True c (fun _ => nx) trivial⟩, fun c => ?_⟩
      have c := Classical.not_not.mp c
      rw [c] at nx
      rw [nI_add]
      exact nx
    · have k0 : ¬ k = 0 := fun z => ck ((nI0_le (show k < 2 ^ 31 by omega)).2 z)
      rw [sN, if_neg k0, Nat.sub_eq_zero_of_le cs, Nat.add_zero] at nx
      refine ⟨by omega, fun c => ⟨by omega, call _ True c (fun _ => nx) trivial⟩, fun c => ?_⟩
      have c := Classical.not_not.mp c
      rw [c] at nx
      rw [nI_add]
      exact nx
    · have k0 : ¬ k = 0 := fun z => ck ((nI0_le (show k < 2 ^ 31 by omega)).2 z)
      rw [sN, if_neg k0] at nx
      rw [nI_subN (by omega), nI_add]
      refine ⟨by omega, fun c => ⟨by omega, call _ True c (fun _ => nx) trivial⟩, fun c => ?_⟩
      have c := Classical.not_not.mp c
      rw [c] at nx
      rw [nI_add]
      exact nx
theorem ok_sumBy {S : Nat → Int32} (hS : IS S) {σ : SG} (hF : FS S σ) {pace : Nat} (hp : pace ≤ 300) {post : SG → Int32 → Prop} (K : ∀ τ : SG, GF σ τ → post τ (smO S pace (cur S))) : IN_X12_sumBy AF σ [.ref 102, .int (nI pace)] post := by
  refine ⟨⟨_, _, rfl, rfl, Nat.le_of_ble_eq_true rfl, rc_102⟩, Nat.le_of_ble_eq_true rfl, g_X12_sumBy_0 ?_⟩
  intro s3 e3 s4 e4 s5 e5 s6 e6 s7 e7 s8 e8
  obtain ⟨h1, h2⟩ := cpNow hS hF 115 (by decide) e3 e4 e5 e6 e7 e8
  have hK := hS.2.2.1.2
  refine ⟨fun τ x => x = 0 → TRM (tr S (cur S)) τ ∧ GF s8 τ, ok_goesOn hS (hF.ms.fr (h2 104 (by decide))) (cur_lt hS) h1 (fun τ a _ c _ => ⟨a, c⟩), fun t ht => ?_⟩
  obtain ⟨q1, q2⟩ := ht rfl
  have fin : GF σ t := ⟨fun k a b c d e => by rw [q2.1 k a b c d e]; exact h2 k c, fun j hj => by rw [q2.2 j hj, h2 102 (by decide)]⟩
  have hw := (trN_ok hS (cur_lt hS) (cK S))
  have K2 := K t fin
  unfold smO at K2
  rw [q1.1]
  have e : aI (tr S (cur S)).2.1 < 0 ↔ (tr S (cur S)).2.1 = none := by
    have := aI_0 (x := (tr S (cur S)).2.1) (fun b hb => by have := hw.2.1 b hb; omega)
    rw [Int32.lt_iff_toInt_lt]
    rw [Int32.le_iff_toInt_le] at this
    constructor
    · intro z; exact Classical.byContradiction fun w => by have := this.2 w; omega
    · intro z; exact Classical.byContradiction fun w => (this.1 (by omega)) z
  rw [e]
  refine ⟨fun c => ?_, fun c => ?_⟩
  · rw [if_pos c] at K2
    exact sumBy_loop hS (hF.ms.fr (fin.1 104 (by decide) (by decide) (by decide) (by decide) (by decide))) hp hw.2.2 q1.2 K2 (cK S) 0 (Nat.zero_add _)
  · rw [if_neg c] at K2
    exact K2
