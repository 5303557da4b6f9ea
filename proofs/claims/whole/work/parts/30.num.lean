/-! PURE, and the smallest methods: bits, nthOf, numberOf -/
def bcE (x : Int32) : Int32 := ((((((((x - (((x.toUInt32 >>> ((nI 1).toUInt32 &&& Int32.toUInt32 31)).toInt32) &&& (1431655765 : Int32))) &&& (858993459 : Int32)) + ((((x - (((x.toUInt32 >>> ((nI 1).toUInt32 &&& Int32.toUInt32 31)).toInt32) &&& (1431655765 : Int32))).toUInt32 >>> ((nI 2).toUInt32 &&& Int32.toUInt32 31)).toInt32) &&& (858993459 : Int32))) + (((((x - (((x.toUInt32 >>> ((nI 1).toUInt32 &&& Int32.toUInt32 31)).toInt32) &&& (1431655765 : Int32))) &&& (858993459 : Int32)) + ((((x - (((x.toUInt32 >>> ((nI 1).toUInt32 &&& Int32.toUInt32 31)).toInt32) &&& (1431655765 : Int32))).toUInt32 >>> ((nI 2).toUInt32 &&& Int32.toUInt32 31)).toInt32) &&& (858993459 : Int32))).toUInt32 >>> ((nI 4).toUInt32 &&& Int32.toUInt32 31)).toInt32)) &&& (252645135 : Int32)) + (((((((x - (((x.toUInt32 >>> ((nI 1).toUInt32 &&& Int32.toUInt32 31)).toInt32) &&& (1431655765 : Int32))) &&& (858993459 : Int32)) + ((((x - (((x.toUInt32 >>> ((nI 1).toUInt32 &&& Int32.toUInt32 31)).toInt32) &&& (1431655765 : Int32))).toUInt32 >>> ((nI 2).toUInt32 &&& Int32.toUInt32 31)).toInt32) &&& (858993459 : Int32))) + (((((x - (((x.toUInt32 >>> ((nI 1).toUInt32 &&& Int32.toUInt32 31)).toInt32) &&& (1431655765 : Int32))) &&& (858993459 : Int32)) + ((((x - (((x.toUInt32 >>> ((nI 1).toUInt32 &&& Int32.toUInt32 31)).toInt32) &&& (1431655765 : Int32))).toUInt32 >>> ((nI 2).toUInt32 &&& Int32.toUInt32 31)).toInt32) &&& (858993459 : Int32))).toUInt32 >>> ((nI 4).toUInt32 &&& Int32.toUInt32 31)).toInt32)) &&& (252645135 : Int32)).toUInt32 >>> ((nI 8).toUInt32 &&& Int32.toUInt32 31)).toInt32)) + ((((((((x - (((x.toUInt32 >>> ((nI 1).toUInt32 &&& Int32.toUInt32 31)).toInt32) &&& (1431655765 : Int32))) &&& (858993459 : Int32)) + ((((x - (((x.toUInt32 >>> ((nI 1).toUInt32 &&& Int32.toUInt32 31)).toInt32) &&& (1431655765 : Int32))).toUInt32 >>> ((nI 2).toUInt32 &&& Int32.toUInt32 31)).toInt32) &&& (858993459 : Int32))) + (((((x - (((x.toUInt32 >>> ((nI 1).toUInt32 &&& Int32.toUInt32 31)).toInt32) &&& (1431655765 : Int32))) &&& (858993459 : Int32)) + ((((x - (((x.toUInt32 >>> ((nI 1).toUInt32 &&& Int32.toUInt32 31)).toInt32) &&& (1431655765 : Int32))).toUInt32 >>> ((nI 2).toUInt32 &&& Int32.toUInt32 31)).toInt32) &&& (858993459 : Int32))).toUInt32 >>> ((nI 4).toUInt32 &&& Int32.toUInt32 31)).toInt32)) &&& (252645135 : Int32)) + (((((((x - (((x.toUInt32 >>> ((nI 1).toUInt32 &&& Int32.toUInt32 31)).toInt32) &&& (1431655765 : Int32))) &&& (858993459 : Int32)) + ((((x - (((x.toUInt32 >>> ((nI 1).toUInt32 &&& Int32.toUInt32 31)).toInt32) &&& (1431655765 : Int32))).toUInt32 >>> ((nI 2).toUInt32 &&& Int32.toUInt32 31)).toInt32) &&& (858993459 : Int32))) + (((((x - (((x.toUInt32 >>> ((nI 1).toUInt32 &&& Int32.toUInt32 31)).toInt32) &&& (1431655765 : Int32))) &&& (858993459 : Int32)) + ((((x - (((x.toUInt32 >>> ((nI 1).toUInt32 &&& Int32.toUInt32 31)).toInt32) &&& (1431655765 : Int32))).toUInt32 >>> ((nI 2).toUInt32 &&& Int32.toUInt32 31)).toInt32) &&& (858993459 : Int32))).toUInt32 >>> ((nI 4).toUInt32 &&& Int32.toUInt32 31)).toInt32)) &&& (252645135 : Int32)).toUInt32 >>> ((nI 8).toUInt32 &&& Int32.toUInt32 31)).toInt32)).toUInt32 >>> ((nI 16).toUInt32 &&& Int32.toUInt32 31)).toInt32)) &&& (nI 63))
def pc6 (v : Nat) : Nat := v % 2 + v / 2 % 2 + v / 4 % 2 + v / 8 % 2 + v / 16 % 2 + v / 32 % 2
theorem bc_all : (List.range 64).all (fun v => decide (bcE (nI v) = nI (pc6 v))) = true := by decide +kernel
theorem bc_eq {v : Nat} (h : v < 64) : bcE (nI v) = nI (pc6 v) := of_decide_eq_true (List.all_eq_true.mp bc_all v (List.mem_range.mpr h))
def clr (L b : Nat) : Nat := if L.testBit b then L - 2 ^ b else L
theorem bits_all : (List.range 64).all (fun L => (List.range 6).all fun b => decide ((nI L &&& ((nI 1 <<< (nI b &&& 31)) - nI 1)) = nI (L % 2 ^ b)) && (decide ((nI L &&& ((nI 1 <<< (nI b &&& 31)) ^^^ (-1 : Int32))) = nI (clr L b)) && (decide (((nI L >>> (nI b &&& 31)) &&& nI 1) = nI 1) == L.testBit b && (decide (clr L b < 64) && decide (L % 2 ^ b < 64))))) = true := by decide +kernel
theorem bits {L b : Nat} (hL : L < 64) (hb : b < 6) : (nI L &&& ((nI 1 <<< (nI b &&& 31)) - nI 1)) = nI (L % 2 ^ b) ∧ (nI L &&& ((nI 1 <<< (nI b &&& 31)) ^^^ (-1 : Int32))) = nI (clr L b) ∧ (((nI L >>> (nI b &&& 31)) &&& nI 1) = nI 1 ↔ L.testBit b = true) ∧ clr L b < 64 ∧ L % 2 ^ b < 64 := by
  have h := List.all_eq_true.mp (List.all_eq_true.mp bits_all L (List.mem_range.mpr hL)) b (List.mem_range.mpr hb)
  simp only [Bool.and_eq_true, decide_eq_true_eq, beq_iff_eq] at h
  obtain ⟨h1, h2, h3, h4, h5⟩ := h
  exact ⟨h1, h2, by rw [← h3]; simp, h4, h5⟩
def nthF (L : Nat) : Nat → Nat → Nat → Nat
  | 0, _, _ => 0
  | f + 1, i, k => if L.testBit i then (if k = 0 then i else nthF L f (i + 1) (k - 1)) else nthF L f (i + 1) k
theorem nthF_all : (List.range 64).all (fun L => (List.range 720).all fun k => decide (nthF L 6 0 k = nth L k)) = true := by decide +kernel
theorem nthF_eq {L k : Nat} (hL : L < 64) (hk : k < 720) : nthF L 6 0 k = nth L k := of_decide_eq_true (List.all_eq_true.mp (List.all_eq_true.mp nthF_all L (List.mem_range.mpr hL)) k (List.mem_range.mpr hk))
theorem ok_bitCount {A : AL} (hn : 0 < A.1) {σ : SG} {v : Nat} (hv : v < 64) {post : SG → Int32 → Prop} (h : post σ (nI (pc6 v))) : IN_J6_bitCount_0f7a4 A σ [.int (nI v)] post :=
  ⟨rfl, Nat.le_of_ble_eq_true rfl, g_J6_bitCount_0f7a4_0 hn (by rw [← bc_eq hv] at h; exact h)⟩
theorem nthOf_loop {A : AL} (hn : 0 < A.1) {σ : SG} {L n : Nat} (hL : L < 64) (hnn : n < 720) {post : SG → Int32 → Prop} : ∀ f i sm, i + f = 6 → sm ≤ n → post σ (nI (nthF L f i (n - sm))) → T_X4_nthOf A post 4 [.int (nI L), .int (nI n), .int (nI sm), .int (nI i)] [] σ
  | 0, i, sm, hi, hs, h => by
    apply g_X4_nthOf_4 hn
    exact ⟨by omega, fun _ => h, fun c => absurd c (by omega)⟩
  | f + 1, i, sm, hi, hs, h => by
    apply g_X4_nthOf_4 hn
    have hb := (bits hL (show i < 6 by omega)).2.2.1
    refine ⟨by omega, fun c => absurd c (by omega), fun _ => ⟨fun c => ?_, fun c => ⟨by omega, by omega, fun c2 => ?_, fun c2 => ?_⟩⟩⟩
    · refine nthOf_loop hn hL hnn f (i + 1) sm (by omega) hs ?_
      have hf : ¬ L.testBit i = true := fun z => c (hb.2 z)
      rw [nthF, if_neg hf] at h
      exact h
    · refine nthOf_loop hn hL hnn f (i + 1) (sm + 1) (by omega) (by omega) ?_
      rw [nthF, if_pos (hb.1 c), if_neg (by omega)] at h
      rw [show n - (sm + 1) = n - sm - 1 by omega]
      exact h
    · rw [nthF, if_pos (hb.1 c), if_pos (by omega)] at h
      exact h
theorem ok_nthOf {A : AL} (hn : 0 < A.1) {σ : SG} {L n : Nat} (hL : L < 64) (hnn : n < 720) {post : SG → Int32 → Prop} (h : post σ (nI (nth L n))) : IN_X4_nthOf A σ [.int (nI L), .int (nI n)] post :=
  ⟨rfl, Nat.le_of_ble_eq_true rfl, g_X4_nthOf_0 hn (nthOf_loop hn hL hnn 6 0 0 rfl (Nat.zero_le _) (by rw [Nat.sub_zero, nthF_eq hL hnn]; exact h))⟩
def lf6 (f : Nat → Nat) : Nat → Nat
  | 0 => 63
  | p + 1 => clr (lf6 f p) (f p)
theorem lf6_lt {f : Nat → Nat} (hf : ∀ p, p < 6 → f p < 6) : ∀ p, p ≤ 6 → lf6 f p < 64
  | 0, _ => Nat.le_of_ble_eq_true rfl
  | p + 1, h => (bits (lf6_lt hf p (by omega)) (hf p (by omega))).2.2.2.1
def bc6 (f : Nat → Nat) (p : Nat) : Nat := pc6 (lf6 f p % 2 ^ f p)
theorem q_num : all6 (fun a b c d e f => decide (((((((0 + pc6 (63 % 2 ^ a)) * 5 + pc6 (clr 63 a % 2 ^ b)) * 4 + pc6 (clr (clr 63 a) b % 2 ^ c)) * 3 + pc6 (clr (clr (clr 63 a) b) c % 2 ^ d)) * 2 + pc6 (clr (clr (clr (clr 63 a) b) c) d % 2 ^ e)) * 1 + pc6 (clr (clr (clr (clr (clr 63 a) b) c) d) e % 2 ^ f)) = rk6 a b c d e f)) = true := by decide +kernel
theorem num_eq {f : Nat → Nat} (hf : PM f) : ((((((0 + bc6 f 0) * 5 + bc6 f 1) * 4 + bc6 f 2) * 3 + bc6 f 3) * 2 + bc6 f 4) * 1 + bc6 f 5) = rk f := of_decide_eq_true (PM.q q_num hf)
set_option maxHeartbeats 4000000 in
theorem ok_numberOf {σ : SG} {k : Nat} (hia : IA k 6) (hk : k < AF.1) {f : Nat → Nat} (hf : PM f) (hv : ∀ p, p < 6 → σ k p = nI (f p)) {post : SG → Int32 → Prop} (h : post σ (nI (rk f))) : IN_X4_numberOf AF σ [.ref 3, .ref k] post := by
  refine ⟨⟨_, _, rfl, rfl, Nat.le_of_ble_eq_true rfl, rc_3⟩, Nat.le_of_ble_eq_true rfl, ?_⟩
  have l0 : f 0 < 6 := hf.1 0 (by decide)
  have l1 : f 1 < 6 := hf.1 1 (by decide)
  have l2 : f 2 < 6 := hf.1 2 (by decide)
  have l3 : f 3 < 6 := hf.1 3 (by decide)
  have l4 : f 4 < 6 := hf.1 4 (by decide)
  have l5 : f 5 < 6 := hf.1 5 (by decide)
  have m0 := bits (L := 63) (by decide) l0
  have m1 := bits m0.2.2.2.1 l1
  have m2 := bits m1.2.2.2.1 l2
  have m3 := bits m2.2.2.2.1 l3
  have m4 := bits m3.2.2.2.1 l4
  have m5 := bits m4.2.2.2.1 l5
  have hA : 0 < AF.1 := Nat.le_of_ble_eq_true rfl
  refine g_X4_numberOf_0 hia hk ?_
  rw [hv 0 (by decide), m0.1, m0.2.1]
  refine ⟨fun τ r => τ = σ ∧ r = nI (bc6 f 0), ok_bitCount hA m0.2.2.2.2 ⟨rfl, rfl⟩, ?_⟩
  rintro t1 r1 ⟨rfl, rfl⟩
  rw [hv 1 (by decide), m1.1, m1.2.1]
  refine ⟨fun τ r => τ = t1 ∧ r = nI (bc6 f 1), ok_bitCount hA m1.2.2.2.2 ⟨rfl, rfl⟩, ?_⟩
  rintro t2 r2 ⟨rfl, rfl⟩
  rw [hv 2 (by decide), m2.1, m2.2.1]
  refine ⟨fun τ r => τ = t2 ∧ r = nI (bc6 f 2), ok_bitCount hA m2.2.2.2.2 ⟨rfl, rfl⟩, ?_⟩
  rintro t3 r3 ⟨rfl, rfl⟩
  rw [hv 3 (by decide), m3.1, m3.2.1]
  refine ⟨fun τ r => τ = t3 ∧ r = nI (bc6 f 3), ok_bitCount hA m3.2.2.2.2 ⟨rfl, rfl⟩, ?_⟩
  rintro t4 r4 ⟨rfl, rfl⟩
  rw [hv 4 (by decide), m4.1, m4.2.1]
  refine ⟨fun τ r => τ = t4 ∧ r = nI (bc6 f 4), ok_bitCount hA m4.2.2.2.2 ⟨rfl, rfl⟩, ?_⟩
  rintro t5 r5 ⟨rfl, rfl⟩
  rw [hv 5 (by decide), m5.1]
  refine ⟨fun τ r => τ = t5 ∧ r = nI (bc6 f 5), ok_bitCount hA m5.2.2.2.2 ⟨rfl, rfl⟩, ?_⟩
  rintro t6 r6 ⟨rfl, rfl⟩
  rw [nI_add, pk_mul, nI_add, pk_mul, nI_add, pk_mul, nI_add, pk_mul, nI_add, pk_mul, nI_add, num_eq hf]
  exact h
