/-! feed, count, image, on -/
theorem and255 (x : Int64) : ∃ n, n < 256 ∧ (x &&& (255 : Int64)).toInt32 = nI n := by
  refine ⟨x.toBitVec.toNat % 256, Nat.mod_lt _ (by decide), ?_⟩
  apply Int32.toBitVec_inj.1
  apply BitVec.eq_of_toNat_eq
  rw [Int64.toBitVec_toInt32, Int64.toBitVec_and, BitVec.signExtend_eq_setWidth_of_le _ (by decide), BitVec.toNat_setWidth, BitVec.toNat_and, pk_tn (by omega)]
  have h : ((255 : Int64).toBitVec).toNat = 2 ^ 8 - 1 := by decide
  rw [h, Nat.and_two_pow_sub_one_eq_mod]
  omega
def bt8 (b : Int64) (i : Nat) : Int32 := ((b >>> ((nI (8 * i)).toInt64 &&& 63)) &&& (255 : Int64)).toInt32
theorem bt8_ok (b : Int64) (i : Nat) : bt8 b i = nI (na (bt8 b i)) ∧ na (bt8 b i) < 256 := by
  obtain ⟨n, h1, h2⟩ := and255 (b >>> ((nI (8 * i)).toInt64 &&& 63))
  have h3 : bt8 b i = nI n := h2
  rw [h3, na_nI (by omega)]
  exact ⟨rfl, h1⟩
theorem tape_I {Z : SG} (hI : KI Z) : na (Z 102 6) ≤ 16 := hI.2.2.1.2.1
theorem tape_C {Z σ : SG} (hI : KI Z) (hC : KC Z σ) : σ 1 1 = nI (na (Z 102 6)) := hC.2.2.2.2.2.2.2.1.1.trans hI.2.2.1.1
theorem tape_M {Z σ : SG} (hI : KI Z) (hM : KM Z σ) : σ 102 6 = nI (na (Z 102 6)) := hM.2.2.2.1.2.1.trans hI.2.2.1.1
/-- n bytes more on the tape -/
def stB (Z : SG) (L n : Nat) (b : Int64) : SG := fun k j => if k = 106 ∧ L ≤ j ∧ j < L + n then bt8 b (j - L) else if k = 102 ∧ j = 6 then nI (L + n) else Z k j
theorem stB_k {Z : SG} {L n k : Nat} {b : Int64} (h : k ≠ 106) (h2 : k ≠ 102) : stB Z L n b k = Z k := funext fun j => by
  unfold stB
  rw [if_neg (fun z => h z.1), if_neg (fun z => h2 z.1)]
theorem stB_2 {Z : SG} {L n j : Nat} {b : Int64} (h : j ≠ 6) : stB Z L n b 102 j = Z 102 j := by
  unfold stB
  rw [if_neg (fun z => absurd z.1 (by decide)), if_neg (fun z => h z.2)]
theorem stB_l {Z : SG} {L n : Nat} {b : Int64} : stB Z L n b 102 6 = nI (L + n) := by
  unfold stB
  rw [if_neg (fun z => absurd z.1 (by decide)), if_pos ⟨rfl, rfl⟩]
theorem stB_n {Z : SG} {L n j : Nat} {b : Int64} (h1 : L ≤ j) (h2 : j < L + n) : stB Z L n b 106 j = bt8 b (j - L) := by
  unfold stB
  rw [if_pos ⟨rfl, h1, h2⟩]
theorem stB_o {Z : SG} {L n j : Nat} {b : Int64} (h1 : ¬ (L ≤ j ∧ j < L + n)) : stB Z L n b 106 j = Z 106 j := by
  unfold stB
  rw [if_neg (fun z => h1 z.2), if_neg (fun z => absurd z.1 (by decide))]
theorem KI.feed {Z : SG} (hI : KI Z) {n : Nat} {b : Int64} (h : na (Z 102 6) + n ≤ 16) : KI (stB Z (na (Z 102 6)) n b) := by
  refine hI.re2 (stB_k (by decide) (by decide)) (stB_k (by decide) (by decide)) (stB_2 (by decide)) (stB_2 (by decide)) ?_ ?_ ?_
  · rw [stB_l, na_nI (by omega)]
    refine ⟨rfl, h, fun j hj => ?_⟩
    by_cases d : na (Z 102 6) ≤ j
    · rw [stB_n d hj]; exact bt8_ok b _
    · rw [stB_o (by omega)]; exact hI.2.2.1.2.2 j (by omega)
  · rw [stB_2 (by decide), stB_k (by decide) (by decide)]; exact hI.2.2.2.2.1
  · rw [stB_2 (by decide), stB_k (by decide) (by decide)]; exact hI.2.2.2.2.2
/-- the tape's object, its bytes: i of n bytes come -/
def fdC (σ τ : SG) (L i : Nat) (b : Int64) : Prop := τ 1 1 = nI (L + i) ∧ (∀ j, τ 2 j = if L ≤ j ∧ j < L + i then bt8 b (j - L) else σ 2 j) ∧ ∀ k, k ≠ 1 → k ≠ 2 → τ k = σ k
theorem cadd {σ : SG} {L n : Nat} {b : Int64} (h : L + n ≤ 16) (hL : σ 1 1 = nI L) {post : SG → Int32 → Prop} (K : ∀ τ, fdC σ τ L n b → post τ 0) : IN_X6_add AF σ [.ref 1, .int (nI n), .long b] post := by
  refine ⟨⟨_, _, rfl, rfl, Nat.le_of_ble_eq_true rfl, rc_1⟩, Nat.le_of_ble_eq_true rfl, g_X6_add_0 ?_⟩
  suffices H : ∀ f i, i + f = n → ∀ τ, fdC σ τ L i b → T_X6_add AF post 3 [.ref 1, .int (nI n), .long b, dum, .int (nI i)] [] τ from
    H n 0 (Nat.zero_add _) σ ⟨hL, fun j => by rw [if_neg (by omega)], fun _ _ _ => rfl⟩
  intro f
  induction f with
  | zero =>
    intro i hi τ hτ
    obtain rfl : i = n := by omega
    apply g_X6_add_3
    exact ⟨by omega, by omega, fun _ => K τ hτ, fun c => absurd c (by omega)⟩
  | succ f ih =>
    intro i hi τ hτ
    obtain ⟨h1, h2, h3⟩ := hτ
    apply g_X6_add_3
    rw [h1]
    refine ⟨by omega, by omega, fun c => absurd c (by omega), fun _ => ⟨fun c => absurd c (nI_ge (by omega) (by decide)), fun _ => ⟨L + i, rfl, by omega, fun s8 e8 s9 e9 => ih (i + 1) (by omega) s9 ?_⟩⟩⟩
    rw [show s8 1 1 = nI (L + i) by rw [e8, up_k (by decide)]; exact h1, nI_add] at e9
    refine ⟨by rw [e9, up_s, Nat.add_assoc], fun j => ?_, fun k a c => by rw [e9, up_k a, e8, up_k c]; exact h3 k a c⟩
    rw [e9, up_k (by decide), e8]
    by_cases d : j = L + i
    · rw [d, up_s, if_pos ⟨by omega, by omega⟩, Nat.add_sub_cancel_left]; rfl
    · rw [up_j d, h2 j]
      by_cases e : L ≤ j ∧ j < L + i
      · rw [if_pos e, if_pos ⟨e.1, by omega⟩]
      · rw [if_neg e, if_neg (by omega)]
def fdM (σ τ : SG) (L i : Nat) (b : Int64) : Prop := τ 102 6 = nI (L + i) ∧ (∀ j, τ 106 j = if L ≤ j ∧ j < L + i then bt8 b (j - L) else σ 106 j) ∧ (∀ j, j ≠ 6 → τ 102 j = σ 102 j) ∧ ∀ k, k ≠ 102 → k ≠ 106 → τ k = σ k
theorem mfeed {σ : SG} {L n : Nat} {b : Int64} (h : L + n ≤ 16) {post : SG → Int32 → Prop} (K : ∀ τ, fdM σ τ L n b → post τ (nI (L + n))) :
    ∀ f i, i + f = n → ∀ τ, fdM σ τ L i b → T_X12_feed AF post 39 [.ref 102, .int (nI n), .long b, dum, .int (nI i)] [] τ := by
  intro f
  induction f with
  | zero =>
    intro i hi τ hτ
    obtain rfl : i = n := by omega
    apply g_X12_feed_39
    rw [hτ.1]
    exact ⟨by omega, by omega, fun _ => K τ hτ, fun c => absurd c (by omega)⟩
  | succ f ih =>
    intro i hi τ hτ
    obtain ⟨h1, h2, h3, h4⟩ := hτ
    apply g_X12_feed_39
    rw [h1]
    refine ⟨by omega, by omega, fun c => absurd c (by omega), fun _ => ⟨L + i, rfl, by omega, fun s8 e8 s9 e9 => ih (i + 1) (by omega) s9 ?_⟩⟩
    rw [show s8 102 6 = nI (L + i) by rw [e8, up_k (by decide)]; exact h1, nI_add] at e9
    refine ⟨by rw [e9, up_s, Nat.add_assoc], fun j => ?_, fun j hj => by rw [e9, up_j hj, e8, up_k (by decide)]; exact h3 j hj, fun k a c => by rw [e9, up_k a, e8, up_k c]; exact h4 k a c⟩
    rw [e9, up_k (by decide), e8]
    by_cases d : j = L + i
    · rw [d, up_s, if_pos ⟨by omega, by omega⟩, Nat.add_sub_cancel_left]; rfl
    · rw [up_j d, h2 j]
      by_cases e : L ≤ j ∧ j < L + i
      · rw [if_pos e, if_pos ⟨e.1, by omega⟩]
      · rw [if_neg e, if_neg (by omega)]
theorem J_feed {Z σ : SG} (hI : KI Z) (hC : KC Z σ) (hM : KM Z σ) (a : Int32) (b : Int64) : ∃ p, IN_X11_feed AF σ [.ref 0, .int a, .long b] p ∧ ∀ t r, p t r → ∃ q, IN_X12_feed AF t [.ref 102, .int a, .long b] q ∧ ∀ t' r', q t' r' → r = r' ∧ KK t' := by
  have hS := hI.1
  have h16 := tape_I hI
  by_cases c0 : nI 1 ≤ a
  · by_cases c1 : a ≤ nI 8
    · obtain ⟨n, hn1, hn2, ea⟩ := arg_pos (by decide) (by decide) c0 c1
      subst ea
      by_cases c2 : na (Z 102 6) + n ≤ 16
      · refine joint (Z' := stB Z (na (Z 102 6)) n b) (x := nI (na (Z 102 6) + n)) (C := fun s p => IN_X11_feed AF s [.ref 0, .int (nI n), .long b] p) (M := fun s p => IN_X12_feed AF s [.ref 102, .int (nI n), .long b] p) (hI.feed c2) hM ?_ (fun t hM => ?_)
        · refine ⟨⟨_, _, rfl, rfl, Nat.le_of_ble_eq_true rfl, rc_0⟩, Nat.le_of_ble_eq_true rfl, g_X11_feed_0 ?_⟩
          rw [tape_C hI hC]
          refine ⟨fun _ => ⟨fun _ => ⟨fun _ => ?_, fun c => absurd (by rw [nI_add]; exact nI_le c2 (by decide)) c⟩, fun c => absurd c1 c⟩, fun c => absurd c0 c⟩
          refine ⟨fun τ x => x = 0 → fdC σ τ (na (Z 102 6)) n b, cadd c2 (tape_C hI hC) (fun τ h _ => h), fun t ht => ?_⟩
          obtain ⟨q1, q2, q3⟩ := ht rfl
          refine ⟨q1, hC.re2 hI (stB_k (by decide) (by decide)) (stB_k (by decide) (by decide)) (stB_k (by decide) (by decide)) (stB_k (by decide) (by decide)) (stB_2 (by decide)) (stB_2 (by decide)) (fun k _ a b _ _ _ _ => q3 k a b) ⟨by rw [q1, stB_l], fun i hi => ?_⟩ ?_ ?_, fun k hk => q3 k (by omega) (by omega)⟩
          · rw [stB_l, na_nI (by omega)] at hi
            rw [q2 i]
            by_cases d : na (Z 102 6) ≤ i ∧ i < na (Z 102 6) + n
            · rw [if_pos d, stB_n d.1 d.2]
            · rw [if_neg d, stB_o d]; exact hC.2.2.2.2.2.2.2.1.2 i (by omega)
          · unfold KV; rw [stB_2 (by decide), stB_k (by decide) (by decide), q3 83 (by decide) (by decide), q3 84 (by decide) (by decide)]; exact hC.2.2.2.2.2.2.2.2.1
          · unfold KL; rw [stB_2 (by decide), stB_k (by decide) (by decide), q3 85 (by decide) (by decide), q3 86 (by decide) (by decide)]; exact hC.2.2.2.2.2.2.2.2.2.1
        · refine ⟨⟨_, _, rfl, rfl, Nat.le_of_ble_eq_true rfl, rc_102⟩, Nat.le_of_ble_eq_true rfl, g_X12_feed_0 ?_⟩
          rw [tape_M hI hM]
          refine ⟨fun _ => ⟨fun c => absurd c (i_nlt c1), fun _ => ⟨fun _ => ?_, fun c => absurd (by rw [nI_add]; exact nI_le c2 (by decide)) c⟩⟩, fun c => absurd c0 c⟩
          refine mfeed (σ := t) (L := na (Z 102 6)) c2 (fun τ h => ?_) n 0 (Nat.zero_add _) t ⟨tape_M hI hM, fun j => by rw [if_neg (by omega)], fun _ _ => rfl, fun _ _ _ => rfl⟩
          obtain ⟨q1, q2, q3, q4⟩ := h
          refine ⟨rfl, hM.re2 (stB_k (by decide) (by decide)) (stB_k (by decide) (by decide)) (stB_k (by decide) (by decide)) (stB_k (by decide) (by decide)) (stB_2 (by decide)) (stB_2 (by decide)) (fun k hk => q4 k (by omega) (by omega)) (q3 3 (by decide)) (q3 14 (by decide)) (by rw [q1, stB_l]) ?_ ?_ (fun j hj => ?_) (fun j hj => ?_) (fun j hj => ?_), fun k hk => q4 k (by omega) (by omega)⟩
          · rw [q3 24 (by decide), stB_2 (by decide)]; exact hM.2.2.2.1.2.2.2.1
          · rw [q3 26 (by decide), stB_2 (by decide)]; exact hM.2.2.2.1.2.2.2.2
          · rw [q2 j]
            by_cases d : na (Z 102 6) ≤ j ∧ j < na (Z 102 6) + n
            · rw [if_pos d, stB_n d.1 d.2]
            · rw [if_neg d, stB_o d]; exact hM.2.2.2.2.1 j hj
          · rw [q4 118 (by decide) (by decide), stB_k (by decide) (by decide)]; exact hM.2.2.2.2.2.2.1 j hj
          · rw [q4 119 (by decide) (by decide), stB_k (by decide) (by decide)]; exact hM.2.2.2.2.2.2.2 j hj
      · exact joint (Z' := rf Z 6) (x := -6) (C := fun s p => IN_X11_feed AF s [.ref 0, .int (nI n), .long b] p) (M := fun s p => IN_X12_feed AF s [.ref 102, .int (nI n), .long b] p) (hI.rf 6) hM ⟨⟨_, _, rfl, rfl, Nat.le_of_ble_eq_true rfl, rc_0⟩, Nat.le_of_ble_eq_true rfl, g_X11_feed_0 (by rw [tape_C hI hC]; exact ⟨fun _ => ⟨fun _ => ⟨fun c => absurd c (by rw [nI_add]; exact nI_ge (by omega) (by omega)), fun _ => DC_rf hC hI (by decide) (by decide)⟩, fun c => absurd c1 c⟩, fun c => absurd c0 c⟩)⟩ (fun t hM => ⟨⟨_, _, rfl, rfl, Nat.le_of_ble_eq_true rfl, rc_102⟩, Nat.le_of_ble_eq_true rfl, g_X12_feed_0 (by rw [tape_M hI hM]; exact ⟨fun _ => ⟨fun c => absurd c (i_nlt c1), fun _ => ⟨fun c => absurd c (by rw [nI_add]; exact nI_ge (by omega) (by omega)), fun _ => DM_rf hM (by decide)⟩⟩, fun c => absurd c0 c⟩)⟩)
    · exact joint (Z' := rf Z 6) (x := -6) (C := fun s p => IN_X11_feed AF s [.ref 0, .int a, .long b] p) (M := fun s p => IN_X12_feed AF s [.ref 102, .int a, .long b] p) (hI.rf 6) hM ⟨⟨_, _, rfl, rfl, Nat.le_of_ble_eq_true rfl, rc_0⟩, Nat.le_of_ble_eq_true rfl, g_X11_feed_0 (by rw [tape_C hI hC]; exact ⟨fun _ => ⟨fun c => absurd c c1, fun _ => DC_rf hC hI (by decide) (by decide)⟩, fun c => absurd c0 c⟩)⟩ (fun t hM => ⟨⟨_, _, rfl, rfl, Nat.le_of_ble_eq_true rfl, rc_102⟩, Nat.le_of_ble_eq_true rfl, g_X12_feed_0 (by rw [tape_M hI hM]; exact ⟨fun _ => ⟨fun _ => DM_rf hM (by decide), fun c => absurd (i_lt c1) c⟩, fun c => absurd c0 c⟩)⟩)
  · exact joint (Z' := rf Z 4) (x := -4) (C := fun s p => IN_X11_feed AF s [.ref 0, .int a, .long b] p) (M := fun s p => IN_X12_feed AF s [.ref 102, .int a, .long b] p) (hI.rf 4) hM ⟨⟨_, _, rfl, rfl, Nat.le_of_ble_eq_true rfl, rc_0⟩, Nat.le_of_ble_eq_true rfl, g_X11_feed_0 (by rw [tape_C hI hC]; exact ⟨fun c => absurd c c0, fun _ => DC_rf hC hI (by decide) (by decide)⟩)⟩ (fun t hM => ⟨⟨_, _, rfl, rfl, Nat.le_of_ble_eq_true rfl, rc_102⟩, Nat.le_of_ble_eq_true rfl, g_X12_feed_0 (by rw [tape_M hI hM]; exact ⟨fun c => absurd c c0, fun _ => DM_rf hM (by decide)⟩)⟩)
def cnP (o : Nat) : Nat → Nat
  | 0 => 0
  | p + 1 => cnP o p + if P o p = p then 1 else 0
theorem cn_all : (List.range 720).all (fun o => decide (pc6 (ow o) = cnP o 6)) = true := by decide +kernel
theorem cn_eq {o : Nat} (h : o < 720) : pc6 (ow o) = cnP o 6 := of_decide_eq_true (List.all_eq_true.mp cn_all o (List.mem_range.mpr h))
def ctX (Z : SG) (a : Int32) : Int32 := if a = nI 0 then Z 104 0 else if a = nI 1 then Z 104 1 else if a = nI 2 then Z 104 2 else if a = nI 3 then nI (cnP (cur (Z 104)) 6) else if a = nI 4 then Z 102 24 else if a = nI 5 then Z 102 26 else if a = nI 6 then Z 102 6 else if a ≤ nI 10 then -9 else if nI 17 ≤ a then -9 else Z 103 (na a - 10)
theorem ctX_0 {Z : SG} {a : Int32} (h : a = nI 0) : ctX Z a = Z 104 0 := by
  rw [h]
  unfold ctX
  rw [if_pos rfl]
theorem ctX_1 {Z : SG} {a : Int32} (h : a = nI 1) : ctX Z a = Z 104 1 := by
  rw [h]
  unfold ctX
  rw [if_neg (by decide +kernel), if_pos rfl]
theorem ctX_2 {Z : SG} {a : Int32} (h : a = nI 2) : ctX Z a = Z 104 2 := by
  rw [h]
  unfold ctX
  rw [if_neg (by decide +kernel), if_neg (by decide +kernel), if_pos rfl]
theorem ctX_3 {Z : SG} {a : Int32} (h : a = nI 3) : ctX Z a = nI (cnP (cur (Z 104)) 6) := by
  rw [h]
  unfold ctX
  rw [if_neg (by decide +kernel), if_neg (by decide +kernel), if_neg (by decide +kernel), if_pos rfl]
theorem ctX_4 {Z : SG} {a : Int32} (h : a = nI 4) : ctX Z a = Z 102 24 := by
  rw [h]
  unfold ctX
  rw [if_neg (by decide +kernel), if_neg (by decide +kernel), if_neg (by decide +kernel), if_neg (by decide +kernel), if_pos rfl]
theorem ctX_5 {Z : SG} {a : Int32} (h : a = nI 5) : ctX Z a = Z 102 26 := by
  rw [h]
  unfold ctX
  rw [if_neg (by decide +kernel), if_neg (by decide +kernel), if_neg (by decide +kernel), if_neg (by decide +kernel), if_neg (by decide +kernel), if_pos rfl]
theorem ctX_6 {Z : SG} {a : Int32} (h : a = nI 6) : ctX Z a = Z 102 6 := by
  rw [h]
  unfold ctX
  rw [if_neg (by decide +kernel), if_neg (by decide +kernel), if_neg (by decide +kernel), if_neg (by decide +kernel), if_neg (by decide +kernel), if_neg (by decide +kernel), if_pos rfl]
theorem ctX_no {Z : SG} {a : Int32} (h : ¬ a = nI 0 ∧ ¬ a = nI 1 ∧ ¬ a = nI 2 ∧ ¬ a = nI 3 ∧ ¬ a = nI 4 ∧ ¬ a = nI 5 ∧ ¬ a = nI 6) : ctX Z a = if a ≤ nI 10 then -9 else if nI 17 ≤ a then -9 else Z 103 (na a - 10) := by
  obtain ⟨h0, h1, h2, h3, h4, h5, h6⟩ := h
  unfold ctX
  rw [if_neg h0, if_neg h1, if_neg h2, if_neg h3, if_neg h4, if_neg h5, if_neg h6]
theorem ctX_hi {Z : SG} {a : Int32} (h : ¬ a ≤ nI 10) : ctX Z a = if nI 17 ≤ a then -9 else Z 103 (na a - 10) := by
  have n : ∀ k, k ≤ 10 → ¬ a = nI k := fun k hk z => h (by rw [z]; exact nI_le hk (by decide))
  rw [ctX_no ⟨n 0 (by decide), n 1 (by decide), n 2 (by decide), n 3 (by decide), n 4 (by decide), n 5 (by decide), n 6 (by decide)⟩, if_neg h]
theorem lt17 {a : Int32} : nI 16 < a ↔ nI 17 ≤ a := by
  rw [Int32.lt_iff_toInt_lt, Int32.le_iff_toInt_le, nI_toInt (by decide), nI_toInt (by decide)]
  omega
theorem arg_ref {a : Int32} (h1 : ¬ a ≤ nI 10) (h2 : ¬ nI 17 ≤ a) : ∃ j, 1 ≤ j ∧ j < 7 ∧ a - nI 10 = nI j ∧ na a - 10 = j := by
  obtain ⟨j, j1, j2, e⟩ := arg_pos (v := a) (lo := 11) (n := 16) (by decide) (by decide) (by rw [Int32.le_iff_toInt_le] at h1 ⊢; rw [nI_toInt (by decide)] at h1 ⊢; omega) (by rw [Int32.le_iff_toInt_le] at h2 ⊢; rw [nI_toInt (by decide)] at h2 ⊢; omega)
  subst e
  rw [na_nI (by omega)]
  exact ⟨j - 10, by omega, by omega, nI_subN (by omega), rfl⟩
theorem mcount {S : Nat → Int32} (hS : IS S) {σ : SG} (hF : FS S σ) {w : Int32} {post : SG → Int32 → Prop} (K : post σ (nI (cnP (cur S) 6))) :
    ∀ f p, p + f = 6 → T_X12_count AF post 77 [.ref 102, .int w, .int (nI (cnP (cur S) p)), .int (nI p)] [] σ := by
  intro f
  induction f with
  | zero =>
    intro p hp
    obtain rfl : p = 6 := by omega
    apply g_X12_count_77
    exact ⟨by decide, fun _ => K, fun c => absurd c (by decide)⟩
  | succ f ih =>
    intro p hp
    have hp6 : p < 6 := by omega
    have n := ih (p + 1) (by omega)
    rw [cnP] at n
    have l := (P_ok (cur_lt hS)).1.1 p hp6
    apply g_X12_count_77
    rw [hF (5 + p) (by omega), hS.2.2.2.2.2.1.1 p hp6, ← cur_P hS hp6, nI_eq (by omega) (by omega)]
    refine ⟨by omega, fun c => absurd c (by omega), fun _ => ⟨by omega, fun c => ?_, fun c => ?_⟩⟩
    · rw [if_neg c] at n; exact n
    · rw [if_pos c] at n; exact n
theorem J_count {Z σ : SG} (hI : KI Z) (hC : KC Z σ) (hM : KM Z σ) (a : Int32) : ∃ p, IN_X11_count AF σ [.ref 0, .int a] p ∧ ∀ t r, p t r → ∃ q, IN_X12_count AF t [.ref 102, .int a] q ∧ ∀ t' r', q t' r' → r = r' ∧ KK t' := by
  have hS := hI.1
  refine joint (Z' := Z) (x := ctX Z a) (C := fun s p => IN_X11_count AF s [.ref 0, .int a] p) (M := fun s p => IN_X12_count AF s [.ref 102, .int a] p) hI hM ?_ (fun t hM => ?_)
  · refine ⟨⟨_, _, rfl, rfl, Nat.le_of_ble_eq_true rfl, rc_0⟩, Nat.le_of_ble_eq_true rfl, g_X11_count_0 ?_⟩
    refine ?_
    refine ⟨fun c => ⟨?_, hC, fun _ _ => rfl⟩, fun c => ⟨?_, hC, fun _ _ => rfl⟩, fun c => ⟨?_, hC, fun _ _ => rfl⟩, fun c => ⟨cur (Z 104), hC.2.2.2.2.2.1, cur_lt hS, ?_⟩, fun c => ⟨?_, hC, fun _ _ => rfl⟩, fun c => ⟨?_, hC, fun _ _ => rfl⟩, fun c => ⟨?_, hC, fun _ _ => rfl⟩, fun c => ?_⟩
    · rw [ctX_0 c]; exact hC.2.1.1
    · rw [ctX_1 c]; exact hC.2.2.1.1
    · rw [ctX_2 c]; exact hC.2.2.2.2.1.1
    · rw [hC.1.2 _ (cur_lt hS)]
      refine ⟨fun τ x => τ = σ ∧ x = nI (pc6 (ow (cur (Z 104)))), ok_bitCount (Nat.le_of_ble_eq_true rfl) (ow_lt (cur_lt hS)) ⟨rfl, rfl⟩, ?_⟩
      rintro t x ⟨rfl, rfl⟩
      exact ⟨by rw [ctX_3 c, cn_eq (cur_lt hS)], hC, fun _ _ => rfl⟩
    · rw [ctX_4 c]; exact hC.2.2.2.2.2.2.2.2.1.1
    · rw [ctX_5 c]; exact hC.2.2.2.2.2.2.2.2.2.1.1
    · rw [ctX_6 c]; exact hC.2.2.2.2.2.2.2.1.1
    · rw [lt17]
      refine ⟨fun d => ⟨by rw [ctX_no c, if_pos d], hC, fun _ _ => rfl⟩, fun d => ⟨fun e => ⟨by rw [ctX_hi d, if_pos e], hC, fun _ _ => rfl⟩, fun e => ?_⟩⟩
      obtain ⟨j, j1, j2, j3, j4⟩ := arg_ref d e
      refine ⟨j, j3, j2, ?_, hC, fun _ _ => rfl⟩
      rw [ctX_hi d, if_neg e, j4]
      exact hC.2.2.2.2.2.2.2.2.2.2.2 j j1 (by omega)
  · refine ⟨⟨_, _, rfl, rfl, Nat.le_of_ble_eq_true rfl, rc_102⟩, Nat.le_of_ble_eq_true rfl, g_X12_count_0 ?_⟩
    refine ?_
    have low : (( ¬ a = nI 0 ∧ ¬ a = nI 1 ∧ ¬ a = nI 2 ∧ ¬ a = nI 3 ∧ ¬ a = nI 4 ∧ ¬ a = nI 5 ∧ ¬ a = nI 6) → ctX Z a = -9) → (a = nI 0 → (∃ j3 : Nat, a = nI j3 ∧ j3 < 197 ∧ DM Z t (ctX Z a) t (t 104 j3))) ∧ (a = nI 1 → (∃ j6 : Nat, a = nI j6 ∧ j6 < 197 ∧ DM Z t (ctX Z a) t (t 104 j6))) ∧ (a = nI 2 → (∃ j9 : Nat, a = nI j9 ∧ j9 < 197 ∧ DM Z t (ctX Z a) t (t 104 j9))) ∧ (a = nI 3 → T_X12_count AF (DM Z t (ctX Z a)) 77 [.ref 102, .int a, .int (nI 0), .int (nI 0)] [] t) ∧ (a = nI 4 → DM Z t (ctX Z a) t (t 102 24)) ∧ (a = nI 5 → DM Z t (ctX Z a) t (t 102 26)) ∧ (a = nI 6 → DM Z t (ctX Z a) t (t 102 6)) ∧ ((¬ a = nI 0 ∧ ¬ a = nI 1 ∧ ¬ a = nI 2 ∧ ¬ a = nI 3 ∧ ¬ a = nI 4 ∧ ¬ a = nI 5 ∧ ¬ a = nI 6) → DM Z t (ctX Z a) t (-9 : Int32)) := fun h9 => by
      refine ⟨fun c => ⟨0, c, by decide, ?_, hM, fun _ _ => rfl⟩, fun c => ⟨1, c, by decide, ?_, hM, fun _ _ => rfl⟩, fun c => ⟨2, c, by decide, ?_, hM, fun _ _ => rfl⟩, fun c => mcount hS hM.1 ⟨by rw [ctX_3 c], hM, fun _ _ => rfl⟩ 6 0 rfl, fun c => ⟨?_, hM, fun _ _ => rfl⟩, fun c => ⟨?_, hM, fun _ _ => rfl⟩, fun c => ⟨?_, hM, fun _ _ => rfl⟩, fun c => ⟨(h9 c).symm, hM, fun _ _ => rfl⟩⟩
      · rw [ctX_0 c]; exact hM.1 0 (by decide)
      · rw [ctX_1 c]; exact hM.1 1 (by decide)
      · rw [ctX_2 c]; exact hM.1 2 (by decide)
      · rw [ctX_4 c]; exact hM.2.2.2.1.2.2.2.1
      · rw [ctX_5 c]; exact hM.2.2.2.1.2.2.2.2
      · rw [ctX_6 c]; exact hM.2.2.2.1.2.1
    refine ⟨fun d => low (fun c => by rw [ctX_no c, if_pos d]), fun d => ⟨fun e => low (fun c => by rw [ctX_hi d, if_pos e]), fun e => ?_⟩⟩
    obtain ⟨j, j1, j2, j3, j4⟩ := arg_ref d e
    refine ⟨j, j3, j2, ?_, hM, fun _ _ => rfl⟩
    rw [ctX_hi d, if_neg e, j4]
    exact hM.2.2.1 j (by omega)
