/-! leastTerms; five, middle, need -/
theorem ok_least {σ : SG} {a b : Nat} (ha : a < 2 ^ 31) (hb : b < 2 ^ 31) {pt : Int32} {post : SG → Int32 → Prop} (K0 : b = 0 → post σ pt) (K : 0 < b → post σ (if pt = 0 then nI (a / Nat.gcd a b) else nI (b / Nat.gcd a b))) : IN_X11_leastTerms AF σ [.int (nI a), .int (nI b), .int pt] post := by
  refine ⟨rfl, Nat.le_of_ble_eq_true rfl, g_X11_leastTerms_0 ?_⟩
  suffices H : ∀ dv, dv ≤ b → (0 < b → Nat.gcd a b ≤ dv) → T_X11_leastTerms AF post 2 [.int (nI a), .int (nI b), .int pt, .int (nI dv)] [] σ from
    H b (Nat.le_refl _) (fun h => Nat.le_of_dvd h (Nat.gcd_dvd_right a b))
  intro dv
  induction dv with
  | zero =>
    intro h1 h2
    have hb0 : b = 0 := by
      refine Nat.eq_zero_of_not_pos fun z => ?_
      have := Nat.gcd_pos_of_pos_right a z
      have := h2 z
      omega
    apply g_X11_leastTerms_2
    exact ⟨by decide, fun _ => ⟨by decide, fun c => absurd c (by decide), fun _ => K0 hb0⟩, fun c => absurd c (by decide)⟩
  | succ d ih =>
    intro h1 h2
    have hp : 0 < b := by omega
    have g0 := Nat.gcd_pos_of_pos_right a hp
    have g1 := h2 hp
    have k := K hp
    have fin : Nat.gcd a b = d + 1 → ((1 ≤ d + 1 → ((¬ pt = 0 → (b < 2 ^ 31 ∧ 0 < d + 1 ∧ d + 1 < 2 ^ 31 ∧ post σ (nI (b / (d + 1))))) ∧ (pt = 0 → (a < 2 ^ 31 ∧ 0 < d + 1 ∧ d + 1 < 2 ^ 31 ∧ post σ (nI (a / (d + 1))))))) ∧ (d + 1 < 1 → post σ pt)) := fun e => by
      rw [e] at k
      refine ⟨fun _ => ⟨fun c => ⟨hb, by omega, by omega, ?_⟩, fun c => ⟨ha, by omega, by omega, ?_⟩⟩, fun c => absurd c (by omega)⟩
      · rw [if_neg c] at k; exact k
      · rw [if_pos c] at k; exact k
    have next : ¬ Nat.gcd a b = d + 1 → T_X11_leastTerms AF post 2 [.int (nI a), .int (nI b), .int pt, .int ((nI (d + 1)) + (-1))] [] σ := fun e => by
      rw [sb_m1 (by omega), Nat.add_sub_cancel]
      exact ih (by omega) (fun _ => by omega)
    apply g_X11_leastTerms_2
    refine ⟨by omega, fun c => ⟨by omega, fin (by omega)⟩, fun c => ⟨ha, by omega, by omega, Nat.lt_of_le_of_lt (Nat.mod_le _ _) ha, fun m => next fun e => ?_, fun m => ⟨hb, by omega, by omega, Nat.lt_of_le_of_lt (Nat.mod_le _ _) hb, fun m2 => ⟨by omega, fin ?_⟩, fun m2 => next fun e => ?_⟩⟩⟩
    · refine m ?_
      rw [← e]
      exact Nat.mod_eq_zero_of_dvd (Nat.gcd_dvd_left a b)
    · have := Nat.le_of_dvd g0 (Nat.dvd_gcd (Nat.dvd_of_mod_eq_zero m) (Nat.dvd_of_mod_eq_zero m2))
      omega
    · refine m2 ?_
      rw [← e]
      exact Nat.mod_eq_zero_of_dvd (Nat.gcd_dvd_right a b)
theorem gcd3 (v : Nat) : Nat.gcd v 3 = if v % 3 = 0 then 3 else 1 := by
  rw [Nat.gcd_comm, Nat.gcd_rec]
  split
  · rename_i h; rw [h]; rfl
  · have : v % 3 = 1 ∨ v % 3 = 2 := by omega
    rcases this with h | h <;> rw [h] <;> rfl
/-- the times that are held, and the same sorted -/
theorem five_I {Z : SG} (hI : KI Z) : na (Z 102 24) ≤ 5 := hI.2.2.2.2.1.2.1
theorem five_C {Z σ : SG} (hI : KI Z) (hC : KC Z σ) : σ 83 0 = nI (na (Z 102 24)) ∧ ∀ i, i < na (Z 102 24) → σ 84 i = nI ((srt (Z 118) (na (Z 102 24))).getD i 0) := ⟨hC.2.2.2.2.2.2.2.2.1.1.trans hI.2.2.2.2.1.1, hC.2.2.2.2.2.2.2.2.1.2⟩
theorem five_M {Z σ : SG} (hI : KI Z) (hM : KM Z σ) : σ 102 24 = nI (na (Z 102 24)) := hM.2.2.2.1.2.2.2.1.trans hI.2.2.2.2.1.1
def stV (Z : SG) (n : Nat) (v : Int32) : SG := up (up Z 118 n v) 102 24 (nI (n + 1))
theorem stV_k {Z : SG} {n k : Nat} {v : Int32} (h : k ≠ 118) (h2 : k ≠ 102) : stV Z n v k = Z k := by unfold stV; rw [up_k h2, up_k h]
theorem stV_2 {Z : SG} {n j : Nat} {v : Int32} (h : j ≠ 24) : stV Z n v 102 j = Z 102 j := by unfold stV; rw [up_j h, up_k (by decide)]
theorem stV_l {Z : SG} {n : Nat} {v : Int32} : stV Z n v 102 24 = nI (n + 1) := up_s
theorem stV_n {Z : SG} {n : Nat} {v : Int32} : stV Z n v 118 n = v := by unfold stV; rw [up_k (by decide), up_s]
theorem stV_o {Z : SG} {n j : Nat} {v : Int32} (h : j ≠ n) : stV Z n v 118 j = Z 118 j := by unfold stV; rw [up_k (by decide), up_j h]
theorem KI.five {Z : SG} (hI : KI Z) {n w : Nat} (hn : na (Z 102 24) = n) (h5 : n < 5) (h1 : 1 ≤ w) (h2 : w ≤ 9999) : KI (stV Z n (nI w)) := by
  refine hI.re2 (stV_k (by decide) (by decide)) (stV_k (by decide) (by decide)) (stV_2 (by decide)) (stV_2 (by decide)) ?_ ?_ ?_
  · rw [stV_2 (by decide), stV_k (by decide) (by decide)]; exact hI.2.2.1
  · rw [stV_l, na_nI (by omega)]
    refine ⟨rfl, by omega, fun j hj => ?_⟩
    by_cases e : j = n
    · rw [e, stV_n, na_nI (by omega)]; exact ⟨rfl, h1, h2⟩
    · rw [stV_o e]; exact hI.2.2.2.2.1.2.2 j (by omega)
  · rw [stV_2 (by decide), stV_k (by decide) (by decide)]; exact hI.2.2.2.2.2
theorem J_five {Z σ : SG} (hI : KI Z) (hC : KC Z σ) (hM : KM Z σ) (a : Int32) : ∃ p, IN_X11_five AF σ [.ref 0, .int a] p ∧ ∀ t r, p t r → ∃ q, IN_X12_five AF t [.ref 102, .int a] q ∧ ∀ t' r', q t' r' → r = r' ∧ KK t' := by
  have hS := hI.1
  have h5 := five_I hI
  have hv := five_C hI hC
  by_cases c0 : nI 1 ≤ a
  · by_cases c1 : a ≤ nI 9999
    · by_cases c2 : na (Z 102 24) < 5
      · obtain ⟨w, hw1, hw2, ea⟩ := arg_pos (by decide) (by decide) c0 c1
        refine joint (Z' := stV Z (na (Z 102 24)) (nI w)) (x := nI (na (Z 102 24) + 1)) (C := fun s p => IN_X11_five AF s [.ref 0, .int a] p) (M := fun s p => IN_X12_five AF s [.ref 102, .int a] p) (hI.five rfl c2 hw1 hw2) hM ?_ (fun t hM => ?_)
        · refine ⟨⟨_, _, rfl, rfl, Nat.le_of_ble_eq_true rfl, rc_0⟩, Nat.le_of_ble_eq_true rfl, g_X11_five_0 ?_⟩
          rw [hv.1]
          refine ⟨fun _ => ⟨fun _ => ⟨fun _ => ?_, fun c => absurd (nI_lt c2 (by decide)) c⟩, fun c => absurd c1 c⟩, fun c => absurd c0 c⟩
          subst ea
          refine ⟨fun τ x => x = 0 → τ 83 0 = nI (na (Z 102 24) + 1) ∧ (∀ i, i < na (Z 102 24) + 1 → τ 84 i = nI ((ins w (srt (Z 118) (na (Z 102 24)))).getD i 0)) ∧ ∀ k, k ≠ 83 → k ≠ 84 → τ k = σ k, ok_addV (l := srt (Z 118) (na (Z 102 24))) (by rw [srt_len]; exact c2) (srt_pw _ _) (fun i hi => ?_) (by omega) (by rw [srt_len]; exact hv.1) (by rw [srt_len]; exact hv.2) (by rw [srt_len]; exact fun τ a b c _ => ⟨a, b, c⟩), fun t ht => ?_⟩
          · rw [srt_len] at hi
            have := srt_le (F := Z 118) (M := 9999) (fun j hj => (hI.2.2.2.2.1.2.2 j hj).2.2) hi
            omega
          obtain ⟨q1, q2, q3⟩ := ht rfl
          refine ⟨q1, hC.re2 hI (stV_k (by decide) (by decide)) (stV_k (by decide) (by decide)) (stV_k (by decide) (by decide)) (stV_k (by decide) (by decide)) (stV_2 (by decide)) (stV_2 (by decide)) (fun k _ _ _ a b _ _ => q3 k a b) ?_ ⟨by rw [stV_l]; exact q1, fun i hi => ?_⟩ ?_, fun k hk => q3 k (by omega) (by omega)⟩
          · unfold KT; rw [stV_2 (by decide), stV_k (by decide) (by decide), q3 1 (by decide) (by decide), q3 2 (by decide) (by decide)]; exact hC.2.2.2.2.2.2.2.1
          · rw [stV_l, na_nI (by omega)] at hi ⊢
            rw [q2 i hi, srt, stV_n, na_nI (by omega), srt_cong (F := stV Z (na (Z 102 24)) (nI w) 118) (G := Z 118) (fun j hj => stV_o (by omega))]
          · unfold KL; rw [stV_2 (by decide), stV_k (by decide) (by decide), q3 85 (by decide) (by decide), q3 86 (by decide) (by decide)]; exact hC.2.2.2.2.2.2.2.2.2.1
        · refine ⟨⟨_, _, rfl, rfl, Nat.le_of_ble_eq_true rfl, rc_102⟩, Nat.le_of_ble_eq_true rfl, g_X12_five_0 ?_⟩
          rw [five_M hI hM]
          refine ⟨fun _ => ⟨fun _ => ⟨fun _ => ?_, fun c => absurd c (fun z => by rw [nI_eq (by omega) (by decide)] at z; omega)⟩, fun c => absurd c1 c⟩, fun c => absurd c0 c⟩
          subst ea
          refine ⟨na (Z 102 24), rfl, c2, fun s9 e9 s10 e10 => ?_⟩
          subst e9
          rw [up_k (by decide), five_M hI hM, nI_add] at e10
          subst e10
          refine ⟨up_s, hM.re2 (stV_k (by decide) (by decide)) (stV_k (by decide) (by decide)) (stV_k (by decide) (by decide)) (stV_k (by decide) (by decide)) (stV_2 (by decide)) (stV_2 (by decide)) (fun k hk => by rw [up_k (by omega), up_k (by omega)]) (by rw [up_j (by decide), up_k (by decide)]) (by rw [up_j (by decide), up_k (by decide)]) ?_ ?_ ?_ (fun j hj => ?_) (fun j hj => ?_) (fun j hj => ?_), fun k hk => by rw [up_k (by omega), up_k (by omega)]⟩
          · rw [up_j (by decide), up_k (by decide), stV_2 (by decide)]; exact hM.2.2.2.1.2.1
          · rw [up_s, stV_l]
          · rw [up_j (by decide), up_k (by decide), stV_2 (by decide)]; exact hM.2.2.2.1.2.2.2.2
          · rw [up_k (by decide), up_k (by decide), stV_k (by decide) (by decide)]; exact hM.2.2.2.2.1 j hj
          · rw [up_k (by decide)]
            by_cases e : j = na (Z 102 24)
            · rw [e, up_s, stV_n]
            · rw [up_j e, stV_o e]; exact hM.2.2.2.2.2.2.1 j hj
          · rw [up_k (by decide), up_k (by decide), stV_k (by decide) (by decide)]; exact hM.2.2.2.2.2.2.2 j hj
      · exact joint (Z' := rf Z 6) (x := -6) (C := fun s p => IN_X11_five AF s [.ref 0, .int a] p) (M := fun s p => IN_X12_five AF s [.ref 102, .int a] p) (hI.rf 6) hM ⟨⟨_, _, rfl, rfl, Nat.le_of_ble_eq_true rfl, rc_0⟩, Nat.le_of_ble_eq_true rfl, g_X11_five_0 (by rw [hv.1]; exact ⟨fun _ => ⟨fun _ => ⟨fun c => absurd c (nI_nlt (by omega) (by omega)), fun _ => DC_rf hC hI (by decide) (by decide)⟩, fun c => absurd c1 c⟩, fun c => absurd c0 c⟩)⟩ (fun t hM => ⟨⟨_, _, rfl, rfl, Nat.le_of_ble_eq_true rfl, rc_102⟩, Nat.le_of_ble_eq_true rfl, g_X12_five_0 (by rw [five_M hI hM]; exact ⟨fun _ => ⟨fun _ => ⟨fun c => absurd (by rw [show na (Z 102 24) = 5 by omega]) c, fun _ => DM_rf hM (by decide)⟩, fun c => absurd c1 c⟩, fun c => absurd c0 c⟩)⟩)
    · exact joint (Z' := rf Z 6) (x := -6) (C := fun s p => IN_X11_five AF s [.ref 0, .int a] p) (M := fun s p => IN_X12_five AF s [.ref 102, .int a] p) (hI.rf 6) hM ⟨⟨_, _, rfl, rfl, Nat.le_of_ble_eq_true rfl, rc_0⟩, Nat.le_of_ble_eq_true rfl, g_X11_five_0 (by rw [hv.1]; exact ⟨fun _ => ⟨fun c => absurd c c1, fun _ => DC_rf hC hI (by decide) (by decide)⟩, fun c => absurd c0 c⟩)⟩ (fun t hM => ⟨⟨_, _, rfl, rfl, Nat.le_of_ble_eq_true rfl, rc_102⟩, Nat.le_of_ble_eq_true rfl, g_X12_five_0 (by rw [five_M hI hM]; exact ⟨fun _ => ⟨fun c => absurd c c1, fun _ => DM_rf hM (by decide)⟩, fun c => absurd c0 c⟩)⟩)
  · exact joint (Z' := rf Z 4) (x := -4) (C := fun s p => IN_X11_five AF s [.ref 0, .int a] p) (M := fun s p => IN_X12_five AF s [.ref 102, .int a] p) (hI.rf 4) hM ⟨⟨_, _, rfl, rfl, Nat.le_of_ble_eq_true rfl, rc_0⟩, Nat.le_of_ble_eq_true rfl, g_X11_five_0 (by rw [hv.1]; exact ⟨fun c => absurd c c0, fun _ => DC_rf hC hI (by decide) (by decide)⟩)⟩ (fun t hM => ⟨⟨_, _, rfl, rfl, Nat.le_of_ble_eq_true rfl, rc_102⟩, Nat.le_of_ble_eq_true rfl, g_X12_five_0 (by rw [five_M hI hM]; exact ⟨fun c => absurd c c0, fun _ => DM_rf hM (by decide)⟩)⟩)
def mdX (v : Nat) (a : Int32) : Int32 := if a = 0 then (if v % 3 = 0 then nI (v / 3) else nI v) else (if v % 3 = 0 then nI 1 else nI 3)
theorem mdX_C {v : Nat} {a : Int32} : (if a = 0 then nI (v / Nat.gcd v 3) else nI (3 / Nat.gcd v 3)) = mdX v a := by
  rw [gcd3]
  unfold mdX
  by_cases c : v % 3 = 0
  · rw [if_pos c, if_pos c, if_pos c]
  · rw [if_neg c, if_neg c, if_neg c, Nat.div_one]
theorem mdX_M {v : Nat} (hv : v < 2 ^ 31) {a : Int32} {Q : Int32 → Prop} (h : Q (mdX v a)) : (¬ a = 0 → ((¬ (nI v - nI v / (nI 3) * (nI 3)) = 0 → Q (nI 3)) ∧ ((nI v - nI v / (nI 3) * (nI 3)) = 0 → Q (nI 1)))) ∧ (a = 0 → ((¬ (nI v - nI v / (nI 3) * (nI 3)) = 0 → Q (nI v)) ∧ ((nI v - nI v / (nI 3) * (nI 3)) = 0 → Q (nI v / (nI 3))))) := by
  rw [pk_rem hv (by decide) (by decide), pk_div hv (by decide) (by decide), nI0_eq (by omega)]
  unfold mdX at h
  refine ⟨fun c => ⟨fun d => ?_, fun d => ?_⟩, fun c => ⟨fun d => ?_, fun d => ?_⟩⟩
  · rwa [if_neg c, if_neg d] at h
  · rwa [if_neg c, if_pos d] at h
  · rwa [if_pos c, if_neg d] at h
  · rwa [if_pos c, if_pos d] at h
theorem mid_C {Z σ τ : SG} (hI : KI Z) (hC : KC Z σ) (n5 : na (Z 102 24) = 5) {a : Int32} {post : SG → Int32 → Prop} (K : post τ (mdX (ms3 (srt (Z 118) 5)) a)) : IN_X11_leastTerms AF τ [.int (((σ 84 1) + (σ 84 2)) + (σ 84 3)), .int (nI 3), .int a] post := by
  have hv := five_C hI hC
  rw [n5] at hv
  have hb := fun i hi => srt_le (F := Z 118) (n := 5) (M := 9999) (fun j hj => (hI.2.2.2.2.1.2.2 j (by omega)).2.2) (i := i) hi
  have b1 := hb 1 (by decide)
  have b2 := hb 2 (by decide)
  have b3 := hb 3 (by decide)
  rw [hv.2 1 (by decide), hv.2 2 (by decide), hv.2 3 (by decide), nI_add, nI_add]
  refine ok_least (by omega) (by decide) (fun z => absurd z (by decide)) (fun _ => ?_)
  have := mdX_C (v := ms3 (srt (Z 118) 5)) (a := a)
  unfold ms3 at this K
  rw [this]
  exact K
theorem mid_M {Z σ : SG} (hI : KI Z) (hM : KM Z σ) (n5 : na (Z 102 24) = 5) {post : SG → Int32 → Prop} (K : post σ (nI (ms3 (srt (Z 118) 5)))) : IN_X12_middleSum AF σ [.ref 102] post := by
  have e : ∀ j, j < 5 → σ 118 j = Z 118 j := hM.2.2.2.2.2.2.1
  refine ok_mid (fun j hj => by rw [e j hj]; exact ⟨(hI.2.2.2.2.1.2.2 j (by omega)).1, (hI.2.2.2.2.1.2.2 j (by omega)).2.2⟩) ?_
  rw [srt_cong (fun j hj => e j hj)]
  exact K
theorem ms3_lt {Z : SG} (hI : KI Z) (n5 : na (Z 102 24) = 5) : ms3 (srt (Z 118) 5) < 2 ^ 31 := by
  have hb := fun i hi => srt_le (F := Z 118) (n := 5) (M := 9999) (fun j hj => (hI.2.2.2.2.1.2.2 j (by omega)).2.2) (i := i) hi
  have b1 := hb 1 (by decide)
  have b2 := hb 2 (by decide)
  have b3 := hb 3 (by decide)
  unfold ms3
  omega
theorem KI.noTimes {Z : SG} (hI : KI Z) : KI (up Z 102 24 (nI 0)) := by
  refine hI.re2 (up_k (by decide)) (up_k (by decide)) (up_j (by decide)) (up_j (by decide)) ?_ ?_ ?_
  · rw [up_j (by decide), up_k (by decide)]; exact hI.2.2.1
  · rw [up_s, na_nI (by decide)]; exact ⟨rfl, by decide, fun j hj => absurd hj (Nat.not_lt_zero _)⟩
  · rw [up_j (by decide), up_k (by decide)]; exact hI.2.2.2.2.2
theorem KC.noTimes {Z σ : SG} (hC : KC Z σ) (hI : KI Z) : KC (up Z 102 24 (nI 0)) (up σ 83 0 (nI 0)) := by
  refine hC.re2 hI (up_k (by decide)) (up_k (by decide)) (up_k (by decide)) (up_k (by decide)) (up_j (by decide)) (up_j (by decide)) (fun k _ _ _ a _ _ _ => up_k a) ?_ ⟨by rw [up_s, up_s], fun i hi => ?_⟩ ?_
  · unfold KT; rw [up_j (by decide), up_k (by decide), up_k (by decide), up_k (by decide)]; exact hC.2.2.2.2.2.2.2.1
  · rw [up_s, na_nI (by decide)] at hi; exact absurd hi (Nat.not_lt_zero _)
  · unfold KL; rw [up_j (by decide), up_k (by decide), up_k (by decide), up_k (by decide)]; exact hC.2.2.2.2.2.2.2.2.2.1
theorem KM.noTimes {Z σ : SG} (hM : KM Z σ) : KM (up Z 102 24 (nI 0)) (up σ 102 24 (nI 0)) := by
  refine hM.re2 (up_k (by decide)) (up_k (by decide)) (up_k (by decide)) (up_k (by decide)) (up_j (by decide)) (up_j (by decide)) (fun k hk => up_k (by omega)) (up_j (by decide)) (up_j (by decide)) ?_ (by rw [up_s, up_s]) ?_ (fun j hj => ?_) (fun j hj => ?_) (fun j hj => ?_)
  · rw [up_j (by decide), up_j (by decide)]; exact hM.2.2.2.1.2.1
  · rw [up_j (by decide), up_j (by decide)]; exact hM.2.2.2.1.2.2.2.2
  · rw [up_k (by decide), up_k (by decide)]; exact hM.2.2.2.2.1 j hj
  · rw [up_k (by decide), up_k (by decide)]; exact hM.2.2.2.2.2.2.1 j hj
  · rw [up_k (by decide), up_k (by decide)]; exact hM.2.2.2.2.2.2.2 j hj
theorem KM.same {Z σ : SG} (hM : KM Z σ) {j : Nat} {v : Int32} (e : σ 102 j = v) : KM Z (up σ 102 j v) := by
  have : up σ 102 j v = σ := by
    funext k i
    show (if k = 102 ∧ i = j then v else σ k i) = σ k i
    split
    · rename_i c; rw [c.1, c.2, e]
    · rfl
  rw [this]; exact hM
theorem J_middle {Z σ : SG} (hI : KI Z) (hC : KC Z σ) (hM : KM Z σ) (a : Int32) : ∃ p, IN_X11_middle AF σ [.ref 0, .int a] p ∧ ∀ t r, p t r → ∃ q, IN_X12_middle AF t [.ref 102, .int a] q ∧ ∀ t' r', q t' r' → r = r' ∧ KK t' := by
  have hS := hI.1
  have h5 := five_I hI
  have hv := five_C hI hC
  by_cases c2 : a = 0
  · obtain rfl : a = nI 0 := c2.trans nI_0.symm
    by_cases n5 : na (Z 102 24) = 5
    · refine joint (Z' := Z) (x := mdX (ms3 (srt (Z 118) 5)) (nI 0)) (C := fun s p => IN_X11_middle AF s [.ref 0, .int (nI 0)] p) (M := fun s p => IN_X12_middle AF s [.ref 102, .int (nI 0)] p) hI hM ?_ (fun t hM => ?_)
      · refine ⟨⟨_, _, rfl, rfl, Nat.le_of_ble_eq_true rfl, rc_0⟩, Nat.le_of_ble_eq_true rfl, g_X11_middle_0 ?_⟩
        rw [hv.1]
        refine ⟨fun _ => ⟨fun _ => ⟨fun _ => ?_, fun c => absurd c (by decide +kernel)⟩, fun c => absurd (by rw [n5]) c⟩, fun c => absurd nI_0 c⟩
        refine ⟨fun τ x => τ = σ ∧ x = mdX (ms3 (srt (Z 118) 5)) (nI 0), mid_C hI hC n5 ⟨rfl, rfl⟩, ?_⟩
        rintro t x ⟨rfl, rfl⟩
        exact DC_rfl hC
      · refine ⟨⟨_, _, rfl, rfl, Nat.le_of_ble_eq_true rfl, rc_102⟩, Nat.le_of_ble_eq_true rfl, g_X12_middle_0 ?_⟩
        rw [five_M hI hM]
        refine ⟨fun c => absurd c (by decide +kernel), fun _ => ⟨fun c => absurd c (by decide +kernel), fun _ => ⟨fun _ => ?_, fun c => absurd (by rw [n5]) c⟩⟩⟩
        refine ⟨fun τ x => τ = t ∧ x = nI (ms3 (srt (Z 118) 5)), mid_M hI hM n5 ⟨rfl, rfl⟩, ?_⟩
        rintro t x ⟨rfl, rfl⟩
        refine ⟨fun _ s es => ?_, fun c => absurd c (by decide +kernel)⟩
        subst es
        exact mdX_M (Q := fun x => DM Z t (mdX (ms3 (srt (Z 118) 5)) (nI 0)) (up t 102 24 (nI 5)) x) (ms3_lt hI n5) ⟨rfl, hM.same (by rw [five_M hI hM, n5]), fun k hk => up_k (by omega)⟩
    · exact joint (Z' := rf Z 3) (x := -3) (C := fun s p => IN_X11_middle AF s [.ref 0, .int (nI 0)] p) (M := fun s p => IN_X12_middle AF s [.ref 102, .int (nI 0)] p) (hI.rf 3) hM ⟨⟨_, _, rfl, rfl, Nat.le_of_ble_eq_true rfl, rc_0⟩, Nat.le_of_ble_eq_true rfl, g_X11_middle_0 (by rw [hv.1]; exact ⟨fun _ => ⟨fun c => absurd c (fun z => n5 (nI_inj (by omega) (by decide) z)), fun _ => DC_rf hC hI (by decide) (by decide)⟩, fun c => absurd nI_0 c⟩)⟩ (fun t hM => ⟨⟨_, _, rfl, rfl, Nat.le_of_ble_eq_true rfl, rc_102⟩, Nat.le_of_ble_eq_true rfl, g_X12_middle_0 (by rw [five_M hI hM]; exact ⟨fun c => absurd c (by decide +kernel), fun _ => ⟨fun c => absurd c (by decide +kernel), fun _ => ⟨fun c => absurd c (fun z => n5 (nI_inj (by omega) (by decide) z)), fun _ => DM_rf hM (by decide)⟩⟩⟩)⟩)
  · by_cases c3 : a = nI 1
    · subst c3
      by_cases n5 : na (Z 102 24) = 5
      · refine joint (Z' := up Z 102 24 (nI 0)) (x := mdX (ms3 (srt (Z 118) 5)) (nI 1)) (C := fun s p => IN_X11_middle AF s [.ref 0, .int (nI 1)] p) (M := fun s p => IN_X12_middle AF s [.ref 102, .int (nI 1)] p) hI.noTimes hM ?_ (fun t hM => ?_)
        · refine ⟨⟨_, _, rfl, rfl, Nat.le_of_ble_eq_true rfl, rc_0⟩, Nat.le_of_ble_eq_true rfl, g_X11_middle_0 ?_⟩
          rw [hv.1]
          refine ⟨fun c => absurd c (by decide +kernel), fun _ => ⟨fun _ => ⟨fun _ => ⟨fun c => absurd rfl c, fun _ => ?_⟩, fun c => absurd (by rw [n5]) c⟩, fun c => absurd rfl c⟩⟩
          intro s es
          subst es
          refine ⟨fun τ x => τ = up σ 83 0 (nI 0) ∧ x = mdX (ms3 (srt (Z 118) 5)) (nI 1), mid_C hI hC n5 ⟨rfl, rfl⟩, ?_⟩
          rintro t x ⟨rfl, rfl⟩
          exact ⟨rfl, hC.noTimes hI, fun k hk => up_k (by omega)⟩
        · refine ⟨⟨_, _, rfl, rfl, Nat.le_of_ble_eq_true rfl, rc_102⟩, Nat.le_of_ble_eq_true rfl, g_X12_middle_0 ?_⟩
          rw [five_M hI hM]
          refine ⟨fun c => absurd c (by decide +kernel), fun _ => ⟨fun c => absurd c (by decide +kernel), fun _ => ⟨fun _ => ?_, fun c => absurd (by rw [n5]) c⟩⟩⟩
          refine ⟨fun τ x => τ = t ∧ x = nI (ms3 (srt (Z 118) 5)), mid_M hI hM n5 ⟨rfl, rfl⟩, ?_⟩
          rintro t x ⟨rfl, rfl⟩
          refine ⟨fun c => absurd rfl c, fun _ s es => ?_⟩
          subst es
          exact mdX_M (Q := fun x => DM (up Z 102 24 (nI 0)) t (mdX (ms3 (srt (Z 118) 5)) (nI 1)) (up t 102 24 (nI 0)) x) (ms3_lt hI n5) ⟨rfl, hM.noTimes, fun k hk => up_k (by omega)⟩
      · exact joint (Z' := rf Z 3) (x := -3) (C := fun s p => IN_X11_middle AF s [.ref 0, .int (nI 1)] p) (M := fun s p => IN_X12_middle AF s [.ref 102, .int (nI 1)] p) (hI.rf 3) hM ⟨⟨_, _, rfl, rfl, Nat.le_of_ble_eq_true rfl, rc_0⟩, Nat.le_of_ble_eq_true rfl, g_X11_middle_0 (by rw [hv.1]; exact ⟨fun c => absurd c (by decide +kernel), fun _ => ⟨fun _ => ⟨fun c => absurd c (fun z => n5 (nI_inj (by omega) (by decide) z)), fun _ => DC_rf hC hI (by decide) (by decide)⟩, fun c => absurd rfl c⟩⟩)⟩ (fun t hM => ⟨⟨_, _, rfl, rfl, Nat.le_of_ble_eq_true rfl, rc_102⟩, Nat.le_of_ble_eq_true rfl, g_X12_middle_0 (by rw [five_M hI hM]; exact ⟨fun c => absurd c (by decide +kernel), fun _ => ⟨fun c => absurd c (by decide +kernel), fun _ => ⟨fun c => absurd c (fun z => n5 (nI_inj (by omega) (by decide) z)), fun _ => DM_rf hM (by decide)⟩⟩⟩)⟩)
    · by_cases c6 : a < 0
      · exact joint (Z' := rf Z 2) (x := -2) (C := fun s p => IN_X11_middle AF s [.ref 0, .int a] p) (M := fun s p => IN_X12_middle AF s [.ref 102, .int a] p) (hI.rf 2) hM ⟨⟨_, _, rfl, rfl, Nat.le_of_ble_eq_true rfl, rc_0⟩, Nat.le_of_ble_eq_true rfl, g_X11_middle_0 (by rw [hv.1]; exact ⟨fun c => absurd c c2, fun _ => ⟨fun c => absurd c c3, fun _ => DC_rf hC hI (by decide) (by decide)⟩⟩)⟩ (fun t hM => ⟨⟨_, _, rfl, rfl, Nat.le_of_ble_eq_true rfl, rc_102⟩, Nat.le_of_ble_eq_true rfl, g_X12_middle_0 (by rw [five_M hI hM]; exact ⟨fun _ => DM_rf hM (by decide), fun c => absurd c6 c⟩)⟩)
      · by_cases c7 : nI 2 ≤ a
        · exact joint (Z' := rf Z 2) (x := -2) (C := fun s p => IN_X11_middle AF s [.ref 0, .int a] p) (M := fun s p => IN_X12_middle AF s [.ref 102, .int a] p) (hI.rf 2) hM ⟨⟨_, _, rfl, rfl, Nat.le_of_ble_eq_true rfl, rc_0⟩, Nat.le_of_ble_eq_true rfl, g_X11_middle_0 (by rw [hv.1]; exact ⟨fun c => absurd c c2, fun _ => ⟨fun c => absurd c c3, fun _ => DC_rf hC hI (by decide) (by decide)⟩⟩)⟩ (fun t hM => ⟨⟨_, _, rfl, rfl, Nat.le_of_ble_eq_true rfl, rc_102⟩, Nat.le_of_ble_eq_true rfl, g_X12_middle_0 (by rw [five_M hI hM]; exact ⟨fun c => absurd c c6, fun _ => ⟨fun _ => DM_rf hM (by decide), fun c => absurd c7 c⟩⟩)⟩)
        · exfalso
          obtain ⟨n, hn, eb⟩ := arg_in (by decide) c6 c7
          match n, hn with
          | 0, _ => exact c2 (eb.trans nI_0)
          | 1, _ => exact c3 eb
/-- the middle three of four sorted and one more -/
theorem ms3_ins {v : Nat} {l : List Nat} (hl : l.length = 4) (hp : l.Pairwise (· ≤ ·)) : ms3 (ins v l) = l.getD 1 0 + l.getD 2 0 + max (l.getD 0 0) (min v (l.getD 3 0)) := by
  match l, hl with
  | [s0, s1, s2, s3], _ =>
    have p1 : s0 ≤ s1 := pw_get hp (i := 0) (j := 1) (by decide) (show 1 < 4 by decide)
    have p2 : s1 ≤ s2 := pw_get hp (i := 1) (j := 2) (by decide) (show 2 < 4 by decide)
    have p3 : s2 ≤ s3 := pw_get hp (i := 2) (j := 3) (by decide) (show 3 < 4 by decide)
    show ms3 (ins v [s0, s1, s2, s3]) = s1 + s2 + max s0 (min v s3)
    unfold ins
    split
    · show s0 + s1 + s2 = _
      omega
    unfold ins
    split
    · show v + s1 + s2 = _
      omega
    unfold ins
    split
    · show s1 + v + s2 = _
      omega
    unfold ins
    split
    · show s1 + s2 + v = _
      omega
    · show s1 + s2 + s3 = _
      omega
/-- what NEED answers: the last look's V, and the answer -/
theorem need_pure {s0 s1 s2 s3 m : Nat} (h0 : 1 ≤ s0) (h1 : s0 ≤ s3) (h3 : s3 ≤ 9999) : ∃ V, 1 ≤ V ∧ V ≤ 9999 ∧ (∀ w, V < w → w ≤ 9999 → ¬ s1 + s2 + max s0 (min w s3) ≤ 3 * m) ∧ ((s1 + s2 + max s0 (min V s3) ≤ 3 * m ∧ ((s1 + s2 + s3 ≤ 3 * m ∧ V = 9999) ∨ (¬ s1 + s2 + s3 ≤ 3 * m ∧ s1 + s2 + s0 ≤ 3 * m ∧ s1 + s2 + V = 3 * m))) ∨ (V = 1 ∧ ¬ s1 + s2 + max s0 (min V s3) ≤ 3 * m ∧ ¬ s1 + s2 + s3 ≤ 3 * m ∧ ¬ s1 + s2 + s0 ≤ 3 * m)) := by
  by_cases c1 : s1 + s2 + s3 ≤ 3 * m
  · exact ⟨9999, by decide, by decide, fun w a b => by omega, Or.inl ⟨by omega, Or.inl ⟨c1, rfl⟩⟩⟩
  · by_cases c2 : s1 + s2 + s0 ≤ 3 * m
    · exact ⟨3 * m - (s1 + s2), by omega, by omega, fun w a b => by omega, Or.inl ⟨by omega, Or.inr ⟨c1, c2, by omega⟩⟩⟩
    · exact ⟨1, by decide, by decide, fun w a b => by omega, Or.inr ⟨rfl, by omega, c1, c2⟩⟩
theorem KI.spare {Z : SG} (hI : KI Z) (n4 : na (Z 102 24) = 4) {v : Int32} : KI (up Z 118 4 v) := by
  refine hI.re2 (up_k (by decide)) (up_k (by decide)) (by rw [up_k (by decide)]) (by rw [up_k (by decide)]) ?_ ?_ ?_
  · rw [up_k (by decide), up_k (by decide)]; exact hI.2.2.1
  · rw [up_k (by decide)]
    refine ⟨hI.2.2.2.2.1.1, hI.2.2.2.2.1.2.1, fun j hj => ?_⟩
    rw [up_j (by omega)]
    exact hI.2.2.2.2.1.2.2 j hj
  · rw [up_k (by decide), up_k (by decide)]; exact hI.2.2.2.2.2
theorem KC.spare {Z σ : SG} (hC : KC Z σ) (hI : KI Z) (n4 : na (Z 102 24) = 4) {v : Int32} : KC (up Z 118 4 v) σ := by
  refine hC.re2 hI (up_k (by decide)) (up_k (by decide)) (up_k (by decide)) (up_k (by decide)) (by rw [up_k (by decide)]) (by rw [up_k (by decide)]) (fun _ _ _ _ _ _ _ _ => rfl) ?_ ?_ ?_
  · unfold KT; rw [up_k (by decide), up_k (by decide)]; exact hC.2.2.2.2.2.2.2.1
  · unfold KV; rw [up_k (by decide), srt_cong (F := up Z 118 4 v 118) (G := Z 118) (fun j hj => up_j (by omega))]; exact hC.2.2.2.2.2.2.2.2.1
  · unfold KL; rw [up_k (by decide), up_k (by decide)]; exact hC.2.2.2.2.2.2.2.2.2.1
theorem KM.spare {Z σ τ : SG} (hM : KM Z σ) {v : Int32} (h : ∀ k j, ¬ (k = 118 ∧ j = 4) → τ k j = σ k j) (e : τ 118 4 = v) : KM (up Z 118 4 v) τ := by
  have f : ∀ k, k ≠ 118 → τ k = σ k := fun k hk => funext fun j => h k j (fun z => hk z.1)
  refine hM.re2 (up_k (by decide)) (up_k (by decide)) (up_k (by decide)) (up_k (by decide)) (by rw [up_k (by decide)]) (by rw [up_k (by decide)]) (fun k hk => f k (by omega)) (by rw [f 102 (by decide)]) (by rw [f 102 (by decide)]) ?_ ?_ ?_ (fun j hj => ?_) (fun j hj => ?_) (fun j hj => ?_)
  · rw [f 102 (by decide), up_k (by decide)]; exact hM.2.2.2.1.2.1
  · rw [f 102 (by decide), up_k (by decide)]; exact hM.2.2.2.1.2.2.2.1
  · rw [f 102 (by decide), up_k (by decide)]; exact hM.2.2.2.1.2.2.2.2
  · rw [f 106 (by decide), up_k (by decide)]; exact hM.2.2.2.2.1 j hj
  · by_cases d : j = 4
    · rw [d, e, up_s]
    · rw [h _ _ (fun z => d z.2), up_j d]; exact hM.2.2.2.2.2.2.1 j hj
  · rw [f 119 (by decide), up_k (by decide)]; exact hM.2.2.2.2.2.2.2 j hj
theorem mneed {Z t : SG} (hI : KI Z) (hM : KM Z t) (n4 : na (Z 102 24) = 4) {m V : Nat} (hm : m ≤ 9999) (hV1 : 1 ≤ V) (hV : V ≤ 9999) (hno : ∀ w, V < w → w ≤ 9999 → ¬ ms3 (ins w (srt (Z 118) 4)) ≤ 3 * m) {x : Int32} {post : SG → Int32 → Prop}
    (hx : (ms3 (ins V (srt (Z 118) 4)) ≤ 3 * m ∧ x = nI V) ∨ (V = 1 ∧ ¬ ms3 (ins V (srt (Z 118) 4)) ≤ 3 * m ∧ x = -9)) (K : ∀ τ : SG, (∀ k j, ¬ (k = 118 ∧ j = 4) → τ k j = t k j) → τ 118 4 = nI V → post τ x) :
    ∀ v, v ≤ 9999 → V ≤ v → ∀ τ : SG, (∀ k j, ¬ (k = 118 ∧ j = 4) → τ k j = t k j) → T_X12_need AF post 38 [.ref 102, .int (nI m), dum, .int (nI v)] [] τ := by
  have step : ∀ v, 1 ≤ v → v ≤ 9999 → ∀ τ : SG, (∀ k j, ¬ (k = 118 ∧ j = 4) → τ k j = t k j) → ∀ post2 : SG → Int32 → Prop, post2 (up τ 118 4 (nI v)) (nI (ms3 (ins v (srt (Z 118) 4)))) → IN_X12_middleSum AF (up τ 118 4 (nI v)) [.ref 102] post2 := by
    intro v h1 h2 τ hτ post2 hp
    have e : ∀ j, j < 4 → up τ 118 4 (nI v) 118 j = Z 118 j := fun j hj => by
      rw [up_j (by omega), hτ _ _ (by omega)]; exact hM.2.2.2.2.2.2.1 j (by omega)
    refine ok_mid (fun j hj => ?_) ?_
    · by_cases d : j = 4
      · rw [d, up_s, na_nI (by omega)]; exact ⟨rfl, h2⟩
      · rw [e j (by omega)]; exact ⟨(hI.2.2.2.2.1.2.2 j (by omega)).1, (hI.2.2.2.2.1.2.2 j (by omega)).2.2⟩
    · rw [srt, up_s, na_nI (by omega), srt_cong e]
      exact hp
  have bd : ∀ v, v ≤ 9999 → ms3 (ins v (srt (Z 118) 4)) ≤ 29997 := fun v hv => by
    have hb := fun i hi => srt_le (F := Z 118) (n := 4) (M := 9999) (fun j hj => (hI.2.2.2.2.1.2.2 j (by omega)).2.2) (i := i) hi
    have b0 := hb 0 (by decide)
    have b1 := hb 1 (by decide)
    have b2 := hb 2 (by decide)
    have b3 := hb 3 (by decide)
    rw [ms3_ins (srt_len _ _) (srt_pw _ _)]
    omega
  have fr : ∀ v (τ : SG), (∀ k j, ¬ (k = 118 ∧ j = 4) → τ k j = t k j) → ∀ k j, ¬ (k = 118 ∧ j = 4) → up τ 118 4 (nI v) k j = t k j := fun v τ h k j c => by
    show (if k = 118 ∧ j = 4 then nI v else τ k j) = t k j
    rw [if_neg c]; exact h k j c
  intro v
  induction v with
  | zero => intro h1 h2; omega
  | succ v ih =>
    intro h1 h2 τ hτ
    have hb := bd (v + 1) h1
    apply g_X12_need_38
    refine ⟨fun c => absurd ((nI0_le (by omega)).1 c) (by omega), fun _ s es => ?_⟩
    subst es
    refine ⟨fun τ' x => τ' = up τ 118 4 (nI (v + 1)) ∧ x = nI (ms3 (ins (v + 1) (srt (Z 118) 4))), step (v + 1) (by omega) h1 τ hτ _ ⟨rfl, rfl⟩, ?_⟩
    rintro t4 x4 ⟨rfl, rfl⟩
    rw [pk_mul, nI_ltI (by omega) (by omega), sb_m1 (by omega), Nat.add_sub_cancel]
    refine ⟨fun c => ?_, fun c => ?_⟩
    · by_cases e : V = v + 1
      · rcases hx with ⟨q, _⟩ | ⟨q1, q2, q3⟩
        · rw [e] at q; omega
        · obtain rfl : v = 0 := by omega
          apply g_X12_need_38
          refine ⟨fun _ => ?_, fun z => absurd (by rw [nI_0]; decide) z⟩
          have := K _ (fr _ τ hτ) (by rw [up_s, e])
          rw [q3] at this
          exact this
      · exact ih (by omega) (by omega) _ (fr _ τ hτ)
    · by_cases e : V = v + 1
      · rcases hx with ⟨_, q⟩ | ⟨q1, q2, q3⟩
        · have := K _ (fr _ τ hτ) (by rw [up_s, e])
          rw [q, e] at this
          exact this
        · rw [e] at q2; omega
      · exact absurd (Nat.le_of_not_lt c) (hno (v + 1) (by omega) h1)
theorem J_need {Z σ : SG} (hI : KI Z) (hC : KC Z σ) (hM : KM Z σ) (a : Int32) : ∃ p, IN_X11_need AF σ [.ref 0, .int a] p ∧ ∀ t r, p t r → ∃ q, IN_X12_need AF t [.ref 102, .int a] q ∧ ∀ t' r', q t' r' → r = r' ∧ KK t' := by
  have hS := hI.1
  have h5 := five_I hI
  have hv := five_C hI hC
  by_cases c0 : nI 1 ≤ a
  · by_cases c1 : a ≤ nI 9999
    · by_cases n4 : na (Z 102 24) = 4
      · obtain ⟨m, hm1, hm2, ea⟩ := arg_pos (by decide) (by decide) c0 c1
        have hl := srt_len (Z 118) 4
        have hp := srt_pw (Z 118) 4
        have hb := fun i hi => srt_le (F := Z 118) (n := 4) (M := 9999) (fun j hj => (hI.2.2.2.2.1.2.2 j (by omega)).2.2) (i := i) hi
        have b1 := hb 1 (by decide)
        have b2 := hb 2 (by decide)
        have b3 := hb 3 (by decide)
        have b0 := srt_ge (F := Z 118) (n := 4) (M := 1) (fun j hj => (hI.2.2.2.2.1.2.2 j (by omega)).2.1) (i := 0) (by decide)
        have b03 := pw_get hp (i := 0) (j := 3) (by decide) (by rw [hl]; decide)
        have mi := fun w => ms3_ins (v := w) hl hp
        obtain ⟨V, v1, v2, v3, v4⟩ := need_pure (s1 := (srt (Z 118) 4).getD 1 0) (s2 := (srt (Z 118) 4).getD 2 0) (m := m) b0 b03 b3
        simp only [← mi] at v3 v4
        obtain ⟨x, hx1, hx2⟩ : ∃ x : Int32, ((ms3 (ins V (srt (Z 118) 4)) ≤ 3 * m ∧ x = nI V) ∨ (V = 1 ∧ ¬ ms3 (ins V (srt (Z 118) 4)) ≤ 3 * m ∧ x = -9)) ∧ ((((srt (Z 118) 4).getD 1 0 + (srt (Z 118) 4).getD 2 0 + (srt (Z 118) 4).getD 3 0 ≤ 3 * m) ∧ x = nI 9999) ∨ (¬ ((srt (Z 118) 4).getD 1 0 + (srt (Z 118) 4).getD 2 0 + (srt (Z 118) 4).getD 3 0 ≤ 3 * m) ∧ (srt (Z 118) 4).getD 1 0 + (srt (Z 118) 4).getD 2 0 + (srt (Z 118) 4).getD 0 0 ≤ 3 * m ∧ x = nI (3 * m - ((srt (Z 118) 4).getD 1 0 + (srt (Z 118) 4).getD 2 0))) ∨ (¬ ((srt (Z 118) 4).getD 1 0 + (srt (Z 118) 4).getD 2 0 + (srt (Z 118) 4).getD 3 0 ≤ 3 * m) ∧ ¬ ((srt (Z 118) 4).getD 1 0 + (srt (Z 118) 4).getD 2 0 + (srt (Z 118) 4).getD 0 0 ≤ 3 * m) ∧ x = -9)) := by
          rcases v4 with ⟨q1, ⟨q2, q3⟩ | ⟨q2, q3, q4⟩⟩ | ⟨q1, q2, q3, q4⟩
          · exact ⟨nI V, Or.inl ⟨q1, rfl⟩, Or.inl ⟨q2, by rw [q3]⟩⟩
          · exact ⟨nI V, Or.inl ⟨q1, rfl⟩, Or.inr (Or.inl ⟨q2, q3, by rw [← q4, Nat.add_sub_cancel_left]⟩)⟩
          · exact ⟨-9, Or.inr ⟨q1, q2, rfl⟩, Or.inr (Or.inr ⟨q3, q4, rfl⟩)⟩
        refine joint (Z' := up Z 118 4 (nI V)) (x := x) (C := fun s p => IN_X11_need AF s [.ref 0, .int a] p) (M := fun s p => IN_X12_need AF s [.ref 102, .int a] p) (hI.spare n4) hM ?_ (fun t hM => ?_)
        · refine ⟨⟨_, _, rfl, rfl, Nat.le_of_ble_eq_true rfl, rc_0⟩, Nat.le_of_ble_eq_true rfl, g_X11_need_0 ?_⟩
          rw [hv.1]
          refine ⟨fun _ => ⟨fun _ => ⟨fun _ => ?_, fun c => absurd (by rw [n4]) c⟩, fun c => absurd c1 c⟩, fun c => absurd c0 c⟩
          subst ea
          rw [n4] at hv
          rw [hv.2 0 (by decide), hv.2 1 (by decide), hv.2 2 (by decide), hv.2 3 (by decide), pk_mul, Int32.sub_sub, nI_add]
          have ti : (nI (3 * m) - nI ((srt (Z 118) 4).getD 1 0 + (srt (Z 118) 4).getD 2 0)).toInt = (3 * m : Nat) - ((srt (Z 118) 4).getD 1 0 + (srt (Z 118) 4).getD 2 0 : Nat) := pk_sub_toInt (by omega) (by omega)
          have k := hC.spare hI n4 (v := nI V)
          rw [Int32.lt_iff_toInt_lt, Int32.lt_iff_toInt_lt, ti, nI_toInt (by omega), nI_toInt (by omega)]
          refine ⟨fun c => ⟨fun d => ⟨?_, k, fun _ _ => rfl⟩, fun d => ⟨?_, k, fun _ _ => rfl⟩⟩, fun c => ⟨?_, k, fun _ _ => rfl⟩⟩
          · rcases hx2 with ⟨w, _⟩ | ⟨_, w, _⟩ | ⟨_, _, w⟩
            · omega
            · omega
            · exact w.symm
          · rcases hx2 with ⟨w, _⟩ | ⟨_, _, w⟩ | ⟨_, w, _⟩
            · omega
            · rw [w, nI_subN (by omega)]
            · omega
          · rcases hx2 with ⟨_, w⟩ | ⟨w, _⟩ | ⟨w, _⟩
            · exact w.symm
            · omega
            · omega
        · refine ⟨⟨_, _, rfl, rfl, Nat.le_of_ble_eq_true rfl, rc_102⟩, Nat.le_of_ble_eq_true rfl, g_X12_need_0 ?_⟩
          rw [five_M hI hM]
          refine ⟨fun _ => ⟨fun _ => ⟨fun _ => ?_, fun c => absurd (by rw [n4]) c⟩, fun c => absurd c1 c⟩, fun c => absurd c0 c⟩
          subst ea
          exact mneed hI hM n4 hm2 v1 v2 v3 hx1 (fun τ h1 h2 => ⟨rfl, hM.spare h1 h2, fun k hk => funext fun j => h1 k j (by omega)⟩) 9999 (Nat.le_refl _) v2 t (fun _ _ _ => rfl)
      · exact joint (Z' := rf Z 3) (x := -3) (C := fun s p => IN_X11_need AF s [.ref 0, .int a] p) (M := fun s p => IN_X12_need AF s [.ref 102, .int a] p) (hI.rf 3) hM ⟨⟨_, _, rfl, rfl, Nat.le_of_ble_eq_true rfl, rc_0⟩, Nat.le_of_ble_eq_true rfl, g_X11_need_0 (by rw [hv.1]; exact ⟨fun _ => ⟨fun _ => ⟨fun c => absurd c (fun z => n4 (nI_inj (by omega) (by decide) z)), fun _ => DC_rf hC hI (by decide) (by decide)⟩, fun c => absurd c1 c⟩, fun c => absurd c0 c⟩)⟩ (fun t hM => ⟨⟨_, _, rfl, rfl, Nat.le_of_ble_eq_true rfl, rc_102⟩, Nat.le_of_ble_eq_true rfl, g_X12_need_0 (by rw [five_M hI hM]; exact ⟨fun _ => ⟨fun _ => ⟨fun c => absurd c (fun z => n4 (nI_inj (by omega) (by decide) z)), fun _ => DM_rf hM (by decide)⟩, fun c => absurd c1 c⟩, fun c => absurd c0 c⟩)⟩)
    · exact joint (Z' := rf Z 6) (x := -6) (C := fun s p => IN_X11_need AF s [.ref 0, .int a] p) (M := fun s p => IN_X12_need AF s [.ref 102, .int a] p) (hI.rf 6) hM ⟨⟨_, _, rfl, rfl, Nat.le_of_ble_eq_true rfl, rc_0⟩, Nat.le_of_ble_eq_true rfl, g_X11_need_0 (by rw [hv.1]; exact ⟨fun _ => ⟨fun c => absurd c c1, fun _ => DC_rf hC hI (by decide) (by decide)⟩, fun c => absurd c0 c⟩)⟩ (fun t hM => ⟨⟨_, _, rfl, rfl, Nat.le_of_ble_eq_true rfl, rc_102⟩, Nat.le_of_ble_eq_true rfl, g_X12_need_0 (by rw [five_M hI hM]; exact ⟨fun _ => ⟨fun c => absurd c c1, fun _ => DM_rf hM (by decide)⟩, fun c => absurd c0 c⟩)⟩)
  · exact joint (Z' := rf Z 4) (x := -4) (C := fun s p => IN_X11_need AF s [.ref 0, .int a] p) (M := fun s p => IN_X12_need AF s [.ref 102, .int a] p) (hI.rf 4) hM ⟨⟨_, _, rfl, rfl, Nat.le_of_ble_eq_true rfl, rc_0⟩, Nat.le_of_ble_eq_true rfl, g_X11_need_0 (by rw [hv.1]; exact ⟨fun c => absurd c c0, fun _ => DC_rf hC hI (by decide) (by decide)⟩)⟩ (fun t hM => ⟨⟨_, _, rfl, rfl, Nat.le_of_ble_eq_true rfl, rc_102⟩, Nat.le_of_ble_eq_true rfl, g_X12_need_0 (by rw [five_M hI hM]; exact ⟨fun c => absurd c c0, fun _ => DM_rf hM (by decide)⟩)⟩)
