/-! steps change: see, step, learn -/
theorem IH.y {S S' : Nat → Int32} (h : IH S) (e : ∀ j, j ≠ 2 → j < 185 → S' j = S j) : IH S' := by
  have eT : cT S' = cT S := congrArg na (e 0 (by decide) (by decide))
  obtain ⟨h1, h2, h3, h4, h5⟩ := h
  refine IH_raw (fun t ht => ?_) (fun a c ha hc => ?_) (fun t ht ht6 => ?_) ⟨⟨_, (e 3 (by decide) (by decide)).trans h4.1, h4.2⟩, ⟨_, (e 4 (by decide) (by decide)).trans h5.1, h5.2⟩⟩
  · obtain ⟨a1, a2, a3, a4, a5⟩ := h1 t ht
    exact ⟨⟨_, (e _ (by omega) (by omega)).trans a1, a2, a3⟩, ⟨_, (e _ (by omega) (by omega)).trans a4, a5⟩⟩
  · rw [e _ (by omega) (by omega)]; exact h2 a c ha hc
  · rw [eT] at ht
    obtain ⟨q1, q2, q3⟩ := h3 t ht ht6
    exact ⟨(e _ (by omega) (by omega)).trans q1, (e _ (by omega) (by omega)).trans q2, fun c hc => ⟨(e _ (by omega) (by omega)).trans (q3 c hc).1, (e _ (by omega) (by omega)).trans (q3 c hc).2⟩⟩
theorem CH.y {S S' : Nat → Int32} {σ : SG} (h : CH S σ) (e : ∀ j, j ≠ 2 → j < 185 → S' j = S j) : CH S' σ := by
  refine ⟨fun t ht => ⟨?_, ?_, fun c hc => ?_⟩, ?_, ?_⟩
  · rw [e _ (by omega) (by omega)]; exact (h.1 t ht).1
  · rw [e _ (by omega) (by omega)]; exact (h.1 t ht).2.1
  · show σ (65 + 1 + t) c = S' (59 + 6 * t + c)
    rw [e _ (by omega) (by omega)]; exact (h.1 t ht).2.2 c hc
  · rw [e _ (by omega) (by omega)]; exact h.2.1
  · rw [e _ (by omega) (by omega)]; exact h.2.2
theorem ys_cs {S S' : Nat → Int32} (e : ∀ j, j ≠ 2 → j < 185 → S' j = S j) : ∀ j, cs j → S' j = S j := fun j hj => e j (by unfold cs at hj; omega) (by unfold cs at hj; omega)
theorem step_raw {S : Nat → Int32} {k : Nat} (h : (∃ n, S (185 + 3 * k) = nI n ∧ n < 64) ∧ (∃ n, S (185 + 3 * k + 1) = nI n ∧ n < 1024) ∧ ∃ n, S (185 + 3 * k + 2) = nI n ∧ n ≤ 99) : S (185 + 3 * k) = nI (pls S k) ∧ pls S k < 64 ∧ S (185 + 3 * k + 1) = nI (rws S k) ∧ rws S k < 1024 ∧ S (185 + 3 * k + 2) = nI (see S k) ∧ see S k ≤ 99 := by
  obtain ⟨⟨n1, a1, a2⟩, ⟨n2, b1, b2⟩, n3, d1, d2⟩ := h
  unfold pls rws see
  rw [a1, b1, d1, na_nI (by omega), na_nI (by omega), na_nI (by omega)]
  exact ⟨rfl, a2, rfl, b2, rfl, d2⟩
theorem step_val {S : Nat → Int32} {k a b d : Nat} (e1 : S (185 + 3 * k) = nI a) (e2 : S (185 + 3 * k + 1) = nI b) (e3 : S (185 + 3 * k + 2) = nI d) (h1 : a < 2 ^ 31) (h2 : b < 2 ^ 31) (h3 : d < 2 ^ 31) : pls S k = a ∧ rws S k = b ∧ see S k = d := by
  unfold pls rws see
  rw [e1, e2, e3, na_nI h1, na_nI h2, na_nI h3]
  exact ⟨rfl, rfl, rfl⟩
theorem pls_e {S S' : Nat → Int32} {k : Nat} (e : S' (185 + 3 * k) = S (185 + 3 * k)) : pls S' k = pls S k := congrArg na e
theorem rws_e {S S' : Nat → Int32} {k : Nat} (e : S' (185 + 3 * k + 1) = S (185 + 3 * k + 1)) : rws S' k = rws S k := congrArg na e
theorem see_e {S S' : Nat → Int32} {k : Nat} (e : S' (185 + 3 * k + 2) = S (185 + 3 * k + 2)) : see S' k = see S k := congrArg na e
theorem KI.see {Z : SG} (hI : KI Z) {k w : Nat} (hk : k < cK (Z 104)) (hw : w ≤ 99) : KI (up Z 104 (185 + 3 * k + 2) (nI w)) := by
  have hS := hI.1
  have e : ∀ j, j ≠ 2 → j < 185 → up Z 104 (185 + 3 * k + 2) (nI w) 104 j = Z 104 j := fun j _ h => up_j (by omega)
  have eK : cK (up Z 104 (185 + 3 * k + 2) (nI w) 104) = cK (Z 104) := congrArg na (up_j (by omega))
  refine hI.re (fun x hx => up_k hx) (IS_of hS (ys_cs e) (by rw [eK, up_j (by omega)]; exact hS.2.2.1) (hS.2.2.2.2.2.2.1.y e) (fun k' hk' => ?_)) (fun _ hp => hp.csE hS (ys_cs e) ⟨by rw [eK]; exact hp.2.2.1, fun k' _ => ⟨up_j (by omega), up_j (by omega)⟩⟩)
  rw [eK] at hk'
  obtain ⟨q1, q2, q3, q4, q5, q6⟩ := hS.2.2.2.2.2.2.2 k' hk'
  refine step_raw ⟨⟨_, (up_j (by omega)).trans q1, q2⟩, ⟨_, (up_j (by omega)).trans q3, q4⟩, ?_⟩
  by_cases d : k' = k
  · rw [d]; exact ⟨w, up_s, hw⟩
  · exact ⟨_, (up_j (by omega)).trans q5, q6⟩
theorem DC_see {Z σ : SG} (hC : KC Z σ) (hI : KI Z) {k w : Nat} (hk : k < cK (Z 104)) (hw : w ≤ 99) : ∀ s, s = up σ 80 k (nI w) → DC (up Z 104 (185 + 3 * k + 2) (nI w)) σ (nI (see (Z 104) k)) s (σ 80 k) := fun s es => by
  subst es
  have hS := hI.1
  have e : ∀ j, j ≠ 2 → j < 185 → up Z 104 (185 + 3 * k + 2) (nI w) 104 j = Z 104 j := fun j _ h => up_j (by omega)
  have eK : cK (up Z 104 (185 + 3 * k + 2) (nI w) 104) = cK (Z 104) := congrArg na (up_j (by omega))
  have hY := hC.2.2.2.2.1
  refine ⟨(hY.2 k hk).2.2, hC.csE hI (fun x hx => up_k hx) (ys_cs e) (fun k2 a b c => up_k (by omega)) ((hC.2.2.2.1.fr (fun k2 a b => up_k (by omega))).y e) ⟨by rw [up_k (by decide), up_j (by omega)]; exact hY.1, fun k' hk' => ?_⟩, fun k2 a => up_k (by omega)⟩
  rw [eK] at hk'
  obtain ⟨q1, q2, q3⟩ := hY.2 k' hk'
  refine ⟨by rw [up_k (by decide), pls_e (S := Z 104) (up_j (by omega))]; exact q1, by rw [up_k (by decide), rws_e (S := Z 104) (up_j (by omega))]; exact q2, ?_⟩
  by_cases d : k' = k
  · rw [d, up_s]
    unfold see
    rw [up_s, na_nI (by omega)]
  · rw [up_j d, see_e (S := Z 104) (up_j (by omega))]; exact q3
theorem J_see {Z σ : SG} (hI : KI Z) (hC : KC Z σ) (hM : KM Z σ) (a b : Int32) : ∃ p, IN_X11_see AF σ [.ref 0, .int a, .int b] p ∧ ∀ t r, p t r → ∃ q, IN_X12_see AF t [.ref 102, .int a, .int b] q ∧ ∀ t' r', q t' r' → r = r' ∧ KK t' := by
  have hS := hI.1
  have hK := hS.2.2.1.2
  by_cases c0 : a < 0
  · exact joint (Z' := rf Z 1) (x := -1) (C := fun s p => IN_X11_see AF s [.ref 0, .int a, .int b] p) (M := fun s p => IN_X12_see AF s [.ref 102, .int a, .int b] p) (hI.rf 1) hM ⟨⟨_, _, rfl, rfl, Nat.le_of_ble_eq_true rfl, rc_0⟩, Nat.le_of_ble_eq_true rfl, g_X11_see_0 (by rw [show σ 77 0 = nI (cK (Z 104)) from hC.2.2.2.2.1.1.trans hS.2.2.1.1]; exact ⟨fun _ => DC_rf hC hI (by decide) (by decide), fun c => absurd c0 c⟩)⟩ (fun t hM => ⟨⟨_, _, rfl, rfl, Nat.le_of_ble_eq_true rfl, rc_102⟩, Nat.le_of_ble_eq_true rfl, g_X12_see_0 (by rw [show t 104 2 = nI (cK (Z 104)) from (hM.1 2 (by decide)).trans hS.2.2.1.1]; exact ⟨fun _ => DM_rf hM (by decide), fun c => absurd c0 c⟩)⟩)
  · by_cases c1 : nI (cK (Z 104)) ≤ a
    · exact joint (Z' := rf Z 1) (x := -1) (C := fun s p => IN_X11_see AF s [.ref 0, .int a, .int b] p) (M := fun s p => IN_X12_see AF s [.ref 102, .int a, .int b] p) (hI.rf 1) hM ⟨⟨_, _, rfl, rfl, Nat.le_of_ble_eq_true rfl, rc_0⟩, Nat.le_of_ble_eq_true rfl, g_X11_see_0 (by rw [show σ 77 0 = nI (cK (Z 104)) from hC.2.2.2.2.1.1.trans hS.2.2.1.1]; exact ⟨fun c => absurd c c0, fun _ => ⟨fun _ => DC_rf hC hI (by decide) (by decide), fun c => absurd c1 c⟩⟩)⟩ (fun t hM => ⟨⟨_, _, rfl, rfl, Nat.le_of_ble_eq_true rfl, rc_102⟩, Nat.le_of_ble_eq_true rfl, g_X12_see_0 (by rw [show t 104 2 = nI (cK (Z 104)) from (hM.1 2 (by decide)).trans hS.2.2.1.1]; exact ⟨fun c => absurd c c0, fun _ => ⟨fun _ => DM_rf hM (by decide), fun c => absurd c1 c⟩⟩)⟩)
    · by_cases c2 : nI 0 ≤ b
      · by_cases c3 : b ≤ nI 99
        · obtain ⟨k0, hk0, ea⟩ := arg_in (by omega) c0 c1
          obtain ⟨w, hw1, hw2, eb⟩ := arg_pos (by decide) (by decide) c2 c3
          refine joint (Z' := up Z 104 (185 + 3 * k0 + 2) (nI w)) (x := nI (see (Z 104) k0)) (C := fun s p => IN_X11_see AF s [.ref 0, .int a, .int b] p) (M := fun s p => IN_X12_see AF s [.ref 102, .int a, .int b] p) (hI.see hk0 hw2) hM ?_ (fun t hM => ?_)
          · refine ⟨⟨_, _, rfl, rfl, Nat.le_of_ble_eq_true rfl, rc_0⟩, Nat.le_of_ble_eq_true rfl, g_X11_see_0 ?_⟩
            rw [show σ 77 0 = nI (cK (Z 104)) from hC.2.2.2.2.1.1.trans hS.2.2.1.1]
            refine ⟨fun c => absurd c c0, fun _ => ⟨fun c => absurd c c1, fun _ => ⟨fun _ => ⟨fun _ => ?_, fun c => absurd c3 c⟩, fun c => absurd c2 c⟩⟩⟩
            subst ea
            subst eb
            refine ⟨k0, rfl, by omega, k0, rfl, by omega, ?_⟩
            exact DC_see hC hI hk0 hw2
          · refine ⟨⟨_, _, rfl, rfl, Nat.le_of_ble_eq_true rfl, rc_102⟩, Nat.le_of_ble_eq_true rfl, g_X12_see_0 ?_⟩
            rw [show t 104 2 = nI (cK (Z 104)) from (hM.1 2 (by decide)).trans hS.2.2.1.1]
            refine ⟨fun c => absurd c c0, fun _ => ⟨fun c => absurd c c1, fun _ => ⟨fun _ => ⟨fun _ => ?_, fun c => absurd c3 c⟩, fun c => absurd c2 c⟩⟩⟩
            subst ea
            subst eb
            have ix : ((nI 185) + ((nI 3) * nI k0)) + (nI 2) = nI (185 + 3 * k0 + 2) := by rw [pk_mul, nI_add, nI_add]
            refine ⟨_, ix, by omega, _, ix, by omega, ?_⟩
            exact DM_hand hM ((hM.1 _ (by omega)).trans (hS.2.2.2.2.2.2.2 k0 hk0).2.2.2.2.1)
        · exact joint (Z' := rf Z 6) (x := -6) (C := fun s p => IN_X11_see AF s [.ref 0, .int a, .int b] p) (M := fun s p => IN_X12_see AF s [.ref 102, .int a, .int b] p) (hI.rf 6) hM ⟨⟨_, _, rfl, rfl, Nat.le_of_ble_eq_true rfl, rc_0⟩, Nat.le_of_ble_eq_true rfl, g_X11_see_0 (by rw [show σ 77 0 = nI (cK (Z 104)) from hC.2.2.2.2.1.1.trans hS.2.2.1.1]; exact ⟨fun c => absurd c c0, fun _ => ⟨fun c => absurd c c1, fun _ => ⟨fun _ => ⟨fun c => absurd c c3, fun _ => DC_rf hC hI (by decide) (by decide)⟩, fun c => absurd c2 c⟩⟩⟩)⟩ (fun t hM => ⟨⟨_, _, rfl, rfl, Nat.le_of_ble_eq_true rfl, rc_102⟩, Nat.le_of_ble_eq_true rfl, g_X12_see_0 (by rw [show t 104 2 = nI (cK (Z 104)) from (hM.1 2 (by decide)).trans hS.2.2.1.1]; exact ⟨fun c => absurd c c0, fun _ => ⟨fun c => absurd c c1, fun _ => ⟨fun _ => ⟨fun c => absurd c c3, fun _ => DM_rf hM (by decide)⟩, fun c => absurd c2 c⟩⟩⟩)⟩)
      · exact joint (Z' := rf Z 4) (x := -4) (C := fun s p => IN_X11_see AF s [.ref 0, .int a, .int b] p) (M := fun s p => IN_X12_see AF s [.ref 102, .int a, .int b] p) (hI.rf 4) hM ⟨⟨_, _, rfl, rfl, Nat.le_of_ble_eq_true rfl, rc_0⟩, Nat.le_of_ble_eq_true rfl, g_X11_see_0 (by rw [show σ 77 0 = nI (cK (Z 104)) from hC.2.2.2.2.1.1.trans hS.2.2.1.1]; exact ⟨fun c => absurd c c0, fun _ => ⟨fun c => absurd c c1, fun _ => ⟨fun c => absurd c c2, fun _ => DC_rf hC hI (by decide) (by decide)⟩⟩⟩)⟩ (fun t hM => ⟨⟨_, _, rfl, rfl, Nat.le_of_ble_eq_true rfl, rc_102⟩, Nat.le_of_ble_eq_true rfl, g_X12_see_0 (by rw [show t 104 2 = nI (cK (Z 104)) from (hM.1 2 (by decide)).trans hS.2.2.1.1]; exact ⟨fun c => absurd c c0, fun _ => ⟨fun c => absurd c c1, fun _ => ⟨fun c => absurd c c2, fun _ => DM_rf hM (by decide)⟩⟩⟩)⟩)
def stK (Z : SG) (n : Nat) (a b : Int32) : SG := up (up (up (up Z 104 (185 + 3 * n) a) 104 (185 + 3 * n + 1) b) 104 (185 + 3 * n + 2) (nI 0)) 104 2 (nI (n + 1))
theorem stK_k {Z : SG} {n k : Nat} {a b : Int32} (h : k ≠ 104) : stK Z n a b k = Z k := by unfold stK; rw [up_k h, up_k h, up_k h, up_k h]
theorem stK_o {Z : SG} {n j : Nat} {a b : Int32} (h2 : j ≠ 2) (h : j < 185 + 3 * n ∨ 185 + 3 * n + 3 ≤ j) : stK Z n a b 104 j = Z 104 j := by unfold stK; rw [up_j h2, up_j (by omega), up_j (by omega), up_j (by omega)]
theorem stK_2 {Z : SG} {n : Nat} {a b : Int32} : stK Z n a b 104 2 = nI (n + 1) := by unfold stK; rw [up_s]
theorem stK_n {Z : SG} {n : Nat} {a b : Int32} : stK Z n a b 104 (185 + 3 * n) = a ∧ stK Z n a b 104 (185 + 3 * n + 1) = b ∧ stK Z n a b 104 (185 + 3 * n + 2) = nI 0 := by
  unfold stK
  exact ⟨by rw [up_j (by omega), up_j (by omega), up_j (by omega), up_s], by rw [up_j (by omega), up_j (by omega), up_s], by rw [up_j (by omega), up_s]⟩
theorem stK_K {Z : SG} {n : Nat} {a b : Int32} (h : n < 4) : cK (stK Z n a b 104) = n + 1 := by
  unfold cK
  rw [stK_2, na_nI (by omega)]
theorem KI.step {Z : SG} (hI : KI Z) {n a b : Nat} (hn : cK (Z 104) = n) (h4 : n < 4) (ha : a < 64) (hb : b < 1024) : KI (stK Z n (nI a) (nI b)) := by
  have hS := hI.1
  have e : ∀ j, j ≠ 2 → j < 185 → stK Z n (nI a) (nI b) 104 j = Z 104 j := fun j h h' => stK_o h (by omega)
  refine hI.re (fun x hx => stK_k hx) (IS_of hS (ys_cs e) (by rw [stK_K h4, stK_2]; exact ⟨rfl, by omega⟩) (hS.2.2.2.2.2.2.1.y e) (fun k' hk' => ?_)) (fun _ hp => hp.csE hS (ys_cs e) ⟨by rw [stK_K h4]; have := hp.2.2.1; omega, fun k' hk' => ?_⟩)
  · rw [stK_K h4] at hk'
    by_cases d : k' = n
    · obtain ⟨q1, q2, q3⟩ := stK_n (Z := Z) (n := n) (a := nI a) (b := nI b)
      rw [d]
      exact step_raw ⟨⟨a, q1, ha⟩, ⟨b, q2, hb⟩, ⟨0, q3, by decide⟩⟩
    · obtain ⟨q1, q2, q3, q4, q5, q6⟩ := hS.2.2.2.2.2.2.2 k' (by omega)
      exact step_raw ⟨⟨_, (stK_o (by omega) (by omega)).trans q1, q2⟩, ⟨_, (stK_o (by omega) (by omega)).trans q3, q4⟩, ⟨_, (stK_o (by omega) (by omega)).trans q5, q6⟩⟩
  · have := hp.2.2.1
    exact ⟨stK_o (by omega) (by omega), stK_o (by omega) (by omega)⟩
theorem J_step {Z σ : SG} (hI : KI Z) (hC : KC Z σ) (hM : KM Z σ) (a b : Int32) : ∃ p, IN_X11_step AF σ [.ref 0, .int a, .int b] p ∧ ∀ t r, p t r → ∃ q, IN_X12_step AF t [.ref 102, .int a, .int b] q ∧ ∀ t' r', q t' r' → r = r' ∧ KK t' := by
  have hS := hI.1
  have hK := hS.2.2.1.2
  by_cases c0 : a < 0
  · exact joint (Z' := rf Z 1) (x := -1) (C := fun s p => IN_X11_step AF s [.ref 0, .int a, .int b] p) (M := fun s p => IN_X12_step AF s [.ref 102, .int a, .int b] p) (hI.rf 1) hM ⟨⟨_, _, rfl, rfl, Nat.le_of_ble_eq_true rfl, rc_0⟩, Nat.le_of_ble_eq_true rfl, g_X11_step_0 (by rw [show σ 77 0 = nI (cK (Z 104)) from hC.2.2.2.2.1.1.trans hS.2.2.1.1]; exact ⟨fun _ => DC_rf hC hI (by decide) (by decide), fun c => absurd c0 c⟩)⟩ (fun t hM => ⟨⟨_, _, rfl, rfl, Nat.le_of_ble_eq_true rfl, rc_102⟩, Nat.le_of_ble_eq_true rfl, g_X12_step_0 (by rw [show t 104 2 = nI (cK (Z 104)) from (hM.1 2 (by decide)).trans hS.2.2.1.1]; exact ⟨fun _ => DM_rf hM (by decide), fun c => absurd c0 c⟩)⟩)
  · by_cases c1 : nI 64 ≤ a
    · exact joint (Z' := rf Z 1) (x := -1) (C := fun s p => IN_X11_step AF s [.ref 0, .int a, .int b] p) (M := fun s p => IN_X12_step AF s [.ref 102, .int a, .int b] p) (hI.rf 1) hM ⟨⟨_, _, rfl, rfl, Nat.le_of_ble_eq_true rfl, rc_0⟩, Nat.le_of_ble_eq_true rfl, g_X11_step_0 (by rw [show σ 77 0 = nI (cK (Z 104)) from hC.2.2.2.2.1.1.trans hS.2.2.1.1]; exact ⟨fun c => absurd c c0, fun _ => ⟨fun _ => DC_rf hC hI (by decide) (by decide), fun c => absurd c1 c⟩⟩)⟩ (fun t hM => ⟨⟨_, _, rfl, rfl, Nat.le_of_ble_eq_true rfl, rc_102⟩, Nat.le_of_ble_eq_true rfl, g_X12_step_0 (by rw [show t 104 2 = nI (cK (Z 104)) from (hM.1 2 (by decide)).trans hS.2.2.1.1]; exact ⟨fun c => absurd c c0, fun _ => ⟨fun _ => DM_rf hM (by decide), fun c => absurd c1 c⟩⟩)⟩)
    · by_cases c2 : b < 0
      · exact joint (Z' := rf Z 1) (x := -1) (C := fun s p => IN_X11_step AF s [.ref 0, .int a, .int b] p) (M := fun s p => IN_X12_step AF s [.ref 102, .int a, .int b] p) (hI.rf 1) hM ⟨⟨_, _, rfl, rfl, Nat.le_of_ble_eq_true rfl, rc_0⟩, Nat.le_of_ble_eq_true rfl, g_X11_step_0 (by rw [show σ 77 0 = nI (cK (Z 104)) from hC.2.2.2.2.1.1.trans hS.2.2.1.1]; exact ⟨fun c => absurd c c0, fun _ => ⟨fun c => absurd c c1, fun _ => ⟨fun _ => DC_rf hC hI (by decide) (by decide), fun c => absurd c2 c⟩⟩⟩)⟩ (fun t hM => ⟨⟨_, _, rfl, rfl, Nat.le_of_ble_eq_true rfl, rc_102⟩, Nat.le_of_ble_eq_true rfl, g_X12_step_0 (by rw [show t 104 2 = nI (cK (Z 104)) from (hM.1 2 (by decide)).trans hS.2.2.1.1]; exact ⟨fun c => absurd c c0, fun _ => ⟨fun c => absurd c c1, fun _ => ⟨fun _ => DM_rf hM (by decide), fun c => absurd c2 c⟩⟩⟩)⟩)
      · by_cases c3 : nI 1024 ≤ b
        · exact joint (Z' := rf Z 1) (x := -1) (C := fun s p => IN_X11_step AF s [.ref 0, .int a, .int b] p) (M := fun s p => IN_X12_step AF s [.ref 102, .int a, .int b] p) (hI.rf 1) hM ⟨⟨_, _, rfl, rfl, Nat.le_of_ble_eq_true rfl, rc_0⟩, Nat.le_of_ble_eq_true rfl, g_X11_step_0 (by rw [show σ 77 0 = nI (cK (Z 104)) from hC.2.2.2.2.1.1.trans hS.2.2.1.1]; exact ⟨fun c => absurd c c0, fun _ => ⟨fun c => absurd c c1, fun _ => ⟨fun c => absurd c c2, fun _ => ⟨fun c => absurd c (fun z => by rw [Int32.lt_iff_toInt_lt] at z; rw [Int32.le_iff_toInt_le] at c3; omega), fun _ => DC_rf hC hI (by decide) (by decide)⟩⟩⟩⟩)⟩ (fun t hM => ⟨⟨_, _, rfl, rfl, Nat.le_of_ble_eq_true rfl, rc_102⟩, Nat.le_of_ble_eq_true rfl, g_X12_step_0 (by rw [show t 104 2 = nI (cK (Z 104)) from (hM.1 2 (by decide)).trans hS.2.2.1.1]; exact ⟨fun c => absurd c c0, fun _ => ⟨fun c => absurd c c1, fun _ => ⟨fun c => absurd c c2, fun _ => ⟨fun _ => DM_rf hM (by decide), fun c => absurd c3 c⟩⟩⟩⟩)⟩)
        · have c3b : b < nI 1024 := by rw [Int32.lt_iff_toInt_lt]; rw [Int32.le_iff_toInt_le] at c3; omega
          by_cases c4 : cK (Z 104) < 4
          · obtain ⟨x, hx, ea⟩ := arg_in (by decide) c0 c1
            obtain ⟨y, hy, eb⟩ := arg_in (by decide) c2 c3
            obtain ⟨n, hn⟩ : ∃ n, n = cK (Z 104) := ⟨_, rfl⟩
            refine joint (Z' := stK Z n (nI x) (nI y)) (x := nI n) (C := fun s p => IN_X11_step AF s [.ref 0, .int a, .int b] p) (M := fun s p => IN_X12_step AF s [.ref 102, .int a, .int b] p) (hI.step hn.symm (by omega) hx hy) hM ?_ (fun t hM => ?_)
            · refine ⟨⟨_, _, rfl, rfl, Nat.le_of_ble_eq_true rfl, rc_0⟩, Nat.le_of_ble_eq_true rfl, g_X11_step_0 ?_⟩
              rw [show σ 77 0 = nI (cK (Z 104)) from hC.2.2.2.2.1.1.trans hS.2.2.1.1]
              refine ⟨fun c => absurd c c0, fun _ => ⟨fun c => absurd c c1, fun _ => ⟨fun c => absurd c c2, fun _ => ⟨fun _ => ⟨fun _ => ?_, fun c => absurd (nI_lt c4 (by decide)) c⟩, fun c => absurd c3b c⟩⟩⟩⟩
              subst ea
              subst eb
              rw [← hn]
              refine ⟨n, rfl, by omega, fun s20 e20 => ⟨n, ?_, by omega, fun s24 e24 => ⟨n, ?_, by omega, fun s28 e28 s29 e29 => ?_⟩⟩⟩
              · rw [e20, up_k (by decide), hn]; exact hC.2.2.2.2.1.1.trans hS.2.2.1.1
              · rw [e24, up_k (by decide), e20, up_k (by decide), hn]; exact hC.2.2.2.2.1.1.trans hS.2.2.1.1
              have k77 : s28 77 0 = nI n := by rw [e28, up_k (by decide), e24, up_k (by decide), e20, up_k (by decide), hn]; exact hC.2.2.2.2.1.1.trans hS.2.2.1.1
              rw [k77, nI_add] at e29
              have fr : ∀ k, k ≠ 77 → k ≠ 78 → k ≠ 79 → k ≠ 80 → s29 k = σ k := fun k a b c d => by rw [e29, up_k a, e28, up_k d, e24, up_k c, e20, up_k b]
              have e : ∀ j, j ≠ 2 → j < 185 → stK Z n (nI x) (nI y) 104 j = Z 104 j := fun j h h' => stK_o h (by omega)
              have hY := hC.2.2.2.2.1
              refine ⟨by rw [e29, up_s, nI_subN (by omega), Nat.add_sub_cancel], hC.csE hI (fun k hk => stK_k hk) (ys_cs e) (fun k a b c => fr k (by omega) (by omega) (by omega) (by omega)) ((hC.2.2.2.1.fr (fun k a b => fr k (by omega) (by omega) (by omega) (by omega))).y e) ⟨by rw [e29, up_s, stK_2], fun k' hk' => ?_⟩, fun k hk => fr k (by omega) (by omega) (by omega) (by omega)⟩
              rw [stK_K (by omega)] at hk'
              have v78 : s29 78 k' = if k' = n then nI x else σ 78 k' := by
                rw [e29, up_k (by decide), e28, up_k (by decide), e24, up_k (by decide), e20]
                by_cases d : k' = n
                · rw [d, up_s, if_pos rfl]
                · rw [up_j d, if_neg d]
              have v79 : s29 79 k' = if k' = n then nI y else σ 79 k' := by
                rw [e29, up_k (by decide), e28, up_k (by decide), e24]
                by_cases d : k' = n
                · rw [d, up_s, if_pos rfl]
                · rw [up_j d, if_neg d, e20, up_k (by decide)]
              have v80 : s29 80 k' = if k' = n then nI 0 else σ 80 k' := by
                rw [e29, up_k (by decide), e28]
                by_cases d : k' = n
                · rw [d, up_s, if_pos rfl]
                · rw [up_j d, if_neg d, e24, up_k (by decide), e20, up_k (by decide)]
              rw [v78, v79, v80]
              by_cases d : k' = n
              · obtain ⟨q1, q2, q3⟩ := stK_n (Z := Z) (n := n) (a := nI x) (b := nI y)
                rw [if_pos d, if_pos d, if_pos d, d]
                obtain ⟨p1, p2, p3⟩ := step_val q1 q2 q3 (by omega) (by omega) (by decide)
                rw [p1, p2, p3]
                exact ⟨rfl, rfl, rfl⟩
              · rw [if_neg d, if_neg d, if_neg d, pls_e (S := Z 104) (stK_o (by omega) (by omega)), rws_e (S := Z 104) (stK_o (by omega) (by omega)), see_e (S := Z 104) (stK_o (by omega) (by omega))]
                exact hY.2 k' (by omega)
            · refine ⟨⟨_, _, rfl, rfl, Nat.le_of_ble_eq_true rfl, rc_102⟩, Nat.le_of_ble_eq_true rfl, g_X12_step_0 ?_⟩
              rw [show t 104 2 = nI (cK (Z 104)) from (hM.1 2 (by decide)).trans hS.2.2.1.1]
              refine ⟨fun c => absurd c c0, fun _ => ⟨fun c => absurd c c1, fun _ => ⟨fun c => absurd c c2, fun _ => ⟨fun c => absurd c c3, fun _ => ⟨fun _ => ?_, fun c => absurd c (fun z => by rw [nI_eq (by omega) (by decide)] at z; omega)⟩⟩⟩⟩⟩
              subst ea
              subst eb
              rw [← hn]
              have ix : ∀ c, ((nI 185) + ((nI 3) * nI n)) + nI c = nI (185 + 3 * n + c) := fun c => by rw [pk_mul, nI_add, nI_add]
              refine ⟨185 + 3 * n, by rw [pk_mul, nI_add], by omega, fun s25 e25 => ⟨185 + 3 * n + 1, ix 1, by omega, fun s29 e29 => ⟨185 + 3 * n + 2, ix 2, by omega, fun s33 e33 s34 e34 => ?_⟩⟩⟩
              have k2 : s33 104 2 = nI n := by rw [e33, up_j (by omega), e29, up_j (by omega), e25, up_j (by omega), hn]; exact (hM.1 2 (by decide)).trans hS.2.2.1.1
              rw [k2, nI_add] at e34
              refine ⟨by rw [e34, up_s, nI_subN (by omega), Nat.add_sub_cancel], hM.re (fun k hk => stK_k hk) ?_ (fun k a b c => ?_) (fun j a => ?_), fun k hk => ?_⟩
              · rw [e34, e33, e29, e25]
                exact (((hM.1.up _ _).up _ _).up _ _).up _ _
              · rw [e34, up_k (by omega), e33, up_k (by omega), e29, up_k (by omega), e25, up_k (by omega)]
              · rw [e34, up_k (by omega), e33, up_k (by omega), e29, up_k (by omega), e25, up_k (by omega)]
              · rw [e34, up_k (by omega), e33, up_k (by omega), e29, up_k (by omega), e25, up_k (by omega)]
          · exact joint (Z' := rf Z 6) (x := -6) (C := fun s p => IN_X11_step AF s [.ref 0, .int a, .int b] p) (M := fun s p => IN_X12_step AF s [.ref 102, .int a, .int b] p) (hI.rf 6) hM ⟨⟨_, _, rfl, rfl, Nat.le_of_ble_eq_true rfl, rc_0⟩, Nat.le_of_ble_eq_true rfl, g_X11_step_0 (by rw [show σ 77 0 = nI (cK (Z 104)) from hC.2.2.2.2.1.1.trans hS.2.2.1.1]; exact ⟨fun c => absurd c c0, fun _ => ⟨fun c => absurd c c1, fun _ => ⟨fun c => absurd c c2, fun _ => ⟨fun _ => ⟨fun c => absurd c (nI_nlt (by omega) (by omega)), fun _ => DC_rf hC hI (by decide) (by decide)⟩, fun c => absurd c3b c⟩⟩⟩⟩)⟩ (fun t hM => ⟨⟨_, _, rfl, rfl, Nat.le_of_ble_eq_true rfl, rc_102⟩, Nat.le_of_ble_eq_true rfl, g_X12_step_0 (by rw [show t 104 2 = nI (cK (Z 104)) from (hM.1 2 (by decide)).trans hS.2.2.1.1]; exact ⟨fun c => absurd c c0, fun _ => ⟨fun c => absurd c c1, fun _ => ⟨fun c => absurd c c2, fun _ => ⟨fun c => absurd c c3, fun _ => ⟨fun c => absurd (by rw [show cK (Z 104) = 4 by omega]) c, fun _ => DM_rf hM (by decide)⟩⟩⟩⟩⟩)⟩)
def sR (S : Nat → Int32) (k w : Nat) : Nat → Int32 := fun j => if j = 185 + 3 * k + 1 then nI w else S j
theorem sR_o {S : Nat → Int32} {k w j : Nat} (h : j ≠ 185 + 3 * k + 1) : sR S k w j = S j := if_neg h
theorem sR_n {S : Nat → Int32} {k w : Nat} : sR S k w (185 + 3 * k + 1) = nI w := if_pos rfl
theorem sR_K {S : Nat → Int32} {k w : Nat} : cK (sR S k w) = cK S := congrArg na (sR_o (by omega))
theorem IS_sR {S : Nat → Int32} (hS : IS S) {k w : Nat} (hw : w < 1024) : IS (sR S k w) := by
  have e : ∀ j, j ≠ 2 → j < 185 → sR S k w j = S j := fun j _ h => sR_o (by omega)
  refine IS_of hS (ys_cs e) (by rw [sR_K, sR_o (by omega)]; exact hS.2.2.1) (hS.2.2.2.2.2.2.1.y e) (fun k' hk' => ?_)
  rw [sR_K] at hk'
  obtain ⟨q1, q2, q3, q4, q5, q6⟩ := hS.2.2.2.2.2.2.2 k' hk'
  refine step_raw ⟨⟨_, (sR_o (by omega)).trans q1, q2⟩, ?_, ⟨_, (sR_o (by omega)).trans q5, q6⟩⟩
  by_cases d : k' = k
  · rw [d]; exact ⟨w, sR_n, hw⟩
  · exact ⟨_, (sR_o (by omega)).trans q3, q4⟩
theorem CY_sR {S : Nat → Int32} {σ τ : SG} (hY : CY S σ) {k w : Nat} (hw : w < 1024) (a : ∀ x, x = 77 ∨ x = 78 ∨ x = 80 → τ x = σ x) (a1 : ∀ j, j ≠ k → τ 79 j = σ 79 j) (a2 : τ 79 k = nI w) : CY (sR S k w) τ := by
  refine ⟨by rw [a 77 (by decide), sR_o (by omega)]; exact hY.1, fun k' hk' => ?_⟩
  rw [sR_K] at hk'
  obtain ⟨q1, q2, q3⟩ := hY.2 k' hk'
  refine ⟨by rw [a 78 (by decide), pls_e (S := S) (sR_o (by omega))]; exact q1, ?_, by rw [a 80 (by decide), see_e (S := S) (sR_o (by omega))]; exact q3⟩
  by_cases d : k' = k
  · rw [d, a2]
    unfold rws
    rw [sR_n, na_nI (by omega)]
  · rw [a1 k' d, rws_e (S := S) (sR_o (by omega))]; exact q2
theorem orR_all : (List.range 10).all (fun r => (List.range 1024).all fun w => decide ((nI w ||| (nI 1 <<< (nI r &&& 31))) = nI (w ||| 2 ^ r) ∧ w ||| 2 ^ r < 1024)) = true := by decide +kernel
theorem orR {r w : Nat} (hr : r < 10) (hw : w < 1024) : (nI w ||| (nI 1 <<< (nI r &&& 31))) = nI (w ||| 2 ^ r) ∧ w ||| 2 ^ r < 1024 := of_decide_eq_true (List.all_eq_true.mp (List.all_eq_true.mp orR_all r (List.mem_range.mpr hr)) w (List.mem_range.mpr hw))
def lnF (S : Nat → Int32) (k w : Nat) : Nat → Nat → Int32 → Int32 → Int32
  | 0, _, _, be => be
  | f + 1, r, mo, be => if w.testBit r = true then lnF S k w f (r + 1) mo be else
    if nI (svN (sR S k (w ||| 2 ^ r)) 720) ≤ mo then lnF S k w f (r + 1) mo be else lnF S k w f (r + 1) (nI (svN (sR S k (w ||| 2 ^ r)) 720)) (nI r)
theorem clearn {S : Nat → Int32} (hS : IS S) {σ : SG} (hO : CO σ) (hW : CW S σ) (hY : CY S σ) {k : Nat} (hk : k < cK S) {post : SG → Int32 → Prop} :
    ∀ f r, r + f = cR S → ∀ mo be (s : SG), (∀ x, x ≠ 79 → x ≠ 81 → x ≠ 82 → s x = σ x) → (∀ j, j ≠ k → s 79 j = σ 79 j) → (∀ τ : SG, (∀ x, x ≠ 81 → x ≠ 82 → τ x = σ x) → post τ (lnF S k (rws S k) f r mo be)) → T_X11_learn AF post 46 [.ref 0, .int (nI k), .int (nI (rws S k)), .int mo, .int be, .int (nI r), dum] [] s := by
  have hR := hS.2.1.2
  have hK := hS.2.2.1.2
  have hw := (hS.2.2.2.2.2.2.2 k hk).2.2.2.1
  have e36 : ∀ s : SG, (∀ x, x ≠ 79 → x ≠ 81 → x ≠ 82 → s x = σ x) → s 36 0 = nI (cR S) := fun s h => by rw [h 36 (by decide) (by decide) (by decide)]; exact hW.1.trans hS.2.1.1
  intro f
  induction f with
  | zero =>
    intro r hr mo be s h1 h2 K
    obtain rfl : r = cR S := by omega
    apply g_X11_learn_46
    rw [e36 s h1]
    refine ⟨fun _ => ⟨by omega, fun s3 es => K s3 (fun x a b => ?_)⟩, fun c => absurd (nI_le (Nat.le_refl _) (by omega)) c⟩
    subst es
    by_cases d : x = 79
    · rw [d]
      funext j
      by_cases e : j = k
      · rw [e, up_s]; exact (hY.2 k hk).2.1.symm
      · rw [up_j e]; exact h2 j e
    · rw [up_k d]; exact h1 x d a b
  | succ f ih =>
    intro r hr mo be s h1 h2 K
    have hr10 : r < 10 := by omega
    obtain ⟨o1, o2⟩ := orR hr10 hw
    rw [lnF] at K
    apply g_X11_learn_46
    rw [e36 s h1, bit0 hw hr10, o1]
    refine ⟨fun c => absurd c (nI_ge (by omega) (by omega)), fun _ => ⟨fun c => ?_, fun c => ⟨by omega, fun s6 es => ?_⟩⟩⟩
    · have c := Classical.not_not.mp c
      exact ih (r + 1) (by omega) mo be s h1 h2 (fun τ hτ => by have k := K τ hτ; rwa [if_pos c] at k)
    · have f6 : ∀ x, x ≠ 79 → x ≠ 81 → x ≠ 82 → s6 x = σ x := fun x a b c => by rw [es, up_k a]; exact h1 x a b c
      have g6 : ∀ j, j ≠ k → s6 79 j = σ 79 j := fun j hj => by rw [es, up_j hj]; exact h2 j hj
      have h6 : s6 79 k = nI (rws S k ||| 2 ^ r) := by rw [es, up_s]
      have e : ∀ j, j ≠ 2 → j < 185 → sR S k (rws S k ||| 2 ^ r) j = S j := fun j _ h => sR_o (by omega)
      refine ⟨fun τ x => x = nI (svN (sR S k (rws S k ||| 2 ^ r)) 720) ∧ ∀ x, x ≠ 81 → x ≠ 82 → τ x = s6 x, ok_solved (IS_sR hS o2) (hO.fr (fun x a b => f6 x (by omega) (by omega) (by omega))) ((hW.fr hS (fun x a b => f6 x (by omega) (by omega) (by omega))).csE hS (ys_cs e)) (CY_sR hY o2 (fun x hx => f6 x (by omega) (by omega) (by omega)) g6 h6) (fun τ c => ⟨rfl, c⟩), ?_⟩
      rintro t x ⟨rfl, ht⟩
      have ft : ∀ x, x ≠ 79 → x ≠ 81 → x ≠ 82 → t x = σ x := fun x a b c => by rw [ht x b c]; exact f6 x a b c
      have gt : ∀ j, j ≠ k → t 79 j = σ 79 j := fun j hj => by rw [ht 79 (by decide) (by decide)]; exact g6 j hj
      refine ⟨fun d => ih (r + 1) (by omega) mo be t ft gt (fun τ hτ => ?_), fun d => ih (r + 1) (by omega) _ _ t ft gt (fun τ hτ => ?_)⟩
      · have k := K τ hτ; rwa [if_neg c, if_pos d] at k
      · have k := K τ hτ; rwa [if_neg c, if_neg d] at k
theorem mlearn {S : Nat → Int32} (hS : IS S) {σ : SG} (hM : FS S σ) {k : Nat} (hk : k < cK S) {post : SG → Int32 → Prop} :
    ∀ f r, r + f = cR S → ∀ mo be (s : SG), (∀ x, x ≠ 104 → x ≠ 102 → x ≠ 108 → x ≠ 115 → x ≠ 116 → x ≠ 117 → s x = σ x) → (∀ j, j ≠ 22 → s 102 j = σ 102 j) → (∀ j, j ≠ 185 + 3 * k + 1 → s 104 j = σ 104 j) → (∀ τ : SG, GF σ τ → post τ (lnF S k (rws S k) f r mo be)) → T_X12_learn AF post 33 [.ref 102, .int (nI k), .int (nI (rws S k)), .int mo, .int be, .int (nI r), dum] [] s := by
  have hR := hS.2.1.2
  have hK := hS.2.2.1.2
  have hw := (hS.2.2.2.2.2.2.2 k hk).2.2.2.1
  have e1 : ∀ s : SG, (∀ j, j ≠ 185 + 3 * k + 1 → s 104 j = σ 104 j) → s 104 1 = nI (cR S) := fun s h => by rw [h 1 (by omega), hM 1 (by decide)]; exact hS.2.1.1
  intro f
  induction f with
  | zero =>
    intro r hr mo be s h1 h2 h3 K
    obtain rfl : r = cR S := by omega
    apply g_X12_learn_33
    rw [e1 s h3]
    refine ⟨fun _ => ⟨by omega, fun s3 es => K s3 ⟨fun x a b c d e => ?_, fun j hj => ?_⟩⟩, fun c => absurd (nI_le (Nat.le_refl _) (by omega)) c⟩
    · subst es
      by_cases z : x = 104
      · rw [z]
        funext j
        by_cases w : j = 185 + 3 * k + 1
        · rw [w, up_s, hM _ (by omega)]; exact (hS.2.2.2.2.2.2.2 k hk).2.2.1.symm
        · rw [up_j w]; exact h3 j w
      · rw [up_k z]; exact h1 x z a b c d e
    · rw [es, up_k (by decide)]; exact h2 j hj
  | succ f ih =>
    intro r hr mo be s h1 h2 h3 K
    have hr10 : r < 10 := by omega
    obtain ⟨o1, o2⟩ := orR hr10 hw
    rw [lnF] at K
    apply g_X12_learn_33
    rw [e1 s h3, bit1 hw hr10, o1]
    refine ⟨fun c => absurd c (nI_ge (by omega) (by omega)), fun _ => ⟨fun c => ⟨by omega, fun s6 es => ?_⟩, fun c => ?_⟩⟩
    · have f6 : ∀ x, x ≠ 104 → x ≠ 102 → x ≠ 108 → x ≠ 115 → x ≠ 116 → x ≠ 117 → s6 x = σ x := fun x z a b c d e => by rw [es, up_k z]; exact h1 x z a b c d e
      have g6 : ∀ j, j ≠ 185 + 3 * k + 1 → s6 104 j = σ 104 j := fun j hj => by rw [es, up_j hj]; exact h3 j hj
      have m6 : MS (sR S k (rws S k ||| 2 ^ r)) s6 := fun j hj _ => by
        by_cases w : j = 185 + 3 * k + 1
        · rw [w, es, up_s, sR_n]
        · rw [g6 j w, sR_o w]; exact hM j hj
      refine ⟨fun τ x => x = nI (svN (sR S k (rws S k ||| 2 ^ r)) 720) ∧ GF s6 τ, ok_solvesOf (IS_sR hS o2) m6 (fun τ c => ⟨rfl, c⟩), ?_⟩
      rintro t x ⟨rfl, ht⟩
      have ft : ∀ x, x ≠ 104 → x ≠ 102 → x ≠ 108 → x ≠ 115 → x ≠ 116 → x ≠ 117 → t x = σ x := fun x z a b c d e => by rw [ht.1 x a b c d e]; exact f6 x z a b c d e
      have f2 : ∀ j, j ≠ 22 → t 102 j = σ 102 j := fun j hj => by rw [ht.2 j hj, es, up_k (by decide)]; exact h2 j hj
      have gt : ∀ j, j ≠ 185 + 3 * k + 1 → t 104 j = σ 104 j := fun j hj => by rw [ht.1 104 (by decide) (by decide) (by decide) (by decide) (by decide)]; exact g6 j hj
      refine ⟨fun d => ih (r + 1) (by omega) _ _ t ft f2 gt (fun τ hτ => ?_), fun d => ih (r + 1) (by omega) mo be t ft f2 gt (fun τ hτ => ?_)⟩
      · have k := K τ hτ
        rwa [if_neg c, if_neg (fun z => by rw [Int32.lt_iff_toInt_lt] at d; rw [Int32.le_iff_toInt_le] at z; omega)] at k
      · have k := K τ hτ
        rwa [if_neg c, if_pos (by rw [Int32.lt_iff_toInt_lt] at d; rw [Int32.le_iff_toInt_le]; omega)] at k
    · exact ih (r + 1) (by omega) mo be s h1 h2 h3 (fun τ hτ => by have k := K τ hτ; rwa [if_pos c] at k)
theorem J_learn {Z σ : SG} (hI : KI Z) (hC : KC Z σ) (hM : KM Z σ) (a : Int32) : ∃ p, IN_X11_learn AF σ [.ref 0, .int a] p ∧ ∀ t r, p t r → ∃ q, IN_X12_learn AF t [.ref 102, .int a] q ∧ ∀ t' r', q t' r' → r = r' ∧ KK t' := by
  have hS := hI.1
  have hK := hS.2.2.1.2
  by_cases c0 : a < 0
  · exact joint (Z' := rf Z 1) (x := -1) (C := fun s p => IN_X11_learn AF s [.ref 0, .int a] p) (M := fun s p => IN_X12_learn AF s [.ref 102, .int a] p) (hI.rf 1) hM ⟨⟨_, _, rfl, rfl, Nat.le_of_ble_eq_true rfl, rc_0⟩, Nat.le_of_ble_eq_true rfl, g_X11_learn_0 (by rw [show σ 77 0 = nI (cK (Z 104)) from hC.2.2.2.2.1.1.trans hS.2.2.1.1]; exact ⟨fun _ => DC_rf hC hI (by decide) (by decide), fun c => absurd c0 c⟩)⟩ (fun t hM => ⟨⟨_, _, rfl, rfl, Nat.le_of_ble_eq_true rfl, rc_102⟩, Nat.le_of_ble_eq_true rfl, g_X12_learn_0 (by rw [show t 104 2 = nI (cK (Z 104)) from (hM.1 2 (by decide)).trans hS.2.2.1.1]; exact ⟨fun _ => DM_rf hM (by decide), fun c => absurd c0 c⟩)⟩)
  · by_cases c1 : nI (cK (Z 104)) ≤ a
    · exact joint (Z' := rf Z 1) (x := -1) (C := fun s p => IN_X11_learn AF s [.ref 0, .int a] p) (M := fun s p => IN_X12_learn AF s [.ref 102, .int a] p) (hI.rf 1) hM ⟨⟨_, _, rfl, rfl, Nat.le_of_ble_eq_true rfl, rc_0⟩, Nat.le_of_ble_eq_true rfl, g_X11_learn_0 (by rw [show σ 77 0 = nI (cK (Z 104)) from hC.2.2.2.2.1.1.trans hS.2.2.1.1]; exact ⟨fun c => absurd c c0, fun _ => ⟨fun _ => DC_rf hC hI (by decide) (by decide), fun c => absurd c1 c⟩⟩)⟩ (fun t hM => ⟨⟨_, _, rfl, rfl, Nat.le_of_ble_eq_true rfl, rc_102⟩, Nat.le_of_ble_eq_true rfl, g_X12_learn_0 (by rw [show t 104 2 = nI (cK (Z 104)) from (hM.1 2 (by decide)).trans hS.2.2.1.1]; exact ⟨fun c => absurd c c0, fun _ => ⟨fun _ => DM_rf hM (by decide), fun c => absurd c1 c⟩⟩)⟩)
    · obtain ⟨k0, hk0, ea⟩ := arg_in (by omega) c0 c1
      refine joint (Z' := Z) (x := lnF (Z 104) k0 (rws (Z 104) k0) (cR (Z 104)) 0 (nI (svN (Z 104) 720)) (-9)) (C := fun s p => IN_X11_learn AF s [.ref 0, .int a] p) (M := fun s p => IN_X12_learn AF s [.ref 102, .int a] p) hI hM ?_ (fun t hM => ?_)
      · refine ⟨⟨_, _, rfl, rfl, Nat.le_of_ble_eq_true rfl, rc_0⟩, Nat.le_of_ble_eq_true rfl, g_X11_learn_0 ?_⟩
        rw [show σ 77 0 = nI (cK (Z 104)) from hC.2.2.2.2.1.1.trans hS.2.2.1.1]
        refine ⟨fun c => absurd c c0, fun _ => ⟨fun c => absurd c c1, fun _ => ?_⟩⟩
        subst ea
        refine ⟨k0, rfl, by omega, fun τ x => x = nI (svN (Z 104) 720) ∧ ∀ x, x ≠ 81 → x ≠ 82 → τ x = σ x, ok_solved hS hC.1 hC.2.2.1 hC.2.2.2.2.1 (fun τ c => ⟨rfl, c⟩), ?_⟩
        rintro t x ⟨rfl, ht⟩
        rw [(hC.2.2.2.2.1.2 k0 hk0).2.1]
        exact clearn hS hC.1 hC.2.2.1 hC.2.2.2.2.1 hk0 (cR (Z 104)) 0 (Nat.zero_add _) _ _ t (fun x _ a b => ht x a b) (fun j _ => by rw [ht 79 (by decide) (by decide)]) (fun τ h => DC_8 hC hI h)
      · refine ⟨⟨_, _, rfl, rfl, Nat.le_of_ble_eq_true rfl, rc_102⟩, Nat.le_of_ble_eq_true rfl, g_X12_learn_0 ?_⟩
        rw [show t 104 2 = nI (cK (Z 104)) from (hM.1 2 (by decide)).trans hS.2.2.1.1]
        refine ⟨fun c => absurd c c0, fun _ => ⟨fun c => absurd c c1, fun _ => ?_⟩⟩
        subst ea
        refine ⟨185 + 3 * k0 + 1, by rw [pk_mul, nI_add, nI_add], by omega, fun τ x => x = nI (svN (Z 104) 720) ∧ GF t τ, ok_solvesOf hS hM.1.ms (fun τ c => ⟨rfl, c⟩), ?_⟩
        rintro t2 x ⟨rfl, ht⟩
        rw [hM.1 (185 + 3 * k0 + 1) (by omega), (hS.2.2.2.2.2.2.2 k0 hk0).2.2.1]
        exact mlearn hS hM.1 hk0 (cR (Z 104)) 0 (Nat.zero_add _) _ _ t2 (fun x _ a b c d e => ht.1 x a b c d e) (fun j hj => ht.2 j hj) (fun j _ => by rw [ht.1 104 (by decide) (by decide) (by decide) (by decide) (by decide)]) (fun τ h => DM_gf hM h)
