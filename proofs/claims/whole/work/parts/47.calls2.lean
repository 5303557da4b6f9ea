/-! NOW changes: make, makeRow, put -/
theorem out_eq {S S' : Nat → Int32} (h : ∀ j, (j < 5 ∨ 11 ≤ j) → S' j = S j) : cT S' = cT S ∧ cR S' = cR S ∧ cK S' = cK S ∧ gT S' = gT S ∧ ln S' = ln S ∧ mv S' = mv S ∧ ti S' = ti S ∧ ba S' = ba S ∧ af S' = af S ∧ pls S' = pls S ∧ rws S' = rws S ∧ see S' = see S := by
  refine ⟨congrArg na (h 0 (by decide)), congrArg na (h 1 (by decide)), congrArg na (h 2 (by decide)), funext fun t => funext fun p => congrArg na (h _ (by omega)), funext fun r => congrArg na (h _ (by omega)), funext fun r => funext fun i => congrArg na (h _ (by omega)), funext fun r => congrArg na (h _ (by omega)), funext fun r => congrArg na (h _ (by omega)), funext fun a => funext fun c => h _ (by omega), funext fun r => congrArg na (h _ (by omega)), funext fun r => congrArg na (h _ (by omega)), funext fun r => congrArg na (h _ (by omega))⟩
theorem out_gm {S S' : Nat → Int32} (h : ∀ j, (j < 5 ∨ 11 ≤ j) → S' j = S j) : gm S' = gm S ∧ mo S' = mo S := by
  have e := (out_eq h).2.2.2.1
  have e1 : gm S' = gm S := funext fun m => by unfold gm; rw [e]
  exact ⟨e1, funext fun m => funext fun o => by unfold mo; rw [e1]⟩
theorem out_en {S S' : Nat → Int32} (h : ∀ j, (j < 5 ∨ 11 ≤ j) → S' j = S j) : ∀ r i o, en S' r i o = en S r i o
  | r, 0, o => rfl
  | r, i + 1, o => by
    rw [en, en, out_en h r i o, (out_gm h).2, (out_eq h).2.2.2.2.2.1]
theorem out_eo {S S' : Nat → Int32} (h : ∀ j, (j < 5 ∨ 11 ≤ j) → S' j = S j) : eo S' = eo S := funext fun r => funext fun o => by
  unfold eo; rw [out_en h, (out_eq h).2.2.2.2.1]
theorem now_nw {S' : Nat → Int32} {o : Nat} (ho : o < 720) (h2 : ∀ p, p < 6 → S' (5 + p) = nI (P o p)) : ∀ p, p < 6 → nw S' p = P o p := fun p hp => by
  unfold nw
  have := (P_ok ho).1.1 p hp
  rw [h2 p hp, na_nI (by omega)]
theorem now_cur {S' : Nat → Int32} {o : Nat} (ho : o < 720) (h2 : ∀ p, p < 6 → S' (5 + p) = nI (P o p)) : cur S' = o := by
  unfold cur
  rw [rk_cong (now_nw ho h2)]
  exact (P_ok ho).2
theorem IS_now {S S' : Nat → Int32} (hS : IS S) {o : Nat} (ho : o < 720) (h : ∀ j, (j < 5 ∨ 11 ≤ j) → S' j = S j) (h2 : ∀ p, p < 6 → S' (5 + p) = nI (P o p)) : IS S' := by
  obtain ⟨e1, e2, e3, e4, e5, e6, e7, e8, e9, e10, e11, e12⟩ := out_eq h
  obtain ⟨g1, g2, g3, g4, g5, g6, g7, g8⟩ := hS
  unfold IS IH
  rw [e1, e2, e3, e4, e5, e6, e7, e8, e9, e10, e11, e12]
  refine ⟨by rw [h 0 (by decide)]; exact g1, by rw [h 1 (by decide)]; exact g2, by rw [h 2 (by decide)]; exact g3, fun t ht => ⟨fun p hp => by rw [h _ (by omega)]; exact (g4 t ht).1 p hp, (g4 t ht).2⟩, fun r hr => ?_, ⟨fun p hp => by rw [now_nw ho h2 p hp]; exact h2 p hp, PM.cong (P_ok ho).1 (fun p hp => (now_nw ho h2 p hp).symm)⟩, ⟨fun t ht => ?_, g7.2.1, fun t a b => ?_, ?_⟩, fun k hk => ?_⟩
  · obtain ⟨q1, q2, q3, q4⟩ := g5 r hr
    exact ⟨by rw [h _ (by omega)]; exact q1, q2, q3, fun i hi => by rw [h _ (by omega)]; exact q4 i hi⟩
  · rw [h (47 + t) (by omega), h (53 + t) (by omega)]; exact g7.1 t ht
  · rw [h (47 + t) (by omega), h (53 + t) (by omega)]; exact g7.2.2.1 t a b
  · rw [h 3 (by decide), h 4 (by decide)]; exact g7.2.2.2
  · rw [h (185 + 3 * k) (by omega), h (185 + 3 * k + 1) (by omega), h (185 + 3 * k + 2) (by omega)]; exact g8 k hk
def stN (Z : SG) (o : Nat) : SG := fun k j => if k = 104 ∧ 5 ≤ j ∧ j < 11 then nI (P o (j - 5)) else Z k j
theorem stN_k {Z : SG} {o k : Nat} (h : k ≠ 104) : stN Z o k = Z k := funext fun j => if_neg fun z => h z.1
theorem stN_o {Z : SG} {o j : Nat} (h : j < 5 ∨ 11 ≤ j) : stN Z o 104 j = Z 104 j := if_neg fun z => by omega
theorem stN_n {Z : SG} {o p : Nat} (h : p < 6) : stN Z o 104 (5 + p) = nI (P o p) := by
  show (if 104 = 104 ∧ 5 ≤ 5 + p ∧ 5 + p < 11 then nI (P o (5 + p - 5)) else Z 104 (5 + p)) = _
  rw [if_pos ⟨rfl, by omega, by omega⟩, Nat.add_sub_cancel_left]
theorem KI.now {Z : SG} (h : KI Z) {o : Nat} (ho : o < 720) : KI (stN Z o) := by
  have out : ∀ j, (j < 5 ∨ 11 ≤ j) → stN Z o 104 j = Z 104 j := fun j hj => stN_o hj
  obtain ⟨g1, g2, g3⟩ := h
  unfold KI
  rw [stN_k (k := 102) (by decide), stN_k (k := 105) (by decide), stN_k (k := 106) (by decide), stN_k (k := 118) (by decide), stN_k (k := 119) (by decide)]
  refine ⟨IS_now g1 ho out (fun p hp => stN_n hp), ?_, g3⟩
  rcases g2 with g | ⟨g, q1, q2, q3, q4, q5, q6, q7⟩
  · exact Or.inl g
  · obtain ⟨e1, e2, e3, _⟩ := out_eq out
    refine Or.inr ⟨g, q1, by rw [e1]; exact q2, by rw [e2]; exact q3, by rw [e3]; exact q4, fun t p a b => by rw [out _ (by omega)]; exact q5 t p a b, fun r j a b => by rw [out _ (by omega)]; exact q6 r j a b, fun k a => by rw [out _ (by omega), out _ (by omega)]; exact q7 k a⟩
theorem KC.now {Z σ : SG} (h : KC Z σ) (hI : KI Z) {o : Nat} (ho : o < 720) : KC (stN Z o) (up σ 0 12 (nI o)) := by
  have out : ∀ j, (j < 5 ∨ 11 ≤ j) → stN Z o 104 j = Z 104 j := fun j hj => stN_o hj
  have f : ∀ k, k ≠ 0 → up σ 0 12 (nI o) k = σ k := fun k hk => up_k hk
  have hS := hI.1
  obtain ⟨e1, e2, e3, e4, e5, e6, e7, e8, e9, e10, e11, e12⟩ := out_eq out
  obtain ⟨m1, m2⟩ := out_gm out
  obtain ⟨g1, g2, g3, g4, g5, g6, g7, g8, g9, g10, g11, g12⟩ := h
  unfold KC KF KT KV KL KP KR CN_ CU CW CH CY
  rw [stN_k (k := 102) (by decide), stN_k (k := 105) (by decide), stN_k (k := 106) (by decide), stN_k (k := 118) (by decide), stN_k (k := 119) (by decide), stN_k (k := 109) (by decide), stN_k (k := 103) (by decide)]
  rw [e1, e2, e3, e5, e6, e9, e10, e11, e12, m1, m2, out_eo out, out 0 (by decide), out 1 (by decide), out 2 (by decide), out 3 (by decide), out 4 (by decide), now_cur ho (fun p hp => stN_n hp)]
  have q2 := g2.fr hS (τ := up σ 0 12 (nI o)) (fun k a b => f k (by omega))
  have q3 := g3.fr hS (τ := up σ 0 12 (nI o)) (fun k a b => f k (by omega))
  have q4 := g4.fr (τ := up σ 0 12 (nI o)) (fun k a b => f k (by omega))
  have q5 := g5.fr (τ := up σ 0 12 (nI o)) (fun k a b => f k (by omega))
  refine ⟨g1.fr (fun k a b => f k (by omega)), q2, q3, ⟨fun t ht => ?_, q4.2⟩, q5, by rw [up_s], g7, g8, g9, g10, ⟨g11.1, fun z => ?_⟩, g12⟩
  · rw [out (47 + t) (by omega), out (53 + t) (by omega)]
    exact q4.1 t ht
  · obtain ⟨q1, q2, q3, q4, q5, q6⟩ := g11.2 z
    refine ⟨q1, q2, q3, q4, fun t ht => ?_, q6⟩
    rw [f (92 + 1 + t) (by omega)]
    exact q5 t ht
theorem KM.now {Z σ τ : SG} (h : KM Z σ) {o : Nat} (hP : PL τ 104 5 o) (a : ∀ j, (j < 5 ∨ 5 + 6 ≤ j) → τ 104 j = σ 104 j) (b : ∀ k, k ≠ 104 → k ≠ 108 → τ k = σ k) : KM (stN Z o) τ := by
  obtain ⟨g1, g2, g3, g4, g5, g6, g7, g8⟩ := h
  unfold KM FS
  rw [stN_k (k := 102) (by decide), stN_k (k := 105) (by decide), stN_k (k := 106) (by decide), stN_k (k := 118) (by decide), stN_k (k := 119) (by decide), stN_k (k := 109) (by decide), stN_k (k := 103) (by decide)]
  rw [b 102 (by decide) (by decide), b 105 (by decide) (by decide), b 106 (by decide) (by decide), b 118 (by decide) (by decide), b 119 (by decide) (by decide), b 109 (by decide) (by decide), b 103 (by decide) (by decide)]
  refine ⟨fun j hj => ?_, g2, g3, g4, g5, g6, g7, g8⟩
  by_cases c : j < 5 ∨ 11 ≤ j
  · rw [stN_o c, a j (by omega)]; exact g1 j hj
  · obtain ⟨p, rfl⟩ : ∃ p, j = 5 + p := ⟨j - 5, by omega⟩
    rw [stN_n (by omega)]
    exact hP p (by omega)
theorem now_PL {Z σ : SG} (hS : IS (Z 104)) (h : KM Z σ) : PL σ 104 5 (cur (Z 104)) := fun p hp => by rw [h.1 (5 + p) (by omega), hS.2.2.2.2.2.1.1 p hp, ← cur_P hS hp]
def sol (o : Nat) : Int32 := if o = 0 then nI 1 else nI 0
theorem DC_now {Z σ : SG} (hC : KC Z σ) (hI : KI Z) {o : Nat} (ho : o < 720) {v : Int32} (hv : v = nI o) : ∀ s, s = up σ 0 12 v → (¬ s 0 12 = 0 → DC (stN Z o) σ (sol o) s (nI 0)) ∧ (s 0 12 = 0 → DC (stN Z o) σ (sol o) s (nI 1)) := fun s e => by
  subst e
  subst hv
  have k := hC.now hI ho
  rw [up_s, nI0_eq (by omega)]
  exact ⟨fun c => ⟨(if_neg c).symm, k, fun k hk => up_k (by omega)⟩, fun c => ⟨(if_pos c).symm, k, fun k hk => up_k (by omega)⟩⟩
theorem J_make {Z σ : SG} (hI : KI Z) (hC : KC Z σ) (hM : KM Z σ) (a : Int32) : ∃ p, IN_X11_make AF σ [.ref 0, .int a] p ∧ ∀ t r, p t r → ∃ q, IN_X12_make AF t [.ref 102, .int a] q ∧ ∀ t' r', q t' r' → r = r' ∧ KK t' := by
  have hS := hI.1
  have hR := hS.2.1.2
  have hT := hS.1.2
  by_cases c0 : a < 0
  · refine joint (Z' := rf Z 1) (x := -1) (C := fun s p => IN_X11_make AF s [.ref 0, .int a] p) (M := fun s p => IN_X12_make AF s [.ref 102, .int a] p) (hI.rf 1) hM ?_ (fun t hM => ?_)
    · refine ⟨⟨_, _, rfl, rfl, Nat.le_of_ble_eq_true rfl, rc_0⟩, Nat.le_of_ble_eq_true rfl, g_X11_make_0 ?_⟩
      rw [show nI 2 * σ 7 0 = nI (2 * cT (Z 104)) by rw [hC.2.1.1, hS.1.1, pk_mul]]
      exact ⟨fun _ => DC_rf hC hI (by decide) (by decide), fun c => absurd c0 c⟩
    · refine ⟨⟨_, _, rfl, rfl, Nat.le_of_ble_eq_true rfl, rc_102⟩, Nat.le_of_ble_eq_true rfl, g_X12_make_0 ?_⟩
      rw [show nI 2 * t 104 0 = nI (2 * cT (Z 104)) by rw [hM.1 0 (by decide), hS.1.1, pk_mul]]
      exact ⟨fun _ => DM_rf hM (by decide), fun c => absurd c0 c⟩
  by_cases c1 : nI (2 * cT (Z 104)) ≤ a
  · refine joint (Z' := rf Z 1) (x := -1) (C := fun s p => IN_X11_make AF s [.ref 0, .int a] p) (M := fun s p => IN_X12_make AF s [.ref 102, .int a] p) (hI.rf 1) hM ?_ (fun t hM => ?_)
    · refine ⟨⟨_, _, rfl, rfl, Nat.le_of_ble_eq_true rfl, rc_0⟩, Nat.le_of_ble_eq_true rfl, g_X11_make_0 ?_⟩
      rw [show nI 2 * σ 7 0 = nI (2 * cT (Z 104)) by rw [hC.2.1.1, hS.1.1, pk_mul]]
      exact ⟨fun c => absurd c c0, fun _ => ⟨fun _ => DC_rf hC hI (by decide) (by decide), fun c => absurd c1 c⟩⟩
    · refine ⟨⟨_, _, rfl, rfl, Nat.le_of_ble_eq_true rfl, rc_102⟩, Nat.le_of_ble_eq_true rfl, g_X12_make_0 ?_⟩
      rw [show nI 2 * t 104 0 = nI (2 * cT (Z 104)) by rw [hM.1 0 (by decide), hS.1.1, pk_mul]]
      exact ⟨fun c => absurd c c0, fun _ => ⟨fun _ => DM_rf hM (by decide), fun c => absurd c1 c⟩⟩
  obtain ⟨m, hm, ea⟩ := arg_in (by omega) c0 c1
  have ho := mo_lt hS hm (cur_lt hS)
  refine joint (Z' := stN Z (mo (Z 104) m (cur (Z 104)))) (x := sol (mo (Z 104) m (cur (Z 104)))) (C := fun s p => IN_X11_make AF s [.ref 0, .int a] p) (M := fun s p => IN_X12_make AF s [.ref 102, .int a] p) (hI.now ho) hM ?_ (fun t hM => ?_)
  · refine ⟨⟨_, _, rfl, rfl, Nat.le_of_ble_eq_true rfl, rc_0⟩, Nat.le_of_ble_eq_true rfl, g_X11_make_0 ?_⟩
    rw [show nI 2 * σ 7 0 = nI (2 * cT (Z 104)) by rw [hC.2.1.1, hS.1.1, pk_mul]]
    refine ⟨fun c => absurd c c0, fun _ => ⟨fun c => absurd c c1, fun _ => ?_⟩⟩
    subst ea
    refine ⟨m, rfl, by omega, cur (Z 104), hC.2.2.2.2.2.1, cur_lt hS, ?_⟩
    exact DC_now hC hI ho (hC.2.1.2.2.1 m _ hm (cur_lt hS))
  · refine ⟨⟨_, _, rfl, rfl, Nat.le_of_ble_eq_true rfl, rc_102⟩, Nat.le_of_ble_eq_true rfl, g_X12_make_0 ?_⟩
    rw [show nI 2 * t 104 0 = nI (2 * cT (Z 104)) by rw [hM.1 0 (by decide), hS.1.1, pk_mul]]
    refine ⟨fun c => absurd c c0, fun _ => ⟨fun c => absurd c c1, fun _ => ?_⟩⟩
    subst ea
    refine ⟨fun τ x => x = 0 → PL τ 104 5 (mo (Z 104) m (cur (Z 104))) ∧ (∀ j, (j < 5 ∨ 5 + 6 ≤ j) → τ 104 j = t 104 j) ∧ ∀ k, k ≠ 104 → k ≠ 108 → τ k = t k, ok_makes hS hM.1.ms ia_104 (Nat.le_of_ble_eq_true rfl) (by decide) (by decide) hm (fun τ a b c _ => ⟨PL_mo hS (cur_lt hS) hm (now_PL hS hM) a, b, c⟩), fun t2 ht => ?_⟩
    obtain ⟨h1, h2, h3⟩ := ht rfl
    refine ⟨fun τ x => τ = t2 ∧ x = nI (if mo (Z 104) m (cur (Z 104)) = 0 then 1 else 0), ok_isSolved ia_104 (Nat.le_of_ble_eq_true rfl) (by decide) ho h1 ⟨rfl, rfl⟩, ?_⟩
    rintro t2 x ⟨rfl, rfl⟩
    have k := hM.now h1 h2 h3
    refine ⟨fun c => ⟨?_, k, fun k hk => h3 k (by omega) (by omega)⟩, fun c => ⟨?_, k, fun k hk => h3 k (by omega) (by omega)⟩⟩
    · exact (if_neg fun z => by rw [if_pos z] at c; exact absurd c (by decide +kernel)).symm
    · exact (if_pos (Classical.byContradiction fun z => by rw [if_neg z] at c; exact absurd c (by decide +kernel))).symm
theorem J_makeRow {Z σ : SG} (hI : KI Z) (hC : KC Z σ) (hM : KM Z σ) (a : Int32) : ∃ p, IN_X11_makeRow AF σ [.ref 0, .int a] p ∧ ∀ t r, p t r → ∃ q, IN_X12_makeRow AF t [.ref 102, .int a] q ∧ ∀ t' r', q t' r' → r = r' ∧ KK t' := by
  have hS := hI.1
  have hR := hS.2.1.2
  have hT := hS.1.2
  by_cases c0 : a < 0
  · refine joint (Z' := rf Z 1) (x := -1) (C := fun s p => IN_X11_makeRow AF s [.ref 0, .int a] p) (M := fun s p => IN_X12_makeRow AF s [.ref 102, .int a] p) (hI.rf 1) hM ?_ (fun t hM => ?_)
    · refine ⟨⟨_, _, rfl, rfl, Nat.le_of_ble_eq_true rfl, rc_0⟩, Nat.le_of_ble_eq_true rfl, g_X11_makeRow_0 ?_⟩
      rw [show σ 36 0 = nI (cR (Z 104)) from hC.2.2.1.1.trans hS.2.1.1]
      exact ⟨fun _ => DC_rf hC hI (by decide) (by decide), fun c => absurd c0 c⟩
    · refine ⟨⟨_, _, rfl, rfl, Nat.le_of_ble_eq_true rfl, rc_102⟩, Nat.le_of_ble_eq_true rfl, g_X12_makeRow_0 ?_⟩
      rw [show t 104 1 = nI (cR (Z 104)) from (hM.1 1 (by decide)).trans hS.2.1.1]
      exact ⟨fun _ => DM_rf hM (by decide), fun c => absurd c0 c⟩
  by_cases c1 : nI (cR (Z 104)) ≤ a
  · refine joint (Z' := rf Z 1) (x := -1) (C := fun s p => IN_X11_makeRow AF s [.ref 0, .int a] p) (M := fun s p => IN_X12_makeRow AF s [.ref 102, .int a] p) (hI.rf 1) hM ?_ (fun t hM => ?_)
    · refine ⟨⟨_, _, rfl, rfl, Nat.le_of_ble_eq_true rfl, rc_0⟩, Nat.le_of_ble_eq_true rfl, g_X11_makeRow_0 ?_⟩
      rw [show σ 36 0 = nI (cR (Z 104)) from hC.2.2.1.1.trans hS.2.1.1]
      exact ⟨fun c => absurd c c0, fun _ => ⟨fun _ => DC_rf hC hI (by decide) (by decide), fun c => absurd c1 c⟩⟩
    · refine ⟨⟨_, _, rfl, rfl, Nat.le_of_ble_eq_true rfl, rc_102⟩, Nat.le_of_ble_eq_true rfl, g_X12_makeRow_0 ?_⟩
      rw [show t 104 1 = nI (cR (Z 104)) from (hM.1 1 (by decide)).trans hS.2.1.1]
      exact ⟨fun c => absurd c c0, fun _ => ⟨fun _ => DM_rf hM (by decide), fun c => absurd c1 c⟩⟩
  obtain ⟨r, hr, ea⟩ := arg_in (by omega) c0 c1
  have ho := eo_lt hS hr (cur_lt hS)
  refine joint (Z' := stN Z (eo (Z 104) r (cur (Z 104)))) (x := sol (eo (Z 104) r (cur (Z 104)))) (C := fun s p => IN_X11_makeRow AF s [.ref 0, .int a] p) (M := fun s p => IN_X12_makeRow AF s [.ref 102, .int a] p) (hI.now ho) hM ?_ (fun t hM => ?_)
  · refine ⟨⟨_, _, rfl, rfl, Nat.le_of_ble_eq_true rfl, rc_0⟩, Nat.le_of_ble_eq_true rfl, g_X11_makeRow_0 ?_⟩
    rw [show σ 36 0 = nI (cR (Z 104)) from hC.2.2.1.1.trans hS.2.1.1]
    refine ⟨fun c => absurd c c0, fun _ => ⟨fun c => absurd c c1, fun _ => ?_⟩⟩
    subst ea
    refine ⟨r, rfl, by omega, cur (Z 104), hC.2.2.2.2.2.1, cur_lt hS, ?_⟩
    exact DC_now hC hI ho ((hC.2.2.1.2 r hr).2.2 _ (cur_lt hS))
  · refine ⟨⟨_, _, rfl, rfl, Nat.le_of_ble_eq_true rfl, rc_102⟩, Nat.le_of_ble_eq_true rfl, g_X12_makeRow_0 ?_⟩
    rw [show t 104 1 = nI (cR (Z 104)) from (hM.1 1 (by decide)).trans hS.2.1.1]
    refine ⟨fun c => absurd c c0, fun _ => ⟨fun c => absurd c c1, fun _ => ?_⟩⟩
    subst ea
    refine ⟨fun τ x => x = 0 → PL τ 104 5 (eo (Z 104) r (cur (Z 104))) ∧ (∀ j, (j < 5 ∨ 5 + 6 ≤ j) → τ 104 j = t 104 j) ∧ ∀ k, k ≠ 104 → k ≠ 108 → τ k = t k, ok_makesRow hS hM.1.ms ia_104 (Nat.le_of_ble_eq_true rfl) (by decide) (Or.inr rfl) (by decide) hr (fun τ a b c _ => ⟨PL_eo hS (cur_lt hS) hr (now_PL hS hM) a, b, c⟩), fun t2 ht => ?_⟩
    obtain ⟨h1, h2, h3⟩ := ht rfl
    refine ⟨fun τ x => τ = t2 ∧ x = nI (if eo (Z 104) r (cur (Z 104)) = 0 then 1 else 0), ok_isSolved ia_104 (Nat.le_of_ble_eq_true rfl) (by decide) ho h1 ⟨rfl, rfl⟩, ?_⟩
    rintro t2 x ⟨rfl, rfl⟩
    have k := hM.now h1 h2 h3
    refine ⟨fun c => ⟨?_, k, fun k hk => h3 k (by omega) (by omega)⟩, fun c => ⟨?_, k, fun k hk => h3 k (by omega) (by omega)⟩⟩
    · exact (if_neg fun z => by rw [if_pos z] at c; exact absurd c (by decide +kernel)).symm
    · exact (if_pos (Classical.byContradiction fun z => by rw [if_neg z] at c; exact absurd c (by decide +kernel))).symm
