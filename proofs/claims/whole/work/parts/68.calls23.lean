/-! turn: the call -/
set_option maxHeartbeats 1000000 in
theorem J_turn {Z σ : SG} (hI : KI Z) (hC : KC Z σ) (hM : KM Z σ)  : ∃ p, IN_X11_turn AF σ [.ref 0] p ∧ ∀ t r, p t r → ∃ q, IN_X12_turn AF t [.ref 102] q ∧ ∀ t' r', q t' r' → r = r' ∧ KK t' := by
  have hS := hI.1
  have hT := hS.1.2
  have hR := hS.2.1.2
  have h16 := tape_I hI
  obtain ⟨T, hTn⟩ : ∃ T, cT (Z 104) = T := ⟨_, rfl⟩
  obtain ⟨X, hX⟩ : ∃ X, tm (tB Z) (na (Z 102 6)) (na (Z 102 6)) 0 false 0 0 0 0 (fun p => p) = X := ⟨_, rfl⟩
  have hX1 := tm_le (B := tB Z) (L := na (Z 102 6)) (na (Z 102 6)) 0 false 0 0 0 0 (fun p => p) (Nat.zero_add _)
  have hX2 := tm_PM (B := tB Z) (L := na (Z 102 6)) (na (Z 102 6)) 0 false 0 0 0 0 (fun p => p) ⟨by decide, fun _ _ _ => rfl, fun _ => PM_id, fun z => by cases z⟩
  rw [hX] at hX1 hX2
  by_cases c0 : T < 6
  · by_cases cX : X.1 = none
    · have hπ := hX2 cX
      refine joint (Z' := stT Z T X.2) (x := nI T) (C := fun s p => IN_X11_turn AF s [.ref 0] p) (M := fun s p => IN_X12_turn AF s [.ref 102] p) (hI.re3 (fun k a b => stT_k a b) (fun j hj => stT_2 hj) stT_6 (turn_IS hS hTn c0 hπ) (fun _ h => turn_PX hS hTn c0 h)) hM ?_ (fun t hM => ?_)
      · refine ⟨⟨_, _, rfl, rfl, Nat.le_of_ble_eq_true rfl, rc_0⟩, Nat.le_of_ble_eq_true rfl, g_X11_turn_0 ?_⟩
        rw [show σ 7 0 = nI (cT (Z 104)) from hC.2.1.1.trans hS.1.1]
        rw [hTn]
        refine ⟨fun _ => ?_, fun c => absurd (nI_lt c0 (by decide)) c⟩
        have hk2 : 8 + 1 + 2 * T < AF.1 := Nat.lt_of_lt_of_le (show 8 + 1 + 2 * T < 120 by omega) (Nat.le_of_ble_eq_true rfl)
        have rC : ttC (fun τ x => (∀ y, y ≠ 8 + 1 + 2 * T → τ y = σ y) ∧ (∀ fi, X.1 = some fi → x = nI fi) ∧ (X.1 = none → x = -9 ∧ ∀ p, p < 6 → τ (8 + 1 + 2 * T) p = nI (X.2 p))) σ (8 + 1 + 2 * T) X := fun τ a => ⟨fun fi e => ⟨a, fun fj e2 => by rw [e] at e2; cases e2; rfl, fun e2 => absurd (e.symm.trans e2) (by simp)⟩, fun e p => ⟨a, fun fj e2 => absurd (e.symm.trans e2) (by simp), fun _ => ⟨rfl, p⟩⟩⟩
        refine ⟨2 * T, pk_mul 2 T, by omega, _, ⟨⟨_, _, rfl, rfl, Nat.le_of_ble_eq_true rfl, rc_1⟩, Nat.le_of_ble_eq_true rfl, g_X6_readTurn_0 (gi_8 (2 * T) (by omega)) hk2 (fun s1 e1 s2 e2 s3 e3 s4 e4 s5 e5 s6 e6 => creadTurn (gi_8 (2 * T) (by omega)) hk2 (by omega) (by omega) h16 (fun i hi => tB_lt hI hi) (fun i hi => tB_C hI hC hi) (tape_C hI hC) (na (Z 102 6)) 0 false 0 0 0 0 (fun p => p) s6 (Nat.zero_add _) (Nat.le_refl _) (by decide) (by decide) (by rw [hX]; exact rC) (fun y a => by rw [e6, up_k a, e5, up_k a, e4, up_k a, e3, up_k a, e2, up_k a, e1, up_k a]) (fun p hp => by
          rcases lt6 hp with rfl | rfl | rfl | rfl | rfl | rfl
          · rw [e6, up_j (by decide), e5, up_j (by decide), e4, up_j (by decide), e3, up_j (by decide), e2, up_j (by decide), e1, up_s]
          · rw [e6, up_j (by decide), e5, up_j (by decide), e4, up_j (by decide), e3, up_j (by decide), e2, up_s]
          · rw [e6, up_j (by decide), e5, up_j (by decide), e4, up_j (by decide), e3, up_s]
          · rw [e6, up_j (by decide), e5, up_j (by decide), e4, up_s]
          · rw [e6, up_j (by decide), e5, up_s]
          · rw [e6, up_s]))⟩, ?_⟩
        rintro t6 r5 ⟨a1, a3, a4⟩ s10 e10
        have F : ∀ k, k ≠ 1 → k ≠ 8 + 1 + 2 * T → s10 k = σ k := fun k a b => by rw [e10, up_k a]; exact a1 k b
        obtain ⟨e5, a6⟩ := a4 cX
        have g : ∀ p, p < 6 → gT (stT Z T X.2 104) T p = X.2 p := fun p hp => by
          have := hπ.1 p hp
          unfold gT
          rw [stT_g hp, na_nI (by omega)]
        have tA : TA T (Z 104) (stT Z T X.2 104) := fun t p ht hp => stT_o (by omega) (by omega)
        have hS' := turn_IS hS hTn c0 hπ
        have eT : cT (stT Z T X.2 104) = T + 1 := by unfold cT; rw [stT_0, na_nI (by omega)]
        refine ⟨fun _ => ?_, fun z => absurd e5 z⟩
        rw [show s10 7 0 = nI T by rw [F 7 (by decide) (by omega), ← hTn]; exact hC.2.1.1.trans hS.1.1]
        refine ⟨fun τ x => x = 0 → fgA 61 s10 τ T 6, ok_forget_61 (A := AF) (Nat.le_of_ble_eq_true rfl) rfl rfl c0 (fun τ h _ => h), fun t13 ht => ?_⟩
        have hf := ht rfl
        have fk : ∀ k, ¬ (63 ≤ k ∧ k ≤ 72) → t13 k = s10 k := fun k hk => funext fun j => by
          rcases hf.2.2.2 k j with z | z | z | z | z
          · omega
          · omega
          · omega
          · omega
          · exact z
        have G : ∀ k, k ≠ 1 → k ≠ 8 + 1 + 2 * T → ¬ (63 ≤ k ∧ k ≤ 72) → t13 k = σ k := fun k a b c => by rw [fk k c]; exact F k a b
        have hH0 : CH (Z 104) t13 := (hC.2.2.2.1.fr (fun k a b => F k (by omega) (by omega))).forget hS hTn c0 hf
        refine ⟨fun τ x => x = 0 → DC (stT Z T X.2) σ (nI T) τ (τ 7 0 - nI 1), ?_, fun t18 ht => ht rfl⟩
        refine ok_takeT (T := T) (π := X.2) (mo' := mo (stT Z T X.2 104)) (hC.1.fr (fun k a b => G k (by omega) (by omega) (by omega))) c0 (by rw [G 7 (by decide) (by omega) (by omega), ← hTn]; exact hC.2.1.1.trans hS.1.1) hπ (fun p hp => by rw [fk _ (by omega), e10, up_k (by omega)]; exact a6 p hp) (fun m o hm ho => by rw [G (21 + 1 + m) (by omega) (by omega) (by omega), tA.moE hS hm (by omega)]; exact hC.2.1.2.2.1 m o (by omega) ho) (fun m o hm ho => mo_lt hS' (by omega) ho) (fun o ho => ?_) (fun o ho => ?_) (fun τ b1 b3 b4 b5 b6 _ => ?_)
        · unfold mo
          exact mvO_cong (gm_PM hS' (by omega)) (fun p hp => by unfold gm; rw [if_pos (by omega), show 2 * T / 2 = T by omega, g p hp]) o
        · unfold mo
          exact mvO_cong (gm_PM hS' (by omega)) (fun p hp => by unfold gm; rw [if_neg (by omega), show (2 * T + 1) / 2 = T by omega, inv6_cong (fun q hq => g q hq) p]) o
        have H : ∀ k, k ≠ 1 → k ≠ 6 → k ≠ 7 → k ≠ 8 + 1 + 2 * T → k ≠ 8 + 1 + (2 * T + 1) → k ≠ 21 + 1 + 2 * T → k ≠ 21 + 1 + (2 * T + 1) → k ≠ 34 → k ≠ 35 → ¬ (63 ≤ k ∧ k ≤ 72) → τ k = σ k := fun k a b c d e f g h i j => by rw [b6 k b c e f g h i]; exact G k a d j
        exact ⟨by rw [b1, nI_subN (by omega), Nat.add_sub_cancel], hC.turnT hI hTn c0 hπ (fun k _ a b c d e f g h i j => H k a b c d e f g h i j) (by rw [b6 1 (by decide) (by decide) (by omega) (by omega) (by omega) (by decide) (by decide), fk 1 (by omega), e10, up_s]) (hH0.fr (fun k a b => b6 k (by omega) (by omega) (by omega) (by omega) (by omega) (by omega) (by omega))) b1 (fun p hp => by rw [b6 (8 + 1 + 2 * T) (by omega) (by omega) (by omega) (by omega) (by omega) (by omega) (by omega), fk _ (by omega), e10, up_k (by omega)]; exact a6 p hp) b3 b4 b5, fun k hk => H k (by omega) (by omega) (by omega) (by omega) (by omega) (by omega) (by omega) (by omega) (by omega) (by omega)⟩
      · refine ⟨⟨_, _, rfl, rfl, Nat.le_of_ble_eq_true rfl, rc_102⟩, Nat.le_of_ble_eq_true rfl, g_X12_turn_0 ?_⟩
        rw [show t 104 0 = nI (cT (Z 104)) from (hM.1 0 (by decide)).trans hS.1.1]
        rw [hTn]
        refine ⟨fun _ => ?_, fun c => absurd c (fun z => by rw [nI_eq (by omega) (by decide)] at z; omega)⟩
        have rM : ttM (fun τ x => rF t τ ∧ (∀ fi, X.1 = some fi → x = nI 0 ∧ τ 102 7 = nI fi) ∧ (X.1 = none → x = nI 1 ∧ ∀ p, p < 6 → τ 107 p = nI (X.2 p))) t X := fun τ a => ⟨fun fi e p => ⟨a, fun fj e2 => by rw [e] at e2; cases e2; exact ⟨rfl, p⟩, fun e2 => absurd (e.symm.trans e2) (by simp)⟩, fun e p => ⟨a, fun fj e2 => absurd (e.symm.trans e2) (by simp), fun _ => ⟨rfl, p⟩⟩⟩
        refine ⟨_, ⟨⟨_, _, rfl, rfl, Nat.le_of_ble_eq_true rfl, rc_102⟩, Nat.le_of_ble_eq_true rfl, g_X12_readsTurn_0 (fun s1 e1 s2 e2 s3 e3 s4 e4 s5 e5 s6 e6 s7 e7 s8 e8 => mturn h16 (fun i hi => tB_lt hI hi) (fun i hi => tB_M hI hM hi) (tape_M hI hM) (na (Z 102 6) + 1) (na (Z 102 6)) 0 0 0 0 0 (fun p => p) s8 (Nat.lt_succ_self _) (Nat.zero_add _) (by omega) (by decide) ⟨⟨fun y a b => by rw [e8, up_k b, e7, up_k b, e6, up_k b, e5, up_k b, e4, up_k b, e3, up_k b, e2, up_k a, e1, up_k a], fun j a b => by rw [e8, up_k (by decide), e7, up_k (by decide), e6, up_k (by decide), e5, up_k (by decide), e4, up_k (by decide), e3, up_k (by decide), e2, up_j b, e1, up_j a]⟩, by rw [e8, up_k (by decide), e7, up_k (by decide), e6, up_k (by decide), e5, up_k (by decide), e4, up_k (by decide), e3, up_k (by decide), e2, up_j (by decide), e1, up_s], by rw [e8, up_k (by decide), e7, up_k (by decide), e6, up_k (by decide), e5, up_k (by decide), e4, up_k (by decide), e3, up_k (by decide), e2, up_s], fun p hp => by
          rcases lt6 hp with rfl | rfl | rfl | rfl | rfl | rfl
          · rw [e8, up_j (by decide), e7, up_j (by decide), e6, up_j (by decide), e5, up_j (by decide), e4, up_j (by decide), e3, up_s]
          · rw [e8, up_j (by decide), e7, up_j (by decide), e6, up_j (by decide), e5, up_j (by decide), e4, up_s]
          · rw [e8, up_j (by decide), e7, up_j (by decide), e6, up_j (by decide), e5, up_s]
          · rw [e8, up_j (by decide), e7, up_j (by decide), e6, up_s]
          · rw [e8, up_j (by decide), e7, up_s]
          · rw [e8, up_s]⟩ (by rw [hX]; exact rM))⟩, ?_⟩
        rintro t3 r2 ⟨a1, a3, a4⟩ s7 e7
        have F : ∀ k, k ≠ 102 → k ≠ 107 → s7 k = t k := fun k a b => by rw [e7, up_k a]; exact a1.1 k a b
        have F2 : ∀ j, j ≠ 6 → j ≠ 7 → j ≠ 8 → s7 102 j = t 102 j := fun j a b c => by rw [e7, up_j a]; exact a1.2 j b c
        have F6 : s7 102 6 = nI 0 := by rw [e7, up_s]
        obtain ⟨e5, a6⟩ := a4 cX
        refine ⟨fun _ => ?_, fun z => absurd (e5.symm.trans z) (by decide +kernel)⟩
        have v107 : ∀ p, p < 6 → s7 107 p = nI (X.2 p) := fun p hp => by rw [e7, up_k (by decide)]; exact a6 p hp
        have z0 : s7 104 0 = nI T := by rw [F 104 (by decide) (by decide), ← hTn]; exact (hM.1 0 (by decide)).trans hS.1.1
        have ix : ∀ p, ((nI 11) + ((nI 6) * nI T)) + nI p = nI (11 + 6 * T + p) := fun p => by rw [pk_mul, nI_add, nI_add]
        refine ⟨11 + 6 * T + 0, (by rw [z0]; exact ix 0), by omega, fun u0 eu0 => ?_⟩
        refine ⟨11 + 6 * T + 1, (by rw [eu0, up_j (by omega), z0]; exact ix 1), by omega, fun u1 eu1 => ?_⟩
        refine ⟨11 + 6 * T + 2, (by rw [eu1, up_j (by omega), eu0, up_j (by omega), z0]; exact ix 2), by omega, fun u2 eu2 => ?_⟩
        refine ⟨11 + 6 * T + 3, (by rw [eu2, up_j (by omega), eu1, up_j (by omega), eu0, up_j (by omega), z0]; exact ix 3), by omega, fun u3 eu3 => ?_⟩
        refine ⟨11 + 6 * T + 4, (by rw [eu3, up_j (by omega), eu2, up_j (by omega), eu1, up_j (by omega), eu0, up_j (by omega), z0]; exact ix 4), by omega, fun u4 eu4 => ?_⟩
        refine ⟨11 + 6 * T + 5, (by rw [eu4, up_j (by omega), eu3, up_j (by omega), eu2, up_j (by omega), eu1, up_j (by omega), eu0, up_j (by omega), z0]; exact ix 5), by omega, fun u5 eu5 => ?_⟩
        intro s33 e33
        have w0 : s7 107 0 = nI (X.2 0) := by exact v107 0 (by decide)
        have w1 : u0 107 1 = nI (X.2 1) := by rw [eu0, up_k (by decide)]; exact v107 1 (by decide)
        have w2 : u1 107 2 = nI (X.2 2) := by rw [eu1, up_k (by decide), eu0, up_k (by decide)]; exact v107 2 (by decide)
        have w3 : u2 107 3 = nI (X.2 3) := by rw [eu2, up_k (by decide), eu1, up_k (by decide), eu0, up_k (by decide)]; exact v107 3 (by decide)
        have w4 : u3 107 4 = nI (X.2 4) := by rw [eu3, up_k (by decide), eu2, up_k (by decide), eu1, up_k (by decide), eu0, up_k (by decide)]; exact v107 4 (by decide)
        have w5 : u4 107 5 = nI (X.2 5) := by rw [eu4, up_k (by decide), eu3, up_k (by decide), eu2, up_k (by decide), eu1, up_k (by decide), eu0, up_k (by decide)]; exact v107 5 (by decide)
        rw [show u5 104 0 = nI T by rw [eu5, up_j (by omega), eu4, up_j (by omega), eu3, up_j (by omega), eu2, up_j (by omega), eu1, up_j (by omega), eu0, up_j (by omega), z0], nI_add] at e33
        have G : ∀ k, k ≠ 104 → s33 k = s7 k := fun k H1 => by rw [e33, up_k H1, eu5, up_k H1, eu4, up_k H1, eu3, up_k H1, eu2, up_k H1, eu1, up_k H1, eu0, up_k H1]
        have V : FS (stT Z T X.2 104) s33 := fun j hj197 => by
          rw [e33]
          by_cases d : j = 0
          · rw [d, up_s, stT_0]
          rw [up_j d]
          rw [eu5, w5]
          by_cases d5 : j = 11 + 6 * T + 5
          · rw [d5, up_s, stT_g (by decide)]
          rw [up_j d5]
          rw [eu4, w4]
          by_cases d4 : j = 11 + 6 * T + 4
          · rw [d4, up_s, stT_g (by decide)]
          rw [up_j d4]
          rw [eu3, w3]
          by_cases d3 : j = 11 + 6 * T + 3
          · rw [d3, up_s, stT_g (by decide)]
          rw [up_j d3]
          rw [eu2, w2]
          by_cases d2 : j = 11 + 6 * T + 2
          · rw [d2, up_s, stT_g (by decide)]
          rw [up_j d2]
          rw [eu1, w1]
          by_cases d1 : j = 11 + 6 * T + 1
          · rw [d1, up_s, stT_g (by decide)]
          rw [up_j d1]
          rw [eu0, w0]
          by_cases d0 : j = 11 + 6 * T + 0
          · rw [d0, up_s, stT_g (by decide)]
          rw [up_j d0]
          rw [stT_o d (by omega), F 104 (by decide) (by decide)]
          exact hM.1 j hj197
        refine ⟨by rw [e33, up_s, nI_subN (by omega), Nat.add_sub_cancel], hM.re3 (fun k a b => stT_k a b) (fun j hj => stT_2 hj) stT_6 (by rw [G 102 (by decide)]; exact F6) V (fun k a b c => by rw [G k a.2]; exact F k (by omega) b) (fun j hj => by rw [G 102 (by decide)]; exact F2 j (by omega) (by omega) (by omega)), fun k hk => by rw [G k (by omega)]; exact F k (by omega) (by omega)⟩
    · obtain ⟨fi, hfi⟩ := Option.ne_none_iff_exists'.1 cX
      refine joint (Z' := stE Z) (x := (-20 : Int32) - nI fi) (C := fun s p => IN_X11_turn AF s [.ref 0] p) (M := fun s p => IN_X12_turn AF s [.ref 102] p) hI.empty hM ?_ (fun t hM => ?_)
      · refine ⟨⟨_, _, rfl, rfl, Nat.le_of_ble_eq_true rfl, rc_0⟩, Nat.le_of_ble_eq_true rfl, g_X11_turn_0 ?_⟩
        rw [show σ 7 0 = nI (cT (Z 104)) from hC.2.1.1.trans hS.1.1]
        rw [hTn]
        refine ⟨fun _ => ?_, fun c => absurd (nI_lt c0 (by decide)) c⟩
        have hk2 : 8 + 1 + 2 * T < AF.1 := Nat.lt_of_lt_of_le (show 8 + 1 + 2 * T < 120 by omega) (Nat.le_of_ble_eq_true rfl)
        have rC : ttC (fun τ x => (∀ y, y ≠ 8 + 1 + 2 * T → τ y = σ y) ∧ (∀ fi, X.1 = some fi → x = nI fi) ∧ (X.1 = none → x = -9 ∧ ∀ p, p < 6 → τ (8 + 1 + 2 * T) p = nI (X.2 p))) σ (8 + 1 + 2 * T) X := fun τ a => ⟨fun fi e => ⟨a, fun fj e2 => by rw [e] at e2; cases e2; rfl, fun e2 => absurd (e.symm.trans e2) (by simp)⟩, fun e p => ⟨a, fun fj e2 => absurd (e.symm.trans e2) (by simp), fun _ => ⟨rfl, p⟩⟩⟩
        refine ⟨2 * T, pk_mul 2 T, by omega, _, ⟨⟨_, _, rfl, rfl, Nat.le_of_ble_eq_true rfl, rc_1⟩, Nat.le_of_ble_eq_true rfl, g_X6_readTurn_0 (gi_8 (2 * T) (by omega)) hk2 (fun s1 e1 s2 e2 s3 e3 s4 e4 s5 e5 s6 e6 => creadTurn (gi_8 (2 * T) (by omega)) hk2 (by omega) (by omega) h16 (fun i hi => tB_lt hI hi) (fun i hi => tB_C hI hC hi) (tape_C hI hC) (na (Z 102 6)) 0 false 0 0 0 0 (fun p => p) s6 (Nat.zero_add _) (Nat.le_refl _) (by decide) (by decide) (by rw [hX]; exact rC) (fun y a => by rw [e6, up_k a, e5, up_k a, e4, up_k a, e3, up_k a, e2, up_k a, e1, up_k a]) (fun p hp => by
          rcases lt6 hp with rfl | rfl | rfl | rfl | rfl | rfl
          · rw [e6, up_j (by decide), e5, up_j (by decide), e4, up_j (by decide), e3, up_j (by decide), e2, up_j (by decide), e1, up_s]
          · rw [e6, up_j (by decide), e5, up_j (by decide), e4, up_j (by decide), e3, up_j (by decide), e2, up_s]
          · rw [e6, up_j (by decide), e5, up_j (by decide), e4, up_j (by decide), e3, up_s]
          · rw [e6, up_j (by decide), e5, up_j (by decide), e4, up_s]
          · rw [e6, up_j (by decide), e5, up_s]
          · rw [e6, up_s]))⟩, ?_⟩
        rintro t6 r5 ⟨a1, a3, a4⟩ s10 e10
        have F : ∀ k, k ≠ 1 → k ≠ 8 + 1 + 2 * T → s10 k = σ k := fun k a b => by rw [e10, up_k a]; exact a1 k b
        have e5 := a3 fi hfi
        subst e5
        exact ⟨fun z => absurd z (nI_ne9 (by have := hX1 fi hfi; omega)), fun _ => ⟨rfl, hC.turnE hI hTn c0 (fun k _ a b => F k a b) (by rw [e10, up_s]), fun k hk => F k (by omega) (by omega)⟩⟩
      · refine ⟨⟨_, _, rfl, rfl, Nat.le_of_ble_eq_true rfl, rc_102⟩, Nat.le_of_ble_eq_true rfl, g_X12_turn_0 ?_⟩
        rw [show t 104 0 = nI (cT (Z 104)) from (hM.1 0 (by decide)).trans hS.1.1]
        rw [hTn]
        refine ⟨fun _ => ?_, fun c => absurd c (fun z => by rw [nI_eq (by omega) (by decide)] at z; omega)⟩
        have rM : ttM (fun τ x => rF t τ ∧ (∀ fi, X.1 = some fi → x = nI 0 ∧ τ 102 7 = nI fi) ∧ (X.1 = none → x = nI 1 ∧ ∀ p, p < 6 → τ 107 p = nI (X.2 p))) t X := fun τ a => ⟨fun fi e p => ⟨a, fun fj e2 => by rw [e] at e2; cases e2; exact ⟨rfl, p⟩, fun e2 => absurd (e.symm.trans e2) (by simp)⟩, fun e p => ⟨a, fun fj e2 => absurd (e.symm.trans e2) (by simp), fun _ => ⟨rfl, p⟩⟩⟩
        refine ⟨_, ⟨⟨_, _, rfl, rfl, Nat.le_of_ble_eq_true rfl, rc_102⟩, Nat.le_of_ble_eq_true rfl, g_X12_readsTurn_0 (fun s1 e1 s2 e2 s3 e3 s4 e4 s5 e5 s6 e6 s7 e7 s8 e8 => mturn h16 (fun i hi => tB_lt hI hi) (fun i hi => tB_M hI hM hi) (tape_M hI hM) (na (Z 102 6) + 1) (na (Z 102 6)) 0 0 0 0 0 (fun p => p) s8 (Nat.lt_succ_self _) (Nat.zero_add _) (by omega) (by decide) ⟨⟨fun y a b => by rw [e8, up_k b, e7, up_k b, e6, up_k b, e5, up_k b, e4, up_k b, e3, up_k b, e2, up_k a, e1, up_k a], fun j a b => by rw [e8, up_k (by decide), e7, up_k (by decide), e6, up_k (by decide), e5, up_k (by decide), e4, up_k (by decide), e3, up_k (by decide), e2, up_j b, e1, up_j a]⟩, by rw [e8, up_k (by decide), e7, up_k (by decide), e6, up_k (by decide), e5, up_k (by decide), e4, up_k (by decide), e3, up_k (by decide), e2, up_j (by decide), e1, up_s], by rw [e8, up_k (by decide), e7, up_k (by decide), e6, up_k (by decide), e5, up_k (by decide), e4, up_k (by decide), e3, up_k (by decide), e2, up_s], fun p hp => by
          rcases lt6 hp with rfl | rfl | rfl | rfl | rfl | rfl
          · rw [e8, up_j (by decide), e7, up_j (by decide), e6, up_j (by decide), e5, up_j (by decide), e4, up_j (by decide), e3, up_s]
          · rw [e8, up_j (by decide), e7, up_j (by decide), e6, up_j (by decide), e5, up_j (by decide), e4, up_s]
          · rw [e8, up_j (by decide), e7, up_j (by decide), e6, up_j (by decide), e5, up_s]
          · rw [e8, up_j (by decide), e7, up_j (by decide), e6, up_s]
          · rw [e8, up_j (by decide), e7, up_s]
          · rw [e8, up_s]⟩ (by rw [hX]; exact rM))⟩, ?_⟩
        rintro t3 r2 ⟨a1, a3, a4⟩ s7 e7
        have F : ∀ k, k ≠ 102 → k ≠ 107 → s7 k = t k := fun k a b => by rw [e7, up_k a]; exact a1.1 k a b
        have F2 : ∀ j, j ≠ 6 → j ≠ 7 → j ≠ 8 → s7 102 j = t 102 j := fun j a b c => by rw [e7, up_j a]; exact a1.2 j b c
        have F6 : s7 102 6 = nI 0 := by rw [e7, up_s]
        obtain ⟨e5, a5⟩ := a3 fi hfi
        refine ⟨fun z => absurd (by rw [e5, nI_0]) z, fun _ => ⟨by rw [e7, up_j (by decide), a5], hM.empty F F2 F6, fun k hk => F k (by omega) (by omega)⟩⟩
  · exact joint (Z' := rf Z 6) (x := -6) (C := fun s p => IN_X11_turn AF s [.ref 0] p) (M := fun s p => IN_X12_turn AF s [.ref 102] p) (hI.rf 6) hM ⟨⟨_, _, rfl, rfl, Nat.le_of_ble_eq_true rfl, rc_0⟩, Nat.le_of_ble_eq_true rfl, g_X11_turn_0 (by rw [show σ 7 0 = nI (cT (Z 104)) from hC.2.1.1.trans hS.1.1, hTn]; exact ⟨fun c => absurd c (nI_nlt (by omega) (by omega)), fun _ => DC_rf hC hI (by decide) (by decide)⟩)⟩ (fun t hM => ⟨⟨_, _, rfl, rfl, Nat.le_of_ble_eq_true rfl, rc_102⟩, Nat.le_of_ble_eq_true rfl, g_X12_turn_0 (by rw [show t 104 0 = nI (cT (Z 104)) from (hM.1 0 (by decide)).trans hS.1.1, hTn]; exact ⟨fun c => absurd (by rw [show T = 6 by omega]) c, fun _ => DM_rf hM (by decide)⟩)⟩)
