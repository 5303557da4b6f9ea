/-! the start: the constructors -/
theorem zr_k {σ : SG} {k n x : Nat} (h : x < k ∨ k + n ≤ x) : zr σ k n x = σ x := funext fun j => if_neg (by omega)
theorem zr_0 {σ : SG} {k n x j : Nat} (h : k ≤ x) (h2 : x < k + n) : zr σ k n x j = 0 := if_pos ⟨h, h2⟩
def ordD (η : DL) : DL := dOn (dOff (dOn (dOff (dOn (dOff η 4 1) 3 0) 5 1) 3 1) 6 1) 3 2
theorem ordI_loop {dl η : DL} {post : DL → SG → Prop} (h0 : η 3 0 = true) (h1 : η 3 1 = true) {σ : SG} (K : ∀ τ : SG, CO τ → (∀ k, k ≠ 4 → k ≠ 5 → τ k = σ k) → post η τ) :
    ∀ f o, o + f = 720 → ∀ s : SG, (∀ o' p, o' < o → p < 6 → s 4 (o' * 6 + p) = nI (P o' p)) → (∀ o', o' < o → s 5 o' = nI (ow o')) → (∀ o', o ≤ o' → s 5 o' = 0) → (∀ k, k ≠ 4 → k ≠ 5 → s k = σ k) → T_X4_init dl post 32 [.ref 3, .int (nI o)] [] (7, 5081, η) s := by
  intro f
  induction f with
  | zero =>
    intro o ho s a1 a2 a3 a4
    obtain rfl : o = 720 := by omega
    apply g_X4_init_32
    exact ⟨by decide, fun _ => K s ⟨fun o p ho hp => a1 o p ho hp, fun o ho => a2 o ho⟩ a4, fun c => absurd c (by decide)⟩
  | succ f ih =>
    intro o ho s a1 a2 a3 a4
    have ho7 : o < 720 := by omega
    apply g_X4_init_32
    refine ⟨by omega, fun c => absurd c (by omega), fun _ => ⟨fun τ x => x = 0 → (∀ q, q < 6 → τ 4 (o * 6 + q) = nI (P o q)) ∧ τ 5 o = nI (ow o) ∧ (∀ k j, k ≠ 4 → k ≠ 5 → τ k j = s k j) ∧ (∀ j, j < o * 6 ∨ o * 6 + 6 ≤ j → τ 4 j = s 4 j) ∧ ∀ j, j ≠ o → τ 5 j = s 5 j, ok_layOut (A := (7, 5081, η)) (show 6 < 7 by decide) h0 h1 ho7 (a3 o (Nat.le_refl _)) (fun τ b1 b2 b3 b4 b5 _ => ⟨b1, b2, b3, b4, b5⟩), fun t ht => ?_⟩⟩
    obtain ⟨b1, b2, b3, b4, b5⟩ := ht rfl
    refine ih (o + 1) (by omega) t (fun o' p h hp => ?_) (fun o' h => ?_) (fun o' h => by rw [b5 o' (by omega)]; exact a3 o' (by omega)) (fun k c d => by rw [← a4 k c d]; exact funext fun j => b3 k j c d)
    · by_cases e : o' = o
      · rw [e]; exact b1 p hp
      · rw [b4 (o' * 6 + p) (by omega)]; exact a1 o' p (by omega) hp
    · by_cases e : o' = o
      · rw [e]; exact b2
      · rw [b5 o' e]; exact a2 o' (by omega)
theorem ok_ordInit {η : DL} {σ : SG} {post : DL → SG → Prop} (K : ∀ τ : SG, CO τ → (∀ k, k < 4 ∨ 6 < k → τ k = σ k) → post (ordD η) τ) : INN_X4_init (4, 35, η) σ [.ref 3] 3 5046 post := by
  refine ⟨⟨_, _, rfl, rfl, rc_3.1⟩, rfl, rfl, Nat.le_of_ble_eq_true rfl, g_X4_init_0 ?_⟩
  intro d1 e1 s2 e2 d3 e3 d4 e4 s5 e5 d6 e6 d7 e7 s8 e8 d9 e9
  subst e1 e3 e4 e6 e7 e9
  refine ordI_loop (η := ordD η) rfl rfl (σ := s8) (fun τ h1 h2 => K τ h1 (fun k hk => by rw [h2 k (by omega) (by omega), e8, zr_k (by omega), e5, zr_k (by omega), e2, zr_k (by omega)])) 720 0 rfl s8 (fun o' p h _ => absurd h (Nat.not_lt_zero _)) (fun o' h => absurd h (Nat.not_lt_zero _)) (fun o' _ => by rw [e8, zr_k (by omega), e5, zr_0 (by omega) (by omega)]) (fun _ _ _ => rfl)
theorem fgA_fr {b : Nat} {σ τ : SG} {t n : Nat} (ht : t < 6) (h : fgA b σ τ t n) {k : Nat} (h1 : k ≠ b + 2) (h2 : k ≠ b + 3) (h3 : ¬ (b + 4 < k ∧ k ≤ b + 10)) : τ k = σ k := funext fun j => by
  rcases h.2.2.2 k j with z | z | z | z | z
  · exact absurd z.1 h1
  · exact absurd z.1 h2
  · omega
  · omega
  · exact z
/-- the hand's objects while the first m turns are forgotten -/
def HI (m : Nat) (σ : SG) : Prop := (∀ t, t < m → σ 63 t = nI 10 ∧ σ 64 t = nI 0) ∧ ∀ k j, 65 < k → k ≤ 71 → σ k j = 0
theorem HI.step {m : Nat} {σ τ : SG} (h : HI m σ) (hm : m < 6) (hf : fgA 61 σ τ m 6) : HI (m + 1) τ := by
  obtain ⟨a1, a2, a3, a4⟩ := hf
  refine ⟨fun t ht => ?_, fun k j h1 h2 => ?_⟩
  · by_cases e : t = m
    · rw [e]; exact ⟨a1, a2⟩
    · obtain ⟨q1, q2⟩ := h.1 t (by omega)
      refine ⟨?_, ?_⟩
      · rcases a4 63 t with z | z | z | z | z
        · omega
        · omega
        · omega
        · omega
        · rw [z]; exact q1
      · rcases a4 64 t with z | z | z | z | z
        · omega
        · omega
        · omega
        · omega
        · rw [z]; exact q2
  · rcases a4 k j with z | z | z | z | z
    · omega
    · omega
    · obtain ⟨z1, z2⟩ := z
      rw [z1, (a3 j z2).1, nI_0]
    · obtain ⟨z1, z2, z3⟩ := z
      obtain ⟨i, rfl⟩ : ∃ i, k = 61 + 4 + 1 + i := ⟨k - 66, by omega⟩
      rw [z3, (a3 i (by omega)).2, nI_0]
    · rw [z]; exact h.2 k j h1 h2
/-- what the reference holds at first -/
def Z00 : SG := fun _ _ => 0
def Z0 : SG := up (up (up (up (up (up (up (up (up (up (up (up (up Z00 104 4 (nI 20)) 104 5 (nI 0)) 104 47 (nI 10)) 104 6 (nI 1)) 104 48 (nI 10)) 104 7 (nI 2)) 104 49 (nI 10)) 104 8 (nI 3)) 104 50 (nI 10)) 104 9 (nI 4)) 104 51 (nI 10)) 104 10 (nI 5)) 104 52 (nI 10)
theorem Z0_k {k : Nat} (h : k ≠ 104) : Z0 k = Z00 k := by
  unfold Z0
  rw [up_k h, up_k h, up_k h, up_k h, up_k h, up_k h, up_k h, up_k h, up_k h, up_k h, up_k h, up_k h, up_k h]
theorem Z0_z {k j : Nat} (h : k ≠ 104) : Z0 k j = 0 := by rw [Z0_k h]; rfl
theorem Z0_o {j : Nat} (h : j < 4 ∨ (10 < j ∧ j < 47) ∨ 52 < j) : Z0 104 j = 0 := by
  unfold Z0
  rw [up_j (by omega), up_j (by omega), up_j (by omega), up_j (by omega), up_j (by omega), up_j (by omega), up_j (by omega), up_j (by omega), up_j (by omega), up_j (by omega), up_j (by omega), up_j (by omega), up_j (by omega)]
  rfl
theorem na0 : na (0 : Int32) = 0 := by decide
theorem Z0_T : cT (Z0 104) = 0 := by unfold cT; rw [Z0_o (by omega), na0]
theorem Z0_R : cR (Z0 104) = 0 := by unfold cR; rw [Z0_o (by omega), na0]
theorem Z0_K : cK (Z0 104) = 0 := by unfold cK; rw [Z0_o (by omega), na0]
theorem Z0_n {p : Nat} (h : p < 6) : Z0 104 (5 + p) = nI p := by
  rcases lt6 h with rfl | rfl | rfl | rfl | rfl | rfl <;> decide +kernel
theorem Z0_t {p : Nat} (h : p < 6) : Z0 104 (47 + p) = nI 10 := by
  rcases lt6 h with rfl | rfl | rfl | rfl | rfl | rfl <;> decide +kernel
theorem Z0_nw {p : Nat} (h : p < 6) : nw (Z0 104) p = p := by unfold nw; rw [Z0_n h, na_nI (by omega)]
theorem Z0_cur : cur (Z0 104) = 0 := by
  unfold cur
  rw [rk_cong (fun p hp => Z0_nw hp)]
  decide
theorem KI_0 : KI Z0 := by
  refine ⟨⟨?_, ?_, ?_, ?_, ?_, ⟨fun p hp => by rw [Z0_nw hp]; exact Z0_n hp, PM_id.cong (fun p hp => (Z0_nw hp).symm)⟩, ?_, ?_⟩, Or.inl (by rw [Z0_z (by decide), nI_0]), ⟨by rw [Z0_z (by decide), na0, nI_0], by rw [Z0_z (by decide), na0]; decide, fun j hj => ?_⟩, ⟨by rw [Z0_z (by decide), na0, nI_0], by rw [Z0_z (by decide), na0]; decide⟩, ⟨by rw [Z0_z (by decide), na0, nI_0], by rw [Z0_z (by decide), na0]; decide, fun j hj => ?_⟩, ⟨by rw [Z0_z (by decide), na0, nI_0], by rw [Z0_z (by decide), na0]; decide, fun j hj => ?_⟩⟩
  · rw [Z0_T, Z0_o (by omega), nI_0]; exact ⟨rfl, by decide⟩
  · rw [Z0_R, Z0_o (by omega), nI_0]; exact ⟨rfl, by decide⟩
  · rw [Z0_K, Z0_o (by omega), nI_0]; exact ⟨rfl, by decide⟩
  · intro t ht; rw [Z0_T] at ht; omega
  · intro r hr; rw [Z0_R] at hr; omega
  · refine IH_raw (fun t ht => ⟨⟨10, Z0_t ht, by decide, by decide⟩, ⟨0, by rw [Z0_o (by omega), nI_0], by decide⟩⟩) (fun a c ha hc => ?_) (fun t _ ht => ⟨Z0_t ht, by rw [Z0_o (by omega), nI_0], fun c hc => ⟨by rw [Z0_o (by omega), nI_0], by rw [Z0_o (by omega), nI_0]⟩⟩) ⟨⟨0, by rw [Z0_o (by omega), nI_0], by decide⟩, ⟨20, by decide +kernel, by decide⟩⟩
    rw [Z0_o (by omega)]
    decide
  · intro k hk; rw [Z0_K] at hk; omega
  · rw [Z0_z (by decide), na0] at hj; omega
  · rw [Z0_z (by decide), na0] at hj; omega
  · rw [Z0_z (by decide), na0] at hj; omega
theorem KC_0 {σ : SG} (h : CO σ) (h7 : σ 7 0 = 0) (h34 : ∀ o, o < 720 → isD 0 (mo (Z0 104)) o (σ 34 o)) (h36 : σ 36 0 = 0) (hH : HI 6 σ) (h720 : σ 72 0 = 0) (h721 : σ 72 1 = nI 20) (h77 : σ 77 0 = 0) (h73 : σ 73 1 = 0) (h1 : σ 1 1 = 0) (h83 : σ 83 0 = 0) (h85 : σ 85 0 = 0) (h87 : σ 87 0 = 0) (h101 : ∀ c, σ 101 c = 0) (h0 : σ 0 12 = nI 0) : KC Z0 σ := by
  refine ⟨h, ⟨by rw [h7, Z0_o (by omega)], fun m p hm => ?_, fun m o hm => ?_, fun o ho => by rw [Z0_T]; exact h34 o ho⟩, ⟨by rw [h36, Z0_o (by omega)], fun r hr => ?_⟩, ⟨fun t ht => ⟨by rw [Z0_t ht]; exact (hH.1 t ht).1, by rw [Z0_o (by omega), ← nI_0]; exact (hH.1 t ht).2, fun c hc => ?_⟩, by rw [h720, Z0_o (by omega)], by rw [h721]; decide +kernel⟩, ⟨by rw [h77, Z0_o (by omega)], fun k hk => ?_⟩, by unfold CN_; rw [h0, Z0_cur], ⟨by rw [h73, Z0_z (by decide)], fun i hi => ?_⟩, ⟨by rw [h1, Z0_z (by decide)], fun i hi => ?_⟩, ⟨by rw [h83, Z0_z (by decide)], fun i hi => ?_⟩, ⟨by rw [h85, Z0_z (by decide)], fun i hi => ?_⟩, ⟨by rw [h87, Z0_z (by decide)], fun z => ?_⟩, fun c _ _ => by rw [h101, Z0_z (by decide)]⟩
  · rw [Z0_T] at hm; omega
  · rw [Z0_T] at hm; omega
  · rw [Z0_R] at hr; omega
  · unfold af
    rw [Z0_o (by omega)]
    exact hH.2 _ c (by omega) (by omega)
  · rw [Z0_K] at hk; omega
  · rw [Z0_z (by decide), na0] at hi; omega
  · rw [Z0_z (by decide), na0] at hi; omega
  · rw [Z0_z (by decide), na0] at hi; omega
  · rw [Z0_z (by decide), na0] at hi; omega
  · rw [Z0_z (by decide)] at z
    exact absurd z (by decide +kernel)
/-- all references are set -/
def okD (n : Nat) (η : DL) : Bool := (List.range n).all fun k => (List.range 30).all fun j => ((tb k).2.2.getD j none == none) || η k j
def mD (η : DL) : DL := dOn (dOff (dOn (dOff (dOn (dOff (dOn (dOff (dOn (dOff (dOn (dOff (dOn (dOff (dOn (dOff (dOn (dOff (dOn (dOff (dOn (dOff (dOn (dOff (dOn (dOff (dOn (dOff (dOn (dOff (dOn (dOff (dOn (dOff η 103 1) 102 0) 104 1) 102 1) 105 1) 102 2) 106 1) 102 4) 107 1) 102 5) 108 1) 102 9) 109 1) 102 10) 110 1) 102 11) 111 1) 102 12) 112 1) 102 13) 113 1) 102 17) 114 1) 102 18) 115 1) 102 19) 116 1) 102 20) 117 1) 102 21) 118 1) 102 23) 119 1) 102 25
theorem ok_mInit {η : DL} {σ : SG} {post : DL → SG → Prop} (h2 : ∀ j, σ 102 j = 0) (K : ∀ (d : DL) (τ : SG), d = mD η → KM Z0 τ → (∀ k, k < 102 → τ k = σ k) → post d τ) : INN_X12_init (103, 22822, η) σ [.ref 102] 17 1241 post := by
  refine ⟨⟨_, _, rfl, rfl, rc_102.1⟩, rfl, rfl, Nat.le_of_ble_eq_true rfl, g_X12_init_0 ?_⟩
  intro d1 e1 s2 e2 d3 e3 d4 e4 s5 e5 d6 e6 d7 e7 s8 e8 d9 e9 d10 e10 s11 e11 d12 e12 d13 e13 s14 e14 d15 e15 d16 e16 s17 e17 d18 e18 d19 e19 s20 e20 d21 e21 d22 e22 s23 e23 d24 e24 d25 e25 s26 e26 d27 e27 d28 e28 s29 e29 d30 e30 d31 e31 s32 e32 d33 e33 d34 e34 s35 e35 d36 e36 d37 e37 s38 e38 d39 e39 d40 e40 s41 e41 d42 e42 d43 e43 s44 e44 d45 e45 d46 e46 s47 e47 d48 e48 d49 e49 s50 e50 d51 e51 s52 e52 s53 e53 s54 e54 s55 e55 s56 e56 s57 e57 s58 e58 s59 e59 s60 e60 s61 e61 s62 e62 s63 e63 s64 e64
  have FS_b : FS (Z00 104) s50 := fun j hj => by rw [e50, zr_k (by decide), e47, zr_k (by decide), e44, zr_k (by decide), e41, zr_k (by decide), e38, zr_k (by decide), e35, zr_k (by decide), e32, zr_k (by decide), e29, zr_k (by decide), e26, zr_k (by decide), e23, zr_k (by decide), e20, zr_k (by decide), e17, zr_k (by decide), e14, zr_k (by decide), e11, zr_k (by decide), e8, zr_k (by decide), e5, zr_0 (by decide) (by decide)]; rfl
  have h104 : FS (Z0 104) s64 := by
    rw [e64, e63, e62, e61, e60, e59, e58, e57, e56, e55, e54, e53, e52]
    exact ((((((((((((FS_b.up 4 (nI 20)).up 5 (nI 0)).up 47 (nI 10)).up 6 (nI 1)).up 48 (nI 10)).up 7 (nI 2)).up 49 (nI 10)).up 8 (nI 3)).up 50 (nI 10)).up 9 (nI 4)).up 51 (nI 10)).up 10 (nI 5)).up 52 (nI 10)
  have F : ∀ k, k < 103 → s64 k = σ k := fun k hk => by rw [e64, up_k (by omega), e63, up_k (by omega), e62, up_k (by omega), e61, up_k (by omega), e60, up_k (by omega), e59, up_k (by omega), e58, up_k (by omega), e57, up_k (by omega), e56, up_k (by omega), e55, up_k (by omega), e54, up_k (by omega), e53, up_k (by omega), e52, up_k (by omega), e50, zr_k (by omega), e47, zr_k (by omega), e44, zr_k (by omega), e41, zr_k (by omega), e38, zr_k (by omega), e35, zr_k (by omega), e32, zr_k (by omega), e29, zr_k (by omega), e26, zr_k (by omega), e23, zr_k (by omega), e20, zr_k (by omega), e17, zr_k (by omega), e14, zr_k (by omega), e11, zr_k (by omega), e8, zr_k (by omega), e5, zr_k (by omega), e2, zr_k (by omega)]
  have z102 : ∀ j, s64 102 j = Z0 102 j := fun j => by rw [F 102 (by decide), h2, Z0_z (by decide)]
  refine K _ _ ?_ ⟨h104, fun j hj => by rw [e64, up_k (by decide), e63, up_k (by decide), e62, up_k (by decide), e61, up_k (by decide), e60, up_k (by decide), e59, up_k (by decide), e58, up_k (by decide), e57, up_k (by decide), e56, up_k (by decide), e55, up_k (by decide), e54, up_k (by decide), e53, up_k (by decide), e52, up_k (by decide), e50, zr_k (by decide), e47, zr_k (by decide), e44, zr_k (by decide), e41, zr_k (by decide), e38, zr_k (by decide), e35, zr_k (by decide), e32, zr_k (by decide), e29, zr_k (by decide), e26, zr_k (by decide), e23, zr_k (by decide), e20, zr_k (by decide), e17, zr_k (by decide), e14, zr_k (by decide), e11, zr_k (by decide), e8, zr_0 (by decide) (by decide), Z0_z (by decide)], fun j hj => by rw [e64, up_k (by decide), e63, up_k (by decide), e62, up_k (by decide), e61, up_k (by decide), e60, up_k (by decide), e59, up_k (by decide), e58, up_k (by decide), e57, up_k (by decide), e56, up_k (by decide), e55, up_k (by decide), e54, up_k (by decide), e53, up_k (by decide), e52, up_k (by decide), e50, zr_k (by decide), e47, zr_k (by decide), e44, zr_k (by decide), e41, zr_k (by decide), e38, zr_k (by decide), e35, zr_k (by decide), e32, zr_k (by decide), e29, zr_k (by decide), e26, zr_k (by decide), e23, zr_k (by decide), e20, zr_k (by decide), e17, zr_k (by decide), e14, zr_k (by decide), e11, zr_k (by decide), e8, zr_k (by decide), e5, zr_k (by decide), e2, zr_0 (by decide) (by decide), Z0_z (by decide)], ⟨z102 3, z102 6, z102 14, z102 24, z102 26⟩, fun j hj => by rw [e64, up_k (by decide), e63, up_k (by decide), e62, up_k (by decide), e61, up_k (by decide), e60, up_k (by decide), e59, up_k (by decide), e58, up_k (by decide), e57, up_k (by decide), e56, up_k (by decide), e55, up_k (by decide), e54, up_k (by decide), e53, up_k (by decide), e52, up_k (by decide), e50, zr_k (by decide), e47, zr_k (by decide), e44, zr_k (by decide), e41, zr_k (by decide), e38, zr_k (by decide), e35, zr_k (by decide), e32, zr_k (by decide), e29, zr_k (by decide), e26, zr_k (by decide), e23, zr_k (by decide), e20, zr_k (by decide), e17, zr_k (by decide), e14, zr_k (by decide), e11, zr_0 (by decide) (by decide), Z0_z (by decide)], fun i hi => by rw [Z0_z (by decide), na0] at hi; omega, fun i hi => by rw [e64, up_k (by decide), e63, up_k (by decide), e62, up_k (by decide), e61, up_k (by decide), e60, up_k (by decide), e59, up_k (by decide), e58, up_k (by decide), e57, up_k (by decide), e56, up_k (by decide), e55, up_k (by decide), e54, up_k (by decide), e53, up_k (by decide), e52, up_k (by decide), e50, zr_k (by decide), e47, zr_0 (by decide) (by decide), Z0_z (by decide)], fun i hi => by rw [e64, up_k (by decide), e63, up_k (by decide), e62, up_k (by decide), e61, up_k (by decide), e60, up_k (by decide), e59, up_k (by decide), e58, up_k (by decide), e57, up_k (by decide), e56, up_k (by decide), e55, up_k (by decide), e54, up_k (by decide), e53, up_k (by decide), e52, up_k (by decide), e50, zr_0 (by decide) (by decide), Z0_z (by decide)]⟩ (fun k hk => F k (by omega))
  subst e1 e3 e4 e6 e7 e9 e10 e12 e13 e15 e16 e18 e19 e21 e22 e24 e25 e27 e28 e30 e31 e33 e34 e36 e37 e39 e40 e42 e43 e45 e46 e48 e49 e51
  rfl
