/-! row -/
theorem KI.re3 {Z Z' : SG} (h : KI Z) (hz : ∀ k, k ≠ 104 → k ≠ 102 → Z' k = Z k) (h2 : ∀ j, j ≠ 6 → Z' 102 j = Z 102 j) (h6 : Z' 102 6 = nI 0) (hS : IS (Z' 104)) (hp : Z 102 3 = nI 1 → PXI (Z 105) (Z 104) → PXI (Z 105) (Z' 104)) : KI Z' := by
  unfold KI
  rw [hz 105 (by decide) (by decide), hz 106 (by decide) (by decide), hz 118 (by decide) (by decide), hz 119 (by decide) (by decide), h2 3 (by decide), h2 14 (by decide), h2 24 (by decide), h2 26 (by decide), h6, na_nI (by decide)]
  refine ⟨hS, ?_, ⟨rfl, by decide, fun j hj => absurd hj (Nat.not_lt_zero _)⟩, h.2.2.2⟩
  rcases h.2.1 with g | ⟨g, q1, q2⟩
  · exact Or.inl g
  · exact Or.inr ⟨g, q1, hp g q2⟩
theorem KC.re3 {Z Z' σ τ : SG} (hC : KC Z σ) (hz : ∀ k, k ≠ 104 → k ≠ 102 → Z' k = Z k) (h2 : ∀ j, j ≠ 6 → Z' 102 j = Z 102 j) (h6 : Z' 102 6 = nI 0) (t1 : τ 1 1 = nI 0) (a : ∀ k, (k = 74 ∨ (83 ≤ k ∧ k ≤ 101)) → τ k = σ k) (a73 : τ 73 1 = σ 73 1) (c1 : CO τ) (c2 : CU (Z' 104) τ) (c3 : CW (Z' 104) τ) (c4 : CH (Z' 104) τ) (c5 : CY (Z' 104) τ) (c6 : CN_ (Z' 104) τ) : KC Z' τ := by
  obtain ⟨_, _, _, _, _, _, g7, g8, g9, g10, g11, g12⟩ := hC
  refine ⟨c1, c2, c3, c4, c5, c6, ?_⟩
  unfold KF KT KV KL KP KR
  rw [hz 103 (by decide) (by decide), hz 105 (by decide) (by decide), hz 109 (by decide) (by decide), hz 118 (by decide) (by decide), hz 119 (by decide) (by decide), h2 3 (by decide), h2 14 (by decide), h2 24 (by decide), h2 26 (by decide), h6, na_nI (by decide), t1, a 74 (by omega), a73, a 83 (by omega), a 84 (by omega), a 85 (by omega), a 86 (by omega), a 87 (by omega), a 90 (by omega), a 91 (by omega), a 99 (by omega), a 100 (by omega), a 101 (by omega)]
  refine ⟨g7, ⟨rfl, fun i hi => absurd hi (Nat.not_lt_zero _)⟩, g9, g10, ⟨g11.1, fun c => ?_⟩, g12⟩
  obtain ⟨q1, q2, q3, q4, q5, q6⟩ := g11.2 c
  refine ⟨q1, q2, q3, q4, fun t ht => ?_, q6⟩
  rw [a (92 + 1 + t) (by omega)]
  exact q5 t ht
theorem KM.re3 {Z Z' σ τ : SG} (h : KM Z σ) (hz : ∀ k, k ≠ 104 → k ≠ 102 → Z' k = Z k) (h2 : ∀ j, j ≠ 6 → Z' 102 j = Z 102 j) (h6 : Z' 102 6 = nI 0) (t6 : τ 102 6 = nI 0) (h4 : FS (Z' 104) τ) (a : ∀ k, (103 ≤ k ∧ k ≠ 104) → k ≠ 107 → k ≠ 108 → τ k = σ k) (a2 : ∀ j, (j = 3 ∨ j = 14 ∨ j = 24 ∨ j = 26) → τ 102 j = σ 102 j) : KM Z' τ := by
  obtain ⟨_, g2, g3, g4, g5, g6, g7, g8⟩ := h
  refine ⟨h4, ?_⟩
  rw [hz 103 (by decide) (by decide), hz 105 (by decide) (by decide), hz 106 (by decide) (by decide), hz 109 (by decide) (by decide), hz 118 (by decide) (by decide), hz 119 (by decide) (by decide), h2 3 (by decide), h2 14 (by decide), h2 24 (by decide), h2 26 (by decide), h6, t6, a 103 (by omega) (by omega) (by omega), a 105 (by omega) (by omega) (by omega), a 106 (by omega) (by omega) (by omega), a 109 (by omega) (by omega) (by omega), a 118 (by omega) (by omega) (by omega), a 119 (by omega) (by omega) (by omega), a2 3 (by omega), a2 14 (by omega), a2 24 (by omega), a2 26 (by omega)]
  exact ⟨g2, g3, ⟨g4.1, rfl, g4.2.2.1, g4.2.2.2.1, g4.2.2.2.2⟩, g5, g6, g7, g8⟩
theorem CU.ta {S S' : Nat → Int32} {σ : SG} (hU : CU S σ) (hS : IS S) (h0 : S' 0 = S 0) (tA : TA (cT S) S S') : CU S' σ := by
  have hT := hS.1.2
  unfold CU
  rw [show cT S' = cT S from congrArg na h0, h0]
  refine ⟨hU.1, fun m p hm hp => by rw [tA.gmE hm hp]; exact hU.2.1 m p hm hp, fun m o hm ho => by rw [tA.moE hS hm hm]; exact hU.2.2.1 m o hm ho, fun o ho => isD_cong (fun m hm o => tA.moE hS hm hm o) (hU.2.2.2 o ho)⟩
/-- the tape's bytes -/
def tB (Z : SG) (i : Nat) : Nat := na (Z 106 i)
theorem tB_lt {Z : SG} (hI : KI Z) {i : Nat} (hi : i < na (Z 102 6)) : tB Z i < 256 := (hI.2.2.1.2.2 i hi).2
theorem tB_C {Z σ : SG} (hI : KI Z) (hC : KC Z σ) {i : Nat} (hi : i < na (Z 102 6)) : σ 2 i = nI (tB Z i) := (hC.2.2.2.2.2.2.2.1.2 i hi).trans (hI.2.2.1.2.2 i hi).1
theorem tB_M {Z σ : SG} (hI : KI Z) (hM : KM Z σ) {i : Nat} (hi : i < na (Z 102 6)) : σ 106 i = nI (tB Z i) := (hM.2.2.2.2.1 i (by have := tape_I hI; omega)).trans (hI.2.2.1.2.2 i hi).1
theorem sub_neg {a b : Nat} (ha : a < 2 ^ 30) (hb : b < 2 ^ 30) : nI a - nI b < 0 ↔ a < b := by
  rw [Int32.lt_iff_toInt_lt, pk_sub_toInt ha hb, show (0 : Int32).toInt = 0 by decide]
  omega
/-- a text read as a row: the fault if there is one, how many moves, the moves -/
def rr (B : Nat → Nat) (L T : Nat) : Nat → Nat → Nat → (Nat → Nat) → Option Nat × Nat × (Nat → Nat)
  | 0, i, n, μ => (some i, n, μ)
  | f + 1, i, n, μ => if ¬ i < L ∨ B i < 48 ∨ T ≤ B i - 48 ∨ n = 8 then (some i, n, μ) else
    if i + 1 < L ∧ B (i + 1) = 39 then
      (if i + 2 < L then rr B L T f (i + 2) (n + 1) (fun j => if j = n then 2 * (B i - 48) + 1 else μ j) else (none, n + 1, fun j => if j = n then 2 * (B i - 48) + 1 else μ j))
    else (if i + 1 < L then rr B L T f (i + 1) (n + 1) (fun j => if j = n then 2 * (B i - 48) else μ j) else (none, n + 1, fun j => if j = n then 2 * (B i - 48) else μ j))
theorem rr_ok {B : Nat → Nat} {L T : Nat} : ∀ f i n μ, n ≤ 8 → i ≤ L → (∀ j, j < n → μ j < 2 * T) → ((∀ x, (rr B L T f i n μ).1 = some x → x ≤ L) ∧ ((rr B L T f i n μ).1 = none → 1 ≤ (rr B L T f i n μ).2.1 ∧ (rr B L T f i n μ).2.1 ≤ 8 ∧ ∀ j, j < (rr B L T f i n μ).2.1 → (rr B L T f i n μ).2.2 j < 2 * T)) := by
  intro f
  induction f with
  | zero =>
    intro i n μ hn hi hμ
    exact ⟨fun x hx => (by rw [rr] at hx; cases hx; exact hi), fun hx => (by rw [rr] at hx; cases hx)⟩
  | succ f ih =>
    intro i n μ hn hi hμ
    rw [rr]
    by_cases c : ¬ i < L ∨ B i < 48 ∨ T ≤ B i - 48 ∨ n = 8
    · rw [if_pos c]
      exact ⟨fun x hx => (by cases hx; exact hi), fun hx => (by cases hx)⟩
    · rw [if_neg c]
      have m1 : ∀ j, j < n + 1 → (fun j => if j = n then 2 * (B i - 48) + 1 else μ j) j < 2 * T := fun j hj => by
        show (if j = n then 2 * (B i - 48) + 1 else μ j) < 2 * T
        split
        · omega
        · exact hμ j (by omega)
      have m0 : ∀ j, j < n + 1 → (fun j => if j = n then 2 * (B i - 48) else μ j) j < 2 * T := fun j hj => by
        show (if j = n then 2 * (B i - 48) else μ j) < 2 * T
        split
        · omega
        · exact hμ j (by omega)
      by_cases d : i + 1 < L ∧ B (i + 1) = 39
      · rw [if_pos d]
        by_cases e : i + 2 < L
        · rw [if_pos e]; exact ih _ _ _ (by omega) (by omega) m1
        · rw [if_neg e]; exact ⟨fun x hx => (by cases hx), fun _ => ⟨(by show 1 ≤ n + 1; omega), (by show n + 1 ≤ 8; omega), m1⟩⟩
      · rw [if_neg d]
        by_cases e : i + 1 < L
        · rw [if_pos e]; exact ih _ _ _ (by omega) (by omega) m0
        · rw [if_neg e]; exact ⟨fun x hx => (by cases hx), fun _ => ⟨(by show 1 ≤ n + 1; omega), (by show n + 1 ≤ 8; omega), m0⟩⟩
/-- the class's end of a reading -/
def rrC (post : SG → Int32 → Prop) (σ : SG) (k : Nat) (x : Option Nat × Nat × (Nat → Nat)) : Prop := ∀ τ : SG, (∀ y, y ≠ 1 → y ≠ k → τ y = σ y) → (∀ j, j ≠ 2 → τ 1 j = σ 1 j) → (∀ fi, x.1 = some fi → post τ (nI fi)) ∧ (x.1 = none → τ 1 2 = nI x.2.1 → (∀ j, j < x.2.1 → τ k j = nI (x.2.2 j)) → post τ (-9))
set_option maxHeartbeats 1000000 in
theorem creadRow {B : Nat → Nat} {L T k : Nat} (hia : IA k 8) (hk : k < AF.1) (hk1 : k ≠ 1) (hk2 : k ≠ 2) (hL : L ≤ 16) (hT : T ≤ 6) (hB : ∀ i, i < L → B i < 256) {σ : SG} (hb : ∀ i, i < L → σ 2 i = nI (B i)) (hl : σ 1 1 = nI L) {post : SG → Int32 → Prop} :
    ∀ f i n μ (s : SG), n ≤ 8 → i ≤ L → L < i + f → (i = L → n = 0) → (∀ j, j < n → μ j < 12) → (0 < n → i < L → B i = 39 → ¬ μ (n - 1) % 2 = 0) → rrC post σ k (rr B L T f i n μ) → (∀ y, y ≠ 1 → y ≠ k → s y = σ y) → (∀ j, j ≠ 2 → s 1 j = σ 1 j) → s 1 2 = nI n → (∀ j, j < n → s k j = nI (μ j)) → T_X6_readRow AF post 7 [.ref 1, .ref k, .int (nI T), .int (nI i), dum] [] s := by
  intro f
  induction f with
  | zero => intro i n μ s hn hi hf; omega
  | succ f ih =>
    intro i n μ s hn hi hf h0 hμ hq K f1 f2 hn2 hv
    have s2 : s 2 = σ 2 := f1 2 (by decide) (Ne.symm hk2)
    have s11 : s 1 1 = nI L := (f2 1 (by decide)).trans hl
    rw [rr] at K
    apply g_X6_readRow_7 hia hk
    rw [s11, hn2, s2, nI_leI (by omega) (by omega)]
    refine ⟨fun c => ⟨fun d => ?_, fun d => ?_⟩, fun c => ?_⟩
    · exact absurd (by rw [h0 (by omega), nI_0]) d
    · rw [if_pos (Or.inl (by omega))] at K
      have := (K s f1 f2).1 i rfl
      rw [show L = i by omega]
      exact this
    have hiL : i < L := by omega
    have hBi := hB i hiL
    have e1 : σ 2 i = nI (B i) := hb i hiL
    -- no move begins here: the quote can't stand either
    have stop : (¬ i < L ∨ B i < 48 ∨ T ≤ B i - 48 ∨ n = 8) → (i < 16 ∧ ((¬ (σ 2 i) = (nI 39) → post s (nI i)) ∧ ((σ 2 i) = (nI 39) → (((nI n) ≤ 0 → post s (nI i)) ∧ (¬ (nI n) ≤ 0 → (∃ j9 : Nat, ((nI n) - (nI 1)) = nI j9 ∧ j9 < 8 ∧ ((¬ ((s k j9) &&& (nI 1)) = 0 → post s (nI i)) ∧ (((s k j9) &&& (nI 1)) = 0 → (∃ j13 : Nat, ((nI n) - (nI 1)) = nI j13 ∧ j13 < 8 ∧ (∃ j16 : Nat, ((nI n) - (nI 1)) = nI j16 ∧ j16 < 8 ∧ (∀ s18 : SG, s18 = up s k j16 ((s k j13) + (nI 1)) → T_X6_readRow AF post 7 [.ref 1, .ref k, .int (nI T), .int (nI (i + 1)), dum] [] s18))))))))))) := fun w => by
      rw [if_pos w] at K
      have p := (K s f1 f2).1 i rfl
      refine ⟨by omega, fun _ => p, fun z => ⟨fun _ => p, fun z2 => ?_⟩⟩
      rw [e1, nI_eq (by omega) (by decide)] at z
      have n0 : 0 < n := by
        refine Nat.pos_of_ne_zero fun y => z2 ?_
        rw [y, nI_0]; decide
      have od := hq n0 hiL z
      have m12 := hμ (n - 1) (by omega)
      refine ⟨n - 1, nI_subN (by omega), by omega, fun _ => p, fun z3 => ?_⟩
      rw [hv (n - 1) (by omega), (sh_at m12).2.1, nI0_eq (by omega)] at z3
      exact absurd z3 od
    rw [e1] at stop ⊢
    rw [sub_neg (by omega) (by decide)]
    refine ⟨by omega, fun c1 => stop (Or.inr (Or.inl c1)), fun c1 => ?_⟩
    rw [nI_subN (by omega), nI_leI (by omega) (by omega)]
    refine ⟨fun c2 => stop (Or.inr (Or.inr (Or.inl c2))), fun c2 => ?_⟩
    rw [nI_leI (by omega) (by omega)]
    refine ⟨fun c3 => stop (Or.inr (Or.inr (Or.inr (by omega)))), fun c3 => ⟨n, rfl, by omega, fun s52 e52 s53 e53 => ?_⟩⟩
    clear stop
    rw [if_neg (by omega)] at K
    rw [pk_mul] at e52
    have k52 : s52 1 2 = nI n := by rw [e52, up_k (Ne.symm hk1)]; exact hn2
    rw [k52, nI_add] at e53
    have F1 : ∀ y, y ≠ 1 → y ≠ k → s53 y = σ y := fun y a b => by rw [e53, up_k a, e52, up_k b]; exact f1 y a b
    have F2 : ∀ j, j ≠ 2 → s53 1 j = σ 1 j := fun j hj => by rw [e53, up_j hj, e52, up_k (Ne.symm hk1)]; exact f2 j hj
    have V : ∀ j, j < n + 1 → s53 k j = nI (if j = n then 2 * (B i - 48) else μ j) := fun j hj => by
      rw [e53, up_k hk1, e52]
      by_cases d : j = n
      · rw [d, up_s, if_pos rfl]
      · rw [up_j d, if_neg d]; exact hv j (by omega)
    have N : s53 1 2 = nI (n + 1) := by rw [e53, up_s]
    by_cases d : i + 1 < L ∧ B (i + 1) = 39
    · rw [if_pos d] at K
      -- the quote behind it
      have hb1 : σ 2 (i + 1) = nI 39 := by rw [hb (i + 1) d.1, d.2]
      apply g_X6_readRow_7 hia hk
      rw [show s53 1 1 = nI L from (F2 1 (by decide)).trans hl, N, show s53 2 = σ 2 from F1 2 (by decide) (Ne.symm hk2), hb1, nI_leI (by omega) (by omega)]
      refine ⟨fun z => absurd z (by omega), fun _ => ⟨by omega, fun _ => ⟨by omega, fun z => absurd rfl z, fun _ => ⟨fun z => absurd ((nI0_le (by omega)).1 z) (by omega), fun _ => ⟨n, nI_subN (by omega), by omega, fun z => ?_, fun _ => ⟨n, nI_subN (by omega), by omega, n, nI_subN (by omega), by omega, fun s18 e18 => ?_⟩⟩⟩⟩, fun z => absurd ((sub_neg (by decide) (by decide)).2 (by decide)) z⟩⟩
      · rw [V n (by omega), if_pos rfl, (sh_at (show 2 * (B i - 48) < 12 by omega)).2.1, nI0_eq (by omega)] at z
        exact absurd (by omega) z
      · rw [V n (by omega), if_pos rfl, nI_add] at e18
        have G1 : ∀ y, y ≠ 1 → y ≠ k → s18 y = σ y := fun y a b => by rw [e18, up_k b]; exact F1 y a b
        have G2 : ∀ j, j ≠ 2 → s18 1 j = σ 1 j := fun j hj => by rw [e18, up_k (Ne.symm hk1)]; exact F2 j hj
        have GN : s18 1 2 = nI (n + 1) := by rw [e18, up_k (Ne.symm hk1)]; exact N
        have GV : ∀ j, j < n + 1 → s18 k j = nI (if j = n then 2 * (B i - 48) + 1 else μ j) := fun j hj => by
          rw [e18]
          by_cases d : j = n
          · rw [d, up_s, if_pos rfl]
          · rw [up_j d, V j hj, if_neg d, if_neg d]
        by_cases e : i + 2 < L
        · rw [if_pos e] at K
          refine ih (i + 2) (n + 1) _ s18 (by omega) (by omega) (by omega) (fun z => by omega) (fun j hj => ?_) (fun _ _ _ => ?_) K G1 G2 GN GV
          · show (if j = n then 2 * (B i - 48) + 1 else μ j) < 12
            split
            · omega
            · exact hμ j (by omega)
          · show ¬ (if n + 1 - 1 = n then 2 * (B i - 48) + 1 else μ (n + 1 - 1)) % 2 = 0
            rw [if_pos (by omega)]
            omega
        · rw [if_neg e] at K
          apply g_X6_readRow_7 hia hk
          rw [show s18 1 1 = nI L from (G2 1 (by decide)).trans hl, GN, nI_leI (by omega) (by omega)]
          exact ⟨fun _ => ⟨fun _ => (K s18 G1 G2).2 rfl GN GV, fun z => absurd z (nI_ne0 (by omega) (by omega))⟩, fun z => absurd (by omega) z⟩
    · rw [if_neg d] at K
      by_cases e : i + 1 < L
      · rw [if_pos e] at K
        refine ih (i + 1) (n + 1) _ s53 (by omega) (by omega) (by omega) (fun z => by omega) (fun j hj => ?_) (fun _ _ z => absurd ⟨e, z⟩ d) K F1 F2 N V
        show (if j = n then 2 * (B i - 48) else μ j) < 12
        split
        · omega
        · exact hμ j (by omega)
      · rw [if_neg e] at K
        apply g_X6_readRow_7 hia hk
        rw [show s53 1 1 = nI L from (F2 1 (by decide)).trans hl, N, nI_leI (by omega) (by omega)]
        exact ⟨fun _ => ⟨fun _ => (K s53 F1 F2).2 rfl N V, fun z => absurd z (nI_ne0 (by omega) (by omega))⟩, fun z => absurd (by omega) z⟩
/-- the reference's sign -/
def sgn (B : Nat → Nat) (L i : Nat) : Int32 := if i < L then nI (B i) else -1
theorem ok_sign {B : Nat → Nat} {L i : Nat} (hL : L ≤ 16) (hi : i ≤ L) {σ : SG} (h7 : σ 102 7 = nI i) (h6 : σ 102 6 = nI L) (hb : ∀ i, i < L → σ 106 i = nI (B i)) {post : SG → Int32 → Prop} (K : post σ (sgn B L i)) : IN_X12_sign AF σ [.ref 102] post := by
  refine ⟨⟨_, _, rfl, rfl, Nat.le_of_ble_eq_true rfl, rc_102⟩, Nat.le_of_ble_eq_true rfl, g_X12_sign_0 ?_⟩
  rw [h7, h6, nI_ltI (by omega) (by omega)]
  unfold sgn at K
  refine ⟨fun c => ⟨i, rfl, by omega, ?_⟩, fun c => ?_⟩
  · rw [if_pos c] at K; rw [hb i c]; exact K
  · rw [if_neg c] at K; exact K
def rrM (post : SG → Int32 → Prop) (σ : SG) (x : Option Nat × Nat × (Nat → Nat)) : Prop := ∀ τ : SG, (∀ y, y ≠ 102 → y ≠ 107 → τ y = σ y) → (∀ j, j ≠ 7 → τ 102 j = σ 102 j) → (∀ fi, x.1 = some fi → τ 102 7 = nI fi → post τ (nI 0)) ∧ (x.1 = none → τ 107 0 = nI x.2.1 → (∀ j, j < x.2.1 → τ 107 (j + 1) = nI (x.2.2 j)) → post τ (nI 1))
theorem m1_neg {a : Nat} (ha : a < 2 ^ 30) : ((-1 : Int32) - nI a < 0) ∧ ((-1 : Int32) < nI a) := by
  rw [Int32.lt_iff_toInt_lt, Int32.lt_iff_toInt_lt, nI_toInt (by omega), show (0 : Int32).toInt = 0 by decide, show (-1 : Int32).toInt = -1 by decide, Int32.toInt_sub, nI_toInt (by omega), show (-1 : Int32).toInt = -1 by decide, Int.bmod_eq_of_le (by omega) (by omega)]
  omega
set_option maxHeartbeats 1000000 in
theorem mreadRow {B : Nat → Nat} {L T : Nat} (hL : L ≤ 16) (hT : T ≤ 6) (hB : ∀ i, i < L → B i < 256) {σ : SG} (hb : ∀ i, i < L → σ 106 i = nI (B i)) (hl : σ 102 6 = nI L) (hT2 : σ 104 0 = nI T) {post : SG → Int32 → Prop} :
    ∀ f i n μ (s : SG), n ≤ 8 → i ≤ L → L < i + f → rrM post σ (rr B L T f i n μ) → (∀ y, y ≠ 102 → y ≠ 107 → s y = σ y) → (∀ j, j ≠ 7 → s 102 j = σ 102 j) → s 102 7 = nI i → (∀ j, j < n → s 107 (j + 1) = nI (μ j)) → T_X12_readsRow AF post 7 [.ref 102, .int (nI n), dum, dum] [] s := by
  intro f
  induction f with
  | zero => intro i n μ s hn hi hf; omega
  | succ f ih =>
    intro i n μ s hn hi hf K f1 f2 h7 hv
    have b6 : ∀ i, i < L → s 106 i = nI (B i) := fun i hi => by rw [f1 106 (by decide) (by decide)]; exact hb i hi
    have l6 : s 102 6 = nI L := (f2 6 (by decide)).trans hl
    rw [rr] at K
    apply g_X12_readsRow_7
    refine ⟨fun τ x => τ = s ∧ x = sgn B L i, ok_sign hL hi h7 l6 b6 ⟨rfl, rfl⟩, ?_⟩
    rintro t x ⟨rfl, rfl⟩
    refine ⟨fun τ x => τ = t ∧ x = sgn B L i, ok_sign hL hi h7 l6 b6 ⟨rfl, rfl⟩, ?_⟩
    rintro t x ⟨rfl, rfl⟩
    rw [show t 104 0 = nI T by rw [f1 104 (by decide) (by decide)]; exact hT2]
    have stop : (¬ i < L ∨ B i < 48 ∨ T ≤ B i - 48 ∨ n = 8) → post t (nI 0) := fun w => by
      rw [if_pos w] at K
      exact (K t f1 f2).1 i rfl h7
    by_cases hiL : i < L
    · have hBi := hB i hiL
      rw [show sgn B L i = nI (B i) by unfold sgn; rw [if_pos hiL], nI_ltI (by omega) (by decide), sub_neg (by omega) (by decide)]
      refine ⟨fun c1 => stop (Or.inr (Or.inl c1)), fun c1 => ⟨fun z => absurd z c1, fun _ => ?_⟩⟩
      rw [nI_subN (by omega), nI_leI (by omega) (by omega)]
      refine ⟨fun c2 => stop (Or.inr (Or.inr (Or.inl c2))), fun c2 => ⟨by omega, fun c3 => ?_, fun c3 => stop (Or.inr (Or.inr (Or.inr c3)))⟩⟩
      clear stop
      rw [if_neg (by omega)] at K
      intro s18 e18
      rw [h7, nI_add] at e18
      have g7 : s18 102 7 = nI (i + 1) := by rw [e18, up_s]
      have g1 : ∀ y, y ≠ 102 → y ≠ 107 → s18 y = σ y := fun y a b => by rw [e18, up_k a]; exact f1 y a b
      have g2 : ∀ j, j ≠ 7 → s18 102 j = σ 102 j := fun j hj => by rw [e18, up_j hj]; exact f2 j hj
      have gv : ∀ j, j < n → s18 107 (j + 1) = nI (μ j) := fun j hj => by rw [e18, up_k (by decide)]; exact hv j hj
      refine ⟨fun τ x => τ = s18 ∧ x = sgn B L (i + 1), ok_sign hL (by omega) g7 ((g2 6 (by decide)).trans hl) (fun i hi => by rw [g1 106 (by decide) (by decide)]; exact hb i hi) ⟨rfl, rfl⟩, ?_⟩
      rintro t20 x ⟨rfl, rfl⟩
      have q39 : sgn B L (i + 1) = nI 39 ↔ (i + 1 < L ∧ B (i + 1) = 39) := by
        unfold sgn
        by_cases c : i + 1 < L
        · have := hB (i + 1) c
          rw [if_pos c, nI_eq (by omega) (by decide)]
          exact ⟨fun z => ⟨c, z⟩, fun z => z.2⟩
        · rw [if_neg c]
          exact ⟨fun z => absurd z (by decide +kernel), fun z => absurd z.1 c⟩
      rw [q39]
      refine ⟨fun c => ?_, fun c => ?_⟩
      · rw [if_neg c] at K
        intro s25 e25
        rw [g7, nI_add, Nat.add_zero] at e25
        refine ⟨by omega, fun s27 e27 => ?_⟩
        rw [pk_mul, nI_add] at e27
        have k7 : s27 102 7 = nI (i + 1) := by rw [e27, up_k (by decide), e25, up_s]
        have k1 : ∀ y, y ≠ 102 → y ≠ 107 → s27 y = σ y := fun y a b => by rw [e27, up_k b, e25, up_k a]; exact g1 y a b
        have k2 : ∀ j, j ≠ 7 → s27 102 j = σ 102 j := fun j hj => by rw [e27, up_k (by decide), e25, up_j hj]; exact g2 j hj
        have kv : ∀ j, j < n + 1 → s27 107 (j + 1) = nI (if j = n then 2 * (B i - 48) else μ j) := fun j hj => by
          rw [e27]
          by_cases d : j = n
          · rw [d, up_s, if_pos rfl]; rfl
          · rw [up_j (by omega), if_neg d, e25, up_k (by decide)]; exact gv j (by omega)
        rw [k7, (k2 6 (by decide)).trans hl, nI_ltI (by omega) (by omega)]
        refine ⟨fun d => ?_, fun d => ?_⟩
        · rw [if_pos d] at K
          exact ih (i + 1) (n + 1) _ s27 (by omega) (by omega) (by omega) K k1 k2 k7 kv
        · rw [if_neg d] at K
          intro s29 e29
          refine (K s29 (fun y a b => by rw [e29, up_k b]; exact k1 y a b) (fun j hj => by rw [e29, up_k (by decide)]; exact k2 j hj)).2 rfl (by rw [e29, up_s]) (fun j hj => ?_)
          rw [e29, up_j (by omega)]
          exact kv j hj
      · rw [if_pos c] at K
        intro s30 e30
        rw [g7, nI_add] at e30
        refine ⟨by omega, fun s32 e32 => ?_⟩
        rw [pk_mul, nI_add] at e32
        have k7 : s32 102 7 = nI (i + 2) := by rw [e32, up_k (by decide), e30, up_s]
        have k1 : ∀ y, y ≠ 102 → y ≠ 107 → s32 y = σ y := fun y a b => by rw [e32, up_k b, e30, up_k a]; exact g1 y a b
        have k2 : ∀ j, j ≠ 7 → s32 102 j = σ 102 j := fun j hj => by rw [e32, up_k (by decide), e30, up_j hj]; exact g2 j hj
        have kv : ∀ j, j < n + 1 → s32 107 (j + 1) = nI (if j = n then 2 * (B i - 48) + 1 else μ j) := fun j hj => by
          rw [e32]
          by_cases d : j = n
          · rw [d, up_s, if_pos rfl]
          · rw [up_j (by omega), if_neg d, e30, up_k (by decide)]; exact gv j (by omega)
        rw [k7, (k2 6 (by decide)).trans hl, nI_ltI (by omega) (by omega)]
        refine ⟨fun d => ?_, fun d => ?_⟩
        · rw [if_pos d] at K
          exact ih (i + 2) (n + 1) _ s32 (by omega) (by omega) (by omega) K k1 k2 k7 kv
        · rw [if_neg d] at K
          intro s34 e34
          refine (K s34 (fun y a b => by rw [e34, up_k b]; exact k1 y a b) (fun j hj => by rw [e34, up_k (by decide)]; exact k2 j hj)).2 rfl (by rw [e34, up_s]) (fun j hj => ?_)
          rw [e34, up_j (by omega)]
          exact kv j hj
    · have p := stop (Or.inl hiL)
      rw [show sgn B L i = -1 by unfold sgn; rw [if_neg hiL]]
      exact ⟨fun _ => p, fun c => absurd (m1_neg (by decide)).2 c⟩
/-- the tape is empty then -/
def stE (Z : SG) : SG := up Z 102 6 (nI 0)
theorem stE_k {Z : SG} {k : Nat} (h : k ≠ 102) : stE Z k = Z k := up_k h
theorem stE_2 {Z : SG} {j : Nat} (h : j ≠ 6) : stE Z 102 j = Z 102 j := up_j h
theorem stE_6 {Z : SG} : stE Z 102 6 = nI 0 := up_s
theorem KI.empty {Z : SG} (hI : KI Z) : KI (stE Z) := hI.re3 (fun k _ b => stE_k b) (fun j hj => stE_2 hj) stE_6 (by rw [stE_k (by decide)]; exact hI.1) (fun _ h => by rw [stE_k (by decide)]; exact h)
theorem KM.empty {Z σ τ : SG} (hM : KM Z σ) (h : ∀ y, y ≠ 102 → y ≠ 107 → τ y = σ y) (h2 : ∀ j, j ≠ 6 → j ≠ 7 → j ≠ 8 → τ 102 j = σ 102 j) (h6 : τ 102 6 = nI 0) : KM (stE Z) τ := hM.re3 (fun k _ b => stE_k b) (fun j hj => stE_2 hj) stE_6 h6 (by rw [stE_k (by decide)]; unfold FS; rw [h 104 (by decide) (by decide)]; exact hM.1) (fun k a b c => h k (by omega) b) (fun j hj => h2 j (by omega) (by omega) (by omega))
/-- a row more -/
def stR (Z : SG) (R n : Nat) (μ : Nat → Nat) : SG := fun k j => if k = 104 then (if j = 1 then nI (R + 1) else if j = 95 + 9 * R then nI n else if 95 + 9 * R < j ∧ j < 95 + 9 * R + 1 + n then nI (μ (j - (95 + 9 * R + 1))) else Z 104 j) else if k = 102 ∧ j = 6 then nI 0 else Z k j
theorem stR_k {Z : SG} {R n k : Nat} {μ : Nat → Nat} (h : k ≠ 104) (h2 : k ≠ 102) : stR Z R n μ k = Z k := funext fun j => by
  unfold stR
  rw [if_neg h, if_neg (fun z => h2 z.1)]
theorem stR_2 {Z : SG} {R n j : Nat} {μ : Nat → Nat} (h : j ≠ 6) : stR Z R n μ 102 j = Z 102 j := by
  unfold stR
  rw [if_neg (by decide), if_neg (fun z => h z.2)]
theorem stR_6 {Z : SG} {R n : Nat} {μ : Nat → Nat} : stR Z R n μ 102 6 = nI 0 := by
  unfold stR
  rw [if_neg (by decide), if_pos ⟨rfl, rfl⟩]
theorem stR_1 {Z : SG} {R n : Nat} {μ : Nat → Nat} : stR Z R n μ 104 1 = nI (R + 1) := by
  unfold stR
  rw [if_pos rfl, if_pos rfl]
theorem stR_l {Z : SG} {R n : Nat} {μ : Nat → Nat} : stR Z R n μ 104 (95 + 9 * R) = nI n := by
  unfold stR
  rw [if_pos rfl, if_neg (by omega), if_pos rfl]
theorem stR_m {Z : SG} {R n i : Nat} {μ : Nat → Nat} (h : i < n) : stR Z R n μ 104 (95 + 9 * R + 1 + i) = nI (μ i) := by
  unfold stR
  rw [if_pos rfl, if_neg (by omega), if_neg (by omega), if_pos (by omega), Nat.add_sub_cancel_left]
theorem stR_o {Z : SG} {R n j : Nat} {μ : Nat → Nat} (h1 : j ≠ 1) (h : j < 95 + 9 * R ∨ 95 + 9 * R + 1 + n ≤ j) : stR Z R n μ 104 j = Z 104 j := by
  unfold stR
  rw [if_pos rfl, if_neg h1, if_neg (by omega), if_neg (by omega)]
theorem row_IS {Z : SG} (hS : IS (Z 104)) {R n : Nat} {μ : Nat → Nat} (hR : cR (Z 104) = R) (h10 : R < 10) (n1 : 1 ≤ n) (n8 : n ≤ 8) (hμ : ∀ i, i < n → μ i < 2 * cT (Z 104)) : IS (stR Z R n μ 104) := by
  have hT := hS.1.2
  have eT : cT (stR Z R n μ 104) = cT (Z 104) := congrArg na (stR_o (by decide) (by omega))
  have eR : cR (stR Z R n μ 104) = R + 1 := by unfold cR; rw [stR_1, na_nI (by omega)]
  have eK : cK (stR Z R n μ 104) = cK (Z 104) := congrArg na (stR_o (by decide) (by omega))
  have tA : TA 6 (Z 104) (stR Z R n μ 104) := fun t p ht hp => stR_o (by omega) (by omega)
  have rA : RA R (Z 104) (stR Z R n μ 104) := fun r j hr hj => stR_o (by omega) (by omega)
  refine ⟨by rw [eT, stR_o (by decide) (by omega)]; exact hS.1, by rw [eR, stR_1]; exact ⟨rfl, by omega⟩, by rw [eK, stR_o (by decide) (by omega)]; exact hS.2.2.1, fun t ht => ?_, fun r hr => ?_, ⟨fun p hp => ?_, ?_⟩, ?_, fun k hk => ?_⟩
  · rw [eT] at ht
    exact ⟨fun p hp => by rw [tA t p (by omega) hp, tA.gTE (by omega) hp]; exact (hS.2.2.2.1 t ht).1 p hp, (hS.2.2.2.1 t ht).2.cong (fun p hp => (tA.gTE (by omega) hp).symm)⟩
  · rw [eR] at hr
    rw [eT]
    by_cases d : r = R
    · rw [d]
      have e1 : ln (stR Z R n μ 104) R = n := by unfold ln; rw [stR_l, na_nI (by omega)]
      rw [e1]
      refine ⟨stR_l, n1, n8, fun i hi => ?_⟩
      have m := hμ i hi
      have e2 : mv (stR Z R n μ 104) R i = μ i := by unfold mv; rw [stR_m hi, na_nI (by omega)]
      rw [e2]
      exact ⟨stR_m hi, m⟩
    · obtain ⟨q1, q2, q3, q4⟩ := hS.2.2.2.2.1 r (by omega)
      rw [rA.lnE (by omega)]
      refine ⟨by rw [stR_o (by omega) (by omega)]; exact q1, q2, q3, fun i hi => ?_⟩
      rw [rA.mvE (by omega) (by omega), stR_o (by omega) (by omega)]
      exact q4 i hi
  · have : nw (stR Z R n μ 104) p = nw (Z 104) p := congrArg na (stR_o (by omega) (by omega))
    rw [this, stR_o (by omega) (by omega)]
    exact hS.2.2.2.2.2.1.1 p hp
  · exact hS.2.2.2.2.2.1.2.cong (fun p hp => (show nw (stR Z R n μ 104) p = nw (Z 104) p from congrArg na (stR_o (by omega) (by omega))).symm)
  · obtain ⟨h1, h2, h3, h4, h5⟩ := hS.2.2.2.2.2.2.1
    refine IH_raw (fun t ht => ?_) (fun a c ha hc => ?_) (fun t ht ht6 => ?_) ⟨⟨_, (stR_o (by decide) (by omega)).trans h4.1, h4.2⟩, ⟨_, (stR_o (by decide) (by omega)).trans h5.1, h5.2⟩⟩
    · obtain ⟨a1, a2, a3, a4, a5⟩ := h1 t ht
      exact ⟨⟨_, (stR_o (by omega) (by omega)).trans a1, a2, a3⟩, ⟨_, (stR_o (by omega) (by omega)).trans a4, a5⟩⟩
    · rw [stR_o (by omega) (by omega)]; exact h2 a c ha hc
    · rw [eT] at ht
      obtain ⟨q1, q2, q3⟩ := h3 t ht ht6
      exact ⟨(stR_o (by omega) (by omega)).trans q1, (stR_o (by omega) (by omega)).trans q2, fun c hc => ⟨(stR_o (by omega) (by omega)).trans (q3 c hc).1, (stR_o (by omega) (by omega)).trans (q3 c hc).2⟩⟩
  · rw [eK] at hk
    have hk4 := hS.2.2.1.2
    obtain ⟨q1, q2, q3, q4, q5, q6⟩ := hS.2.2.2.2.2.2.2 k hk
    exact step_raw ⟨⟨_, (stR_o (by omega) (by omega)).trans q1, q2⟩, ⟨_, (stR_o (by omega) (by omega)).trans q3, q4⟩, ⟨_, (stR_o (by omega) (by omega)).trans q5, q6⟩⟩
theorem row_PX {Z : SG} (hS : IS (Z 104)) {R n : Nat} {μ : Nat → Nat} (hR : cR (Z 104) = R) (h10 : R < 10) (n8 : n ≤ 8) {I : Nat → Int32} (h : PXI I (Z 104)) : PXI I (stR Z R n μ 104) := by
  have hT := hS.1.2
  have hK := hS.2.2.1.2
  have eT : cT (stR Z R n μ 104) = cT (Z 104) := congrArg na (stR_o (by decide) (by omega))
  have eR : cR (stR Z R n μ 104) = R + 1 := by unfold cR; rw [stR_1, na_nI (by omega)]
  have eK : cK (stR Z R n μ 104) = cK (Z 104) := congrArg na (stR_o (by decide) (by omega))
  obtain ⟨h1, h2, h3, h4, h5, h6⟩ := h
  unfold PXI
  rw [eT, eR, eK]
  exact ⟨h1, by omega, h3, fun t p ht hp => by rw [stR_o (by omega) (by omega)]; exact h4 t p ht hp, fun r j hr hj => by rw [stR_o (by omega) (by omega)]; exact h5 r j hr hj, fun k hk => by rw [stR_o (by omega) (by omega), stR_o (by omega) (by omega)]; exact h6 k hk⟩
theorem mrow {S : Nat → Int32} {R n : Nat} {v : Nat → Int32} (h10 : R < 10) (n8 : n ≤ 8) {σ : SG} (hv : ∀ i, i ≤ n → σ 107 i = v i) (h0 : v 0 = nI n) (h1 : σ 104 1 = nI R) {post : SG → Int32 → Prop} (K : ∀ τ : SG, (∀ k, k ≠ 104 → τ k = σ k) → τ 104 1 = nI (R + 1) → (∀ j, j ≠ 1 → τ 104 j = if 95 + 9 * R ≤ j ∧ j < 95 + 9 * R + (n + 1) then v (j - (95 + 9 * R)) else σ 104 j) → post τ (nI R)) :
    ∀ f i, i + f = n + 1 → ∀ s : SG, (∀ k, k ≠ 104 → s k = σ k) → (∀ j, s 104 j = if 95 + 9 * R ≤ j ∧ j < 95 + 9 * R + i then v (j - (95 + 9 * R)) else σ 104 j) → T_X12_row AF post 42 [.ref 102, dum, .int (nI i)] [] s := by
  intro f
  induction f with
  | zero =>
    intro i hi s f1 f2
    obtain rfl : i = n + 1 := by omega
    apply g_X12_row_42
    rw [f1 107 (by decide), hv 0 (by omega), h0, nI_ltI (by omega) (by omega)]
    refine ⟨fun _ s2 e2 => ?_, fun c => absurd (by omega) c⟩
    have e1 : s 104 1 = nI R := by rw [f2 1, if_neg (by omega)]; exact h1
    rw [e1, nI_add] at e2
    rw [show s2 104 1 - nI 1 = nI R by rw [e2, up_s, nI_subN (by omega), Nat.add_sub_cancel]]
    exact K s2 (fun k hk => by rw [e2, up_k hk]; exact f1 k hk) (by rw [e2, up_s]) (fun j hj => by rw [e2, up_j hj]; exact f2 j)
  | succ f ih =>
    intro i hi s f1 f2
    apply g_X12_row_42
    have e1 : s 104 1 = nI R := by rw [f2 1, if_neg (by omega)]; exact h1
    rw [f1 107 (by decide), hv 0 (by omega), h0, nI_ltI (by omega) (by omega), e1, hv i (by omega)]
    refine ⟨fun c => absurd c (by omega), fun _ => ⟨by omega, 95 + 9 * R + i, by rw [pk_mul, nI_add, nI_add], by omega, fun s7 e7 => ih (i + 1) (by omega) s7 (fun k hk => by rw [e7, up_k hk]; exact f1 k hk) (fun j => ?_)⟩⟩
    rw [e7]
    by_cases d : j = 95 + 9 * R + i
    · rw [d, up_s, if_pos (by omega), Nat.add_sub_cancel_left]
    · rw [up_j d, f2 j]
      by_cases e : 95 + 9 * R ≤ j ∧ j < 95 + 9 * R + i
      · rw [if_pos e, if_pos (by omega)]
      · rw [if_neg e, if_neg (by omega)]
theorem ne9_sub {a : Nat} (h : a < 2 ^ 31) : ¬ nI a = (-9 : Int32) := nI_ne9 h
