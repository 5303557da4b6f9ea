/-! turn: the reference's reading -/
def rF (σ τ : SG) : Prop := (∀ y, y ≠ 102 → y ≠ 107 → τ y = σ y) ∧ ∀ j, j ≠ 7 → j ≠ 8 → τ 102 j = σ 102 j
def rS (σ s : SG) (i us : Nat) (γ : Nat → Nat) : Prop := rF σ s ∧ s 102 7 = nI i ∧ s 102 8 = nI us ∧ ∀ p, p < 6 → s 107 p = nI (γ p)
theorem sg_i {B : Nat → Nat} {L i : Nat} (h : i < L) : sgn B L i = nI (B i) := if_pos h
theorem sg_e {B : Nat → Nat} {L i : Nat} (h : ¬ i < L) : sgn B L i = -1 := if_neg h
set_option maxHeartbeats 1000000 in
theorem mring {B : Nat → Nat} {L : Nat} (hL : L ≤ 16) (hB : ∀ i, i < L → B i < 256) {σ : SG} (hb : ∀ i, i < L → σ 106 i = nI (B i)) (hl : σ 102 6 = nI L) {post : SG → Int32 → Prop} :
    ∀ f i us le op la γ (fi lI : Int32) (s : SG), i + f = L → le ≤ i → us < 64 → (0 < le → fi = nI op ∧ lI = nI la ∧ la < 6) → rS σ s i us γ →
      (∀ τ j, rF σ τ → τ 102 7 = nI j → (tm B L f i true us le op la γ).1 = some j → post τ (nI 0)) →
      (∀ τ f' i' us' le' op' la' γ', i' + f' = L → i < i' → us' < 64 → tm B L f i true us le op la γ = tm B L f' i' false us' le' op' la' γ' → rS σ τ i' us' γ' → post τ (nI 1)) →
      T_X12_readsRing AF post 29 [.ref 102, .int fi, .int lI, .int (nI le), dum] [] s := by
  intro f
  induction f with
  | zero =>
    intro i us le op la γ fi lI s hi hle hus hla hs K0 K1
    obtain ⟨⟨f1, f2⟩, s7, s8, sv⟩ := hs
    have sg : ∀ {q : SG → Int32 → Prop}, q s (sgn B L i) → IN_X12_sign AF s [.ref 102] q := fun h => ok_sign hL (by omega) s7 ((f2 6 (by decide) (by decide)).trans hl) (fun i hi => by rw [f1 106 (by decide) (by decide)]; exact hb i hi) h
    have bad := K0 s L ⟨f1, f2⟩ (by rw [s7, show i = L by omega]) (by rw [tm_0, if_pos (Or.inl rfl)])
    apply g_X12_readsRing_29
    refine ⟨fun τ x => τ = s ∧ x = sgn B L i, sg ⟨rfl, rfl⟩, ?_⟩
    rintro t x ⟨rfl, rfl⟩
    rw [sg_e (by omega)]
    refine ⟨fun _ => ⟨fun τ x => τ = t ∧ x = sgn B L i, sg ⟨rfl, rfl⟩, ?_⟩, fun c => absurd (m1_neg (by decide)).2 c⟩
    rintro t x ⟨rfl, rfl⟩
    rw [sg_e (by omega)]
    exact ⟨fun _ => bad, fun c => absurd c (by decide +kernel)⟩
  | succ f ih =>
    intro i us le op la γ fi lI s hi hle hus hla hs K0 K1
    have hiL : i < L := by omega
    have hBi := hB i hiL
    obtain ⟨⟨f1, f2⟩, s7, s8, sv⟩ := hs
    have sg : ∀ {q : SG → Int32 → Prop}, q s (sgn B L i) → IN_X12_sign AF s [.ref 102] q := fun h => ok_sign hL (by omega) s7 ((f2 6 (by decide) (by decide)).trans hl) (fun i hi => by rw [f1 106 (by decide) (by decide)]; exact hb i hi) h
    have closing : ¬ (97 ≤ B i ∧ B i ≤ 102) → (∃ p9 : SG → Int32 → Prop, IN_X12_sign AF s [.ref 102] p9 ∧ ∀ (t8 : SG) (r7 : Int32), p9 t8 r7 → ((¬ r7 = (nI 41) → post t8 (nI 0)) ∧ (r7 = (nI 41) → (le < 2 ^ 31 ∧ ((2 ≤ le → (∃ j16 : Nat, lI = nI j16 ∧ j16 < 9 ∧ (∀ s18 : SG, s18 = up t8 107 j16 fi → (∀ s19 : SG, s19 = up s18 102 7 ((s18 102 7) + (nI 1)) → post s19 (nI 1))))) ∧ (le < 2 → post t8 (nI 0))))))) := fun w => by
      refine ⟨fun τ x => τ = s ∧ x = sgn B L i, sg ⟨rfl, rfl⟩, ?_⟩
      rintro t x ⟨rfl, rfl⟩
      rw [sg_i hiL, nI_eq (by omega) (by decide)]
      refine ⟨fun c => K0 t i ⟨f1, f2⟩ s7 (by rw [tm_n c (fun z => w ⟨z.1, z.2.1⟩)]), fun c => ⟨by omega, fun d => ?_, fun d => K0 t i ⟨f1, f2⟩ s7 (by rw [tm_d c (by omega)])⟩⟩
      obtain ⟨e1, e2, e3⟩ := hla (by omega)
      refine ⟨la, e2, by omega, fun s18 e18 s19 e19 => ?_⟩
      rw [show s18 102 7 = nI i by rw [e18, up_k (by decide)]; exact s7, nI_add] at e19
      refine K1 s19 f (i + 1) us le op la (set1 γ la op) (by omega) (by omega) hus (tm_c c d) ⟨⟨fun y a b => by rw [e19, up_k a, e18, up_k b]; exact f1 y a b, fun j a b => by rw [e19, up_j a, e18, up_k (by decide)]; exact f2 j a b⟩, by rw [e19, up_s], by rw [e19, up_j (by decide), e18, up_k (by decide)]; exact s8, fun p hp => ?_⟩
      rw [e19, up_k (by decide), e18, e1]
      by_cases z : p = la
      · rw [z, up_s, set1_s]
      · rw [up_j z, set1_o z]; exact sv p hp
    apply g_X12_readsRing_29
    refine ⟨fun τ x => τ = s ∧ x = sgn B L i, sg ⟨rfl, rfl⟩, ?_⟩
    rintro t x ⟨rfl, rfl⟩
    rw [sg_i hiL, nI_ltI (by omega) (by decide)]
    refine ⟨fun c => closing (by omega), fun c => ⟨fun τ x => τ = t ∧ x = sgn B L i, sg ⟨rfl, rfl⟩, ?_⟩⟩
    rintro t x ⟨rfl, rfl⟩
    rw [sg_i hiL, nI_ltI (by decide) (by omega)]
    refine ⟨fun d => closing (by omega), fun d => ⟨fun τ x => τ = t ∧ x = sgn B L i, sg ⟨rfl, rfl⟩, ?_⟩⟩
    clear closing
    rintro t x ⟨rfl, rfl⟩
    have hp : B i - 97 < 6 := by omega
    rw [sg_i hiL, nI_subN (by omega), s8, (bits hus hp).2.2.1, (us_at hus hp).1]
    refine ⟨fun e s45 e45 => ⟨by omega, fun z => ?_, fun z s53 e53 => ?_⟩, fun e => K0 t i ⟨f1, f2⟩ s7 (by rw [tm_n (by omega) (fun z => z.2.2 e)])⟩
    · obtain ⟨e1, e2, e3⟩ := hla (by omega)
      refine ⟨la, e2, by omega, fun s51 e51 s52 e52 => ?_⟩
      rw [show s51 102 7 = nI i by rw [e51, up_k (by decide), e45, up_j (by decide)]; exact s7, nI_add] at e52
      have st : rS σ s52 (i + 1) (us ||| 2 ^ (B i - 97)) (set1 γ la (B i - 97)) := by
        refine ⟨⟨fun y a b => by rw [e52, up_k a, e51, up_k b, e45, up_k a]; exact f1 y a b, fun j a b => by rw [e52, up_j a, e51, up_k (by decide), e45, up_j b]; exact f2 j a b⟩, by rw [e52, up_s], by rw [e52, up_j (by decide), e51, up_k (by decide), e45, up_s], fun p hp2 => ?_⟩
        rw [e52, up_k (by decide), e51]
        by_cases y : p = la
        · rw [y, up_s, set1_s]
        · rw [up_j y, set1_o y, e45, up_k (by decide)]; exact sv p hp2
      have eq := tm_2 (L := L) (f := f) (op := op) (la := la) (γ := γ) ⟨by omega, by omega, e⟩ z
      rw [eq] at K0 K1
      exact ih (i + 1) _ (le + 1) op _ _ _ _ s52 (by omega) (by omega) (us_at hus hp).2.1 (fun _ => ⟨e1, rfl, hp⟩) st K0 (fun τ f' i' us' le' op' la' γ' a b => K1 τ f' i' us' le' op' la' γ' a (by omega))
    · rw [show s45 102 7 = nI i by rw [e45, up_j (by decide)]; exact s7, nI_add] at e53
      have st : rS σ s53 (i + 1) (us ||| 2 ^ (B i - 97)) γ := ⟨⟨fun y a b => by rw [e53, up_k a, e45, up_k a]; exact f1 y a b, fun j a b => by rw [e53, up_j a, e45, up_j b]; exact f2 j a b⟩, by rw [e53, up_s], by rw [e53, up_j (by decide), e45, up_s], fun p hp2 => by rw [e53, up_k (by decide), e45, up_k (by decide)]; exact sv p hp2⟩
      have eq := tm_1 (L := L) (f := f) (op := op) (la := la) (γ := γ) ⟨by omega, by omega, e⟩ z
      rw [eq] at K0 K1
      exact ih (i + 1) _ (le + 1) _ _ _ _ _ s53 (by omega) (by omega) (us_at hus hp).2.1 (fun _ => ⟨rfl, rfl, hp⟩) st K0 (fun τ f' i' us' le' op' la' γ' a b => K1 τ f' i' us' le' op' la' γ' a (by omega))
theorem ok_ring {B : Nat → Nat} {L : Nat} (hL : L ≤ 16) (hB : ∀ i, i < L → B i < 256) {σ : SG} (hb : ∀ i, i < L → σ 106 i = nI (B i)) (hl : σ 102 6 = nI L) {f i us le op la : Nat} {γ : Nat → Nat} {s : SG} (hi : i + f = L) (hiL : i < L ∨ L = 0) (hus : us < 64) (hs : rS σ s i us γ) {post : SG → Int32 → Prop}
    (K0 : ∀ τ j, rF σ τ → τ 102 7 = nI j → (tm B L f i false us le op la γ).1 = some j → post τ (nI 0))
    (K1 : ∀ τ f' i' us' le' op' la' γ', i' + f' = L → i < i' → us' < 64 → tm B L f i false us le op la γ = tm B L f' i' false us' le' op' la' γ' → rS σ τ i' us' γ' → post τ (nI 1)) : IN_X12_readsRing AF s [.ref 102] post := by
  obtain ⟨⟨f1, f2⟩, s7, s8, sv⟩ := hs
  have sg : ∀ {q : SG → Int32 → Prop}, q s (sgn B L i) → IN_X12_sign AF s [.ref 102] q := fun h => ok_sign hL (by omega) s7 ((f2 6 (by decide) (by decide)).trans hl) (fun i hi => by rw [f1 106 (by decide) (by decide)]; exact hb i hi) h
  refine ⟨⟨_, _, rfl, rfl, Nat.le_of_ble_eq_true rfl, rc_102⟩, Nat.le_of_ble_eq_true rfl, g_X12_readsRing_0 ⟨fun τ x => τ = s ∧ x = sgn B L i, sg ⟨rfl, rfl⟩, ?_⟩⟩
  rintro t x ⟨rfl, rfl⟩
  cases f with
  | zero =>
    have L0 : L = 0 := by omega
    rw [sg_e (by omega)]
    exact ⟨fun c => absurd c (by decide +kernel), fun _ => K0 t L ⟨f1, f2⟩ (by rw [s7, show i = L by omega]) (by rw [tm_0, if_pos (Or.inr L0)])⟩
  | succ f =>
    have hiL : i < L := by omega
    have hBi := hB i hiL
    rw [sg_i hiL, nI_eq (by omega) (by decide)]
    refine ⟨fun c st e => ?_, fun c => K0 t i ⟨f1, f2⟩ s7 (by rw [tm_x c])⟩
    rw [s7, nI_add] at e
    rw [tm_o c] at K0 K1
    exact mring hL hB hb hl f (i + 1) us 0 op la γ _ _ st (by omega) (Nat.zero_le _) hus (fun z => absurd z (Nat.lt_irrefl _)) ⟨⟨fun y a b => by rw [e, up_k a]; exact f1 y a b, fun j a b => by rw [e, up_j a]; exact f2 j a b⟩, by rw [e, up_s], by rw [e, up_j (by decide)]; exact s8, fun p hp => by rw [e, up_k (by decide)]; exact sv p hp⟩ K0 (fun τ f' i' us' le' op' la' γ' a b => K1 τ f' i' us' le' op' la' γ' a (by omega))
def ttM (post : SG → Int32 → Prop) (σ : SG) (x : Option Nat × (Nat → Nat)) : Prop := ∀ τ : SG, rF σ τ → (∀ fi, x.1 = some fi → τ 102 7 = nI fi → post τ (nI 0)) ∧ (x.1 = none → (∀ p, p < 6 → τ 107 p = nI (x.2 p)) → post τ (nI 1))
theorem mturn {B : Nat → Nat} {L : Nat} (hL : L ≤ 16) (hB : ∀ i, i < L → B i < 256) {σ : SG} (hb : ∀ i, i < L → σ 106 i = nI (B i)) (hl : σ 102 6 = nI L) {post : SG → Int32 → Prop} :
    ∀ N f i us le op la γ (s : SG), f < N → i + f = L → (i < L ∨ L = 0) → us < 64 → rS σ s i us γ → ttM post σ (tm B L f i false us le op la γ) → T_X12_readsTurn AF post 31 [.ref 102, dum] [] s := by
  intro N
  induction N with
  | zero => intro f i us le op la γ s hf; omega
  | succ N ih =>
    intro f i us le op la γ s hf hi hiL hus hs K
    apply g_X12_readsTurn_31
    refine ⟨fun τ x => (x = nI 0 ∧ rF σ τ ∧ ∃ j, τ 102 7 = nI j ∧ (tm B L f i false us le op la γ).1 = some j) ∨ (x = nI 1 ∧ ∃ f' i' us' le' op' la' γ', i' + f' = L ∧ i < i' ∧ us' < 64 ∧ tm B L f i false us le op la γ = tm B L f' i' false us' le' op' la' γ' ∧ rS σ τ i' us' γ'), ok_ring (le := le) (op := op) (la := la) hL hB hb hl hi hiL hus hs (fun τ j a b c => Or.inl ⟨rfl, a, j, b, c⟩) (fun τ f' i' us' le' op' la' γ' a b c d e => Or.inr ⟨rfl, f', i', us', le', op', la', γ', a, b, c, d, e⟩), ?_⟩
    rintro t x (⟨rfl, a, j, b, c⟩ | ⟨rfl, f', i', us', le', op', la', γ', a, b, c, d, e⟩)
    · exact ⟨fun z => absurd nI_0 z, fun _ => (K t a).1 j c b⟩
    · rw [d] at K
      obtain ⟨⟨f1, f2⟩, s7, s8, sv⟩ := e
      rw [s7, (f2 6 (by decide) (by decide)).trans hl, nI_ltI (by omega) (by omega)]
      refine ⟨fun _ => ⟨fun z => ih f' i' us' le' op' la' γ' t (by omega) a (Or.inl z) c ⟨⟨f1, f2⟩, s7, s8, sv⟩ K, fun z => ?_⟩, fun z => absurd z (by decide +kernel)⟩
      obtain rfl : f' = 0 := by omega
      rw [tm_0, if_neg (fun y => by rcases y with y | y; cases y; omega)] at K
      exact (K t ⟨f1, f2⟩).2 rfl sv
/-- a turn more -/
def stT (Z : SG) (T : Nat) (π : Nat → Nat) : SG := fun k j => if k = 104 then (if j = 0 then nI (T + 1) else if 11 + 6 * T ≤ j ∧ j < 11 + 6 * T + 6 then nI (π (j - (11 + 6 * T))) else Z 104 j) else if k = 102 ∧ j = 6 then nI 0 else Z k j
theorem stT_k {Z : SG} {T k : Nat} {π : Nat → Nat} (h : k ≠ 104) (h2 : k ≠ 102) : stT Z T π k = Z k := funext fun j => by
  unfold stT
  rw [if_neg h, if_neg (fun z => h2 z.1)]
theorem stT_2 {Z : SG} {T j : Nat} {π : Nat → Nat} (h : j ≠ 6) : stT Z T π 102 j = Z 102 j := by
  unfold stT
  rw [if_neg (by decide), if_neg (fun z => h z.2)]
theorem stT_6 {Z : SG} {T : Nat} {π : Nat → Nat} : stT Z T π 102 6 = nI 0 := by
  unfold stT
  rw [if_neg (by decide), if_pos ⟨rfl, rfl⟩]
theorem stT_0 {Z : SG} {T : Nat} {π : Nat → Nat} : stT Z T π 104 0 = nI (T + 1) := by
  unfold stT
  rw [if_pos rfl, if_pos rfl]
theorem stT_g {Z : SG} {T p : Nat} {π : Nat → Nat} (h : p < 6) : stT Z T π 104 (11 + 6 * T + p) = nI (π p) := by
  unfold stT
  rw [if_pos rfl, if_neg (by omega), if_pos (by omega), Nat.add_sub_cancel_left]
theorem stT_o {Z : SG} {T j : Nat} {π : Nat → Nat} (h1 : j ≠ 0) (h : j < 11 + 6 * T ∨ 11 + 6 * T + 6 ≤ j) : stT Z T π 104 j = Z 104 j := by
  unfold stT
  rw [if_pos rfl, if_neg h1, if_neg (by omega)]
theorem turn_IS {Z : SG} (hS : IS (Z 104)) {T : Nat} {π : Nat → Nat} (hT : cT (Z 104) = T) (h6 : T < 6) (hπ : PM π) : IS (stT Z T π 104) := by
  have hR := hS.2.1.2
  have hK := hS.2.2.1.2
  have eT : cT (stT Z T π 104) = T + 1 := by unfold cT; rw [stT_0, na_nI (by omega)]
  have eR : cR (stT Z T π 104) = cR (Z 104) := congrArg na (stT_o (by decide) (by omega))
  have eK : cK (stT Z T π 104) = cK (Z 104) := congrArg na (stT_o (by decide) (by omega))
  have tA : TA T (Z 104) (stT Z T π 104) := fun t p ht hp => stT_o (by omega) (by omega)
  have rA : RA 10 (Z 104) (stT Z T π 104) := fun r j hr hj => stT_o (by omega) (by omega)
  refine ⟨by rw [eT, stT_0]; exact ⟨rfl, by omega⟩, by rw [eR, stT_o (by decide) (by omega)]; exact hS.2.1, by rw [eK, stT_o (by decide) (by omega)]; exact hS.2.2.1, fun t ht => ?_, fun r hr => ?_, ⟨fun p hp => ?_, ?_⟩, ?_, fun k hk => ?_⟩
  · rw [eT] at ht
    by_cases d : t = T
    · rw [d]
      have g : ∀ p, p < 6 → gT (stT Z T π 104) T p = π p := fun p hp => by
        have := hπ.1 p hp
        unfold gT
        rw [stT_g hp, na_nI (by omega)]
      exact ⟨fun p hp => by rw [g p hp]; exact stT_g hp, hπ.cong (fun p hp => (g p hp).symm)⟩
    · exact ⟨fun p hp => by rw [tA t p (by omega) hp, tA.gTE (by omega) hp]; exact (hS.2.2.2.1 t (by omega)).1 p hp, (hS.2.2.2.1 t (by omega)).2.cong (fun p hp => (tA.gTE (by omega) hp).symm)⟩
  · rw [eR] at hr
    obtain ⟨q1, q2, q3, q4⟩ := hS.2.2.2.2.1 r hr
    rw [rA.lnE (by omega), eT]
    refine ⟨by rw [stT_o (by omega) (by omega)]; exact q1, q2, q3, fun i hi => ?_⟩
    rw [rA.mvE (by omega) (by omega), stT_o (by omega) (by omega)]
    exact ⟨(q4 i hi).1, by have := (q4 i hi).2; omega⟩
  · have : nw (stT Z T π 104) p = nw (Z 104) p := congrArg na (stT_o (by omega) (by omega))
    rw [this, stT_o (by omega) (by omega)]
    exact hS.2.2.2.2.2.1.1 p hp
  · exact hS.2.2.2.2.2.1.2.cong (fun p hp => (show nw (stT Z T π 104) p = nw (Z 104) p from congrArg na (stT_o (by omega) (by omega))).symm)
  · obtain ⟨h1, h2, h3, h4, h5⟩ := hS.2.2.2.2.2.2.1
    refine IH_raw (fun t ht => ?_) (fun a c ha hc => ?_) (fun t ht ht6 => ?_) ⟨⟨_, (stT_o (by decide) (by omega)).trans h4.1, h4.2⟩, ⟨_, (stT_o (by decide) (by omega)).trans h5.1, h5.2⟩⟩
    · obtain ⟨a1, a2, a3, a4, a5⟩ := h1 t ht
      exact ⟨⟨_, (stT_o (by omega) (by omega)).trans a1, a2, a3⟩, ⟨_, (stT_o (by omega) (by omega)).trans a4, a5⟩⟩
    · rw [stT_o (by omega) (by omega)]; exact h2 a c ha hc
    · rw [eT] at ht
      obtain ⟨q1, q2, q3⟩ := h3 t (by omega) ht6
      exact ⟨(stT_o (by omega) (by omega)).trans q1, (stT_o (by omega) (by omega)).trans q2, fun c hc => ⟨(stT_o (by omega) (by omega)).trans (q3 c hc).1, (stT_o (by omega) (by omega)).trans (q3 c hc).2⟩⟩
  · rw [eK] at hk
    obtain ⟨q1, q2, q3, q4, q5, q6⟩ := hS.2.2.2.2.2.2.2 k hk
    exact step_raw ⟨⟨_, (stT_o (by omega) (by omega)).trans q1, q2⟩, ⟨_, (stT_o (by omega) (by omega)).trans q3, q4⟩, ⟨_, (stT_o (by omega) (by omega)).trans q5, q6⟩⟩
theorem turn_PX {Z : SG} (hS : IS (Z 104)) {T : Nat} {π : Nat → Nat} (hT : cT (Z 104) = T) (h6 : T < 6) {I : Nat → Int32} (h : PXI I (Z 104)) : PXI I (stT Z T π 104) := by
  have hR := hS.2.1.2
  have eT : cT (stT Z T π 104) = T + 1 := by unfold cT; rw [stT_0, na_nI (by omega)]
  have eR : cR (stT Z T π 104) = cR (Z 104) := congrArg na (stT_o (by decide) (by omega))
  have eK : cK (stT Z T π 104) = cK (Z 104) := congrArg na (stT_o (by decide) (by omega))
  obtain ⟨h1, h2, h3, h4, h5, h6⟩ := h
  unfold PXI
  rw [eT, eR, eK]
  exact ⟨by omega, h2, h3, fun t p ht hp => by rw [stT_o (by omega) (by omega)]; exact h4 t p ht hp, fun r j hr hj => by rw [stT_o (by omega) (by omega)]; exact h5 r j hr hj, fun k hk => by rw [stT_o (by omega) (by omega), stT_o (by omega) (by omega)]; exact h6 k hk⟩
theorem CU.less {S : Nat → Int32} {σ τ : SG} (hU : CU S σ) (hS : IS S) {T : Nat} (hT : cT S = T) (h : ∀ k, 7 ≤ k → k ≤ 34 → k ≠ 8 + 1 + 2 * T → τ k = σ k) : CU S τ := by
  have h6 := hS.1.2
  refine ⟨by rw [h 7 (by decide) (by decide) (by omega)]; exact hU.1, fun m p hm hp => by rw [h (8 + 1 + m) (by omega) (by omega) (by omega)]; exact hU.2.1 m p hm hp, fun m o hm ho => by rw [h (21 + 1 + m) (by omega) (by omega) (by omega)]; exact hU.2.2.1 m o hm ho, fun o ho => by rw [h 34 (by decide) (by decide) (by omega)]; exact hU.2.2.2 o ho⟩
theorem KC.turnE {Z σ τ : SG} (hC : KC Z σ) (hI : KI Z) {T : Nat} (hT : cT (Z 104) = T) (h6 : T < 6) (F : ∀ k, k < 102 → k ≠ 1 → k ≠ 8 + 1 + 2 * T → τ k = σ k) (t1 : τ 1 1 = nI 0) : KC (stE Z) τ := by
  have hS := hI.1
  refine hC.re3 (fun k _ b => stE_k b) (fun j hj => stE_2 hj) stE_6 t1 (fun k hk => F k (by omega) (by omega) (by omega)) (by rw [F 73 (by decide) (by decide) (by omega)]) (hC.1.fr (fun k a b => F k (by omega) (by omega) (by omega))) ?_ ?_ ?_ ?_ ?_
  · rw [stE_k (by decide)]; exact hC.2.1.less hS hT (fun k a b c => F k (by omega) (by omega) c)
  · rw [stE_k (by decide)]; exact hC.2.2.1.fr hS (fun k a b => F k (by omega) (by omega) (by omega))
  · rw [stE_k (by decide)]; exact hC.2.2.2.1.fr (fun k a b => F k (by omega) (by omega) (by omega))
  · rw [stE_k (by decide)]; exact hC.2.2.2.2.1.fr (fun k a b => F k (by omega) (by omega) (by omega))
  · rw [stE_k (by decide)]; unfold CN_; rw [F 0 (by decide) (by decide) (by omega)]; exact hC.2.2.2.2.2.1
theorem CH.forget {S : Nat → Int32} {σ τ : SG} (h : CH S σ) (hS : IS S) {T : Nat} (hT : cT S = T) (h6 : T < 6) (hf : fgA 61 σ τ T 6) : CH S τ := by
  obtain ⟨a1, a2, a3, a4⟩ := hf
  obtain ⟨q1, q2, q3⟩ := hS.2.2.2.2.2.2.1.2.2.1 T (by omega) h6
  have oth : ∀ k j, ¬ (k = 63 ∧ j = T) → ¬ (k = 64 ∧ j = T) → ¬ (k = 65 + 1 + T ∧ j < 6) → ¬ (65 < k ∧ k ≤ 71 ∧ j = T) → τ k j = σ k j := fun k j b1 b2 b3 b4 => by
    rcases a4 k j with z | z | z | z | z
    · exact absurd z b1
    · exact absurd z b2
    · exact absurd z b3
    · exact absurd z (by omega)
    · exact z
  refine ⟨fun t ht => ⟨?_, ?_, fun c hc => ?_⟩, ?_, ?_⟩
  · by_cases d : t = T
    · rw [d, q1]; exact a1
    · rw [oth 63 t (by omega) (by omega) (by omega) (by omega)]; exact (h.1 t ht).1
  · by_cases d : t = T
    · rw [d, q2]; exact a2
    · rw [oth 64 t (by omega) (by omega) (by omega) (by omega)]; exact (h.1 t ht).2.1
  · by_cases d : t = T
    · rw [d, (q3 c hc).1]; exact (a3 c hc).1
    · by_cases e : c = T
      · rw [e, (q3 t ht).2]; exact (a3 t ht).2
      · rw [oth (65 + 1 + t) c (by omega) (by omega) (by omega) (by omega)]; exact (h.1 t ht).2.2 c hc
  · rw [oth 72 0 (by omega) (by omega) (by omega) (by omega)]; exact h.2.1
  · rw [oth 72 1 (by omega) (by omega) (by omega) (by omega)]; exact h.2.2
theorem KC.turnT {Z σ τ : SG} (hC : KC Z σ) (hI : KI Z) {T : Nat} {π : Nat → Nat} (hT : cT (Z 104) = T) (h6 : T < 6) (hπ : PM π) (F : ∀ k, k < 102 → k ≠ 1 → k ≠ 6 → k ≠ 7 → k ≠ 8 + 1 + 2 * T → k ≠ 8 + 1 + (2 * T + 1) → k ≠ 21 + 1 + 2 * T → k ≠ 21 + 1 + (2 * T + 1) → k ≠ 34 → k ≠ 35 → ¬ (63 ≤ k ∧ k ≤ 72) → τ k = σ k) (t1 : τ 1 1 = nI 0) (hH : CH (Z 104) τ) (b1 : τ 7 0 = nI (T + 1)) (b2 : ∀ p, p < 6 → τ (8 + 1 + 2 * T) p = nI (π p)) (b3 : ∀ p, p < 6 → τ (8 + 1 + (2 * T + 1)) p = nI (inv6 π p)) (b4 : ∀ m o, m < 2 * T + 2 → o < 720 → τ (21 + 1 + m) o = nI (mo (stT Z T π 104) m o)) (b5 : ∀ o, o < 720 → isD (2 * T + 2) (mo (stT Z T π 104)) o (τ 34 o)) : KC (stT Z T π) τ := by
  have hS := hI.1
  have hR := hS.2.1.2
  have tA : TA T (Z 104) (stT Z T π 104) := fun t p ht hp => stT_o (by omega) (by omega)
  have rA : RA 10 (Z 104) (stT Z T π 104) := fun r j hr hj => stT_o (by omega) (by omega)
  have eT : cT (stT Z T π 104) = T + 1 := by unfold cT; rw [stT_0, na_nI (by omega)]
  have eR : cR (stT Z T π 104) = cR (Z 104) := congrArg na (stT_o (by decide) (by omega))
  have g : ∀ p, p < 6 → gT (stT Z T π 104) T p = π p := fun p hp => by
    have := hπ.1 p hp
    unfold gT
    rw [stT_g hp, na_nI (by omega)]
  have FF : ∀ k, k < 102 → k ≠ 1 → k ≠ 6 → (k < 7 ∨ 35 < k) → ¬ (63 ≤ k ∧ k ≤ 72) → τ k = σ k := fun k a b c d e => F k a b c (by omega) (by omega) (by omega) (by omega) (by omega) (by omega) (by omega) e
  refine hC.re3 (fun k a b => stT_k a b) (fun j hj => stT_2 hj) stT_6 t1 (fun k hk => FF k (by omega) (by omega) (by omega) (by omega) (by omega)) (by rw [FF 73 (by decide) (by decide) (by decide) (by decide) (by decide)]) (hC.1.fr (fun k a b => FF k (by omega) (by omega) (by omega) (by omega) (by omega))) ⟨by rw [b1, stT_0], fun m p hm hp => ?_, fun m o hm ho => b4 m o (by omega) ho, fun o ho => by rw [show 2 * cT (stT Z T π 104) = 2 * T + 2 by omega]; exact b5 o ho⟩ ⟨by rw [FF 36 (by decide) (by decide) (by decide) (by decide) (by decide), stT_o (by decide) (by omega)]; exact hC.2.2.1.1, fun r hr => ?_⟩ (hH.h (fun j hj => stT_o (by omega) (by omega))) ((hC.2.2.2.2.1.fr (fun k a b => FF k (by omega) (by omega) (by omega) (by omega) (by omega))).k (fun j hj => stT_o (by omega) (by omega))) (CN.k (S := Z 104) (by unfold CN_; rw [FF 0 (by decide) (by decide) (by decide) (by decide) (by decide)]; exact hC.2.2.2.2.2.1) (fun p hp => stT_o (by omega) (by omega)))
  · rw [eT] at hm
    by_cases d : m = 2 * T
    · rw [d, b2 p hp]
      unfold gm
      rw [if_pos (by omega), show 2 * T / 2 = T by omega, g p hp]
    · by_cases e : m = 2 * T + 1
      · rw [e, b3 p hp]
        unfold gm
        rw [if_neg (by omega), show (2 * T + 1) / 2 = T by omega, inv6_cong (fun q hq => g q hq) p]
      · rw [F (8 + 1 + m) (by omega) (by omega) (by omega) (by omega) (by omega) (by omega) (by omega) (by omega) (by omega) (by omega) (by omega), tA.gmE (by omega) hp]
        exact hC.2.1.2.1 m p (by omega) hp
  · rw [eR] at hr
    obtain ⟨q1, q2, q3⟩ := hC.2.2.1.2 r hr
    obtain ⟨l0, l1, l8, lm⟩ := hS.2.2.2.2.1 r hr
    rw [rA.lnE (by omega)]
    refine ⟨by rw [FF 37 (by decide) (by decide) (by decide) (by decide) (by decide)]; exact q1, fun i hi => ?_, fun o ho => ?_⟩
    · rw [FF (38 + 1 + r) (by omega) (by omega) (by omega) (by omega) (by omega), rA.mvE (by omega) (by omega)]; exact q2 i hi
    · rw [FF (49 + 1 + r) (by omega) (by omega) (by omega) (by omega) (by omega), eo_A hS tA rA (by omega) hr (fun i hi => by have := (lm i hi).2; omega)]; exact q3 o ho
