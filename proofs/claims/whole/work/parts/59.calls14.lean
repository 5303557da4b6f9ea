/-! film, held, heldUp -/
theorem film_I {Z : SG} (hI : KI Z) : na (Z 102 26) ≤ 8 := hI.2.2.2.2.2.2.1
theorem film_B {Z : SG} (hI : KI Z) {i : Nat} (hi : i < na (Z 102 26)) : Z 119 i = nI (na (Z 119 i)) ∧ na (Z 119 i) ≤ 127 := hI.2.2.2.2.2.2.2 i hi
theorem film_C {Z σ : SG} (hI : KI Z) (hC : KC Z σ) : σ 85 0 = nI (na (Z 102 26)) ∧ ∀ i, i < na (Z 102 26) → σ 86 i = nI (na (Z 119 i)) := ⟨hC.2.2.2.2.2.2.2.2.2.1.1.trans hI.2.2.2.2.2.1, fun i hi => (hC.2.2.2.2.2.2.2.2.2.1.2 i hi).trans (film_B hI hi).1⟩
theorem film_M {Z σ : SG} (hI : KI Z) (hM : KM Z σ) : σ 102 26 = nI (na (Z 102 26)) ∧ ∀ i, i < na (Z 102 26) → σ 119 i = nI (na (Z 119 i)) := ⟨hM.2.2.2.1.2.2.2.2.trans hI.2.2.2.2.2.1, fun i hi => (hM.2.2.2.2.2.2.2 i (by have := film_I hI; omega)).trans (film_B hI hi).1⟩
def stL (Z : SG) (n : Nat) (v : Int32) : SG := up (up Z 119 n v) 102 26 (nI (n + 1))
theorem stL_k {Z : SG} {n k : Nat} {v : Int32} (h : k ≠ 119) (h2 : k ≠ 102) : stL Z n v k = Z k := by unfold stL; rw [up_k h2, up_k h]
theorem stL_2 {Z : SG} {n j : Nat} {v : Int32} (h : j ≠ 26) : stL Z n v 102 j = Z 102 j := by unfold stL; rw [up_j h, up_k (by decide)]
theorem stL_l {Z : SG} {n : Nat} {v : Int32} : stL Z n v 102 26 = nI (n + 1) := up_s
theorem stL_n {Z : SG} {n : Nat} {v : Int32} : stL Z n v 119 n = v := by unfold stL; rw [up_k (by decide), up_s]
theorem stL_o {Z : SG} {n j : Nat} {v : Int32} (h : j ≠ n) : stL Z n v 119 j = Z 119 j := by unfold stL; rw [up_k (by decide), up_j h]
theorem KI.film {Z : SG} (hI : KI Z) {w : Nat} (h5 : na (Z 102 26) < 8) (h2 : w ≤ 127) : KI (stL Z (na (Z 102 26)) (nI w)) := by
  refine hI.re2 (stL_k (by decide) (by decide)) (stL_k (by decide) (by decide)) (stL_2 (by decide)) (stL_2 (by decide)) ?_ ?_ ?_
  · rw [stL_2 (by decide), stL_k (by decide) (by decide)]; exact hI.2.2.1
  · rw [stL_2 (by decide), stL_k (by decide) (by decide)]; exact hI.2.2.2.2.1
  · rw [stL_l, na_nI (by omega)]
    refine ⟨rfl, by omega, fun j hj => ?_⟩
    by_cases e : j = na (Z 102 26)
    · rw [e, stL_n, na_nI (by omega)]; exact ⟨rfl, h2⟩
    · rw [stL_o e]; exact film_B hI (by omega)
theorem J_film {Z σ : SG} (hI : KI Z) (hC : KC Z σ) (hM : KM Z σ) (a : Int32) : ∃ p, IN_X11_film AF σ [.ref 0, .int a] p ∧ ∀ t r, p t r → ∃ q, IN_X12_film AF t [.ref 102, .int a] q ∧ ∀ t' r', q t' r' → r = r' ∧ KK t' := by
  have hS := hI.1
  have h8 := film_I hI
  have hv := film_C hI hC
  by_cases c0 : nI 0 ≤ a
  · by_cases c1 : a ≤ nI 127
    · by_cases c2 : na (Z 102 26) < 8
      · obtain ⟨w, hw1, hw2, ea⟩ := arg_pos (by decide) (by decide) c0 c1
        refine joint (Z' := stL Z (na (Z 102 26)) (nI w)) (x := nI (na (Z 102 26) + 1)) (C := fun s p => IN_X11_film AF s [.ref 0, .int a] p) (M := fun s p => IN_X12_film AF s [.ref 102, .int a] p) (hI.film c2 hw2) hM ?_ (fun t hM => ?_)
        · refine ⟨⟨_, _, rfl, rfl, Nat.le_of_ble_eq_true rfl, rc_0⟩, Nat.le_of_ble_eq_true rfl, g_X11_film_0 ?_⟩
          rw [(film_C hI hC).1]
          refine ⟨fun _ => ⟨fun _ => ⟨fun _ => ?_, fun c => absurd (nI_lt c2 (by decide)) c⟩, fun c => absurd c1 c⟩, fun c => absurd c0 c⟩
          subst ea
          refine ⟨na (Z 102 26), rfl, c2, fun s11 e11 s12 e12 => ?_⟩
          subst e11
          rw [up_k (by decide), hv.1, nI_add] at e12
          subst e12
          refine ⟨up_s, hC.re2 hI (stL_k (by decide) (by decide)) (stL_k (by decide) (by decide)) (stL_k (by decide) (by decide)) (stL_k (by decide) (by decide)) (stL_2 (by decide)) (stL_2 (by decide)) (fun k _ _ _ _ _ a b => by rw [up_k a, up_k b]) ?_ ?_ ⟨by rw [stL_l, up_s], fun i hi => ?_⟩, fun k hk => by rw [up_k (by omega), up_k (by omega)]⟩
          · unfold KT; rw [stL_2 (by decide), stL_k (by decide) (by decide), up_k (by decide), up_k (by decide), up_k (by decide), up_k (by decide)]; exact hC.2.2.2.2.2.2.2.1
          · unfold KV; rw [stL_2 (by decide), stL_k (by decide) (by decide), up_k (by decide), up_k (by decide), up_k (by decide), up_k (by decide)]; exact hC.2.2.2.2.2.2.2.2.1
          · rw [stL_l, na_nI (by omega)] at hi
            rw [up_k (by decide)]
            by_cases e : i = na (Z 102 26)
            · rw [e, up_s, stL_n]
            · rw [up_j e, stL_o e]; exact hC.2.2.2.2.2.2.2.2.2.1.2 i (by omega)
        · refine ⟨⟨_, _, rfl, rfl, Nat.le_of_ble_eq_true rfl, rc_102⟩, Nat.le_of_ble_eq_true rfl, g_X12_film_0 ?_⟩
          rw [(film_M hI hM).1]
          refine ⟨fun _ => ⟨fun _ => ⟨fun _ => ?_, fun c => absurd c (fun z => by rw [nI_eq (by omega) (by decide)] at z; omega)⟩, fun c => absurd c1 c⟩, fun c => absurd c0 c⟩
          subst ea
          refine ⟨na (Z 102 26), rfl, c2, fun s9 e9 s10 e10 => ?_⟩
          subst e9
          rw [up_k (by decide), (film_M hI hM).1, nI_add] at e10
          subst e10
          refine ⟨up_s, hM.re2 (stL_k (by decide) (by decide)) (stL_k (by decide) (by decide)) (stL_k (by decide) (by decide)) (stL_k (by decide) (by decide)) (stL_2 (by decide)) (stL_2 (by decide)) (fun k hk => by rw [up_k (by omega), up_k (by omega)]) (by rw [up_j (by decide), up_k (by decide)]) (by rw [up_j (by decide), up_k (by decide)]) ?_ ?_ ?_ (fun j hj => ?_) (fun j hj => ?_) (fun j hj => ?_), fun k hk => by rw [up_k (by omega), up_k (by omega)]⟩
          · rw [up_j (by decide), up_k (by decide), stL_2 (by decide)]; exact hM.2.2.2.1.2.1
          · rw [up_j (by decide), up_k (by decide), stL_2 (by decide)]; exact hM.2.2.2.1.2.2.2.1
          · rw [up_s, stL_l]
          · rw [up_k (by decide), up_k (by decide), stL_k (by decide) (by decide)]; exact hM.2.2.2.2.1 j hj
          · rw [up_k (by decide), up_k (by decide), stL_k (by decide) (by decide)]; exact hM.2.2.2.2.2.2.1 j hj
          · rw [up_k (by decide)]
            by_cases e : j = na (Z 102 26)
            · rw [e, up_s, stL_n]
            · rw [up_j e, stL_o e]; exact hM.2.2.2.2.2.2.2 j hj
      · exact joint (Z' := rf Z 6) (x := -6) (C := fun s p => IN_X11_film AF s [.ref 0, .int a] p) (M := fun s p => IN_X12_film AF s [.ref 102, .int a] p) (hI.rf 6) hM ⟨⟨_, _, rfl, rfl, Nat.le_of_ble_eq_true rfl, rc_0⟩, Nat.le_of_ble_eq_true rfl, g_X11_film_0 (by rw [(film_C hI hC).1]; exact ⟨fun _ => ⟨fun _ => ⟨fun c => absurd c (nI_nlt (by omega) (by omega)), fun _ => DC_rf hC hI (by decide) (by decide)⟩, fun c => absurd c1 c⟩, fun c => absurd c0 c⟩)⟩ (fun t hM => ⟨⟨_, _, rfl, rfl, Nat.le_of_ble_eq_true rfl, rc_102⟩, Nat.le_of_ble_eq_true rfl, g_X12_film_0 (by rw [(film_M hI hM).1]; exact ⟨fun _ => ⟨fun _ => ⟨fun c => absurd (by rw [show na (Z 102 26) = 8 by omega]) c, fun _ => DM_rf hM (by decide)⟩, fun c => absurd c1 c⟩, fun c => absurd c0 c⟩)⟩)
    · exact joint (Z' := rf Z 6) (x := -6) (C := fun s p => IN_X11_film AF s [.ref 0, .int a] p) (M := fun s p => IN_X12_film AF s [.ref 102, .int a] p) (hI.rf 6) hM ⟨⟨_, _, rfl, rfl, Nat.le_of_ble_eq_true rfl, rc_0⟩, Nat.le_of_ble_eq_true rfl, g_X11_film_0 (by rw [(film_C hI hC).1]; exact ⟨fun _ => ⟨fun c => absurd c c1, fun _ => DC_rf hC hI (by decide) (by decide)⟩, fun c => absurd c0 c⟩)⟩ (fun t hM => ⟨⟨_, _, rfl, rfl, Nat.le_of_ble_eq_true rfl, rc_102⟩, Nat.le_of_ble_eq_true rfl, g_X12_film_0 (by rw [(film_M hI hM).1]; exact ⟨fun _ => ⟨fun c => absurd c c1, fun _ => DM_rf hM (by decide)⟩, fun c => absurd c0 c⟩)⟩)
  · exact joint (Z' := rf Z 4) (x := -4) (C := fun s p => IN_X11_film AF s [.ref 0, .int a] p) (M := fun s p => IN_X12_film AF s [.ref 102, .int a] p) (hI.rf 4) hM ⟨⟨_, _, rfl, rfl, Nat.le_of_ble_eq_true rfl, rc_0⟩, Nat.le_of_ble_eq_true rfl, g_X11_film_0 (by rw [(film_C hI hC).1]; exact ⟨fun c => absurd c c0, fun _ => DC_rf hC hI (by decide) (by decide)⟩)⟩ (fun t hM => ⟨⟨_, _, rfl, rfl, Nat.le_of_ble_eq_true rfl, rc_102⟩, Nat.le_of_ble_eq_true rfl, g_X12_film_0 (by rw [(film_M hI hM).1]; exact ⟨fun c => absurd c c0, fun _ => DM_rf hM (by decide)⟩)⟩)
def tkr (S : Nat → Int32) (r i : Nat) : Nat := tk S (ahd S r i) (mv S r i)
theorem tkr_le {S : Nat → Int32} (hS : IS S) {r i : Nat} (hr : r < cR S) (hi : i < ln S r) : tkr S r i ≤ 297 := (tk_le hS.2.2.2.2.2.2.1 (ahd_lt hS hr hi) (mv_lt hS hr hi)).2
theorem ok_tkC {S : Nat → Int32} (hS : IS S) {σ : SG} (hH : CH S σ) {r i : Nat} (hr : r < cR S) (hi : i < ln S r) {w : Int32} (hw : w = aI (ahd S r i)) {post : SG → Int32 → Prop} (K : post σ (nI (tkr S r i))) : IN_X2_takes AF σ [.ref 61, .int (nI (mv S r i)), .int w] post := by
  rw [hw]
  exact ok_takes hS.2.2.2.2.2.2.1 hH (mv_lt hS hr hi) (ahd_lt hS hr hi) K
theorem ok_tkM {S : Nat → Int32} (hS : IS S) {σ : SG} (hM : MS S σ) {r i : Nat} (hr : r < cR S) (hi : i < ln S r) {w : Int32} (hw : w = aI (ahd S r i)) {post : SG → Int32 → Prop} (K : post σ (nI (tkr S r i))) : IN_X12_takes AF σ [.ref 102, .int w, .int (nI (mv S r i))] post := by
  rw [hw]
  exact ok_mtakes hS.2.2.2.2.2.2.1 hM (mv_lt hS hr hi) (ahd_lt hS hr hi) K
theorem ahd_z {S : Nat → Int32} {r i : Nat} (h : i = 0) : (-9 : Int32) = aI (ahd S r i) := by subst h; rfl
theorem ahd_s {S : Nat → Int32} {r i : Nat} (h : ¬ i = 0) : nI (mv S r (i - 1)) = aI (ahd S r i) := by
  obtain ⟨j, rfl⟩ : ∃ j, i = j + 1 := ⟨i - 1, by omega⟩
  rfl
/-- the first held up by m more -/
def hdF (Z : SG) (r m : Nat) : Nat → Nat → Int32
  | 0, _ => if na (Z 102 26) ≤ ln (Z 104) r then -9 else nI 99
  | f + 1, i => if na (Z 102 26) ≤ i then nI i else if na (Z 119 i) ≤ tkr (Z 104) r i + m then hdF Z r m f (i + 1) else nI i
theorem cheld {Z σ : SG} (hI : KI Z) (hC : KC Z σ) {r m : Nat} (hr : r < cR (Z 104)) (hm : m ≤ 99) {post : SG → Int32 → Prop} :
    ∀ f i, i + f = ln (Z 104) r → i ≤ na (Z 102 26) → post σ (hdF Z r m f i) → T_X0_firstAbove AF post 13 [.ref 85, .int (nI r), .int (nI m), .int (nI (ln (Z 104) r)), .int (nI i)] [] σ := by
  have hS := hI.1
  have hR := hS.2.1.2
  have h8 := film_I hI
  obtain ⟨v1, v2⟩ := film_C hI hC
  obtain ⟨l0, l1, l8, lm⟩ := hS.2.2.2.2.1 r hr
  obtain ⟨w1, w2, w3⟩ := hC.2.2.1.2 r hr
  intro f
  induction f with
  | zero =>
    intro i hi hL K
    obtain rfl : i = ln (Z 104) r := by omega
    rw [hdF] at K
    apply g_X0_firstAbove_13
    rw [v1, nI_leI (by omega) (by omega), nI_leI (by omega) (by omega)]
    refine ⟨fun c => ⟨fun d => ⟨fun e => ?_, fun e => absurd c e⟩, fun d => absurd hL d⟩, fun c => ⟨by omega, by omega, fun _ => ⟨fun d => ⟨fun e => absurd e c, fun e => ?_⟩, fun d => absurd hL d⟩, fun d => absurd d (by omega)⟩⟩
    · rw [if_pos c] at K; exact K
    · rw [if_neg c] at K; exact K
  | succ f ih =>
    intro i hi hL K
    rw [hdF] at K
    apply g_X0_firstAbove_13
    rw [v1, nI_leI (by omega) (by omega), nI_leI (by omega) (by omega), nI_leI (by omega) (by omega), nI0_le (show i < 2 ^ 31 by omega)]
    have e : na (Z 102 26) ≤ i → i = na (Z 102 26) := fun z => by omega
    refine ⟨fun c => ⟨fun d => absurd d (by omega), fun d => ?_⟩, fun c => ⟨by omega, by omega, fun d => absurd d (by omega), fun _ => ⟨by omega, by omega, by omega, fun d => ?_, fun d => ⟨by omega, by omega, by omega, ?_⟩⟩⟩⟩
    · rw [if_pos c, e c] at K; exact K
    all_goals rw [if_neg c] at K
    all_goals have hx := tkr_le hS hr (show i < ln (Z 104) r by omega)
    all_goals have hb := (film_B hI (show i < na (Z 102 26) by omega)).2
    all_goals rw [w2 i (by omega)]
    · refine ⟨fun τ x => τ = σ ∧ x = nI (tkr (Z 104) r i), ok_tkC hS hC.2.2.2.1 hr (by omega) (ahd_z d) ⟨rfl, rfl⟩, ?_⟩
      rintro t x ⟨rfl, rfl⟩
      rw [v2 i (by omega), nI_add, nI_leI (by omega) (by omega)]
      refine ⟨fun q => ?_, fun q => ?_⟩
      · rw [if_pos q] at K; exact ih (i + 1) (by omega) (by omega) K
      · rw [if_neg q] at K; exact K
    · rw [w2 (i - 1) (by omega)]
      refine ⟨fun τ x => τ = σ ∧ x = nI (tkr (Z 104) r i), ok_tkC hS hC.2.2.2.1 hr (by omega) (ahd_s d) ⟨rfl, rfl⟩, ?_⟩
      rintro t x ⟨rfl, rfl⟩
      rw [v2 i (by omega), nI_add, nI_leI (by omega) (by omega)]
      refine ⟨fun q => ?_, fun q => ?_⟩
      · rw [if_pos q] at K; exact ih (i + 1) (by omega) (by omega) K
      · rw [if_neg q] at K; exact K
theorem mheld {Z σ : SG} (hI : KI Z) (hM : KM Z σ) {r m : Nat} (hr : r < cR (Z 104)) (hm : m ≤ 99) {post : SG → Int32 → Prop} :
    ∀ f i, i + f = ln (Z 104) r → post σ (hdF Z r m f i) → T_X12_held AF post 33 [.ref 102, .int (nI r), .int (nI m), dum, .int (nI i)] [] σ := by
  have hS := hI.1
  have hR := hS.2.1.2
  have h8 := film_I hI
  obtain ⟨v1, v2⟩ := film_M hI hM
  obtain ⟨l0, l1, l8, lm⟩ := hS.2.2.2.2.1 r hr
  have e0 : σ 104 (95 + 9 * r) = nI (ln (Z 104) r) := (hM.1 _ (by omega)).trans l0
  have e1 : ∀ i, i < ln (Z 104) r → σ 104 (95 + 9 * r + 1 + i) = nI (mv (Z 104) r i) := fun i hi => (hM.1 _ (by omega)).trans (lm i hi).1
  intro f
  induction f with
  | zero =>
    intro i hi K
    obtain rfl : i = ln (Z 104) r := by omega
    rw [hdF] at K
    apply g_X12_held_33
    rw [v1, e0, nI_leI (by omega) (by omega), nI_leI (by omega) (by omega)]
    refine ⟨by omega, fun _ => ⟨by omega, fun c => ?_, fun c => ?_⟩, fun c => absurd (Nat.le_refl _) c⟩
    · rw [if_pos c] at K; exact K
    · rw [if_neg c] at K; exact K
  | succ f ih =>
    intro i hi K
    rw [hdF] at K
    apply g_X12_held_33
    rw [v1, e0, nI_leI (by omega) (by omega), nI_leI (by omega) (by omega), nI_leI (by omega) (by omega)]
    refine ⟨by omega, fun c => absurd c (by omega), fun _ => ⟨fun c => ?_, fun c => ⟨by omega, by omega, fun d => ⟨by omega, by omega, by omega, ?_⟩, fun d => ⟨by omega, ?_⟩⟩⟩⟩
    · rw [if_pos c] at K; exact K
    all_goals rw [if_neg c] at K
    all_goals have hx := tkr_le hS hr (show i < ln (Z 104) r by omega)
    all_goals have hb := (film_B hI (show i < na (Z 102 26) by omega)).2
    all_goals rw [e1 i (by omega)]
    · rw [e1 (i - 1) (by omega)]
      refine ⟨fun τ x => τ = σ ∧ x = nI (tkr (Z 104) r i), ok_tkM hS hM.1.ms hr (by omega) (ahd_s d) ⟨rfl, rfl⟩, ?_⟩
      rintro t x ⟨rfl, rfl⟩
      rw [v2 i (by omega), nI_add, nI_leI (by omega) (by omega)]
      refine ⟨fun q => ?_, fun q => ?_⟩
      · rw [if_pos q] at K; exact ih (i + 1) (by omega) K
      · rw [if_neg q] at K; exact K
    · refine ⟨fun τ x => τ = σ ∧ x = nI (tkr (Z 104) r i), ok_tkM hS hM.1.ms hr (by omega) (ahd_z d) ⟨rfl, rfl⟩, ?_⟩
      rintro t x ⟨rfl, rfl⟩
      rw [v2 i (by omega), nI_add, nI_leI (by omega) (by omega)]
      refine ⟨fun q => ?_, fun q => ?_⟩
      · rw [if_pos q] at K; exact ih (i + 1) (by omega) K
      · rw [if_neg q] at K; exact K
theorem J_held {Z σ : SG} (hI : KI Z) (hC : KC Z σ) (hM : KM Z σ) (a b : Int32) : ∃ p, IN_X11_held AF σ [.ref 0, .int a, .int b] p ∧ ∀ t r, p t r → ∃ q, IN_X12_held AF t [.ref 102, .int a, .int b] q ∧ ∀ t' r', q t' r' → r = r' ∧ KK t' := by
  have hS := hI.1
  have hR := hS.2.1.2
  have hT := hS.1.2
  by_cases c0 : a < 0
  · exact joint (Z' := rf Z 1) (x := -1) (C := fun s p => IN_X11_held AF s [.ref 0, .int a, .int b] p) (M := fun s p => IN_X12_held AF s [.ref 102, .int a, .int b] p) (hI.rf 1) hM ⟨⟨_, _, rfl, rfl, Nat.le_of_ble_eq_true rfl, rc_0⟩, Nat.le_of_ble_eq_true rfl, g_X11_held_0 (by rw [show σ 36 0 = nI (cR (Z 104)) from hC.2.2.1.1.trans hS.2.1.1]; exact ⟨fun _ => DC_rf hC hI (by decide) (by decide), fun c => absurd c0 c⟩)⟩ (fun t hM => ⟨⟨_, _, rfl, rfl, Nat.le_of_ble_eq_true rfl, rc_102⟩, Nat.le_of_ble_eq_true rfl, g_X12_held_0 (by rw [show t 104 1 = nI (cR (Z 104)) from (hM.1 1 (by decide)).trans hS.2.1.1]; exact ⟨fun _ => DM_rf hM (by decide), fun c => absurd c0 c⟩)⟩)
  · by_cases c1 : nI (cR (Z 104)) ≤ a
    · exact joint (Z' := rf Z 1) (x := -1) (C := fun s p => IN_X11_held AF s [.ref 0, .int a, .int b] p) (M := fun s p => IN_X12_held AF s [.ref 102, .int a, .int b] p) (hI.rf 1) hM ⟨⟨_, _, rfl, rfl, Nat.le_of_ble_eq_true rfl, rc_0⟩, Nat.le_of_ble_eq_true rfl, g_X11_held_0 (by rw [show σ 36 0 = nI (cR (Z 104)) from hC.2.2.1.1.trans hS.2.1.1]; exact ⟨fun c => absurd c c0, fun _ => ⟨fun _ => DC_rf hC hI (by decide) (by decide), fun c => absurd c1 c⟩⟩)⟩ (fun t hM => ⟨⟨_, _, rfl, rfl, Nat.le_of_ble_eq_true rfl, rc_102⟩, Nat.le_of_ble_eq_true rfl, g_X12_held_0 (by rw [show t 104 1 = nI (cR (Z 104)) from (hM.1 1 (by decide)).trans hS.2.1.1]; exact ⟨fun c => absurd c c0, fun _ => ⟨fun _ => DM_rf hM (by decide), fun c => absurd c1 c⟩⟩)⟩)
    · by_cases c2 : nI 0 ≤ b
      · by_cases c3 : b ≤ nI 99
        · obtain ⟨r, hr, ea⟩ := arg_in (by omega) c0 c1
          obtain ⟨m, hm1, hm2, eb⟩ := arg_pos (by decide) (by decide) c2 c3
          refine joint (Z' := Z) (x := hdF Z r m (ln (Z 104) r) 0) (C := fun s p => IN_X11_held AF s [.ref 0, .int a, .int b] p) (M := fun s p => IN_X12_held AF s [.ref 102, .int a, .int b] p) hI hM ?_ (fun t hM => ?_)
          · refine ⟨⟨_, _, rfl, rfl, Nat.le_of_ble_eq_true rfl, rc_0⟩, Nat.le_of_ble_eq_true rfl, g_X11_held_0 ?_⟩
            rw [show σ 36 0 = nI (cR (Z 104)) from hC.2.2.1.1.trans hS.2.1.1]
            refine ⟨fun c => absurd c c0, fun _ => ⟨fun c => absurd c c1, fun _ => ⟨fun _ => ⟨fun _ => ?_, fun c => absurd c3 c⟩, fun c => absurd c2 c⟩⟩⟩
            subst ea
            subst eb
            refine ⟨fun τ x => τ = σ ∧ x = hdF Z r m (ln (Z 104) r) 0, ⟨⟨_, _, rfl, rfl, Nat.le_of_ble_eq_true rfl, rc_85⟩, Nat.le_of_ble_eq_true rfl, g_X0_firstAbove_0 ⟨by omega, ?_⟩⟩, ?_⟩
            · rw [(hC.2.2.1.2 r hr).1]
              exact cheld hI hC hr hm2 (ln (Z 104) r) 0 (Nat.zero_add _) (Nat.zero_le _) ⟨rfl, rfl⟩
            rintro t x ⟨rfl, rfl⟩
            exact DC_rfl hC
          · refine ⟨⟨_, _, rfl, rfl, Nat.le_of_ble_eq_true rfl, rc_102⟩, Nat.le_of_ble_eq_true rfl, g_X12_held_0 ?_⟩
            rw [show t 104 1 = nI (cR (Z 104)) from (hM.1 1 (by decide)).trans hS.2.1.1]
            refine ⟨fun c => absurd c c0, fun _ => ⟨fun c => absurd c c1, fun _ => ⟨fun _ => ⟨fun _ => ?_, fun c => absurd c3 c⟩, fun c => absurd c2 c⟩⟩⟩
            subst ea
            subst eb
            exact mheld hI hM hr hm2 (ln (Z 104) r) 0 (Nat.zero_add _) (DM_rfl hM)
        · exact joint (Z' := rf Z 6) (x := -6) (C := fun s p => IN_X11_held AF s [.ref 0, .int a, .int b] p) (M := fun s p => IN_X12_held AF s [.ref 102, .int a, .int b] p) (hI.rf 6) hM ⟨⟨_, _, rfl, rfl, Nat.le_of_ble_eq_true rfl, rc_0⟩, Nat.le_of_ble_eq_true rfl, g_X11_held_0 (by rw [show σ 36 0 = nI (cR (Z 104)) from hC.2.2.1.1.trans hS.2.1.1]; exact ⟨fun c => absurd c c0, fun _ => ⟨fun c => absurd c c1, fun _ => ⟨fun _ => ⟨fun c => absurd c c3, fun _ => DC_rf hC hI (by decide) (by decide)⟩, fun c => absurd c2 c⟩⟩⟩)⟩ (fun t hM => ⟨⟨_, _, rfl, rfl, Nat.le_of_ble_eq_true rfl, rc_102⟩, Nat.le_of_ble_eq_true rfl, g_X12_held_0 (by rw [show t 104 1 = nI (cR (Z 104)) from (hM.1 1 (by decide)).trans hS.2.1.1]; exact ⟨fun c => absurd c c0, fun _ => ⟨fun c => absurd c c1, fun _ => ⟨fun _ => ⟨fun c => absurd c c3, fun _ => DM_rf hM (by decide)⟩, fun c => absurd c2 c⟩⟩⟩)⟩)
      · exact joint (Z' := rf Z 4) (x := -4) (C := fun s p => IN_X11_held AF s [.ref 0, .int a, .int b] p) (M := fun s p => IN_X12_held AF s [.ref 102, .int a, .int b] p) (hI.rf 4) hM ⟨⟨_, _, rfl, rfl, Nat.le_of_ble_eq_true rfl, rc_0⟩, Nat.le_of_ble_eq_true rfl, g_X11_held_0 (by rw [show σ 36 0 = nI (cR (Z 104)) from hC.2.2.1.1.trans hS.2.1.1]; exact ⟨fun c => absurd c c0, fun _ => ⟨fun c => absurd c c1, fun _ => ⟨fun c => absurd c c2, fun _ => DC_rf hC hI (by decide) (by decide)⟩⟩⟩)⟩ (fun t hM => ⟨⟨_, _, rfl, rfl, Nat.le_of_ble_eq_true rfl, rc_102⟩, Nat.le_of_ble_eq_true rfl, g_X12_held_0 (by rw [show t 104 1 = nI (cR (Z 104)) from (hM.1 1 (by decide)).trans hS.2.1.1]; exact ⟨fun c => absurd c c0, fun _ => ⟨fun c => absurd c c1, fun _ => ⟨fun c => absurd c c2, fun _ => DM_rf hM (by decide)⟩⟩⟩)⟩)
def duF (S : Nat → Int32) (r i : Nat) : Nat := if i < ln S r then tkr S r i else 0
def huF (Z : SG) (r : Nat) : Nat → Int32
  | 0 => nI 0
  | i + 1 => huF Z r i + if na (Z 119 i) ≤ duF (Z 104) r i then nI 0 else nI (na (Z 119 i)) - nI (duF (Z 104) r i)
theorem pos_sub {a b : Nat} (ha : a < 2 ^ 30) (hb : b < 2 ^ 30) : nI 0 < nI a - nI b ↔ ¬ a ≤ b := by
  rw [Int32.lt_iff_toInt_lt, pk_sub_toInt ha hb, nI_toInt (by decide)]
  omega
theorem mx_sub {a b : Nat} (ha : a < 2 ^ 30) (hb : b < 2 ^ 30) : (if nI 0 < nI a - nI b then nI a - nI b else nI 0) = if a ≤ b then nI 0 else nI a - nI b := by
  by_cases c : a ≤ b
  · rw [if_pos c, if_neg (fun z => (pos_sub ha hb).1 z c)]
  · rw [if_neg c, if_pos ((pos_sub ha hb).2 c)]
theorem cheldUp {Z σ : SG} (hI : KI Z) (hC : KC Z σ) {r : Nat} (hr : r < cR (Z 104)) {post : SG → Int32 → Prop} (K : post σ (huF Z r (na (Z 102 26)))) :
    ∀ f i, i + f = na (Z 102 26) → T_X0_allAbove AF post 4 [.ref 85, .int (nI r), .int (huF Z r i), .int (nI i), dum] [] σ := by
  have hS := hI.1
  have hR := hS.2.1.2
  have h8 := film_I hI
  obtain ⟨v1, v2⟩ := film_C hI hC
  obtain ⟨l0, l1, l8, lm⟩ := hS.2.2.2.2.1 r hr
  obtain ⟨w1, w2, w3⟩ := hC.2.2.1.2 r hr
  intro f
  induction f with
  | zero =>
    intro i hi
    obtain rfl : i = na (Z 102 26) := by omega
    apply g_X0_allAbove_4
    rw [v1]
    exact ⟨fun _ => K, fun c => absurd (nI_le (Nat.le_refl _) (by omega)) c⟩
  | succ f ih =>
    intro i hi
    have n := ih (i + 1) (by omega)
    have hb := (film_B hI (show i < na (Z 102 26) by omega)).2
    rw [huF] at n
    apply g_X0_allAbove_4
    rw [v1, w1, v2 i (by omega), nI_leI (by omega) (by omega), nI_leI (by omega) (by omega), nI0_le (show i < 2 ^ 31 by omega)]
    refine ⟨fun c => absurd c (by omega), fun _ => ⟨fun c => absurd c (nI_pos (by omega)), fun _ => ⟨by omega, fun c => ⟨by omega, ?_⟩, fun c => ⟨by omega, by omega, fun d => ?_, fun d => ⟨by omega, by omega, by omega, ?_⟩⟩⟩⟩⟩
    · rw [mx_sub (by omega) (by decide)]
      rw [show duF (Z 104) r i = 0 from if_neg (by omega)] at n
      exact n
    all_goals have hx := tkr_le hS hr (show i < ln (Z 104) r by omega)
    all_goals rw [show duF (Z 104) r i = tkr (Z 104) r i from if_pos (by omega)] at n
    all_goals rw [w2 i (by omega)]
    · refine ⟨fun τ x => τ = σ ∧ x = nI (tkr (Z 104) r i), ok_tkC hS hC.2.2.2.1 hr (by omega) (ahd_z d) ⟨rfl, rfl⟩, ?_⟩
      rintro t x ⟨rfl, rfl⟩
      rw [v2 i (by omega), mx_sub (by omega) (by omega)]
      exact ⟨by omega, n⟩
    · rw [w2 (i - 1) (by omega)]
      refine ⟨fun τ x => τ = σ ∧ x = nI (tkr (Z 104) r i), ok_tkC hS hC.2.2.2.1 hr (by omega) (ahd_s d) ⟨rfl, rfl⟩, ?_⟩
      rintro t x ⟨rfl, rfl⟩
      rw [v2 i (by omega), mx_sub (by omega) (by omega)]
      exact ⟨by omega, n⟩
theorem mheldUp {Z σ : SG} (hI : KI Z) (hM : KM Z σ) {r : Nat} (hr : r < cR (Z 104)) {post : SG → Int32 → Prop} (K : post (up σ 102 26 (nI 0)) (huF Z r (na (Z 102 26)))) :
    ∀ f i, i + f = na (Z 102 26) → T_X12_heldUp AF post 18 [.ref 102, .int (nI r), .int (huF Z r i), .int (nI i), dum] [] σ := by
  have hS := hI.1
  have hR := hS.2.1.2
  have h8 := film_I hI
  obtain ⟨v1, v2⟩ := film_M hI hM
  obtain ⟨l0, l1, l8, lm⟩ := hS.2.2.2.2.1 r hr
  have e0 : σ 104 (95 + 9 * r) = nI (ln (Z 104) r) := (hM.1 _ (by omega)).trans l0
  have e1 : ∀ i, i < ln (Z 104) r → σ 104 (95 + 9 * r + 1 + i) = nI (mv (Z 104) r i) := fun i hi => (hM.1 _ (by omega)).trans (lm i hi).1
  intro f
  induction f with
  | zero =>
    intro i hi
    obtain rfl : i = na (Z 102 26) := by omega
    apply g_X12_heldUp_18
    rw [v1]
    exact ⟨fun _ s es => by subst es; exact K, fun c => absurd (nI_le (Nat.le_refl _) (by omega)) c⟩
  | succ f ih =>
    intro i hi
    have n := ih (i + 1) (by omega)
    have hb := (film_B hI (show i < na (Z 102 26) by omega)).2
    rw [huF] at n
    apply g_X12_heldUp_18
    rw [v1, e0, v2 i (by omega), nI_leI (by omega) (by omega), nI_leI (by omega) (by omega), nI_leI (by omega) (by omega)]
    refine ⟨fun c => absurd c (by omega), fun _ => ⟨by omega, fun c => ⟨by omega, fun d => ?_, fun d => ⟨by omega, ?_⟩⟩, fun c => ⟨by omega, fun d => ⟨by omega, by omega, by omega, ?_⟩, fun d => ⟨by omega, ?_⟩⟩⟩⟩
    · rw [show duF (Z 104) r i = 0 from if_neg (by omega), if_pos d] at n; exact n
    · rw [show duF (Z 104) r i = 0 from if_neg (by omega), if_neg d] at n; exact n
    all_goals have hx := tkr_le hS hr (show i < ln (Z 104) r by omega)
    all_goals rw [show duF (Z 104) r i = tkr (Z 104) r i from if_pos (by omega)] at n
    all_goals rw [e1 i (by omega)]
    · rw [e1 (i - 1) (by omega)]
      refine ⟨fun τ x => τ = σ ∧ x = nI (tkr (Z 104) r i), ok_tkM hS hM.1.ms hr (by omega) (ahd_s d) ⟨rfl, rfl⟩, ?_⟩
      rintro t x ⟨rfl, rfl⟩
      rw [v2 i (by omega), nI_leI (by omega) (by omega)]
      refine ⟨by omega, fun q => ?_, fun q => ⟨by omega, ?_⟩⟩
      · rw [if_pos q] at n; exact n
      · rw [if_neg q] at n; exact n
    · refine ⟨fun τ x => τ = σ ∧ x = nI (tkr (Z 104) r i), ok_tkM hS hM.1.ms hr (by omega) (ahd_z d) ⟨rfl, rfl⟩, ?_⟩
      rintro t x ⟨rfl, rfl⟩
      rw [v2 i (by omega), nI_leI (by omega) (by omega)]
      refine ⟨by omega, fun q => ?_, fun q => ⟨by omega, ?_⟩⟩
      · rw [if_pos q] at n; exact n
      · rw [if_neg q] at n; exact n
theorem KI.noFilm {Z : SG} (hI : KI Z) : KI (up Z 102 26 (nI 0)) := by
  refine hI.re2 (up_k (by decide)) (up_k (by decide)) (up_j (by decide)) (up_j (by decide)) ?_ ?_ ?_
  · rw [up_j (by decide), up_k (by decide)]; exact hI.2.2.1
  · rw [up_j (by decide), up_k (by decide)]; exact hI.2.2.2.2.1
  · rw [up_s, na_nI (by decide)]; exact ⟨rfl, by decide, fun j hj => absurd hj (Nat.not_lt_zero _)⟩
theorem KC.noFilm {Z σ : SG} (hC : KC Z σ) (hI : KI Z) : KC (up Z 102 26 (nI 0)) (up σ 85 0 (nI 0)) := by
  refine hC.re2 hI (up_k (by decide)) (up_k (by decide)) (up_k (by decide)) (up_k (by decide)) (up_j (by decide)) (up_j (by decide)) (fun k _ _ _ _ _ a _ => up_k a) ?_ ?_ ⟨by rw [up_s, up_s], fun i hi => ?_⟩
  · unfold KT; rw [up_j (by decide), up_k (by decide), up_k (by decide), up_k (by decide)]; exact hC.2.2.2.2.2.2.2.1
  · unfold KV; rw [up_j (by decide), up_k (by decide), up_k (by decide), up_k (by decide)]; exact hC.2.2.2.2.2.2.2.2.1
  · rw [up_s, na_nI (by decide)] at hi; exact absurd hi (Nat.not_lt_zero _)
theorem KM.noFilm {Z σ : SG} (hM : KM Z σ) : KM (up Z 102 26 (nI 0)) (up σ 102 26 (nI 0)) := by
  refine hM.re2 (up_k (by decide)) (up_k (by decide)) (up_k (by decide)) (up_k (by decide)) (up_j (by decide)) (up_j (by decide)) (fun k hk => up_k (by omega)) (up_j (by decide)) (up_j (by decide)) ?_ ?_ (by rw [up_s, up_s]) (fun j hj => ?_) (fun j hj => ?_) (fun j hj => ?_)
  · rw [up_j (by decide), up_j (by decide)]; exact hM.2.2.2.1.2.1
  · rw [up_j (by decide), up_j (by decide)]; exact hM.2.2.2.1.2.2.2.1
  · rw [up_k (by decide), up_k (by decide)]; exact hM.2.2.2.2.1 j hj
  · rw [up_k (by decide), up_k (by decide)]; exact hM.2.2.2.2.2.2.1 j hj
  · rw [up_k (by decide), up_k (by decide)]; exact hM.2.2.2.2.2.2.2 j hj
theorem J_heldUp {Z σ : SG} (hI : KI Z) (hC : KC Z σ) (hM : KM Z σ) (a : Int32) : ∃ p, IN_X11_heldUp AF σ [.ref 0, .int a] p ∧ ∀ t r, p t r → ∃ q, IN_X12_heldUp AF t [.ref 102, .int a] q ∧ ∀ t' r', q t' r' → r = r' ∧ KK t' := by
  have hS := hI.1
  have hR := hS.2.1.2
  have hT := hS.1.2
  by_cases c0 : a < 0
  · exact joint (Z' := rf Z 1) (x := -1) (C := fun s p => IN_X11_heldUp AF s [.ref 0, .int a] p) (M := fun s p => IN_X12_heldUp AF s [.ref 102, .int a] p) (hI.rf 1) hM ⟨⟨_, _, rfl, rfl, Nat.le_of_ble_eq_true rfl, rc_0⟩, Nat.le_of_ble_eq_true rfl, g_X11_heldUp_0 (by rw [show σ 36 0 = nI (cR (Z 104)) from hC.2.2.1.1.trans hS.2.1.1]; exact ⟨fun _ => DC_rf hC hI (by decide) (by decide), fun c => absurd c0 c⟩)⟩ (fun t hM => ⟨⟨_, _, rfl, rfl, Nat.le_of_ble_eq_true rfl, rc_102⟩, Nat.le_of_ble_eq_true rfl, g_X12_heldUp_0 (by rw [show t 104 1 = nI (cR (Z 104)) from (hM.1 1 (by decide)).trans hS.2.1.1]; exact ⟨fun _ => DM_rf hM (by decide), fun c => absurd c0 c⟩)⟩)
  · by_cases c1 : nI (cR (Z 104)) ≤ a
    · exact joint (Z' := rf Z 1) (x := -1) (C := fun s p => IN_X11_heldUp AF s [.ref 0, .int a] p) (M := fun s p => IN_X12_heldUp AF s [.ref 102, .int a] p) (hI.rf 1) hM ⟨⟨_, _, rfl, rfl, Nat.le_of_ble_eq_true rfl, rc_0⟩, Nat.le_of_ble_eq_true rfl, g_X11_heldUp_0 (by rw [show σ 36 0 = nI (cR (Z 104)) from hC.2.2.1.1.trans hS.2.1.1]; exact ⟨fun c => absurd c c0, fun _ => ⟨fun _ => DC_rf hC hI (by decide) (by decide), fun c => absurd c1 c⟩⟩)⟩ (fun t hM => ⟨⟨_, _, rfl, rfl, Nat.le_of_ble_eq_true rfl, rc_102⟩, Nat.le_of_ble_eq_true rfl, g_X12_heldUp_0 (by rw [show t 104 1 = nI (cR (Z 104)) from (hM.1 1 (by decide)).trans hS.2.1.1]; exact ⟨fun c => absurd c c0, fun _ => ⟨fun _ => DM_rf hM (by decide), fun c => absurd c1 c⟩⟩)⟩)
    · obtain ⟨r, hr, ea⟩ := arg_in (by omega) c0 c1
      refine joint (Z' := up Z 102 26 (nI 0)) (x := huF Z r (na (Z 102 26))) (C := fun s p => IN_X11_heldUp AF s [.ref 0, .int a] p) (M := fun s p => IN_X12_heldUp AF s [.ref 102, .int a] p) hI.noFilm hM ?_ (fun t hM => ?_)
      · refine ⟨⟨_, _, rfl, rfl, Nat.le_of_ble_eq_true rfl, rc_0⟩, Nat.le_of_ble_eq_true rfl, g_X11_heldUp_0 ?_⟩
        rw [show σ 36 0 = nI (cR (Z 104)) from hC.2.2.1.1.trans hS.2.1.1]
        refine ⟨fun c => absurd c c0, fun _ => ⟨fun c => absurd c c1, fun _ => ?_⟩⟩
        subst ea
        refine ⟨fun τ x => τ = σ ∧ x = huF Z r (na (Z 102 26)), ⟨⟨_, _, rfl, rfl, Nat.le_of_ble_eq_true rfl, rc_85⟩, Nat.le_of_ble_eq_true rfl, g_X0_allAbove_0 (cheldUp hI hC hr ⟨rfl, rfl⟩ (na (Z 102 26)) 0 (Nat.zero_add _))⟩, ?_⟩
        rintro t x ⟨rfl, rfl⟩
        intro s es
        subst es
        exact ⟨rfl, hC.noFilm hI, fun k hk => up_k (by omega)⟩
      · refine ⟨⟨_, _, rfl, rfl, Nat.le_of_ble_eq_true rfl, rc_102⟩, Nat.le_of_ble_eq_true rfl, g_X12_heldUp_0 ?_⟩
        rw [show t 104 1 = nI (cR (Z 104)) from (hM.1 1 (by decide)).trans hS.2.1.1]
        refine ⟨fun c => absurd c c0, fun _ => ⟨fun c => absurd c c1, fun _ => ?_⟩⟩
        subst ea
        exact mheldUp hI hM hr ⟨rfl, hM.noFilm, fun k hk => up_k (by omega)⟩ (na (Z 102 26)) 0 (Nat.zero_add _)
