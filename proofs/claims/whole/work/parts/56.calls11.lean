/-! order, keeps, kind, drawn -/
theorem or0_all : (List.range 64).all (fun a => decide ((nI a ||| nI 0) = nI a)) = true := by decide +kernel
theorem or0 {a : Nat} (h : a < 64) : (nI a ||| nI 0) = nI a := of_decide_eq_true (List.all_eq_true.mp or0_all a (List.mem_range.mpr h))
theorem eo_fix {S : Nat → Int32} (hS : IS S) {r p : Nat} (hr : r < cR S) (hp : p < 6) : P (eo S r 0) p = p ↔ dT S r p = p := by
  have h0 := eo_P hS hr (o := 0) (by decide) hp
  have h1 := eo_lt hS hr (o := 0) (by decide)
  rw [P_0 hp] at h0
  constructor
  · intro h
    exact ((P_ok h1).1.2 p (dT S r p) hp ((dT_PM hS hr).1 p hp) (by rw [h, h0])).symm
  · intro h
    rw [h] at h0
    exact h0
theorem mkeeps {S : Nat → Int32} (hS : IS S) {σ : SG} (hM : MS S σ) {r : Nat} (hr : r < cR S) {post : SG → Int32 → Prop} (K : post σ (nI (ow (eo S r 0)))) :
    ∀ f p, p + f = 6 → T_X12_keeps AF post 18 [.ref 102, .int (nI r), .int (nI (owp (eo S r 0) p)), .int (nI p)] [] σ := by
  have ho := eo_lt hS hr (o := 0) (by decide)
  intro f
  induction f with
  | zero =>
    intro p hp
    obtain rfl : p = 6 := by omega
    apply g_X12_keeps_18
    rw [ow_eq]
    exact ⟨by decide, fun _ => K, fun c => absurd c (by decide)⟩
  | succ f ih =>
    intro p hp
    obtain ⟨_, _, _, _, _, a6, a7⟩ := okL_at ho (show p < 6 by omega)
    apply g_X12_keeps_18
    refine ⟨by omega, fun c => absurd c (by omega), fun _ => ⟨fun τ x => τ = σ ∧ x = nI (dT S r p), ok_doesTo hS hM hr (by omega) ⟨rfl, rfl⟩, ?_⟩⟩
    rintro t x ⟨rfl, rfl⟩
    have d := (dT_PM hS hr).1 p (by omega)
    have e := eo_fix hS hr (show p < 6 by omega)
    have n := ih (p + 1) (by omega)
    rw [nI_eq (by omega) (by omega)]
    refine ⟨fun c => ?_, fun c => ?_⟩
    · rw [owp, if_neg (fun z => c (e.1 z)), Nat.add_zero] at n
      rw [or0 a7]
      exact n
    · rw [owp, if_pos (e.2 c)] at n
      rw [orB (by omega) a7 a6]
      exact n
theorem J_keeps {Z σ : SG} (hI : KI Z) (hC : KC Z σ) (hM : KM Z σ) (a : Int32) : ∃ p, IN_X11_keeps AF σ [.ref 0, .int a] p ∧ ∀ t r, p t r → ∃ q, IN_X12_keeps AF t [.ref 102, .int a] q ∧ ∀ t' r', q t' r' → r = r' ∧ KK t' := by
  have hS := hI.1
  have hR := hS.2.1.2
  have hT := hS.1.2
  by_cases c0 : a < 0
  · exact joint (Z' := rf Z 1) (x := -1) (C := fun s p => IN_X11_keeps AF s [.ref 0, .int a] p) (M := fun s p => IN_X12_keeps AF s [.ref 102, .int a] p) (hI.rf 1) hM ⟨⟨_, _, rfl, rfl, Nat.le_of_ble_eq_true rfl, rc_0⟩, Nat.le_of_ble_eq_true rfl, g_X11_keeps_0 (by rw [show σ 36 0 = nI (cR (Z 104)) from hC.2.2.1.1.trans hS.2.1.1]; exact ⟨fun _ => DC_rf hC hI (by decide) (by decide), fun c => absurd c0 c⟩)⟩ (fun t hM => ⟨⟨_, _, rfl, rfl, Nat.le_of_ble_eq_true rfl, rc_102⟩, Nat.le_of_ble_eq_true rfl, g_X12_keeps_0 (by rw [show t 104 1 = nI (cR (Z 104)) from (hM.1 1 (by decide)).trans hS.2.1.1]; exact ⟨fun _ => DM_rf hM (by decide), fun c => absurd c0 c⟩)⟩)
  · by_cases c1 : nI (cR (Z 104)) ≤ a
    · exact joint (Z' := rf Z 1) (x := -1) (C := fun s p => IN_X11_keeps AF s [.ref 0, .int a] p) (M := fun s p => IN_X12_keeps AF s [.ref 102, .int a] p) (hI.rf 1) hM ⟨⟨_, _, rfl, rfl, Nat.le_of_ble_eq_true rfl, rc_0⟩, Nat.le_of_ble_eq_true rfl, g_X11_keeps_0 (by rw [show σ 36 0 = nI (cR (Z 104)) from hC.2.2.1.1.trans hS.2.1.1]; exact ⟨fun c => absurd c c0, fun _ => ⟨fun _ => DC_rf hC hI (by decide) (by decide), fun c => absurd c1 c⟩⟩)⟩ (fun t hM => ⟨⟨_, _, rfl, rfl, Nat.le_of_ble_eq_true rfl, rc_102⟩, Nat.le_of_ble_eq_true rfl, g_X12_keeps_0 (by rw [show t 104 1 = nI (cR (Z 104)) from (hM.1 1 (by decide)).trans hS.2.1.1]; exact ⟨fun c => absurd c c0, fun _ => ⟨fun _ => DM_rf hM (by decide), fun c => absurd c1 c⟩⟩)⟩)
    · obtain ⟨r, hr, ea⟩ := arg_in (by omega) c0 c1
      refine joint (Z' := Z) (x := nI (ow (eo (Z 104) r 0))) (C := fun s p => IN_X11_keeps AF s [.ref 0, .int a] p) (M := fun s p => IN_X12_keeps AF s [.ref 102, .int a] p) hI hM ?_ (fun t hM => ?_)
      · refine ⟨⟨_, _, rfl, rfl, Nat.le_of_ble_eq_true rfl, rc_0⟩, Nat.le_of_ble_eq_true rfl, g_X11_keeps_0 ?_⟩
        rw [show σ 36 0 = nI (cR (Z 104)) from hC.2.2.1.1.trans hS.2.1.1]
        refine ⟨fun c => absurd c c0, fun _ => ⟨fun c => absurd c c1, fun _ => ?_⟩⟩
        subst ea
        refine ⟨r, rfl, by omega, eo (Z 104) r 0, (hC.2.2.1.2 r hr).2.2 0 (by decide), eo_lt hS hr (by decide), ?_⟩
        rw [hC.1.2 _ (eo_lt hS hr (by decide))]
        exact DC_rfl hC
      · refine ⟨⟨_, _, rfl, rfl, Nat.le_of_ble_eq_true rfl, rc_102⟩, Nat.le_of_ble_eq_true rfl, g_X12_keeps_0 ?_⟩
        rw [show t 104 1 = nI (cR (Z 104)) from (hM.1 1 (by decide)).trans hS.2.1.1]
        refine ⟨fun c => absurd c c0, fun _ => ⟨fun c => absurd c c1, fun _ => ?_⟩⟩
        subst ea
        exact mkeeps hS hM.1.ms hr (DM_rfl hM) 6 0 rfl
def it (g : Nat → Nat) : Nat → Nat → Nat
  | 0, p => p
  | n + 1, p => g (it g n p)
theorem it_lt {g : Nat → Nat} (hg : PM g) : ∀ n {p : Nat}, p < 6 → it g n p < 6
  | 0, _, h => h
  | n + 1, _, h => hg.1 _ (it_lt hg n h)
theorem it_cong {g h : Nat → Nat} (hg : PM g) (e : ∀ p, p < 6 → g p = h p) : ∀ n {p : Nat}, p < 6 → it g n p = it h n p
  | 0, _, _ => rfl
  | n + 1, p, hp => by
    rw [it, it, ← it_cong hg e n hp]
    exact e _ (it_lt hg n hp)
def idn (g : Nat → Nat) (n : Nat) : Bool := (List.range 6).all fun p => it g n p == p
theorem idn_iff {g : Nat → Nat} {n : Nat} : idn g n = true ↔ ∀ p, p < 6 → it g n p = p := by
  unfold idn
  rw [List.all_eq_true]
  exact ⟨fun h p hp => by simpa using h p (List.mem_range.mpr hp), fun h p hp => by simpa using h p (List.mem_range.mp hp)⟩
set_option maxRecDepth 100000 in
theorem q_it : all6 (fun a b c d e f => (List.range 6).any fun k => idn (tv6 [a, b, c, d, e, f]) (k + 1)) = true := by decide +kernel
theorem it_six {g : Nat → Nat} (hg : PM g) : ∃ N, 1 ≤ N ∧ N ≤ 6 ∧ idn g N = true := by
  have h := PM.q q_it hg
  obtain ⟨k, hk, h2⟩ := List.any_eq_true.mp h
  have hk6 := List.mem_range.mp hk
  refine ⟨k + 1, by omega, by omega, idn_iff.2 fun p hp => ?_⟩
  rw [it_cong hg (h := tv6 [g 0, g 1, g 2, g 3, g 4, g 5]) (fun q hq => by rcases lt6 hq with rfl | rfl | rfl | rfl | rfl | rfl <;> rfl) (k + 1) hp]
  exact idn_iff.1 h2 p hp
theorem it_least {g : Nat → Nat} (hg : PM g) : ∃ N, 1 ≤ N ∧ N ≤ 6 ∧ idn g N = true ∧ ∀ n, 1 ≤ n → n < N → ¬ idn g n = true := by
  obtain ⟨N, h1, h2, h3⟩ := it_six hg
  induction N using Nat.strongRecOn with
  | ind N ih =>
    by_cases z : ∃ n, 1 ≤ n ∧ n < N ∧ idn g n = true
    · obtain ⟨n, a1, a2, a3⟩ := z
      exact ih n a2 a1 (by omega) a3
    · exact ⟨N, h1, h2, h3, fun n a1 a2 a3 => z ⟨n, a1, a2, a3⟩⟩
def ei (S : Nat → Int32) (r : Nat) : Nat → Nat
  | 0 => 0
  | n + 1 => eo S r (ei S r n)
theorem ei_lt {S : Nat → Int32} (hS : IS S) {r : Nat} (hr : r < cR S) : ∀ n, ei S r n < 720
  | 0 => show 0 < 720 by decide
  | n + 1 => eo_lt hS hr (ei_lt hS hr n)
theorem ei_P {S : Nat → Int32} (hS : IS S) {r : Nat} (hr : r < cR S) : ∀ n {p : Nat}, p < 6 → P (ei S r n) (it (dT S r) n p) = p
  | 0, _, hp => P_0 hp
  | n + 1, _, hp => by
    rw [ei, it, eo_P hS hr (ei_lt hS hr n) (it_lt (dT_PM hS hr) n hp)]
    exact ei_P hS hr n hp
theorem ei_0 {S : Nat → Int32} (hS : IS S) {r : Nat} (hr : r < cR S) {n : Nat} : ei S r n = 0 ↔ idn (dT S r) n = true := by
  have h1 := ei_lt hS hr n
  rw [idn_iff]
  constructor
  · intro h p hp
    have := ei_P hS hr n hp
    rwa [h, P_0 (it_lt (dT_PM hS hr) n hp)] at this
  · intro h
    refine P_inj h1 (by decide) fun p hp => ?_
    have := ei_P hS hr n hp
    rw [h p hp] at this
    rw [this, P_0 hp]
theorem corder {S : Nat → Int32} (hS : IS S) {σ : SG} (hW : CW S σ) {r N : Nat} (hr : r < cR S) (h6 : N ≤ 6) (hN : idn (dT S r) N = true) (hm : ∀ n, 1 ≤ n → n < N → ¬ idn (dT S r) n = true) {post : SG → Int32 → Prop} (K : post σ (nI N)) :
    ∀ f n, n + f = N → 1 ≤ n → T_X11_order AF post 31 [.ref 0, .int (nI r), .int (nI (ei S r n)), .int (nI n)] [] σ := by
  have hR := hS.2.1.2
  intro f
  induction f with
  | zero =>
    intro n hn h1
    obtain rfl : n = N := by omega
    have := ei_lt hS hr n
    apply g_X11_order_31
    exact ⟨by omega, fun _ => K, fun c => absurd ((ei_0 hS hr).2 hN) c⟩
  | succ f ih =>
    intro n hn h1
    have hx := ei_lt hS hr n
    apply g_X11_order_31
    refine ⟨by omega, fun c => absurd ((ei_0 hS hr).1 c) (hm n h1 (by omega)), fun _ => ⟨by omega, fun c => absurd c (by omega), fun _ => ⟨by omega, hx, ?_⟩⟩⟩
    rw [(hW.2 r hr).2.2 _ hx]
    exact ih (n + 1) (by omega) (by omega)
def hoF (g : Nat → Nat) (n : Nat) : Nat → Int32
  | 0 => nI 1
  | p + 1 => if it g n p = p then hoF g n p else nI 0
theorem hoF_01 {g : Nat → Nat} {n : Nat} : ∀ p, hoF g n p = nI 1 ∨ hoF g n p = nI 0
  | 0 => Or.inl rfl
  | p + 1 => by
    rw [hoF]
    split
    · exact hoF_01 p
    · exact Or.inr rfl
theorem hoF_1 {g : Nat → Nat} {n : Nat} : ∀ p, hoF g n p = nI 1 ↔ ∀ q, q < p → it g n q = q
  | 0 => ⟨fun _ q hq => absurd hq (Nat.not_lt_zero _), fun _ => rfl⟩
  | p + 1 => by
    rw [hoF]
    constructor
    · intro h q hq
      by_cases c : it g n p = p
      · rw [if_pos c] at h
        by_cases e : q = p
        · rw [e]; exact c
        · exact (hoF_1 p).1 h q (by omega)
      · rw [if_neg c] at h
        exact absurd h (by decide +kernel)
    · intro h
      rw [if_pos (h p (by omega))]
      exact (hoF_1 p).2 fun q hq => h q (by omega)
theorem hoF_id {g : Nat → Nat} {n : Nat} : ¬ hoF g n 6 = 0 ↔ idn g n = true := by
  rw [idn_iff, ← hoF_1 6]
  rcases hoF_01 (g := g) (n := n) 6 with h | h <;> rw [h] <;> decide +kernel
theorem morder_in {S : Nat → Int32} (hS : IS S) {r n : Nat} (hr : r < cR S) {Q : SG → Prop} (hQ : ∀ σ p v, Q σ → Q (up σ 107 p v)) (hQM : ∀ σ, Q σ → MS S σ) {post : SG → Int32 → Prop}
    (K : ∀ τ : SG, Q τ → (∀ p, p < 6 → τ 107 p = nI (it (dT S r) (n + 1) p)) → T_X12_order AF post 43 [.ref 102, .int (nI r), .int (nI (n + 1)), .int (hoF (dT S r) (n + 1) 6), dum] [] τ) :
    ∀ f p, p + f = 6 → ∀ σ : SG, Q σ → (∀ q, q < p → σ 107 q = nI (it (dT S r) (n + 1) q)) → (∀ q, p ≤ q → q < 6 → σ 107 q = nI (it (dT S r) n q)) → T_X12_order AF post 52 [.ref 102, .int (nI r), .int (nI n), .int (hoF (dT S r) (n + 1) p), .int (nI p)] [] σ := by
  intro f
  induction f with
  | zero =>
    intro p hp σ hM h1 h2
    obtain rfl : p = 6 := by omega
    apply g_X12_order_52
    exact ⟨by decide, fun _ => K σ hM h1, fun c => absurd c (by decide)⟩
  | succ f ih =>
    intro p hp σ hM h1 h2
    have hd := dT_PM hS hr
    have hx := it_lt hd n (show p < 6 by omega)
    have hy := it_lt hd (n + 1) (show p < 6 by omega)
    apply g_X12_order_52
    rw [h2 p (by omega) (by omega)]
    refine ⟨by omega, fun c => absurd c (by omega), fun _ => ⟨by omega, fun τ x => τ = σ ∧ x = nI (dT S r (it (dT S r) n p)), ok_doesTo hS (hQM _ hM) hr hx ⟨rfl, rfl⟩, ?_⟩⟩
    rintro t x ⟨rfl, rfl⟩
    refine ⟨by omega, fun s es => ?_⟩
    have es2 : s = up t 107 p (nI (it (dT S r) (n + 1) p)) := es
    clear es
    subst es2
    have nx := ih (p + 1) (by omega) (up t 107 p (nI (it (dT S r) (n + 1) p))) (hQ _ _ _ hM) (fun q hq => by
      by_cases e : q = p
      · rw [e, up_s]
      · rw [up_j e]; exact h1 q (by omega)) (fun q a c => by rw [up_j (by omega)]; exact h2 q (by omega) c)
    rw [hoF] at nx
    rw [up_s, nI_eq (by omega) (by omega)]
    refine ⟨fun c => ?_, fun c => ⟨by omega, fun d => ?_, fun d => ?_⟩⟩
    · have e0 : hoF (dT S r) (n + 1) p = nI 0 := by
        rcases hoF_01 (g := dT S r) (n := n + 1) p with h | h
        · rw [h] at c; exact absurd c (by decide +kernel)
        · exact h
      rw [e0, ite_self] at nx
      exact nx
    · rw [if_neg d] at nx
      exact nx
    · rw [if_pos d] at nx
      have e0 : hoF (dT S r) (n + 1) p = nI 1 := by
        rcases hoF_01 (g := dT S r) (n := n + 1) p with h | h
        · exact h
        · rw [h] at c; exact absurd nI_0 c
      rw [e0] at nx
      exact nx
theorem morder {S : Nat → Int32} (hS : IS S) {r N : Nat} (hr : r < cR S) (hN : idn (dT S r) N = true) (hN1 : 1 ≤ N) (hm : ∀ n, 1 ≤ n → n < N → ¬ idn (dT S r) n = true) {Q : SG → Prop} (hQ : ∀ σ p v, Q σ → Q (up σ 107 p v)) (hQM : ∀ σ, Q σ → MS S σ) {post : SG → Int32 → Prop} (K : ∀ τ : SG, Q τ → post τ (nI N)) :
    ∀ f n, n + f = N → ∀ σ : SG, Q σ → (∀ p, p < 6 → σ 107 p = nI (it (dT S r) n p)) → ∀ ho : Int32, (n = 0 → ho = 0) → (1 ≤ n → ho = hoF (dT S r) n 6) → T_X12_order AF post 43 [.ref 102, .int (nI r), .int (nI n), .int ho, dum] [] σ := by
  intro f
  induction f with
  | zero =>
    intro n hn σ hq h1 ho e0 e1
    obtain rfl : n = N := by omega
    apply g_X12_order_43
    refine ⟨fun _ => K σ hq, fun c => ?_⟩
    by_cases z : n = 0
    · omega
    · exact absurd (e1 (by omega) ▸ c) (hoF_id.2 hN)
  | succ f ih =>
    intro n hn σ hq h1 ho e0 e1
    apply g_X12_order_43
    refine ⟨fun c => ?_, fun _ => morder_in hS hr hQ hQM (fun τ q2 h2 => ih (n + 1) (by omega) τ q2 h2 _ (fun z => by omega) (fun _ => rfl)) 6 0 rfl σ hq (fun q z => absurd z (Nat.not_lt_zero _)) (fun q _ z => h1 q z)⟩
    by_cases z : n = 0
    · exact absurd (e0 z) c
    · rw [e1 (by omega), hoF_id] at c
      exact absurd c (hm n (by omega) (by omega))
theorem J_order {Z σ : SG} (hI : KI Z) (hC : KC Z σ) (hM : KM Z σ) (a : Int32) : ∃ p, IN_X11_order AF σ [.ref 0, .int a] p ∧ ∀ t r, p t r → ∃ q, IN_X12_order AF t [.ref 102, .int a] q ∧ ∀ t' r', q t' r' → r = r' ∧ KK t' := by
  have hS := hI.1
  have hR := hS.2.1.2
  have hT := hS.1.2
  by_cases c0 : a < 0
  · exact joint (Z' := rf Z 1) (x := -1) (C := fun s p => IN_X11_order AF s [.ref 0, .int a] p) (M := fun s p => IN_X12_order AF s [.ref 102, .int a] p) (hI.rf 1) hM ⟨⟨_, _, rfl, rfl, Nat.le_of_ble_eq_true rfl, rc_0⟩, Nat.le_of_ble_eq_true rfl, g_X11_order_0 (by rw [show σ 36 0 = nI (cR (Z 104)) from hC.2.2.1.1.trans hS.2.1.1]; exact ⟨fun _ => DC_rf hC hI (by decide) (by decide), fun c => absurd c0 c⟩)⟩ (fun t hM => ⟨⟨_, _, rfl, rfl, Nat.le_of_ble_eq_true rfl, rc_102⟩, Nat.le_of_ble_eq_true rfl, g_X12_order_0 (by rw [show t 104 1 = nI (cR (Z 104)) from (hM.1 1 (by decide)).trans hS.2.1.1]; exact ⟨fun _ => DM_rf hM (by decide), fun c => absurd c0 c⟩)⟩)
  · by_cases c1 : nI (cR (Z 104)) ≤ a
    · exact joint (Z' := rf Z 1) (x := -1) (C := fun s p => IN_X11_order AF s [.ref 0, .int a] p) (M := fun s p => IN_X12_order AF s [.ref 102, .int a] p) (hI.rf 1) hM ⟨⟨_, _, rfl, rfl, Nat.le_of_ble_eq_true rfl, rc_0⟩, Nat.le_of_ble_eq_true rfl, g_X11_order_0 (by rw [show σ 36 0 = nI (cR (Z 104)) from hC.2.2.1.1.trans hS.2.1.1]; exact ⟨fun c => absurd c c0, fun _ => ⟨fun _ => DC_rf hC hI (by decide) (by decide), fun c => absurd c1 c⟩⟩)⟩ (fun t hM => ⟨⟨_, _, rfl, rfl, Nat.le_of_ble_eq_true rfl, rc_102⟩, Nat.le_of_ble_eq_true rfl, g_X12_order_0 (by rw [show t 104 1 = nI (cR (Z 104)) from (hM.1 1 (by decide)).trans hS.2.1.1]; exact ⟨fun c => absurd c c0, fun _ => ⟨fun _ => DM_rf hM (by decide), fun c => absurd c1 c⟩⟩)⟩)
    · obtain ⟨r, hr, ea⟩ := arg_in (by omega) c0 c1
      obtain ⟨N, n1, n6, hN, hm⟩ := it_least (dT_PM hS hr)
      refine joint (Z' := Z) (x := nI N) (C := fun s p => IN_X11_order AF s [.ref 0, .int a] p) (M := fun s p => IN_X12_order AF s [.ref 102, .int a] p) hI hM ?_ (fun t hM => ?_)
      · refine ⟨⟨_, _, rfl, rfl, Nat.le_of_ble_eq_true rfl, rc_0⟩, Nat.le_of_ble_eq_true rfl, g_X11_order_0 ?_⟩
        rw [show σ 36 0 = nI (cR (Z 104)) from hC.2.2.1.1.trans hS.2.1.1]
        refine ⟨fun c => absurd c c0, fun _ => ⟨fun c => absurd c c1, fun _ => ?_⟩⟩
        subst ea
        refine ⟨r, rfl, by omega, ?_⟩
        rw [(hC.2.2.1.2 r hr).2.2 0 (by decide)]
        exact corder hS hC.2.2.1 hr n6 hN hm (DC_rfl hC) (N - 1) 1 (by omega) (Nat.le_refl _)
      · refine ⟨⟨_, _, rfl, rfl, Nat.le_of_ble_eq_true rfl, rc_102⟩, Nat.le_of_ble_eq_true rfl, g_X12_order_0 ?_⟩
        rw [show t 104 1 = nI (cR (Z 104)) from (hM.1 1 (by decide)).trans hS.2.1.1]
        refine ⟨fun c => absurd c c0, fun _ => ⟨fun c => absurd c c1, fun _ => ?_⟩⟩
        subst ea
        intro s0 e0 s1 e1 s2 e2 s3 e3 s4 e4 s5 e5
        have fr : ∀ k, k ≠ 107 → s5 k = t k := fun k hk => by rw [e5, up_k hk, e4, up_k hk, e3, up_k hk, e2, up_k hk, e1, up_k hk, e0, up_k hk]
        refine morder hS hr hN n1 hm (Q := fun σ => ∀ k, k ≠ 107 → σ k = t k) (fun σ p v h k hk => by rw [up_k hk]; exact h k hk) (fun σ h => hM.1.ms.fr (h 104 (by decide))) (fun τ h => ⟨rfl, hM.fr (h _ (by decide)) (h _ (by decide)) (h _ (by decide)) (h _ (by decide)) (h _ (by decide)) (h _ (by decide)) (h _ (by decide)) (fun j _ _ _ => by rw [h 102 (by decide)]), fun k hk => h k (by omega)⟩) N 0 (Nat.zero_add _) s5 fr (fun p hp => ?_) 0 (fun _ => rfl) (fun z => absurd z (by decide))
        show s5 107 p = nI p
        rcases lt6 hp with rfl | rfl | rfl | rfl | rfl | rfl
        · rw [e5, up_j (by decide), e4, up_j (by decide), e3, up_j (by decide), e2, up_j (by decide), e1, up_j (by decide), e0, up_s]
        · rw [e5, up_j (by decide), e4, up_j (by decide), e3, up_j (by decide), e2, up_j (by decide), e1, up_s]
        · rw [e5, up_j (by decide), e4, up_j (by decide), e3, up_j (by decide), e2, up_s]
        · rw [e5, up_j (by decide), e4, up_j (by decide), e3, up_s]
        · rw [e5, up_j (by decide), e4, up_s]
        · rw [e5, up_s]
def kdv (v : Int32) : Int32 := if 0 ≤ v then (if v ≤ 0 then nI 0 else nI 2) else nI 1
def kdF (S : Nat → Int32) (a m : Nat) : Int32 := if a / 2 = m / 2 ∧ a ≠ m then nI 3 else kdv (af S (a / 2) (m / 2))
def kdX (S : Nat → Int32) (r : Nat) (b : Int32) : Int32 := if b < 0 then -9 else if nI (ln S r) ≤ b then -9 else if na b = 0 then nI 0 else kdF S (mv S r (na b - 1)) (mv S r (na b))
theorem xor_all : (List.range 12).all (fun a => (List.range 12).all fun m => decide ((nI a = (nI m ^^^ nI 1)) ↔ (a / 2 = m / 2 ∧ a ≠ m))) = true := by decide +kernel
theorem xor_at {a m : Nat} (ha : a < 12) (hm : m < 12) : (nI a = (nI m ^^^ nI 1)) ↔ (a / 2 = m / 2 ∧ a ≠ m) := of_decide_eq_true (List.all_eq_true.mp (List.all_eq_true.mp xor_all a (List.mem_range.mpr ha)) m (List.mem_range.mpr hm))
theorem kdv_cases {v : Int32} {Q : Int32 → Prop} (h : Q (kdv v)) : (0 ≤ v → ((v ≤ 0 → Q (nI 0)) ∧ (¬ v ≤ 0 → Q (nI 2)))) ∧ (¬ 0 ≤ v → Q (nI 1)) := by
  unfold kdv at h
  refine ⟨fun a => ⟨fun c => ?_, fun c => ?_⟩, fun a => ?_⟩
  · rwa [if_pos a, if_pos c] at h
  · rwa [if_pos a, if_neg c] at h
  · rwa [if_neg a] at h
theorem J_kind {Z σ : SG} (hI : KI Z) (hC : KC Z σ) (hM : KM Z σ) (a b : Int32) : ∃ p, IN_X11_kind AF σ [.ref 0, .int a, .int b] p ∧ ∀ t r, p t r → ∃ q, IN_X12_kind AF t [.ref 102, .int a, .int b] q ∧ ∀ t' r', q t' r' → r = r' ∧ KK t' := by
  have hS := hI.1
  have hR := hS.2.1.2
  have hT := hS.1.2
  by_cases c0 : a < 0
  · exact joint (Z' := rf Z 1) (x := -1) (C := fun s p => IN_X11_kind AF s [.ref 0, .int a, .int b] p) (M := fun s p => IN_X12_kind AF s [.ref 102, .int a, .int b] p) (hI.rf 1) hM ⟨⟨_, _, rfl, rfl, Nat.le_of_ble_eq_true rfl, rc_0⟩, Nat.le_of_ble_eq_true rfl, g_X11_kind_0 (by rw [show σ 36 0 = nI (cR (Z 104)) from hC.2.2.1.1.trans hS.2.1.1]; exact ⟨fun _ => DC_rf hC hI (by decide) (by decide), fun c => absurd c0 c⟩)⟩ (fun t hM => ⟨⟨_, _, rfl, rfl, Nat.le_of_ble_eq_true rfl, rc_102⟩, Nat.le_of_ble_eq_true rfl, g_X12_kind_0 (by rw [show t 104 1 = nI (cR (Z 104)) from (hM.1 1 (by decide)).trans hS.2.1.1]; exact ⟨fun _ => DM_rf hM (by decide), fun c => absurd c0 c⟩)⟩)
  · by_cases c1 : nI (cR (Z 104)) ≤ a
    · exact joint (Z' := rf Z 1) (x := -1) (C := fun s p => IN_X11_kind AF s [.ref 0, .int a, .int b] p) (M := fun s p => IN_X12_kind AF s [.ref 102, .int a, .int b] p) (hI.rf 1) hM ⟨⟨_, _, rfl, rfl, Nat.le_of_ble_eq_true rfl, rc_0⟩, Nat.le_of_ble_eq_true rfl, g_X11_kind_0 (by rw [show σ 36 0 = nI (cR (Z 104)) from hC.2.2.1.1.trans hS.2.1.1]; exact ⟨fun c => absurd c c0, fun _ => ⟨fun _ => DC_rf hC hI (by decide) (by decide), fun c => absurd c1 c⟩⟩)⟩ (fun t hM => ⟨⟨_, _, rfl, rfl, Nat.le_of_ble_eq_true rfl, rc_102⟩, Nat.le_of_ble_eq_true rfl, g_X12_kind_0 (by rw [show t 104 1 = nI (cR (Z 104)) from (hM.1 1 (by decide)).trans hS.2.1.1]; exact ⟨fun c => absurd c c0, fun _ => ⟨fun _ => DM_rf hM (by decide), fun c => absurd c1 c⟩⟩)⟩)
    · obtain ⟨r, hr, ea⟩ := arg_in (by omega) c0 c1
      obtain ⟨l0, l1, l8, lm⟩ := hS.2.2.2.2.1 r hr
      refine joint (Z' := Z) (x := kdX (Z 104) r b) (C := fun s p => IN_X11_kind AF s [.ref 0, .int a, .int b] p) (M := fun s p => IN_X12_kind AF s [.ref 102, .int a, .int b] p) hI hM ?_ (fun t hM => ?_)
      · refine ⟨⟨_, _, rfl, rfl, Nat.le_of_ble_eq_true rfl, rc_0⟩, Nat.le_of_ble_eq_true rfl, g_X11_kind_0 ?_⟩
        rw [show σ 36 0 = nI (cR (Z 104)) from hC.2.2.1.1.trans hS.2.1.1]
        refine ⟨fun c => absurd c c0, fun _ => ⟨fun c => absurd c c1, fun _ => ?_⟩⟩
        subst ea
        have w := hC.2.2.1.2 r hr
        refine ⟨fun c => ⟨by rw [kdX, if_pos c], hC, fun _ _ => rfl⟩, fun c => ⟨r, rfl, by omega, ?_⟩⟩
        rw [w.1]
        refine ⟨fun d => ⟨by rw [kdX, if_neg c, if_pos d], hC, fun _ _ => rfl⟩, fun d => ?_⟩
        obtain ⟨i, hi, eb⟩ := arg_in (by omega) c d
        subst eb
        have ex : kdX (Z 104) r (nI i) = if i = 0 then nI 0 else kdF (Z 104) (mv (Z 104) r (i - 1)) (mv (Z 104) r i) := by rw [kdX, if_neg c, if_neg d, na_nI (by omega)]
        refine ⟨r, rfl, by omega, i, rfl, by omega, ?_⟩
        rw [nI0_le (by omega)]
        refine ⟨fun z => ⟨by rw [ex, if_pos z], hC, fun _ _ => rfl⟩, fun z => ⟨r, rfl, by omega, i - 1, nI_subN (by omega), by omega, ?_⟩⟩
        have m1 := (lm (i - 1) (by omega)).2
        have m2 := (lm i hi).2
        rw [w.2.1 i hi, w.2.1 (i - 1) (by omega), xor_at (by omega) (by omega), (sh_at (show mv (Z 104) r i < 12 by omega)).1, (sh_at (show mv (Z 104) r (i - 1) < 12 by omega)).1]
        refine ⟨fun _ => ⟨fun q => ⟨mv (Z 104) r (i - 1) / 2, rfl, by omega, mv (Z 104) r i / 2, rfl, by omega, ?_⟩, fun q => ⟨by rw [ex, if_neg z, kdF, if_pos q], hC, fun _ _ => rfl⟩⟩, fun q => absurd q (nI_ne9 (by omega))⟩
        rw [(hC.2.2.2.1.1 (mv (Z 104) r (i - 1) / 2) (by omega)).2.2 (mv (Z 104) r i / 2) (by omega)]
        exact kdv_cases (Q := fun x => DC Z σ (kdX (Z 104) r (nI i)) σ x) ⟨by rw [ex, if_neg z, kdF, if_neg q], hC, fun _ _ => rfl⟩
      · refine ⟨⟨_, _, rfl, rfl, Nat.le_of_ble_eq_true rfl, rc_102⟩, Nat.le_of_ble_eq_true rfl, g_X12_kind_0 ?_⟩
        rw [show t 104 1 = nI (cR (Z 104)) from (hM.1 1 (by decide)).trans hS.2.1.1]
        refine ⟨fun c => absurd c c0, fun _ => ⟨fun c => absurd c c1, fun _ => ?_⟩⟩
        subst ea
        refine ⟨95 + 9 * r, by rw [pk_mul, nI_add], by omega, ?_⟩
        rw [hM.1 (95 + 9 * r) (by omega), l0]
        refine ⟨fun c => ⟨by rw [kdX, if_pos c], hM, fun _ _ => rfl⟩, fun c => ⟨fun d => ⟨by rw [kdX, if_neg c, if_pos d], hM, fun _ _ => rfl⟩, fun d => ?_⟩⟩
        obtain ⟨i, hi, eb⟩ := arg_in (by omega) c d
        subst eb
        have ex : kdX (Z 104) r (nI i) = if i = 0 then nI 0 else kdF (Z 104) (mv (Z 104) r (i - 1)) (mv (Z 104) r i) := by rw [kdX, if_neg c, if_neg d, na_nI (by omega)]
        rw [nI0_eq (by omega)]
        refine ⟨fun z => ?_, fun z => ⟨by rw [ex, if_pos z], hM, fun _ _ => rfl⟩⟩
        have m1 := (lm (i - 1) (by omega)).2
        have m2 := (lm i hi).2
        refine ⟨95 + 9 * r + 1 + (i - 1), by rw [nI_subN (by omega), pk_mul, nI_add, nI_add, nI_add], by omega, 95 + 9 * r + 1 + i, by rw [pk_mul, nI_add, nI_add, nI_add], by omega, ?_⟩
        rw [hM.1 (95 + 9 * r + 1 + i) (by omega), hM.1 (95 + 9 * r + 1 + (i - 1)) (by omega), (lm i hi).1, (lm (i - 1) (by omega)).1, (sh_at (show mv (Z 104) r i < 12 by omega)).2.2, (sh_at (show mv (Z 104) r (i - 1) < 12 by omega)).2.2, nI_eq (by omega) (by omega), nI_eq (by omega) (by omega)]
        have ix : ((nI 59) + ((nI 6) * nI (mv (Z 104) r (i - 1) / 2))) + nI (mv (Z 104) r i / 2) = nI (59 + 6 * (mv (Z 104) r (i - 1) / 2) + mv (Z 104) r i / 2) := by rw [pk_mul, nI_add, nI_add]
        have ev := hM.1 (59 + 6 * (mv (Z 104) r (i - 1) / 2) + mv (Z 104) r i / 2) (by omega)
        have fn : ¬ (mv (Z 104) r (i - 1) / 2 = mv (Z 104) r i / 2 ∧ mv (Z 104) r (i - 1) ≠ mv (Z 104) r i) → DM Z t (kdX (Z 104) r (nI i)) t (kdv (t 104 (59 + 6 * (mv (Z 104) r (i - 1) / 2) + mv (Z 104) r i / 2))) := fun q => ⟨by rw [ex, if_neg z, kdF, if_neg q, ev]; rfl, hM, fun _ _ => rfl⟩
        exact ⟨fun q => ⟨_, ix, by omega, kdv_cases (Q := fun x => DM Z t (kdX (Z 104) r (nI i)) t x) (fn (fun y => q y.1))⟩, fun q => ⟨fun y => ⟨_, ix, by omega, kdv_cases (Q := fun x => DM Z t (kdX (Z 104) r (nI i)) t x) (fn (fun w => w.2 y))⟩, fun y => ⟨by rw [ex, if_neg z, kdF, if_pos ⟨q, y⟩], hM, fun _ _ => rfl⟩⟩⟩
def lq (z : Int32) : Int32 := ((z &&& (2147483647 : Int32)) / (nI 256)) - ((z &&& (2147483647 : Int32)) / (nI 256)) / (nI 100) * (nI 100)
def lz (z : Int32) : Nat → Int32
  | 0 => z
  | i + 1 => lz z i * (1664525 : Int32) + (1013904223 : Int32)
def lc (L z : Int32) : Nat → Nat
  | 0 => 0
  | i + 1 => lc L z i + if L ≤ lq (lz z (i + 1)) then 0 else 1
theorem ok_lkDrawn {σ : SG} {k : Nat} (hk : k ≤ 8) {z : Int32} {post : SG → Int32 → Prop} (K : post σ (nI (lc (σ 72 0) z k))) : IN_X2_locksDrawn AF σ [.ref 61, .int (nI k), .int z] post := by
  refine ⟨⟨_, _, rfl, rfl, Nat.le_of_ble_eq_true rfl, rc_61⟩, Nat.le_of_ble_eq_true rfl, g_X2_locksDrawn_0 ?_⟩
  suffices H : ∀ f i, i + f = k → T_X2_locksDrawn AF post 8 [.ref 61, .int (nI k), .int z, .int (lz z i), .int (nI (lc (σ 72 0) z i)), .int (nI i)] [] σ from H k 0 (Nat.zero_add _)
  intro f
  induction f with
  | zero =>
    intro i hi
    obtain rfl : i = k := by omega
    apply g_X2_locksDrawn_8
    exact ⟨by omega, by omega, fun _ => K, fun c => absurd c (by omega)⟩
  | succ f ih =>
    intro i hi
    have n := ih (i + 1) (by omega)
    rw [lc] at n
    apply g_X2_locksDrawn_8
    refine ⟨by omega, by omega, fun c => absurd c (by omega), fun _ => ⟨fun c => ?_, fun c => ?_⟩⟩
    · rw [if_pos (show σ 72 0 ≤ lq (lz z (i + 1)) from c), Nat.add_zero] at n
      exact n
    · rw [if_neg (show ¬ σ 72 0 ≤ lq (lz z (i + 1)) from c)] at n
      exact n
theorem mdrawn {S : Nat → Int32} (hS : IS S) {σ : SG} (hM : MS S σ) {r v0 : Nat} {z : Int32} (hr : r < cR S) {post : SG → Int32 → Prop} (K : post σ (nI v0 + nI (lc (S 3) z (ln S r)) * S 4)) :
    ∀ f i, i + f = ln S r → T_X12_drawn AF post 26 [.ref 102, .int (nI r), .int z, .int (lz z i), .int (nI v0 + nI (lc (S 3) z i) * S 4), .int (nI i)] [] σ := by
  have hR := hS.2.1.2
  obtain ⟨l0, l1, l8, lm⟩ := hS.2.2.2.2.1 r hr
  intro f
  induction f with
  | zero =>
    intro i hi
    obtain rfl : i = ln S r := by omega
    apply g_X12_drawn_26
    rw [hM (95 + 9 * r) (by omega) (by omega), l0]
    exact ⟨by omega, fun _ => K, fun c => absurd (nI_le (Nat.le_refl _) (by omega)) c⟩
  | succ f ih =>
    intro i hi
    have n := ih (i + 1) (by omega)
    rw [lc] at n
    apply g_X12_drawn_26
    rw [hM (95 + 9 * r) (by omega) (by omega), l0, hM 3 (by decide) (by decide), hM 4 (by decide) (by decide)]
    refine ⟨by omega, fun c => absurd c (nI_ge (by omega) (by omega)), fun _ => ⟨fun c => ?_, fun c => ?_⟩⟩
    · rw [if_pos (show S 3 ≤ lq (lz z (i + 1)) from c), Nat.add_zero] at n
      rw [nI_0, Int32.add_zero]
      exact n
    · rw [if_neg (show ¬ S 3 ≤ lq (lz z (i + 1)) from c), ← nI_add, Int32.add_mul, show nI 1 * S 4 = S 4 from Int32.one_mul _, ← Int32.add_assoc] at n
      exact n
theorem J_drawn {Z σ : SG} (hI : KI Z) (hC : KC Z σ) (hM : KM Z σ) (a b : Int32) : ∃ p, IN_X11_drawn AF σ [.ref 0, .int a, .int b] p ∧ ∀ t r, p t r → ∃ q, IN_X12_drawn AF t [.ref 102, .int a, .int b] q ∧ ∀ t' r', q t' r' → r = r' ∧ KK t' := by
  have hS := hI.1
  have hR := hS.2.1.2
  have hT := hS.1.2
  by_cases c0 : a < 0
  · exact joint (Z' := rf Z 1) (x := -1) (C := fun s p => IN_X11_drawn AF s [.ref 0, .int a, .int b] p) (M := fun s p => IN_X12_drawn AF s [.ref 102, .int a, .int b] p) (hI.rf 1) hM ⟨⟨_, _, rfl, rfl, Nat.le_of_ble_eq_true rfl, rc_0⟩, Nat.le_of_ble_eq_true rfl, g_X11_drawn_0 (by rw [show σ 36 0 = nI (cR (Z 104)) from hC.2.2.1.1.trans hS.2.1.1]; exact ⟨fun _ => DC_rf hC hI (by decide) (by decide), fun c => absurd c0 c⟩)⟩ (fun t hM => ⟨⟨_, _, rfl, rfl, Nat.le_of_ble_eq_true rfl, rc_102⟩, Nat.le_of_ble_eq_true rfl, g_X12_drawn_0 (by rw [show t 104 1 = nI (cR (Z 104)) from (hM.1 1 (by decide)).trans hS.2.1.1]; exact ⟨fun _ => DM_rf hM (by decide), fun c => absurd c0 c⟩)⟩)
  · by_cases c1 : nI (cR (Z 104)) ≤ a
    · exact joint (Z' := rf Z 1) (x := -1) (C := fun s p => IN_X11_drawn AF s [.ref 0, .int a, .int b] p) (M := fun s p => IN_X12_drawn AF s [.ref 102, .int a, .int b] p) (hI.rf 1) hM ⟨⟨_, _, rfl, rfl, Nat.le_of_ble_eq_true rfl, rc_0⟩, Nat.le_of_ble_eq_true rfl, g_X11_drawn_0 (by rw [show σ 36 0 = nI (cR (Z 104)) from hC.2.2.1.1.trans hS.2.1.1]; exact ⟨fun c => absurd c c0, fun _ => ⟨fun _ => DC_rf hC hI (by decide) (by decide), fun c => absurd c1 c⟩⟩)⟩ (fun t hM => ⟨⟨_, _, rfl, rfl, Nat.le_of_ble_eq_true rfl, rc_102⟩, Nat.le_of_ble_eq_true rfl, g_X12_drawn_0 (by rw [show t 104 1 = nI (cR (Z 104)) from (hM.1 1 (by decide)).trans hS.2.1.1]; exact ⟨fun c => absurd c c0, fun _ => ⟨fun _ => DM_rf hM (by decide), fun c => absurd c1 c⟩⟩)⟩)
    · obtain ⟨r, hr, ea⟩ := arg_in (by omega) c0 c1
      refine joint (Z' := Z) (x := nI (rt (Z 104) r) + nI (lc (Z 104 3) b (ln (Z 104) r)) * Z 104 4) (C := fun s p => IN_X11_drawn AF s [.ref 0, .int a, .int b] p) (M := fun s p => IN_X12_drawn AF s [.ref 102, .int a, .int b] p) hI hM ?_ (fun t hM => ?_)
      · refine ⟨⟨_, _, rfl, rfl, Nat.le_of_ble_eq_true rfl, rc_0⟩, Nat.le_of_ble_eq_true rfl, g_X11_drawn_0 ?_⟩
        rw [show σ 36 0 = nI (cR (Z 104)) from hC.2.2.1.1.trans hS.2.1.1]
        refine ⟨fun c => absurd c c0, fun _ => ⟨fun c => absurd c c1, fun _ => ?_⟩⟩
        subst ea
        refine ⟨fun τ x => τ = σ ∧ x = nI (rt (Z 104) r), ok_rowTime hS hC.2.2.2.1 hC.2.2.1 hr ⟨rfl, rfl⟩, ?_⟩
        rintro t x ⟨rfl, rfl⟩
        refine ⟨r, rfl, by omega, ?_⟩
        rw [(hC.2.2.1.2 r hr).1]
        refine ⟨fun τ x => τ = t ∧ x = nI (lc (t 72 0) b (ln (Z 104) r)), ok_lkDrawn (hS.2.2.2.2.1 r hr).2.2.1 ⟨rfl, rfl⟩, ?_⟩
        rintro t x ⟨rfl, rfl⟩
        rw [hC.2.2.2.1.2.1, hC.2.2.2.1.2.2]
        exact DC_rfl hC
      · refine ⟨⟨_, _, rfl, rfl, Nat.le_of_ble_eq_true rfl, rc_102⟩, Nat.le_of_ble_eq_true rfl, g_X12_drawn_0 ?_⟩
        rw [show t 104 1 = nI (cR (Z 104)) from (hM.1 1 (by decide)).trans hS.2.1.1]
        refine ⟨fun c => absurd c c0, fun _ => ⟨fun c => absurd c c1, fun _ => ?_⟩⟩
        subst ea
        refine ⟨fun τ x => τ = t ∧ x = nI (rt (Z 104) r), ok_secs hS hM.1.ms hr ⟨rfl, rfl⟩, ?_⟩
        rintro t x ⟨rfl, rfl⟩
        have k := mdrawn hS hM.1.ms hr (v0 := rt (Z 104) r) (z := b) (post := DM Z t (nI (rt (Z 104) r) + nI (lc (Z 104 3) b (ln (Z 104) r)) * Z 104 4)) (DM_rfl hM) (ln (Z 104) r) 0 (Nat.zero_add _)
        rw [show nI (rt (Z 104) r) + nI (lc (Z 104 3) b 0) * Z 104 4 = nI (rt (Z 104) r) by rw [lc, nI_0, Int32.zero_mul, Int32.add_zero]] at k
        exact k
