/-! the reference's helpers: puts, numberOf -/
def hitF (L : Nat) : Nat → Nat → Nat → Bool
  | 0, _, _ => false
  | f + 1, i, k => if L.testBit i then (if k = 0 then true else hitF L f (i + 1) (k - 1)) else hitF L f (i + 1) k
theorem hit_all : (List.range 720).all (fun o => (List.range 6).all (fun p => hitF (oS o p).1 6 0 ((oS o p).2 / wy p))) = true := by decide +kernel
theorem hit_at {o p : Nat} (ho : o < 720) (hp : p < 6) : hitF (oS o p).1 6 0 ((oS o p).2 / wy p) = true := List.all_eq_true.mp (List.all_eq_true.mp hit_all o (List.mem_range.mpr ho)) p (List.mem_range.mpr hp)
theorem bit_all : (List.range 1024).all (fun L => (List.range 10).all fun b => decide (((nI L >>> (nI b &&& 31)) &&& nI 1) = if L.testBit b then nI 1 else 0)) = true := by decide +kernel
theorem bit_at {L b : Nat} (hL : L < 1024) (hb : b < 10) : ((nI L >>> (nI b &&& 31)) &&& nI 1) = if L.testBit b then nI 1 else 0 := of_decide_eq_true (List.all_eq_true.mp (List.all_eq_true.mp bit_all L (List.mem_range.mpr hL)) b (List.mem_range.mpr hb))
theorem puts_in {σ : SG} {k n fr : Nat} (hia : IA k n) (hk : k < AF.1) (hfr : fr + 6 ≤ n) {o p : Nat} (ho : o < 720) (hp : p < 6) {rs bw : Nat} {post : SG → Int32 → Prop}
    (K : ∀ s : SG, s = up σ k (fr + p) (nI (P o p)) → T_X12_puts AF post 13 [.ref k, .int (nI fr), .int (nI o), .int (nI rs), .int (nI bw), .int (nI (oS o (p + 1)).1), .int (nI (p + 1)), dum, dum] [] s) :
    ∀ f pc kk, pc + f = 6 → hitF (oS o p).1 f pc kk = true → nthF (oS o p).1 f pc kk = P o p → kk < 2 ^ 31 → T_X12_puts AF post 53 [.ref k, .int (nI fr), .int (nI o), .int (nI rs), .int (nI bw), .int (nI (oS o p).1), .int (nI p), .int (nI kk), .int (nI pc)] [] σ := by
  obtain ⟨a1, a2, a3, a4, a5, a6, a7⟩ := okL_at ho hp
  have n10 : ¬ nI 1 = (0 : Int32) := by decide +kernel
  intro f
  induction f with
  | zero => intro pc kk _ h; exact absurd h (by simp [hitF])
  | succ f ih =>
    intro pc kk hpc h1 h2 hk2
    apply g_X12_puts_53 hia hk
    rw [hitF] at h1
    rw [nthF] at h2
    rw [bit_at (show (oS o p).1 < 1024 by omega) (show pc < 10 by omega)]
    by_cases b : (oS o p).1.testBit pc = true
    · rw [if_pos b] at h1 h2 ⊢
      by_cases z : kk = 0
      · rw [if_pos z] at h1 h2
        refine ⟨fun c => absurd c n10, fun _ => ⟨fun _ => ⟨by omega, fun s es => ?_⟩, fun c => absurd (by rw [z]; decide +kernel) c⟩⟩
        rw [(bits a1 (show pc < 6 by omega)).2.1, h2, a5]
        rw [h2] at es
        exact K s es
      · rw [if_neg z] at h1 h2
        exact ⟨fun c => absurd c n10, fun _ => ⟨fun c => absurd (show kk ≤ 0 from (nI_leI hk2 (by decide)).1 c) (by omega), fun _ => ⟨fun c => absurd rfl c, fun _ => ⟨by omega, ih (pc + 1) (kk - 1) (by omega) h1 h2 (by omega)⟩⟩⟩⟩
    · rw [if_neg b] at h1 h2 ⊢
      exact ⟨fun _ => ⟨fun _ => ⟨by omega, ih (pc + 1) (kk - 0) (by omega) h1 h2 (by omega)⟩, fun c => absurd c.symm n10⟩, fun c => absurd rfl c⟩
theorem puts_loop {σ : SG} {k n fr : Nat} (hia : IA k n) (hk : k < AF.1) (hfr : fr + 6 ≤ n) {o : Nat} (ho : o < 720) {post : SG → Int32 → Prop}
    (K : ∀ τ : SG, PL τ k fr o → (∀ j, (j < fr ∨ fr + 6 ≤ j) → τ k j = σ k j) → (∀ k', k' ≠ k → τ k' = σ k') → post τ 0) :
    ∀ f p, p + f = 6 → ∀ s : SG, (∀ q, q < p → s k (fr + q) = nI (P o q)) → (∀ j, (j < fr ∨ fr + 6 ≤ j) → s k j = σ k j) → (∀ k', k' ≠ k → s k' = σ k') → T_X12_puts AF post 13 [.ref k, .int (nI fr), .int (nI o), .int (nI (oS o p).2), .int (nI (wy p)), .int (nI (oS o p).1), .int (nI p), dum, dum] [] s := by
  intro f
  induction f with
  | zero =>
    intro p hp s h1 h2 h3
    obtain rfl : p = 6 := by omega
    apply g_X12_puts_13 hia hk
    exact ⟨by decide, fun _ => K s h1 h2 h3, fun c => absurd c (by decide)⟩
  | succ f ih =>
    intro p hp s h1 h2 h3
    have hp6 : p < 6 := by omega
    obtain ⟨a1, a2, a3, a4, a5, a6, a7⟩ := okL_at ho hp6
    have w : 0 < wy p ∧ wy p < 2 ^ 31 := ⟨(wv_step hp6).2.2.2.2.1, (wv_step hp6).2.2.2.2.2⟩
    have e2 : (oS o p).2 % wy p = (oS o (p + 1)).2 := rfl
    have e3 : P o p = nth (oS o p).1 ((oS o p).2 / wy p) := rfl
    have hn := nthF_eq a1 a2
    rw [← e3] at hn
    have go : ∀ bw, bw = wy (p + 1) → T_X12_puts AF post 53 [.ref k, .int (nI fr), .int (nI o), .int (nI ((oS o p).2 % wy p)), .int (nI bw), .int (nI (oS o p).1), .int (nI p), .int (nI ((oS o p).2 / wy p)), .int (nI 0)] [] s := fun bw hb => by
      subst hb
      refine puts_in hia hk hfr ho hp6 (fun s1 es => ?_) 6 0 _ rfl (hit_at ho hp6) hn (by omega)
      subst es
      rw [e2]
      refine ih (p + 1) (by omega) _ (fun q hq => ?_) (fun j hj => by rw [up_j (by omega)]; exact h2 j hj) (fun k' hk' => by rw [up_k hk']; exact h3 k' hk')
      by_cases e : q = p
      · rw [e, up_s]
      · rw [up_j (by omega)]; exact h1 q (by omega)
    apply g_X12_puts_13 hia hk
    refine ⟨by omega, fun c => absurd c (by omega), fun _ => ⟨by omega, w.1, w.2, by omega, w.1, w.2, by omega, fun c => go 1 ?_, fun c => ⟨by omega, w.2, by omega, by omega, go _ ?_⟩⟩⟩
    · obtain rfl : p = 5 := by omega
      rfl
    · rcases lt6 hp6 with rfl | rfl | rfl | rfl | rfl | rfl <;> first | rfl | omega
theorem ok_puts {σ : SG} {k n fr : Nat} (hia : IA k n) (hk : k < AF.1) (hfr : fr + 6 ≤ n) {o : Nat} (ho : o < 720) {post : SG → Int32 → Prop}
    (K : ∀ τ : SG, PL τ k fr o → (∀ j, (j < fr ∨ fr + 6 ≤ j) → τ k j = σ k j) → (∀ k', k' ≠ k → τ k' = σ k') → post τ 0) : IN_X12_puts AF σ [.ref k, .int (nI fr), .int (nI o)] post :=
  ⟨rfl, Nat.le_of_ble_eq_true rfl, g_X12_puts_0 hia hk (puts_loop hia hk hfr ho K 6 0 rfl σ (fun q hq => absurd hq (Nat.not_lt_zero _)) (fun _ _ => rfl) (fun _ _ => rfl))⟩
def leF (f : Nat → Nat) (p : Nat) : Nat → Nat → Nat
  | 0, _ => 0
  | g + 1, q => ls (f p) (f q) + leF f p g (q + 1)
def vF (f : Nat → Nat) : Nat → Nat
  | 0 => 0
  | p + 1 => vF f p * (6 - p) + leF f p (5 - p) (p + 1)
theorem vF_eq (f : Nat → Nat) : vF f 6 = rk f := by
  simp only [vF, leF, rk, rk6, Nat.reduceSub, Nat.reduceAdd, Nat.zero_add]
  omega
theorem num_in {σ : SG} {k n fr : Nat} (hia : IA k n) (hk : k < AF.1) (hfr : fr + 6 ≤ n) {f : Nat → Nat} (hf : ∀ p, p < 6 → f p < 6) (hv : ∀ p, p < 6 → σ k (fr + p) = nI (f p)) {p v : Nat} (hp : p < 6) {post : SG → Int32 → Prop} :
    ∀ g q le, q + g = 6 → T_X12_numberOf AF post 4 [.ref k, .int (nI fr), .int (nI (v * (6 - p) + (le + leF f p g q))), .int (nI (p + 1)), dum, dum] [] σ → T_X12_numberOf AF post 18 [.ref k, .int (nI fr), .int (nI v), .int (nI p), .int (nI le), .int (nI q)] [] σ := by
  intro g
  induction g with
  | zero =>
    intro q le hq K
    apply g_X12_numberOf_18 hia hk
    exact ⟨by omega, fun _ => ⟨by omega, K⟩, fun c => absurd c (by omega)⟩
  | succ g ih =>
    intro q le hq K
    apply g_X12_numberOf_18 hia hk
    have e : (σ k (fr + p) ≤ σ k (fr + q)) ↔ f p ≤ f q := by
      rw [hv p hp, hv q (by omega)]
      have := hf p hp
      have := hf q (by omega)
      exact nI_leI (by omega) (by omega)
    refine ⟨by omega, fun c => absurd c (by omega), fun _ => ⟨by omega, by omega, fun c => ?_, fun c => ?_⟩⟩
    · refine ih (q + 1) (le + 0) (by omega) ?_
      rw [leF, ls, if_neg (by have := e.1 c; omega)] at K
      rwa [Nat.add_zero, show le + leF f p g (q + 1) = le + (0 + leF f p g (q + 1)) by omega]
    · refine ih (q + 1) (le + 1) (by omega) ?_
      rw [leF, ls, if_pos (by have := mt e.2 c; omega)] at K
      rwa [Nat.add_assoc]
theorem num_loop {σ : SG} {k n fr : Nat} (hia : IA k n) (hk : k < AF.1) (hfr : fr + 6 ≤ n) {f : Nat → Nat} (hf : ∀ p, p < 6 → f p < 6) (hv : ∀ p, p < 6 → σ k (fr + p) = nI (f p)) {post : SG → Int32 → Prop} (K : post σ (nI (rk f))) :
    ∀ g p, p + g = 6 → T_X12_numberOf AF post 4 [.ref k, .int (nI fr), .int (nI (vF f p)), .int (nI p), dum, dum] [] σ := by
  intro g
  induction g with
  | zero =>
    intro p hp
    obtain rfl : p = 6 := by omega
    apply g_X12_numberOf_4 hia hk
    rw [← vF_eq] at K
    exact ⟨by decide, fun _ => K, fun c => absurd c (by decide)⟩
  | succ g ih =>
    intro p hp
    apply g_X12_numberOf_4 hia hk
    refine ⟨by omega, fun c => absurd c (by omega), fun _ => ?_⟩
    refine num_in hia hk hfr hf hv (show p < 6 by omega) (5 - p) (p + 1) 0 (by omega) ?_
    have h := ih (p + 1) (by omega)
    rw [vF] at h
    rwa [Nat.zero_add]
theorem ok_mnum {σ : SG} {k n fr : Nat} (hia : IA k n) (hk : k < AF.1) (hfr : fr + 6 ≤ n) {f : Nat → Nat} (hf : ∀ p, p < 6 → f p < 6) (hv : ∀ p, p < 6 → σ k (fr + p) = nI (f p)) {post : SG → Int32 → Prop} (K : post σ (nI (rk f))) : IN_X12_numberOf AF σ [.ref k, .int (nI fr)] post :=
  ⟨rfl, Nat.le_of_ble_eq_true rfl, g_X12_numberOf_0 hia hk (num_loop hia hk hfr hf hv K 6 0 rfl)⟩
theorem ok_mnumP {σ : SG} {k n fr : Nat} (hia : IA k n) (hk : k < AF.1) (hfr : fr + 6 ≤ n) {o : Nat} (ho : o < 720) (h : PL σ k fr o) {post : SG → Int32 → Prop} (K : post σ (nI o)) : IN_X12_numberOf AF σ [.ref k, .int (nI fr)] post :=
  ok_mnum hia hk hfr (f := P o) (P_ok ho).1.1 h (by rw [(P_ok ho).2]; exact K)
