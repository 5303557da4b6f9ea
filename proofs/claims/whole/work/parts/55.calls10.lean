/-! a change of what the reference holds (s alone): the general lemmas; time, after, locks -/
def TA (c : Nat) (S S' : Nat → Int32) : Prop := ∀ t p, t < c → p < 6 → S' (11 + 6 * t + p) = S (11 + 6 * t + p)
def RA (d : Nat) (S S' : Nat → Int32) : Prop := ∀ r j, r < d → j < 9 → S' (95 + 9 * r + j) = S (95 + 9 * r + j)
theorem TA.gTE {c : Nat} {S S' : Nat → Int32} (h : TA c S S') {t p : Nat} (ht : t < c) (hp : p < 6) : gT S' t p = gT S t p := congrArg na (h t p ht hp)
theorem TA.gmE {c : Nat} {S S' : Nat → Int32} (h : TA c S S') {m p : Nat} (hm : m < 2 * c) (hp : p < 6) : gm S' m p = gm S m p := by
  unfold gm
  split
  · exact h.gTE (by omega) hp
  · exact inv6_cong (fun q hq => h.gTE (by omega) hq) p
theorem TA.moE {c : Nat} {S S' : Nat → Int32} (h : TA c S S') (hS : IS S) {m : Nat} (hm : m < 2 * c) (hm2 : m < 2 * cT S) (o : Nat) : mo S' m o = mo S m o := (mvO_cong (gm_PM hS hm2) (fun p hp => (h.gmE hm hp).symm) o).symm
theorem RA.lnE {d : Nat} {S S' : Nat → Int32} (h : RA d S S') {r : Nat} (hr : r < d) : ln S' r = ln S r := congrArg na (h r 0 hr (by decide))
theorem RA.mvE {d : Nat} {S S' : Nat → Int32} (h : RA d S S') {r i : Nat} (hr : r < d) (hi : i < 8) : mv S' r i = mv S r i := by
  have := h r (1 + i) hr (by omega)
  rw [← Nat.add_assoc] at this
  exact congrArg na this
theorem en_A {c d : Nat} {S S' : Nat → Int32} (hS : IS S) (hT : TA c S S') (hR : RA d S S') {r : Nat} (hr : r < d) (hr2 : r < cR S) (hm : ∀ i, i < ln S r → mv S r i < 2 * c) (o : Nat) : ∀ i, i ≤ ln S r → en S' r i o = en S r i o
  | 0, _ => rfl
  | i + 1, hi => by
    have h8 := (hS.2.2.2.2.1 r hr2).2.2.1
    rw [en, en, en_A hS hT hR hr hr2 hm o i (by omega), hR.mvE hr (by omega)]
    exact hT.moE hS (hm i hi) ((hS.2.2.2.2.1 r hr2).2.2.2 i hi).2 _
theorem eo_A {c d : Nat} {S S' : Nat → Int32} (hS : IS S) (hT : TA c S S') (hR : RA d S S') {r : Nat} (hr : r < d) (hr2 : r < cR S) (hm : ∀ i, i < ln S r → mv S r i < 2 * c) (o : Nat) : eo S' r o = eo S r o := by
  unfold eo
  rw [hR.lnE hr]
  exact en_A hS hT hR hr hr2 hm o _ (Nat.le_refl _)
theorem rc_cong {M : Nat} {f g : Nat → Nat → Nat} (h : ∀ m, m < M → ∀ o, g m o = f m o) : ∀ n o, rc M g n o ↔ rc M f n o
  | 0, _ => Iff.rfl
  | n + 1, o => by
    rw [rc, rc, rc_cong h n o]
    refine or_congr Iff.rfl ⟨?_, ?_⟩
    · rintro ⟨m, o', h1, h2, h3, h4⟩
      exact ⟨m, o', h1, h2, (rc_cong h n o').1 h3, by rw [← h m h1]; exact h4⟩
    · rintro ⟨m, o', h1, h2, h3, h4⟩
      exact ⟨m, o', h1, h2, (rc_cong h n o').2 h3, by rw [h m h1]; exact h4⟩
theorem isD_cong {M : Nat} {f g : Nat → Nat → Nat} (h : ∀ m, m < M → ∀ o, g m o = f m o) {o : Nat} {v : Int32} (hD : isD M f o v) : isD M g o v := by
  rcases hD with ⟨n, h1, h2, h3, h4⟩ | ⟨h1, h2⟩
  · exact Or.inl ⟨n, h1, h2, (rc_cong h n o).2 h3, fun k hk z => h4 k hk ((rc_cong h k o).1 z)⟩
  · exact Or.inr ⟨h1, fun n z => h2 n ((rc_cong h n o).1 z)⟩
/-- slots of turns, rows, NOW -/
def cs (j : Nat) : Prop := j < 2 ∨ (5 ≤ j ∧ j < 47) ∨ (95 ≤ j ∧ j < 185)
theorem i_nlt {x y : Int32} (h : x ≤ y) : ¬ y < x := fun z => by rw [Int32.lt_iff_toInt_lt] at z; rw [Int32.le_iff_toInt_le] at h; omega
theorem i_lt {x y : Int32} (h : ¬ x ≤ y) : y < x := by rw [Int32.lt_iff_toInt_lt]; rw [Int32.le_iff_toInt_le] at h; omega
theorem cs_TA {S S' : Nat → Int32} (h : ∀ j, cs j → S' j = S j) : TA 6 S S' := fun t p ht hp => h _ (by unfold cs; omega)
theorem cs_RA {S S' : Nat → Int32} (h : ∀ j, cs j → S' j = S j) : RA 10 S S' := fun r j hr hj => h _ (by unfold cs; omega)
theorem cs_T {S S' : Nat → Int32} (h : ∀ j, cs j → S' j = S j) : cT S' = cT S := congrArg na (h 0 (by unfold cs; omega))
theorem cs_R {S S' : Nat → Int32} (h : ∀ j, cs j → S' j = S j) : cR S' = cR S := congrArg na (h 1 (by unfold cs; omega))
theorem cs_nw {S S' : Nat → Int32} (h : ∀ j, cs j → S' j = S j) : ∀ p, p < 6 → nw S' p = nw S p := fun p hp => congrArg na (h _ (by unfold cs; omega))
theorem cs_cur {S S' : Nat → Int32} (h : ∀ j, cs j → S' j = S j) : cur S' = cur S := rk_cong (cs_nw h)
theorem IS_of {S S' : Nat → Int32} (hS : IS S) (h : ∀ j, cs j → S' j = S j) (h2 : S' 2 = nI (cK S') ∧ cK S' ≤ 4) (hH : IH S') (hK : ∀ k, k < cK S' → S' (185 + 3 * k) = nI (pls S' k) ∧ pls S' k < 64 ∧ S' (185 + 3 * k + 1) = nI (rws S' k) ∧ rws S' k < 1024 ∧ S' (185 + 3 * k + 2) = nI (see S' k) ∧ see S' k ≤ 99) : IS S' := by
  have hT := hS.1.2
  have hR := hS.2.1.2
  have tA := cs_TA h
  have rA := cs_RA h
  refine ⟨?_, ?_, h2, fun t ht => ?_, fun r hr => ?_, ?_, hH, hK⟩
  · rw [cs_T h, h 0 (by unfold cs; omega)]; exact hS.1
  · rw [cs_R h, h 1 (by unfold cs; omega)]; exact hS.2.1
  · rw [cs_T h] at ht
    exact ⟨fun p hp => by rw [tA t p (by omega) hp, tA.gTE (by omega) hp]; exact (hS.2.2.2.1 t ht).1 p hp, (hS.2.2.2.1 t ht).2.cong (fun p hp => (tA.gTE (by omega) hp).symm)⟩
  · rw [cs_R h] at hr
    obtain ⟨q1, q2, q3, q4⟩ := hS.2.2.2.2.1 r hr
    rw [rA.lnE (by omega), cs_T h]
    refine ⟨by rw [h _ (by unfold cs; omega)]; exact q1, q2, q3, fun i hi => ?_⟩
    rw [rA.mvE (by omega) (by omega), h _ (by unfold cs; omega)]
    exact q4 i hi
  · exact ⟨fun p hp => by rw [h _ (by unfold cs; omega), cs_nw h p hp]; exact hS.2.2.2.2.2.1.1 p hp, hS.2.2.2.2.2.1.2.cong (fun p hp => (cs_nw h p hp).symm)⟩
theorem KI.re {Z Z' : SG} (h : KI Z) (hz : ∀ k, k ≠ 104 → Z' k = Z k) (hS : IS (Z' 104)) (hp : Z 102 3 = nI 1 → PXI (Z 105) (Z 104) → PXI (Z 105) (Z' 104)) : KI Z' := by
  unfold KI
  rw [hz 102 (by decide), hz 105 (by decide), hz 106 (by decide), hz 118 (by decide), hz 119 (by decide)]
  refine ⟨hS, ?_, h.2.2⟩
  rcases h.2.1 with g | ⟨g, q1, q2⟩
  · exact Or.inl g
  · exact Or.inr ⟨g, q1, hp g q2⟩
theorem KC.re {Z Z' σ τ : SG} (hC : KC Z σ) (hz : ∀ k, k ≠ 104 → Z' k = Z k) (a : ∀ k, (k = 1 ∨ k = 2 ∨ k = 74 ∨ (83 ≤ k ∧ k ≤ 101)) → τ k = σ k) (a73 : τ 73 1 = σ 73 1) (c1 : CO τ) (c2 : CU (Z' 104) τ) (c3 : CW (Z' 104) τ) (c4 : CH (Z' 104) τ) (c5 : CY (Z' 104) τ) (c6 : CN_ (Z' 104) τ) : KC Z' τ := by
  obtain ⟨_, _, _, _, _, _, g7, g8, g9, g10, g11, g12⟩ := hC
  refine ⟨c1, c2, c3, c4, c5, c6, ?_⟩
  unfold KF KT KV KL KP KR
  rw [hz 102 (by decide), hz 103 (by decide), hz 105 (by decide), hz 106 (by decide), hz 109 (by decide), hz 118 (by decide), hz 119 (by decide), a 1 (by omega), a 2 (by omega), a 74 (by omega), a73, a 83 (by omega), a 84 (by omega), a 85 (by omega), a 86 (by omega), a 87 (by omega), a 90 (by omega), a 91 (by omega), a 99 (by omega), a 100 (by omega), a 101 (by omega)]
  refine ⟨g7, g8, g9, g10, ⟨g11.1, fun c => ?_⟩, g12⟩
  obtain ⟨q1, q2, q3, q4, q5, q6⟩ := g11.2 c
  refine ⟨q1, q2, q3, q4, fun t ht => ?_, q6⟩
  rw [a (92 + 1 + t) (by omega)]
  exact q5 t ht
theorem KM.re {Z Z' σ τ : SG} (h : KM Z σ) (hz : ∀ k, k ≠ 104 → Z' k = Z k) (h4 : FS (Z' 104) τ) (a : ∀ k, (103 ≤ k ∧ k ≠ 104) → k ≠ 107 → k ≠ 108 → τ k = σ k) (a2 : ∀ j, (j = 3 ∨ j = 6 ∨ j = 14 ∨ j = 24 ∨ j = 26) → τ 102 j = σ 102 j) : KM Z' τ := by
  obtain ⟨_, g2, g3, g4, g5, g6, g7, g8⟩ := h
  refine ⟨h4, ?_⟩
  rw [hz 102 (by decide), hz 103 (by decide), hz 105 (by decide), hz 106 (by decide), hz 109 (by decide), hz 118 (by decide), hz 119 (by decide), a 103 (by omega) (by omega) (by omega), a 105 (by omega) (by omega) (by omega), a 106 (by omega) (by omega) (by omega), a 109 (by omega) (by omega) (by omega), a 118 (by omega) (by omega) (by omega), a 119 (by omega) (by omega) (by omega), a2 3 (by omega), a2 6 (by omega), a2 14 (by omega), a2 24 (by omega), a2 26 (by omega)]
  exact ⟨g2, g3, g4, g5, g6, g7, g8⟩
theorem CU.csE {S S' : Nat → Int32} {σ : SG} (hU : CU S σ) (hS : IS S) (h : ∀ j, cs j → S' j = S j) : CU S' σ := by
  have hT := hS.1.2
  have tA := cs_TA h
  unfold CU
  rw [cs_T h, h 0 (by unfold cs; omega)]
  refine ⟨hU.1, fun m p hm hp => by rw [tA.gmE (by omega) hp]; exact hU.2.1 m p hm hp, fun m o hm ho => by rw [tA.moE hS (by omega) hm]; exact hU.2.2.1 m o hm ho, fun o ho => isD_cong (fun m hm o => tA.moE hS (by omega) hm o) (hU.2.2.2 o ho)⟩
theorem CW.csE {S S' : Nat → Int32} {σ : SG} (hW : CW S σ) (hS : IS S) (h : ∀ j, cs j → S' j = S j) : CW S' σ := by
  have hT := hS.1.2
  have hR := hS.2.1.2
  have tA := cs_TA h
  have rA := cs_RA h
  unfold CW
  rw [cs_R h, h 1 (by unfold cs; omega)]
  refine ⟨hW.1, fun r hr => ?_⟩
  obtain ⟨q1, q2, q3⟩ := hW.2 r hr
  obtain ⟨d1, d2, d3, d4⟩ := hS.2.2.2.2.1 r hr
  rw [rA.lnE (by omega)]
  refine ⟨q1, fun i hi => by rw [rA.mvE (by omega) (by omega)]; exact q2 i hi, fun o ho => ?_⟩
  rw [eo_A hS tA rA (by omega) hr (fun i hi => by have := (d4 i hi).2; omega)]
  exact q3 o ho
theorem PXI.csE {I S S' : Nat → Int32} (h : PXI I S) (hS : IS S) (c : ∀ j, cs j → S' j = S j) (hK : cK I ≤ cK S' ∧ ∀ k, k < cK I → S' (185 + 3 * k) = S (185 + 3 * k) ∧ S' (185 + 3 * k + 1) = S (185 + 3 * k + 1)) : PXI I S' := by
  have hT := hS.1.2
  have hR := hS.2.1.2
  obtain ⟨h1, h2, h3, h4, h5, h6⟩ := h
  unfold PXI
  rw [cs_T c, cs_R c]
  exact ⟨h1, h2, hK.1, fun t p ht hp => by rw [c _ (by unfold cs; omega)]; exact h4 t p ht hp, fun r j hr hj => by rw [c _ (by unfold cs; omega)]; exact h5 r j hr hj, fun k hk => by rw [(hK.2 k hk).1, (hK.2 k hk).2]; exact h6 k hk⟩
/-- hand, locks, steps, eyes change -/
theorem KC.csE {Z Z' σ τ : SG} (hC : KC Z σ) (hI : KI Z) (hz : ∀ k, k ≠ 104 → Z' k = Z k) (h : ∀ j, cs j → Z' 104 j = Z 104 j) (a : ∀ k, k < 102 → ¬ (63 ≤ k ∧ k ≤ 72) → ¬ (77 ≤ k ∧ k ≤ 80) → τ k = σ k) (c4 : CH (Z' 104) τ) (c5 : CY (Z' 104) τ) : KC Z' τ := by
  have hS := hI.1
  refine hC.re hz (fun k hk => a k (by omega) (by omega) (by omega)) (by rw [a 73 (by decide) (by decide) (by decide)]) (hC.1.fr (fun k b c => a k (by omega) (by omega) (by omega))) ((hC.2.1.fr hS (fun k b c => a k (by omega) (by omega) (by omega))).csE hS h) ((hC.2.2.1.fr hS (fun k b c => a k (by omega) (by omega) (by omega))).csE hS h) c4 c5 ?_
  unfold CN_
  rw [cs_cur h, a 0 (by decide) (by decide) (by decide)]
  exact hC.2.2.2.2.2.1
theorem FS.up {Z τ : SG} (h : FS (Z 104) τ) (j : Nat) (v : Int32) : FS (up Z 104 j v 104) (up τ 104 j v) := fun i hi => by
  by_cases e : i = j
  · rw [e, up_s, up_s]
  · rw [up_j e, up_j e]; exact h i hi
theorem IH_raw {S : Nat → Int32} (h1 : ∀ t, t < 6 → (∃ n, S (47 + t) = nI n ∧ 1 ≤ n ∧ n ≤ 99) ∧ ∃ n, S (53 + t) = nI n ∧ n ≤ 99) (h2 : ∀ a c, a < 6 → c < 6 → -9 ≤ (S (59 + 6 * a + c)).toInt ∧ (S (59 + 6 * a + c)).toInt ≤ 99) (h3 : ∀ t, cT S ≤ t → t < 6 → S (47 + t) = nI 10 ∧ S (53 + t) = nI 0 ∧ ∀ c, c < 6 → S (59 + 6 * t + c) = nI 0 ∧ S (59 + 6 * c + t) = nI 0) (h4 : (∃ n, S 3 = nI n ∧ n ≤ 100) ∧ ∃ n, S 4 = nI n ∧ n ≤ 99) : IH S := by
  refine ⟨fun t ht => ?_, h2, h3, ?_, ?_⟩
  · obtain ⟨⟨n, e1, e2, e3⟩, k, e4, e5⟩ := h1 t ht
    have a1 : ti S t = n := by unfold ti; rw [e1, na_nI (by omega)]
    have a2 : ba S t = k := by unfold ba; rw [e4, na_nI (by omega)]
    rw [a1, a2]
    exact ⟨e1, e2, e3, e4, e5⟩
  · obtain ⟨⟨n, e1, e2⟩, _⟩ := h4
    rw [e1, na_nI (by omega)]; exact ⟨rfl, e2⟩
  · obtain ⟨_, n, e1, e2⟩ := h4
    rw [e1, na_nI (by omega)]; exact ⟨rfl, e2⟩
theorem IH_one {S S' : Nat → Int32} {j : Nat} {v : Int32} (h : IH S) (j0 : j ≠ 0) (e : ∀ x, S' x = if x = j then v else S x)
    (v1 : ∀ t, t < 6 → j = 47 + t → t < cT S ∧ ∃ n, v = nI n ∧ 1 ≤ n ∧ n ≤ 99) (v2 : ∀ t, t < 6 → j = 53 + t → t < cT S ∧ ∃ n, v = nI n ∧ n ≤ 99)
    (v3 : ∀ a c, a < 6 → c < 6 → j = 59 + 6 * a + c → a < cT S ∧ c < cT S ∧ -9 ≤ v.toInt ∧ v.toInt ≤ 99) (v4 : j = 3 → ∃ n, v = nI n ∧ n ≤ 100) (v5 : j = 4 → ∃ n, v = nI n ∧ n ≤ 99) : IH S' := by
  have eT : cT S' = cT S := congrArg na (by rw [e 0, if_neg (fun z => j0 z.symm)])
  obtain ⟨h1, h2, h3, h4, h5⟩ := h
  refine IH_raw (fun t ht => ⟨?_, ?_⟩) (fun a c ha hc => ?_) (fun t ht ht6 => ?_) ⟨?_, ?_⟩
  · rw [e]
    by_cases c : 47 + t = j
    · rw [if_pos c]; exact (v1 t ht c.symm).2
    · rw [if_neg c]; exact ⟨_, (h1 t ht).1, (h1 t ht).2.1, (h1 t ht).2.2.1⟩
  · rw [e]
    by_cases c : 53 + t = j
    · rw [if_pos c]; exact (v2 t ht c.symm).2
    · rw [if_neg c]; exact ⟨_, (h1 t ht).2.2.2.1, (h1 t ht).2.2.2.2⟩
  · rw [e]
    by_cases d : 59 + 6 * a + c = j
    · rw [if_pos d]; exact (v3 a c ha hc d.symm).2.2
    · rw [if_neg d]; exact h2 a c ha hc
  · rw [eT] at ht
    obtain ⟨q1, q2, q3⟩ := h3 t ht ht6
    have n1 : ¬ 47 + t = j := fun z => by have := (v1 t ht6 z.symm).1; omega
    have n2 : ¬ 53 + t = j := fun z => by have := (v2 t ht6 z.symm).1; omega
    refine ⟨by rw [e, if_neg n1]; exact q1, by rw [e, if_neg n2]; exact q2, fun c hc => ?_⟩
    have n3 : ¬ 59 + 6 * t + c = j := fun z => by have := (v3 t c ht6 hc z.symm).1; omega
    have n4 : ¬ 59 + 6 * c + t = j := fun z => by have := (v3 c t hc ht6 z.symm).2.1; omega
    exact ⟨by rw [e, if_neg n3]; exact (q3 c hc).1, by rw [e, if_neg n4]; exact (q3 c hc).2⟩
  · rw [e]
    by_cases c : 3 = j
    · rw [if_pos c]; exact v4 c.symm
    · rw [if_neg c]; exact ⟨_, h4.1, h4.2⟩
  · rw [e]
    by_cases c : 4 = j
    · rw [if_pos c]; exact v5 c.symm
    · rw [if_neg c]; exact ⟨_, h5.1, h5.2⟩
theorem CH_one {S S' : Nat → Int32} {σ τ : SG} {k i j : Nat} {v : Int32} (h : CH S σ) (e : ∀ x, S' x = if x = j then v else S x) (w : ∀ x y, τ x y = if x = k ∧ y = i then v else σ x y) (e1 : ∀ t, t < 6 → (63 = k ∧ t = i ↔ 47 + t = j)) (e2 : ∀ t, t < 6 → (64 = k ∧ t = i ↔ 53 + t = j)) (e3 : ∀ t c, t < 6 → c < 6 → (65 + 1 + t = k ∧ c = i ↔ 59 + 6 * t + c = j)) (e4 : 72 = k ∧ 0 = i ↔ 3 = j) (e5 : 72 = k ∧ 1 = i ↔ 4 = j) : CH S' τ := by
  refine ⟨fun t ht => ⟨?_, ?_, fun c hc => ?_⟩, ?_, ?_⟩
  · rw [w, e, (h.1 t ht).1]; exact ite_congr (propext (e1 t ht)) (fun _ => rfl) (fun _ => rfl)
  · rw [w, e, (h.1 t ht).2.1]; exact ite_congr (propext (e2 t ht)) (fun _ => rfl) (fun _ => rfl)
  · show τ (65 + 1 + t) c = S' (59 + 6 * t + c)
    rw [w, e, (h.1 t ht).2.2 c hc]; exact ite_congr (propext (e3 t c ht hc)) (fun _ => rfl) (fun _ => rfl)
  · rw [w, e, h.2.1]; exact ite_congr (propext e4) (fun _ => rfl) (fun _ => rfl)
  · rw [w, e, h.2.2]; exact ite_congr (propext e5) (fun _ => rfl) (fun _ => rfl)
theorem up_x {Z : SG} {j : Nat} {v : Int32} : ∀ x, up Z 104 j v 104 x = if x = j then v else Z 104 x := fun x => by
  by_cases e : x = j
  · rw [e, up_s, if_pos rfl]
  · rw [up_j e, if_neg e]
theorem up_w {σ : SG} {k i : Nat} {v : Int32} : ∀ x y, up σ k i v x y = if x = k ∧ y = i then v else σ x y := fun _ _ => rfl
/-- one slot of the hand -/
theorem hand_I {Z : SG} (hI : KI Z) {j : Nat} {v : Int32} (hj : j = 3 ∨ j = 4 ∨ (47 ≤ j ∧ j < 95)) (hH : IH (up Z 104 j v 104)) : KI (up Z 104 j v) := by
  have hS := hI.1
  have c : ∀ x, cs x → up Z 104 j v 104 x = Z 104 x := fun x hx => up_j (by unfold cs at hx; omega)
  have e2 : cK (up Z 104 j v 104) = cK (Z 104) := congrArg na (up_j (by omega))
  have eP : ∀ k, k < cK (Z 104) → pls (up Z 104 j v 104) k = pls (Z 104) k ∧ rws (up Z 104 j v 104) k = rws (Z 104) k ∧ see (up Z 104 j v 104) k = see (Z 104) k := fun k hk => ⟨congrArg na (up_j (by omega)), congrArg na (up_j (by omega)), congrArg na (up_j (by omega))⟩
  refine hI.re (fun k hk => up_k hk) (IS_of hS c (by rw [e2, up_j (by omega)]; exact hS.2.2.1) hH (fun k hk => ?_)) (fun _ hp => hp.csE hS c ⟨by rw [e2]; exact hp.2.2.1, fun k hk => ⟨up_j (by omega), up_j (by omega)⟩⟩)
  rw [e2] at hk
  rw [(eP k hk).1, (eP k hk).2.1, (eP k hk).2.2, up_j (by omega), up_j (by omega), up_j (by omega)]
  exact hS.2.2.2.2.2.2.2 k hk
theorem CY.hand {Z σ : SG} {j : Nat} {v : Int32} (h : CY (Z 104) σ) (hj : j = 3 ∨ j = 4 ∨ (47 ≤ j ∧ j < 95)) : CY (up Z 104 j v 104) σ := by
  have e2 : cK (up Z 104 j v 104) = cK (Z 104) := congrArg na (up_j (by omega))
  unfold CY
  rw [e2, up_j (by omega)]
  refine ⟨h.1, fun k hk => ?_⟩
  rw [show pls (up Z 104 j v 104) k = pls (Z 104) k from congrArg na (up_j (by omega)), show rws (up Z 104 j v 104) k = rws (Z 104) k from congrArg na (up_j (by omega)), show see (up Z 104 j v 104) k = see (Z 104) k from congrArg na (up_j (by omega))]
  exact h.2 k hk
theorem DC_hand {Z σ : SG} (hC : KC Z σ) (hI : KI Z) {k i j : Nat} {v : Int32} (hj : j = 3 ∨ j = 4 ∨ (47 ≤ j ∧ j < 95)) (hk : 63 ≤ k ∧ k ≤ 72) (hH : CH (up Z 104 j v 104) (up σ k i v)) {x r : Int32} (e : r = x) : ∀ s, s = up σ k i v → DC (up Z 104 j v) σ x s r := fun s es => by
  subst es
  exact ⟨e, hC.csE hI (fun k hk => up_k hk) (fun x hx => up_j (by unfold cs at hx; omega)) (fun k2 a b c => up_k (by omega)) hH ((hC.2.2.2.2.1.fr (fun k2 a b => up_k (by omega))).hand hj), fun k2 a => up_k (by omega)⟩
theorem DM_hand {Z σ : SG} (hM : KM Z σ) {j : Nat} {v x r : Int32} (e : r = x) : ∀ s, s = up σ 104 j v → DM (up Z 104 j v) σ x s r := fun s es => by
  subst es
  exact ⟨e, hM.re (fun k hk => up_k hk) (hM.1.up j v) (fun k a b c => up_k (by omega)) (fun j2 a => by rw [up_k (by decide)]), fun k a => up_k (by omega)⟩
theorem J_time {Z σ : SG} (hI : KI Z) (hC : KC Z σ) (hM : KM Z σ) (a b c : Int32) : ∃ p, IN_X11_time AF σ [.ref 0, .int a, .int b, .int c] p ∧ ∀ t r, p t r → ∃ q, IN_X12_time AF t [.ref 102, .int a, .int b, .int c] q ∧ ∀ t' r', q t' r' → r = r' ∧ KK t' := by
  have hS := hI.1
  have hT := hS.1.2
  by_cases c0 : a < 0
  · exact joint (Z' := rf Z 1) (x := -1) (C := fun s p => IN_X11_time AF s [.ref 0, .int a, .int b, .int c] p) (M := fun s p => IN_X12_time AF s [.ref 102, .int a, .int b, .int c] p) (hI.rf 1) hM ⟨⟨_, _, rfl, rfl, Nat.le_of_ble_eq_true rfl, rc_0⟩, Nat.le_of_ble_eq_true rfl, g_X11_time_0 (by rw [show σ 7 0 = nI (cT (Z 104)) from hC.2.1.1.trans hS.1.1]; exact ⟨fun _ => DC_rf hC hI (by decide) (by decide), fun c => absurd c0 c⟩)⟩ (fun t hM => ⟨⟨_, _, rfl, rfl, Nat.le_of_ble_eq_true rfl, rc_102⟩, Nat.le_of_ble_eq_true rfl, g_X12_time_0 (by rw [show t 104 0 = nI (cT (Z 104)) from (hM.1 0 (by decide)).trans hS.1.1]; exact ⟨fun _ => DM_rf hM (by decide), fun c => absurd c0 c⟩)⟩)
  · by_cases c1 : nI (cT (Z 104)) ≤ a
    · exact joint (Z' := rf Z 1) (x := -1) (C := fun s p => IN_X11_time AF s [.ref 0, .int a, .int b, .int c] p) (M := fun s p => IN_X12_time AF s [.ref 102, .int a, .int b, .int c] p) (hI.rf 1) hM ⟨⟨_, _, rfl, rfl, Nat.le_of_ble_eq_true rfl, rc_0⟩, Nat.le_of_ble_eq_true rfl, g_X11_time_0 (by rw [show σ 7 0 = nI (cT (Z 104)) from hC.2.1.1.trans hS.1.1]; exact ⟨fun c => absurd c c0, fun _ => ⟨fun _ => DC_rf hC hI (by decide) (by decide), fun c => absurd c1 c⟩⟩)⟩ (fun t hM => ⟨⟨_, _, rfl, rfl, Nat.le_of_ble_eq_true rfl, rc_102⟩, Nat.le_of_ble_eq_true rfl, g_X12_time_0 (by rw [show t 104 0 = nI (cT (Z 104)) from (hM.1 0 (by decide)).trans hS.1.1]; exact ⟨fun c => absurd c c0, fun _ => ⟨fun _ => DM_rf hM (by decide), fun c => absurd c1 c⟩⟩)⟩)
    · by_cases c2 : b = 0
      · obtain rfl : b = nI 0 := c2.trans nI_0.symm
        by_cases c4 : nI 1 ≤ c
        · by_cases c5 : c ≤ nI 99
          · obtain ⟨n, hn, ea⟩ := arg_in (by omega) c0 c1
            obtain ⟨w, hw1, hw2, ec⟩ := arg_pos (by decide) (by decide) c4 c5
            have hH : IH (up Z 104 (47 + n) c 104) := IH_one hS.2.2.2.2.2.2.1 (by omega) up_x (fun t ht e => ⟨by omega, w, ec, hw1, hw2⟩) (fun t ht e => by omega) (fun a c ha hc e => by omega) (fun e => by omega) (fun e => by omega)
            refine joint (Z' := up Z 104 (47 + n) c) (x := Z 104 (47 + n)) (C := fun s p => IN_X11_time AF s [.ref 0, .int a, .int (nI 0), .int c] p) (M := fun s p => IN_X12_time AF s [.ref 102, .int a, .int (nI 0), .int c] p) (hand_I hI (by omega) hH) hM ?_ (fun t hM => ?_)
            · refine ⟨⟨_, _, rfl, rfl, Nat.le_of_ble_eq_true rfl, rc_0⟩, Nat.le_of_ble_eq_true rfl, g_X11_time_0 ?_⟩
              rw [show σ 7 0 = nI (cT (Z 104)) from hC.2.1.1.trans hS.1.1]
              refine ⟨fun c => absurd c c0, fun _ => ⟨fun c => absurd c c1, fun _ => ⟨fun _ => ⟨fun c => absurd nI_0 c, fun _ => ⟨fun _ => ⟨fun _ => ?_, fun c => absurd c5 c⟩, fun c => absurd c4 c⟩⟩, fun c => absurd nI_0 c⟩⟩⟩
              subst ea
              refine ⟨0, rfl, by decide, n, rfl, by omega, n, rfl, by omega, ?_⟩
              exact DC_hand hC hI (j := 47 + n) (by omega) (by omega) (CH_one hC.2.2.2.1 up_x up_w (fun t ht => by omega) (fun t ht => by omega) (fun t c ht hc => by omega) (by omega) (by omega)) (hC.2.2.2.1.1 n (by omega)).1
            · refine ⟨⟨_, _, rfl, rfl, Nat.le_of_ble_eq_true rfl, rc_102⟩, Nat.le_of_ble_eq_true rfl, g_X12_time_0 ?_⟩
              rw [show t 104 0 = nI (cT (Z 104)) from (hM.1 0 (by decide)).trans hS.1.1]
              refine ⟨fun c => absurd c c0, fun _ => ⟨fun c => absurd c c1, fun _ => ⟨fun c => absurd c (by decide +kernel), fun _ => ⟨fun c => absurd c (by decide +kernel), fun _ => ⟨fun _ => ⟨fun _ => ⟨fun c => absurd nI_0 c, fun _ => ?_⟩, fun c => absurd c5 c⟩, fun c => absurd (by rw [nI_subN (by decide)]; exact c4) c⟩⟩⟩⟩⟩
              subst ea
              refine ⟨47 + n, nI_add _ _, by omega, 47 + n, nI_add _ _, by omega, ?_⟩
              exact DM_hand hM (hM.1 (47 + n) (by omega))
          · exact joint (Z' := rf Z 6) (x := -6) (C := fun s p => IN_X11_time AF s [.ref 0, .int a, .int (nI 0), .int c] p) (M := fun s p => IN_X12_time AF s [.ref 102, .int a, .int (nI 0), .int c] p) (hI.rf 6) hM ⟨⟨_, _, rfl, rfl, Nat.le_of_ble_eq_true rfl, rc_0⟩, Nat.le_of_ble_eq_true rfl, g_X11_time_0 (by rw [show σ 7 0 = nI (cT (Z 104)) from hC.2.1.1.trans hS.1.1]; exact ⟨fun c => absurd c c0, fun _ => ⟨fun c => absurd c c1, fun _ => ⟨fun _ => ⟨fun c => absurd nI_0 c, fun _ => ⟨fun _ => ⟨fun c => absurd c c5, fun _ => DC_rf hC hI (by decide) (by decide)⟩, fun c => absurd c4 c⟩⟩, fun c => absurd nI_0 c⟩⟩⟩)⟩ (fun t hM => ⟨⟨_, _, rfl, rfl, Nat.le_of_ble_eq_true rfl, rc_102⟩, Nat.le_of_ble_eq_true rfl, g_X12_time_0 (by rw [show t 104 0 = nI (cT (Z 104)) from (hM.1 0 (by decide)).trans hS.1.1]; exact ⟨fun c => absurd c c0, fun _ => ⟨fun c => absurd c c1, fun _ => ⟨fun c => absurd c (by decide +kernel), fun _ => ⟨fun c => absurd c (by decide +kernel), fun _ => ⟨fun _ => ⟨fun c => absurd c c5, fun _ => DM_rf hM (by decide)⟩, fun c => absurd (by rw [nI_subN (by decide)]; exact c4) c⟩⟩⟩⟩⟩)⟩)
        · exact joint (Z' := rf Z 4) (x := -4) (C := fun s p => IN_X11_time AF s [.ref 0, .int a, .int (nI 0), .int c] p) (M := fun s p => IN_X12_time AF s [.ref 102, .int a, .int (nI 0), .int c] p) (hI.rf 4) hM ⟨⟨_, _, rfl, rfl, Nat.le_of_ble_eq_true rfl, rc_0⟩, Nat.le_of_ble_eq_true rfl, g_X11_time_0 (by rw [show σ 7 0 = nI (cT (Z 104)) from hC.2.1.1.trans hS.1.1]; exact ⟨fun c => absurd c c0, fun _ => ⟨fun c => absurd c c1, fun _ => ⟨fun _ => ⟨fun c => absurd nI_0 c, fun _ => ⟨fun c => absurd c c4, fun _ => DC_rf hC hI (by decide) (by decide)⟩⟩, fun c => absurd nI_0 c⟩⟩⟩)⟩ (fun t hM => ⟨⟨_, _, rfl, rfl, Nat.le_of_ble_eq_true rfl, rc_102⟩, Nat.le_of_ble_eq_true rfl, g_X12_time_0 (by rw [show t 104 0 = nI (cT (Z 104)) from (hM.1 0 (by decide)).trans hS.1.1]; exact ⟨fun c => absurd c c0, fun _ => ⟨fun c => absurd c c1, fun _ => ⟨fun c => absurd c (by decide +kernel), fun _ => ⟨fun c => absurd c (by decide +kernel), fun _ => ⟨fun c => absurd c (by rw [nI_subN (by decide)]; exact c4), fun _ => DM_rf hM (by decide)⟩⟩⟩⟩⟩)⟩)
      · by_cases c3 : b = nI 1
        · subst c3
          by_cases c4 : nI 0 ≤ c
          · by_cases c5 : c ≤ nI 99
            · obtain ⟨n, hn, ea⟩ := arg_in (by omega) c0 c1
              obtain ⟨w, hw1, hw2, ec⟩ := arg_pos (by decide) (by decide) c4 c5
              have hH : IH (up Z 104 (53 + n) c 104) := IH_one hS.2.2.2.2.2.2.1 (by omega) up_x (fun t ht e => by omega) (fun t ht e => ⟨by omega, w, ec, hw2⟩) (fun a c ha hc e => by omega) (fun e => by omega) (fun e => by omega)
              refine joint (Z' := up Z 104 (53 + n) c) (x := Z 104 (53 + n)) (C := fun s p => IN_X11_time AF s [.ref 0, .int a, .int (nI 1), .int c] p) (M := fun s p => IN_X12_time AF s [.ref 102, .int a, .int (nI 1), .int c] p) (hand_I hI (by omega) hH) hM ?_ (fun t hM => ?_)
              · refine ⟨⟨_, _, rfl, rfl, Nat.le_of_ble_eq_true rfl, rc_0⟩, Nat.le_of_ble_eq_true rfl, g_X11_time_0 ?_⟩
                rw [show σ 7 0 = nI (cT (Z 104)) from hC.2.1.1.trans hS.1.1]
                refine ⟨fun c => absurd c c0, fun _ => ⟨fun c => absurd c c1, fun _ => ⟨fun c => absurd c (by decide +kernel), fun _ => ⟨fun _ => ⟨fun _ => ⟨fun _ => ⟨fun _ => ?_, fun c => absurd c5 c⟩, fun c => absurd c4 c⟩, fun c => absurd c (by decide +kernel)⟩, fun c => absurd rfl c⟩⟩⟩⟩
                subst ea
                refine ⟨1, rfl, by decide, n, rfl, by omega, n, rfl, by omega, ?_⟩
                exact DC_hand hC hI (j := 53 + n) (by omega) (by omega) (CH_one hC.2.2.2.1 up_x up_w (fun t ht => by omega) (fun t ht => by omega) (fun t c ht hc => by omega) (by omega) (by omega)) (hC.2.2.2.1.1 n (by omega)).2.1
              · refine ⟨⟨_, _, rfl, rfl, Nat.le_of_ble_eq_true rfl, rc_102⟩, Nat.le_of_ble_eq_true rfl, g_X12_time_0 ?_⟩
                rw [show t 104 0 = nI (cT (Z 104)) from (hM.1 0 (by decide)).trans hS.1.1]
                refine ⟨fun c => absurd c c0, fun _ => ⟨fun c => absurd c c1, fun _ => ⟨fun c => absurd c (by decide +kernel), fun _ => ⟨fun c => absurd c (by decide +kernel), fun _ => ⟨fun _ => ⟨fun _ => ⟨fun _ => ?_, fun c => absurd c (by decide +kernel)⟩, fun c => absurd c5 c⟩, fun c => absurd (by rw [nI_subN (by decide)]; exact c4) c⟩⟩⟩⟩⟩
                subst ea
                refine ⟨53 + n, nI_add _ _, by omega, 53 + n, nI_add _ _, by omega, ?_⟩
                exact DM_hand hM (hM.1 (53 + n) (by omega))
            · exact joint (Z' := rf Z 6) (x := -6) (C := fun s p => IN_X11_time AF s [.ref 0, .int a, .int (nI 1), .int c] p) (M := fun s p => IN_X12_time AF s [.ref 102, .int a, .int (nI 1), .int c] p) (hI.rf 6) hM ⟨⟨_, _, rfl, rfl, Nat.le_of_ble_eq_true rfl, rc_0⟩, Nat.le_of_ble_eq_true rfl, g_X11_time_0 (by rw [show σ 7 0 = nI (cT (Z 104)) from hC.2.1.1.trans hS.1.1]; exact ⟨fun c => absurd c c0, fun _ => ⟨fun c => absurd c c1, fun _ => ⟨fun c => absurd c (by decide +kernel), fun _ => ⟨fun _ => ⟨fun _ => ⟨fun _ => ⟨fun c => absurd c c5, fun _ => DC_rf hC hI (by decide) (by decide)⟩, fun c => absurd c4 c⟩, fun c => absurd c (by decide +kernel)⟩, fun c => absurd rfl c⟩⟩⟩⟩)⟩ (fun t hM => ⟨⟨_, _, rfl, rfl, Nat.le_of_ble_eq_true rfl, rc_102⟩, Nat.le_of_ble_eq_true rfl, g_X12_time_0 (by rw [show t 104 0 = nI (cT (Z 104)) from (hM.1 0 (by decide)).trans hS.1.1]; exact ⟨fun c => absurd c c0, fun _ => ⟨fun c => absurd c c1, fun _ => ⟨fun c => absurd c (by decide +kernel), fun _ => ⟨fun c => absurd c (by decide +kernel), fun _ => ⟨fun _ => ⟨fun c => absurd c c5, fun _ => DM_rf hM (by decide)⟩, fun c => absurd (by rw [nI_subN (by decide)]; exact c4) c⟩⟩⟩⟩⟩)⟩)
          · exact joint (Z' := rf Z 4) (x := -4) (C := fun s p => IN_X11_time AF s [.ref 0, .int a, .int (nI 1), .int c] p) (M := fun s p => IN_X12_time AF s [.ref 102, .int a, .int (nI 1), .int c] p) (hI.rf 4) hM ⟨⟨_, _, rfl, rfl, Nat.le_of_ble_eq_true rfl, rc_0⟩, Nat.le_of_ble_eq_true rfl, g_X11_time_0 (by rw [show σ 7 0 = nI (cT (Z 104)) from hC.2.1.1.trans hS.1.1]; exact ⟨fun c => absurd c c0, fun _ => ⟨fun c => absurd c c1, fun _ => ⟨fun c => absurd c (by decide +kernel), fun _ => ⟨fun _ => ⟨fun _ => ⟨fun c => absurd c c4, fun _ => DC_rf hC hI (by decide) (by decide)⟩, fun c => absurd c (by decide +kernel)⟩, fun c => absurd rfl c⟩⟩⟩⟩)⟩ (fun t hM => ⟨⟨_, _, rfl, rfl, Nat.le_of_ble_eq_true rfl, rc_102⟩, Nat.le_of_ble_eq_true rfl, g_X12_time_0 (by rw [show t 104 0 = nI (cT (Z 104)) from (hM.1 0 (by decide)).trans hS.1.1]; exact ⟨fun c => absurd c c0, fun _ => ⟨fun c => absurd c c1, fun _ => ⟨fun c => absurd c (by decide +kernel), fun _ => ⟨fun c => absurd c (by decide +kernel), fun _ => ⟨fun c => absurd c (by rw [nI_subN (by decide)]; exact c4), fun _ => DM_rf hM (by decide)⟩⟩⟩⟩⟩)⟩)
        · by_cases c6 : b < 0
          · exact joint (Z' := rf Z 2) (x := -2) (C := fun s p => IN_X11_time AF s [.ref 0, .int a, .int b, .int c] p) (M := fun s p => IN_X12_time AF s [.ref 102, .int a, .int b, .int c] p) (hI.rf 2) hM ⟨⟨_, _, rfl, rfl, Nat.le_of_ble_eq_true rfl, rc_0⟩, Nat.le_of_ble_eq_true rfl, g_X11_time_0 (by rw [show σ 7 0 = nI (cT (Z 104)) from hC.2.1.1.trans hS.1.1]; exact ⟨fun c => absurd c c0, fun _ => ⟨fun c => absurd c c1, fun _ => ⟨fun c => absurd c c2, fun _ => ⟨fun c => absurd c c3, fun _ => DC_rf hC hI (by decide) (by decide)⟩⟩⟩⟩)⟩ (fun t hM => ⟨⟨_, _, rfl, rfl, Nat.le_of_ble_eq_true rfl, rc_102⟩, Nat.le_of_ble_eq_true rfl, g_X12_time_0 (by rw [show t 104 0 = nI (cT (Z 104)) from (hM.1 0 (by decide)).trans hS.1.1]; exact ⟨fun c => absurd c c0, fun _ => ⟨fun c => absurd c c1, fun _ => ⟨fun _ => DM_rf hM (by decide), fun c => absurd c6 c⟩⟩⟩)⟩)
          · by_cases c7 : nI 2 ≤ b
            · exact joint (Z' := rf Z 2) (x := -2) (C := fun s p => IN_X11_time AF s [.ref 0, .int a, .int b, .int c] p) (M := fun s p => IN_X12_time AF s [.ref 102, .int a, .int b, .int c] p) (hI.rf 2) hM ⟨⟨_, _, rfl, rfl, Nat.le_of_ble_eq_true rfl, rc_0⟩, Nat.le_of_ble_eq_true rfl, g_X11_time_0 (by rw [show σ 7 0 = nI (cT (Z 104)) from hC.2.1.1.trans hS.1.1]; exact ⟨fun c => absurd c c0, fun _ => ⟨fun c => absurd c c1, fun _ => ⟨fun c => absurd c c2, fun _ => ⟨fun c => absurd c c3, fun _ => DC_rf hC hI (by decide) (by decide)⟩⟩⟩⟩)⟩ (fun t hM => ⟨⟨_, _, rfl, rfl, Nat.le_of_ble_eq_true rfl, rc_102⟩, Nat.le_of_ble_eq_true rfl, g_X12_time_0 (by rw [show t 104 0 = nI (cT (Z 104)) from (hM.1 0 (by decide)).trans hS.1.1]; exact ⟨fun c => absurd c c0, fun _ => ⟨fun c => absurd c c1, fun _ => ⟨fun c => absurd c c6, fun _ => ⟨fun _ => DM_rf hM (by decide), fun c => absurd c7 c⟩⟩⟩⟩)⟩)
            · exfalso
              obtain ⟨n, hn, eb⟩ := arg_in (by decide) c6 c7
              match n, hn with
              | 0, _ => exact c2 (eb.trans nI_0)
              | 1, _ => exact c3 eb
theorem J_after {Z σ : SG} (hI : KI Z) (hC : KC Z σ) (hM : KM Z σ) (a b c : Int32) : ∃ p, IN_X11_after AF σ [.ref 0, .int a, .int b, .int c] p ∧ ∀ t r, p t r → ∃ q, IN_X12_after AF t [.ref 102, .int a, .int b, .int c] q ∧ ∀ t' r', q t' r' → r = r' ∧ KK t' := by
  have hS := hI.1
  have hT := hS.1.2
  by_cases c0 : a < 0
  · exact joint (Z' := rf Z 1) (x := nI 1000000001) (C := fun s p => IN_X11_after AF s [.ref 0, .int a, .int b, .int c] p) (M := fun s p => IN_X12_after AF s [.ref 102, .int a, .int b, .int c] p) (hI.rf 1) hM ⟨⟨_, _, rfl, rfl, Nat.le_of_ble_eq_true rfl, rc_0⟩, Nat.le_of_ble_eq_true rfl, g_X11_after_0 (by rw [show σ 7 0 = nI (cT (Z 104)) from hC.2.1.1.trans hS.1.1]; exact ⟨fun _ => DC_rf hC hI (by decide) (by decide), fun c => absurd c0 c⟩)⟩ (fun t hM => ⟨⟨_, _, rfl, rfl, Nat.le_of_ble_eq_true rfl, rc_102⟩, Nat.le_of_ble_eq_true rfl, g_X12_after_0 (by rw [show t 104 0 = nI (cT (Z 104)) from (hM.1 0 (by decide)).trans hS.1.1]; exact ⟨fun _ => DM_rf hM (by decide), fun c => absurd c0 c⟩)⟩)
  · by_cases c1 : nI (cT (Z 104)) ≤ a
    · exact joint (Z' := rf Z 1) (x := nI 1000000001) (C := fun s p => IN_X11_after AF s [.ref 0, .int a, .int b, .int c] p) (M := fun s p => IN_X12_after AF s [.ref 102, .int a, .int b, .int c] p) (hI.rf 1) hM ⟨⟨_, _, rfl, rfl, Nat.le_of_ble_eq_true rfl, rc_0⟩, Nat.le_of_ble_eq_true rfl, g_X11_after_0 (by rw [show σ 7 0 = nI (cT (Z 104)) from hC.2.1.1.trans hS.1.1]; exact ⟨fun c => absurd c c0, fun _ => ⟨fun _ => DC_rf hC hI (by decide) (by decide), fun c => absurd c1 c⟩⟩)⟩ (fun t hM => ⟨⟨_, _, rfl, rfl, Nat.le_of_ble_eq_true rfl, rc_102⟩, Nat.le_of_ble_eq_true rfl, g_X12_after_0 (by rw [show t 104 0 = nI (cT (Z 104)) from (hM.1 0 (by decide)).trans hS.1.1]; exact ⟨fun c => absurd c c0, fun _ => ⟨fun _ => DM_rf hM (by decide), fun c => absurd c1 c⟩⟩)⟩)
    · by_cases c2 : b < 0
      · exact joint (Z' := rf Z 1) (x := nI 1000000001) (C := fun s p => IN_X11_after AF s [.ref 0, .int a, .int b, .int c] p) (M := fun s p => IN_X12_after AF s [.ref 102, .int a, .int b, .int c] p) (hI.rf 1) hM ⟨⟨_, _, rfl, rfl, Nat.le_of_ble_eq_true rfl, rc_0⟩, Nat.le_of_ble_eq_true rfl, g_X11_after_0 (by rw [show σ 7 0 = nI (cT (Z 104)) from hC.2.1.1.trans hS.1.1]; exact ⟨fun c => absurd c c0, fun _ => ⟨fun c => absurd c c1, fun _ => ⟨fun _ => DC_rf hC hI (by decide) (by decide), fun c => absurd c2 c⟩⟩⟩)⟩ (fun t hM => ⟨⟨_, _, rfl, rfl, Nat.le_of_ble_eq_true rfl, rc_102⟩, Nat.le_of_ble_eq_true rfl, g_X12_after_0 (by rw [show t 104 0 = nI (cT (Z 104)) from (hM.1 0 (by decide)).trans hS.1.1]; exact ⟨fun c => absurd c c0, fun _ => ⟨fun c => absurd c c1, fun _ => ⟨fun _ => DM_rf hM (by decide), fun c => absurd c2 c⟩⟩⟩)⟩)
      · by_cases c3 : nI (cT (Z 104)) ≤ b
        · exact joint (Z' := rf Z 1) (x := nI 1000000001) (C := fun s p => IN_X11_after AF s [.ref 0, .int a, .int b, .int c] p) (M := fun s p => IN_X12_after AF s [.ref 102, .int a, .int b, .int c] p) (hI.rf 1) hM ⟨⟨_, _, rfl, rfl, Nat.le_of_ble_eq_true rfl, rc_0⟩, Nat.le_of_ble_eq_true rfl, g_X11_after_0 (by rw [show σ 7 0 = nI (cT (Z 104)) from hC.2.1.1.trans hS.1.1]; exact ⟨fun c => absurd c c0, fun _ => ⟨fun c => absurd c c1, fun _ => ⟨fun c => absurd c c2, fun _ => ⟨fun _ => DC_rf hC hI (by decide) (by decide), fun c => absurd c3 c⟩⟩⟩⟩)⟩ (fun t hM => ⟨⟨_, _, rfl, rfl, Nat.le_of_ble_eq_true rfl, rc_102⟩, Nat.le_of_ble_eq_true rfl, g_X12_after_0 (by rw [show t 104 0 = nI (cT (Z 104)) from (hM.1 0 (by decide)).trans hS.1.1]; exact ⟨fun c => absurd c c0, fun _ => ⟨fun c => absurd c c1, fun _ => ⟨fun c => absurd c c2, fun _ => ⟨fun _ => DM_rf hM (by decide), fun c => absurd c3 c⟩⟩⟩⟩)⟩)
        · by_cases c4 : (-9 : Int32) ≤ c
          · by_cases c5 : c ≤ nI 99
            · obtain ⟨n, hn, ea⟩ := arg_in (by omega) c0 c1
              obtain ⟨k, hk, eb⟩ := arg_in (by omega) c2 c3
              have w1 : -9 ≤ c.toInt := by
                have := Int32.le_iff_toInt_le.1 c4
                rw [show (-9 : Int32).toInt = -9 by decide] at this
                exact this
              have w2 : c.toInt ≤ 99 := by
                have := Int32.le_iff_toInt_le.1 c5
                rw [nI_toInt (by decide)] at this
                exact this
              have hH : IH (up Z 104 (59 + 6 * n + k) c 104) := IH_one hS.2.2.2.2.2.2.1 (by omega) up_x (fun t ht e => by omega) (fun t ht e => by omega) (fun a c ha hc e => ⟨by omega, by omega, w1, w2⟩) (fun e => by omega) (fun e => by omega)
              refine joint (Z' := up Z 104 (59 + 6 * n + k) c) (x := Z 104 (59 + 6 * n + k)) (C := fun s p => IN_X11_after AF s [.ref 0, .int a, .int b, .int c] p) (M := fun s p => IN_X12_after AF s [.ref 102, .int a, .int b, .int c] p) (hand_I hI (by omega) hH) hM ?_ (fun t hM => ?_)
              · refine ⟨⟨_, _, rfl, rfl, Nat.le_of_ble_eq_true rfl, rc_0⟩, Nat.le_of_ble_eq_true rfl, g_X11_after_0 ?_⟩
                rw [show σ 7 0 = nI (cT (Z 104)) from hC.2.1.1.trans hS.1.1]
                refine ⟨fun c => absurd c c0, fun _ => ⟨fun c => absurd c c1, fun _ => ⟨fun c => absurd c c2, fun _ => ⟨fun c => absurd c c3, fun _ => ⟨fun _ => ⟨fun _ => ?_, fun c => absurd c5 c⟩, fun c => absurd c4 c⟩⟩⟩⟩⟩
                subst ea
                subst eb
                refine ⟨n, rfl, by omega, k, rfl, by omega, k, rfl, by omega, ?_⟩
                exact DC_hand hC hI (j := 59 + 6 * n + k) (by omega) (by omega) (CH_one hC.2.2.2.1 up_x up_w (fun t ht => by omega) (fun t ht => by omega) (fun t c ht hc => by omega) (by omega) (by omega)) ((hC.2.2.2.1.1 n (by omega)).2.2 k (by omega))
              · refine ⟨⟨_, _, rfl, rfl, Nat.le_of_ble_eq_true rfl, rc_102⟩, Nat.le_of_ble_eq_true rfl, g_X12_after_0 ?_⟩
                rw [show t 104 0 = nI (cT (Z 104)) from (hM.1 0 (by decide)).trans hS.1.1]
                refine ⟨fun c => absurd c c0, fun _ => ⟨fun c => absurd c c1, fun _ => ⟨fun c => absurd c c2, fun _ => ⟨fun c => absurd c c3, fun _ => ⟨fun _ => ⟨fun _ => ?_, fun c => absurd c5 c⟩, fun c => absurd c4 c⟩⟩⟩⟩⟩
                subst ea
                subst eb
                have e : ((nI 59) + ((nI 6) * nI n)) + nI k = nI (59 + 6 * n + k) := by rw [pk_mul, nI_add, nI_add]
                refine ⟨59 + 6 * n + k, e, by omega, 59 + 6 * n + k, e, by omega, ?_⟩
                exact DM_hand hM (hM.1 (59 + 6 * n + k) (by omega))
            · exact joint (Z' := rf Z 6) (x := nI 1000000006) (C := fun s p => IN_X11_after AF s [.ref 0, .int a, .int b, .int c] p) (M := fun s p => IN_X12_after AF s [.ref 102, .int a, .int b, .int c] p) (hI.rf 6) hM ⟨⟨_, _, rfl, rfl, Nat.le_of_ble_eq_true rfl, rc_0⟩, Nat.le_of_ble_eq_true rfl, g_X11_after_0 (by rw [show σ 7 0 = nI (cT (Z 104)) from hC.2.1.1.trans hS.1.1]; exact ⟨fun c => absurd c c0, fun _ => ⟨fun c => absurd c c1, fun _ => ⟨fun c => absurd c c2, fun _ => ⟨fun c => absurd c c3, fun _ => ⟨fun _ => ⟨fun c => absurd c c5, fun _ => DC_rf hC hI (by decide) (by decide)⟩, fun c => absurd c4 c⟩⟩⟩⟩⟩)⟩ (fun t hM => ⟨⟨_, _, rfl, rfl, Nat.le_of_ble_eq_true rfl, rc_102⟩, Nat.le_of_ble_eq_true rfl, g_X12_after_0 (by rw [show t 104 0 = nI (cT (Z 104)) from (hM.1 0 (by decide)).trans hS.1.1]; exact ⟨fun c => absurd c c0, fun _ => ⟨fun c => absurd c c1, fun _ => ⟨fun c => absurd c c2, fun _ => ⟨fun c => absurd c c3, fun _ => ⟨fun _ => ⟨fun c => absurd c c5, fun _ => DM_rf hM (by decide)⟩, fun c => absurd c4 c⟩⟩⟩⟩⟩)⟩)
          · exact joint (Z' := rf Z 4) (x := nI 1000000004) (C := fun s p => IN_X11_after AF s [.ref 0, .int a, .int b, .int c] p) (M := fun s p => IN_X12_after AF s [.ref 102, .int a, .int b, .int c] p) (hI.rf 4) hM ⟨⟨_, _, rfl, rfl, Nat.le_of_ble_eq_true rfl, rc_0⟩, Nat.le_of_ble_eq_true rfl, g_X11_after_0 (by rw [show σ 7 0 = nI (cT (Z 104)) from hC.2.1.1.trans hS.1.1]; exact ⟨fun c => absurd c c0, fun _ => ⟨fun c => absurd c c1, fun _ => ⟨fun c => absurd c c2, fun _ => ⟨fun c => absurd c c3, fun _ => ⟨fun c => absurd c c4, fun _ => DC_rf hC hI (by decide) (by decide)⟩⟩⟩⟩⟩)⟩ (fun t hM => ⟨⟨_, _, rfl, rfl, Nat.le_of_ble_eq_true rfl, rc_102⟩, Nat.le_of_ble_eq_true rfl, g_X12_after_0 (by rw [show t 104 0 = nI (cT (Z 104)) from (hM.1 0 (by decide)).trans hS.1.1]; exact ⟨fun c => absurd c c0, fun _ => ⟨fun c => absurd c c1, fun _ => ⟨fun c => absurd c c2, fun _ => ⟨fun c => absurd c c3, fun _ => ⟨fun c => absurd c c4, fun _ => DM_rf hM (by decide)⟩⟩⟩⟩⟩)⟩)
theorem J_locks {Z σ : SG} (hI : KI Z) (hC : KC Z σ) (hM : KM Z σ) (a b : Int32) : ∃ p, IN_X11_locks AF σ [.ref 0, .int a, .int b] p ∧ ∀ t r, p t r → ∃ q, IN_X12_locks AF t [.ref 102, .int a, .int b] q ∧ ∀ t' r', q t' r' → r = r' ∧ KK t' := by
  have hS := hI.1
  by_cases c2 : a = 0
  · obtain rfl : a = nI 0 := c2.trans nI_0.symm
    by_cases c4 : nI 0 ≤ b
    · by_cases c5 : b ≤ nI 100
      · obtain ⟨w, hw1, hw2, ec⟩ := arg_pos (by decide) (by decide) c4 c5
        have hH : IH (up Z 104 3 b 104) := IH_one hS.2.2.2.2.2.2.1 (by omega) up_x (fun t ht e => by omega) (fun t ht e => by omega) (fun a c ha hc e => by omega) (fun e => ⟨w, ec, hw2⟩) (fun e => by omega)
        refine joint (Z' := up Z 104 3 b) (x := Z 104 3) (C := fun s p => IN_X11_locks AF s [.ref 0, .int (nI 0), .int b] p) (M := fun s p => IN_X12_locks AF s [.ref 102, .int (nI 0), .int b] p) (hand_I hI (by omega) hH) hM ?_ (fun t hM => ?_)
        · refine ⟨⟨_, _, rfl, rfl, Nat.le_of_ble_eq_true rfl, rc_0⟩, Nat.le_of_ble_eq_true rfl, g_X11_locks_0 ?_⟩
          refine ⟨fun _ => ⟨fun c => absurd nI_0 c, fun _ => ⟨fun _ => ⟨fun _ => ?_, fun c => absurd c5 c⟩, fun c => absurd c4 c⟩⟩, fun c => absurd nI_0 c⟩
          refine ⟨0, rfl, by decide, 0, rfl, by decide, ?_⟩
          exact DC_hand hC hI (j := 3) (by omega) (by omega) (CH_one hC.2.2.2.1 up_x up_w (fun t ht => by omega) (fun t ht => by omega) (fun t c ht hc => by omega) (by omega) (by omega)) hC.2.2.2.1.2.1
        · refine ⟨⟨_, _, rfl, rfl, Nat.le_of_ble_eq_true rfl, rc_102⟩, Nat.le_of_ble_eq_true rfl, g_X12_locks_0 ?_⟩
          refine ⟨fun c => absurd c (by decide +kernel), fun _ => ⟨fun c => absurd c (by decide +kernel), fun _ => ⟨fun c => absurd nI_0 c, fun _ => ⟨fun _ => ⟨fun _ => ?_, fun c => absurd c5 c⟩, fun c => absurd c4 c⟩⟩⟩⟩
          refine ⟨3, nI_add 3 0, by decide, 3, nI_add 3 0, by decide, ?_⟩
          exact DM_hand hM (hM.1 3 (by decide))
      · exact joint (Z' := rf Z 6) (x := -6) (C := fun s p => IN_X11_locks AF s [.ref 0, .int (nI 0), .int b] p) (M := fun s p => IN_X12_locks AF s [.ref 102, .int (nI 0), .int b] p) (hI.rf 6) hM ⟨⟨_, _, rfl, rfl, Nat.le_of_ble_eq_true rfl, rc_0⟩, Nat.le_of_ble_eq_true rfl, g_X11_locks_0 (by exact ⟨fun _ => ⟨fun c => absurd nI_0 c, fun _ => ⟨fun _ => ⟨fun c => absurd c c5, fun _ => DC_rf hC hI (by decide) (by decide)⟩, fun c => absurd c4 c⟩⟩, fun c => absurd nI_0 c⟩)⟩ (fun t hM => ⟨⟨_, _, rfl, rfl, Nat.le_of_ble_eq_true rfl, rc_102⟩, Nat.le_of_ble_eq_true rfl, g_X12_locks_0 (by exact ⟨fun c => absurd c (by decide +kernel), fun _ => ⟨fun c => absurd c (by decide +kernel), fun _ => ⟨fun c => absurd nI_0 c, fun _ => ⟨fun _ => ⟨fun c => absurd c c5, fun _ => DM_rf hM (by decide)⟩, fun c => absurd c4 c⟩⟩⟩⟩)⟩)
    · exact joint (Z' := rf Z 4) (x := -4) (C := fun s p => IN_X11_locks AF s [.ref 0, .int (nI 0), .int b] p) (M := fun s p => IN_X12_locks AF s [.ref 102, .int (nI 0), .int b] p) (hI.rf 4) hM ⟨⟨_, _, rfl, rfl, Nat.le_of_ble_eq_true rfl, rc_0⟩, Nat.le_of_ble_eq_true rfl, g_X11_locks_0 (by exact ⟨fun _ => ⟨fun c => absurd nI_0 c, fun _ => ⟨fun c => absurd c c4, fun _ => DC_rf hC hI (by decide) (by decide)⟩⟩, fun c => absurd nI_0 c⟩)⟩ (fun t hM => ⟨⟨_, _, rfl, rfl, Nat.le_of_ble_eq_true rfl, rc_102⟩, Nat.le_of_ble_eq_true rfl, g_X12_locks_0 (by exact ⟨fun c => absurd c (by decide +kernel), fun _ => ⟨fun c => absurd c (by decide +kernel), fun _ => ⟨fun c => absurd nI_0 c, fun _ => ⟨fun c => absurd c c4, fun _ => DM_rf hM (by decide)⟩⟩⟩⟩)⟩)
  · by_cases c3 : a = nI 1
    · subst c3
      by_cases c4 : nI 0 ≤ b
      · by_cases c5 : b ≤ nI 99
        · obtain ⟨w, hw1, hw2, ec⟩ := arg_pos (by decide) (by decide) c4 c5
          have hH : IH (up Z 104 4 b 104) := IH_one hS.2.2.2.2.2.2.1 (by omega) up_x (fun t ht e => by omega) (fun t ht e => by omega) (fun a c ha hc e => by omega) (fun e => by omega) (fun e => ⟨w, ec, hw2⟩)
          refine joint (Z' := up Z 104 4 b) (x := Z 104 4) (C := fun s p => IN_X11_locks AF s [.ref 0, .int (nI 1), .int b] p) (M := fun s p => IN_X12_locks AF s [.ref 102, .int (nI 1), .int b] p) (hand_I hI (by omega) hH) hM ?_ (fun t hM => ?_)
          · refine ⟨⟨_, _, rfl, rfl, Nat.le_of_ble_eq_true rfl, rc_0⟩, Nat.le_of_ble_eq_true rfl, g_X11_locks_0 ?_⟩
            refine ⟨fun c => absurd c (by decide +kernel), fun _ => ⟨fun _ => ⟨fun _ => ⟨fun _ => ⟨fun _ => ?_, fun c => absurd c5 c⟩, fun c => absurd c4 c⟩, fun c => absurd c (by decide +kernel)⟩, fun c => absurd rfl c⟩⟩
            refine ⟨1, rfl, by decide, 1, rfl, by decide, ?_⟩
            exact DC_hand hC hI (j := 4) (by omega) (by omega) (CH_one hC.2.2.2.1 up_x up_w (fun t ht => by omega) (fun t ht => by omega) (fun t c ht hc => by omega) (by omega) (by omega)) hC.2.2.2.1.2.2
          · refine ⟨⟨_, _, rfl, rfl, Nat.le_of_ble_eq_true rfl, rc_102⟩, Nat.le_of_ble_eq_true rfl, g_X12_locks_0 ?_⟩
            refine ⟨fun c => absurd c (by decide +kernel), fun _ => ⟨fun c => absurd c (by decide +kernel), fun _ => ⟨fun _ => ⟨fun _ => ⟨fun _ => ?_, fun c => absurd c5 c⟩, fun c => absurd c4 c⟩, fun c => absurd c (by decide +kernel)⟩⟩⟩
            refine ⟨4, nI_add 3 1, by decide, 4, nI_add 3 1, by decide, ?_⟩
            exact DM_hand hM (hM.1 4 (by decide))
        · exact joint (Z' := rf Z 6) (x := -6) (C := fun s p => IN_X11_locks AF s [.ref 0, .int (nI 1), .int b] p) (M := fun s p => IN_X12_locks AF s [.ref 102, .int (nI 1), .int b] p) (hI.rf 6) hM ⟨⟨_, _, rfl, rfl, Nat.le_of_ble_eq_true rfl, rc_0⟩, Nat.le_of_ble_eq_true rfl, g_X11_locks_0 (by exact ⟨fun c => absurd c (by decide +kernel), fun _ => ⟨fun _ => ⟨fun _ => ⟨fun _ => ⟨fun c => absurd c c5, fun _ => DC_rf hC hI (by decide) (by decide)⟩, fun c => absurd c4 c⟩, fun c => absurd c (by decide +kernel)⟩, fun c => absurd rfl c⟩⟩)⟩ (fun t hM => ⟨⟨_, _, rfl, rfl, Nat.le_of_ble_eq_true rfl, rc_102⟩, Nat.le_of_ble_eq_true rfl, g_X12_locks_0 (by exact ⟨fun c => absurd c (by decide +kernel), fun _ => ⟨fun c => absurd c (by decide +kernel), fun _ => ⟨fun _ => ⟨fun _ => ⟨fun c => absurd c c5, fun _ => DM_rf hM (by decide)⟩, fun c => absurd c4 c⟩, fun c => absurd c (by decide +kernel)⟩⟩⟩)⟩)
      · exact joint (Z' := rf Z 4) (x := -4) (C := fun s p => IN_X11_locks AF s [.ref 0, .int (nI 1), .int b] p) (M := fun s p => IN_X12_locks AF s [.ref 102, .int (nI 1), .int b] p) (hI.rf 4) hM ⟨⟨_, _, rfl, rfl, Nat.le_of_ble_eq_true rfl, rc_0⟩, Nat.le_of_ble_eq_true rfl, g_X11_locks_0 (by exact ⟨fun c => absurd c (by decide +kernel), fun _ => ⟨fun _ => ⟨fun _ => ⟨fun c => absurd c c4, fun _ => DC_rf hC hI (by decide) (by decide)⟩, fun c => absurd c (by decide +kernel)⟩, fun c => absurd rfl c⟩⟩)⟩ (fun t hM => ⟨⟨_, _, rfl, rfl, Nat.le_of_ble_eq_true rfl, rc_102⟩, Nat.le_of_ble_eq_true rfl, g_X12_locks_0 (by exact ⟨fun c => absurd c (by decide +kernel), fun _ => ⟨fun c => absurd c (by decide +kernel), fun _ => ⟨fun _ => ⟨fun c => absurd c c4, fun _ => DM_rf hM (by decide)⟩, fun c => absurd c (by decide +kernel)⟩⟩⟩)⟩)
    · by_cases c6 : a < 0
      · exact joint (Z' := rf Z 2) (x := -2) (C := fun s p => IN_X11_locks AF s [.ref 0, .int a, .int b] p) (M := fun s p => IN_X12_locks AF s [.ref 102, .int a, .int b] p) (hI.rf 2) hM ⟨⟨_, _, rfl, rfl, Nat.le_of_ble_eq_true rfl, rc_0⟩, Nat.le_of_ble_eq_true rfl, g_X11_locks_0 (by exact ⟨fun c => absurd c c2, fun _ => ⟨fun c => absurd c c3, fun _ => DC_rf hC hI (by decide) (by decide)⟩⟩)⟩ (fun t hM => ⟨⟨_, _, rfl, rfl, Nat.le_of_ble_eq_true rfl, rc_102⟩, Nat.le_of_ble_eq_true rfl, g_X12_locks_0 (by exact ⟨fun _ => DM_rf hM (by decide), fun c => absurd c6 c⟩)⟩)
      · by_cases c7 : nI 2 ≤ a
        · exact joint (Z' := rf Z 2) (x := -2) (C := fun s p => IN_X11_locks AF s [.ref 0, .int a, .int b] p) (M := fun s p => IN_X12_locks AF s [.ref 102, .int a, .int b] p) (hI.rf 2) hM ⟨⟨_, _, rfl, rfl, Nat.le_of_ble_eq_true rfl, rc_0⟩, Nat.le_of_ble_eq_true rfl, g_X11_locks_0 (by exact ⟨fun c => absurd c c2, fun _ => ⟨fun c => absurd c c3, fun _ => DC_rf hC hI (by decide) (by decide)⟩⟩)⟩ (fun t hM => ⟨⟨_, _, rfl, rfl, Nat.le_of_ble_eq_true rfl, rc_102⟩, Nat.le_of_ble_eq_true rfl, g_X12_locks_0 (by exact ⟨fun c => absurd c c6, fun _ => ⟨fun _ => DM_rf hM (by decide), fun c => absurd c7 c⟩⟩)⟩)
        · exfalso
          obtain ⟨n, hn, eb⟩ := arg_in (by decide) c6 c7
          match n, hn with
          | 0, _ => exact c2 (eb.trans nI_0)
          | 1, _ => exact c3 eb
