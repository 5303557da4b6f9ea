/-! the law, by segments -/
set_option maxRecDepth 100000 in
theorem g_L_law_0 {Ln : Nat} {xs : Nat → Int32} {η : DL} {σ : SG} (h : (∀ d1 : DL, d1 = dOff η 0 1 → ∀ s2 : SG, s2 = zr σ 0 1 → (∃ p3 : DL → SG → Prop, INN_X11_init (1, 13, d1) s2 [.ref 0] 101 22782 p3 ∧ ∀ (d5 : DL) (t6 : SG), p3 d5 t6 → (∀ d8 : DL, d8 = dOff d5 102 1 → ∀ s9 : SG, s9 = zr t6 102 1 → (∃ p10 : DL → SG → Prop, INN_X12_init (103, 22822, d8) s9 [.ref 102] 17 1241 p10 ∧ ∀ (d12 : DL) (t13 : SG), p10 d12 t13 → T_L_law Ln xs 18 [.ref scr, .ref 0, .ref 102, .int (nI 0)] [] (120, 24063, d12) t13))))) : T_L_law Ln xs 0 [.ref scr, dum, dum, dum] [] (0, 0, η) σ := by
  refine tt_newE (q := 3) (n2 := 1) (u2 := 13) dL_law_0 nw_L_7_0 (Nat.le_of_ble_eq_true rfl) (Nat.le_of_ble_eq_true rfl) rfl rfl rfl ?_
  replace h := h _ rfl _ rfl
  refine tt_dup (q := 4) dL_law_3 rfl rfl ?_
  obtain ⟨p3, hp4, h⟩ := h
  refine callN_0 (q := 7) dL_law_4 (Or.inl ⟨rfl, hp4⟩) (Nat.le_of_ble_eq_true rfl) (Nat.le_of_ble_eq_true rfl) (Nat.le_of_ble_eq_true rfl) rfl (fun d5 t6 hr7 => ?_)
  refine (show TT _ _ _ _ _ _ _ _ _ _ _ _ (102, 22795, d5) _ from ?_)
  replace h := h d5 t6 hr7
  refine sta_n_1 (q := 8) dL_law_7 rfl rfl rfl ?_
  refine tt_newE (q := 11) (n2 := 103) (u2 := 22822) dL_law_8 nw_L_10_102 (Nat.le_of_ble_eq_true rfl) (Nat.le_of_ble_eq_true rfl) rfl rfl rfl ?_
  replace h := h _ rfl _ rfl
  refine tt_dup (q := 12) dL_law_11 rfl rfl ?_
  obtain ⟨p10, hp11, h⟩ := h
  refine callN_0 (q := 15) dL_law_12 (Or.inr (⟨rfl, hp11⟩)) (Nat.le_of_ble_eq_true rfl) (Nat.le_of_ble_eq_true rfl) (Nat.le_of_ble_eq_true rfl) rfl (fun d12 t13 hr14 => ?_)
  refine (show TT _ _ _ _ _ _ _ _ _ _ _ _ (120, 24063, d12) _ from ?_)
  replace h := h d12 t13 hr14
  refine sta_n_2 (q := 16) dL_law_15 rfl rfl rfl ?_
  refine tt_iconst (q := 17) dL_law_16 ki_0 rfl ?_
  refine sti_n_3 (q := 18) dL_law_17 rfl rfl rfl ?_
  exact h
set_option maxRecDepth 100000 in
theorem g_L_law_18 {Ln i : Nat} {xs : Nat → Int32} {σ : SG} (hLn : Ln < 2 ^ 31) (h : ((((nI Ln) - (nI 4)) < (nI i) → (nI 1 = 1)) ∧ (¬ ((nI Ln) - (nI 4)) < (nI i) → (i < Ln ∧ ((((xs i) &&& (nI 63)) = nI 0 → (i + 1 < Ln ∧ (i + 2 < Ln ∧ (i + 3 < Ln ∧ (∃ p8 : SG → Int32 → Prop, IN_X11_feed AF σ [.ref 0, .int (xs (i + 1)), .long ((((xs (i + 2)).toInt64) <<< ((nI 32).toInt64 &&& 63)) ||| (((xs (i + 3)).toInt64) &&& (4294967295 : Int64)))] p8 ∧ ∀ (t7 : SG) (r6 : Int32), p8 t7 r6 → (i + 1 < Ln ∧ (i + 2 < Ln ∧ (i + 3 < Ln ∧ (∃ p16 : SG → Int32 → Prop, IN_X12_feed AF t7 [.ref 102, .int (xs (i + 1)), .long ((((xs (i + 2)).toInt64) <<< ((nI 32).toInt64 &&& 63)) ||| (((xs (i + 3)).toInt64) &&& (4294967295 : Int64)))] p16 ∧ ∀ (t15 : SG) (r14 : Int32), p16 t15 r14 → ((r6 = r14 → T_L_law Ln xs 18 [.ref scr, .ref 0, .ref 102, .int (nI (i + 4))] [] AF t15) ∧ (¬ r6 = r14 → (nI 0 = 1)))))))))))) ∧ (((xs i) &&& (nI 63)) = nI 1 → (∃ p22 : SG → Int32 → Prop, IN_X11_turn AF σ [.ref 0] p22 ∧ ∀ (t21 : SG) (r20 : Int32), p22 t21 r20 → (∃ p27 : SG → Int32 → Prop, IN_X12_turn AF t21 [.ref 102] p27 ∧ ∀ (t26 : SG) (r25 : Int32), p27 t26 r25 → ((r20 = r25 → T_L_law Ln xs 18 [.ref scr, .ref 0, .ref 102, .int (nI (i + 4))] [] AF t26) ∧ (¬ r20 = r25 → (nI 0 = 1)))))) ∧ (((xs i) &&& (nI 63)) = nI 2 → (∃ p33 : SG → Int32 → Prop, IN_X11_row AF σ [.ref 0] p33 ∧ ∀ (t32 : SG) (r31 : Int32), p33 t32 r31 → (∃ p38 : SG → Int32 → Prop, IN_X12_row AF t32 [.ref 102] p38 ∧ ∀ (t37 : SG) (r36 : Int32), p38 t37 r36 → ((r31 = r36 → T_L_law Ln xs 18 [.ref scr, .ref 0, .ref 102, .int (nI (i + 4))] [] AF t37) ∧ (¬ r31 = r36 → (nI 0 = 1)))))) ∧ (((xs i) &&& (nI 63)) = nI 3 → (i + 1 < Ln ∧ (i + 2 < Ln ∧ (∃ p46 : SG → Int32 → Prop, IN_X11_goes AF σ [.ref 0, .int (xs (i + 1)), .int (xs (i + 2))] p46 ∧ ∀ (t45 : SG) (r44 : Int32), p46 t45 r44 → (i + 1 < Ln ∧ (i + 2 < Ln ∧ (∃ p53 : SG → Int32 → Prop, IN_X12_goes AF t45 [.ref 102, .int (xs (i + 1)), .int (xs (i + 2))] p53 ∧ ∀ (t52 : SG) (r51 : Int32), p53 t52 r51 → ((r44 = r51 → T_L_law Ln xs 18 [.ref scr, .ref 0, .ref 102, .int (nI (i + 4))] [] AF t52) ∧ (¬ r44 = r51 → (nI 0 = 1)))))))))) ∧ (((xs i) &&& (nI 63)) = nI 4 → (i + 1 < Ln ∧ (i + 2 < Ln ∧ (∃ p61 : SG → Int32 → Prop, IN_X11_rowOf AF σ [.ref 0, .int (xs (i + 1)), .int (xs (i + 2))] p61 ∧ ∀ (t60 : SG) (r59 : Int32), p61 t60 r59 → (i + 1 < Ln ∧ (i + 2 < Ln ∧ (∃ p68 : SG → Int32 → Prop, IN_X12_rowOf AF t60 [.ref 102, .int (xs (i + 1)), .int (xs (i + 2))] p68 ∧ ∀ (t67 : SG) (r66 : Int32), p68 t67 r66 → ((r59 = r66 → T_L_law Ln xs 18 [.ref scr, .ref 0, .ref 102, .int (nI (i + 4))] [] AF t67) ∧ (¬ r59 = r66 → (nI 0 = 1)))))))))) ∧ (((xs i) &&& (nI 63)) = nI 5 → (i + 1 < Ln ∧ (i + 2 < Ln ∧ (∃ p76 : SG → Int32 → Prop, IN_X11_does AF σ [.ref 0, .int (xs (i + 1)), .int (xs (i + 2))] p76 ∧ ∀ (t75 : SG) (r74 : Int32), p76 t75 r74 → (i + 1 < Ln ∧ (i + 2 < Ln ∧ (∃ p83 : SG → Int32 → Prop, IN_X12_does AF t75 [.ref 102, .int (xs (i + 1)), .int (xs (i + 2))] p83 ∧ ∀ (t82 : SG) (r81 : Int32), p83 t82 r81 → ((r74 = r81 → T_L_law Ln xs 18 [.ref scr, .ref 0, .ref 102, .int (nI (i + 4))] [] AF t82) ∧ (¬ r74 = r81 → (nI 0 = 1)))))))))) ∧ (((xs i) &&& (nI 63)) = nI 6 → (i + 1 < Ln ∧ (∃ p90 : SG → Int32 → Prop, IN_X11_order AF σ [.ref 0, .int (xs (i + 1))] p90 ∧ ∀ (t89 : SG) (r88 : Int32), p90 t89 r88 → (i + 1 < Ln ∧ (∃ p96 : SG → Int32 → Prop, IN_X12_order AF t89 [.ref 102, .int (xs (i + 1))] p96 ∧ ∀ (t95 : SG) (r94 : Int32), p96 t95 r94 → ((r88 = r94 → T_L_law Ln xs 18 [.ref scr, .ref 0, .ref 102, .int (nI (i + 4))] [] AF t95) ∧ (¬ r88 = r94 → (nI 0 = 1)))))))) ∧ (((xs i) &&& (nI 63)) = nI 7 → (i + 1 < Ln ∧ (∃ p103 : SG → Int32 → Prop, IN_X11_keeps AF σ [.ref 0, .int (xs (i + 1))] p103 ∧ ∀ (t102 : SG) (r101 : Int32), p103 t102 r101 → (i + 1 < Ln ∧ (∃ p109 : SG → Int32 → Prop, IN_X12_keeps AF t102 [.ref 102, .int (xs (i + 1))] p109 ∧ ∀ (t108 : SG) (r107 : Int32), p109 t108 r107 → ((r101 = r107 → T_L_law Ln xs 18 [.ref scr, .ref 0, .ref 102, .int (nI (i + 4))] [] AF t108) ∧ (¬ r101 = r107 → (nI 0 = 1)))))))) ∧ (((xs i) &&& (nI 63)) = nI 8 → (i + 1 < Ln ∧ (∃ p116 : SG → Int32 → Prop, IN_X11_now AF σ [.ref 0, .int (xs (i + 1))] p116 ∧ ∀ (t115 : SG) (r114 : Int32), p116 t115 r114 → (i + 1 < Ln ∧ (∃ p122 : SG → Int32 → Prop, IN_X12_now AF t115 [.ref 102, .int (xs (i + 1))] p122 ∧ ∀ (t121 : SG) (r120 : Int32), p122 t121 r120 → ((r114 = r120 → T_L_law Ln xs 18 [.ref scr, .ref 0, .ref 102, .int (nI (i + 4))] [] AF t121) ∧ (¬ r114 = r120 → (nI 0 = 1)))))))) ∧ (((xs i) &&& (nI 63)) = nI 9 → (i + 1 < Ln ∧ (∃ p129 : SG → Int32 → Prop, IN_X11_make AF σ [.ref 0, .int (xs (i + 1))] p129 ∧ ∀ (t128 : SG) (r127 : Int32), p129 t128 r127 → (i + 1 < Ln ∧ (∃ p135 : SG → Int32 → Prop, IN_X12_make AF t128 [.ref 102, .int (xs (i + 1))] p135 ∧ ∀ (t134 : SG) (r133 : Int32), p135 t134 r133 → ((r127 = r133 → T_L_law Ln xs 18 [.ref scr, .ref 0, .ref 102, .int (nI (i + 4))] [] AF t134) ∧ (¬ r127 = r133 → (nI 0 = 1)))))))) ∧ (((xs i) &&& (nI 63)) = nI 10 → (i + 1 < Ln ∧ (∃ p142 : SG → Int32 → Prop, IN_X11_makeRow AF σ [.ref 0, .int (xs (i + 1))] p142 ∧ ∀ (t141 : SG) (r140 : Int32), p142 t141 r140 → (i + 1 < Ln ∧ (∃ p148 : SG → Int32 → Prop, IN_X12_makeRow AF t141 [.ref 102, .int (xs (i + 1))] p148 ∧ ∀ (t147 : SG) (r146 : Int32), p148 t147 r146 → ((r140 = r146 → T_L_law Ln xs 18 [.ref scr, .ref 0, .ref 102, .int (nI (i + 4))] [] AF t147) ∧ (¬ r140 = r146 → (nI 0 = 1)))))))) ∧ (((xs i) &&& (nI 63)) = nI 11 → (i + 1 < Ln ∧ (∃ p155 : SG → Int32 → Prop, IN_X11_put AF σ [.ref 0, .int (xs (i + 1))] p155 ∧ ∀ (t154 : SG) (r153 : Int32), p155 t154 r153 → (i + 1 < Ln ∧ (∃ p161 : SG → Int32 → Prop, IN_X12_put AF t154 [.ref 102, .int (xs (i + 1))] p161 ∧ ∀ (t160 : SG) (r159 : Int32), p161 t160 r159 → ((r153 = r159 → T_L_law Ln xs 18 [.ref scr, .ref 0, .ref 102, .int (nI (i + 4))] [] AF t160) ∧ (¬ r153 = r159 → (nI 0 = 1)))))))) ∧ (((xs i) &&& (nI 63)) = nI 12 → (i + 1 < Ln ∧ (i + 2 < Ln ∧ (i + 3 < Ln ∧ (∃ p170 : SG → Int32 → Prop, IN_X11_time AF σ [.ref 0, .int (xs (i + 1)), .int (xs (i + 2)), .int (xs (i + 3))] p170 ∧ ∀ (t169 : SG) (r168 : Int32), p170 t169 r168 → (i + 1 < Ln ∧ (i + 2 < Ln ∧ (i + 3 < Ln ∧ (∃ p178 : SG → Int32 → Prop, IN_X12_time AF t169 [.ref 102, .int (xs (i + 1)), .int (xs (i + 2)), .int (xs (i + 3))] p178 ∧ ∀ (t177 : SG) (r176 : Int32), p178 t177 r176 → ((r168 = r176 → T_L_law Ln xs 18 [.ref scr, .ref 0, .ref 102, .int (nI (i + 4))] [] AF t177) ∧ (¬ r168 = r176 → (nI 0 = 1)))))))))))) ∧ (((xs i) &&& (nI 63)) = nI 13 → (i + 1 < Ln ∧ (i + 2 < Ln ∧ (i + 3 < Ln ∧ (∃ p187 : SG → Int32 → Prop, IN_X11_after AF σ [.ref 0, .int (xs (i + 1)), .int (xs (i + 2)), .int (xs (i + 3))] p187 ∧ ∀ (t186 : SG) (r185 : Int32), p187 t186 r185 → (i + 1 < Ln ∧ (i + 2 < Ln ∧ (i + 3 < Ln ∧ (∃ p195 : SG → Int32 → Prop, IN_X12_after AF t186 [.ref 102, .int (xs (i + 1)), .int (xs (i + 2)), .int (xs (i + 3))] p195 ∧ ∀ (t194 : SG) (r193 : Int32), p195 t194 r193 → ((r185 = r193 → T_L_law Ln xs 18 [.ref scr, .ref 0, .ref 102, .int (nI (i + 4))] [] AF t194) ∧ (¬ r185 = r193 → (nI 0 = 1)))))))))))) ∧ (((xs i) &&& (nI 63)) = nI 14 → (i + 1 < Ln ∧ (i + 2 < Ln ∧ (∃ p203 : SG → Int32 → Prop, IN_X11_locks AF σ [.ref 0, .int (xs (i + 1)), .int (xs (i + 2))] p203 ∧ ∀ (t202 : SG) (r201 : Int32), p203 t202 r201 → (i + 1 < Ln ∧ (i + 2 < Ln ∧ (∃ p210 : SG → Int32 → Prop, IN_X12_locks AF t202 [.ref 102, .int (xs (i + 1)), .int (xs (i + 2))] p210 ∧ ∀ (t209 : SG) (r208 : Int32), p210 t209 r208 → ((r201 = r208 → T_L_law Ln xs 18 [.ref scr, .ref 0, .ref 102, .int (nI (i + 4))] [] AF t209) ∧ (¬ r201 = r208 → (nI 0 = 1)))))))))) ∧ (((xs i) &&& (nI 63)) = nI 15 → (i + 1 < Ln ∧ (i + 2 < Ln ∧ (∃ p218 : SG → Int32 → Prop, IN_X11_kind AF σ [.ref 0, .int (xs (i + 1)), .int (xs (i + 2))] p218 ∧ ∀ (t217 : SG) (r216 : Int32), p218 t217 r216 → (i + 1 < Ln ∧ (i + 2 < Ln ∧ (∃ p225 : SG → Int32 → Prop, IN_X12_kind AF t217 [.ref 102, .int (xs (i + 1)), .int (xs (i + 2))] p225 ∧ ∀ (t224 : SG) (r223 : Int32), p225 t224 r223 → ((r216 = r223 → T_L_law Ln xs 18 [.ref scr, .ref 0, .ref 102, .int (nI (i + 4))] [] AF t224) ∧ (¬ r216 = r223 → (nI 0 = 1)))))))))) ∧ (((xs i) &&& (nI 63)) = nI 16 → (i + 1 < Ln ∧ (∃ p232 : SG → Int32 → Prop, IN_X11_seconds AF σ [.ref 0, .int (xs (i + 1))] p232 ∧ ∀ (t231 : SG) (r230 : Int32), p232 t231 r230 → (i + 1 < Ln ∧ (∃ p238 : SG → Int32 → Prop, IN_X12_seconds AF t231 [.ref 102, .int (xs (i + 1))] p238 ∧ ∀ (t237 : SG) (r236 : Int32), p238 t237 r236 → ((r230 = r236 → T_L_law Ln xs 18 [.ref scr, .ref 0, .ref 102, .int (nI (i + 4))] [] AF t237) ∧ (¬ r230 = r236 → (nI 0 = 1)))))))) ∧ (((xs i) &&& (nI 63)) = nI 17 → (i + 1 < Ln ∧ (∃ p245 : SG → Int32 → Prop, IN_X11_mean AF σ [.ref 0, .int (xs (i + 1))] p245 ∧ ∀ (t244 : SG) (r243 : Int32), p245 t244 r243 → (i + 1 < Ln ∧ (∃ p251 : SG → Int32 → Prop, IN_X12_mean AF t244 [.ref 102, .int (xs (i + 1))] p251 ∧ ∀ (t250 : SG) (r249 : Int32), p251 t250 r249 → ((r243 = r249 → T_L_law Ln xs 18 [.ref scr, .ref 0, .ref 102, .int (nI (i + 4))] [] AF t250) ∧ (¬ r243 = r249 → (nI 0 = 1)))))))) ∧ (((xs i) &&& (nI 63)) = nI 18 → (i + 1 < Ln ∧ (i + 2 < Ln ∧ (∃ p259 : SG → Int32 → Prop, IN_X11_drawn AF σ [.ref 0, .int (xs (i + 1)), .int (xs (i + 2))] p259 ∧ ∀ (t258 : SG) (r257 : Int32), p259 t258 r257 → (i + 1 < Ln ∧ (i + 2 < Ln ∧ (∃ p266 : SG → Int32 → Prop, IN_X12_drawn AF t258 [.ref 102, .int (xs (i + 1)), .int (xs (i + 2))] p266 ∧ ∀ (t265 : SG) (r264 : Int32), p266 t265 r264 → ((r257 = r264 → T_L_law Ln xs 18 [.ref scr, .ref 0, .ref 102, .int (nI (i + 4))] [] AF t265) ∧ (¬ r257 = r264 → (nI 0 = 1)))))))))) ∧ (((xs i) &&& (nI 63)) = nI 19 → (i + 1 < Ln ∧ (i + 2 < Ln ∧ (∃ p274 : SG → Int32 → Prop, IN_X11_better AF σ [.ref 0, .int (xs (i + 1)), .int (xs (i + 2))] p274 ∧ ∀ (t273 : SG) (r272 : Int32), p274 t273 r272 → (i + 1 < Ln ∧ (i + 2 < Ln ∧ (∃ p281 : SG → Int32 → Prop, IN_X12_better AF t273 [.ref 102, .int (xs (i + 1)), .int (xs (i + 2))] p281 ∧ ∀ (t280 : SG) (r279 : Int32), p281 t280 r279 → ((r272 = r279 → T_L_law Ln xs 18 [.ref scr, .ref 0, .ref 102, .int (nI (i + 4))] [] AF t280) ∧ (¬ r272 = r279 → (nI 0 = 1)))))))))) ∧ (((xs i) &&& (nI 63)) = nI 20 → (i + 1 < Ln ∧ (∃ p288 : SG → Int32 → Prop, IN_X11_found AF σ [.ref 0, .int (xs (i + 1))] p288 ∧ ∀ (t287 : SG) (r286 : Int32), p288 t287 r286 → (i + 1 < Ln ∧ (∃ p294 : SG → Int32 → Prop, IN_X12_found AF t287 [.ref 102, .int (xs (i + 1))] p294 ∧ ∀ (t293 : SG) (r292 : Int32), p294 t293 r292 → ((r286 = r292 → T_L_law Ln xs 18 [.ref scr, .ref 0, .ref 102, .int (nI (i + 4))] [] AF t293) ∧ (¬ r286 = r292 → (nI 0 = 1)))))))) ∧ (((xs i) &&& (nI 63)) = nI 21 → (∃ p300 : SG → Int32 → Prop, IN_X11_fewest AF σ [.ref 0] p300 ∧ ∀ (t299 : SG) (r298 : Int32), p300 t299 r298 → (∃ p305 : SG → Int32 → Prop, IN_X12_fewest AF t299 [.ref 102] p305 ∧ ∀ (t304 : SG) (r303 : Int32), p305 t304 r303 → ((r298 = r303 → T_L_law Ln xs 18 [.ref scr, .ref 0, .ref 102, .int (nI (i + 4))] [] AF t304) ∧ (¬ r298 = r303 → (nI 0 = 1)))))) ∧ (((xs i) &&& (nI 63)) = nI 22 → (∃ p311 : SG → Int32 → Prop, IN_X11_first AF σ [.ref 0] p311 ∧ ∀ (t310 : SG) (r309 : Int32), p311 t310 r309 → (∃ p316 : SG → Int32 → Prop, IN_X12_first AF t310 [.ref 102] p316 ∧ ∀ (t315 : SG) (r314 : Int32), p316 t315 r314 → ((r309 = r314 → T_L_law Ln xs 18 [.ref scr, .ref 0, .ref 102, .int (nI (i + 4))] [] AF t315) ∧ (¬ r309 = r314 → (nI 0 = 1)))))) ∧ (((xs i) &&& (nI 63)) = nI 23 → (i + 1 < Ln ∧ (i + 2 < Ln ∧ (∃ p324 : SG → Int32 → Prop, IN_X11_step AF σ [.ref 0, .int (xs (i + 1)), .int (xs (i + 2))] p324 ∧ ∀ (t323 : SG) (r322 : Int32), p324 t323 r322 → (i + 1 < Ln ∧ (i + 2 < Ln ∧ (∃ p331 : SG → Int32 → Prop, IN_X12_step AF t323 [.ref 102, .int (xs (i + 1)), .int (xs (i + 2))] p331 ∧ ∀ (t330 : SG) (r329 : Int32), p331 t330 r329 → ((r322 = r329 → T_L_law Ln xs 18 [.ref scr, .ref 0, .ref 102, .int (nI (i + 4))] [] AF t330) ∧ (¬ r322 = r329 → (nI 0 = 1)))))))))) ∧ (((xs i) &&& (nI 63)) = nI 24 → (∃ p337 : SG → Int32 → Prop, IN_X11_tried AF σ [.ref 0] p337 ∧ ∀ (t336 : SG) (r335 : Int32), p337 t336 r335 → (∃ p342 : SG → Int32 → Prop, IN_X12_tried AF t336 [.ref 102] p342 ∧ ∀ (t341 : SG) (r340 : Int32), p342 t341 r340 → ((r335 = r340 → T_L_law Ln xs 18 [.ref scr, .ref 0, .ref 102, .int (nI (i + 4))] [] AF t341) ∧ (¬ r335 = r340 → (nI 0 = 1)))))) ∧ (((xs i) &&& (nI 63)) = nI 25 → (i + 1 < Ln ∧ (∃ p349 : SG → Int32 → Prop, IN_X11_triedRow AF σ [.ref 0, .int (xs (i + 1))] p349 ∧ ∀ (t348 : SG) (r347 : Int32), p349 t348 r347 → (i + 1 < Ln ∧ (∃ p355 : SG → Int32 → Prop, IN_X12_triedRow AF t348 [.ref 102, .int (xs (i + 1))] p355 ∧ ∀ (t354 : SG) (r353 : Int32), p355 t354 r353 → ((r347 = r353 → T_L_law Ln xs 18 [.ref scr, .ref 0, .ref 102, .int (nI (i + 4))] [] AF t354) ∧ (¬ r347 = r353 → (nI 0 = 1)))))))) ∧ (((xs i) &&& (nI 63)) = nI 26 → (∃ p361 : SG → Int32 → Prop, IN_X11_solves AF σ [.ref 0] p361 ∧ ∀ (t360 : SG) (r359 : Int32), p361 t360 r359 → (∃ p366 : SG → Int32 → Prop, IN_X12_solves AF t360 [.ref 102] p366 ∧ ∀ (t365 : SG) (r364 : Int32), p366 t365 r364 → ((r359 = r364 → T_L_law Ln xs 18 [.ref scr, .ref 0, .ref 102, .int (nI (i + 4))] [] AF t365) ∧ (¬ r359 = r364 → (nI 0 = 1)))))) ∧ (((xs i) &&& (nI 63)) = nI 27 → (∃ p372 : SG → Int32 → Prop, IN_X11_lacks AF σ [.ref 0] p372 ∧ ∀ (t371 : SG) (r370 : Int32), p372 t371 r370 → (∃ p377 : SG → Int32 → Prop, IN_X12_lacks AF t371 [.ref 102] p377 ∧ ∀ (t376 : SG) (r375 : Int32), p377 t376 r375 → ((r370 = r375 → T_L_law Ln xs 18 [.ref scr, .ref 0, .ref 102, .int (nI (i + 4))] [] AF t376) ∧ (¬ r370 = r375 → (nI 0 = 1)))))) ∧ (((xs i) &&& (nI 63)) = nI 28 → (i + 1 < Ln ∧ (i + 2 < Ln ∧ (∃ p385 : SG → Int32 → Prop, IN_X11_luck AF σ [.ref 0, .int (xs (i + 1)), .int (xs (i + 2))] p385 ∧ ∀ (t384 : SG) (r383 : Int32), p385 t384 r383 → (i + 1 < Ln ∧ (i + 2 < Ln ∧ (∃ p392 : SG → Int32 → Prop, IN_X12_luck AF t384 [.ref 102, .int (xs (i + 1)), .int (xs (i + 2))] p392 ∧ ∀ (t391 : SG) (r390 : Int32), p392 t391 r390 → ((r383 = r390 → T_L_law Ln xs 18 [.ref scr, .ref 0, .ref 102, .int (nI (i + 4))] [] AF t391) ∧ (¬ r383 = r390 → (nI 0 = 1)))))))))) ∧ (((xs i) &&& (nI 63)) = nI 29 → (i + 1 < Ln ∧ (i + 2 < Ln ∧ (∃ p400 : SG → Int32 → Prop, IN_X11_see AF σ [.ref 0, .int (xs (i + 1)), .int (xs (i + 2))] p400 ∧ ∀ (t399 : SG) (r398 : Int32), p400 t399 r398 → (i + 1 < Ln ∧ (i + 2 < Ln ∧ (∃ p407 : SG → Int32 → Prop, IN_X12_see AF t399 [.ref 102, .int (xs (i + 1)), .int (xs (i + 2))] p407 ∧ ∀ (t406 : SG) (r405 : Int32), p407 t406 r405 → ((r398 = r405 → T_L_law Ln xs 18 [.ref scr, .ref 0, .ref 102, .int (nI (i + 4))] [] AF t406) ∧ (¬ r398 = r405 → (nI 0 = 1)))))))))) ∧ (((xs i) &&& (nI 63)) = nI 30 → (i + 1 < Ln ∧ (∃ p414 : SG → Int32 → Prop, IN_X11_sum AF σ [.ref 0, .int (xs (i + 1))] p414 ∧ ∀ (t413 : SG) (r412 : Int32), p414 t413 r412 → (i + 1 < Ln ∧ (∃ p420 : SG → Int32 → Prop, IN_X12_sum AF t413 [.ref 102, .int (xs (i + 1))] p420 ∧ ∀ (t419 : SG) (r418 : Int32), p420 t419 r418 → ((r412 = r418 → T_L_law Ln xs 18 [.ref scr, .ref 0, .ref 102, .int (nI (i + 4))] [] AF t419) ∧ (¬ r412 = r418 → (nI 0 = 1)))))))) ∧ (((xs i) &&& (nI 63)) = nI 31 → (∃ p426 : SG → Int32 → Prop, IN_X11_bestPace AF σ [.ref 0] p426 ∧ ∀ (t425 : SG) (r424 : Int32), p426 t425 r424 → (∃ p431 : SG → Int32 → Prop, IN_X12_bestPace AF t425 [.ref 102] p431 ∧ ∀ (t430 : SG) (r429 : Int32), p431 t430 r429 → ((r424 = r429 → T_L_law Ln xs 18 [.ref scr, .ref 0, .ref 102, .int (nI (i + 4))] [] AF t430) ∧ (¬ r424 = r429 → (nI 0 = 1)))))) ∧ (((xs i) &&& (nI 63)) = nI 32 → (i + 1 < Ln ∧ (∃ p438 : SG → Int32 → Prop, IN_X11_learn AF σ [.ref 0, .int (xs (i + 1))] p438 ∧ ∀ (t437 : SG) (r436 : Int32), p438 t437 r436 → (i + 1 < Ln ∧ (∃ p444 : SG → Int32 → Prop, IN_X12_learn AF t437 [.ref 102, .int (xs (i + 1))] p444 ∧ ∀ (t443 : SG) (r442 : Int32), p444 t443 r442 → ((r436 = r442 → T_L_law Ln xs 18 [.ref scr, .ref 0, .ref 102, .int (nI (i + 4))] [] AF t443) ∧ (¬ r436 = r442 → (nI 0 = 1)))))))) ∧ (((xs i) &&& (nI 63)) = nI 33 → (i + 1 < Ln ∧ (∃ p451 : SG → Int32 → Prop, IN_X11_five AF σ [.ref 0, .int (xs (i + 1))] p451 ∧ ∀ (t450 : SG) (r449 : Int32), p451 t450 r449 → (i + 1 < Ln ∧ (∃ p457 : SG → Int32 → Prop, IN_X12_five AF t450 [.ref 102, .int (xs (i + 1))] p457 ∧ ∀ (t456 : SG) (r455 : Int32), p457 t456 r455 → ((r449 = r455 → T_L_law Ln xs 18 [.ref scr, .ref 0, .ref 102, .int (nI (i + 4))] [] AF t456) ∧ (¬ r449 = r455 → (nI 0 = 1)))))))) ∧ (((xs i) &&& (nI 63)) = nI 34 → (i + 1 < Ln ∧ (∃ p464 : SG → Int32 → Prop, IN_X11_middle AF σ [.ref 0, .int (xs (i + 1))] p464 ∧ ∀ (t463 : SG) (r462 : Int32), p464 t463 r462 → (i + 1 < Ln ∧ (∃ p470 : SG → Int32 → Prop, IN_X12_middle AF t463 [.ref 102, .int (xs (i + 1))] p470 ∧ ∀ (t469 : SG) (r468 : Int32), p470 t469 r468 → ((r462 = r468 → T_L_law Ln xs 18 [.ref scr, .ref 0, .ref 102, .int (nI (i + 4))] [] AF t469) ∧ (¬ r462 = r468 → (nI 0 = 1)))))))) ∧ (((xs i) &&& (nI 63)) = nI 35 → (i + 1 < Ln ∧ (∃ p477 : SG → Int32 → Prop, IN_X11_need AF σ [.ref 0, .int (xs (i + 1))] p477 ∧ ∀ (t476 : SG) (r475 : Int32), p477 t476 r475 → (i + 1 < Ln ∧ (∃ p483 : SG → Int32 → Prop, IN_X12_need AF t476 [.ref 102, .int (xs (i + 1))] p483 ∧ ∀ (t482 : SG) (r481 : Int32), p483 t482 r481 → ((r475 = r481 → T_L_law Ln xs 18 [.ref scr, .ref 0, .ref 102, .int (nI (i + 4))] [] AF t482) ∧ (¬ r475 = r481 → (nI 0 = 1)))))))) ∧ (((xs i) &&& (nI 63)) = nI 36 → (i + 1 < Ln ∧ (∃ p490 : SG → Int32 → Prop, IN_X11_film AF σ [.ref 0, .int (xs (i + 1))] p490 ∧ ∀ (t489 : SG) (r488 : Int32), p490 t489 r488 → (i + 1 < Ln ∧ (∃ p496 : SG → Int32 → Prop, IN_X12_film AF t489 [.ref 102, .int (xs (i + 1))] p496 ∧ ∀ (t495 : SG) (r494 : Int32), p496 t495 r494 → ((r488 = r494 → T_L_law Ln xs 18 [.ref scr, .ref 0, .ref 102, .int (nI (i + 4))] [] AF t495) ∧ (¬ r488 = r494 → (nI 0 = 1)))))))) ∧ (((xs i) &&& (nI 63)) = nI 37 → (i + 1 < Ln ∧ (i + 2 < Ln ∧ (∃ p504 : SG → Int32 → Prop, IN_X11_held AF σ [.ref 0, .int (xs (i + 1)), .int (xs (i + 2))] p504 ∧ ∀ (t503 : SG) (r502 : Int32), p504 t503 r502 → (i + 1 < Ln ∧ (i + 2 < Ln ∧ (∃ p511 : SG → Int32 → Prop, IN_X12_held AF t503 [.ref 102, .int (xs (i + 1)), .int (xs (i + 2))] p511 ∧ ∀ (t510 : SG) (r509 : Int32), p511 t510 r509 → ((r502 = r509 → T_L_law Ln xs 18 [.ref scr, .ref 0, .ref 102, .int (nI (i + 4))] [] AF t510) ∧ (¬ r502 = r509 → (nI 0 = 1)))))))))) ∧ (((xs i) &&& (nI 63)) = nI 38 → (i + 1 < Ln ∧ (∃ p518 : SG → Int32 → Prop, IN_X11_heldUp AF σ [.ref 0, .int (xs (i + 1))] p518 ∧ ∀ (t517 : SG) (r516 : Int32), p518 t517 r516 → (i + 1 < Ln ∧ (∃ p524 : SG → Int32 → Prop, IN_X12_heldUp AF t517 [.ref 102, .int (xs (i + 1))] p524 ∧ ∀ (t523 : SG) (r522 : Int32), p524 t523 r522 → ((r516 = r522 → T_L_law Ln xs 18 [.ref scr, .ref 0, .ref 102, .int (nI (i + 4))] [] AF t523) ∧ (¬ r516 = r522 → (nI 0 = 1)))))))) ∧ (((xs i) &&& (nI 63)) = nI 39 → (∃ p530 : SG → Int32 → Prop, IN_X11_image AF σ [.ref 0] p530 ∧ ∀ (t529 : SG) (r528 : Int32), p530 t529 r528 → (∃ p535 : SG → Int32 → Prop, IN_X12_image AF t529 [.ref 102] p535 ∧ ∀ (t534 : SG) (r533 : Int32), p535 t534 r533 → ((r528 = r533 → T_L_law Ln xs 18 [.ref scr, .ref 0, .ref 102, .int (nI (i + 4))] [] AF t534) ∧ (¬ r528 = r533 → (nI 0 = 1)))))) ∧ (((xs i) &&& (nI 63)) = nI 40 → (∃ p541 : SG → Int32 → Prop, IN_X11_on AF σ [.ref 0] p541 ∧ ∀ (t540 : SG) (r539 : Int32), p541 t540 r539 → (∃ p546 : SG → Int32 → Prop, IN_X12_on AF t540 [.ref 102] p546 ∧ ∀ (t545 : SG) (r544 : Int32), p546 t545 r544 → ((r539 = r544 → T_L_law Ln xs 18 [.ref scr, .ref 0, .ref 102, .int (nI (i + 4))] [] AF t545) ∧ (¬ r539 = r544 → (nI 0 = 1)))))) ∧ (((xs i) &&& (nI 63)) = nI 41 → (i + 1 < Ln ∧ (∃ p553 : SG → Int32 → Prop, IN_X11_count AF σ [.ref 0, .int (xs (i + 1))] p553 ∧ ∀ (t552 : SG) (r551 : Int32), p553 t552 r551 → (i + 1 < Ln ∧ (∃ p559 : SG → Int32 → Prop, IN_X12_count AF t552 [.ref 102, .int (xs (i + 1))] p559 ∧ ∀ (t558 : SG) (r557 : Int32), p559 t558 r557 → ((r551 = r557 → T_L_law Ln xs 18 [.ref scr, .ref 0, .ref 102, .int (nI (i + 4))] [] AF t558) ∧ (¬ r551 = r557 → (nI 0 = 1)))))))) ∧ ((¬ ((xs i) &&& (nI 63)) = nI 0 ∧ ¬ ((xs i) &&& (nI 63)) = nI 1 ∧ ¬ ((xs i) &&& (nI 63)) = nI 2 ∧ ¬ ((xs i) &&& (nI 63)) = nI 3 ∧ ¬ ((xs i) &&& (nI 63)) = nI 4 ∧ ¬ ((xs i) &&& (nI 63)) = nI 5 ∧ ¬ ((xs i) &&& (nI 63)) = nI 6 ∧ ¬ ((xs i) &&& (nI 63)) = nI 7 ∧ ¬ ((xs i) &&& (nI 63)) = nI 8 ∧ ¬ ((xs i) &&& (nI 63)) = nI 9 ∧ ¬ ((xs i) &&& (nI 63)) = nI 10 ∧ ¬ ((xs i) &&& (nI 63)) = nI 11 ∧ ¬ ((xs i) &&& (nI 63)) = nI 12 ∧ ¬ ((xs i) &&& (nI 63)) = nI 13 ∧ ¬ ((xs i) &&& (nI 63)) = nI 14 ∧ ¬ ((xs i) &&& (nI 63)) = nI 15 ∧ ¬ ((xs i) &&& (nI 63)) = nI 16 ∧ ¬ ((xs i) &&& (nI 63)) = nI 17 ∧ ¬ ((xs i) &&& (nI 63)) = nI 18 ∧ ¬ ((xs i) &&& (nI 63)) = nI 19 ∧ ¬ ((xs i) &&& (nI 63)) = nI 20 ∧ ¬ ((xs i) &&& (nI 63)) = nI 21 ∧ ¬ ((xs i) &&& (nI 63)) = nI 22 ∧ ¬ ((xs i) &&& (nI 63)) = nI 23 ∧ ¬ ((xs i) &&& (nI 63)) = nI 24 ∧ ¬ ((xs i) &&& (nI 63)) = nI 25 ∧ ¬ ((xs i) &&& (nI 63)) = nI 26 ∧ ¬ ((xs i) &&& (nI 63)) = nI 27 ∧ ¬ ((xs i) &&& (nI 63)) = nI 28 ∧ ¬ ((xs i) &&& (nI 63)) = nI 29 ∧ ¬ ((xs i) &&& (nI 63)) = nI 30 ∧ ¬ ((xs i) &&& (nI 63)) = nI 31 ∧ ¬ ((xs i) &&& (nI 63)) = nI 32 ∧ ¬ ((xs i) &&& (nI 63)) = nI 33 ∧ ¬ ((xs i) &&& (nI 63)) = nI 34 ∧ ¬ ((xs i) &&& (nI 63)) = nI 35 ∧ ¬ ((xs i) &&& (nI 63)) = nI 36 ∧ ¬ ((xs i) &&& (nI 63)) = nI 37 ∧ ¬ ((xs i) &&& (nI 63)) = nI 38 ∧ ¬ ((xs i) &&& (nI 63)) = nI 39 ∧ ¬ ((xs i) &&& (nI 63)) = nI 40 ∧ ¬ ((xs i) &&& (nI 63)) = nI 41) → T_L_law Ln xs 18 [.ref scr, .ref 0, .ref 102, .int (nI (i + 4))] [] AF σ)))))) : T_L_law Ln xs 18 [.ref scr, .ref 0, .ref 102, .int (nI i)] [] AF σ := by
  refine tt_iload_n (q := 19) dL_law_18 rfl rfl ?_
  refine tt_aload_n (q := 20) dL_law_19 rfl rfl ?_
  refine tt_slen (q := 21) dL_law_20 rfl rfl ?_
  refine tt_iconst (q := 22) dL_law_21 ki_4 rfl ?_
  refine tt_isub (q := 23) dL_law_22 rfl ?_
  refine tt_icmp_gt (q := 26) (t := 1278) dL_law_23 rfl rfl (fun c => ?_) (fun c => ?_)
  · replace h := h.1 c
    refine tt_iconst (q := 1279) dL_law_1278 ki_1 rfl ?_
    exact tt_iret dL_law_1279 (congrArg some h)
  · replace h := h.2 c
    refine tt_aload_n (q := 27) dL_law_26 rfl rfl ?_
    refine tt_iload_n (q := 28) dL_law_27 rfl rfl ?_
    obtain ⟨l2, h⟩ := h
    refine tt_sld (q := 29) dL_law_28 rfl rfl l2 hLn rfl ?_
    refine tt_bipush (q := 31) dL_law_29 bi_63 rfl ?_
    refine tt_iand (q := 32) dL_law_31 rfl ?_
    by_cases c0 : ((xs i) &&& (nI 63)) = nI 0
    · replace h := h.1 c0
      refine tt_tswI (t := 216) (off := 184) dL_law_32 (by rw [c0]; decide) (by rw [c0]; decide) (by rw [c0]; decide) rfl ?_
      refine tt_aload_n (q := 217) dL_law_216 rfl rfl ?_
      refine tt_aload_n (q := 218) dL_law_217 rfl rfl ?_
      refine tt_iload_n (q := 219) dL_law_218 rfl rfl ?_
      refine tt_iconst (q := 220) dL_law_219 ki_1 rfl ?_
      refine tt_iaddN (q := 221) dL_law_220 rfl ?_
      obtain ⟨l3, h⟩ := h
      refine tt_sld (q := 222) dL_law_221 rfl rfl l3 hLn rfl ?_
      refine tt_aload_n (q := 223) dL_law_222 rfl rfl ?_
      refine tt_iload_n (q := 224) dL_law_223 rfl rfl ?_
      refine tt_iconst (q := 225) dL_law_224 ki_2 rfl ?_
      refine tt_iaddN (q := 226) dL_law_225 rfl ?_
      obtain ⟨l4, h⟩ := h
      refine tt_sld (q := 227) dL_law_226 rfl rfl l4 hLn rfl ?_
      refine tt_i2l (q := 228) dL_law_227 rfl ?_
      refine tt_bipush (q := 230) dL_law_228 bi_32 rfl ?_
      refine tt_lshl (q := 231) dL_law_230 rfl ?_
      refine tt_aload_n (q := 232) dL_law_231 rfl rfl ?_
      refine tt_iload_n (q := 233) dL_law_232 rfl rfl ?_
      refine tt_iconst (q := 234) dL_law_233 ki_3 rfl ?_
      refine tt_iaddN (q := 235) dL_law_234 rfl ?_
      obtain ⟨l5, h⟩ := h
      refine tt_sld (q := 236) dL_law_235 rfl rfl l5 hLn rfl ?_
      refine tt_i2l (q := 237) dL_law_236 rfl ?_
      refine tt_ldc2 (q := 240) dL_law_237 lct_L_13 rfl ?_
      refine tt_land (q := 241) dL_law_240 rfl ?_
      refine tt_lor (q := 242) dL_law_241 rfl ?_
      obtain ⟨p8, hp9, h⟩ := h
      refine callVi_2 (q := 245) dL_law_242 (Or.inl ⟨rfl, rfl, hp9⟩) (Nat.le_of_ble_eq_true rfl) rfl (fun t7 r6 hr10 => ?_)
      replace h := h t7 r6 hr10
      refine tt_aload_n (q := 246) dL_law_245 rfl rfl ?_
      refine tt_aload_n (q := 247) dL_law_246 rfl rfl ?_
      refine tt_iload_n (q := 248) dL_law_247 rfl rfl ?_
      refine tt_iconst (q := 249) dL_law_248 ki_1 rfl ?_
      refine tt_iaddN (q := 250) dL_law_249 rfl ?_
      obtain ⟨l11, h⟩ := h
      refine tt_sld (q := 251) dL_law_250 rfl rfl l11 hLn rfl ?_
      refine tt_aload_n (q := 252) dL_law_251 rfl rfl ?_
      refine tt_iload_n (q := 253) dL_law_252 rfl rfl ?_
      refine tt_iconst (q := 254) dL_law_253 ki_2 rfl ?_
      refine tt_iaddN (q := 255) dL_law_254 rfl ?_
      obtain ⟨l12, h⟩ := h
      refine tt_sld (q := 256) dL_law_255 rfl rfl l12 hLn rfl ?_
      refine tt_i2l (q := 257) dL_law_256 rfl ?_
      refine tt_bipush (q := 259) dL_law_257 bi_32 rfl ?_
      refine tt_lshl (q := 260) dL_law_259 rfl ?_
      refine tt_aload_n (q := 261) dL_law_260 rfl rfl ?_
      refine tt_iload_n (q := 262) dL_law_261 rfl rfl ?_
      refine tt_iconst (q := 263) dL_law_262 ki_3 rfl ?_
      refine tt_iaddN (q := 264) dL_law_263 rfl ?_
      obtain ⟨l13, h⟩ := h
      refine tt_sld (q := 265) dL_law_264 rfl rfl l13 hLn rfl ?_
      refine tt_i2l (q := 266) dL_law_265 rfl ?_
      refine tt_ldc2 (q := 269) dL_law_266 lct_L_13 rfl ?_
      refine tt_land (q := 270) dL_law_269 rfl ?_
      refine tt_lor (q := 271) dL_law_270 rfl ?_
      obtain ⟨p16, hp17, h⟩ := h
      refine callVi_2 (q := 274) dL_law_271 (Or.inr (Or.inl ⟨rfl, rfl, hp17⟩)) (Nat.le_of_ble_eq_true rfl) rfl (fun t15 r14 hr18 => ?_)
      replace h := h t15 r14 hr18
      refine tt_icmp_eq (q := 277) (t := 1272) dL_law_274 rfl rfl (fun c => ?_) (fun c => ?_)
      · replace h := h.1 c
        refine inc_3 (q := 1275) dL_law_1272 (nI_inc4 _) rfl rfl ?_
        refine tt_goto (t := 18) dL_law_1275 rfl ?_
        exact h
      · replace h := h.2 c
        refine tt_iconst (q := 278) dL_law_277 ki_0 rfl ?_
        exact tt_iret dL_law_278 (congrArg some h)
    by_cases c1 : ((xs i) &&& (nI 63)) = nI 1
    · replace h := h.2.1 c1
      refine tt_tswI (t := 279) (off := 247) dL_law_32 (by rw [c1]; decide) (by rw [c1]; decide) (by rw [c1]; decide) rfl ?_
      refine tt_aload_n (q := 280) dL_law_279 rfl rfl ?_
      obtain ⟨p22, hp23, h⟩ := h
      refine callVi_0 (q := 283) dL_law_280 (Or.inr (Or.inr (Or.inl ⟨rfl, rfl, hp23⟩))) (Nat.le_of_ble_eq_true rfl) rfl (fun t21 r20 hr24 => ?_)
      replace h := h t21 r20 hr24
      refine tt_aload_n (q := 284) dL_law_283 rfl rfl ?_
      obtain ⟨p27, hp28, h⟩ := h
      refine callVi_0 (q := 287) dL_law_284 (Or.inr (Or.inr (Or.inr (Or.inl ⟨rfl, rfl, hp28⟩)))) (Nat.le_of_ble_eq_true rfl) rfl (fun t26 r25 hr29 => ?_)
      replace h := h t26 r25 hr29
      refine tt_icmp_eq (q := 290) (t := 1272) dL_law_287 rfl rfl (fun c => ?_) (fun c => ?_)
      · replace h := h.1 c
        refine inc_3 (q := 1275) dL_law_1272 (nI_inc4 _) rfl rfl ?_
        refine tt_goto (t := 18) dL_law_1275 rfl ?_
        exact h
      · replace h := h.2 c
        refine tt_iconst (q := 291) dL_law_290 ki_0 rfl ?_
        exact tt_iret dL_law_291 (congrArg some h)
    by_cases c2 : ((xs i) &&& (nI 63)) = nI 2
    · replace h := h.2.2.1 c2
      refine tt_tswI (t := 292) (off := 260) dL_law_32 (by rw [c2]; decide) (by rw [c2]; decide) (by rw [c2]; decide) rfl ?_
      refine tt_aload_n (q := 293) dL_law_292 rfl rfl ?_
      obtain ⟨p33, hp34, h⟩ := h
      refine callVi_0 (q := 296) dL_law_293 (Or.inr (Or.inr (Or.inr (Or.inr (Or.inl ⟨rfl, rfl, hp34⟩))))) (Nat.le_of_ble_eq_true rfl) rfl (fun t32 r31 hr35 => ?_)
      replace h := h t32 r31 hr35
      refine tt_aload_n (q := 297) dL_law_296 rfl rfl ?_
      obtain ⟨p38, hp39, h⟩ := h
      refine callVi_0 (q := 300) dL_law_297 (Or.inr (Or.inr (Or.inr (Or.inr (Or.inr (Or.inl ⟨rfl, rfl, hp39⟩)))))) (Nat.le_of_ble_eq_true rfl) rfl (fun t37 r36 hr40 => ?_)
      replace h := h t37 r36 hr40
      refine tt_icmp_eq (q := 303) (t := 1272) dL_law_300 rfl rfl (fun c => ?_) (fun c => ?_)
      · replace h := h.1 c
        refine inc_3 (q := 1275) dL_law_1272 (nI_inc4 _) rfl rfl ?_
        refine tt_goto (t := 18) dL_law_1275 rfl ?_
        exact h
      · replace h := h.2 c
        refine tt_iconst (q := 304) dL_law_303 ki_0 rfl ?_
        exact tt_iret dL_law_304 (congrArg some h)
    by_cases c3 : ((xs i) &&& (nI 63)) = nI 3
    · replace h := h.2.2.2.1 c3
      refine tt_tswI (t := 305) (off := 273) dL_law_32 (by rw [c3]; decide) (by rw [c3]; decide) (by rw [c3]; decide) rfl ?_
      refine tt_aload_n (q := 306) dL_law_305 rfl rfl ?_
      refine tt_aload_n (q := 307) dL_law_306 rfl rfl ?_
      refine tt_iload_n (q := 308) dL_law_307 rfl rfl ?_
      refine tt_iconst (q := 309) dL_law_308 ki_1 rfl ?_
      refine tt_iaddN (q := 310) dL_law_309 rfl ?_
      obtain ⟨l42, h⟩ := h
      refine tt_sld (q := 311) dL_law_310 rfl rfl l42 hLn rfl ?_
      refine tt_aload_n (q := 312) dL_law_311 rfl rfl ?_
      refine tt_iload_n (q := 313) dL_law_312 rfl rfl ?_
      refine tt_iconst (q := 314) dL_law_313 ki_2 rfl ?_
      refine tt_iaddN (q := 315) dL_law_314 rfl ?_
      obtain ⟨l43, h⟩ := h
      refine tt_sld (q := 316) dL_law_315 rfl rfl l43 hLn rfl ?_
      obtain ⟨p46, hp47, h⟩ := h
      refine callVi_2 (q := 319) dL_law_316 (Or.inr (Or.inr (Or.inr (Or.inr (Or.inr (Or.inr (Or.inl ⟨rfl, rfl, hp47⟩))))))) (Nat.le_of_ble_eq_true rfl) rfl (fun t45 r44 hr48 => ?_)
      replace h := h t45 r44 hr48
      refine tt_aload_n (q := 320) dL_law_319 rfl rfl ?_
      refine tt_aload_n (q := 321) dL_law_320 rfl rfl ?_
      refine tt_iload_n (q := 322) dL_law_321 rfl rfl ?_
      refine tt_iconst (q := 323) dL_law_322 ki_1 rfl ?_
      refine tt_iaddN (q := 324) dL_law_323 rfl ?_
      obtain ⟨l49, h⟩ := h
      refine tt_sld (q := 325) dL_law_324 rfl rfl l49 hLn rfl ?_
      refine tt_aload_n (q := 326) dL_law_325 rfl rfl ?_
      refine tt_iload_n (q := 327) dL_law_326 rfl rfl ?_
      refine tt_iconst (q := 328) dL_law_327 ki_2 rfl ?_
      refine tt_iaddN (q := 329) dL_law_328 rfl ?_
      obtain ⟨l50, h⟩ := h
      refine tt_sld (q := 330) dL_law_329 rfl rfl l50 hLn rfl ?_
      obtain ⟨p53, hp54, h⟩ := h
      refine callVi_2 (q := 333) dL_law_330 (Or.inr (Or.inr (Or.inr (Or.inr (Or.inr (Or.inr (Or.inr (Or.inl ⟨rfl, rfl, hp54⟩)))))))) (Nat.le_of_ble_eq_true rfl) rfl (fun t52 r51 hr55 => ?_)
      replace h := h t52 r51 hr55
      refine tt_icmp_eq (q := 336) (t := 1272) dL_law_333 rfl rfl (fun c => ?_) (fun c => ?_)
      · replace h := h.1 c
        refine inc_3 (q := 1275) dL_law_1272 (nI_inc4 _) rfl rfl ?_
        refine tt_goto (t := 18) dL_law_1275 rfl ?_
        exact h
      · replace h := h.2 c
        refine tt_iconst (q := 337) dL_law_336 ki_0 rfl ?_
        exact tt_iret dL_law_337 (congrArg some h)
    by_cases c4 : ((xs i) &&& (nI 63)) = nI 4
    · replace h := h.2.2.2.2.1 c4
      refine tt_tswI (t := 338) (off := 306) dL_law_32 (by rw [c4]; decide) (by rw [c4]; decide) (by rw [c4]; decide) rfl ?_
      refine tt_aload_n (q := 339) dL_law_338 rfl rfl ?_
      refine tt_aload_n (q := 340) dL_law_339 rfl rfl ?_
      refine tt_iload_n (q := 341) dL_law_340 rfl rfl ?_
      refine tt_iconst (q := 342) dL_law_341 ki_1 rfl ?_
      refine tt_iaddN (q := 343) dL_law_342 rfl ?_
      obtain ⟨l57, h⟩ := h
      refine tt_sld (q := 344) dL_law_343 rfl rfl l57 hLn rfl ?_
      refine tt_aload_n (q := 345) dL_law_344 rfl rfl ?_
      refine tt_iload_n (q := 346) dL_law_345 rfl rfl ?_
      refine tt_iconst (q := 347) dL_law_346 ki_2 rfl ?_
      refine tt_iaddN (q := 348) dL_law_347 rfl ?_
      obtain ⟨l58, h⟩ := h
      refine tt_sld (q := 349) dL_law_348 rfl rfl l58 hLn rfl ?_
      obtain ⟨p61, hp62, h⟩ := h
      refine callVi_2 (q := 352) dL_law_349 (Or.inr (Or.inr (Or.inr (Or.inr (Or.inr (Or.inr (Or.inr (Or.inr (Or.inl ⟨rfl, rfl, hp62⟩))))))))) (Nat.le_of_ble_eq_true rfl) rfl (fun t60 r59 hr63 => ?_)
      replace h := h t60 r59 hr63
      refine tt_aload_n (q := 353) dL_law_352 rfl rfl ?_
      refine tt_aload_n (q := 354) dL_law_353 rfl rfl ?_
      refine tt_iload_n (q := 355) dL_law_354 rfl rfl ?_
      refine tt_iconst (q := 356) dL_law_355 ki_1 rfl ?_
      refine tt_iaddN (q := 357) dL_law_356 rfl ?_
      obtain ⟨l64, h⟩ := h
      refine tt_sld (q := 358) dL_law_357 rfl rfl l64 hLn rfl ?_
      refine tt_aload_n (q := 359) dL_law_358 rfl rfl ?_
      refine tt_iload_n (q := 360) dL_law_359 rfl rfl ?_
      refine tt_iconst (q := 361) dL_law_360 ki_2 rfl ?_
      refine tt_iaddN (q := 362) dL_law_361 rfl ?_
      obtain ⟨l65, h⟩ := h
      refine tt_sld (q := 363) dL_law_362 rfl rfl l65 hLn rfl ?_
      obtain ⟨p68, hp69, h⟩ := h
      refine callVi_2 (q := 366) dL_law_363 (Or.inr (Or.inr (Or.inr (Or.inr (Or.inr (Or.inr (Or.inr (Or.inr (Or.inr (Or.inl ⟨rfl, rfl, hp69⟩)))))))))) (Nat.le_of_ble_eq_true rfl) rfl (fun t67 r66 hr70 => ?_)
      replace h := h t67 r66 hr70
      refine tt_icmp_eq (q := 369) (t := 1272) dL_law_366 rfl rfl (fun c => ?_) (fun c => ?_)
      · replace h := h.1 c
        refine inc_3 (q := 1275) dL_law_1272 (nI_inc4 _) rfl rfl ?_
        refine tt_goto (t := 18) dL_law_1275 rfl ?_
        exact h
      · replace h := h.2 c
        refine tt_iconst (q := 370) dL_law_369 ki_0 rfl ?_
        exact tt_iret dL_law_370 (congrArg some h)
    by_cases c5 : ((xs i) &&& (nI 63)) = nI 5
    · replace h := h.2.2.2.2.2.1 c5
      refine tt_tswI (t := 371) (off := 339) dL_law_32 (by rw [c5]; decide) (by rw [c5]; decide) (by rw [c5]; decide) rfl ?_
      refine tt_aload_n (q := 372) dL_law_371 rfl rfl ?_
      refine tt_aload_n (q := 373) dL_law_372 rfl rfl ?_
      refine tt_iload_n (q := 374) dL_law_373 rfl rfl ?_
      refine tt_iconst (q := 375) dL_law_374 ki_1 rfl ?_
      refine tt_iaddN (q := 376) dL_law_375 rfl ?_
      obtain ⟨l72, h⟩ := h
      refine tt_sld (q := 377) dL_law_376 rfl rfl l72 hLn rfl ?_
      refine tt_aload_n (q := 378) dL_law_377 rfl rfl ?_
      refine tt_iload_n (q := 379) dL_law_378 rfl rfl ?_
      refine tt_iconst (q := 380) dL_law_379 ki_2 rfl ?_
      refine tt_iaddN (q := 381) dL_law_380 rfl ?_
      obtain ⟨l73, h⟩ := h
      refine tt_sld (q := 382) dL_law_381 rfl rfl l73 hLn rfl ?_
      obtain ⟨p76, hp77, h⟩ := h
      refine callVi_2 (q := 385) dL_law_382 (Or.inr (Or.inr (Or.inr (Or.inr (Or.inr (Or.inr (Or.inr (Or.inr (Or.inr (Or.inr (Or.inl ⟨rfl, rfl, hp77⟩))))))))))) (Nat.le_of_ble_eq_true rfl) rfl (fun t75 r74 hr78 => ?_)
      replace h := h t75 r74 hr78
      refine tt_aload_n (q := 386) dL_law_385 rfl rfl ?_
      refine tt_aload_n (q := 387) dL_law_386 rfl rfl ?_
      refine tt_iload_n (q := 388) dL_law_387 rfl rfl ?_
      refine tt_iconst (q := 389) dL_law_388 ki_1 rfl ?_
      refine tt_iaddN (q := 390) dL_law_389 rfl ?_
      obtain ⟨l79, h⟩ := h
      refine tt_sld (q := 391) dL_law_390 rfl rfl l79 hLn rfl ?_
      refine tt_aload_n (q := 392) dL_law_391 rfl rfl ?_
      refine tt_iload_n (q := 393) dL_law_392 rfl rfl ?_
      refine tt_iconst (q := 394) dL_law_393 ki_2 rfl ?_
      refine tt_iaddN (q := 395) dL_law_394 rfl ?_
      obtain ⟨l80, h⟩ := h
      refine tt_sld (q := 396) dL_law_395 rfl rfl l80 hLn rfl ?_
      obtain ⟨p83, hp84, h⟩ := h
      refine callVi_2 (q := 399) dL_law_396 (Or.inr (Or.inr (Or.inr (Or.inr (Or.inr (Or.inr (Or.inr (Or.inr (Or.inr (Or.inr (Or.inr (Or.inl ⟨rfl, rfl, hp84⟩)))))))))))) (Nat.le_of_ble_eq_true rfl) rfl (fun t82 r81 hr85 => ?_)
      replace h := h t82 r81 hr85
      refine tt_icmp_eq (q := 402) (t := 1272) dL_law_399 rfl rfl (fun c => ?_) (fun c => ?_)
      · replace h := h.1 c
        refine inc_3 (q := 1275) dL_law_1272 (nI_inc4 _) rfl rfl ?_
        refine tt_goto (t := 18) dL_law_1275 rfl ?_
        exact h
      · replace h := h.2 c
        refine tt_iconst (q := 403) dL_law_402 ki_0 rfl ?_
        exact tt_iret dL_law_403 (congrArg some h)
    by_cases c6 : ((xs i) &&& (nI 63)) = nI 6
    · replace h := h.2.2.2.2.2.2.1 c6
      refine tt_tswI (t := 404) (off := 372) dL_law_32 (by rw [c6]; decide) (by rw [c6]; decide) (by rw [c6]; decide) rfl ?_
      refine tt_aload_n (q := 405) dL_law_404 rfl rfl ?_
      refine tt_aload_n (q := 406) dL_law_405 rfl rfl ?_
      refine tt_iload_n (q := 407) dL_law_406 rfl rfl ?_
      refine tt_iconst (q := 408) dL_law_407 ki_1 rfl ?_
      refine tt_iaddN (q := 409) dL_law_408 rfl ?_
      obtain ⟨l87, h⟩ := h
      refine tt_sld (q := 410) dL_law_409 rfl rfl l87 hLn rfl ?_
      obtain ⟨p90, hp91, h⟩ := h
      refine callVi_1 (q := 413) dL_law_410 (Or.inr (Or.inr (Or.inr (Or.inr (Or.inr (Or.inr (Or.inr (Or.inr (Or.inr (Or.inr (Or.inr (Or.inr (Or.inl ⟨rfl, rfl, hp91⟩))))))))))))) (Nat.le_of_ble_eq_true rfl) rfl (fun t89 r88 hr92 => ?_)
      replace h := h t89 r88 hr92
      refine tt_aload_n (q := 414) dL_law_413 rfl rfl ?_
      refine tt_aload_n (q := 415) dL_law_414 rfl rfl ?_
      refine tt_iload_n (q := 416) dL_law_415 rfl rfl ?_
      refine tt_iconst (q := 417) dL_law_416 ki_1 rfl ?_
      refine tt_iaddN (q := 418) dL_law_417 rfl ?_
      obtain ⟨l93, h⟩ := h
      refine tt_sld (q := 419) dL_law_418 rfl rfl l93 hLn rfl ?_
      obtain ⟨p96, hp97, h⟩ := h
      refine callVi_1 (q := 422) dL_law_419 (Or.inr (Or.inr (Or.inr (Or.inr (Or.inr (Or.inr (Or.inr (Or.inr (Or.inr (Or.inr (Or.inr (Or.inr (Or.inr (Or.inl ⟨rfl, rfl, hp97⟩)))))))))))))) (Nat.le_of_ble_eq_true rfl) rfl (fun t95 r94 hr98 => ?_)
      replace h := h t95 r94 hr98
      refine tt_icmp_eq (q := 425) (t := 1272) dL_law_422 rfl rfl (fun c => ?_) (fun c => ?_)
      · replace h := h.1 c
        refine inc_3 (q := 1275) dL_law_1272 (nI_inc4 _) rfl rfl ?_
        refine tt_goto (t := 18) dL_law_1275 rfl ?_
        exact h
      · replace h := h.2 c
        refine tt_iconst (q := 426) dL_law_425 ki_0 rfl ?_
        exact tt_iret dL_law_426 (congrArg some h)
    by_cases c7 : ((xs i) &&& (nI 63)) = nI 7
    · replace h := h.2.2.2.2.2.2.2.1 c7
      refine tt_tswI (t := 427) (off := 395) dL_law_32 (by rw [c7]; decide) (by rw [c7]; decide) (by rw [c7]; decide) rfl ?_
      refine tt_aload_n (q := 428) dL_law_427 rfl rfl ?_
      refine tt_aload_n (q := 429) dL_law_428 rfl rfl ?_
      refine tt_iload_n (q := 430) dL_law_429 rfl rfl ?_
      refine tt_iconst (q := 431) dL_law_430 ki_1 rfl ?_
      refine tt_iaddN (q := 432) dL_law_431 rfl ?_
      obtain ⟨l100, h⟩ := h
      refine tt_sld (q := 433) dL_law_432 rfl rfl l100 hLn rfl ?_
      obtain ⟨p103, hp104, h⟩ := h
      refine callVi_1 (q := 436) dL_law_433 (Or.inr (Or.inr (Or.inr (Or.inr (Or.inr (Or.inr (Or.inr (Or.inr (Or.inr (Or.inr (Or.inr (Or.inr (Or.inr (Or.inr (Or.inl ⟨rfl, rfl, hp104⟩))))))))))))))) (Nat.le_of_ble_eq_true rfl) rfl (fun t102 r101 hr105 => ?_)
      replace h := h t102 r101 hr105
      refine tt_aload_n (q := 437) dL_law_436 rfl rfl ?_
      refine tt_aload_n (q := 438) dL_law_437 rfl rfl ?_
      refine tt_iload_n (q := 439) dL_law_438 rfl rfl ?_
      refine tt_iconst (q := 440) dL_law_439 ki_1 rfl ?_
      refine tt_iaddN (q := 441) dL_law_440 rfl ?_
      obtain ⟨l106, h⟩ := h
      refine tt_sld (q := 442) dL_law_441 rfl rfl l106 hLn rfl ?_
      obtain ⟨p109, hp110, h⟩ := h
      refine callVi_1 (q := 445) dL_law_442 (Or.inr (Or.inr (Or.inr (Or.inr (Or.inr (Or.inr (Or.inr (Or.inr (Or.inr (Or.inr (Or.inr (Or.inr (Or.inr (Or.inr (Or.inr (Or.inl ⟨rfl, rfl, hp110⟩)))))))))))))))) (Nat.le_of_ble_eq_true rfl) rfl (fun t108 r107 hr111 => ?_)
      replace h := h t108 r107 hr111
      refine tt_icmp_eq (q := 448) (t := 1272) dL_law_445 rfl rfl (fun c => ?_) (fun c => ?_)
      · replace h := h.1 c
        refine inc_3 (q := 1275) dL_law_1272 (nI_inc4 _) rfl rfl ?_
        refine tt_goto (t := 18) dL_law_1275 rfl ?_
        exact h
      · replace h := h.2 c
        refine tt_iconst (q := 449) dL_law_448 ki_0 rfl ?_
        exact tt_iret dL_law_449 (congrArg some h)
    by_cases c8 : ((xs i) &&& (nI 63)) = nI 8
    · replace h := h.2.2.2.2.2.2.2.2.1 c8
      refine tt_tswI (t := 450) (off := 418) dL_law_32 (by rw [c8]; decide) (by rw [c8]; decide) (by rw [c8]; decide) rfl ?_
      refine tt_aload_n (q := 451) dL_law_450 rfl rfl ?_
      refine tt_aload_n (q := 452) dL_law_451 rfl rfl ?_
      refine tt_iload_n (q := 453) dL_law_452 rfl rfl ?_
      refine tt_iconst (q := 454) dL_law_453 ki_1 rfl ?_
      refine tt_iaddN (q := 455) dL_law_454 rfl ?_
      obtain ⟨l113, h⟩ := h
      refine tt_sld (q := 456) dL_law_455 rfl rfl l113 hLn rfl ?_
      obtain ⟨p116, hp117, h⟩ := h
      refine callVi_1 (q := 459) dL_law_456 (Or.inr (Or.inr (Or.inr (Or.inr (Or.inr (Or.inr (Or.inr (Or.inr (Or.inr (Or.inr (Or.inr (Or.inr (Or.inr (Or.inr (Or.inr (Or.inr (Or.inl ⟨rfl, rfl, hp117⟩))))))))))))))))) (Nat.le_of_ble_eq_true rfl) rfl (fun t115 r114 hr118 => ?_)
      replace h := h t115 r114 hr118
      refine tt_aload_n (q := 460) dL_law_459 rfl rfl ?_
      refine tt_aload_n (q := 461) dL_law_460 rfl rfl ?_
      refine tt_iload_n (q := 462) dL_law_461 rfl rfl ?_
      refine tt_iconst (q := 463) dL_law_462 ki_1 rfl ?_
      refine tt_iaddN (q := 464) dL_law_463 rfl ?_
      obtain ⟨l119, h⟩ := h
      refine tt_sld (q := 465) dL_law_464 rfl rfl l119 hLn rfl ?_
      obtain ⟨p122, hp123, h⟩ := h
      refine callVi_1 (q := 468) dL_law_465 (Or.inr (Or.inr (Or.inr (Or.inr (Or.inr (Or.inr (Or.inr (Or.inr (Or.inr (Or.inr (Or.inr (Or.inr (Or.inr (Or.inr (Or.inr (Or.inr (Or.inr (Or.inl ⟨rfl, rfl, hp123⟩)))))))))))))))))) (Nat.le_of_ble_eq_true rfl) rfl (fun t121 r120 hr124 => ?_)
      replace h := h t121 r120 hr124
      refine tt_icmp_eq (q := 471) (t := 1272) dL_law_468 rfl rfl (fun c => ?_) (fun c => ?_)
      · replace h := h.1 c
        refine inc_3 (q := 1275) dL_law_1272 (nI_inc4 _) rfl rfl ?_
        refine tt_goto (t := 18) dL_law_1275 rfl ?_
        exact h
      · replace h := h.2 c
        refine tt_iconst (q := 472) dL_law_471 ki_0 rfl ?_
        exact tt_iret dL_law_472 (congrArg some h)
    by_cases c9 : ((xs i) &&& (nI 63)) = nI 9
    · replace h := h.2.2.2.2.2.2.2.2.2.1 c9
      refine tt_tswI (t := 473) (off := 441) dL_law_32 (by rw [c9]; decide) (by rw [c9]; decide) (by rw [c9]; decide) rfl ?_
      refine tt_aload_n (q := 474) dL_law_473 rfl rfl ?_
      refine tt_aload_n (q := 475) dL_law_474 rfl rfl ?_
      refine tt_iload_n (q := 476) dL_law_475 rfl rfl ?_
      refine tt_iconst (q := 477) dL_law_476 ki_1 rfl ?_
      refine tt_iaddN (q := 478) dL_law_477 rfl ?_
      obtain ⟨l126, h⟩ := h
      refine tt_sld (q := 479) dL_law_478 rfl rfl l126 hLn rfl ?_
      obtain ⟨p129, hp130, h⟩ := h
      refine callVi_1 (q := 482) dL_law_479 (Or.inr (Or.inr (Or.inr (Or.inr (Or.inr (Or.inr (Or.inr (Or.inr (Or.inr (Or.inr (Or.inr (Or.inr (Or.inr (Or.inr (Or.inr (Or.inr (Or.inr (Or.inr (Or.inl ⟨rfl, rfl, hp130⟩))))))))))))))))))) (Nat.le_of_ble_eq_true rfl) rfl (fun t128 r127 hr131 => ?_)
      replace h := h t128 r127 hr131
      refine tt_aload_n (q := 483) dL_law_482 rfl rfl ?_
      refine tt_aload_n (q := 484) dL_law_483 rfl rfl ?_
      refine tt_iload_n (q := 485) dL_law_484 rfl rfl ?_
      refine tt_iconst (q := 486) dL_law_485 ki_1 rfl ?_
      refine tt_iaddN (q := 487) dL_law_486 rfl ?_
      obtain ⟨l132, h⟩ := h
      refine tt_sld (q := 488) dL_law_487 rfl rfl l132 hLn rfl ?_
      obtain ⟨p135, hp136, h⟩ := h
      refine callVi_1 (q := 491) dL_law_488 (Or.inr (Or.inr (Or.inr (Or.inr (Or.inr (Or.inr (Or.inr (Or.inr (Or.inr (Or.inr (Or.inr (Or.inr (Or.inr (Or.inr (Or.inr (Or.inr (Or.inr (Or.inr (Or.inr (Or.inl ⟨rfl, rfl, hp136⟩)))))))))))))))))))) (Nat.le_of_ble_eq_true rfl) rfl (fun t134 r133 hr137 => ?_)
      replace h := h t134 r133 hr137
      refine tt_icmp_eq (q := 494) (t := 1272) dL_law_491 rfl rfl (fun c => ?_) (fun c => ?_)
      · replace h := h.1 c
        refine inc_3 (q := 1275) dL_law_1272 (nI_inc4 _) rfl rfl ?_
        refine tt_goto (t := 18) dL_law_1275 rfl ?_
        exact h
      · replace h := h.2 c
        refine tt_iconst (q := 495) dL_law_494 ki_0 rfl ?_
        exact tt_iret dL_law_495 (congrArg some h)
    by_cases c10 : ((xs i) &&& (nI 63)) = nI 10
    · replace h := h.2.2.2.2.2.2.2.2.2.2.1 c10
      refine tt_tswI (t := 496) (off := 464) dL_law_32 (by rw [c10]; decide) (by rw [c10]; decide) (by rw [c10]; decide) rfl ?_
      refine tt_aload_n (q := 497) dL_law_496 rfl rfl ?_
      refine tt_aload_n (q := 498) dL_law_497 rfl rfl ?_
      refine tt_iload_n (q := 499) dL_law_498 rfl rfl ?_
      refine tt_iconst (q := 500) dL_law_499 ki_1 rfl ?_
      refine tt_iaddN (q := 501) dL_law_500 rfl ?_
      obtain ⟨l139, h⟩ := h
      refine tt_sld (q := 502) dL_law_501 rfl rfl l139 hLn rfl ?_
      obtain ⟨p142, hp143, h⟩ := h
      refine callVi_1 (q := 505) dL_law_502 (Or.inr (Or.inr (Or.inr (Or.inr (Or.inr (Or.inr (Or.inr (Or.inr (Or.inr (Or.inr (Or.inr (Or.inr (Or.inr (Or.inr (Or.inr (Or.inr (Or.inr (Or.inr (Or.inr (Or.inr (Or.inl ⟨rfl, rfl, hp143⟩))))))))))))))))))))) (Nat.le_of_ble_eq_true rfl) rfl (fun t141 r140 hr144 => ?_)
      replace h := h t141 r140 hr144
      refine tt_aload_n (q := 506) dL_law_505 rfl rfl ?_
      refine tt_aload_n (q := 507) dL_law_506 rfl rfl ?_
      refine tt_iload_n (q := 508) dL_law_507 rfl rfl ?_
      refine tt_iconst (q := 509) dL_law_508 ki_1 rfl ?_
      refine tt_iaddN (q := 510) dL_law_509 rfl ?_
      obtain ⟨l145, h⟩ := h
      refine tt_sld (q := 511) dL_law_510 rfl rfl l145 hLn rfl ?_
      obtain ⟨p148, hp149, h⟩ := h
      refine callVi_1 (q := 514) dL_law_511 (Or.inr (Or.inr (Or.inr (Or.inr (Or.inr (Or.inr (Or.inr (Or.inr (Or.inr (Or.inr (Or.inr (Or.inr (Or.inr (Or.inr (Or.inr (Or.inr (Or.inr (Or.inr (Or.inr (Or.inr (Or.inr (Or.inl ⟨rfl, rfl, hp149⟩)))))))))))))))))))))) (Nat.le_of_ble_eq_true rfl) rfl (fun t147 r146 hr150 => ?_)
      replace h := h t147 r146 hr150
      refine tt_icmp_eq (q := 517) (t := 1272) dL_law_514 rfl rfl (fun c => ?_) (fun c => ?_)
      · replace h := h.1 c
        refine inc_3 (q := 1275) dL_law_1272 (nI_inc4 _) rfl rfl ?_
        refine tt_goto (t := 18) dL_law_1275 rfl ?_
        exact h
      · replace h := h.2 c
        refine tt_iconst (q := 518) dL_law_517 ki_0 rfl ?_
        exact tt_iret dL_law_518 (congrArg some h)
    by_cases c11 : ((xs i) &&& (nI 63)) = nI 11
    · replace h := h.2.2.2.2.2.2.2.2.2.2.2.1 c11
      refine tt_tswI (t := 519) (off := 487) dL_law_32 (by rw [c11]; decide) (by rw [c11]; decide) (by rw [c11]; decide) rfl ?_
      refine tt_aload_n (q := 520) dL_law_519 rfl rfl ?_
      refine tt_aload_n (q := 521) dL_law_520 rfl rfl ?_
      refine tt_iload_n (q := 522) dL_law_521 rfl rfl ?_
      refine tt_iconst (q := 523) dL_law_522 ki_1 rfl ?_
      refine tt_iaddN (q := 524) dL_law_523 rfl ?_
      obtain ⟨l152, h⟩ := h
      refine tt_sld (q := 525) dL_law_524 rfl rfl l152 hLn rfl ?_
      obtain ⟨p155, hp156, h⟩ := h
      refine callVi_1 (q := 528) dL_law_525 (Or.inr (Or.inr (Or.inr (Or.inr (Or.inr (Or.inr (Or.inr (Or.inr (Or.inr (Or.inr (Or.inr (Or.inr (Or.inr (Or.inr (Or.inr (Or.inr (Or.inr (Or.inr (Or.inr (Or.inr (Or.inr (Or.inr (Or.inl ⟨rfl, rfl, hp156⟩))))))))))))))))))))))) (Nat.le_of_ble_eq_true rfl) rfl (fun t154 r153 hr157 => ?_)
      replace h := h t154 r153 hr157
      refine tt_aload_n (q := 529) dL_law_528 rfl rfl ?_
      refine tt_aload_n (q := 530) dL_law_529 rfl rfl ?_
      refine tt_iload_n (q := 531) dL_law_530 rfl rfl ?_
      refine tt_iconst (q := 532) dL_law_531 ki_1 rfl ?_
      refine tt_iaddN (q := 533) dL_law_532 rfl ?_
      obtain ⟨l158, h⟩ := h
      refine tt_sld (q := 534) dL_law_533 rfl rfl l158 hLn rfl ?_
      obtain ⟨p161, hp162, h⟩ := h
      refine callVi_1 (q := 537) dL_law_534 (Or.inr (Or.inr (Or.inr (Or.inr (Or.inr (Or.inr (Or.inr (Or.inr (Or.inr (Or.inr (Or.inr (Or.inr (Or.inr (Or.inr (Or.inr (Or.inr (Or.inr (Or.inr (Or.inr (Or.inr (Or.inr (Or.inr (Or.inr (Or.inl ⟨rfl, rfl, hp162⟩)))))))))))))))))))))))) (Nat.le_of_ble_eq_true rfl) rfl (fun t160 r159 hr163 => ?_)
      replace h := h t160 r159 hr163
      refine tt_icmp_eq (q := 540) (t := 1272) dL_law_537 rfl rfl (fun c => ?_) (fun c => ?_)
      · replace h := h.1 c
        refine inc_3 (q := 1275) dL_law_1272 (nI_inc4 _) rfl rfl ?_
        refine tt_goto (t := 18) dL_law_1275 rfl ?_
        exact h
      · replace h := h.2 c
        refine tt_iconst (q := 541) dL_law_540 ki_0 rfl ?_
        exact tt_iret dL_law_541 (congrArg some h)
    by_cases c12 : ((xs i) &&& (nI 63)) = nI 12
    · replace h := h.2.2.2.2.2.2.2.2.2.2.2.2.1 c12
      refine tt_tswI (t := 542) (off := 510) dL_law_32 (by rw [c12]; decide) (by rw [c12]; decide) (by rw [c12]; decide) rfl ?_
      refine tt_aload_n (q := 543) dL_law_542 rfl rfl ?_
      refine tt_aload_n (q := 544) dL_law_543 rfl rfl ?_
      refine tt_iload_n (q := 545) dL_law_544 rfl rfl ?_
      refine tt_iconst (q := 546) dL_law_545 ki_1 rfl ?_
      refine tt_iaddN (q := 547) dL_law_546 rfl ?_
      obtain ⟨l165, h⟩ := h
      refine tt_sld (q := 548) dL_law_547 rfl rfl l165 hLn rfl ?_
      refine tt_aload_n (q := 549) dL_law_548 rfl rfl ?_
      refine tt_iload_n (q := 550) dL_law_549 rfl rfl ?_
      refine tt_iconst (q := 551) dL_law_550 ki_2 rfl ?_
      refine tt_iaddN (q := 552) dL_law_551 rfl ?_
      obtain ⟨l166, h⟩ := h
      refine tt_sld (q := 553) dL_law_552 rfl rfl l166 hLn rfl ?_
      refine tt_aload_n (q := 554) dL_law_553 rfl rfl ?_
      refine tt_iload_n (q := 555) dL_law_554 rfl rfl ?_
      refine tt_iconst (q := 556) dL_law_555 ki_3 rfl ?_
      refine tt_iaddN (q := 557) dL_law_556 rfl ?_
      obtain ⟨l167, h⟩ := h
      refine tt_sld (q := 558) dL_law_557 rfl rfl l167 hLn rfl ?_
      obtain ⟨p170, hp171, h⟩ := h
      refine callVi_3 (q := 561) dL_law_558 (Or.inr (Or.inr (Or.inr (Or.inr (Or.inr (Or.inr (Or.inr (Or.inr (Or.inr (Or.inr (Or.inr (Or.inr (Or.inr (Or.inr (Or.inr (Or.inr (Or.inr (Or.inr (Or.inr (Or.inr (Or.inr (Or.inr (Or.inr (Or.inr (Or.inl ⟨rfl, rfl, hp171⟩))))))))))))))))))))))))) (Nat.le_of_ble_eq_true rfl) rfl (fun t169 r168 hr172 => ?_)
      replace h := h t169 r168 hr172
      refine tt_aload_n (q := 562) dL_law_561 rfl rfl ?_
      refine tt_aload_n (q := 563) dL_law_562 rfl rfl ?_
      refine tt_iload_n (q := 564) dL_law_563 rfl rfl ?_
      refine tt_iconst (q := 565) dL_law_564 ki_1 rfl ?_
      refine tt_iaddN (q := 566) dL_law_565 rfl ?_
      obtain ⟨l173, h⟩ := h
      refine tt_sld (q := 567) dL_law_566 rfl rfl l173 hLn rfl ?_
      refine tt_aload_n (q := 568) dL_law_567 rfl rfl ?_
      refine tt_iload_n (q := 569) dL_law_568 rfl rfl ?_
      refine tt_iconst (q := 570) dL_law_569 ki_2 rfl ?_
      refine tt_iaddN (q := 571) dL_law_570 rfl ?_
      obtain ⟨l174, h⟩ := h
      refine tt_sld (q := 572) dL_law_571 rfl rfl l174 hLn rfl ?_
      refine tt_aload_n (q := 573) dL_law_572 rfl rfl ?_
      refine tt_iload_n (q := 574) dL_law_573 rfl rfl ?_
      refine tt_iconst (q := 575) dL_law_574 ki_3 rfl ?_
      refine tt_iaddN (q := 576) dL_law_575 rfl ?_
      obtain ⟨l175, h⟩ := h
      refine tt_sld (q := 577) dL_law_576 rfl rfl l175 hLn rfl ?_
      obtain ⟨p178, hp179, h⟩ := h
      refine callVi_3 (q := 580) dL_law_577 (Or.inr (Or.inr (Or.inr (Or.inr (Or.inr (Or.inr (Or.inr (Or.inr (Or.inr (Or.inr (Or.inr (Or.inr (Or.inr (Or.inr (Or.inr (Or.inr (Or.inr (Or.inr (Or.inr (Or.inr (Or.inr (Or.inr (Or.inr (Or.inr (Or.inr (Or.inl ⟨rfl, rfl, hp179⟩)))))))))))))))))))))))))) (Nat.le_of_ble_eq_true rfl) rfl (fun t177 r176 hr180 => ?_)
      replace h := h t177 r176 hr180
      refine tt_icmp_eq (q := 583) (t := 1272) dL_law_580 rfl rfl (fun c => ?_) (fun c => ?_)
      · replace h := h.1 c
        refine inc_3 (q := 1275) dL_law_1272 (nI_inc4 _) rfl rfl ?_
        refine tt_goto (t := 18) dL_law_1275 rfl ?_
        exact h
      · replace h := h.2 c
        refine tt_iconst (q := 584) dL_law_583 ki_0 rfl ?_
        exact tt_iret dL_law_584 (congrArg some h)
    by_cases c13 : ((xs i) &&& (nI 63)) = nI 13
    · replace h := h.2.2.2.2.2.2.2.2.2.2.2.2.2.1 c13
      refine tt_tswI (t := 585) (off := 553) dL_law_32 (by rw [c13]; decide) (by rw [c13]; decide) (by rw [c13]; decide) rfl ?_
      refine tt_aload_n (q := 586) dL_law_585 rfl rfl ?_
      refine tt_aload_n (q := 587) dL_law_586 rfl rfl ?_
      refine tt_iload_n (q := 588) dL_law_587 rfl rfl ?_
      refine tt_iconst (q := 589) dL_law_588 ki_1 rfl ?_
      refine tt_iaddN (q := 590) dL_law_589 rfl ?_
      obtain ⟨l182, h⟩ := h
      refine tt_sld (q := 591) dL_law_590 rfl rfl l182 hLn rfl ?_
      refine tt_aload_n (q := 592) dL_law_591 rfl rfl ?_
      refine tt_iload_n (q := 593) dL_law_592 rfl rfl ?_
      refine tt_iconst (q := 594) dL_law_593 ki_2 rfl ?_
      refine tt_iaddN (q := 595) dL_law_594 rfl ?_
      obtain ⟨l183, h⟩ := h
      refine tt_sld (q := 596) dL_law_595 rfl rfl l183 hLn rfl ?_
      refine tt_aload_n (q := 597) dL_law_596 rfl rfl ?_
      refine tt_iload_n (q := 598) dL_law_597 rfl rfl ?_
      refine tt_iconst (q := 599) dL_law_598 ki_3 rfl ?_
      refine tt_iaddN (q := 600) dL_law_599 rfl ?_
      obtain ⟨l184, h⟩ := h
      refine tt_sld (q := 601) dL_law_600 rfl rfl l184 hLn rfl ?_
      obtain ⟨p187, hp188, h⟩ := h
      refine callVi_3 (q := 604) dL_law_601 (Or.inr (Or.inr (Or.inr (Or.inr (Or.inr (Or.inr (Or.inr (Or.inr (Or.inr (Or.inr (Or.inr (Or.inr (Or.inr (Or.inr (Or.inr (Or.inr (Or.inr (Or.inr (Or.inr (Or.inr (Or.inr (Or.inr (Or.inr (Or.inr (Or.inr (Or.inr (Or.inl ⟨rfl, rfl, hp188⟩))))))))))))))))))))))))))) (Nat.le_of_ble_eq_true rfl) rfl (fun t186 r185 hr189 => ?_)
      replace h := h t186 r185 hr189
      refine tt_aload_n (q := 605) dL_law_604 rfl rfl ?_
      refine tt_aload_n (q := 606) dL_law_605 rfl rfl ?_
      refine tt_iload_n (q := 607) dL_law_606 rfl rfl ?_
      refine tt_iconst (q := 608) dL_law_607 ki_1 rfl ?_
      refine tt_iaddN (q := 609) dL_law_608 rfl ?_
      obtain ⟨l190, h⟩ := h
      refine tt_sld (q := 610) dL_law_609 rfl rfl l190 hLn rfl ?_
      refine tt_aload_n (q := 611) dL_law_610 rfl rfl ?_
      refine tt_iload_n (q := 612) dL_law_611 rfl rfl ?_
      refine tt_iconst (q := 613) dL_law_612 ki_2 rfl ?_
      refine tt_iaddN (q := 614) dL_law_613 rfl ?_
      obtain ⟨l191, h⟩ := h
      refine tt_sld (q := 615) dL_law_614 rfl rfl l191 hLn rfl ?_
      refine tt_aload_n (q := 616) dL_law_615 rfl rfl ?_
      refine tt_iload_n (q := 617) dL_law_616 rfl rfl ?_
      refine tt_iconst (q := 618) dL_law_617 ki_3 rfl ?_
      refine tt_iaddN (q := 619) dL_law_618 rfl ?_
      obtain ⟨l192, h⟩ := h
      refine tt_sld (q := 620) dL_law_619 rfl rfl l192 hLn rfl ?_
      obtain ⟨p195, hp196, h⟩ := h
      refine callVi_3 (q := 623) dL_law_620 (Or.inr (Or.inr (Or.inr (Or.inr (Or.inr (Or.inr (Or.inr (Or.inr (Or.inr (Or.inr (Or.inr (Or.inr (Or.inr (Or.inr (Or.inr (Or.inr (Or.inr (Or.inr (Or.inr (Or.inr (Or.inr (Or.inr (Or.inr (Or.inr (Or.inr (Or.inr (Or.inr (Or.inl ⟨rfl, rfl, hp196⟩)))))))))))))))))))))))))))) (Nat.le_of_ble_eq_true rfl) rfl (fun t194 r193 hr197 => ?_)
      replace h := h t194 r193 hr197
      refine tt_icmp_eq (q := 626) (t := 1272) dL_law_623 rfl rfl (fun c => ?_) (fun c => ?_)
      · replace h := h.1 c
        refine inc_3 (q := 1275) dL_law_1272 (nI_inc4 _) rfl rfl ?_
        refine tt_goto (t := 18) dL_law_1275 rfl ?_
        exact h
      · replace h := h.2 c
        refine tt_iconst (q := 627) dL_law_626 ki_0 rfl ?_
        exact tt_iret dL_law_627 (congrArg some h)
    by_cases c14 : ((xs i) &&& (nI 63)) = nI 14
    · replace h := h.2.2.2.2.2.2.2.2.2.2.2.2.2.2.1 c14
      refine tt_tswI (t := 628) (off := 596) dL_law_32 (by rw [c14]; decide) (by rw [c14]; decide) (by rw [c14]; decide) rfl ?_
      refine tt_aload_n (q := 629) dL_law_628 rfl rfl ?_
      refine tt_aload_n (q := 630) dL_law_629 rfl rfl ?_
      refine tt_iload_n (q := 631) dL_law_630 rfl rfl ?_
      refine tt_iconst (q := 632) dL_law_631 ki_1 rfl ?_
      refine tt_iaddN (q := 633) dL_law_632 rfl ?_
      obtain ⟨l199, h⟩ := h
      refine tt_sld (q := 634) dL_law_633 rfl rfl l199 hLn rfl ?_
      refine tt_aload_n (q := 635) dL_law_634 rfl rfl ?_
      refine tt_iload_n (q := 636) dL_law_635 rfl rfl ?_
      refine tt_iconst (q := 637) dL_law_636 ki_2 rfl ?_
      refine tt_iaddN (q := 638) dL_law_637 rfl ?_
      obtain ⟨l200, h⟩ := h
      refine tt_sld (q := 639) dL_law_638 rfl rfl l200 hLn rfl ?_
      obtain ⟨p203, hp204, h⟩ := h
      refine callVi_2 (q := 642) dL_law_639 (Or.inr (Or.inr (Or.inr (Or.inr (Or.inr (Or.inr (Or.inr (Or.inr (Or.inr (Or.inr (Or.inr (Or.inr (Or.inr (Or.inr (Or.inr (Or.inr (Or.inr (Or.inr (Or.inr (Or.inr (Or.inr (Or.inr (Or.inr (Or.inr (Or.inr (Or.inr (Or.inr (Or.inr (Or.inl ⟨rfl, rfl, hp204⟩))))))))))))))))))))))))))))) (Nat.le_of_ble_eq_true rfl) rfl (fun t202 r201 hr205 => ?_)
      replace h := h t202 r201 hr205
      refine tt_aload_n (q := 643) dL_law_642 rfl rfl ?_
      refine tt_aload_n (q := 644) dL_law_643 rfl rfl ?_
      refine tt_iload_n (q := 645) dL_law_644 rfl rfl ?_
      refine tt_iconst (q := 646) dL_law_645 ki_1 rfl ?_
      refine tt_iaddN (q := 647) dL_law_646 rfl ?_
      obtain ⟨l206, h⟩ := h
      refine tt_sld (q := 648) dL_law_647 rfl rfl l206 hLn rfl ?_
      refine tt_aload_n (q := 649) dL_law_648 rfl rfl ?_
      refine tt_iload_n (q := 650) dL_law_649 rfl rfl ?_
      refine tt_iconst (q := 651) dL_law_650 ki_2 rfl ?_
      refine tt_iaddN (q := 652) dL_law_651 rfl ?_
      obtain ⟨l207, h⟩ := h
      refine tt_sld (q := 653) dL_law_652 rfl rfl l207 hLn rfl ?_
      obtain ⟨p210, hp211, h⟩ := h
      refine callVi_2 (q := 656) dL_law_653 (Or.inr (Or.inr (Or.inr (Or.inr (Or.inr (Or.inr (Or.inr (Or.inr (Or.inr (Or.inr (Or.inr (Or.inr (Or.inr (Or.inr (Or.inr (Or.inr (Or.inr (Or.inr (Or.inr (Or.inr (Or.inr (Or.inr (Or.inr (Or.inr (Or.inr (Or.inr (Or.inr (Or.inr (Or.inr (Or.inl ⟨rfl, rfl, hp211⟩)))))))))))))))))))))))))))))) (Nat.le_of_ble_eq_true rfl) rfl (fun t209 r208 hr212 => ?_)
      replace h := h t209 r208 hr212
      refine tt_icmp_eq (q := 659) (t := 1272) dL_law_656 rfl rfl (fun c => ?_) (fun c => ?_)
      · replace h := h.1 c
        refine inc_3 (q := 1275) dL_law_1272 (nI_inc4 _) rfl rfl ?_
        refine tt_goto (t := 18) dL_law_1275 rfl ?_
        exact h
      · replace h := h.2 c
        refine tt_iconst (q := 660) dL_law_659 ki_0 rfl ?_
        exact tt_iret dL_law_660 (congrArg some h)
    by_cases c15 : ((xs i) &&& (nI 63)) = nI 15
    · replace h := h.2.2.2.2.2.2.2.2.2.2.2.2.2.2.2.1 c15
      refine tt_tswI (t := 661) (off := 629) dL_law_32 (by rw [c15]; decide) (by rw [c15]; decide) (by rw [c15]; decide) rfl ?_
      refine tt_aload_n (q := 662) dL_law_661 rfl rfl ?_
      refine tt_aload_n (q := 663) dL_law_662 rfl rfl ?_
      refine tt_iload_n (q := 664) dL_law_663 rfl rfl ?_
      refine tt_iconst (q := 665) dL_law_664 ki_1 rfl ?_
      refine tt_iaddN (q := 666) dL_law_665 rfl ?_
      obtain ⟨l214, h⟩ := h
      refine tt_sld (q := 667) dL_law_666 rfl rfl l214 hLn rfl ?_
      refine tt_aload_n (q := 668) dL_law_667 rfl rfl ?_
      refine tt_iload_n (q := 669) dL_law_668 rfl rfl ?_
      refine tt_iconst (q := 670) dL_law_669 ki_2 rfl ?_
      refine tt_iaddN (q := 671) dL_law_670 rfl ?_
      obtain ⟨l215, h⟩ := h
      refine tt_sld (q := 672) dL_law_671 rfl rfl l215 hLn rfl ?_
      obtain ⟨p218, hp219, h⟩ := h
      refine callVi_2 (q := 675) dL_law_672 (Or.inr (Or.inr (Or.inr (Or.inr (Or.inr (Or.inr (Or.inr (Or.inr (Or.inr (Or.inr (Or.inr (Or.inr (Or.inr (Or.inr (Or.inr (Or.inr (Or.inr (Or.inr (Or.inr (Or.inr (Or.inr (Or.inr (Or.inr (Or.inr (Or.inr (Or.inr (Or.inr (Or.inr (Or.inr (Or.inr (Or.inl ⟨rfl, rfl, hp219⟩))))))))))))))))))))))))))))))) (Nat.le_of_ble_eq_true rfl) rfl (fun t217 r216 hr220 => ?_)
      replace h := h t217 r216 hr220
      refine tt_aload_n (q := 676) dL_law_675 rfl rfl ?_
      refine tt_aload_n (q := 677) dL_law_676 rfl rfl ?_
      refine tt_iload_n (q := 678) dL_law_677 rfl rfl ?_
      refine tt_iconst (q := 679) dL_law_678 ki_1 rfl ?_
      refine tt_iaddN (q := 680) dL_law_679 rfl ?_
      obtain ⟨l221, h⟩ := h
      refine tt_sld (q := 681) dL_law_680 rfl rfl l221 hLn rfl ?_
      refine tt_aload_n (q := 682) dL_law_681 rfl rfl ?_
      refine tt_iload_n (q := 683) dL_law_682 rfl rfl ?_
      refine tt_iconst (q := 684) dL_law_683 ki_2 rfl ?_
      refine tt_iaddN (q := 685) dL_law_684 rfl ?_
      obtain ⟨l222, h⟩ := h
      refine tt_sld (q := 686) dL_law_685 rfl rfl l222 hLn rfl ?_
      obtain ⟨p225, hp226, h⟩ := h
      refine callVi_2 (q := 689) dL_law_686 (Or.inr (Or.inr (Or.inr (Or.inr (Or.inr (Or.inr (Or.inr (Or.inr (Or.inr (Or.inr (Or.inr (Or.inr (Or.inr (Or.inr (Or.inr (Or.inr (Or.inr (Or.inr (Or.inr (Or.inr (Or.inr (Or.inr (Or.inr (Or.inr (Or.inr (Or.inr (Or.inr (Or.inr (Or.inr (Or.inr (Or.inr (Or.inl ⟨rfl, rfl, hp226⟩)))))))))))))))))))))))))))))))) (Nat.le_of_ble_eq_true rfl) rfl (fun t224 r223 hr227 => ?_)
      replace h := h t224 r223 hr227
      refine tt_icmp_eq (q := 692) (t := 1272) dL_law_689 rfl rfl (fun c => ?_) (fun c => ?_)
      · replace h := h.1 c
        refine inc_3 (q := 1275) dL_law_1272 (nI_inc4 _) rfl rfl ?_
        refine tt_goto (t := 18) dL_law_1275 rfl ?_
        exact h
      · replace h := h.2 c
        refine tt_iconst (q := 693) dL_law_692 ki_0 rfl ?_
        exact tt_iret dL_law_693 (congrArg some h)
    by_cases c16 : ((xs i) &&& (nI 63)) = nI 16
    · replace h := h.2.2.2.2.2.2.2.2.2.2.2.2.2.2.2.2.1 c16
      refine tt_tswI (t := 694) (off := 662) dL_law_32 (by rw [c16]; decide) (by rw [c16]; decide) (by rw [c16]; decide) rfl ?_
      refine tt_aload_n (q := 695) dL_law_694 rfl rfl ?_
      refine tt_aload_n (q := 696) dL_law_695 rfl rfl ?_
      refine tt_iload_n (q := 697) dL_law_696 rfl rfl ?_
      refine tt_iconst (q := 698) dL_law_697 ki_1 rfl ?_
      refine tt_iaddN (q := 699) dL_law_698 rfl ?_
      obtain ⟨l229, h⟩ := h
      refine tt_sld (q := 700) dL_law_699 rfl rfl l229 hLn rfl ?_
      obtain ⟨p232, hp233, h⟩ := h
      refine callVi_1 (q := 703) dL_law_700 (Or.inr (Or.inr (Or.inr (Or.inr (Or.inr (Or.inr (Or.inr (Or.inr (Or.inr (Or.inr (Or.inr (Or.inr (Or.inr (Or.inr (Or.inr (Or.inr (Or.inr (Or.inr (Or.inr (Or.inr (Or.inr (Or.inr (Or.inr (Or.inr (Or.inr (Or.inr (Or.inr (Or.inr (Or.inr (Or.inr (Or.inr (Or.inr (Or.inl ⟨rfl, rfl, hp233⟩))))))))))))))))))))))))))))))))) (Nat.le_of_ble_eq_true rfl) rfl (fun t231 r230 hr234 => ?_)
      replace h := h t231 r230 hr234
      refine tt_aload_n (q := 704) dL_law_703 rfl rfl ?_
      refine tt_aload_n (q := 705) dL_law_704 rfl rfl ?_
      refine tt_iload_n (q := 706) dL_law_705 rfl rfl ?_
      refine tt_iconst (q := 707) dL_law_706 ki_1 rfl ?_
      refine tt_iaddN (q := 708) dL_law_707 rfl ?_
      obtain ⟨l235, h⟩ := h
      refine tt_sld (q := 709) dL_law_708 rfl rfl l235 hLn rfl ?_
      obtain ⟨p238, hp239, h⟩ := h
      refine callVi_1 (q := 712) dL_law_709 (Or.inr (Or.inr (Or.inr (Or.inr (Or.inr (Or.inr (Or.inr (Or.inr (Or.inr (Or.inr (Or.inr (Or.inr (Or.inr (Or.inr (Or.inr (Or.inr (Or.inr (Or.inr (Or.inr (Or.inr (Or.inr (Or.inr (Or.inr (Or.inr (Or.inr (Or.inr (Or.inr (Or.inr (Or.inr (Or.inr (Or.inr (Or.inr (Or.inr (Or.inl ⟨rfl, rfl, hp239⟩)))))))))))))))))))))))))))))))))) (Nat.le_of_ble_eq_true rfl) rfl (fun t237 r236 hr240 => ?_)
      replace h := h t237 r236 hr240
      refine tt_icmp_eq (q := 715) (t := 1272) dL_law_712 rfl rfl (fun c => ?_) (fun c => ?_)
      · replace h := h.1 c
        refine inc_3 (q := 1275) dL_law_1272 (nI_inc4 _) rfl rfl ?_
        refine tt_goto (t := 18) dL_law_1275 rfl ?_
        exact h
      · replace h := h.2 c
        refine tt_iconst (q := 716) dL_law_715 ki_0 rfl ?_
        exact tt_iret dL_law_716 (congrArg some h)
    by_cases c17 : ((xs i) &&& (nI 63)) = nI 17
    · replace h := h.2.2.2.2.2.2.2.2.2.2.2.2.2.2.2.2.2.1 c17
      refine tt_tswI (t := 717) (off := 685) dL_law_32 (by rw [c17]; decide) (by rw [c17]; decide) (by rw [c17]; decide) rfl ?_
      refine tt_aload_n (q := 718) dL_law_717 rfl rfl ?_
      refine tt_aload_n (q := 719) dL_law_718 rfl rfl ?_
      refine tt_iload_n (q := 720) dL_law_719 rfl rfl ?_
      refine tt_iconst (q := 721) dL_law_720 ki_1 rfl ?_
      refine tt_iaddN (q := 722) dL_law_721 rfl ?_
      obtain ⟨l242, h⟩ := h
      refine tt_sld (q := 723) dL_law_722 rfl rfl l242 hLn rfl ?_
      obtain ⟨p245, hp246, h⟩ := h
      refine callVi_1 (q := 726) dL_law_723 (Or.inr (Or.inr (Or.inr (Or.inr (Or.inr (Or.inr (Or.inr (Or.inr (Or.inr (Or.inr (Or.inr (Or.inr (Or.inr (Or.inr (Or.inr (Or.inr (Or.inr (Or.inr (Or.inr (Or.inr (Or.inr (Or.inr (Or.inr (Or.inr (Or.inr (Or.inr (Or.inr (Or.inr (Or.inr (Or.inr (Or.inr (Or.inr (Or.inr (Or.inr (Or.inl ⟨rfl, rfl, hp246⟩))))))))))))))))))))))))))))))))))) (Nat.le_of_ble_eq_true rfl) rfl (fun t244 r243 hr247 => ?_)
      replace h := h t244 r243 hr247
      refine tt_aload_n (q := 727) dL_law_726 rfl rfl ?_
      refine tt_aload_n (q := 728) dL_law_727 rfl rfl ?_
      refine tt_iload_n (q := 729) dL_law_728 rfl rfl ?_
      refine tt_iconst (q := 730) dL_law_729 ki_1 rfl ?_
      refine tt_iaddN (q := 731) dL_law_730 rfl ?_
      obtain ⟨l248, h⟩ := h
      refine tt_sld (q := 732) dL_law_731 rfl rfl l248 hLn rfl ?_
      obtain ⟨p251, hp252, h⟩ := h
      refine callVi_1 (q := 735) dL_law_732 (Or.inr (Or.inr (Or.inr (Or.inr (Or.inr (Or.inr (Or.inr (Or.inr (Or.inr (Or.inr (Or.inr (Or.inr (Or.inr (Or.inr (Or.inr (Or.inr (Or.inr (Or.inr (Or.inr (Or.inr (Or.inr (Or.inr (Or.inr (Or.inr (Or.inr (Or.inr (Or.inr (Or.inr (Or.inr (Or.inr (Or.inr (Or.inr (Or.inr (Or.inr (Or.inr (Or.inl ⟨rfl, rfl, hp252⟩)))))))))))))))))))))))))))))))))))) (Nat.le_of_ble_eq_true rfl) rfl (fun t250 r249 hr253 => ?_)
      replace h := h t250 r249 hr253
      refine tt_icmp_eq (q := 738) (t := 1272) dL_law_735 rfl rfl (fun c => ?_) (fun c => ?_)
      · replace h := h.1 c
        refine inc_3 (q := 1275) dL_law_1272 (nI_inc4 _) rfl rfl ?_
        refine tt_goto (t := 18) dL_law_1275 rfl ?_
        exact h
      · replace h := h.2 c
        refine tt_iconst (q := 739) dL_law_738 ki_0 rfl ?_
        exact tt_iret dL_law_739 (congrArg some h)
    by_cases c18 : ((xs i) &&& (nI 63)) = nI 18
    · replace h := h.2.2.2.2.2.2.2.2.2.2.2.2.2.2.2.2.2.2.1 c18
      refine tt_tswI (t := 740) (off := 708) dL_law_32 (by rw [c18]; decide) (by rw [c18]; decide) (by rw [c18]; decide) rfl ?_
      refine tt_aload_n (q := 741) dL_law_740 rfl rfl ?_
      refine tt_aload_n (q := 742) dL_law_741 rfl rfl ?_
      refine tt_iload_n (q := 743) dL_law_742 rfl rfl ?_
      refine tt_iconst (q := 744) dL_law_743 ki_1 rfl ?_
      refine tt_iaddN (q := 745) dL_law_744 rfl ?_
      obtain ⟨l255, h⟩ := h
      refine tt_sld (q := 746) dL_law_745 rfl rfl l255 hLn rfl ?_
      refine tt_aload_n (q := 747) dL_law_746 rfl rfl ?_
      refine tt_iload_n (q := 748) dL_law_747 rfl rfl ?_
      refine tt_iconst (q := 749) dL_law_748 ki_2 rfl ?_
      refine tt_iaddN (q := 750) dL_law_749 rfl ?_
      obtain ⟨l256, h⟩ := h
      refine tt_sld (q := 751) dL_law_750 rfl rfl l256 hLn rfl ?_
      obtain ⟨p259, hp260, h⟩ := h
      refine callVi_2 (q := 754) dL_law_751 (Or.inr (Or.inr (Or.inr (Or.inr (Or.inr (Or.inr (Or.inr (Or.inr (Or.inr (Or.inr (Or.inr (Or.inr (Or.inr (Or.inr (Or.inr (Or.inr (Or.inr (Or.inr (Or.inr (Or.inr (Or.inr (Or.inr (Or.inr (Or.inr (Or.inr (Or.inr (Or.inr (Or.inr (Or.inr (Or.inr (Or.inr (Or.inr (Or.inr (Or.inr (Or.inr (Or.inr (Or.inl ⟨rfl, rfl, hp260⟩))))))))))))))))))))))))))))))))))))) (Nat.le_of_ble_eq_true rfl) rfl (fun t258 r257 hr261 => ?_)
      replace h := h t258 r257 hr261
      refine tt_aload_n (q := 755) dL_law_754 rfl rfl ?_
      refine tt_aload_n (q := 756) dL_law_755 rfl rfl ?_
      refine tt_iload_n (q := 757) dL_law_756 rfl rfl ?_
      refine tt_iconst (q := 758) dL_law_757 ki_1 rfl ?_
      refine tt_iaddN (q := 759) dL_law_758 rfl ?_
      obtain ⟨l262, h⟩ := h
      refine tt_sld (q := 760) dL_law_759 rfl rfl l262 hLn rfl ?_
      refine tt_aload_n (q := 761) dL_law_760 rfl rfl ?_
      refine tt_iload_n (q := 762) dL_law_761 rfl rfl ?_
      refine tt_iconst (q := 763) dL_law_762 ki_2 rfl ?_
      refine tt_iaddN (q := 764) dL_law_763 rfl ?_
      obtain ⟨l263, h⟩ := h
      refine tt_sld (q := 765) dL_law_764 rfl rfl l263 hLn rfl ?_
      obtain ⟨p266, hp267, h⟩ := h
      refine callVi_2 (q := 768) dL_law_765 (Or.inr (Or.inr (Or.inr (Or.inr (Or.inr (Or.inr (Or.inr (Or.inr (Or.inr (Or.inr (Or.inr (Or.inr (Or.inr (Or.inr (Or.inr (Or.inr (Or.inr (Or.inr (Or.inr (Or.inr (Or.inr (Or.inr (Or.inr (Or.inr (Or.inr (Or.inr (Or.inr (Or.inr (Or.inr (Or.inr (Or.inr (Or.inr (Or.inr (Or.inr (Or.inr (Or.inr (Or.inr (Or.inl ⟨rfl, rfl, hp267⟩)))))))))))))))))))))))))))))))))))))) (Nat.le_of_ble_eq_true rfl) rfl (fun t265 r264 hr268 => ?_)
      replace h := h t265 r264 hr268
      refine tt_icmp_eq (q := 771) (t := 1272) dL_law_768 rfl rfl (fun c => ?_) (fun c => ?_)
      · replace h := h.1 c
        refine inc_3 (q := 1275) dL_law_1272 (nI_inc4 _) rfl rfl ?_
        refine tt_goto (t := 18) dL_law_1275 rfl ?_
        exact h
      · replace h := h.2 c
        refine tt_iconst (q := 772) dL_law_771 ki_0 rfl ?_
        exact tt_iret dL_law_772 (congrArg some h)
    by_cases c19 : ((xs i) &&& (nI 63)) = nI 19
    · replace h := h.2.2.2.2.2.2.2.2.2.2.2.2.2.2.2.2.2.2.2.1 c19
      refine tt_tswI (t := 773) (off := 741) dL_law_32 (by rw [c19]; decide) (by rw [c19]; decide) (by rw [c19]; decide) rfl ?_
      refine tt_aload_n (q := 774) dL_law_773 rfl rfl ?_
      refine tt_aload_n (q := 775) dL_law_774 rfl rfl ?_
      refine tt_iload_n (q := 776) dL_law_775 rfl rfl ?_
      refine tt_iconst (q := 777) dL_law_776 ki_1 rfl ?_
      refine tt_iaddN (q := 778) dL_law_777 rfl ?_
      obtain ⟨l270, h⟩ := h
      refine tt_sld (q := 779) dL_law_778 rfl rfl l270 hLn rfl ?_
      refine tt_aload_n (q := 780) dL_law_779 rfl rfl ?_
      refine tt_iload_n (q := 781) dL_law_780 rfl rfl ?_
      refine tt_iconst (q := 782) dL_law_781 ki_2 rfl ?_
      refine tt_iaddN (q := 783) dL_law_782 rfl ?_
      obtain ⟨l271, h⟩ := h
      refine tt_sld (q := 784) dL_law_783 rfl rfl l271 hLn rfl ?_
      obtain ⟨p274, hp275, h⟩ := h
      refine callVi_2 (q := 787) dL_law_784 (Or.inr (Or.inr (Or.inr (Or.inr (Or.inr (Or.inr (Or.inr (Or.inr (Or.inr (Or.inr (Or.inr (Or.inr (Or.inr (Or.inr (Or.inr (Or.inr (Or.inr (Or.inr (Or.inr (Or.inr (Or.inr (Or.inr (Or.inr (Or.inr (Or.inr (Or.inr (Or.inr (Or.inr (Or.inr (Or.inr (Or.inr (Or.inr (Or.inr (Or.inr (Or.inr (Or.inr (Or.inr (Or.inr (Or.inl ⟨rfl, rfl, hp275⟩))))))))))))))))))))))))))))))))))))))) (Nat.le_of_ble_eq_true rfl) rfl (fun t273 r272 hr276 => ?_)
      replace h := h t273 r272 hr276
      refine tt_aload_n (q := 788) dL_law_787 rfl rfl ?_
      refine tt_aload_n (q := 789) dL_law_788 rfl rfl ?_
      refine tt_iload_n (q := 790) dL_law_789 rfl rfl ?_
      refine tt_iconst (q := 791) dL_law_790 ki_1 rfl ?_
      refine tt_iaddN (q := 792) dL_law_791 rfl ?_
      obtain ⟨l277, h⟩ := h
      refine tt_sld (q := 793) dL_law_792 rfl rfl l277 hLn rfl ?_
      refine tt_aload_n (q := 794) dL_law_793 rfl rfl ?_
      refine tt_iload_n (q := 795) dL_law_794 rfl rfl ?_
      refine tt_iconst (q := 796) dL_law_795 ki_2 rfl ?_
      refine tt_iaddN (q := 797) dL_law_796 rfl ?_
      obtain ⟨l278, h⟩ := h
      refine tt_sld (q := 798) dL_law_797 rfl rfl l278 hLn rfl ?_
      obtain ⟨p281, hp282, h⟩ := h
      refine callVi_2 (q := 801) dL_law_798 (Or.inr (Or.inr (Or.inr (Or.inr (Or.inr (Or.inr (Or.inr (Or.inr (Or.inr (Or.inr (Or.inr (Or.inr (Or.inr (Or.inr (Or.inr (Or.inr (Or.inr (Or.inr (Or.inr (Or.inr (Or.inr (Or.inr (Or.inr (Or.inr (Or.inr (Or.inr (Or.inr (Or.inr (Or.inr (Or.inr (Or.inr (Or.inr (Or.inr (Or.inr (Or.inr (Or.inr (Or.inr (Or.inr (Or.inr (Or.inl ⟨rfl, rfl, hp282⟩)))))))))))))))))))))))))))))))))))))))) (Nat.le_of_ble_eq_true rfl) rfl (fun t280 r279 hr283 => ?_)
      replace h := h t280 r279 hr283
      refine tt_icmp_eq (q := 804) (t := 1272) dL_law_801 rfl rfl (fun c => ?_) (fun c => ?_)
      · replace h := h.1 c
        refine inc_3 (q := 1275) dL_law_1272 (nI_inc4 _) rfl rfl ?_
        refine tt_goto (t := 18) dL_law_1275 rfl ?_
        exact h
      · replace h := h.2 c
        refine tt_iconst (q := 805) dL_law_804 ki_0 rfl ?_
        exact tt_iret dL_law_805 (congrArg some h)
    by_cases c20 : ((xs i) &&& (nI 63)) = nI 20
    · replace h := h.2.2.2.2.2.2.2.2.2.2.2.2.2.2.2.2.2.2.2.2.1 c20
      refine tt_tswI (t := 806) (off := 774) dL_law_32 (by rw [c20]; decide) (by rw [c20]; decide) (by rw [c20]; decide) rfl ?_
      refine tt_aload_n (q := 807) dL_law_806 rfl rfl ?_
      refine tt_aload_n (q := 808) dL_law_807 rfl rfl ?_
      refine tt_iload_n (q := 809) dL_law_808 rfl rfl ?_
      refine tt_iconst (q := 810) dL_law_809 ki_1 rfl ?_
      refine tt_iaddN (q := 811) dL_law_810 rfl ?_
      obtain ⟨l285, h⟩ := h
      refine tt_sld (q := 812) dL_law_811 rfl rfl l285 hLn rfl ?_
      obtain ⟨p288, hp289, h⟩ := h
      refine callVi_1 (q := 815) dL_law_812 (Or.inr (Or.inr (Or.inr (Or.inr (Or.inr (Or.inr (Or.inr (Or.inr (Or.inr (Or.inr (Or.inr (Or.inr (Or.inr (Or.inr (Or.inr (Or.inr (Or.inr (Or.inr (Or.inr (Or.inr (Or.inr (Or.inr (Or.inr (Or.inr (Or.inr (Or.inr (Or.inr (Or.inr (Or.inr (Or.inr (Or.inr (Or.inr (Or.inr (Or.inr (Or.inr (Or.inr (Or.inr (Or.inr (Or.inr (Or.inr (Or.inl ⟨rfl, rfl, hp289⟩))))))))))))))))))))))))))))))))))))))))) (Nat.le_of_ble_eq_true rfl) rfl (fun t287 r286 hr290 => ?_)
      replace h := h t287 r286 hr290
      refine tt_aload_n (q := 816) dL_law_815 rfl rfl ?_
      refine tt_aload_n (q := 817) dL_law_816 rfl rfl ?_
      refine tt_iload_n (q := 818) dL_law_817 rfl rfl ?_
      refine tt_iconst (q := 819) dL_law_818 ki_1 rfl ?_
      refine tt_iaddN (q := 820) dL_law_819 rfl ?_
      obtain ⟨l291, h⟩ := h
      refine tt_sld (q := 821) dL_law_820 rfl rfl l291 hLn rfl ?_
      obtain ⟨p294, hp295, h⟩ := h
      refine callVi_1 (q := 824) dL_law_821 (Or.inr (Or.inr (Or.inr (Or.inr (Or.inr (Or.inr (Or.inr (Or.inr (Or.inr (Or.inr (Or.inr (Or.inr (Or.inr (Or.inr (Or.inr (Or.inr (Or.inr (Or.inr (Or.inr (Or.inr (Or.inr (Or.inr (Or.inr (Or.inr (Or.inr (Or.inr (Or.inr (Or.inr (Or.inr (Or.inr (Or.inr (Or.inr (Or.inr (Or.inr (Or.inr (Or.inr (Or.inr (Or.inr (Or.inr (Or.inr (Or.inr (Or.inl ⟨rfl, rfl, hp295⟩)))))))))))))))))))))))))))))))))))))))))) (Nat.le_of_ble_eq_true rfl) rfl (fun t293 r292 hr296 => ?_)
      replace h := h t293 r292 hr296
      refine tt_icmp_eq (q := 827) (t := 1272) dL_law_824 rfl rfl (fun c => ?_) (fun c => ?_)
      · replace h := h.1 c
        refine inc_3 (q := 1275) dL_law_1272 (nI_inc4 _) rfl rfl ?_
        refine tt_goto (t := 18) dL_law_1275 rfl ?_
        exact h
      · replace h := h.2 c
        refine tt_iconst (q := 828) dL_law_827 ki_0 rfl ?_
        exact tt_iret dL_law_828 (congrArg some h)
    by_cases c21 : ((xs i) &&& (nI 63)) = nI 21
    · replace h := h.2.2.2.2.2.2.2.2.2.2.2.2.2.2.2.2.2.2.2.2.2.1 c21
      refine tt_tswI (t := 829) (off := 797) dL_law_32 (by rw [c21]; decide) (by rw [c21]; decide) (by rw [c21]; decide) rfl ?_
      refine tt_aload_n (q := 830) dL_law_829 rfl rfl ?_
      obtain ⟨p300, hp301, h⟩ := h
      refine callVi_0 (q := 833) dL_law_830 (Or.inr (Or.inr (Or.inr (Or.inr (Or.inr (Or.inr (Or.inr (Or.inr (Or.inr (Or.inr (Or.inr (Or.inr (Or.inr (Or.inr (Or.inr (Or.inr (Or.inr (Or.inr (Or.inr (Or.inr (Or.inr (Or.inr (Or.inr (Or.inr (Or.inr (Or.inr (Or.inr (Or.inr (Or.inr (Or.inr (Or.inr (Or.inr (Or.inr (Or.inr (Or.inr (Or.inr (Or.inr (Or.inr (Or.inr (Or.inr (Or.inr (Or.inr (Or.inl ⟨rfl, rfl, hp301⟩))))))))))))))))))))))))))))))))))))))))))) (Nat.le_of_ble_eq_true rfl) rfl (fun t299 r298 hr302 => ?_)
      replace h := h t299 r298 hr302
      refine tt_aload_n (q := 834) dL_law_833 rfl rfl ?_
      obtain ⟨p305, hp306, h⟩ := h
      refine callVi_0 (q := 837) dL_law_834 (Or.inr (Or.inr (Or.inr (Or.inr (Or.inr (Or.inr (Or.inr (Or.inr (Or.inr (Or.inr (Or.inr (Or.inr (Or.inr (Or.inr (Or.inr (Or.inr (Or.inr (Or.inr (Or.inr (Or.inr (Or.inr (Or.inr (Or.inr (Or.inr (Or.inr (Or.inr (Or.inr (Or.inr (Or.inr (Or.inr (Or.inr (Or.inr (Or.inr (Or.inr (Or.inr (Or.inr (Or.inr (Or.inr (Or.inr (Or.inr (Or.inr (Or.inr (Or.inr (Or.inl ⟨rfl, rfl, hp306⟩)))))))))))))))))))))))))))))))))))))))))))) (Nat.le_of_ble_eq_true rfl) rfl (fun t304 r303 hr307 => ?_)
      replace h := h t304 r303 hr307
      refine tt_icmp_eq (q := 840) (t := 1272) dL_law_837 rfl rfl (fun c => ?_) (fun c => ?_)
      · replace h := h.1 c
        refine inc_3 (q := 1275) dL_law_1272 (nI_inc4 _) rfl rfl ?_
        refine tt_goto (t := 18) dL_law_1275 rfl ?_
        exact h
      · replace h := h.2 c
        refine tt_iconst (q := 841) dL_law_840 ki_0 rfl ?_
        exact tt_iret dL_law_841 (congrArg some h)
    by_cases c22 : ((xs i) &&& (nI 63)) = nI 22
    · replace h := h.2.2.2.2.2.2.2.2.2.2.2.2.2.2.2.2.2.2.2.2.2.2.1 c22
      refine tt_tswI (t := 842) (off := 810) dL_law_32 (by rw [c22]; decide) (by rw [c22]; decide) (by rw [c22]; decide) rfl ?_
      refine tt_aload_n (q := 843) dL_law_842 rfl rfl ?_
      obtain ⟨p311, hp312, h⟩ := h
      refine callVi_0 (q := 846) dL_law_843 (Or.inr (Or.inr (Or.inr (Or.inr (Or.inr (Or.inr (Or.inr (Or.inr (Or.inr (Or.inr (Or.inr (Or.inr (Or.inr (Or.inr (Or.inr (Or.inr (Or.inr (Or.inr (Or.inr (Or.inr (Or.inr (Or.inr (Or.inr (Or.inr (Or.inr (Or.inr (Or.inr (Or.inr (Or.inr (Or.inr (Or.inr (Or.inr (Or.inr (Or.inr (Or.inr (Or.inr (Or.inr (Or.inr (Or.inr (Or.inr (Or.inr (Or.inr (Or.inr (Or.inr (Or.inl ⟨rfl, rfl, hp312⟩))))))))))))))))))))))))))))))))))))))))))))) (Nat.le_of_ble_eq_true rfl) rfl (fun t310 r309 hr313 => ?_)
      replace h := h t310 r309 hr313
      refine tt_aload_n (q := 847) dL_law_846 rfl rfl ?_
      obtain ⟨p316, hp317, h⟩ := h
      refine callVi_0 (q := 850) dL_law_847 (Or.inr (Or.inr (Or.inr (Or.inr (Or.inr (Or.inr (Or.inr (Or.inr (Or.inr (Or.inr (Or.inr (Or.inr (Or.inr (Or.inr (Or.inr (Or.inr (Or.inr (Or.inr (Or.inr (Or.inr (Or.inr (Or.inr (Or.inr (Or.inr (Or.inr (Or.inr (Or.inr (Or.inr (Or.inr (Or.inr (Or.inr (Or.inr (Or.inr (Or.inr (Or.inr (Or.inr (Or.inr (Or.inr (Or.inr (Or.inr (Or.inr (Or.inr (Or.inr (Or.inr (Or.inr (Or.inl ⟨rfl, rfl, hp317⟩)))))))))))))))))))))))))))))))))))))))))))))) (Nat.le_of_ble_eq_true rfl) rfl (fun t315 r314 hr318 => ?_)
      replace h := h t315 r314 hr318
      refine tt_icmp_eq (q := 853) (t := 1272) dL_law_850 rfl rfl (fun c => ?_) (fun c => ?_)
      · replace h := h.1 c
        refine inc_3 (q := 1275) dL_law_1272 (nI_inc4 _) rfl rfl ?_
        refine tt_goto (t := 18) dL_law_1275 rfl ?_
        exact h
      · replace h := h.2 c
        refine tt_iconst (q := 854) dL_law_853 ki_0 rfl ?_
        exact tt_iret dL_law_854 (congrArg some h)
    by_cases c23 : ((xs i) &&& (nI 63)) = nI 23
    · replace h := h.2.2.2.2.2.2.2.2.2.2.2.2.2.2.2.2.2.2.2.2.2.2.2.1 c23
      refine tt_tswI (t := 855) (off := 823) dL_law_32 (by rw [c23]; decide) (by rw [c23]; decide) (by rw [c23]; decide) rfl ?_
      refine tt_aload_n (q := 856) dL_law_855 rfl rfl ?_
      refine tt_aload_n (q := 857) dL_law_856 rfl rfl ?_
      refine tt_iload_n (q := 858) dL_law_857 rfl rfl ?_
      refine tt_iconst (q := 859) dL_law_858 ki_1 rfl ?_
      refine tt_iaddN (q := 860) dL_law_859 rfl ?_
      obtain ⟨l320, h⟩ := h
      refine tt_sld (q := 861) dL_law_860 rfl rfl l320 hLn rfl ?_
      refine tt_aload_n (q := 862) dL_law_861 rfl rfl ?_
      refine tt_iload_n (q := 863) dL_law_862 rfl rfl ?_
      refine tt_iconst (q := 864) dL_law_863 ki_2 rfl ?_
      refine tt_iaddN (q := 865) dL_law_864 rfl ?_
      obtain ⟨l321, h⟩ := h
      refine tt_sld (q := 866) dL_law_865 rfl rfl l321 hLn rfl ?_
      obtain ⟨p324, hp325, h⟩ := h
      refine callVi_2 (q := 869) dL_law_866 (Or.inr (Or.inr (Or.inr (Or.inr (Or.inr (Or.inr (Or.inr (Or.inr (Or.inr (Or.inr (Or.inr (Or.inr (Or.inr (Or.inr (Or.inr (Or.inr (Or.inr (Or.inr (Or.inr (Or.inr (Or.inr (Or.inr (Or.inr (Or.inr (Or.inr (Or.inr (Or.inr (Or.inr (Or.inr (Or.inr (Or.inr (Or.inr (Or.inr (Or.inr (Or.inr (Or.inr (Or.inr (Or.inr (Or.inr (Or.inr (Or.inr (Or.inr (Or.inr (Or.inr (Or.inr (Or.inr (Or.inl ⟨rfl, rfl, hp325⟩))))))))))))))))))))))))))))))))))))))))))))))) (Nat.le_of_ble_eq_true rfl) rfl (fun t323 r322 hr326 => ?_)
      replace h := h t323 r322 hr326
      refine tt_aload_n (q := 870) dL_law_869 rfl rfl ?_
      refine tt_aload_n (q := 871) dL_law_870 rfl rfl ?_
      refine tt_iload_n (q := 872) dL_law_871 rfl rfl ?_
      refine tt_iconst (q := 873) dL_law_872 ki_1 rfl ?_
      refine tt_iaddN (q := 874) dL_law_873 rfl ?_
      obtain ⟨l327, h⟩ := h
      refine tt_sld (q := 875) dL_law_874 rfl rfl l327 hLn rfl ?_
      refine tt_aload_n (q := 876) dL_law_875 rfl rfl ?_
      refine tt_iload_n (q := 877) dL_law_876 rfl rfl ?_
      refine tt_iconst (q := 878) dL_law_877 ki_2 rfl ?_
      refine tt_iaddN (q := 879) dL_law_878 rfl ?_
      obtain ⟨l328, h⟩ := h
      refine tt_sld (q := 880) dL_law_879 rfl rfl l328 hLn rfl ?_
      obtain ⟨p331, hp332, h⟩ := h
      refine callVi_2 (q := 883) dL_law_880 (Or.inr (Or.inr (Or.inr (Or.inr (Or.inr (Or.inr (Or.inr (Or.inr (Or.inr (Or.inr (Or.inr (Or.inr (Or.inr (Or.inr (Or.inr (Or.inr (Or.inr (Or.inr (Or.inr (Or.inr (Or.inr (Or.inr (Or.inr (Or.inr (Or.inr (Or.inr (Or.inr (Or.inr (Or.inr (Or.inr (Or.inr (Or.inr (Or.inr (Or.inr (Or.inr (Or.inr (Or.inr (Or.inr (Or.inr (Or.inr (Or.inr (Or.inr (Or.inr (Or.inr (Or.inr (Or.inr (Or.inr (Or.inl ⟨rfl, rfl, hp332⟩)))))))))))))))))))))))))))))))))))))))))))))))) (Nat.le_of_ble_eq_true rfl) rfl (fun t330 r329 hr333 => ?_)
      replace h := h t330 r329 hr333
      refine tt_icmp_eq (q := 886) (t := 1272) dL_law_883 rfl rfl (fun c => ?_) (fun c => ?_)
      · replace h := h.1 c
        refine inc_3 (q := 1275) dL_law_1272 (nI_inc4 _) rfl rfl ?_
        refine tt_goto (t := 18) dL_law_1275 rfl ?_
        exact h
      · replace h := h.2 c
        refine tt_iconst (q := 887) dL_law_886 ki_0 rfl ?_
        exact tt_iret dL_law_887 (congrArg some h)
    by_cases c24 : ((xs i) &&& (nI 63)) = nI 24
    · replace h := h.2.2.2.2.2.2.2.2.2.2.2.2.2.2.2.2.2.2.2.2.2.2.2.2.1 c24
      refine tt_tswI (t := 888) (off := 856) dL_law_32 (by rw [c24]; decide) (by rw [c24]; decide) (by rw [c24]; decide) rfl ?_
      refine tt_aload_n (q := 889) dL_law_888 rfl rfl ?_
      obtain ⟨p337, hp338, h⟩ := h
      refine callVi_0 (q := 892) dL_law_889 (Or.inr (Or.inr (Or.inr (Or.inr (Or.inr (Or.inr (Or.inr (Or.inr (Or.inr (Or.inr (Or.inr (Or.inr (Or.inr (Or.inr (Or.inr (Or.inr (Or.inr (Or.inr (Or.inr (Or.inr (Or.inr (Or.inr (Or.inr (Or.inr (Or.inr (Or.inr (Or.inr (Or.inr (Or.inr (Or.inr (Or.inr (Or.inr (Or.inr (Or.inr (Or.inr (Or.inr (Or.inr (Or.inr (Or.inr (Or.inr (Or.inr (Or.inr (Or.inr (Or.inr (Or.inr (Or.inr (Or.inr (Or.inr (Or.inl ⟨rfl, rfl, hp338⟩))))))))))))))))))))))))))))))))))))))))))))))))) (Nat.le_of_ble_eq_true rfl) rfl (fun t336 r335 hr339 => ?_)
      replace h := h t336 r335 hr339
      refine tt_aload_n (q := 893) dL_law_892 rfl rfl ?_
      obtain ⟨p342, hp343, h⟩ := h
      refine callVi_0 (q := 896) dL_law_893 (Or.inr (Or.inr (Or.inr (Or.inr (Or.inr (Or.inr (Or.inr (Or.inr (Or.inr (Or.inr (Or.inr (Or.inr (Or.inr (Or.inr (Or.inr (Or.inr (Or.inr (Or.inr (Or.inr (Or.inr (Or.inr (Or.inr (Or.inr (Or.inr (Or.inr (Or.inr (Or.inr (Or.inr (Or.inr (Or.inr (Or.inr (Or.inr (Or.inr (Or.inr (Or.inr (Or.inr (Or.inr (Or.inr (Or.inr (Or.inr (Or.inr (Or.inr (Or.inr (Or.inr (Or.inr (Or.inr (Or.inr (Or.inr (Or.inr (Or.inl ⟨rfl, rfl, hp343⟩)))))))))))))))))))))))))))))))))))))))))))))))))) (Nat.le_of_ble_eq_true rfl) rfl (fun t341 r340 hr344 => ?_)
      replace h := h t341 r340 hr344
      refine tt_icmp_eq (q := 899) (t := 1272) dL_law_896 rfl rfl (fun c => ?_) (fun c => ?_)
      · replace h := h.1 c
        refine inc_3 (q := 1275) dL_law_1272 (nI_inc4 _) rfl rfl ?_
        refine tt_goto (t := 18) dL_law_1275 rfl ?_
        exact h
      · replace h := h.2 c
        refine tt_iconst (q := 900) dL_law_899 ki_0 rfl ?_
        exact tt_iret dL_law_900 (congrArg some h)
    by_cases c25 : ((xs i) &&& (nI 63)) = nI 25
    · replace h := h.2.2.2.2.2.2.2.2.2.2.2.2.2.2.2.2.2.2.2.2.2.2.2.2.2.1 c25
      refine tt_tswI (t := 901) (off := 869) dL_law_32 (by rw [c25]; decide) (by rw [c25]; decide) (by rw [c25]; decide) rfl ?_
      refine tt_aload_n (q := 902) dL_law_901 rfl rfl ?_
      refine tt_aload_n (q := 903) dL_law_902 rfl rfl ?_
      refine tt_iload_n (q := 904) dL_law_903 rfl rfl ?_
      refine tt_iconst (q := 905) dL_law_904 ki_1 rfl ?_
      refine tt_iaddN (q := 906) dL_law_905 rfl ?_
      obtain ⟨l346, h⟩ := h
      refine tt_sld (q := 907) dL_law_906 rfl rfl l346 hLn rfl ?_
      obtain ⟨p349, hp350, h⟩ := h
      refine callVi_1 (q := 910) dL_law_907 (Or.inr (Or.inr (Or.inr (Or.inr (Or.inr (Or.inr (Or.inr (Or.inr (Or.inr (Or.inr (Or.inr (Or.inr (Or.inr (Or.inr (Or.inr (Or.inr (Or.inr (Or.inr (Or.inr (Or.inr (Or.inr (Or.inr (Or.inr (Or.inr (Or.inr (Or.inr (Or.inr (Or.inr (Or.inr (Or.inr (Or.inr (Or.inr (Or.inr (Or.inr (Or.inr (Or.inr (Or.inr (Or.inr (Or.inr (Or.inr (Or.inr (Or.inr (Or.inr (Or.inr (Or.inr (Or.inr (Or.inr (Or.inr (Or.inr (Or.inr (Or.inl ⟨rfl, rfl, hp350⟩))))))))))))))))))))))))))))))))))))))))))))))))))) (Nat.le_of_ble_eq_true rfl) rfl (fun t348 r347 hr351 => ?_)
      replace h := h t348 r347 hr351
      refine tt_aload_n (q := 911) dL_law_910 rfl rfl ?_
      refine tt_aload_n (q := 912) dL_law_911 rfl rfl ?_
      refine tt_iload_n (q := 913) dL_law_912 rfl rfl ?_
      refine tt_iconst (q := 914) dL_law_913 ki_1 rfl ?_
      refine tt_iaddN (q := 915) dL_law_914 rfl ?_
      obtain ⟨l352, h⟩ := h
      refine tt_sld (q := 916) dL_law_915 rfl rfl l352 hLn rfl ?_
      obtain ⟨p355, hp356, h⟩ := h
      refine callVi_1 (q := 919) dL_law_916 (Or.inr (Or.inr (Or.inr (Or.inr (Or.inr (Or.inr (Or.inr (Or.inr (Or.inr (Or.inr (Or.inr (Or.inr (Or.inr (Or.inr (Or.inr (Or.inr (Or.inr (Or.inr (Or.inr (Or.inr (Or.inr (Or.inr (Or.inr (Or.inr (Or.inr (Or.inr (Or.inr (Or.inr (Or.inr (Or.inr (Or.inr (Or.inr (Or.inr (Or.inr (Or.inr (Or.inr (Or.inr (Or.inr (Or.inr (Or.inr (Or.inr (Or.inr (Or.inr (Or.inr (Or.inr (Or.inr (Or.inr (Or.inr (Or.inr (Or.inr (Or.inr (Or.inl ⟨rfl, rfl, hp356⟩)))))))))))))))))))))))))))))))))))))))))))))))))))) (Nat.le_of_ble_eq_true rfl) rfl (fun t354 r353 hr357 => ?_)
      replace h := h t354 r353 hr357
      refine tt_icmp_eq (q := 922) (t := 1272) dL_law_919 rfl rfl (fun c => ?_) (fun c => ?_)
      · replace h := h.1 c
        refine inc_3 (q := 1275) dL_law_1272 (nI_inc4 _) rfl rfl ?_
        refine tt_goto (t := 18) dL_law_1275 rfl ?_
        exact h
      · replace h := h.2 c
        refine tt_iconst (q := 923) dL_law_922 ki_0 rfl ?_
        exact tt_iret dL_law_923 (congrArg some h)
    by_cases c26 : ((xs i) &&& (nI 63)) = nI 26
    · replace h := h.2.2.2.2.2.2.2.2.2.2.2.2.2.2.2.2.2.2.2.2.2.2.2.2.2.2.1 c26
      refine tt_tswI (t := 924) (off := 892) dL_law_32 (by rw [c26]; decide) (by rw [c26]; decide) (by rw [c26]; decide) rfl ?_
      refine tt_aload_n (q := 925) dL_law_924 rfl rfl ?_
      obtain ⟨p361, hp362, h⟩ := h
      refine callVi_0 (q := 928) dL_law_925 (Or.inr (Or.inr (Or.inr (Or.inr (Or.inr (Or.inr (Or.inr (Or.inr (Or.inr (Or.inr (Or.inr (Or.inr (Or.inr (Or.inr (Or.inr (Or.inr (Or.inr (Or.inr (Or.inr (Or.inr (Or.inr (Or.inr (Or.inr (Or.inr (Or.inr (Or.inr (Or.inr (Or.inr (Or.inr (Or.inr (Or.inr (Or.inr (Or.inr (Or.inr (Or.inr (Or.inr (Or.inr (Or.inr (Or.inr (Or.inr (Or.inr (Or.inr (Or.inr (Or.inr (Or.inr (Or.inr (Or.inr (Or.inr (Or.inr (Or.inr (Or.inr (Or.inr (Or.inl ⟨rfl, rfl, hp362⟩))))))))))))))))))))))))))))))))))))))))))))))))))))) (Nat.le_of_ble_eq_true rfl) rfl (fun t360 r359 hr363 => ?_)
      replace h := h t360 r359 hr363
      refine tt_aload_n (q := 929) dL_law_928 rfl rfl ?_
      obtain ⟨p366, hp367, h⟩ := h
      refine callVi_0 (q := 932) dL_law_929 (Or.inr (Or.inr (Or.inr (Or.inr (Or.inr (Or.inr (Or.inr (Or.inr (Or.inr (Or.inr (Or.inr (Or.inr (Or.inr (Or.inr (Or.inr (Or.inr (Or.inr (Or.inr (Or.inr (Or.inr (Or.inr (Or.inr (Or.inr (Or.inr (Or.inr (Or.inr (Or.inr (Or.inr (Or.inr (Or.inr (Or.inr (Or.inr (Or.inr (Or.inr (Or.inr (Or.inr (Or.inr (Or.inr (Or.inr (Or.inr (Or.inr (Or.inr (Or.inr (Or.inr (Or.inr (Or.inr (Or.inr (Or.inr (Or.inr (Or.inr (Or.inr (Or.inr (Or.inr (Or.inl ⟨rfl, rfl, hp367⟩)))))))))))))))))))))))))))))))))))))))))))))))))))))) (Nat.le_of_ble_eq_true rfl) rfl (fun t365 r364 hr368 => ?_)
      replace h := h t365 r364 hr368
      refine tt_icmp_eq (q := 935) (t := 1272) dL_law_932 rfl rfl (fun c => ?_) (fun c => ?_)
      · replace h := h.1 c
        refine inc_3 (q := 1275) dL_law_1272 (nI_inc4 _) rfl rfl ?_
        refine tt_goto (t := 18) dL_law_1275 rfl ?_
        exact h
      · replace h := h.2 c
        refine tt_iconst (q := 936) dL_law_935 ki_0 rfl ?_
        exact tt_iret dL_law_936 (congrArg some h)
    by_cases c27 : ((xs i) &&& (nI 63)) = nI 27
    · replace h := h.2.2.2.2.2.2.2.2.2.2.2.2.2.2.2.2.2.2.2.2.2.2.2.2.2.2.2.1 c27
      refine tt_tswI (t := 937) (off := 905) dL_law_32 (by rw [c27]; decide) (by rw [c27]; decide) (by rw [c27]; decide) rfl ?_
      refine tt_aload_n (q := 938) dL_law_937 rfl rfl ?_
      obtain ⟨p372, hp373, h⟩ := h
      refine callVi_0 (q := 941) dL_law_938 (Or.inr (Or.inr (Or.inr (Or.inr (Or.inr (Or.inr (Or.inr (Or.inr (Or.inr (Or.inr (Or.inr (Or.inr (Or.inr (Or.inr (Or.inr (Or.inr (Or.inr (Or.inr (Or.inr (Or.inr (Or.inr (Or.inr (Or.inr (Or.inr (Or.inr (Or.inr (Or.inr (Or.inr (Or.inr (Or.inr (Or.inr (Or.inr (Or.inr (Or.inr (Or.inr (Or.inr (Or.inr (Or.inr (Or.inr (Or.inr (Or.inr (Or.inr (Or.inr (Or.inr (Or.inr (Or.inr (Or.inr (Or.inr (Or.inr (Or.inr (Or.inr (Or.inr (Or.inr (Or.inr (Or.inl ⟨rfl, rfl, hp373⟩))))))))))))))))))))))))))))))))))))))))))))))))))))))) (Nat.le_of_ble_eq_true rfl) rfl (fun t371 r370 hr374 => ?_)
      replace h := h t371 r370 hr374
      refine tt_aload_n (q := 942) dL_law_941 rfl rfl ?_
      obtain ⟨p377, hp378, h⟩ := h
      refine callVi_0 (q := 945) dL_law_942 (Or.inr (Or.inr (Or.inr (Or.inr (Or.inr (Or.inr (Or.inr (Or.inr (Or.inr (Or.inr (Or.inr (Or.inr (Or.inr (Or.inr (Or.inr (Or.inr (Or.inr (Or.inr (Or.inr (Or.inr (Or.inr (Or.inr (Or.inr (Or.inr (Or.inr (Or.inr (Or.inr (Or.inr (Or.inr (Or.inr (Or.inr (Or.inr (Or.inr (Or.inr (Or.inr (Or.inr (Or.inr (Or.inr (Or.inr (Or.inr (Or.inr (Or.inr (Or.inr (Or.inr (Or.inr (Or.inr (Or.inr (Or.inr (Or.inr (Or.inr (Or.inr (Or.inr (Or.inr (Or.inr (Or.inr (Or.inl ⟨rfl, rfl, hp378⟩)))))))))))))))))))))))))))))))))))))))))))))))))))))))) (Nat.le_of_ble_eq_true rfl) rfl (fun t376 r375 hr379 => ?_)
      replace h := h t376 r375 hr379
      refine tt_icmp_eq (q := 948) (t := 1272) dL_law_945 rfl rfl (fun c => ?_) (fun c => ?_)
      · replace h := h.1 c
        refine inc_3 (q := 1275) dL_law_1272 (nI_inc4 _) rfl rfl ?_
        refine tt_goto (t := 18) dL_law_1275 rfl ?_
        exact h
      · replace h := h.2 c
        refine tt_iconst (q := 949) dL_law_948 ki_0 rfl ?_
        exact tt_iret dL_law_949 (congrArg some h)
    by_cases c28 : ((xs i) &&& (nI 63)) = nI 28
    · replace h := h.2.2.2.2.2.2.2.2.2.2.2.2.2.2.2.2.2.2.2.2.2.2.2.2.2.2.2.2.1 c28
      refine tt_tswI (t := 950) (off := 918) dL_law_32 (by rw [c28]; decide) (by rw [c28]; decide) (by rw [c28]; decide) rfl ?_
      refine tt_aload_n (q := 951) dL_law_950 rfl rfl ?_
      refine tt_aload_n (q := 952) dL_law_951 rfl rfl ?_
      refine tt_iload_n (q := 953) dL_law_952 rfl rfl ?_
      refine tt_iconst (q := 954) dL_law_953 ki_1 rfl ?_
      refine tt_iaddN (q := 955) dL_law_954 rfl ?_
      obtain ⟨l381, h⟩ := h
      refine tt_sld (q := 956) dL_law_955 rfl rfl l381 hLn rfl ?_
      refine tt_aload_n (q := 957) dL_law_956 rfl rfl ?_
      refine tt_iload_n (q := 958) dL_law_957 rfl rfl ?_
      refine tt_iconst (q := 959) dL_law_958 ki_2 rfl ?_
      refine tt_iaddN (q := 960) dL_law_959 rfl ?_
      obtain ⟨l382, h⟩ := h
      refine tt_sld (q := 961) dL_law_960 rfl rfl l382 hLn rfl ?_
      obtain ⟨p385, hp386, h⟩ := h
      refine callVi_2 (q := 964) dL_law_961 (Or.inr (Or.inr (Or.inr (Or.inr (Or.inr (Or.inr (Or.inr (Or.inr (Or.inr (Or.inr (Or.inr (Or.inr (Or.inr (Or.inr (Or.inr (Or.inr (Or.inr (Or.inr (Or.inr (Or.inr (Or.inr (Or.inr (Or.inr (Or.inr (Or.inr (Or.inr (Or.inr (Or.inr (Or.inr (Or.inr (Or.inr (Or.inr (Or.inr (Or.inr (Or.inr (Or.inr (Or.inr (Or.inr (Or.inr (Or.inr (Or.inr (Or.inr (Or.inr (Or.inr (Or.inr (Or.inr (Or.inr (Or.inr (Or.inr (Or.inr (Or.inr (Or.inr (Or.inr (Or.inr (Or.inr (Or.inr (Or.inl ⟨rfl, rfl, hp386⟩))))))))))))))))))))))))))))))))))))))))))))))))))))))))) (Nat.le_of_ble_eq_true rfl) rfl (fun t384 r383 hr387 => ?_)
      replace h := h t384 r383 hr387
      refine tt_aload_n (q := 965) dL_law_964 rfl rfl ?_
      refine tt_aload_n (q := 966) dL_law_965 rfl rfl ?_
      refine tt_iload_n (q := 967) dL_law_966 rfl rfl ?_
      refine tt_iconst (q := 968) dL_law_967 ki_1 rfl ?_
      refine tt_iaddN (q := 969) dL_law_968 rfl ?_
      obtain ⟨l388, h⟩ := h
      refine tt_sld (q := 970) dL_law_969 rfl rfl l388 hLn rfl ?_
      refine tt_aload_n (q := 971) dL_law_970 rfl rfl ?_
      refine tt_iload_n (q := 972) dL_law_971 rfl rfl ?_
      refine tt_iconst (q := 973) dL_law_972 ki_2 rfl ?_
      refine tt_iaddN (q := 974) dL_law_973 rfl ?_
      obtain ⟨l389, h⟩ := h
      refine tt_sld (q := 975) dL_law_974 rfl rfl l389 hLn rfl ?_
      obtain ⟨p392, hp393, h⟩ := h
      refine callVi_2 (q := 978) dL_law_975 (Or.inr (Or.inr (Or.inr (Or.inr (Or.inr (Or.inr (Or.inr (Or.inr (Or.inr (Or.inr (Or.inr (Or.inr (Or.inr (Or.inr (Or.inr (Or.inr (Or.inr (Or.inr (Or.inr (Or.inr (Or.inr (Or.inr (Or.inr (Or.inr (Or.inr (Or.inr (Or.inr (Or.inr (Or.inr (Or.inr (Or.inr (Or.inr (Or.inr (Or.inr (Or.inr (Or.inr (Or.inr (Or.inr (Or.inr (Or.inr (Or.inr (Or.inr (Or.inr (Or.inr (Or.inr (Or.inr (Or.inr (Or.inr (Or.inr (Or.inr (Or.inr (Or.inr (Or.inr (Or.inr (Or.inr (Or.inr (Or.inr (Or.inl ⟨rfl, rfl, hp393⟩)))))))))))))))))))))))))))))))))))))))))))))))))))))))))) (Nat.le_of_ble_eq_true rfl) rfl (fun t391 r390 hr394 => ?_)
      replace h := h t391 r390 hr394
      refine tt_icmp_eq (q := 981) (t := 1272) dL_law_978 rfl rfl (fun c => ?_) (fun c => ?_)
      · replace h := h.1 c
        refine inc_3 (q := 1275) dL_law_1272 (nI_inc4 _) rfl rfl ?_
        refine tt_goto (t := 18) dL_law_1275 rfl ?_
        exact h
      · replace h := h.2 c
        refine tt_iconst (q := 982) dL_law_981 ki_0 rfl ?_
        exact tt_iret dL_law_982 (congrArg some h)
    by_cases c29 : ((xs i) &&& (nI 63)) = nI 29
    · replace h := h.2.2.2.2.2.2.2.2.2.2.2.2.2.2.2.2.2.2.2.2.2.2.2.2.2.2.2.2.2.1 c29
      refine tt_tswI (t := 983) (off := 951) dL_law_32 (by rw [c29]; decide) (by rw [c29]; decide) (by rw [c29]; decide) rfl ?_
      refine tt_aload_n (q := 984) dL_law_983 rfl rfl ?_
      refine tt_aload_n (q := 985) dL_law_984 rfl rfl ?_
      refine tt_iload_n (q := 986) dL_law_985 rfl rfl ?_
      refine tt_iconst (q := 987) dL_law_986 ki_1 rfl ?_
      refine tt_iaddN (q := 988) dL_law_987 rfl ?_
      obtain ⟨l396, h⟩ := h
      refine tt_sld (q := 989) dL_law_988 rfl rfl l396 hLn rfl ?_
      refine tt_aload_n (q := 990) dL_law_989 rfl rfl ?_
      refine tt_iload_n (q := 991) dL_law_990 rfl rfl ?_
      refine tt_iconst (q := 992) dL_law_991 ki_2 rfl ?_
      refine tt_iaddN (q := 993) dL_law_992 rfl ?_
      obtain ⟨l397, h⟩ := h
      refine tt_sld (q := 994) dL_law_993 rfl rfl l397 hLn rfl ?_
      obtain ⟨p400, hp401, h⟩ := h
      refine callVi_2 (q := 997) dL_law_994 (Or.inr (Or.inr (Or.inr (Or.inr (Or.inr (Or.inr (Or.inr (Or.inr (Or.inr (Or.inr (Or.inr (Or.inr (Or.inr (Or.inr (Or.inr (Or.inr (Or.inr (Or.inr (Or.inr (Or.inr (Or.inr (Or.inr (Or.inr (Or.inr (Or.inr (Or.inr (Or.inr (Or.inr (Or.inr (Or.inr (Or.inr (Or.inr (Or.inr (Or.inr (Or.inr (Or.inr (Or.inr (Or.inr (Or.inr (Or.inr (Or.inr (Or.inr (Or.inr (Or.inr (Or.inr (Or.inr (Or.inr (Or.inr (Or.inr (Or.inr (Or.inr (Or.inr (Or.inr (Or.inr (Or.inr (Or.inr (Or.inr (Or.inr (Or.inl ⟨rfl, rfl, hp401⟩))))))))))))))))))))))))))))))))))))))))))))))))))))))))))) (Nat.le_of_ble_eq_true rfl) rfl (fun t399 r398 hr402 => ?_)
      replace h := h t399 r398 hr402
      refine tt_aload_n (q := 998) dL_law_997 rfl rfl ?_
      refine tt_aload_n (q := 999) dL_law_998 rfl rfl ?_
      refine tt_iload_n (q := 1000) dL_law_999 rfl rfl ?_
      refine tt_iconst (q := 1001) dL_law_1000 ki_1 rfl ?_
      refine tt_iaddN (q := 1002) dL_law_1001 rfl ?_
      obtain ⟨l403, h⟩ := h
      refine tt_sld (q := 1003) dL_law_1002 rfl rfl l403 hLn rfl ?_
      refine tt_aload_n (q := 1004) dL_law_1003 rfl rfl ?_
      refine tt_iload_n (q := 1005) dL_law_1004 rfl rfl ?_
      refine tt_iconst (q := 1006) dL_law_1005 ki_2 rfl ?_
      refine tt_iaddN (q := 1007) dL_law_1006 rfl ?_
      obtain ⟨l404, h⟩ := h
      refine tt_sld (q := 1008) dL_law_1007 rfl rfl l404 hLn rfl ?_
      obtain ⟨p407, hp408, h⟩ := h
      refine callVi_2 (q := 1011) dL_law_1008 (Or.inr (Or.inr (Or.inr (Or.inr (Or.inr (Or.inr (Or.inr (Or.inr (Or.inr (Or.inr (Or.inr (Or.inr (Or.inr (Or.inr (Or.inr (Or.inr (Or.inr (Or.inr (Or.inr (Or.inr (Or.inr (Or.inr (Or.inr (Or.inr (Or.inr (Or.inr (Or.inr (Or.inr (Or.inr (Or.inr (Or.inr (Or.inr (Or.inr (Or.inr (Or.inr (Or.inr (Or.inr (Or.inr (Or.inr (Or.inr (Or.inr (Or.inr (Or.inr (Or.inr (Or.inr (Or.inr (Or.inr (Or.inr (Or.inr (Or.inr (Or.inr (Or.inr (Or.inr (Or.inr (Or.inr (Or.inr (Or.inr (Or.inr (Or.inr (Or.inl ⟨rfl, rfl, hp408⟩)))))))))))))))))))))))))))))))))))))))))))))))))))))))))))) (Nat.le_of_ble_eq_true rfl) rfl (fun t406 r405 hr409 => ?_)
      replace h := h t406 r405 hr409
      refine tt_icmp_eq (q := 1014) (t := 1272) dL_law_1011 rfl rfl (fun c => ?_) (fun c => ?_)
      · replace h := h.1 c
        refine inc_3 (q := 1275) dL_law_1272 (nI_inc4 _) rfl rfl ?_
        refine tt_goto (t := 18) dL_law_1275 rfl ?_
        exact h
      · replace h := h.2 c
        refine tt_iconst (q := 1015) dL_law_1014 ki_0 rfl ?_
        exact tt_iret dL_law_1015 (congrArg some h)
    by_cases c30 : ((xs i) &&& (nI 63)) = nI 30
    · replace h := h.2.2.2.2.2.2.2.2.2.2.2.2.2.2.2.2.2.2.2.2.2.2.2.2.2.2.2.2.2.2.1 c30
      refine tt_tswI (t := 1016) (off := 984) dL_law_32 (by rw [c30]; decide) (by rw [c30]; decide) (by rw [c30]; decide) rfl ?_
      refine tt_aload_n (q := 1017) dL_law_1016 rfl rfl ?_
      refine tt_aload_n (q := 1018) dL_law_1017 rfl rfl ?_
      refine tt_iload_n (q := 1019) dL_law_1018 rfl rfl ?_
      refine tt_iconst (q := 1020) dL_law_1019 ki_1 rfl ?_
      refine tt_iaddN (q := 1021) dL_law_1020 rfl ?_
      obtain ⟨l411, h⟩ := h
      refine tt_sld (q := 1022) dL_law_1021 rfl rfl l411 hLn rfl ?_
      obtain ⟨p414, hp415, h⟩ := h
      refine callVi_1 (q := 1025) dL_law_1022 (Or.inr (Or.inr (Or.inr (Or.inr (Or.inr (Or.inr (Or.inr (Or.inr (Or.inr (Or.inr (Or.inr (Or.inr (Or.inr (Or.inr (Or.inr (Or.inr (Or.inr (Or.inr (Or.inr (Or.inr (Or.inr (Or.inr (Or.inr (Or.inr (Or.inr (Or.inr (Or.inr (Or.inr (Or.inr (Or.inr (Or.inr (Or.inr (Or.inr (Or.inr (Or.inr (Or.inr (Or.inr (Or.inr (Or.inr (Or.inr (Or.inr (Or.inr (Or.inr (Or.inr (Or.inr (Or.inr (Or.inr (Or.inr (Or.inr (Or.inr (Or.inr (Or.inr (Or.inr (Or.inr (Or.inr (Or.inr (Or.inr (Or.inr (Or.inr (Or.inr (Or.inl ⟨rfl, rfl, hp415⟩))))))))))))))))))))))))))))))))))))))))))))))))))))))))))))) (Nat.le_of_ble_eq_true rfl) rfl (fun t413 r412 hr416 => ?_)
      replace h := h t413 r412 hr416
      refine tt_aload_n (q := 1026) dL_law_1025 rfl rfl ?_
      refine tt_aload_n (q := 1027) dL_law_1026 rfl rfl ?_
      refine tt_iload_n (q := 1028) dL_law_1027 rfl rfl ?_
      refine tt_iconst (q := 1029) dL_law_1028 ki_1 rfl ?_
      refine tt_iaddN (q := 1030) dL_law_1029 rfl ?_
      obtain ⟨l417, h⟩ := h
      refine tt_sld (q := 1031) dL_law_1030 rfl rfl l417 hLn rfl ?_
      obtain ⟨p420, hp421, h⟩ := h
      refine callVi_1 (q := 1034) dL_law_1031 (Or.inr (Or.inr (Or.inr (Or.inr (Or.inr (Or.inr (Or.inr (Or.inr (Or.inr (Or.inr (Or.inr (Or.inr (Or.inr (Or.inr (Or.inr (Or.inr (Or.inr (Or.inr (Or.inr (Or.inr (Or.inr (Or.inr (Or.inr (Or.inr (Or.inr (Or.inr (Or.inr (Or.inr (Or.inr (Or.inr (Or.inr (Or.inr (Or.inr (Or.inr (Or.inr (Or.inr (Or.inr (Or.inr (Or.inr (Or.inr (Or.inr (Or.inr (Or.inr (Or.inr (Or.inr (Or.inr (Or.inr (Or.inr (Or.inr (Or.inr (Or.inr (Or.inr (Or.inr (Or.inr (Or.inr (Or.inr (Or.inr (Or.inr (Or.inr (Or.inr (Or.inr (Or.inl ⟨rfl, rfl, hp421⟩)))))))))))))))))))))))))))))))))))))))))))))))))))))))))))))) (Nat.le_of_ble_eq_true rfl) rfl (fun t419 r418 hr422 => ?_)
      replace h := h t419 r418 hr422
      refine tt_icmp_eq (q := 1037) (t := 1272) dL_law_1034 rfl rfl (fun c => ?_) (fun c => ?_)
      · replace h := h.1 c
        refine inc_3 (q := 1275) dL_law_1272 (nI_inc4 _) rfl rfl ?_
        refine tt_goto (t := 18) dL_law_1275 rfl ?_
        exact h
      · replace h := h.2 c
        refine tt_iconst (q := 1038) dL_law_1037 ki_0 rfl ?_
        exact tt_iret dL_law_1038 (congrArg some h)
    by_cases c31 : ((xs i) &&& (nI 63)) = nI 31
    · replace h := h.2.2.2.2.2.2.2.2.2.2.2.2.2.2.2.2.2.2.2.2.2.2.2.2.2.2.2.2.2.2.2.1 c31
      refine tt_tswI (t := 1039) (off := 1007) dL_law_32 (by rw [c31]; decide) (by rw [c31]; decide) (by rw [c31]; decide) rfl ?_
      refine tt_aload_n (q := 1040) dL_law_1039 rfl rfl ?_
      obtain ⟨p426, hp427, h⟩ := h
      refine callVi_0 (q := 1043) dL_law_1040 (Or.inr (Or.inr (Or.inr (Or.inr (Or.inr (Or.inr (Or.inr (Or.inr (Or.inr (Or.inr (Or.inr (Or.inr (Or.inr (Or.inr (Or.inr (Or.inr (Or.inr (Or.inr (Or.inr (Or.inr (Or.inr (Or.inr (Or.inr (Or.inr (Or.inr (Or.inr (Or.inr (Or.inr (Or.inr (Or.inr (Or.inr (Or.inr (Or.inr (Or.inr (Or.inr (Or.inr (Or.inr (Or.inr (Or.inr (Or.inr (Or.inr (Or.inr (Or.inr (Or.inr (Or.inr (Or.inr (Or.inr (Or.inr (Or.inr (Or.inr (Or.inr (Or.inr (Or.inr (Or.inr (Or.inr (Or.inr (Or.inr (Or.inr (Or.inr (Or.inr (Or.inr (Or.inr (Or.inl ⟨rfl, rfl, hp427⟩))))))))))))))))))))))))))))))))))))))))))))))))))))))))))))))) (Nat.le_of_ble_eq_true rfl) rfl (fun t425 r424 hr428 => ?_)
      replace h := h t425 r424 hr428
      refine tt_aload_n (q := 1044) dL_law_1043 rfl rfl ?_
      obtain ⟨p431, hp432, h⟩ := h
      refine callVi_0 (q := 1047) dL_law_1044 (Or.inr (Or.inr (Or.inr (Or.inr (Or.inr (Or.inr (Or.inr (Or.inr (Or.inr (Or.inr (Or.inr (Or.inr (Or.inr (Or.inr (Or.inr (Or.inr (Or.inr (Or.inr (Or.inr (Or.inr (Or.inr (Or.inr (Or.inr (Or.inr (Or.inr (Or.inr (Or.inr (Or.inr (Or.inr (Or.inr (Or.inr (Or.inr (Or.inr (Or.inr (Or.inr (Or.inr (Or.inr (Or.inr (Or.inr (Or.inr (Or.inr (Or.inr (Or.inr (Or.inr (Or.inr (Or.inr (Or.inr (Or.inr (Or.inr (Or.inr (Or.inr (Or.inr (Or.inr (Or.inr (Or.inr (Or.inr (Or.inr (Or.inr (Or.inr (Or.inr (Or.inr (Or.inr (Or.inr (Or.inl ⟨rfl, rfl, hp432⟩)))))))))))))))))))))))))))))))))))))))))))))))))))))))))))))))) (Nat.le_of_ble_eq_true rfl) rfl (fun t430 r429 hr433 => ?_)
      replace h := h t430 r429 hr433
      refine tt_icmp_eq (q := 1050) (t := 1272) dL_law_1047 rfl rfl (fun c => ?_) (fun c => ?_)
      · replace h := h.1 c
        refine inc_3 (q := 1275) dL_law_1272 (nI_inc4 _) rfl rfl ?_
        refine tt_goto (t := 18) dL_law_1275 rfl ?_
        exact h
      · replace h := h.2 c
        refine tt_iconst (q := 1051) dL_law_1050 ki_0 rfl ?_
        exact tt_iret dL_law_1051 (congrArg some h)
    by_cases c32 : ((xs i) &&& (nI 63)) = nI 32
    · replace h := h.2.2.2.2.2.2.2.2.2.2.2.2.2.2.2.2.2.2.2.2.2.2.2.2.2.2.2.2.2.2.2.2.1 c32
      refine tt_tswI (t := 1052) (off := 1020) dL_law_32 (by rw [c32]; decide) (by rw [c32]; decide) (by rw [c32]; decide) rfl ?_
      refine tt_aload_n (q := 1053) dL_law_1052 rfl rfl ?_
      refine tt_aload_n (q := 1054) dL_law_1053 rfl rfl ?_
      refine tt_iload_n (q := 1055) dL_law_1054 rfl rfl ?_
      refine tt_iconst (q := 1056) dL_law_1055 ki_1 rfl ?_
      refine tt_iaddN (q := 1057) dL_law_1056 rfl ?_
      obtain ⟨l435, h⟩ := h
      refine tt_sld (q := 1058) dL_law_1057 rfl rfl l435 hLn rfl ?_
      obtain ⟨p438, hp439, h⟩ := h
      refine callVi_1 (q := 1061) dL_law_1058 (Or.inr (Or.inr (Or.inr (Or.inr (Or.inr (Or.inr (Or.inr (Or.inr (Or.inr (Or.inr (Or.inr (Or.inr (Or.inr (Or.inr (Or.inr (Or.inr (Or.inr (Or.inr (Or.inr (Or.inr (Or.inr (Or.inr (Or.inr (Or.inr (Or.inr (Or.inr (Or.inr (Or.inr (Or.inr (Or.inr (Or.inr (Or.inr (Or.inr (Or.inr (Or.inr (Or.inr (Or.inr (Or.inr (Or.inr (Or.inr (Or.inr (Or.inr (Or.inr (Or.inr (Or.inr (Or.inr (Or.inr (Or.inr (Or.inr (Or.inr (Or.inr (Or.inr (Or.inr (Or.inr (Or.inr (Or.inr (Or.inr (Or.inr (Or.inr (Or.inr (Or.inr (Or.inr (Or.inr (Or.inr (Or.inl ⟨rfl, rfl, hp439⟩))))))))))))))))))))))))))))))))))))))))))))))))))))))))))))))))) (Nat.le_of_ble_eq_true rfl) rfl (fun t437 r436 hr440 => ?_)
      replace h := h t437 r436 hr440
      refine tt_aload_n (q := 1062) dL_law_1061 rfl rfl ?_
      refine tt_aload_n (q := 1063) dL_law_1062 rfl rfl ?_
      refine tt_iload_n (q := 1064) dL_law_1063 rfl rfl ?_
      refine tt_iconst (q := 1065) dL_law_1064 ki_1 rfl ?_
      refine tt_iaddN (q := 1066) dL_law_1065 rfl ?_
      obtain ⟨l441, h⟩ := h
      refine tt_sld (q := 1067) dL_law_1066 rfl rfl l441 hLn rfl ?_
      obtain ⟨p444, hp445, h⟩ := h
      refine callVi_1 (q := 1070) dL_law_1067 (Or.inr (Or.inr (Or.inr (Or.inr (Or.inr (Or.inr (Or.inr (Or.inr (Or.inr (Or.inr (Or.inr (Or.inr (Or.inr (Or.inr (Or.inr (Or.inr (Or.inr (Or.inr (Or.inr (Or.inr (Or.inr (Or.inr (Or.inr (Or.inr (Or.inr (Or.inr (Or.inr (Or.inr (Or.inr (Or.inr (Or.inr (Or.inr (Or.inr (Or.inr (Or.inr (Or.inr (Or.inr (Or.inr (Or.inr (Or.inr (Or.inr (Or.inr (Or.inr (Or.inr (Or.inr (Or.inr (Or.inr (Or.inr (Or.inr (Or.inr (Or.inr (Or.inr (Or.inr (Or.inr (Or.inr (Or.inr (Or.inr (Or.inr (Or.inr (Or.inr (Or.inr (Or.inr (Or.inr (Or.inr (Or.inr (Or.inl ⟨rfl, rfl, hp445⟩)))))))))))))))))))))))))))))))))))))))))))))))))))))))))))))))))) (Nat.le_of_ble_eq_true rfl) rfl (fun t443 r442 hr446 => ?_)
      replace h := h t443 r442 hr446
      refine tt_icmp_eq (q := 1073) (t := 1272) dL_law_1070 rfl rfl (fun c => ?_) (fun c => ?_)
      · replace h := h.1 c
        refine inc_3 (q := 1275) dL_law_1272 (nI_inc4 _) rfl rfl ?_
        refine tt_goto (t := 18) dL_law_1275 rfl ?_
        exact h
      · replace h := h.2 c
        refine tt_iconst (q := 1074) dL_law_1073 ki_0 rfl ?_
        exact tt_iret dL_law_1074 (congrArg some h)
    by_cases c33 : ((xs i) &&& (nI 63)) = nI 33
    · replace h := h.2.2.2.2.2.2.2.2.2.2.2.2.2.2.2.2.2.2.2.2.2.2.2.2.2.2.2.2.2.2.2.2.2.1 c33
      refine tt_tswI (t := 1075) (off := 1043) dL_law_32 (by rw [c33]; decide) (by rw [c33]; decide) (by rw [c33]; decide) rfl ?_
      refine tt_aload_n (q := 1076) dL_law_1075 rfl rfl ?_
      refine tt_aload_n (q := 1077) dL_law_1076 rfl rfl ?_
      refine tt_iload_n (q := 1078) dL_law_1077 rfl rfl ?_
      refine tt_iconst (q := 1079) dL_law_1078 ki_1 rfl ?_
      refine tt_iaddN (q := 1080) dL_law_1079 rfl ?_
      obtain ⟨l448, h⟩ := h
      refine tt_sld (q := 1081) dL_law_1080 rfl rfl l448 hLn rfl ?_
      obtain ⟨p451, hp452, h⟩ := h
      refine callVi_1 (q := 1084) dL_law_1081 (Or.inr (Or.inr (Or.inr (Or.inr (Or.inr (Or.inr (Or.inr (Or.inr (Or.inr (Or.inr (Or.inr (Or.inr (Or.inr (Or.inr (Or.inr (Or.inr (Or.inr (Or.inr (Or.inr (Or.inr (Or.inr (Or.inr (Or.inr (Or.inr (Or.inr (Or.inr (Or.inr (Or.inr (Or.inr (Or.inr (Or.inr (Or.inr (Or.inr (Or.inr (Or.inr (Or.inr (Or.inr (Or.inr (Or.inr (Or.inr (Or.inr (Or.inr (Or.inr (Or.inr (Or.inr (Or.inr (Or.inr (Or.inr (Or.inr (Or.inr (Or.inr (Or.inr (Or.inr (Or.inr (Or.inr (Or.inr (Or.inr (Or.inr (Or.inr (Or.inr (Or.inr (Or.inr (Or.inr (Or.inr (Or.inr (Or.inr (Or.inl ⟨rfl, rfl, hp452⟩))))))))))))))))))))))))))))))))))))))))))))))))))))))))))))))))))) (Nat.le_of_ble_eq_true rfl) rfl (fun t450 r449 hr453 => ?_)
      replace h := h t450 r449 hr453
      refine tt_aload_n (q := 1085) dL_law_1084 rfl rfl ?_
      refine tt_aload_n (q := 1086) dL_law_1085 rfl rfl ?_
      refine tt_iload_n (q := 1087) dL_law_1086 rfl rfl ?_
      refine tt_iconst (q := 1088) dL_law_1087 ki_1 rfl ?_
      refine tt_iaddN (q := 1089) dL_law_1088 rfl ?_
      obtain ⟨l454, h⟩ := h
      refine tt_sld (q := 1090) dL_law_1089 rfl rfl l454 hLn rfl ?_
      obtain ⟨p457, hp458, h⟩ := h
      refine callVi_1 (q := 1093) dL_law_1090 (Or.inr (Or.inr (Or.inr (Or.inr (Or.inr (Or.inr (Or.inr (Or.inr (Or.inr (Or.inr (Or.inr (Or.inr (Or.inr (Or.inr (Or.inr (Or.inr (Or.inr (Or.inr (Or.inr (Or.inr (Or.inr (Or.inr (Or.inr (Or.inr (Or.inr (Or.inr (Or.inr (Or.inr (Or.inr (Or.inr (Or.inr (Or.inr (Or.inr (Or.inr (Or.inr (Or.inr (Or.inr (Or.inr (Or.inr (Or.inr (Or.inr (Or.inr (Or.inr (Or.inr (Or.inr (Or.inr (Or.inr (Or.inr (Or.inr (Or.inr (Or.inr (Or.inr (Or.inr (Or.inr (Or.inr (Or.inr (Or.inr (Or.inr (Or.inr (Or.inr (Or.inr (Or.inr (Or.inr (Or.inr (Or.inr (Or.inr (Or.inr (Or.inl ⟨rfl, rfl, hp458⟩)))))))))))))))))))))))))))))))))))))))))))))))))))))))))))))))))))) (Nat.le_of_ble_eq_true rfl) rfl (fun t456 r455 hr459 => ?_)
      replace h := h t456 r455 hr459
      refine tt_icmp_eq (q := 1096) (t := 1272) dL_law_1093 rfl rfl (fun c => ?_) (fun c => ?_)
      · replace h := h.1 c
        refine inc_3 (q := 1275) dL_law_1272 (nI_inc4 _) rfl rfl ?_
        refine tt_goto (t := 18) dL_law_1275 rfl ?_
        exact h
      · replace h := h.2 c
        refine tt_iconst (q := 1097) dL_law_1096 ki_0 rfl ?_
        exact tt_iret dL_law_1097 (congrArg some h)
    by_cases c34 : ((xs i) &&& (nI 63)) = nI 34
    · replace h := h.2.2.2.2.2.2.2.2.2.2.2.2.2.2.2.2.2.2.2.2.2.2.2.2.2.2.2.2.2.2.2.2.2.2.1 c34
      refine tt_tswI (t := 1098) (off := 1066) dL_law_32 (by rw [c34]; decide) (by rw [c34]; decide) (by rw [c34]; decide) rfl ?_
      refine tt_aload_n (q := 1099) dL_law_1098 rfl rfl ?_
      refine tt_aload_n (q := 1100) dL_law_1099 rfl rfl ?_
      refine tt_iload_n (q := 1101) dL_law_1100 rfl rfl ?_
      refine tt_iconst (q := 1102) dL_law_1101 ki_1 rfl ?_
      refine tt_iaddN (q := 1103) dL_law_1102 rfl ?_
      obtain ⟨l461, h⟩ := h
      refine tt_sld (q := 1104) dL_law_1103 rfl rfl l461 hLn rfl ?_
      obtain ⟨p464, hp465, h⟩ := h
      refine callVi_1 (q := 1107) dL_law_1104 (Or.inr (Or.inr (Or.inr (Or.inr (Or.inr (Or.inr (Or.inr (Or.inr (Or.inr (Or.inr (Or.inr (Or.inr (Or.inr (Or.inr (Or.inr (Or.inr (Or.inr (Or.inr (Or.inr (Or.inr (Or.inr (Or.inr (Or.inr (Or.inr (Or.inr (Or.inr (Or.inr (Or.inr (Or.inr (Or.inr (Or.inr (Or.inr (Or.inr (Or.inr (Or.inr (Or.inr (Or.inr (Or.inr (Or.inr (Or.inr (Or.inr (Or.inr (Or.inr (Or.inr (Or.inr (Or.inr (Or.inr (Or.inr (Or.inr (Or.inr (Or.inr (Or.inr (Or.inr (Or.inr (Or.inr (Or.inr (Or.inr (Or.inr (Or.inr (Or.inr (Or.inr (Or.inr (Or.inr (Or.inr (Or.inr (Or.inr (Or.inr (Or.inr (Or.inl ⟨rfl, rfl, hp465⟩))))))))))))))))))))))))))))))))))))))))))))))))))))))))))))))))))))) (Nat.le_of_ble_eq_true rfl) rfl (fun t463 r462 hr466 => ?_)
      replace h := h t463 r462 hr466
      refine tt_aload_n (q := 1108) dL_law_1107 rfl rfl ?_
      refine tt_aload_n (q := 1109) dL_law_1108 rfl rfl ?_
      refine tt_iload_n (q := 1110) dL_law_1109 rfl rfl ?_
      refine tt_iconst (q := 1111) dL_law_1110 ki_1 rfl ?_
      refine tt_iaddN (q := 1112) dL_law_1111 rfl ?_
      obtain ⟨l467, h⟩ := h
      refine tt_sld (q := 1113) dL_law_1112 rfl rfl l467 hLn rfl ?_
      obtain ⟨p470, hp471, h⟩ := h
      refine callVi_1 (q := 1116) dL_law_1113 (Or.inr (Or.inr (Or.inr (Or.inr (Or.inr (Or.inr (Or.inr (Or.inr (Or.inr (Or.inr (Or.inr (Or.inr (Or.inr (Or.inr (Or.inr (Or.inr (Or.inr (Or.inr (Or.inr (Or.inr (Or.inr (Or.inr (Or.inr (Or.inr (Or.inr (Or.inr (Or.inr (Or.inr (Or.inr (Or.inr (Or.inr (Or.inr (Or.inr (Or.inr (Or.inr (Or.inr (Or.inr (Or.inr (Or.inr (Or.inr (Or.inr (Or.inr (Or.inr (Or.inr (Or.inr (Or.inr (Or.inr (Or.inr (Or.inr (Or.inr (Or.inr (Or.inr (Or.inr (Or.inr (Or.inr (Or.inr (Or.inr (Or.inr (Or.inr (Or.inr (Or.inr (Or.inr (Or.inr (Or.inr (Or.inr (Or.inr (Or.inr (Or.inr (Or.inr (Or.inl ⟨rfl, rfl, hp471⟩)))))))))))))))))))))))))))))))))))))))))))))))))))))))))))))))))))))) (Nat.le_of_ble_eq_true rfl) rfl (fun t469 r468 hr472 => ?_)
      replace h := h t469 r468 hr472
      refine tt_icmp_eq (q := 1119) (t := 1272) dL_law_1116 rfl rfl (fun c => ?_) (fun c => ?_)
      · replace h := h.1 c
        refine inc_3 (q := 1275) dL_law_1272 (nI_inc4 _) rfl rfl ?_
        refine tt_goto (t := 18) dL_law_1275 rfl ?_
        exact h
      · replace h := h.2 c
        refine tt_iconst (q := 1120) dL_law_1119 ki_0 rfl ?_
        exact tt_iret dL_law_1120 (congrArg some h)
    by_cases c35 : ((xs i) &&& (nI 63)) = nI 35
    · replace h := h.2.2.2.2.2.2.2.2.2.2.2.2.2.2.2.2.2.2.2.2.2.2.2.2.2.2.2.2.2.2.2.2.2.2.2.1 c35
      refine tt_tswI (t := 1121) (off := 1089) dL_law_32 (by rw [c35]; decide) (by rw [c35]; decide) (by rw [c35]; decide) rfl ?_
      refine tt_aload_n (q := 1122) dL_law_1121 rfl rfl ?_
      refine tt_aload_n (q := 1123) dL_law_1122 rfl rfl ?_
      refine tt_iload_n (q := 1124) dL_law_1123 rfl rfl ?_
      refine tt_iconst (q := 1125) dL_law_1124 ki_1 rfl ?_
      refine tt_iaddN (q := 1126) dL_law_1125 rfl ?_
      obtain ⟨l474, h⟩ := h
      refine tt_sld (q := 1127) dL_law_1126 rfl rfl l474 hLn rfl ?_
      obtain ⟨p477, hp478, h⟩ := h
      refine callVi_1 (q := 1130) dL_law_1127 (Or.inr (Or.inr (Or.inr (Or.inr (Or.inr (Or.inr (Or.inr (Or.inr (Or.inr (Or.inr (Or.inr (Or.inr (Or.inr (Or.inr (Or.inr (Or.inr (Or.inr (Or.inr (Or.inr (Or.inr (Or.inr (Or.inr (Or.inr (Or.inr (Or.inr (Or.inr (Or.inr (Or.inr (Or.inr (Or.inr (Or.inr (Or.inr (Or.inr (Or.inr (Or.inr (Or.inr (Or.inr (Or.inr (Or.inr (Or.inr (Or.inr (Or.inr (Or.inr (Or.inr (Or.inr (Or.inr (Or.inr (Or.inr (Or.inr (Or.inr (Or.inr (Or.inr (Or.inr (Or.inr (Or.inr (Or.inr (Or.inr (Or.inr (Or.inr (Or.inr (Or.inr (Or.inr (Or.inr (Or.inr (Or.inr (Or.inr (Or.inr (Or.inr (Or.inr (Or.inr (Or.inl ⟨rfl, rfl, hp478⟩))))))))))))))))))))))))))))))))))))))))))))))))))))))))))))))))))))))) (Nat.le_of_ble_eq_true rfl) rfl (fun t476 r475 hr479 => ?_)
      replace h := h t476 r475 hr479
      refine tt_aload_n (q := 1131) dL_law_1130 rfl rfl ?_
      refine tt_aload_n (q := 1132) dL_law_1131 rfl rfl ?_
      refine tt_iload_n (q := 1133) dL_law_1132 rfl rfl ?_
      refine tt_iconst (q := 1134) dL_law_1133 ki_1 rfl ?_
      refine tt_iaddN (q := 1135) dL_law_1134 rfl ?_
      obtain ⟨l480, h⟩ := h
      refine tt_sld (q := 1136) dL_law_1135 rfl rfl l480 hLn rfl ?_
      obtain ⟨p483, hp484, h⟩ := h
      refine callVi_1 (q := 1139) dL_law_1136 (Or.inr (Or.inr (Or.inr (Or.inr (Or.inr (Or.inr (Or.inr (Or.inr (Or.inr (Or.inr (Or.inr (Or.inr (Or.inr (Or.inr (Or.inr (Or.inr (Or.inr (Or.inr (Or.inr (Or.inr (Or.inr (Or.inr (Or.inr (Or.inr (Or.inr (Or.inr (Or.inr (Or.inr (Or.inr (Or.inr (Or.inr (Or.inr (Or.inr (Or.inr (Or.inr (Or.inr (Or.inr (Or.inr (Or.inr (Or.inr (Or.inr (Or.inr (Or.inr (Or.inr (Or.inr (Or.inr (Or.inr (Or.inr (Or.inr (Or.inr (Or.inr (Or.inr (Or.inr (Or.inr (Or.inr (Or.inr (Or.inr (Or.inr (Or.inr (Or.inr (Or.inr (Or.inr (Or.inr (Or.inr (Or.inr (Or.inr (Or.inr (Or.inr (Or.inr (Or.inr (Or.inr (Or.inl ⟨rfl, rfl, hp484⟩)))))))))))))))))))))))))))))))))))))))))))))))))))))))))))))))))))))))) (Nat.le_of_ble_eq_true rfl) rfl (fun t482 r481 hr485 => ?_)
      replace h := h t482 r481 hr485
      refine tt_icmp_eq (q := 1142) (t := 1272) dL_law_1139 rfl rfl (fun c => ?_) (fun c => ?_)
      · replace h := h.1 c
        refine inc_3 (q := 1275) dL_law_1272 (nI_inc4 _) rfl rfl ?_
        refine tt_goto (t := 18) dL_law_1275 rfl ?_
        exact h
      · replace h := h.2 c
        refine tt_iconst (q := 1143) dL_law_1142 ki_0 rfl ?_
        exact tt_iret dL_law_1143 (congrArg some h)
    by_cases c36 : ((xs i) &&& (nI 63)) = nI 36
    · replace h := h.2.2.2.2.2.2.2.2.2.2.2.2.2.2.2.2.2.2.2.2.2.2.2.2.2.2.2.2.2.2.2.2.2.2.2.2.1 c36
      refine tt_tswI (t := 1144) (off := 1112) dL_law_32 (by rw [c36]; decide) (by rw [c36]; decide) (by rw [c36]; decide) rfl ?_
      refine tt_aload_n (q := 1145) dL_law_1144 rfl rfl ?_
      refine tt_aload_n (q := 1146) dL_law_1145 rfl rfl ?_
      refine tt_iload_n (q := 1147) dL_law_1146 rfl rfl ?_
      refine tt_iconst (q := 1148) dL_law_1147 ki_1 rfl ?_
      refine tt_iaddN (q := 1149) dL_law_1148 rfl ?_
      obtain ⟨l487, h⟩ := h
      refine tt_sld (q := 1150) dL_law_1149 rfl rfl l487 hLn rfl ?_
      obtain ⟨p490, hp491, h⟩ := h
      refine callVi_1 (q := 1153) dL_law_1150 (Or.inr (Or.inr (Or.inr (Or.inr (Or.inr (Or.inr (Or.inr (Or.inr (Or.inr (Or.inr (Or.inr (Or.inr (Or.inr (Or.inr (Or.inr (Or.inr (Or.inr (Or.inr (Or.inr (Or.inr (Or.inr (Or.inr (Or.inr (Or.inr (Or.inr (Or.inr (Or.inr (Or.inr (Or.inr (Or.inr (Or.inr (Or.inr (Or.inr (Or.inr (Or.inr (Or.inr (Or.inr (Or.inr (Or.inr (Or.inr (Or.inr (Or.inr (Or.inr (Or.inr (Or.inr (Or.inr (Or.inr (Or.inr (Or.inr (Or.inr (Or.inr (Or.inr (Or.inr (Or.inr (Or.inr (Or.inr (Or.inr (Or.inr (Or.inr (Or.inr (Or.inr (Or.inr (Or.inr (Or.inr (Or.inr (Or.inr (Or.inr (Or.inr (Or.inr (Or.inr (Or.inr (Or.inr (Or.inl ⟨rfl, rfl, hp491⟩))))))))))))))))))))))))))))))))))))))))))))))))))))))))))))))))))))))))) (Nat.le_of_ble_eq_true rfl) rfl (fun t489 r488 hr492 => ?_)
      replace h := h t489 r488 hr492
      refine tt_aload_n (q := 1154) dL_law_1153 rfl rfl ?_
      refine tt_aload_n (q := 1155) dL_law_1154 rfl rfl ?_
      refine tt_iload_n (q := 1156) dL_law_1155 rfl rfl ?_
      refine tt_iconst (q := 1157) dL_law_1156 ki_1 rfl ?_
      refine tt_iaddN (q := 1158) dL_law_1157 rfl ?_
      obtain ⟨l493, h⟩ := h
      refine tt_sld (q := 1159) dL_law_1158 rfl rfl l493 hLn rfl ?_
      obtain ⟨p496, hp497, h⟩ := h
      refine callVi_1 (q := 1162) dL_law_1159 (Or.inr (Or.inr (Or.inr (Or.inr (Or.inr (Or.inr (Or.inr (Or.inr (Or.inr (Or.inr (Or.inr (Or.inr (Or.inr (Or.inr (Or.inr (Or.inr (Or.inr (Or.inr (Or.inr (Or.inr (Or.inr (Or.inr (Or.inr (Or.inr (Or.inr (Or.inr (Or.inr (Or.inr (Or.inr (Or.inr (Or.inr (Or.inr (Or.inr (Or.inr (Or.inr (Or.inr (Or.inr (Or.inr (Or.inr (Or.inr (Or.inr (Or.inr (Or.inr (Or.inr (Or.inr (Or.inr (Or.inr (Or.inr (Or.inr (Or.inr (Or.inr (Or.inr (Or.inr (Or.inr (Or.inr (Or.inr (Or.inr (Or.inr (Or.inr (Or.inr (Or.inr (Or.inr (Or.inr (Or.inr (Or.inr (Or.inr (Or.inr (Or.inr (Or.inr (Or.inr (Or.inr (Or.inr (Or.inr (Or.inl ⟨rfl, rfl, hp497⟩)))))))))))))))))))))))))))))))))))))))))))))))))))))))))))))))))))))))))) (Nat.le_of_ble_eq_true rfl) rfl (fun t495 r494 hr498 => ?_)
      replace h := h t495 r494 hr498
      refine tt_icmp_eq (q := 1165) (t := 1272) dL_law_1162 rfl rfl (fun c => ?_) (fun c => ?_)
      · replace h := h.1 c
        refine inc_3 (q := 1275) dL_law_1272 (nI_inc4 _) rfl rfl ?_
        refine tt_goto (t := 18) dL_law_1275 rfl ?_
        exact h
      · replace h := h.2 c
        refine tt_iconst (q := 1166) dL_law_1165 ki_0 rfl ?_
        exact tt_iret dL_law_1166 (congrArg some h)
    by_cases c37 : ((xs i) &&& (nI 63)) = nI 37
    · replace h := h.2.2.2.2.2.2.2.2.2.2.2.2.2.2.2.2.2.2.2.2.2.2.2.2.2.2.2.2.2.2.2.2.2.2.2.2.2.1 c37
      refine tt_tswI (t := 1167) (off := 1135) dL_law_32 (by rw [c37]; decide) (by rw [c37]; decide) (by rw [c37]; decide) rfl ?_
      refine tt_aload_n (q := 1168) dL_law_1167 rfl rfl ?_
      refine tt_aload_n (q := 1169) dL_law_1168 rfl rfl ?_
      refine tt_iload_n (q := 1170) dL_law_1169 rfl rfl ?_
      refine tt_iconst (q := 1171) dL_law_1170 ki_1 rfl ?_
      refine tt_iaddN (q := 1172) dL_law_1171 rfl ?_
      obtain ⟨l500, h⟩ := h
      refine tt_sld (q := 1173) dL_law_1172 rfl rfl l500 hLn rfl ?_
      refine tt_aload_n (q := 1174) dL_law_1173 rfl rfl ?_
      refine tt_iload_n (q := 1175) dL_law_1174 rfl rfl ?_
      refine tt_iconst (q := 1176) dL_law_1175 ki_2 rfl ?_
      refine tt_iaddN (q := 1177) dL_law_1176 rfl ?_
      obtain ⟨l501, h⟩ := h
      refine tt_sld (q := 1178) dL_law_1177 rfl rfl l501 hLn rfl ?_
      obtain ⟨p504, hp505, h⟩ := h
      refine callVi_2 (q := 1181) dL_law_1178 (Or.inr (Or.inr (Or.inr (Or.inr (Or.inr (Or.inr (Or.inr (Or.inr (Or.inr (Or.inr (Or.inr (Or.inr (Or.inr (Or.inr (Or.inr (Or.inr (Or.inr (Or.inr (Or.inr (Or.inr (Or.inr (Or.inr (Or.inr (Or.inr (Or.inr (Or.inr (Or.inr (Or.inr (Or.inr (Or.inr (Or.inr (Or.inr (Or.inr (Or.inr (Or.inr (Or.inr (Or.inr (Or.inr (Or.inr (Or.inr (Or.inr (Or.inr (Or.inr (Or.inr (Or.inr (Or.inr (Or.inr (Or.inr (Or.inr (Or.inr (Or.inr (Or.inr (Or.inr (Or.inr (Or.inr (Or.inr (Or.inr (Or.inr (Or.inr (Or.inr (Or.inr (Or.inr (Or.inr (Or.inr (Or.inr (Or.inr (Or.inr (Or.inr (Or.inr (Or.inr (Or.inr (Or.inr (Or.inr (Or.inr (Or.inl ⟨rfl, rfl, hp505⟩))))))))))))))))))))))))))))))))))))))))))))))))))))))))))))))))))))))))))) (Nat.le_of_ble_eq_true rfl) rfl (fun t503 r502 hr506 => ?_)
      replace h := h t503 r502 hr506
      refine tt_aload_n (q := 1182) dL_law_1181 rfl rfl ?_
      refine tt_aload_n (q := 1183) dL_law_1182 rfl rfl ?_
      refine tt_iload_n (q := 1184) dL_law_1183 rfl rfl ?_
      refine tt_iconst (q := 1185) dL_law_1184 ki_1 rfl ?_
      refine tt_iaddN (q := 1186) dL_law_1185 rfl ?_
      obtain ⟨l507, h⟩ := h
      refine tt_sld (q := 1187) dL_law_1186 rfl rfl l507 hLn rfl ?_
      refine tt_aload_n (q := 1188) dL_law_1187 rfl rfl ?_
      refine tt_iload_n (q := 1189) dL_law_1188 rfl rfl ?_
      refine tt_iconst (q := 1190) dL_law_1189 ki_2 rfl ?_
      refine tt_iaddN (q := 1191) dL_law_1190 rfl ?_
      obtain ⟨l508, h⟩ := h
      refine tt_sld (q := 1192) dL_law_1191 rfl rfl l508 hLn rfl ?_
      obtain ⟨p511, hp512, h⟩ := h
      refine callVi_2 (q := 1195) dL_law_1192 (Or.inr (Or.inr (Or.inr (Or.inr (Or.inr (Or.inr (Or.inr (Or.inr (Or.inr (Or.inr (Or.inr (Or.inr (Or.inr (Or.inr (Or.inr (Or.inr (Or.inr (Or.inr (Or.inr (Or.inr (Or.inr (Or.inr (Or.inr (Or.inr (Or.inr (Or.inr (Or.inr (Or.inr (Or.inr (Or.inr (Or.inr (Or.inr (Or.inr (Or.inr (Or.inr (Or.inr (Or.inr (Or.inr (Or.inr (Or.inr (Or.inr (Or.inr (Or.inr (Or.inr (Or.inr (Or.inr (Or.inr (Or.inr (Or.inr (Or.inr (Or.inr (Or.inr (Or.inr (Or.inr (Or.inr (Or.inr (Or.inr (Or.inr (Or.inr (Or.inr (Or.inr (Or.inr (Or.inr (Or.inr (Or.inr (Or.inr (Or.inr (Or.inr (Or.inr (Or.inr (Or.inr (Or.inr (Or.inr (Or.inr (Or.inr (Or.inl ⟨rfl, rfl, hp512⟩)))))))))))))))))))))))))))))))))))))))))))))))))))))))))))))))))))))))))))) (Nat.le_of_ble_eq_true rfl) rfl (fun t510 r509 hr513 => ?_)
      replace h := h t510 r509 hr513
      refine tt_icmp_eq (q := 1198) (t := 1272) dL_law_1195 rfl rfl (fun c => ?_) (fun c => ?_)
      · replace h := h.1 c
        refine inc_3 (q := 1275) dL_law_1272 (nI_inc4 _) rfl rfl ?_
        refine tt_goto (t := 18) dL_law_1275 rfl ?_
        exact h
      · replace h := h.2 c
        refine tt_iconst (q := 1199) dL_law_1198 ki_0 rfl ?_
        exact tt_iret dL_law_1199 (congrArg some h)
    by_cases c38 : ((xs i) &&& (nI 63)) = nI 38
    · replace h := h.2.2.2.2.2.2.2.2.2.2.2.2.2.2.2.2.2.2.2.2.2.2.2.2.2.2.2.2.2.2.2.2.2.2.2.2.2.2.1 c38
      refine tt_tswI (t := 1200) (off := 1168) dL_law_32 (by rw [c38]; decide) (by rw [c38]; decide) (by rw [c38]; decide) rfl ?_
      refine tt_aload_n (q := 1201) dL_law_1200 rfl rfl ?_
      refine tt_aload_n (q := 1202) dL_law_1201 rfl rfl ?_
      refine tt_iload_n (q := 1203) dL_law_1202 rfl rfl ?_
      refine tt_iconst (q := 1204) dL_law_1203 ki_1 rfl ?_
      refine tt_iaddN (q := 1205) dL_law_1204 rfl ?_
      obtain ⟨l515, h⟩ := h
      refine tt_sld (q := 1206) dL_law_1205 rfl rfl l515 hLn rfl ?_
      obtain ⟨p518, hp519, h⟩ := h
      refine callVi_1 (q := 1209) dL_law_1206 (Or.inr (Or.inr (Or.inr (Or.inr (Or.inr (Or.inr (Or.inr (Or.inr (Or.inr (Or.inr (Or.inr (Or.inr (Or.inr (Or.inr (Or.inr (Or.inr (Or.inr (Or.inr (Or.inr (Or.inr (Or.inr (Or.inr (Or.inr (Or.inr (Or.inr (Or.inr (Or.inr (Or.inr (Or.inr (Or.inr (Or.inr (Or.inr (Or.inr (Or.inr (Or.inr (Or.inr (Or.inr (Or.inr (Or.inr (Or.inr (Or.inr (Or.inr (Or.inr (Or.inr (Or.inr (Or.inr (Or.inr (Or.inr (Or.inr (Or.inr (Or.inr (Or.inr (Or.inr (Or.inr (Or.inr (Or.inr (Or.inr (Or.inr (Or.inr (Or.inr (Or.inr (Or.inr (Or.inr (Or.inr (Or.inr (Or.inr (Or.inr (Or.inr (Or.inr (Or.inr (Or.inr (Or.inr (Or.inr (Or.inr (Or.inr (Or.inr (Or.inl ⟨rfl, rfl, hp519⟩))))))))))))))))))))))))))))))))))))))))))))))))))))))))))))))))))))))))))))) (Nat.le_of_ble_eq_true rfl) rfl (fun t517 r516 hr520 => ?_)
      replace h := h t517 r516 hr520
      refine tt_aload_n (q := 1210) dL_law_1209 rfl rfl ?_
      refine tt_aload_n (q := 1211) dL_law_1210 rfl rfl ?_
      refine tt_iload_n (q := 1212) dL_law_1211 rfl rfl ?_
      refine tt_iconst (q := 1213) dL_law_1212 ki_1 rfl ?_
      refine tt_iaddN (q := 1214) dL_law_1213 rfl ?_
      obtain ⟨l521, h⟩ := h
      refine tt_sld (q := 1215) dL_law_1214 rfl rfl l521 hLn rfl ?_
      obtain ⟨p524, hp525, h⟩ := h
      refine callVi_1 (q := 1218) dL_law_1215 (Or.inr (Or.inr (Or.inr (Or.inr (Or.inr (Or.inr (Or.inr (Or.inr (Or.inr (Or.inr (Or.inr (Or.inr (Or.inr (Or.inr (Or.inr (Or.inr (Or.inr (Or.inr (Or.inr (Or.inr (Or.inr (Or.inr (Or.inr (Or.inr (Or.inr (Or.inr (Or.inr (Or.inr (Or.inr (Or.inr (Or.inr (Or.inr (Or.inr (Or.inr (Or.inr (Or.inr (Or.inr (Or.inr (Or.inr (Or.inr (Or.inr (Or.inr (Or.inr (Or.inr (Or.inr (Or.inr (Or.inr (Or.inr (Or.inr (Or.inr (Or.inr (Or.inr (Or.inr (Or.inr (Or.inr (Or.inr (Or.inr (Or.inr (Or.inr (Or.inr (Or.inr (Or.inr (Or.inr (Or.inr (Or.inr (Or.inr (Or.inr (Or.inr (Or.inr (Or.inr (Or.inr (Or.inr (Or.inr (Or.inr (Or.inr (Or.inr (Or.inr (Or.inl ⟨rfl, rfl, hp525⟩)))))))))))))))))))))))))))))))))))))))))))))))))))))))))))))))))))))))))))))) (Nat.le_of_ble_eq_true rfl) rfl (fun t523 r522 hr526 => ?_)
      replace h := h t523 r522 hr526
      refine tt_icmp_eq (q := 1221) (t := 1272) dL_law_1218 rfl rfl (fun c => ?_) (fun c => ?_)
      · replace h := h.1 c
        refine inc_3 (q := 1275) dL_law_1272 (nI_inc4 _) rfl rfl ?_
        refine tt_goto (t := 18) dL_law_1275 rfl ?_
        exact h
      · replace h := h.2 c
        refine tt_iconst (q := 1222) dL_law_1221 ki_0 rfl ?_
        exact tt_iret dL_law_1222 (congrArg some h)
    by_cases c39 : ((xs i) &&& (nI 63)) = nI 39
    · replace h := h.2.2.2.2.2.2.2.2.2.2.2.2.2.2.2.2.2.2.2.2.2.2.2.2.2.2.2.2.2.2.2.2.2.2.2.2.2.2.2.1 c39
      refine tt_tswI (t := 1223) (off := 1191) dL_law_32 (by rw [c39]; decide) (by rw [c39]; decide) (by rw [c39]; decide) rfl ?_
      refine tt_aload_n (q := 1224) dL_law_1223 rfl rfl ?_
      obtain ⟨p530, hp531, h⟩ := h
      refine callVi_0 (q := 1227) dL_law_1224 (Or.inr (Or.inr (Or.inr (Or.inr (Or.inr (Or.inr (Or.inr (Or.inr (Or.inr (Or.inr (Or.inr (Or.inr (Or.inr (Or.inr (Or.inr (Or.inr (Or.inr (Or.inr (Or.inr (Or.inr (Or.inr (Or.inr (Or.inr (Or.inr (Or.inr (Or.inr (Or.inr (Or.inr (Or.inr (Or.inr (Or.inr (Or.inr (Or.inr (Or.inr (Or.inr (Or.inr (Or.inr (Or.inr (Or.inr (Or.inr (Or.inr (Or.inr (Or.inr (Or.inr (Or.inr (Or.inr (Or.inr (Or.inr (Or.inr (Or.inr (Or.inr (Or.inr (Or.inr (Or.inr (Or.inr (Or.inr (Or.inr (Or.inr (Or.inr (Or.inr (Or.inr (Or.inr (Or.inr (Or.inr (Or.inr (Or.inr (Or.inr (Or.inr (Or.inr (Or.inr (Or.inr (Or.inr (Or.inr (Or.inr (Or.inr (Or.inr (Or.inr (Or.inr (Or.inl ⟨rfl, rfl, hp531⟩))))))))))))))))))))))))))))))))))))))))))))))))))))))))))))))))))))))))))))))) (Nat.le_of_ble_eq_true rfl) rfl (fun t529 r528 hr532 => ?_)
      replace h := h t529 r528 hr532
      refine tt_aload_n (q := 1228) dL_law_1227 rfl rfl ?_
      obtain ⟨p535, hp536, h⟩ := h
      refine callVi_0 (q := 1231) dL_law_1228 (Or.inr (Or.inr (Or.inr (Or.inr (Or.inr (Or.inr (Or.inr (Or.inr (Or.inr (Or.inr (Or.inr (Or.inr (Or.inr (Or.inr (Or.inr (Or.inr (Or.inr (Or.inr (Or.inr (Or.inr (Or.inr (Or.inr (Or.inr (Or.inr (Or.inr (Or.inr (Or.inr (Or.inr (Or.inr (Or.inr (Or.inr (Or.inr (Or.inr (Or.inr (Or.inr (Or.inr (Or.inr (Or.inr (Or.inr (Or.inr (Or.inr (Or.inr (Or.inr (Or.inr (Or.inr (Or.inr (Or.inr (Or.inr (Or.inr (Or.inr (Or.inr (Or.inr (Or.inr (Or.inr (Or.inr (Or.inr (Or.inr (Or.inr (Or.inr (Or.inr (Or.inr (Or.inr (Or.inr (Or.inr (Or.inr (Or.inr (Or.inr (Or.inr (Or.inr (Or.inr (Or.inr (Or.inr (Or.inr (Or.inr (Or.inr (Or.inr (Or.inr (Or.inr (Or.inr (Or.inl ⟨rfl, rfl, hp536⟩)))))))))))))))))))))))))))))))))))))))))))))))))))))))))))))))))))))))))))))))) (Nat.le_of_ble_eq_true rfl) rfl (fun t534 r533 hr537 => ?_)
      replace h := h t534 r533 hr537
      refine tt_icmp_eq (q := 1234) (t := 1272) dL_law_1231 rfl rfl (fun c => ?_) (fun c => ?_)
      · replace h := h.1 c
        refine inc_3 (q := 1275) dL_law_1272 (nI_inc4 _) rfl rfl ?_
        refine tt_goto (t := 18) dL_law_1275 rfl ?_
        exact h
      · replace h := h.2 c
        refine tt_iconst (q := 1235) dL_law_1234 ki_0 rfl ?_
        exact tt_iret dL_law_1235 (congrArg some h)
    by_cases c40 : ((xs i) &&& (nI 63)) = nI 40
    · replace h := h.2.2.2.2.2.2.2.2.2.2.2.2.2.2.2.2.2.2.2.2.2.2.2.2.2.2.2.2.2.2.2.2.2.2.2.2.2.2.2.2.1 c40
      refine tt_tswI (t := 1236) (off := 1204) dL_law_32 (by rw [c40]; decide) (by rw [c40]; decide) (by rw [c40]; decide) rfl ?_
      refine tt_aload_n (q := 1237) dL_law_1236 rfl rfl ?_
      obtain ⟨p541, hp542, h⟩ := h
      refine callVi_0 (q := 1240) dL_law_1237 (Or.inr (Or.inr (Or.inr (Or.inr (Or.inr (Or.inr (Or.inr (Or.inr (Or.inr (Or.inr (Or.inr (Or.inr (Or.inr (Or.inr (Or.inr (Or.inr (Or.inr (Or.inr (Or.inr (Or.inr (Or.inr (Or.inr (Or.inr (Or.inr (Or.inr (Or.inr (Or.inr (Or.inr (Or.inr (Or.inr (Or.inr (Or.inr (Or.inr (Or.inr (Or.inr (Or.inr (Or.inr (Or.inr (Or.inr (Or.inr (Or.inr (Or.inr (Or.inr (Or.inr (Or.inr (Or.inr (Or.inr (Or.inr (Or.inr (Or.inr (Or.inr (Or.inr (Or.inr (Or.inr (Or.inr (Or.inr (Or.inr (Or.inr (Or.inr (Or.inr (Or.inr (Or.inr (Or.inr (Or.inr (Or.inr (Or.inr (Or.inr (Or.inr (Or.inr (Or.inr (Or.inr (Or.inr (Or.inr (Or.inr (Or.inr (Or.inr (Or.inr (Or.inr (Or.inr (Or.inr (Or.inl ⟨rfl, rfl, hp542⟩))))))))))))))))))))))))))))))))))))))))))))))))))))))))))))))))))))))))))))))))) (Nat.le_of_ble_eq_true rfl) rfl (fun t540 r539 hr543 => ?_)
      replace h := h t540 r539 hr543
      refine tt_aload_n (q := 1241) dL_law_1240 rfl rfl ?_
      obtain ⟨p546, hp547, h⟩ := h
      refine callVi_0 (q := 1244) dL_law_1241 (Or.inr (Or.inr (Or.inr (Or.inr (Or.inr (Or.inr (Or.inr (Or.inr (Or.inr (Or.inr (Or.inr (Or.inr (Or.inr (Or.inr (Or.inr (Or.inr (Or.inr (Or.inr (Or.inr (Or.inr (Or.inr (Or.inr (Or.inr (Or.inr (Or.inr (Or.inr (Or.inr (Or.inr (Or.inr (Or.inr (Or.inr (Or.inr (Or.inr (Or.inr (Or.inr (Or.inr (Or.inr (Or.inr (Or.inr (Or.inr (Or.inr (Or.inr (Or.inr (Or.inr (Or.inr (Or.inr (Or.inr (Or.inr (Or.inr (Or.inr (Or.inr (Or.inr (Or.inr (Or.inr (Or.inr (Or.inr (Or.inr (Or.inr (Or.inr (Or.inr (Or.inr (Or.inr (Or.inr (Or.inr (Or.inr (Or.inr (Or.inr (Or.inr (Or.inr (Or.inr (Or.inr (Or.inr (Or.inr (Or.inr (Or.inr (Or.inr (Or.inr (Or.inr (Or.inr (Or.inr (Or.inr (Or.inl ⟨rfl, rfl, hp547⟩)))))))))))))))))))))))))))))))))))))))))))))))))))))))))))))))))))))))))))))))))) (Nat.le_of_ble_eq_true rfl) rfl (fun t545 r544 hr548 => ?_)
      replace h := h t545 r544 hr548
      refine tt_icmp_eq (q := 1247) (t := 1272) dL_law_1244 rfl rfl (fun c => ?_) (fun c => ?_)
      · replace h := h.1 c
        refine inc_3 (q := 1275) dL_law_1272 (nI_inc4 _) rfl rfl ?_
        refine tt_goto (t := 18) dL_law_1275 rfl ?_
        exact h
      · replace h := h.2 c
        refine tt_iconst (q := 1248) dL_law_1247 ki_0 rfl ?_
        exact tt_iret dL_law_1248 (congrArg some h)
    by_cases c41 : ((xs i) &&& (nI 63)) = nI 41
    · replace h := h.2.2.2.2.2.2.2.2.2.2.2.2.2.2.2.2.2.2.2.2.2.2.2.2.2.2.2.2.2.2.2.2.2.2.2.2.2.2.2.2.2.1 c41
      refine tt_tswI (t := 1249) (off := 1217) dL_law_32 (by rw [c41]; decide) (by rw [c41]; decide) (by rw [c41]; decide) rfl ?_
      refine tt_aload_n (q := 1250) dL_law_1249 rfl rfl ?_
      refine tt_aload_n (q := 1251) dL_law_1250 rfl rfl ?_
      refine tt_iload_n (q := 1252) dL_law_1251 rfl rfl ?_
      refine tt_iconst (q := 1253) dL_law_1252 ki_1 rfl ?_
      refine tt_iaddN (q := 1254) dL_law_1253 rfl ?_
      obtain ⟨l550, h⟩ := h
      refine tt_sld (q := 1255) dL_law_1254 rfl rfl l550 hLn rfl ?_
      obtain ⟨p553, hp554, h⟩ := h
      refine callVi_1 (q := 1258) dL_law_1255 (Or.inr (Or.inr (Or.inr (Or.inr (Or.inr (Or.inr (Or.inr (Or.inr (Or.inr (Or.inr (Or.inr (Or.inr (Or.inr (Or.inr (Or.inr (Or.inr (Or.inr (Or.inr (Or.inr (Or.inr (Or.inr (Or.inr (Or.inr (Or.inr (Or.inr (Or.inr (Or.inr (Or.inr (Or.inr (Or.inr (Or.inr (Or.inr (Or.inr (Or.inr (Or.inr (Or.inr (Or.inr (Or.inr (Or.inr (Or.inr (Or.inr (Or.inr (Or.inr (Or.inr (Or.inr (Or.inr (Or.inr (Or.inr (Or.inr (Or.inr (Or.inr (Or.inr (Or.inr (Or.inr (Or.inr (Or.inr (Or.inr (Or.inr (Or.inr (Or.inr (Or.inr (Or.inr (Or.inr (Or.inr (Or.inr (Or.inr (Or.inr (Or.inr (Or.inr (Or.inr (Or.inr (Or.inr (Or.inr (Or.inr (Or.inr (Or.inr (Or.inr (Or.inr (Or.inr (Or.inr (Or.inr (Or.inr (Or.inl ⟨rfl, rfl, hp554⟩))))))))))))))))))))))))))))))))))))))))))))))))))))))))))))))))))))))))))))))))))) (Nat.le_of_ble_eq_true rfl) rfl (fun t552 r551 hr555 => ?_)
      replace h := h t552 r551 hr555
      refine tt_aload_n (q := 1259) dL_law_1258 rfl rfl ?_
      refine tt_aload_n (q := 1260) dL_law_1259 rfl rfl ?_
      refine tt_iload_n (q := 1261) dL_law_1260 rfl rfl ?_
      refine tt_iconst (q := 1262) dL_law_1261 ki_1 rfl ?_
      refine tt_iaddN (q := 1263) dL_law_1262 rfl ?_
      obtain ⟨l556, h⟩ := h
      refine tt_sld (q := 1264) dL_law_1263 rfl rfl l556 hLn rfl ?_
      obtain ⟨p559, hp560, h⟩ := h
      refine callVi_1 (q := 1267) dL_law_1264 (Or.inr (Or.inr (Or.inr (Or.inr (Or.inr (Or.inr (Or.inr (Or.inr (Or.inr (Or.inr (Or.inr (Or.inr (Or.inr (Or.inr (Or.inr (Or.inr (Or.inr (Or.inr (Or.inr (Or.inr (Or.inr (Or.inr (Or.inr (Or.inr (Or.inr (Or.inr (Or.inr (Or.inr (Or.inr (Or.inr (Or.inr (Or.inr (Or.inr (Or.inr (Or.inr (Or.inr (Or.inr (Or.inr (Or.inr (Or.inr (Or.inr (Or.inr (Or.inr (Or.inr (Or.inr (Or.inr (Or.inr (Or.inr (Or.inr (Or.inr (Or.inr (Or.inr (Or.inr (Or.inr (Or.inr (Or.inr (Or.inr (Or.inr (Or.inr (Or.inr (Or.inr (Or.inr (Or.inr (Or.inr (Or.inr (Or.inr (Or.inr (Or.inr (Or.inr (Or.inr (Or.inr (Or.inr (Or.inr (Or.inr (Or.inr (Or.inr (Or.inr (Or.inr (Or.inr (Or.inr (Or.inr (Or.inr (Or.inr (⟨rfl, rfl, hp560⟩)))))))))))))))))))))))))))))))))))))))))))))))))))))))))))))))))))))))))))))))))))) (Nat.le_of_ble_eq_true rfl) rfl (fun t558 r557 hr561 => ?_)
      replace h := h t558 r557 hr561
      refine tt_icmp_eq (q := 1270) (t := 1272) dL_law_1267 rfl rfl (fun c => ?_) (fun c => ?_)
      · replace h := h.1 c
        refine inc_3 (q := 1275) dL_law_1272 (nI_inc4 _) rfl rfl ?_
        refine tt_goto (t := 18) dL_law_1275 rfl ?_
        exact h
      · replace h := h.2 c
        refine tt_iconst (q := 1271) dL_law_1270 ki_0 rfl ?_
        exact tt_iret dL_law_1271 (congrArg some h)
    replace h := h.2.2.2.2.2.2.2.2.2.2.2.2.2.2.2.2.2.2.2.2.2.2.2.2.2.2.2.2.2.2.2.2.2.2.2.2.2.2.2.2.2.2 ⟨c0, c1, c2, c3, c4, c5, c6, c7, c8, c9, c10, c11, c12, c13, c14, c15, c16, c17, c18, c19, c20, c21, c22, c23, c24, c25, c26, c27, c28, c29, c30, c31, c32, c33, c34, c35, c36, c37, c38, c39, c40, c41⟩
    refine tt_tswO (t := 1272) dL_law_32 (tsw_out_41 ⟨c0, c1, c2, c3, c4, c5, c6, c7, c8, c9, c10, c11, c12, c13, c14, c15, c16, c17, c18, c19, c20, c21, c22, c23, c24, c25, c26, c27, c28, c29, c30, c31, c32, c33, c34, c35, c36, c37, c38, c39, c40, c41⟩) rfl ?_
    refine inc_3 (q := 1275) dL_law_1272 (nI_inc4 _) rfl rfl ?_
    refine tt_goto (t := 18) dL_law_1275 rfl ?_
    exact h
