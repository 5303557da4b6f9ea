abbrev T_X4_init (dl : DL) (post : DL → SG → Prop) (pc : Nat) (L S : List Value) (A : AL) (σ : SG) : Prop := TT cX4_init RX4 true CT_X4_init CN0 ((((4, 35, dl) : AL)).1 + 3) ((((4, 35, dl) : AL)).2.1 + 5046) (QRn (4, 35, dl) 3 5046 post) none pc L S A σ
set_option maxRecDepth 100000 in
theorem g_X4_init_0 {dl η : DL} {post : DL → SG → Prop} {σ : SG} (h : (∀ d1 : DL, d1 = dOff η 4 1 → ∀ s2 : SG, s2 = zr σ 4 1 → (∀ d3 : DL, d3 = dOn d1 3 0 → (∀ d4 : DL, d4 = dOff d3 5 1 → ∀ s5 : SG, s5 = zr s2 5 1 → (∀ d6 : DL, d6 = dOn d4 3 1 → (∀ d7 : DL, d7 = dOff d6 6 1 → ∀ s8 : SG, s8 = zr s5 6 1 → (∀ d9 : DL, d9 = dOn d7 3 2 → T_X4_init dl post 32 [.ref 3, .int (nI 0)] [] (7, 5081, d9) s8))))))) : T_X4_init dl post 0 [.ref 3, dum] [] (4, 35, η) σ := by
  refine tt_aload_n (q := 1) dX4_init_0 rfl rfl ?_
  refine tt_oinit (q := 4) dX4_init_1 lob_X4_3 (Nat.le_of_ble_eq_true rfl) rfl ?_
  refine tt_aload_n (q := 5) dX4_init_4 rfl rfl ?_
  refine tt_sipush (q := 8) dX4_init_5 si_4320 rfl ?_
  refine tt_newaE (q := 10) (n2 := 5) (u2 := 4355) dX4_init_8 ia_4 rfl (Nat.le_of_ble_eq_true rfl) (Nat.le_of_ble_eq_true rfl) rfl rfl rfl ?_
  replace h := h _ rfl _ rfl
  refine tt_putRE (q := 13) dX4_init_10 fl_X4_9 or_3_0 fr_X4_4_0 (Nat.le_of_ble_eq_true rfl) rfl ?_
  replace h := h _ rfl
  refine tt_aload_n (q := 14) dX4_init_13 rfl rfl ?_
  refine tt_sipush (q := 17) dX4_init_14 si_720 rfl ?_
  refine tt_newaE (q := 19) (n2 := 6) (u2 := 5075) dX4_init_17 ia_5 rfl (Nat.le_of_ble_eq_true rfl) (Nat.le_of_ble_eq_true rfl) rfl rfl rfl ?_
  replace h := h _ rfl _ rfl
  refine tt_putRE (q := 22) dX4_init_19 fl_X4_15 or_3_1 fr_X4_4_1 (Nat.le_of_ble_eq_true rfl) rfl ?_
  replace h := h _ rfl
  refine tt_aload_n (q := 23) dX4_init_22 rfl rfl ?_
  refine tt_bipush (q := 25) dX4_init_23 bi_6 rfl ?_
  refine tt_newaE (q := 27) (n2 := 7) (u2 := 5081) dX4_init_25 ia_6 rfl (Nat.le_of_ble_eq_true rfl) (Nat.le_of_ble_eq_true rfl) rfl rfl rfl ?_
  replace h := h _ rfl _ rfl
  refine tt_putRE (q := 30) dX4_init_27 fl_X4_18 or_3_2 fr_X4_4_2 (Nat.le_of_ble_eq_true rfl) rfl ?_
  replace h := h _ rfl
  refine tt_iconst (q := 31) dX4_init_30 ki_0 rfl ?_
  refine sti_n_1 (q := 32) dX4_init_31 rfl rfl rfl ?_
  exact h
set_option maxRecDepth 100000 in
theorem g_X4_init_32 {dl η : DL} {post : DL → SG → Prop} {σ : SG} {o : Nat} (h : (o < 2 ^ 31 ∧ ((720 ≤ o → post η σ) ∧ (o < 720 → (∃ p5 : SG → Int32 → Prop, IN_X4_layOut (7, 5081, η) σ [.ref 3, .int (nI o)] p5 ∧ ∀ t4 : SG, p5 t4 0 → T_X4_init dl post 32 [.ref 3, .int (nI (o + 1))] [] (7, 5081, η) t4))))) : T_X4_init dl post 32 [.ref 3, .int (nI o)] [] (7, 5081, η) σ := by
  refine tt_iload_n (q := 33) dX4_init_32 rfl rfl ?_
  refine tt_sipush (q := 36) dX4_init_33 si_720 rfl ?_
  obtain ⟨l2, h⟩ := h
  refine tt_icmp_ge (q := 39) (t := 50) dX4_init_36 rfl rfl (fun c => ?_) (fun c => ?_)
  · replace h := h.1 ((nI_leI (by decide) l2).1 c)
    exact tt_vret dX4_init_50 ⟨rfl, rfl, rfl, h⟩
  · replace h := h.2 (Nat.lt_of_not_le (fun z => c ((nI_leI (by decide) l2).2 z)))
    refine tt_aload_n (q := 40) dX4_init_39 rfl rfl ?_
    refine tt_iload_n (q := 41) dX4_init_40 rfl rfl ?_
    obtain ⟨p5, hp6, h⟩ := h
    refine callVv_1 (q := 44) dX4_init_41 (⟨rfl, rfl, hp6⟩) (Nat.le_of_ble_eq_true rfl) rfl (fun t4 hr7 => ?_)
    replace h := h t4 hr7
    refine inc_1 (q := 47) dX4_init_44 (nI_inc1 _) rfl rfl ?_
    refine tt_goto (t := 32) dX4_init_47 rfl ?_
    exact h
abbrev T_X11_init (dl : DL) (post : DL → SG → Prop) (pc : Nat) (L S : List Value) (A : AL) (σ : SG) : Prop := TT cX11_init RX11 true CT0 CNT_X11_init ((((1, 13, dl) : AL)).1 + 101) ((((1, 13, dl) : AL)).2.1 + 22782) (QRn (1, 13, dl) 101 22782 post) none pc L S A σ
set_option maxRecDepth 100000 in
theorem g_X11_init_0 {dl η : DL} {post : DL → SG → Prop} {σ : SG} (h : (∀ d1 : DL, d1 = dOff η 1 1 → ∀ s2 : SG, s2 = zr σ 1 1 → (∀ d3 : DL, d3 = dOff d1 2 1 → ∀ s4 : SG, s4 = zr s2 2 1 → (∀ d5 : DL, d5 = dOn d3 1 0 → (∀ d6 : DL, d6 = dOn d5 0 0 → (∀ d7 : DL, d7 = dOff d6 3 1 → ∀ s8 : SG, s8 = zr s4 3 1 → (∃ p9 : DL → SG → Prop, INN_X4_init (4, 35, d7) s8 [.ref 3] 3 5046 p9 ∧ ∀ (d11 : DL) (t12 : SG), p9 d11 t12 → (∀ d14 : DL, d14 = dOn d11 0 1 → (∀ d15 : DL, d15 = dOff d14 7 1 → ∀ s16 : SG, s16 = zr t12 7 1 → (∀ d17 : DL, d17 = dOff d15 8 13 → ∀ s18 : SG, s18 = zr s16 8 13 → (∀ d19 : DL, d19 = dOn d17 7 1 → (∀ d20 : DL, d20 = dOff d19 21 13 → ∀ s21 : SG, s21 = zr s18 21 13 → (∀ d22 : DL, d22 = dOn d20 7 2 → (∀ d23 : DL, d23 = dOff d22 34 1 → ∀ s24 : SG, s24 = zr s21 34 1 → (∀ d25 : DL, d25 = dOn d23 7 3 → (∀ d26 : DL, d26 = dOff d25 35 1 → ∀ s27 : SG, s27 = zr s24 35 1 → (∀ d28 : DL, d28 = dOn d26 7 4 → (∀ d29 : DL, d29 = dOn d28 7 5 → (∃ p32 : SG → Int32 → Prop, IN_X9_measure (36, 15263, d29) s27 [.ref 7] p32 ∧ ∀ t31 : SG, p32 t31 0 → (∀ d35 : DL, d35 = dOn d29 0 2 → (∀ d36 : DL, d36 = dOff d35 36 1 → ∀ s37 : SG, s37 = zr t31 36 1 → (∀ d38 : DL, d38 = dOff d36 37 1 → ∀ s39 : SG, s39 = zr s37 37 1 → (∀ d40 : DL, d40 = dOn d38 36 1 → (∀ d41 : DL, d41 = dOff d40 38 11 → ∀ s42 : SG, s42 = zr s39 38 11 → (∀ d43 : DL, d43 = dOn d41 36 2 → (∀ d44 : DL, d44 = dOff d43 49 11 → ∀ s45 : SG, s45 = zr s42 49 11 → (∀ d46 : DL, d46 = dOn d44 36 3 → (∀ d47 : DL, d47 = dOff d46 60 1 → ∀ s48 : SG, s48 = zr s45 60 1 → (∀ d49 : DL, d49 = dOn d47 36 4 → (∀ d50 : DL, d50 = dOn d49 36 5 → (∀ d51 : DL, d51 = dOn d50 36 6 → (∀ d52 : DL, d52 = dOn d51 0 3 → (∀ d53 : DL, d53 = dOff d52 61 1 → ∀ s54 : SG, s54 = zr s48 61 1 → (∀ d55 : DL, d55 = dOff d53 62 3 → ∀ s56 : SG, s56 = zr s54 62 3 → (∀ d57 : DL, d57 = dOn d55 61 0 → (∀ d58 : DL, d58 = dOff d57 65 7 → ∀ s59 : SG, s59 = zr s56 65 7 → (∀ d60 : DL, d60 = dOn d58 61 1 → (∀ d61 : DL, d61 = dOff d60 72 1 → ∀ s62 : SG, s62 = zr s59 72 1 → (∀ d63 : DL, d63 = dOn d61 61 2 → (∃ p66 : SG → Int32 → Prop, IN_X2_forget (73, 22647, d63) s62 [.ref 61, .int (nI 0)] p66 ∧ ∀ t65 : SG, p66 t65 0 → (∃ p71 : SG → Int32 → Prop, IN_X2_forget (73, 22647, d63) t65 [.ref 61, .int (nI 1)] p71 ∧ ∀ t70 : SG, p71 t70 0 → (∃ p76 : SG → Int32 → Prop, IN_X2_forget (73, 22647, d63) t70 [.ref 61, .int (nI 2)] p76 ∧ ∀ t75 : SG, p76 t75 0 → (∃ p81 : SG → Int32 → Prop, IN_X2_forget (73, 22647, d63) t75 [.ref 61, .int (nI 3)] p81 ∧ ∀ t80 : SG, p81 t80 0 → (∃ p86 : SG → Int32 → Prop, IN_X2_forget (73, 22647, d63) t80 [.ref 61, .int (nI 4)] p86 ∧ ∀ t85 : SG, p86 t85 0 → (∃ p91 : SG → Int32 → Prop, IN_X2_forget (73, 22647, d63) t85 [.ref 61, .int (nI 5)] p91 ∧ ∀ t90 : SG, p91 t90 0 → (∀ s94 : SG, s94 = up t90 72 1 (nI 20) → (∀ d95 : DL, d95 = dOn d63 0 4 → (∀ d96 : DL, d96 = dOff d95 73 1 → ∀ s97 : SG, s97 = zr s94 73 1 → (∀ d98 : DL, d98 = dOff d96 74 1 → ∀ s99 : SG, s99 = zr s97 74 1 → (∀ d100 : DL, d100 = dOn d98 73 0 → (∀ d101 : DL, d101 = dOff d100 75 1 → ∀ s102 : SG, s102 = zr s99 75 1 → (∀ d103 : DL, d103 = dOn d101 73 2 → (∀ d104 : DL, d104 = dOff d103 76 1 → ∀ s105 : SG, s105 = zr s102 76 1 → (∀ d106 : DL, d106 = dOn d104 73 3 → (∀ d107 : DL, d107 = dOn d106 73 7 → (∀ d108 : DL, d108 = dOn d107 73 8 → (∀ d109 : DL, d109 = dOn d108 0 5 → (∀ d110 : DL, d110 = dOff d109 77 1 → ∀ s111 : SG, s111 = zr s105 77 1 → (∀ d112 : DL, d112 = dOff d110 78 1 → ∀ s113 : SG, s113 = zr s111 78 1 → (∀ d114 : DL, d114 = dOn d112 77 1 → (∀ d115 : DL, d115 = dOff d114 79 1 → ∀ s116 : SG, s116 = zr s113 79 1 → (∀ d117 : DL, d117 = dOn d115 77 2 → (∀ d118 : DL, d118 = dOff d117 80 1 → ∀ s119 : SG, s119 = zr s116 80 1 → (∀ d120 : DL, d120 = dOn d118 77 3 → (∀ d121 : DL, d121 = dOn d120 77 4 → (∀ d122 : DL, d122 = dOn d121 77 5 → (∀ d123 : DL, d123 = dOn d122 77 6 → (∀ d124 : DL, d124 = dOn d123 0 6 → (∀ d125 : DL, d125 = dOff d124 81 1 → ∀ s126 : SG, s126 = zr s119 81 1 → (∀ d127 : DL, d127 = dOff d125 82 1 → ∀ s128 : SG, s128 = zr s126 82 1 → (∀ d129 : DL, d129 = dOn d127 81 0 → (∀ d130 : DL, d130 = dOn d129 0 7 → (∀ d131 : DL, d131 = dOff d130 83 1 → ∀ s132 : SG, s132 = zr s128 83 1 → (∀ d133 : DL, d133 = dOff d131 84 1 → ∀ s134 : SG, s134 = zr s132 84 1 → (∀ d135 : DL, d135 = dOn d133 83 1 → (∀ d136 : DL, d136 = dOn d135 0 8 → (∀ d137 : DL, d137 = dOff d136 85 1 → ∀ s138 : SG, s138 = zr s134 85 1 → (∀ d139 : DL, d139 = dOff d137 86 1 → ∀ s140 : SG, s140 = zr s138 86 1 → (∀ d141 : DL, d141 = dOn d139 85 1 → (∀ d142 : DL, d142 = dOn d141 85 2 → (∀ d143 : DL, d143 = dOn d142 85 3 → (∀ d144 : DL, d144 = dOn d143 0 9 → (∀ d145 : DL, d145 = dOff d144 87 1 → ∀ s146 : SG, s146 = zr s140 87 1 → (∀ d147 : DL, d147 = dOff d145 88 1 → ∀ s148 : SG, s148 = zr s146 88 1 → (∀ d149 : DL, d149 = dOff d147 89 3 → ∀ s150 : SG, s150 = zr s148 89 3 → (∀ d151 : DL, d151 = dOn d149 88 0 → (∀ d152 : DL, d152 = dOff d151 92 7 → ∀ s153 : SG, s153 = zr s150 92 7 → (∀ d154 : DL, d154 = dOn d152 88 1 → (∀ d155 : DL, d155 = dOff d154 99 1 → ∀ s156 : SG, s156 = zr s153 99 1 → (∀ d157 : DL, d157 = dOn d155 88 2 → (∃ p160 : SG → Int32 → Prop, IN_X2_forget (100, 22784, d157) s156 [.ref 88, .int (nI 0)] p160 ∧ ∀ t159 : SG, p160 t159 0 → (∃ p165 : SG → Int32 → Prop, IN_X2_forget (100, 22784, d157) t159 [.ref 88, .int (nI 1)] p165 ∧ ∀ t164 : SG, p165 t164 0 → (∃ p170 : SG → Int32 → Prop, IN_X2_forget (100, 22784, d157) t164 [.ref 88, .int (nI 2)] p170 ∧ ∀ t169 : SG, p170 t169 0 → (∃ p175 : SG → Int32 → Prop, IN_X2_forget (100, 22784, d157) t169 [.ref 88, .int (nI 3)] p175 ∧ ∀ t174 : SG, p175 t174 0 → (∃ p180 : SG → Int32 → Prop, IN_X2_forget (100, 22784, d157) t174 [.ref 88, .int (nI 4)] p180 ∧ ∀ t179 : SG, p180 t179 0 → (∃ p185 : SG → Int32 → Prop, IN_X2_forget (100, 22784, d157) t179 [.ref 88, .int (nI 5)] p185 ∧ ∀ t184 : SG, p185 t184 0 → (∀ s188 : SG, s188 = up t184 99 1 (nI 20) → (∀ d189 : DL, d189 = dOn d157 87 5 → (∀ d190 : DL, d190 = dOff d189 100 1 → ∀ s191 : SG, s191 = zr s188 100 1 → (∀ d192 : DL, d192 = dOn d190 87 6 → (∀ d193 : DL, d193 = dOn d192 0 10 → (∀ d194 : DL, d194 = dOff d193 101 1 → ∀ s195 : SG, s195 = zr s191 101 1 → (∀ d196 : DL, d196 = dOn d194 0 11 → (∀ s197 : SG, s197 = up s195 0 12 (nI 0) → post d196 s197)))))))))))))))))))))))))))))))))))))))))))))))))))))))))))))))))))))))))))))))))))))))))))))))))))))))) : T_X11_init dl post 0 [.ref 0] [] (1, 13, η) σ := by
  refine tt_aload_n (q := 1) dX11_init_0 rfl rfl ?_
  refine tt_oinit (q := 4) dX11_init_1 lob_X11_3 (Nat.le_of_ble_eq_true rfl) rfl ?_
  refine tt_aload_n (q := 5) dX11_init_4 rfl rfl ?_
  refine tt_newE (q := 8) (n2 := 2) (u2 := 16) dX11_init_5 nw_X11_9_1 (Nat.le_of_ble_eq_true rfl) (Nat.le_of_ble_eq_true rfl) rfl rfl rfl ?_
  replace h := h _ rfl _ rfl
  refine tt_dup (q := 9) dX11_init_8 rfl rfl ?_
  refine callN_0 (q := 12) dX11_init_9 (Or.inl ⟨rfl, ⟨⟨_, _, rfl, rfl, Nat.le_of_ble_eq_true rfl⟩, rfl, rfl, Nat.le_of_ble_eq_true rfl, ?_⟩⟩) (Nat.le_of_ble_eq_true rfl) (Nat.le_of_ble_eq_true rfl) (Nat.le_of_ble_eq_true rfl) rfl (fun _ _ hz => hz)
  refine (show TT cX6_init RX6 true CT0 CN0 _ _ _ none 0 [_] [] (2, 16, _) _ from ?_)
  refine tt_aload_n (q := 1) dX6_init_0 rfl rfl ?_
  refine tt_oinit (q := 4) dX6_init_1 lob_X6_3 (Nat.le_of_ble_eq_true rfl) rfl ?_
  refine tt_aload_n (q := 5) dX6_init_4 rfl rfl ?_
  refine tt_bipush (q := 7) dX6_init_5 bi_16 rfl ?_
  refine tt_newaE (q := 9) (n2 := 3) (u2 := 32) dX6_init_7 ia_2 rfl (Nat.le_of_ble_eq_true rfl) (Nat.le_of_ble_eq_true rfl) rfl rfl rfl ?_
  replace h := h _ rfl _ rfl
  refine tt_putRE (q := 12) dX6_init_9 fl_X6_9 or_1_0 fr_X6_6_0 (Nat.le_of_ble_eq_true rfl) rfl ?_
  replace h := h _ rfl
  refine tt_vret dX6_init_12 ⟨rfl, rfl, rfl, ?_⟩
  refine (show TT _ _ _ _ _ _ _ _ _ 12 [_] _ (3, 32, _) _ from ?_)
  refine tt_putRE (q := 15) dX11_init_12 fl_X11_12 or_0_0 fr_X11_11_0 (Nat.le_of_ble_eq_true rfl) rfl ?_
  replace h := h _ rfl
  refine tt_aload_n (q := 16) dX11_init_15 rfl rfl ?_
  refine tt_newE (q := 19) (n2 := 4) (u2 := 35) dX11_init_16 nw_X11_16_3 (Nat.le_of_ble_eq_true rfl) (Nat.le_of_ble_eq_true rfl) rfl rfl rfl ?_
  replace h := h _ rfl _ rfl
  refine tt_dup (q := 20) dX11_init_19 rfl rfl ?_
  obtain ⟨p9, hp10, h⟩ := h
  refine callN_0 (q := 23) dX11_init_20 (Or.inr (Or.inl ⟨rfl, hp10⟩)) (Nat.le_of_ble_eq_true rfl) (Nat.le_of_ble_eq_true rfl) (Nat.le_of_ble_eq_true rfl) rfl (fun d11 t12 hr13 => ?_)
  refine (show TT _ _ _ _ _ _ _ _ _ _ _ _ (7, 5081, d11) _ from ?_)
  replace h := h d11 t12 hr13
  refine tt_putRE (q := 26) dX11_init_23 fl_X11_19 or_0_1 fr_X11_11_1 (Nat.le_of_ble_eq_true rfl) rfl ?_
  replace h := h _ rfl
  refine tt_aload_n (q := 27) dX11_init_26 rfl rfl ?_
  refine tt_newE (q := 30) (n2 := 8) (u2 := 5087) dX11_init_27 nw_X11_23_7 (Nat.le_of_ble_eq_true rfl) (Nat.le_of_ble_eq_true rfl) rfl rfl rfl ?_
  replace h := h _ rfl _ rfl
  refine tt_dup (q := 31) dX11_init_30 rfl rfl ?_
  refine tt_aload_n (q := 32) dX11_init_31 rfl rfl ?_
  refine tt_getR (q := 35) dX11_init_32 fl_X11_19 or_0_1 (Nat.le_of_ble_eq_true rfl) rfl rfl ?_
  refine callN_1 (q := 38) dX11_init_35 (Or.inr (Or.inr (Or.inl ⟨rfl, ⟨⟨_, _, rfl, rfl, Nat.le_of_ble_eq_true rfl⟩, rfl, rfl, Nat.le_of_ble_eq_true rfl, ?_⟩⟩))) (Nat.le_of_ble_eq_true rfl) (Nat.le_of_ble_eq_true rfl) (Nat.le_of_ble_eq_true rfl) rfl (fun _ _ hz => hz)
  refine (show TT cX9_init RX9 true CT_X9_init CN0 _ _ _ none 0 [_, _] [] (8, 5087, _) _ from ?_)
  refine tt_aload_n (q := 1) dX9_init_0 rfl rfl ?_
  refine tt_oinit (q := 4) dX9_init_1 lob_X9_3 (Nat.le_of_ble_eq_true rfl) rfl ?_
  refine tt_aload_n (q := 5) dX9_init_4 rfl rfl ?_
  refine tt_bipush (q := 7) dX9_init_5 bi_12 rfl ?_
  refine tt_bipush (q := 9) dX9_init_7 bi_6 rfl ?_
  refine tt_mnaE (q := 13) (n2 := 21) (u2 := 5171) (m := 13) dX9_init_9 mn_X9_9 ig_8 gi_8 (by decide) rfl rfl (Nat.le_of_ble_eq_true rfl) (Nat.le_of_ble_eq_true rfl) rfl rfl rfl rfl ?_
  replace h := h _ rfl _ rfl
  refine tt_putRE (q := 16) dX9_init_13 fl_X9_11 or_7_1 fr_X9_9_1 (Nat.le_of_ble_eq_true rfl) rfl ?_
  replace h := h _ rfl
  refine tt_aload_n (q := 17) dX9_init_16 rfl rfl ?_
  refine tt_bipush (q := 19) dX9_init_17 bi_12 rfl ?_
  refine tt_sipush (q := 22) dX9_init_19 si_720 rfl ?_
  refine tt_mnaE (q := 26) (n2 := 34) (u2 := 13823) (m := 13) dX9_init_22 mn_X9_9 ig_21 gi_21 (by decide) rfl rfl (Nat.le_of_ble_eq_true rfl) (Nat.le_of_ble_eq_true rfl) rfl rfl rfl rfl ?_
  replace h := h _ rfl _ rfl
  refine tt_putRE (q := 29) dX9_init_26 fl_X9_16 or_7_2 fr_X9_9_2 (Nat.le_of_ble_eq_true rfl) rfl ?_
  replace h := h _ rfl
  refine tt_aload_n (q := 30) dX9_init_29 rfl rfl ?_
  refine tt_sipush (q := 33) dX9_init_30 si_720 rfl ?_
  refine tt_newaE (q := 35) (n2 := 35) (u2 := 14543) dX9_init_33 ia_34 rfl (Nat.le_of_ble_eq_true rfl) (Nat.le_of_ble_eq_true rfl) rfl rfl rfl ?_
  replace h := h _ rfl _ rfl
  refine tt_putRE (q := 38) dX9_init_35 fl_X9_19 or_7_3 fr_X9_9_3 (Nat.le_of_ble_eq_true rfl) rfl ?_
  replace h := h _ rfl
  refine tt_aload_n (q := 39) dX9_init_38 rfl rfl ?_
  refine tt_sipush (q := 42) dX9_init_39 si_720 rfl ?_
  refine tt_newaE (q := 44) (n2 := 36) (u2 := 15263) dX9_init_42 ia_35 rfl (Nat.le_of_ble_eq_true rfl) (Nat.le_of_ble_eq_true rfl) rfl rfl rfl ?_
  replace h := h _ rfl _ rfl
  refine tt_putRE (q := 47) dX9_init_44 fl_X9_23 or_7_4 fr_X9_9_4 (Nat.le_of_ble_eq_true rfl) rfl ?_
  replace h := h _ rfl
  refine tt_aload_n (q := 48) dX9_init_47 rfl rfl ?_
  refine tt_aload_n (q := 49) dX9_init_48 rfl rfl ?_
  refine tt_putRE (q := 52) dX9_init_49 fl_X9_26 or_7_5 fr_X9_9_5 (Nat.le_of_ble_eq_true rfl) rfl ?_
  replace h := h _ rfl
  refine tt_aload_n (q := 53) dX9_init_52 rfl rfl ?_
  obtain ⟨p32, hp33, h⟩ := h
  refine callVv_0 (q := 56) dX9_init_53 (⟨rfl, rfl, hp33⟩) (Nat.le_of_ble_eq_true rfl) rfl (fun t31 hr34 => ?_)
  replace h := h t31 hr34
  refine tt_vret dX9_init_56 ⟨rfl, rfl, rfl, ?_⟩
  refine (show TT _ _ _ _ _ _ _ _ _ 38 [_] _ (36, 15263, _) _ from ?_)
  refine tt_putRE (q := 41) dX11_init_38 fl_X11_28 or_0_2 fr_X11_11_2 (Nat.le_of_ble_eq_true rfl) rfl ?_
  replace h := h _ rfl
  refine tt_aload_n (q := 42) dX11_init_41 rfl rfl ?_
  refine tt_newE (q := 45) (n2 := 37) (u2 := 15270) dX11_init_42 nw_X11_32_36 (Nat.le_of_ble_eq_true rfl) (Nat.le_of_ble_eq_true rfl) rfl rfl rfl ?_
  replace h := h _ rfl _ rfl
  refine tt_dup (q := 46) dX11_init_45 rfl rfl ?_
  refine tt_aload_n (q := 47) dX11_init_46 rfl rfl ?_
  refine tt_getR (q := 50) dX11_init_47 fl_X11_28 or_0_2 (Nat.le_of_ble_eq_true rfl) rfl rfl ?_
  refine tt_aload_n (q := 51) dX11_init_50 rfl rfl ?_
  refine tt_getR (q := 54) dX11_init_51 fl_X11_19 or_0_1 (Nat.le_of_ble_eq_true rfl) rfl rfl ?_
  refine callN_2 (q := 57) dX11_init_54 (Or.inr (Or.inr (Or.inr (Or.inl ⟨rfl, ⟨⟨_, _, rfl, rfl, Nat.le_of_ble_eq_true rfl⟩, rfl, rfl, Nat.le_of_ble_eq_true rfl, ?_⟩⟩)))) (Nat.le_of_ble_eq_true rfl) (Nat.le_of_ble_eq_true rfl) (Nat.le_of_ble_eq_true rfl) rfl (fun _ _ hz => hz)
  refine (show TT cX5_init RX5 true CT0 CN0 _ _ _ none 0 [_, _, _] [] (37, 15270, _) _ from ?_)
  refine tt_aload_n (q := 1) dX5_init_0 rfl rfl ?_
  refine tt_oinit (q := 4) dX5_init_1 lob_X5_3 (Nat.le_of_ble_eq_true rfl) rfl ?_
  refine tt_aload_n (q := 5) dX5_init_4 rfl rfl ?_
  refine tt_bipush (q := 7) dX5_init_5 bi_10 rfl ?_
  refine tt_newaE (q := 9) (n2 := 38) (u2 := 15280) dX5_init_7 ia_37 rfl (Nat.le_of_ble_eq_true rfl) (Nat.le_of_ble_eq_true rfl) rfl rfl rfl ?_
  replace h := h _ rfl _ rfl
  refine tt_putRE (q := 12) dX5_init_9 fl_X5_9 or_36_1 fr_X5_5_1 (Nat.le_of_ble_eq_true rfl) rfl ?_
  replace h := h _ rfl
  refine tt_aload_n (q := 13) dX5_init_12 rfl rfl ?_
  refine tt_bipush (q := 15) dX5_init_13 bi_10 rfl ?_
  refine tt_bipush (q := 17) dX5_init_15 bi_8 rfl ?_
  refine tt_mnaE (q := 21) (n2 := 49) (u2 := 15370) (m := 11) dX5_init_17 mn_X5_15 ig_38 gi_38 (by decide) rfl rfl (Nat.le_of_ble_eq_true rfl) (Nat.le_of_ble_eq_true rfl) rfl rfl rfl rfl ?_
  replace h := h _ rfl _ rfl
  refine tt_putRE (q := 24) dX5_init_21 fl_X5_17 or_36_2 fr_X5_5_2 (Nat.le_of_ble_eq_true rfl) rfl ?_
  replace h := h _ rfl
  refine tt_aload_n (q := 25) dX5_init_24 rfl rfl ?_
  refine tt_bipush (q := 27) dX5_init_25 bi_10 rfl ?_
  refine tt_sipush (q := 30) dX5_init_27 si_720 rfl ?_
  refine tt_mnaE (q := 34) (n2 := 60) (u2 := 22580) (m := 11) dX5_init_30 mn_X5_15 ig_49 gi_49 (by decide) rfl rfl (Nat.le_of_ble_eq_true rfl) (Nat.le_of_ble_eq_true rfl) rfl rfl rfl rfl ?_
  replace h := h _ rfl _ rfl
  refine tt_putRE (q := 37) dX5_init_34 fl_X5_20 or_36_3 fr_X5_5_3 (Nat.le_of_ble_eq_true rfl) rfl ?_
  replace h := h _ rfl
  refine tt_aload_n (q := 38) dX5_init_37 rfl rfl ?_
  refine tt_bipush (q := 40) dX5_init_38 bi_6 rfl ?_
  refine tt_newaE (q := 42) (n2 := 61) (u2 := 22586) dX5_init_40 ia_60 rfl (Nat.le_of_ble_eq_true rfl) (Nat.le_of_ble_eq_true rfl) rfl rfl rfl ?_
  replace h := h _ rfl _ rfl
  refine tt_putRE (q := 45) dX5_init_42 fl_X5_23 or_36_4 fr_X5_5_4 (Nat.le_of_ble_eq_true rfl) rfl ?_
  replace h := h _ rfl
  refine tt_aload_n (q := 46) dX5_init_45 rfl rfl ?_
  refine tt_aload_n (q := 47) dX5_init_46 rfl rfl ?_
  refine tt_putRE (q := 50) dX5_init_47 fl_X5_26 or_36_5 fr_X5_5_5 (Nat.le_of_ble_eq_true rfl) rfl ?_
  replace h := h _ rfl
  refine tt_aload_n (q := 51) dX5_init_50 rfl rfl ?_
  refine tt_aload_n (q := 52) dX5_init_51 rfl rfl ?_
  refine tt_putRE (q := 55) dX5_init_52 fl_X5_30 or_36_6 fr_X5_5_6 (Nat.le_of_ble_eq_true rfl) rfl ?_
  replace h := h _ rfl
  refine tt_vret dX5_init_55 ⟨rfl, rfl, rfl, ?_⟩
  refine (show TT _ _ _ _ _ _ _ _ _ 57 [_] _ (61, 22586, _) _ from ?_)
  refine tt_putRE (q := 60) dX11_init_57 fl_X11_37 or_0_3 fr_X11_11_3 (Nat.le_of_ble_eq_true rfl) rfl ?_
  replace h := h _ rfl
  refine tt_aload_n (q := 61) dX11_init_60 rfl rfl ?_
  refine tt_newE (q := 64) (n2 := 62) (u2 := 22589) dX11_init_61 nw_X11_41_61 (Nat.le_of_ble_eq_true rfl) (Nat.le_of_ble_eq_true rfl) rfl rfl rfl ?_
  replace h := h _ rfl _ rfl
  refine tt_dup (q := 65) dX11_init_64 rfl rfl ?_
  refine callN_0 (q := 68) dX11_init_65 (Or.inr (Or.inr (Or.inr (Or.inr (Or.inl ⟨rfl, ⟨⟨_, _, rfl, rfl, Nat.le_of_ble_eq_true rfl⟩, rfl, rfl, Nat.le_of_ble_eq_true rfl, ?_⟩⟩))))) (Nat.le_of_ble_eq_true rfl) (Nat.le_of_ble_eq_true rfl) (Nat.le_of_ble_eq_true rfl) rfl (fun _ _ hz => hz)
  refine (show TT cX2_init RX2 true CT_X2_init CN0 _ _ _ none 0 [_, dum] [] (62, 22589, _) _ from ?_)
  refine tt_aload_n (q := 1) dX2_init_0 rfl rfl ?_
  refine tt_oinit (q := 4) dX2_init_1 lob_X2_3 (Nat.le_of_ble_eq_true rfl) rfl ?_
  refine tt_aload_n (q := 5) dX2_init_4 rfl rfl ?_
  refine tt_iconst (q := 6) dX2_init_5 ki_2 rfl ?_
  refine tt_bipush (q := 8) dX2_init_6 bi_6 rfl ?_
  refine tt_mnaE (q := 12) (n2 := 65) (u2 := 22603) (m := 3) dX2_init_8 mn_X2_9 ig_62 gi_62 (by decide) rfl rfl (Nat.le_of_ble_eq_true rfl) (Nat.le_of_ble_eq_true rfl) rfl rfl rfl rfl ?_
  replace h := h _ rfl _ rfl
  refine tt_putRE (q := 15) dX2_init_12 fl_X2_11 or_61_0 fr_X2_2_0 (Nat.le_of_ble_eq_true rfl) rfl ?_
  replace h := h _ rfl
  refine tt_aload_n (q := 16) dX2_init_15 rfl rfl ?_
  refine tt_bipush (q := 18) dX2_init_16 bi_6 rfl ?_
  refine tt_bipush (q := 20) dX2_init_18 bi_6 rfl ?_
  refine tt_mnaE (q := 24) (n2 := 72) (u2 := 22645) (m := 7) dX2_init_20 mn_X2_9 ig_65 gi_65 (by decide) rfl rfl (Nat.le_of_ble_eq_true rfl) (Nat.le_of_ble_eq_true rfl) rfl rfl rfl rfl ?_
  replace h := h _ rfl _ rfl
  refine tt_putRE (q := 27) dX2_init_24 fl_X2_16 or_61_1 fr_X2_2_1 (Nat.le_of_ble_eq_true rfl) rfl ?_
  replace h := h _ rfl
  refine tt_aload_n (q := 28) dX2_init_27 rfl rfl ?_
  refine tt_iconst (q := 29) dX2_init_28 ki_2 rfl ?_
  refine tt_newaE (q := 31) (n2 := 73) (u2 := 22647) dX2_init_29 ia_72 rfl (Nat.le_of_ble_eq_true rfl) (Nat.le_of_ble_eq_true rfl) rfl rfl rfl ?_
  replace h := h _ rfl _ rfl
  refine tt_putRE (q := 34) dX2_init_31 fl_X2_19 or_61_2 fr_X2_2_2 (Nat.le_of_ble_eq_true rfl) rfl ?_
  replace h := h _ rfl
  refine tt_iconst (q := 35) dX2_init_34 ki_0 rfl ?_
  refine sti_n_1 (q := 36) dX2_init_35 rfl rfl rfl ?_
  refine tt_iload_n (q := 37) dX2_init_36 rfl rfl ?_
  refine tt_bipush (q := 39) dX2_init_37 bi_6 rfl ?_
  refine tt_icmp_ge (q := 42) (t := 53) dX2_init_39 rfl rfl (fun c => absurd c (by decide)) (fun c => ?_)
  clear c
  refine tt_aload_n (q := 43) dX2_init_42 rfl rfl ?_
  refine tt_iload_n (q := 44) dX2_init_43 rfl rfl ?_
  obtain ⟨p66, hp67, h⟩ := h
  refine callVv_1 (q := 47) dX2_init_44 (⟨rfl, rfl, hp67⟩) (Nat.le_of_ble_eq_true rfl) rfl (fun t65 hr68 => ?_)
  replace h := h t65 hr68
  refine inc_1 (v := nI 1) (q := 50) dX2_init_47 (by decide) rfl rfl ?_
  refine tt_goto (t := 36) dX2_init_50 rfl ?_
  refine tt_iload_n (q := 37) dX2_init_36 rfl rfl ?_
  refine tt_bipush (q := 39) dX2_init_37 bi_6 rfl ?_
  refine tt_icmp_ge (q := 42) (t := 53) dX2_init_39 rfl rfl (fun c => absurd c (by decide)) (fun c => ?_)
  clear c
  refine tt_aload_n (q := 43) dX2_init_42 rfl rfl ?_
  refine tt_iload_n (q := 44) dX2_init_43 rfl rfl ?_
  obtain ⟨p71, hp72, h⟩ := h
  refine callVv_1 (q := 47) dX2_init_44 (⟨rfl, rfl, hp72⟩) (Nat.le_of_ble_eq_true rfl) rfl (fun t70 hr73 => ?_)
  replace h := h t70 hr73
  refine inc_1 (v := nI 2) (q := 50) dX2_init_47 (by decide) rfl rfl ?_
  refine tt_goto (t := 36) dX2_init_50 rfl ?_
  refine tt_iload_n (q := 37) dX2_init_36 rfl rfl ?_
  refine tt_bipush (q := 39) dX2_init_37 bi_6 rfl ?_
  refine tt_icmp_ge (q := 42) (t := 53) dX2_init_39 rfl rfl (fun c => absurd c (by decide)) (fun c => ?_)
  clear c
  refine tt_aload_n (q := 43) dX2_init_42 rfl rfl ?_
  refine tt_iload_n (q := 44) dX2_init_43 rfl rfl ?_
  obtain ⟨p76, hp77, h⟩ := h
  refine callVv_1 (q := 47) dX2_init_44 (⟨rfl, rfl, hp77⟩) (Nat.le_of_ble_eq_true rfl) rfl (fun t75 hr78 => ?_)
  replace h := h t75 hr78
  refine inc_1 (v := nI 3) (q := 50) dX2_init_47 (by decide) rfl rfl ?_
  refine tt_goto (t := 36) dX2_init_50 rfl ?_
  refine tt_iload_n (q := 37) dX2_init_36 rfl rfl ?_
  refine tt_bipush (q := 39) dX2_init_37 bi_6 rfl ?_
  refine tt_icmp_ge (q := 42) (t := 53) dX2_init_39 rfl rfl (fun c => absurd c (by decide)) (fun c => ?_)
  clear c
  refine tt_aload_n (q := 43) dX2_init_42 rfl rfl ?_
  refine tt_iload_n (q := 44) dX2_init_43 rfl rfl ?_
  obtain ⟨p81, hp82, h⟩ := h
  refine callVv_1 (q := 47) dX2_init_44 (⟨rfl, rfl, hp82⟩) (Nat.le_of_ble_eq_true rfl) rfl (fun t80 hr83 => ?_)
  replace h := h t80 hr83
  refine inc_1 (v := nI 4) (q := 50) dX2_init_47 (by decide) rfl rfl ?_
  refine tt_goto (t := 36) dX2_init_50 rfl ?_
  refine tt_iload_n (q := 37) dX2_init_36 rfl rfl ?_
  refine tt_bipush (q := 39) dX2_init_37 bi_6 rfl ?_
  refine tt_icmp_ge (q := 42) (t := 53) dX2_init_39 rfl rfl (fun c => absurd c (by decide)) (fun c => ?_)
  clear c
  refine tt_aload_n (q := 43) dX2_init_42 rfl rfl ?_
  refine tt_iload_n (q := 44) dX2_init_43 rfl rfl ?_
  obtain ⟨p86, hp87, h⟩ := h
  refine callVv_1 (q := 47) dX2_init_44 (⟨rfl, rfl, hp87⟩) (Nat.le_of_ble_eq_true rfl) rfl (fun t85 hr88 => ?_)
  replace h := h t85 hr88
  refine inc_1 (v := nI 5) (q := 50) dX2_init_47 (by decide) rfl rfl ?_
  refine tt_goto (t := 36) dX2_init_50 rfl ?_
  refine tt_iload_n (q := 37) dX2_init_36 rfl rfl ?_
  refine tt_bipush (q := 39) dX2_init_37 bi_6 rfl ?_
  refine tt_icmp_ge (q := 42) (t := 53) dX2_init_39 rfl rfl (fun c => absurd c (by decide)) (fun c => ?_)
  clear c
  refine tt_aload_n (q := 43) dX2_init_42 rfl rfl ?_
  refine tt_iload_n (q := 44) dX2_init_43 rfl rfl ?_
  obtain ⟨p91, hp92, h⟩ := h
  refine callVv_1 (q := 47) dX2_init_44 (⟨rfl, rfl, hp92⟩) (Nat.le_of_ble_eq_true rfl) rfl (fun t90 hr93 => ?_)
  replace h := h t90 hr93
  refine inc_1 (v := nI 6) (q := 50) dX2_init_47 (by decide) rfl rfl ?_
  refine tt_goto (t := 36) dX2_init_50 rfl ?_
  refine tt_iload_n (q := 37) dX2_init_36 rfl rfl ?_
  refine tt_bipush (q := 39) dX2_init_37 bi_6 rfl ?_
  refine tt_icmp_ge (q := 42) (t := 53) dX2_init_39 rfl rfl (fun c => ?_) (fun c => absurd c (by decide))
  clear c
  refine tt_aload_n (q := 54) dX2_init_53 rfl rfl ?_
  refine tt_getR (q := 57) dX2_init_54 fl_X2_19 or_61_2 (Nat.le_of_ble_eq_true rfl) rfl rfl ?_
  refine tt_iconst (q := 58) dX2_init_57 ki_1 rfl ?_
  refine tt_bipush (q := 60) dX2_init_58 bi_20 rfl ?_
  refine tt_iast (q := 61) dX2_init_60 ia_72 (Nat.le_of_ble_eq_true rfl) rfl (Nat.le_of_ble_eq_true rfl : 1 < 2) rfl ?_
  replace h := h _ rfl
  refine tt_vret dX2_init_61 ⟨rfl, rfl, rfl, ?_⟩
  refine (show TT _ _ _ _ _ _ _ _ _ 68 [_] _ (73, 22647, _) _ from ?_)
  refine tt_putRE (q := 71) dX11_init_68 fl_X11_44 or_0_4 fr_X11_11_4 (Nat.le_of_ble_eq_true rfl) rfl ?_
  replace h := h _ rfl
  refine tt_aload_n (q := 72) dX11_init_71 rfl rfl ?_
  refine tt_newE (q := 75) (n2 := 74) (u2 := 22656) dX11_init_72 nw_X11_48_73 (Nat.le_of_ble_eq_true rfl) (Nat.le_of_ble_eq_true rfl) rfl rfl rfl ?_
  replace h := h _ rfl _ rfl
  refine tt_dup (q := 76) dX11_init_75 rfl rfl ?_
  refine tt_aload_n (q := 77) dX11_init_76 rfl rfl ?_
  refine tt_getR (q := 80) dX11_init_77 fl_X11_28 or_0_2 (Nat.le_of_ble_eq_true rfl) rfl rfl ?_
  refine tt_aload_n (q := 81) dX11_init_80 rfl rfl ?_
  refine tt_getR (q := 84) dX11_init_81 fl_X11_44 or_0_4 (Nat.le_of_ble_eq_true rfl) rfl rfl ?_
  refine callN_2 (q := 87) dX11_init_84 (Or.inr (Or.inr (Or.inr (Or.inr (Or.inr (Or.inl ⟨rfl, ⟨⟨_, _, rfl, rfl, Nat.le_of_ble_eq_true rfl⟩, rfl, rfl, Nat.le_of_ble_eq_true rfl, ?_⟩⟩)))))) (Nat.le_of_ble_eq_true rfl) (Nat.le_of_ble_eq_true rfl) (Nat.le_of_ble_eq_true rfl) rfl (fun _ _ hz => hz)
  refine (show TT cX1_init RX1 true CT0 CN0 _ _ _ none 0 [_, _, _] [] (74, 22656, _) _ from ?_)
  refine tt_aload_n (q := 1) dX1_init_0 rfl rfl ?_
  refine tt_oinit (q := 4) dX1_init_1 lob_X1_3 (Nat.le_of_ble_eq_true rfl) rfl ?_
  refine tt_aload_n (q := 5) dX1_init_4 rfl rfl ?_
  refine tt_iconst (q := 6) dX1_init_5 ki_5 rfl ?_
  refine tt_newaE (q := 8) (n2 := 75) (u2 := 22661) dX1_init_6 ia_74 rfl (Nat.le_of_ble_eq_true rfl) (Nat.le_of_ble_eq_true rfl) rfl rfl rfl ?_
  replace h := h _ rfl _ rfl
  refine tt_putRE (q := 11) dX1_init_8 fl_X1_9 or_73_0 fr_X1_1_0 (Nat.le_of_ble_eq_true rfl) rfl ?_
  replace h := h _ rfl
  refine tt_aload_n (q := 12) dX1_init_11 rfl rfl ?_
  refine tt_iconst (q := 13) dX1_init_12 ki_5 rfl ?_
  refine tt_newaE (q := 15) (n2 := 76) (u2 := 22666) dX1_init_13 ia_75 rfl (Nat.le_of_ble_eq_true rfl) (Nat.le_of_ble_eq_true rfl) rfl rfl rfl ?_
  replace h := h _ rfl _ rfl
  refine tt_putRE (q := 18) dX1_init_15 fl_X1_15 or_73_2 fr_X1_1_2 (Nat.le_of_ble_eq_true rfl) rfl ?_
  replace h := h _ rfl
  refine tt_aload_n (q := 19) dX1_init_18 rfl rfl ?_
  refine tt_iconst (q := 20) dX1_init_19 ki_5 rfl ?_
  refine tt_newaE (q := 22) (n2 := 77) (u2 := 22671) dX1_init_20 ia_76 rfl (Nat.le_of_ble_eq_true rfl) (Nat.le_of_ble_eq_true rfl) rfl rfl rfl ?_
  replace h := h _ rfl _ rfl
  refine tt_putRE (q := 25) dX1_init_22 fl_X1_18 or_73_3 fr_X1_1_3 (Nat.le_of_ble_eq_true rfl) rfl ?_
  replace h := h _ rfl
  refine tt_aload_n (q := 26) dX1_init_25 rfl rfl ?_
  refine tt_aload_n (q := 27) dX1_init_26 rfl rfl ?_
  refine tt_putRE (q := 30) dX1_init_27 fl_X1_21 or_73_7 fr_X1_1_7 (Nat.le_of_ble_eq_true rfl) rfl ?_
  replace h := h _ rfl
  refine tt_aload_n (q := 31) dX1_init_30 rfl rfl ?_
  refine tt_aload_n (q := 32) dX1_init_31 rfl rfl ?_
  refine tt_putRE (q := 35) dX1_init_32 fl_X1_25 or_73_8 fr_X1_1_8 (Nat.le_of_ble_eq_true rfl) rfl ?_
  replace h := h _ rfl
  refine tt_vret dX1_init_35 ⟨rfl, rfl, rfl, ?_⟩
  refine (show TT _ _ _ _ _ _ _ _ _ 87 [_] _ (77, 22671, _) _ from ?_)
  refine tt_putRE (q := 90) dX11_init_87 fl_X11_53 or_0_5 fr_X11_11_5 (Nat.le_of_ble_eq_true rfl) rfl ?_
  replace h := h _ rfl
  refine tt_aload_n (q := 91) dX11_init_90 rfl rfl ?_
  refine tt_newE (q := 94) (n2 := 78) (u2 := 22678) dX11_init_91 nw_X11_57_77 (Nat.le_of_ble_eq_true rfl) (Nat.le_of_ble_eq_true rfl) rfl rfl rfl ?_
  replace h := h _ rfl _ rfl
  refine tt_dup (q := 95) dX11_init_94 rfl rfl ?_
  refine tt_aload_n (q := 96) dX11_init_95 rfl rfl ?_
  refine tt_getR (q := 99) dX11_init_96 fl_X11_19 or_0_1 (Nat.le_of_ble_eq_true rfl) rfl rfl ?_
  refine tt_aload_n (q := 100) dX11_init_99 rfl rfl ?_
  refine tt_getR (q := 103) dX11_init_100 fl_X11_37 or_0_3 (Nat.le_of_ble_eq_true rfl) rfl rfl ?_
  refine tt_aload_n (q := 104) dX11_init_103 rfl rfl ?_
  refine tt_getR (q := 107) dX11_init_104 fl_X11_44 or_0_4 (Nat.le_of_ble_eq_true rfl) rfl rfl ?_
  refine callN_3 (q := 110) dX11_init_107 (Or.inr (Or.inr (Or.inr (Or.inr (Or.inr (Or.inr (Or.inl ⟨rfl, ⟨⟨_, _, rfl, rfl, Nat.le_of_ble_eq_true rfl⟩, rfl, rfl, Nat.le_of_ble_eq_true rfl, ?_⟩⟩))))))) (Nat.le_of_ble_eq_true rfl) (Nat.le_of_ble_eq_true rfl) (Nat.le_of_ble_eq_true rfl) rfl (fun _ _ hz => hz)
  refine (show TT cX10_init RX10 true CT0 CN0 _ _ _ none 0 [_, _, _, _] [] (78, 22678, _) _ from ?_)
  refine tt_aload_n (q := 1) dX10_init_0 rfl rfl ?_
  refine tt_oinit (q := 4) dX10_init_1 lob_X10_3 (Nat.le_of_ble_eq_true rfl) rfl ?_
  refine tt_aload_n (q := 5) dX10_init_4 rfl rfl ?_
  refine tt_iconst (q := 6) dX10_init_5 ki_4 rfl ?_
  refine tt_newaE (q := 8) (n2 := 79) (u2 := 22682) dX10_init_6 ia_78 rfl (Nat.le_of_ble_eq_true rfl) (Nat.le_of_ble_eq_true rfl) rfl rfl rfl ?_
  replace h := h _ rfl _ rfl
  refine tt_putRE (q := 11) dX10_init_8 fl_X10_9 or_77_1 fr_X10_10_1 (Nat.le_of_ble_eq_true rfl) rfl ?_
  replace h := h _ rfl
  refine tt_aload_n (q := 12) dX10_init_11 rfl rfl ?_
  refine tt_iconst (q := 13) dX10_init_12 ki_4 rfl ?_
  refine tt_newaE (q := 15) (n2 := 80) (u2 := 22686) dX10_init_13 ia_79 rfl (Nat.le_of_ble_eq_true rfl) (Nat.le_of_ble_eq_true rfl) rfl rfl rfl ?_
  replace h := h _ rfl _ rfl
  refine tt_putRE (q := 18) dX10_init_15 fl_X10_15 or_77_2 fr_X10_10_2 (Nat.le_of_ble_eq_true rfl) rfl ?_
  replace h := h _ rfl
  refine tt_aload_n (q := 19) dX10_init_18 rfl rfl ?_
  refine tt_iconst (q := 20) dX10_init_19 ki_4 rfl ?_
  refine tt_newaE (q := 22) (n2 := 81) (u2 := 22690) dX10_init_20 ia_80 rfl (Nat.le_of_ble_eq_true rfl) (Nat.le_of_ble_eq_true rfl) rfl rfl rfl ?_
  replace h := h _ rfl _ rfl
  refine tt_putRE (q := 25) dX10_init_22 fl_X10_18 or_77_3 fr_X10_10_3 (Nat.le_of_ble_eq_true rfl) rfl ?_
  replace h := h _ rfl
  refine tt_aload_n (q := 26) dX10_init_25 rfl rfl ?_
  refine tt_aload_n (q := 27) dX10_init_26 rfl rfl ?_
  refine tt_putRE (q := 30) dX10_init_27 fl_X10_21 or_77_4 fr_X10_10_4 (Nat.le_of_ble_eq_true rfl) rfl ?_
  replace h := h _ rfl
  refine tt_aload_n (q := 31) dX10_init_30 rfl rfl ?_
  refine tt_aload_n (q := 32) dX10_init_31 rfl rfl ?_
  refine tt_putRE (q := 35) dX10_init_32 fl_X10_25 or_77_5 fr_X10_10_5 (Nat.le_of_ble_eq_true rfl) rfl ?_
  replace h := h _ rfl
  refine tt_aload_n (q := 36) dX10_init_35 rfl rfl ?_
  refine tt_aload_n (q := 37) dX10_init_36 rfl rfl ?_
  refine tt_putRE (q := 40) dX10_init_37 fl_X10_29 or_77_6 fr_X10_10_6 (Nat.le_of_ble_eq_true rfl) rfl ?_
  replace h := h _ rfl
  refine tt_vret dX10_init_40 ⟨rfl, rfl, rfl, ?_⟩
  refine (show TT _ _ _ _ _ _ _ _ _ 110 [_] _ (81, 22690, _) _ from ?_)
  refine tt_putRE (q := 113) dX11_init_110 fl_X11_62 or_0_6 fr_X11_11_6 (Nat.le_of_ble_eq_true rfl) rfl ?_
  replace h := h _ rfl
  refine tt_aload_n (q := 114) dX11_init_113 rfl rfl ?_
  refine tt_newE (q := 117) (n2 := 82) (u2 := 22693) dX11_init_114 nw_X11_66_81 (Nat.le_of_ble_eq_true rfl) (Nat.le_of_ble_eq_true rfl) rfl rfl rfl ?_
  replace h := h _ rfl _ rfl
  refine tt_dup (q := 118) dX11_init_117 rfl rfl ?_
  refine callN_0 (q := 121) dX11_init_118 (Or.inr (Or.inr (Or.inr (Or.inr (Or.inr (Or.inr (Or.inr (Or.inl ⟨rfl, ⟨⟨_, _, rfl, rfl, Nat.le_of_ble_eq_true rfl⟩, rfl, rfl, Nat.le_of_ble_eq_true rfl, ?_⟩⟩)))))))) (Nat.le_of_ble_eq_true rfl) (Nat.le_of_ble_eq_true rfl) (Nat.le_of_ble_eq_true rfl) rfl (fun _ _ hz => hz)
  refine (show TT cX8_init RX8 true CT0 CN0 _ _ _ none 0 [_] [] (82, 22693, _) _ from ?_)
  refine tt_aload_n (q := 1) dX8_init_0 rfl rfl ?_
  refine tt_oinit (q := 4) dX8_init_1 lob_X8_3 (Nat.le_of_ble_eq_true rfl) rfl ?_
  refine tt_aload_n (q := 5) dX8_init_4 rfl rfl ?_
  refine tt_iconst (q := 6) dX8_init_5 ki_4 rfl ?_
  refine tt_newaE (q := 8) (n2 := 83) (u2 := 22697) dX8_init_6 ia_82 rfl (Nat.le_of_ble_eq_true rfl) (Nat.le_of_ble_eq_true rfl) rfl rfl rfl ?_
  replace h := h _ rfl _ rfl
  refine tt_putRE (q := 11) dX8_init_8 fl_X8_9 or_81_0 fr_X8_8_0 (Nat.le_of_ble_eq_true rfl) rfl ?_
  replace h := h _ rfl
  refine tt_vret dX8_init_11 ⟨rfl, rfl, rfl, ?_⟩
  refine (show TT _ _ _ _ _ _ _ _ _ 121 [_] _ (83, 22697, _) _ from ?_)
  refine tt_putRE (q := 124) dX11_init_121 fl_X11_69 or_0_7 fr_X11_11_7 (Nat.le_of_ble_eq_true rfl) rfl ?_
  replace h := h _ rfl
  refine tt_aload_n (q := 125) dX11_init_124 rfl rfl ?_
  refine tt_newE (q := 128) (n2 := 84) (u2 := 22699) dX11_init_125 nw_X11_73_83 (Nat.le_of_ble_eq_true rfl) (Nat.le_of_ble_eq_true rfl) rfl rfl rfl ?_
  replace h := h _ rfl _ rfl
  refine tt_dup (q := 129) dX11_init_128 rfl rfl ?_
  refine callN_0 (q := 132) dX11_init_129 (Or.inr (Or.inr (Or.inr (Or.inr (Or.inr (Or.inr (Or.inr (Or.inr (Or.inl ⟨rfl, ⟨⟨_, _, rfl, rfl, Nat.le_of_ble_eq_true rfl⟩, rfl, rfl, Nat.le_of_ble_eq_true rfl, ?_⟩⟩))))))))) (Nat.le_of_ble_eq_true rfl) (Nat.le_of_ble_eq_true rfl) (Nat.le_of_ble_eq_true rfl) rfl (fun _ _ hz => hz)
  refine (show TT cX7_init RX7 true CT0 CN0 _ _ _ none 0 [_] [] (84, 22699, _) _ from ?_)
  refine tt_aload_n (q := 1) dX7_init_0 rfl rfl ?_
  refine tt_oinit (q := 4) dX7_init_1 lob_X7_3 (Nat.le_of_ble_eq_true rfl) rfl ?_
  refine tt_aload_n (q := 5) dX7_init_4 rfl rfl ?_
  refine tt_iconst (q := 6) dX7_init_5 ki_5 rfl ?_
  refine tt_newaE (q := 8) (n2 := 85) (u2 := 22704) dX7_init_6 ia_84 rfl (Nat.le_of_ble_eq_true rfl) (Nat.le_of_ble_eq_true rfl) rfl rfl rfl ?_
  replace h := h _ rfl _ rfl
  refine tt_putRE (q := 11) dX7_init_8 fl_X7_9 or_83_1 fr_X7_7_1 (Nat.le_of_ble_eq_true rfl) rfl ?_
  replace h := h _ rfl
  refine tt_vret dX7_init_11 ⟨rfl, rfl, rfl, ?_⟩
  refine (show TT _ _ _ _ _ _ _ _ _ 132 [_] _ (85, 22704, _) _ from ?_)
  refine tt_putRE (q := 135) dX11_init_132 fl_X11_76 or_0_8 fr_X11_11_8 (Nat.le_of_ble_eq_true rfl) rfl ?_
  replace h := h _ rfl
  refine tt_aload_n (q := 136) dX11_init_135 rfl rfl ?_
  refine tt_newE (q := 139) (n2 := 86) (u2 := 22708) dX11_init_136 nw_X11_80_85 (Nat.le_of_ble_eq_true rfl) (Nat.le_of_ble_eq_true rfl) rfl rfl rfl ?_
  replace h := h _ rfl _ rfl
  refine tt_dup (q := 140) dX11_init_139 rfl rfl ?_
  refine tt_aload_n (q := 141) dX11_init_140 rfl rfl ?_
  refine tt_getR (q := 144) dX11_init_141 fl_X11_37 or_0_3 (Nat.le_of_ble_eq_true rfl) rfl rfl ?_
  refine tt_aload_n (q := 145) dX11_init_144 rfl rfl ?_
  refine tt_getR (q := 148) dX11_init_145 fl_X11_44 or_0_4 (Nat.le_of_ble_eq_true rfl) rfl rfl ?_
  refine callN_2 (q := 151) dX11_init_148 (Or.inr (Or.inr (Or.inr (Or.inr (Or.inr (Or.inr (Or.inr (Or.inr (Or.inr (Or.inl ⟨rfl, ⟨⟨_, _, rfl, rfl, Nat.le_of_ble_eq_true rfl⟩, rfl, rfl, Nat.le_of_ble_eq_true rfl, ?_⟩⟩)))))))))) (Nat.le_of_ble_eq_true rfl) (Nat.le_of_ble_eq_true rfl) (Nat.le_of_ble_eq_true rfl) rfl (fun _ _ hz => hz)
  refine (show TT cX0_init RX0 true CT0 CN0 _ _ _ none 0 [_, _, _] [] (86, 22708, _) _ from ?_)
  refine tt_aload_n (q := 1) dX0_init_0 rfl rfl ?_
  refine tt_oinit (q := 4) dX0_init_1 lob_X0_3 (Nat.le_of_ble_eq_true rfl) rfl ?_
  refine tt_aload_n (q := 5) dX0_init_4 rfl rfl ?_
  refine tt_bipush (q := 7) dX0_init_5 bi_8 rfl ?_
  refine tt_newaE (q := 9) (n2 := 87) (u2 := 22716) dX0_init_7 ia_86 rfl (Nat.le_of_ble_eq_true rfl) (Nat.le_of_ble_eq_true rfl) rfl rfl rfl ?_
  replace h := h _ rfl _ rfl
  refine tt_putRE (q := 12) dX0_init_9 fl_X0_9 or_85_1 fr_X0_0_1 (Nat.le_of_ble_eq_true rfl) rfl ?_
  replace h := h _ rfl
  refine tt_aload_n (q := 13) dX0_init_12 rfl rfl ?_
  refine tt_aload_n (q := 14) dX0_init_13 rfl rfl ?_
  refine tt_putRE (q := 17) dX0_init_14 fl_X0_15 or_85_2 fr_X0_0_2 (Nat.le_of_ble_eq_true rfl) rfl ?_
  replace h := h _ rfl
  refine tt_aload_n (q := 18) dX0_init_17 rfl rfl ?_
  refine tt_aload_n (q := 19) dX0_init_18 rfl rfl ?_
  refine tt_putRE (q := 22) dX0_init_19 fl_X0_19 or_85_3 fr_X0_0_3 (Nat.le_of_ble_eq_true rfl) rfl ?_
  replace h := h _ rfl
  refine tt_vret dX0_init_22 ⟨rfl, rfl, rfl, ?_⟩
  refine (show TT _ _ _ _ _ _ _ _ _ 151 [_] _ (87, 22716, _) _ from ?_)
  refine tt_putRE (q := 154) dX11_init_151 fl_X11_85 or_0_9 fr_X11_11_9 (Nat.le_of_ble_eq_true rfl) rfl ?_
  replace h := h _ rfl
  refine tt_aload_n (q := 155) dX11_init_154 rfl rfl ?_
  refine tt_newE (q := 158) (n2 := 88) (u2 := 22723) dX11_init_155 nw_X11_89_87 (Nat.le_of_ble_eq_true rfl) (Nat.le_of_ble_eq_true rfl) rfl rfl rfl ?_
  replace h := h _ rfl _ rfl
  refine tt_dup (q := 159) dX11_init_158 rfl rfl ?_
  refine callN_0 (q := 162) dX11_init_159 (Or.inr (Or.inr (Or.inr (Or.inr (Or.inr (Or.inr (Or.inr (Or.inr (Or.inr (Or.inr (⟨rfl, ⟨⟨_, _, rfl, rfl, Nat.le_of_ble_eq_true rfl⟩, rfl, rfl, Nat.le_of_ble_eq_true rfl, ?_⟩⟩))))))))))) (Nat.le_of_ble_eq_true rfl) (Nat.le_of_ble_eq_true rfl) (Nat.le_of_ble_eq_true rfl) rfl (fun _ _ hz => hz)
  refine (show TT cX3_init RX3 true CT0 CNT_X3_init _ _ _ none 0 [_] [] (88, 22723, _) _ from ?_)
  refine tt_aload_n (q := 1) dX3_init_0 rfl rfl ?_
  refine tt_oinit (q := 4) dX3_init_1 lob_X3_3 (Nat.le_of_ble_eq_true rfl) rfl ?_
  refine tt_aload_n (q := 5) dX3_init_4 rfl rfl ?_
  refine tt_newE (q := 8) (n2 := 89) (u2 := 22726) dX3_init_5 nw_X3_9_88 (Nat.le_of_ble_eq_true rfl) (Nat.le_of_ble_eq_true rfl) rfl rfl rfl ?_
  replace h := h _ rfl _ rfl
  refine tt_dup (q := 9) dX3_init_8 rfl rfl ?_
  refine callN_0 (q := 12) dX3_init_9 (⟨rfl, ⟨⟨_, _, rfl, rfl, Nat.le_of_ble_eq_true rfl⟩, rfl, rfl, Nat.le_of_ble_eq_true rfl, ?_⟩⟩) (Nat.le_of_ble_eq_true rfl) (Nat.le_of_ble_eq_true rfl) (Nat.le_of_ble_eq_true rfl) rfl (fun _ _ hz => hz)
  refine (show TT cX2_init RX2 true CT_X2_init CN0 _ _ _ none 0 [_, dum] [] (89, 22726, _) _ from ?_)
  refine tt_aload_n (q := 1) dX2_init_0 rfl rfl ?_
  refine tt_oinit (q := 4) dX2_init_1 lob_X2_3 (Nat.le_of_ble_eq_true rfl) rfl ?_
  refine tt_aload_n (q := 5) dX2_init_4 rfl rfl ?_
  refine tt_iconst (q := 6) dX2_init_5 ki_2 rfl ?_
  refine tt_bipush (q := 8) dX2_init_6 bi_6 rfl ?_
  refine tt_mnaE (q := 12) (n2 := 92) (u2 := 22740) (m := 3) dX2_init_8 mn_X2_9 ig_89 gi_89 (by decide) rfl rfl (Nat.le_of_ble_eq_true rfl) (Nat.le_of_ble_eq_true rfl) rfl rfl rfl rfl ?_
  replace h := h _ rfl _ rfl
  refine tt_putRE (q := 15) dX2_init_12 fl_X2_11 or_88_0 fr_X2_2_0 (Nat.le_of_ble_eq_true rfl) rfl ?_
  replace h := h _ rfl
  refine tt_aload_n (q := 16) dX2_init_15 rfl rfl ?_
  refine tt_bipush (q := 18) dX2_init_16 bi_6 rfl ?_
  refine tt_bipush (q := 20) dX2_init_18 bi_6 rfl ?_
  refine tt_mnaE (q := 24) (n2 := 99) (u2 := 22782) (m := 7) dX2_init_20 mn_X2_9 ig_92 gi_92 (by decide) rfl rfl (Nat.le_of_ble_eq_true rfl) (Nat.le_of_ble_eq_true rfl) rfl rfl rfl rfl ?_
  replace h := h _ rfl _ rfl
  refine tt_putRE (q := 27) dX2_init_24 fl_X2_16 or_88_1 fr_X2_2_1 (Nat.le_of_ble_eq_true rfl) rfl ?_
  replace h := h _ rfl
  refine tt_aload_n (q := 28) dX2_init_27 rfl rfl ?_
  refine tt_iconst (q := 29) dX2_init_28 ki_2 rfl ?_
  refine tt_newaE (q := 31) (n2 := 100) (u2 := 22784) dX2_init_29 ia_99 rfl (Nat.le_of_ble_eq_true rfl) (Nat.le_of_ble_eq_true rfl) rfl rfl rfl ?_
  replace h := h _ rfl _ rfl
  refine tt_putRE (q := 34) dX2_init_31 fl_X2_19 or_88_2 fr_X2_2_2 (Nat.le_of_ble_eq_true rfl) rfl ?_
  replace h := h _ rfl
  refine tt_iconst (q := 35) dX2_init_34 ki_0 rfl ?_
  refine sti_n_1 (q := 36) dX2_init_35 rfl rfl rfl ?_
  refine tt_iload_n (q := 37) dX2_init_36 rfl rfl ?_
  refine tt_bipush (q := 39) dX2_init_37 bi_6 rfl ?_
  refine tt_icmp_ge (q := 42) (t := 53) dX2_init_39 rfl rfl (fun c => absurd c (by decide)) (fun c => ?_)
  clear c
  refine tt_aload_n (q := 43) dX2_init_42 rfl rfl ?_
  refine tt_iload_n (q := 44) dX2_init_43 rfl rfl ?_
  obtain ⟨p160, hp161, h⟩ := h
  refine callVv_1 (q := 47) dX2_init_44 (⟨rfl, rfl, hp161⟩) (Nat.le_of_ble_eq_true rfl) rfl (fun t159 hr162 => ?_)
  replace h := h t159 hr162
  refine inc_1 (v := nI 1) (q := 50) dX2_init_47 (by decide) rfl rfl ?_
  refine tt_goto (t := 36) dX2_init_50 rfl ?_
  refine tt_iload_n (q := 37) dX2_init_36 rfl rfl ?_
  refine tt_bipush (q := 39) dX2_init_37 bi_6 rfl ?_
  refine tt_icmp_ge (q := 42) (t := 53) dX2_init_39 rfl rfl (fun c => absurd c (by decide)) (fun c => ?_)
  clear c
  refine tt_aload_n (q := 43) dX2_init_42 rfl rfl ?_
  refine tt_iload_n (q := 44) dX2_init_43 rfl rfl ?_
  obtain ⟨p165, hp166, h⟩ := h
  refine callVv_1 (q := 47) dX2_init_44 (⟨rfl, rfl, hp166⟩) (Nat.le_of_ble_eq_true rfl) rfl (fun t164 hr167 => ?_)
  replace h := h t164 hr167
  refine inc_1 (v := nI 2) (q := 50) dX2_init_47 (by decide) rfl rfl ?_
  refine tt_goto (t := 36) dX2_init_50 rfl ?_
  refine tt_iload_n (q := 37) dX2_init_36 rfl rfl ?_
  refine tt_bipush (q := 39) dX2_init_37 bi_6 rfl ?_
  refine tt_icmp_ge (q := 42) (t := 53) dX2_init_39 rfl rfl (fun c => absurd c (by decide)) (fun c => ?_)
  clear c
  refine tt_aload_n (q := 43) dX2_init_42 rfl rfl ?_
  refine tt_iload_n (q := 44) dX2_init_43 rfl rfl ?_
  obtain ⟨p170, hp171, h⟩ := h
  refine callVv_1 (q := 47) dX2_init_44 (⟨rfl, rfl, hp171⟩) (Nat.le_of_ble_eq_true rfl) rfl (fun t169 hr172 => ?_)
  replace h := h t169 hr172
  refine inc_1 (v := nI 3) (q := 50) dX2_init_47 (by decide) rfl rfl ?_
  refine tt_goto (t := 36) dX2_init_50 rfl ?_
  refine tt_iload_n (q := 37) dX2_init_36 rfl rfl ?_
  refine tt_bipush (q := 39) dX2_init_37 bi_6 rfl ?_
  refine tt_icmp_ge (q := 42) (t := 53) dX2_init_39 rfl rfl (fun c => absurd c (by decide)) (fun c => ?_)
  clear c
  refine tt_aload_n (q := 43) dX2_init_42 rfl rfl ?_
  refine tt_iload_n (q := 44) dX2_init_43 rfl rfl ?_
  obtain ⟨p175, hp176, h⟩ := h
  refine callVv_1 (q := 47) dX2_init_44 (⟨rfl, rfl, hp176⟩) (Nat.le_of_ble_eq_true rfl) rfl (fun t174 hr177 => ?_)
  replace h := h t174 hr177
  refine inc_1 (v := nI 4) (q := 50) dX2_init_47 (by decide) rfl rfl ?_
  refine tt_goto (t := 36) dX2_init_50 rfl ?_
  refine tt_iload_n (q := 37) dX2_init_36 rfl rfl ?_
  refine tt_bipush (q := 39) dX2_init_37 bi_6 rfl ?_
  refine tt_icmp_ge (q := 42) (t := 53) dX2_init_39 rfl rfl (fun c => absurd c (by decide)) (fun c => ?_)
  clear c
  refine tt_aload_n (q := 43) dX2_init_42 rfl rfl ?_
  refine tt_iload_n (q := 44) dX2_init_43 rfl rfl ?_
  obtain ⟨p180, hp181, h⟩ := h
  refine callVv_1 (q := 47) dX2_init_44 (⟨rfl, rfl, hp181⟩) (Nat.le_of_ble_eq_true rfl) rfl (fun t179 hr182 => ?_)
  replace h := h t179 hr182
  refine inc_1 (v := nI 5) (q := 50) dX2_init_47 (by decide) rfl rfl ?_
  refine tt_goto (t := 36) dX2_init_50 rfl ?_
  refine tt_iload_n (q := 37) dX2_init_36 rfl rfl ?_
  refine tt_bipush (q := 39) dX2_init_37 bi_6 rfl ?_
  refine tt_icmp_ge (q := 42) (t := 53) dX2_init_39 rfl rfl (fun c => absurd c (by decide)) (fun c => ?_)
  clear c
  refine tt_aload_n (q := 43) dX2_init_42 rfl rfl ?_
  refine tt_iload_n (q := 44) dX2_init_43 rfl rfl ?_
  obtain ⟨p185, hp186, h⟩ := h
  refine callVv_1 (q := 47) dX2_init_44 (⟨rfl, rfl, hp186⟩) (Nat.le_of_ble_eq_true rfl) rfl (fun t184 hr187 => ?_)
  replace h := h t184 hr187
  refine inc_1 (v := nI 6) (q := 50) dX2_init_47 (by decide) rfl rfl ?_
  refine tt_goto (t := 36) dX2_init_50 rfl ?_
  refine tt_iload_n (q := 37) dX2_init_36 rfl rfl ?_
  refine tt_bipush (q := 39) dX2_init_37 bi_6 rfl ?_
  refine tt_icmp_ge (q := 42) (t := 53) dX2_init_39 rfl rfl (fun c => ?_) (fun c => absurd c (by decide))
  clear c
  refine tt_aload_n (q := 54) dX2_init_53 rfl rfl ?_
  refine tt_getR (q := 57) dX2_init_54 fl_X2_19 or_88_2 (Nat.le_of_ble_eq_true rfl) rfl rfl ?_
  refine tt_iconst (q := 58) dX2_init_57 ki_1 rfl ?_
  refine tt_bipush (q := 60) dX2_init_58 bi_20 rfl ?_
  refine tt_iast (q := 61) dX2_init_60 ia_99 (Nat.le_of_ble_eq_true rfl) rfl (Nat.le_of_ble_eq_true rfl : 1 < 2) rfl ?_
  replace h := h _ rfl
  refine tt_vret dX2_init_61 ⟨rfl, rfl, rfl, ?_⟩
  refine (show TT _ _ _ _ _ _ _ _ _ 12 [_] _ (100, 22784, _) _ from ?_)
  refine tt_putRE (q := 15) dX3_init_12 fl_X3_12 or_87_5 fr_X3_3_5 (Nat.le_of_ble_eq_true rfl) rfl ?_
  replace h := h _ rfl
  refine tt_aload_n (q := 16) dX3_init_15 rfl rfl ?_
  refine tt_iconst (q := 17) dX3_init_16 ki_4 rfl ?_
  refine tt_newaE (q := 19) (n2 := 101) (u2 := 22788) dX3_init_17 ia_100 rfl (Nat.le_of_ble_eq_true rfl) (Nat.le_of_ble_eq_true rfl) rfl rfl rfl ?_
  replace h := h _ rfl _ rfl
  refine tt_putRE (q := 22) dX3_init_19 fl_X3_18 or_87_6 fr_X3_3_6 (Nat.le_of_ble_eq_true rfl) rfl ?_
  replace h := h _ rfl
  refine tt_vret dX3_init_22 ⟨rfl, rfl, rfl, ?_⟩
  refine (show TT _ _ _ _ _ _ _ _ _ 162 [_] _ (101, 22788, _) _ from ?_)
  refine tt_putRE (q := 165) dX11_init_162 fl_X11_92 or_0_10 fr_X11_11_10 (Nat.le_of_ble_eq_true rfl) rfl ?_
  replace h := h _ rfl
  refine tt_aload_n (q := 166) dX11_init_165 rfl rfl ?_
  refine tt_bipush (q := 168) dX11_init_166 bi_7 rfl ?_
  refine tt_newaE (q := 170) (n2 := 102) (u2 := 22795) dX11_init_168 ia_101 rfl (Nat.le_of_ble_eq_true rfl) (Nat.le_of_ble_eq_true rfl) rfl rfl rfl ?_
  replace h := h _ rfl _ rfl
  refine tt_putRE (q := 173) dX11_init_170 fl_X11_96 or_0_11 fr_X11_11_11 (Nat.le_of_ble_eq_true rfl) rfl ?_
  replace h := h _ rfl
  refine tt_aload_n (q := 174) dX11_init_173 rfl rfl ?_
  refine tt_iconst (q := 175) dX11_init_174 ki_0 rfl ?_
  refine tt_putI (q := 178) dX11_init_175 fl_X11_100 oi_0_12 (fp_11_12 _) (Nat.le_of_ble_eq_true rfl) rfl ?_
  replace h := h _ rfl
  exact tt_vret dX11_init_178 ⟨rfl, rfl, rfl, h⟩
abbrev T_X12_init (dl : DL) (post : DL → SG → Prop) (pc : Nat) (L S : List Value) (A : AL) (σ : SG) : Prop := TT cX12_init RX12 true CT0 CN0 ((((103, 22822, dl) : AL)).1 + 17) ((((103, 22822, dl) : AL)).2.1 + 1241) (QRn (103, 22822, dl) 17 1241 post) none pc L S A σ
set_option maxRecDepth 100000 in
theorem g_X12_init_0 {dl η : DL} {post : DL → SG → Prop} {σ : SG} (h : (∀ d1 : DL, d1 = dOff η 103 1 → ∀ s2 : SG, s2 = zr σ 103 1 → (∀ d3 : DL, d3 = dOn d1 102 0 → (∀ d4 : DL, d4 = dOff d3 104 1 → ∀ s5 : SG, s5 = zr s2 104 1 → (∀ d6 : DL, d6 = dOn d4 102 1 → (∀ d7 : DL, d7 = dOff d6 105 1 → ∀ s8 : SG, s8 = zr s5 105 1 → (∀ d9 : DL, d9 = dOn d7 102 2 → (∀ d10 : DL, d10 = dOff d9 106 1 → ∀ s11 : SG, s11 = zr s8 106 1 → (∀ d12 : DL, d12 = dOn d10 102 4 → (∀ d13 : DL, d13 = dOff d12 107 1 → ∀ s14 : SG, s14 = zr s11 107 1 → (∀ d15 : DL, d15 = dOn d13 102 5 → (∀ d16 : DL, d16 = dOff d15 108 1 → ∀ s17 : SG, s17 = zr s14 108 1 → (∀ d18 : DL, d18 = dOn d16 102 9 → (∀ d19 : DL, d19 = dOff d18 109 1 → ∀ s20 : SG, s20 = zr s17 109 1 → (∀ d21 : DL, d21 = dOn d19 102 10 → (∀ d22 : DL, d22 = dOff d21 110 1 → ∀ s23 : SG, s23 = zr s20 110 1 → (∀ d24 : DL, d24 = dOn d22 102 11 → (∀ d25 : DL, d25 = dOff d24 111 1 → ∀ s26 : SG, s26 = zr s23 111 1 → (∀ d27 : DL, d27 = dOn d25 102 12 → (∀ d28 : DL, d28 = dOff d27 112 1 → ∀ s29 : SG, s29 = zr s26 112 1 → (∀ d30 : DL, d30 = dOn d28 102 13 → (∀ d31 : DL, d31 = dOff d30 113 1 → ∀ s32 : SG, s32 = zr s29 113 1 → (∀ d33 : DL, d33 = dOn d31 102 17 → (∀ d34 : DL, d34 = dOff d33 114 1 → ∀ s35 : SG, s35 = zr s32 114 1 → (∀ d36 : DL, d36 = dOn d34 102 18 → (∀ d37 : DL, d37 = dOff d36 115 1 → ∀ s38 : SG, s38 = zr s35 115 1 → (∀ d39 : DL, d39 = dOn d37 102 19 → (∀ d40 : DL, d40 = dOff d39 116 1 → ∀ s41 : SG, s41 = zr s38 116 1 → (∀ d42 : DL, d42 = dOn d40 102 20 → (∀ d43 : DL, d43 = dOff d42 117 1 → ∀ s44 : SG, s44 = zr s41 117 1 → (∀ d45 : DL, d45 = dOn d43 102 21 → (∀ d46 : DL, d46 = dOff d45 118 1 → ∀ s47 : SG, s47 = zr s44 118 1 → (∀ d48 : DL, d48 = dOn d46 102 23 → (∀ d49 : DL, d49 = dOff d48 119 1 → ∀ s50 : SG, s50 = zr s47 119 1 → (∀ d51 : DL, d51 = dOn d49 102 25 → (∀ s52 : SG, s52 = up s50 104 4 (nI 20) → (∀ s53 : SG, s53 = up s52 104 5 (nI 0) → (∀ s54 : SG, s54 = up s53 104 47 (nI 10) → (∀ s55 : SG, s55 = up s54 104 6 (nI 1) → (∀ s56 : SG, s56 = up s55 104 48 (nI 10) → (∀ s57 : SG, s57 = up s56 104 7 (nI 2) → (∀ s58 : SG, s58 = up s57 104 49 (nI 10) → (∀ s59 : SG, s59 = up s58 104 8 (nI 3) → (∀ s60 : SG, s60 = up s59 104 50 (nI 10) → (∀ s61 : SG, s61 = up s60 104 9 (nI 4) → (∀ s62 : SG, s62 = up s61 104 51 (nI 10) → (∀ s63 : SG, s63 = up s62 104 10 (nI 5) → (∀ s64 : SG, s64 = up s63 104 52 (nI 10) → post d51 s64)))))))))))))))))))))))))))))))))))))))))))))))) : T_X12_init dl post 0 [.ref 102, dum] [] (103, 22822, η) σ := by
  refine tt_aload_n (q := 1) dX12_init_0 rfl rfl ?_
  refine tt_oinit (q := 4) dX12_init_1 lob_X12_1 (Nat.le_of_ble_eq_true rfl) rfl ?_
  refine tt_aload_n (q := 5) dX12_init_4 rfl rfl ?_
  refine tt_bipush (q := 7) dX12_init_5 bi_7 rfl ?_
  refine tt_newaE (q := 9) (n2 := 104) (u2 := 22829) dX12_init_7 ia_103 rfl (Nat.le_of_ble_eq_true rfl) (Nat.le_of_ble_eq_true rfl) rfl rfl rfl ?_
  replace h := h _ rfl _ rfl
  refine tt_putRE (q := 12) dX12_init_9 fl_X12_7 or_102_0 fr_X12_12_0 (Nat.le_of_ble_eq_true rfl) rfl ?_
  replace h := h _ rfl
  refine tt_aload_n (q := 13) dX12_init_12 rfl rfl ?_
  refine tt_sipush (q := 16) dX12_init_13 si_197 rfl ?_
  refine tt_newaE (q := 18) (n2 := 105) (u2 := 23026) dX12_init_16 ia_104 rfl (Nat.le_of_ble_eq_true rfl) (Nat.le_of_ble_eq_true rfl) rfl rfl rfl ?_
  replace h := h _ rfl _ rfl
  refine tt_putRE (q := 21) dX12_init_18 fl_X12_13 or_102_1 fr_X12_12_1 (Nat.le_of_ble_eq_true rfl) rfl ?_
  replace h := h _ rfl
  refine tt_aload_n (q := 22) dX12_init_21 rfl rfl ?_
  refine tt_sipush (q := 25) dX12_init_22 si_197 rfl ?_
  refine tt_newaE (q := 27) (n2 := 106) (u2 := 23223) dX12_init_25 ia_105 rfl (Nat.le_of_ble_eq_true rfl) (Nat.le_of_ble_eq_true rfl) rfl rfl rfl ?_
  replace h := h _ rfl _ rfl
  refine tt_putRE (q := 30) dX12_init_27 fl_X12_16 or_102_2 fr_X12_12_2 (Nat.le_of_ble_eq_true rfl) rfl ?_
  replace h := h _ rfl
  refine tt_aload_n (q := 31) dX12_init_30 rfl rfl ?_
  refine tt_bipush (q := 33) dX12_init_31 bi_16 rfl ?_
  refine tt_newaE (q := 35) (n2 := 107) (u2 := 23239) dX12_init_33 ia_106 rfl (Nat.le_of_ble_eq_true rfl) (Nat.le_of_ble_eq_true rfl) rfl rfl rfl ?_
  replace h := h _ rfl _ rfl
  refine tt_putRE (q := 38) dX12_init_35 fl_X12_19 or_102_4 fr_X12_12_4 (Nat.le_of_ble_eq_true rfl) rfl ?_
  replace h := h _ rfl
  refine tt_aload_n (q := 39) dX12_init_38 rfl rfl ?_
  refine tt_bipush (q := 41) dX12_init_39 bi_9 rfl ?_
  refine tt_newaE (q := 43) (n2 := 108) (u2 := 23248) dX12_init_41 ia_107 rfl (Nat.le_of_ble_eq_true rfl) (Nat.le_of_ble_eq_true rfl) rfl rfl rfl ?_
  replace h := h _ rfl _ rfl
  refine tt_putRE (q := 46) dX12_init_43 fl_X12_22 or_102_5 fr_X12_12_5 (Nat.le_of_ble_eq_true rfl) rfl ?_
  replace h := h _ rfl
  refine tt_aload_n (q := 47) dX12_init_46 rfl rfl ?_
  refine tt_bipush (q := 49) dX12_init_47 bi_6 rfl ?_
  refine tt_newaE (q := 51) (n2 := 109) (u2 := 23254) dX12_init_49 ia_108 rfl (Nat.le_of_ble_eq_true rfl) (Nat.le_of_ble_eq_true rfl) rfl rfl rfl ?_
  replace h := h _ rfl _ rfl
  refine tt_putRE (q := 54) dX12_init_51 fl_X12_25 or_102_9 fr_X12_12_9 (Nat.le_of_ble_eq_true rfl) rfl ?_
  replace h := h _ rfl
  refine tt_aload_n (q := 55) dX12_init_54 rfl rfl ?_
  refine tt_bipush (q := 57) dX12_init_55 bi_6 rfl ?_
  refine tt_newaE (q := 59) (n2 := 110) (u2 := 23260) dX12_init_57 ia_109 rfl (Nat.le_of_ble_eq_true rfl) (Nat.le_of_ble_eq_true rfl) rfl rfl rfl ?_
  replace h := h _ rfl _ rfl
  refine tt_putRE (q := 62) dX12_init_59 fl_X12_28 or_102_10 fr_X12_12_10 (Nat.le_of_ble_eq_true rfl) rfl ?_
  replace h := h _ rfl
  refine tt_aload_n (q := 63) dX12_init_62 rfl rfl ?_
  refine tt_bipush (q := 65) dX12_init_63 bi_6 rfl ?_
  refine tt_newaE (q := 67) (n2 := 111) (u2 := 23266) dX12_init_65 ia_110 rfl (Nat.le_of_ble_eq_true rfl) (Nat.le_of_ble_eq_true rfl) rfl rfl rfl ?_
  replace h := h _ rfl _ rfl
  refine tt_putRE (q := 70) dX12_init_67 fl_X12_31 or_102_11 fr_X12_12_11 (Nat.le_of_ble_eq_true rfl) rfl ?_
  replace h := h _ rfl
  refine tt_aload_n (q := 71) dX12_init_70 rfl rfl ?_
  refine tt_bipush (q := 73) dX12_init_71 bi_6 rfl ?_
  refine tt_newaE (q := 75) (n2 := 112) (u2 := 23272) dX12_init_73 ia_111 rfl (Nat.le_of_ble_eq_true rfl) (Nat.le_of_ble_eq_true rfl) rfl rfl rfl ?_
  replace h := h _ rfl _ rfl
  refine tt_putRE (q := 78) dX12_init_75 fl_X12_34 or_102_12 fr_X12_12_12 (Nat.le_of_ble_eq_true rfl) rfl ?_
  replace h := h _ rfl
  refine tt_aload_n (q := 79) dX12_init_78 rfl rfl ?_
  refine tt_bipush (q := 81) dX12_init_79 bi_36 rfl ?_
  refine tt_newaE (q := 83) (n2 := 113) (u2 := 23308) dX12_init_81 ia_112 rfl (Nat.le_of_ble_eq_true rfl) (Nat.le_of_ble_eq_true rfl) rfl rfl rfl ?_
  replace h := h _ rfl _ rfl
  refine tt_putRE (q := 86) dX12_init_83 fl_X12_37 or_102_13 fr_X12_12_13 (Nat.le_of_ble_eq_true rfl) rfl ?_
  replace h := h _ rfl
  refine tt_aload_n (q := 87) dX12_init_86 rfl rfl ?_
  refine tt_sipush (q := 90) dX12_init_87 si_720 rfl ?_
  refine tt_newaE (q := 92) (n2 := 114) (u2 := 24028) dX12_init_90 ia_113 rfl (Nat.le_of_ble_eq_true rfl) (Nat.le_of_ble_eq_true rfl) rfl rfl rfl ?_
  replace h := h _ rfl _ rfl
  refine tt_putRE (q := 95) dX12_init_92 fl_X12_40 or_102_17 fr_X12_12_17 (Nat.le_of_ble_eq_true rfl) rfl ?_
  replace h := h _ rfl
  refine tt_aload_n (q := 96) dX12_init_95 rfl rfl ?_
  refine tt_bipush (q := 98) dX12_init_96 bi_6 rfl ?_
  refine tt_newaE (q := 100) (n2 := 115) (u2 := 24034) dX12_init_98 ia_114 rfl (Nat.le_of_ble_eq_true rfl) (Nat.le_of_ble_eq_true rfl) rfl rfl rfl ?_
  replace h := h _ rfl _ rfl
  refine tt_putRE (q := 103) dX12_init_100 fl_X12_43 or_102_18 fr_X12_12_18 (Nat.le_of_ble_eq_true rfl) rfl ?_
  replace h := h _ rfl
  refine tt_aload_n (q := 104) dX12_init_103 rfl rfl ?_
  refine tt_bipush (q := 106) dX12_init_104 bi_6 rfl ?_
  refine tt_newaE (q := 108) (n2 := 116) (u2 := 24040) dX12_init_106 ia_115 rfl (Nat.le_of_ble_eq_true rfl) (Nat.le_of_ble_eq_true rfl) rfl rfl rfl ?_
  replace h := h _ rfl _ rfl
  refine tt_putRE (q := 111) dX12_init_108 fl_X12_46 or_102_19 fr_X12_12_19 (Nat.le_of_ble_eq_true rfl) rfl ?_
  replace h := h _ rfl
  refine tt_aload_n (q := 112) dX12_init_111 rfl rfl ?_
  refine tt_bipush (q := 114) dX12_init_112 bi_6 rfl ?_
  refine tt_newaE (q := 116) (n2 := 117) (u2 := 24046) dX12_init_114 ia_116 rfl (Nat.le_of_ble_eq_true rfl) (Nat.le_of_ble_eq_true rfl) rfl rfl rfl ?_
  replace h := h _ rfl _ rfl
  refine tt_putRE (q := 119) dX12_init_116 fl_X12_49 or_102_20 fr_X12_12_20 (Nat.le_of_ble_eq_true rfl) rfl ?_
  replace h := h _ rfl
  refine tt_aload_n (q := 120) dX12_init_119 rfl rfl ?_
  refine tt_iconst (q := 121) dX12_init_120 ki_4 rfl ?_
  refine tt_newaE (q := 123) (n2 := 118) (u2 := 24050) dX12_init_121 ia_117 rfl (Nat.le_of_ble_eq_true rfl) (Nat.le_of_ble_eq_true rfl) rfl rfl rfl ?_
  replace h := h _ rfl _ rfl
  refine tt_putRE (q := 126) dX12_init_123 fl_X12_52 or_102_21 fr_X12_12_21 (Nat.le_of_ble_eq_true rfl) rfl ?_
  replace h := h _ rfl
  refine tt_aload_n (q := 127) dX12_init_126 rfl rfl ?_
  refine tt_iconst (q := 128) dX12_init_127 ki_5 rfl ?_
  refine tt_newaE (q := 130) (n2 := 119) (u2 := 24055) dX12_init_128 ia_118 rfl (Nat.le_of_ble_eq_true rfl) (Nat.le_of_ble_eq_true rfl) rfl rfl rfl ?_
  replace h := h _ rfl _ rfl
  refine tt_putRE (q := 133) dX12_init_130 fl_X12_55 or_102_23 fr_X12_12_23 (Nat.le_of_ble_eq_true rfl) rfl ?_
  replace h := h _ rfl
  refine tt_aload_n (q := 134) dX12_init_133 rfl rfl ?_
  refine tt_bipush (q := 136) dX12_init_134 bi_8 rfl ?_
  refine tt_newaE (q := 138) (n2 := 120) (u2 := 24063) dX12_init_136 ia_119 rfl (Nat.le_of_ble_eq_true rfl) (Nat.le_of_ble_eq_true rfl) rfl rfl rfl ?_
  replace h := h _ rfl _ rfl
  refine tt_putRE (q := 141) dX12_init_138 fl_X12_58 or_102_25 fr_X12_12_25 (Nat.le_of_ble_eq_true rfl) rfl ?_
  replace h := h _ rfl
  refine tt_aload_n (q := 142) dX12_init_141 rfl rfl ?_
  refine tt_getR (q := 145) dX12_init_142 fl_X12_13 or_102_1 (Nat.le_of_ble_eq_true rfl) rfl rfl ?_
  refine tt_iconst (q := 146) dX12_init_145 ki_4 rfl ?_
  refine tt_bipush (q := 148) dX12_init_146 bi_20 rfl ?_
  refine tt_iast (q := 149) dX12_init_148 ia_104 (Nat.le_of_ble_eq_true rfl) rfl (Nat.le_of_ble_eq_true rfl : 4 < 197) rfl ?_
  replace h := h _ rfl
  refine tt_iconst (q := 150) dX12_init_149 ki_0 rfl ?_
  refine sti_n_1 (q := 151) dX12_init_150 rfl rfl rfl ?_
  refine tt_iload_n (q := 152) dX12_init_151 rfl rfl ?_
  refine tt_bipush (q := 154) dX12_init_152 bi_6 rfl ?_
  refine tt_icmp_ge (q := 157) (t := 183) dX12_init_154 rfl rfl (fun c => absurd c (by decide)) (fun c => ?_)
  clear c
  refine tt_aload_n (q := 158) dX12_init_157 rfl rfl ?_
  refine tt_getR (q := 161) dX12_init_158 fl_X12_13 or_102_1 (Nat.le_of_ble_eq_true rfl) rfl rfl ?_
  refine tt_iconst (q := 162) dX12_init_161 ki_5 rfl ?_
  refine tt_iload_n (q := 163) dX12_init_162 rfl rfl ?_
  refine tt_iaddE (v := nI 5) (q := 164) dX12_init_163 (by decide) rfl ?_
  refine tt_iload_n (q := 165) dX12_init_164 rfl rfl ?_
  refine tt_iast (q := 166) dX12_init_165 ia_104 (Nat.le_of_ble_eq_true rfl) rfl (Nat.le_of_ble_eq_true rfl : 5 < 197) rfl ?_
  replace h := h _ rfl
  refine tt_aload_n (q := 167) dX12_init_166 rfl rfl ?_
  refine tt_getR (q := 170) dX12_init_167 fl_X12_13 or_102_1 (Nat.le_of_ble_eq_true rfl) rfl rfl ?_
  refine tt_bipush (q := 172) dX12_init_170 bi_47 rfl ?_
  refine tt_iload_n (q := 173) dX12_init_172 rfl rfl ?_
  refine tt_iaddE (v := nI 47) (q := 174) dX12_init_173 (by decide) rfl ?_
  refine tt_bipush (q := 176) dX12_init_174 bi_10 rfl ?_
  refine tt_iast (q := 177) dX12_init_176 ia_104 (Nat.le_of_ble_eq_true rfl) rfl (Nat.le_of_ble_eq_true rfl : 47 < 197) rfl ?_
  replace h := h _ rfl
  refine inc_1 (v := nI 1) (q := 180) dX12_init_177 (by decide) rfl rfl ?_
  refine tt_goto (t := 151) dX12_init_180 rfl ?_
  refine tt_iload_n (q := 152) dX12_init_151 rfl rfl ?_
  refine tt_bipush (q := 154) dX12_init_152 bi_6 rfl ?_
  refine tt_icmp_ge (q := 157) (t := 183) dX12_init_154 rfl rfl (fun c => absurd c (by decide)) (fun c => ?_)
  clear c
  refine tt_aload_n (q := 158) dX12_init_157 rfl rfl ?_
  refine tt_getR (q := 161) dX12_init_158 fl_X12_13 or_102_1 (Nat.le_of_ble_eq_true rfl) rfl rfl ?_
  refine tt_iconst (q := 162) dX12_init_161 ki_5 rfl ?_
  refine tt_iload_n (q := 163) dX12_init_162 rfl rfl ?_
  refine tt_iaddE (v := nI 6) (q := 164) dX12_init_163 (by decide) rfl ?_
  refine tt_iload_n (q := 165) dX12_init_164 rfl rfl ?_
  refine tt_iast (q := 166) dX12_init_165 ia_104 (Nat.le_of_ble_eq_true rfl) rfl (Nat.le_of_ble_eq_true rfl : 6 < 197) rfl ?_
  replace h := h _ rfl
  refine tt_aload_n (q := 167) dX12_init_166 rfl rfl ?_
  refine tt_getR (q := 170) dX12_init_167 fl_X12_13 or_102_1 (Nat.le_of_ble_eq_true rfl) rfl rfl ?_
  refine tt_bipush (q := 172) dX12_init_170 bi_47 rfl ?_
  refine tt_iload_n (q := 173) dX12_init_172 rfl rfl ?_
  refine tt_iaddE (v := nI 48) (q := 174) dX12_init_173 (by decide) rfl ?_
  refine tt_bipush (q := 176) dX12_init_174 bi_10 rfl ?_
  refine tt_iast (q := 177) dX12_init_176 ia_104 (Nat.le_of_ble_eq_true rfl) rfl (Nat.le_of_ble_eq_true rfl : 48 < 197) rfl ?_
  replace h := h _ rfl
  refine inc_1 (v := nI 2) (q := 180) dX12_init_177 (by decide) rfl rfl ?_
  refine tt_goto (t := 151) dX12_init_180 rfl ?_
  refine tt_iload_n (q := 152) dX12_init_151 rfl rfl ?_
  refine tt_bipush (q := 154) dX12_init_152 bi_6 rfl ?_
  refine tt_icmp_ge (q := 157) (t := 183) dX12_init_154 rfl rfl (fun c => absurd c (by decide)) (fun c => ?_)
  clear c
  refine tt_aload_n (q := 158) dX12_init_157 rfl rfl ?_
  refine tt_getR (q := 161) dX12_init_158 fl_X12_13 or_102_1 (Nat.le_of_ble_eq_true rfl) rfl rfl ?_
  refine tt_iconst (q := 162) dX12_init_161 ki_5 rfl ?_
  refine tt_iload_n (q := 163) dX12_init_162 rfl rfl ?_
  refine tt_iaddE (v := nI 7) (q := 164) dX12_init_163 (by decide) rfl ?_
  refine tt_iload_n (q := 165) dX12_init_164 rfl rfl ?_
  refine tt_iast (q := 166) dX12_init_165 ia_104 (Nat.le_of_ble_eq_true rfl) rfl (Nat.le_of_ble_eq_true rfl : 7 < 197) rfl ?_
  replace h := h _ rfl
  refine tt_aload_n (q := 167) dX12_init_166 rfl rfl ?_
  refine tt_getR (q := 170) dX12_init_167 fl_X12_13 or_102_1 (Nat.le_of_ble_eq_true rfl) rfl rfl ?_
  refine tt_bipush (q := 172) dX12_init_170 bi_47 rfl ?_
  refine tt_iload_n (q := 173) dX12_init_172 rfl rfl ?_
  refine tt_iaddE (v := nI 49) (q := 174) dX12_init_173 (by decide) rfl ?_
  refine tt_bipush (q := 176) dX12_init_174 bi_10 rfl ?_
  refine tt_iast (q := 177) dX12_init_176 ia_104 (Nat.le_of_ble_eq_true rfl) rfl (Nat.le_of_ble_eq_true rfl : 49 < 197) rfl ?_
  replace h := h _ rfl
  refine inc_1 (v := nI 3) (q := 180) dX12_init_177 (by decide) rfl rfl ?_
  refine tt_goto (t := 151) dX12_init_180 rfl ?_
  refine tt_iload_n (q := 152) dX12_init_151 rfl rfl ?_
  refine tt_bipush (q := 154) dX12_init_152 bi_6 rfl ?_
  refine tt_icmp_ge (q := 157) (t := 183) dX12_init_154 rfl rfl (fun c => absurd c (by decide)) (fun c => ?_)
  clear c
  refine tt_aload_n (q := 158) dX12_init_157 rfl rfl ?_
  refine tt_getR (q := 161) dX12_init_158 fl_X12_13 or_102_1 (Nat.le_of_ble_eq_true rfl) rfl rfl ?_
  refine tt_iconst (q := 162) dX12_init_161 ki_5 rfl ?_
  refine tt_iload_n (q := 163) dX12_init_162 rfl rfl ?_
  refine tt_iaddE (v := nI 8) (q := 164) dX12_init_163 (by decide) rfl ?_
  refine tt_iload_n (q := 165) dX12_init_164 rfl rfl ?_
  refine tt_iast (q := 166) dX12_init_165 ia_104 (Nat.le_of_ble_eq_true rfl) rfl (Nat.le_of_ble_eq_true rfl : 8 < 197) rfl ?_
  replace h := h _ rfl
  refine tt_aload_n (q := 167) dX12_init_166 rfl rfl ?_
  refine tt_getR (q := 170) dX12_init_167 fl_X12_13 or_102_1 (Nat.le_of_ble_eq_true rfl) rfl rfl ?_
  refine tt_bipush (q := 172) dX12_init_170 bi_47 rfl ?_
  refine tt_iload_n (q := 173) dX12_init_172 rfl rfl ?_
  refine tt_iaddE (v := nI 50) (q := 174) dX12_init_173 (by decide) rfl ?_
  refine tt_bipush (q := 176) dX12_init_174 bi_10 rfl ?_
  refine tt_iast (q := 177) dX12_init_176 ia_104 (Nat.le_of_ble_eq_true rfl) rfl (Nat.le_of_ble_eq_true rfl : 50 < 197) rfl ?_
  replace h := h _ rfl
  refine inc_1 (v := nI 4) (q := 180) dX12_init_177 (by decide) rfl rfl ?_
  refine tt_goto (t := 151) dX12_init_180 rfl ?_
  refine tt_iload_n (q := 152) dX12_init_151 rfl rfl ?_
  refine tt_bipush (q := 154) dX12_init_152 bi_6 rfl ?_
  refine tt_icmp_ge (q := 157) (t := 183) dX12_init_154 rfl rfl (fun c => absurd c (by decide)) (fun c => ?_)
  clear c
  refine tt_aload_n (q := 158) dX12_init_157 rfl rfl ?_
  refine tt_getR (q := 161) dX12_init_158 fl_X12_13 or_102_1 (Nat.le_of_ble_eq_true rfl) rfl rfl ?_
  refine tt_iconst (q := 162) dX12_init_161 ki_5 rfl ?_
  refine tt_iload_n (q := 163) dX12_init_162 rfl rfl ?_
  refine tt_iaddE (v := nI 9) (q := 164) dX12_init_163 (by decide) rfl ?_
  refine tt_iload_n (q := 165) dX12_init_164 rfl rfl ?_
  refine tt_iast (q := 166) dX12_init_165 ia_104 (Nat.le_of_ble_eq_true rfl) rfl (Nat.le_of_ble_eq_true rfl : 9 < 197) rfl ?_
  replace h := h _ rfl
  refine tt_aload_n (q := 167) dX12_init_166 rfl rfl ?_
  refine tt_getR (q := 170) dX12_init_167 fl_X12_13 or_102_1 (Nat.le_of_ble_eq_true rfl) rfl rfl ?_
  refine tt_bipush (q := 172) dX12_init_170 bi_47 rfl ?_
  refine tt_iload_n (q := 173) dX12_init_172 rfl rfl ?_
  refine tt_iaddE (v := nI 51) (q := 174) dX12_init_173 (by decide) rfl ?_
  refine tt_bipush (q := 176) dX12_init_174 bi_10 rfl ?_
  refine tt_iast (q := 177) dX12_init_176 ia_104 (Nat.le_of_ble_eq_true rfl) rfl (Nat.le_of_ble_eq_true rfl : 51 < 197) rfl ?_
  replace h := h _ rfl
  refine inc_1 (v := nI 5) (q := 180) dX12_init_177 (by decide) rfl rfl ?_
  refine tt_goto (t := 151) dX12_init_180 rfl ?_
  refine tt_iload_n (q := 152) dX12_init_151 rfl rfl ?_
  refine tt_bipush (q := 154) dX12_init_152 bi_6 rfl ?_
  refine tt_icmp_ge (q := 157) (t := 183) dX12_init_154 rfl rfl (fun c => absurd c (by decide)) (fun c => ?_)
  clear c
  refine tt_aload_n (q := 158) dX12_init_157 rfl rfl ?_
  refine tt_getR (q := 161) dX12_init_158 fl_X12_13 or_102_1 (Nat.le_of_ble_eq_true rfl) rfl rfl ?_
  refine tt_iconst (q := 162) dX12_init_161 ki_5 rfl ?_
  refine tt_iload_n (q := 163) dX12_init_162 rfl rfl ?_
  refine tt_iaddE (v := nI 10) (q := 164) dX12_init_163 (by decide) rfl ?_
  refine tt_iload_n (q := 165) dX12_init_164 rfl rfl ?_
  refine tt_iast (q := 166) dX12_init_165 ia_104 (Nat.le_of_ble_eq_true rfl) rfl (Nat.le_of_ble_eq_true rfl : 10 < 197) rfl ?_
  replace h := h _ rfl
  refine tt_aload_n (q := 167) dX12_init_166 rfl rfl ?_
  refine tt_getR (q := 170) dX12_init_167 fl_X12_13 or_102_1 (Nat.le_of_ble_eq_true rfl) rfl rfl ?_
  refine tt_bipush (q := 172) dX12_init_170 bi_47 rfl ?_
  refine tt_iload_n (q := 173) dX12_init_172 rfl rfl ?_
  refine tt_iaddE (v := nI 52) (q := 174) dX12_init_173 (by decide) rfl ?_
  refine tt_bipush (q := 176) dX12_init_174 bi_10 rfl ?_
  refine tt_iast (q := 177) dX12_init_176 ia_104 (Nat.le_of_ble_eq_true rfl) rfl (Nat.le_of_ble_eq_true rfl : 52 < 197) rfl ?_
  replace h := h _ rfl
  refine inc_1 (v := nI 6) (q := 180) dX12_init_177 (by decide) rfl rfl ?_
  refine tt_goto (t := 151) dX12_init_180 rfl ?_
  refine tt_iload_n (q := 152) dX12_init_151 rfl rfl ?_
  refine tt_bipush (q := 154) dX12_init_152 bi_6 rfl ?_
  refine tt_icmp_ge (q := 157) (t := 183) dX12_init_154 rfl rfl (fun c => ?_) (fun c => absurd c (by decide))
  clear c
  exact tt_vret dX12_init_183 ⟨rfl, rfl, rfl, h⟩
