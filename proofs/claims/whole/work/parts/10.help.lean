/-! small constants -/
theorem bi_m20 : (Int8.ofInt (-20)).toInt32 = (-20 : Int32) := by decide +kernel
theorem bi_m9 : (Int8.ofInt (-9)).toInt32 = (-9 : Int32) := by decide +kernel
theorem bi_m6 : (Int8.ofInt (-6)).toInt32 = (-6 : Int32) := by decide +kernel
theorem bi_m4 : (Int8.ofInt (-4)).toInt32 = (-4 : Int32) := by decide +kernel
theorem bi_m3 : (Int8.ofInt (-3)).toInt32 = (-3 : Int32) := by decide +kernel
theorem bi_m2 : (Int8.ofInt (-2)).toInt32 = (-2 : Int32) := by decide +kernel
theorem bi_6 : (Int8.ofInt (6)).toInt32 = nI 6 := by decide +kernel
theorem bi_7 : (Int8.ofInt (7)).toInt32 = nI 7 := by decide +kernel
theorem bi_8 : (Int8.ofInt (8)).toInt32 = nI 8 := by decide +kernel
theorem bi_9 : (Int8.ofInt (9)).toInt32 = nI 9 := by decide +kernel
theorem bi_10 : (Int8.ofInt (10)).toInt32 = nI 10 := by decide +kernel
theorem bi_11 : (Int8.ofInt (11)).toInt32 = nI 11 := by decide +kernel
theorem bi_12 : (Int8.ofInt (12)).toInt32 = nI 12 := by decide +kernel
theorem bi_16 : (Int8.ofInt (16)).toInt32 = nI 16 := by decide +kernel
theorem bi_17 : (Int8.ofInt (17)).toInt32 = nI 17 := by decide +kernel
theorem bi_20 : (Int8.ofInt (20)).toInt32 = nI 20 := by decide +kernel
theorem bi_32 : (Int8.ofInt (32)).toInt32 = nI 32 := by decide +kernel
theorem bi_36 : (Int8.ofInt (36)).toInt32 = nI 36 := by decide +kernel
theorem bi_39 : (Int8.ofInt (39)).toInt32 = nI 39 := by decide +kernel
theorem bi_40 : (Int8.ofInt (40)).toInt32 = nI 40 := by decide +kernel
theorem bi_41 : (Int8.ofInt (41)).toInt32 = nI 41 := by decide +kernel
theorem bi_47 : (Int8.ofInt (47)).toInt32 = nI 47 := by decide +kernel
theorem bi_48 : (Int8.ofInt (48)).toInt32 = nI 48 := by decide +kernel
theorem bi_50 : (Int8.ofInt (50)).toInt32 = nI 50 := by decide +kernel
theorem bi_53 : (Int8.ofInt (53)).toInt32 = nI 53 := by decide +kernel
theorem bi_59 : (Int8.ofInt (59)).toInt32 = nI 59 := by decide +kernel
theorem bi_60 : (Int8.ofInt (60)).toInt32 = nI 60 := by decide +kernel
theorem bi_63 : (Int8.ofInt (63)).toInt32 = nI 63 := by decide +kernel
theorem bi_64 : (Int8.ofInt (64)).toInt32 = nI 64 := by decide +kernel
theorem bi_95 : (Int8.ofInt (95)).toInt32 = nI 95 := by decide +kernel
theorem bi_97 : (Int8.ofInt (97)).toInt32 = nI 97 := by decide +kernel
theorem bi_99 : (Int8.ofInt (99)).toInt32 = nI 99 := by decide +kernel
theorem bi_100 : (Int8.ofInt (100)).toInt32 = nI 100 := by decide +kernel
theorem bi_102 : (Int8.ofInt (102)).toInt32 = nI 102 := by decide +kernel
theorem bi_120 : (Int8.ofInt (120)).toInt32 = nI 120 := by decide +kernel
theorem bi_127 : (Int8.ofInt (127)).toInt32 = nI 127 := by decide +kernel
theorem ki_m1 : Int32.ofInt (-1) = (-1 : Int32) := by decide +kernel
theorem ki_0 : Int32.ofInt (0) = nI 0 := by decide +kernel
theorem ki_1 : Int32.ofInt (1) = nI 1 := by decide +kernel
theorem ki_2 : Int32.ofInt (2) = nI 2 := by decide +kernel
theorem ki_3 : Int32.ofInt (3) = nI 3 := by decide +kernel
theorem ki_4 : Int32.ofInt (4) = nI 4 := by decide +kernel
theorem ki_5 : Int32.ofInt (5) = nI 5 := by decide +kernel
theorem si_185 : (Int16.ofInt (185)).toInt32 = nI 185 := by decide +kernel
theorem si_197 : (Int16.ofInt (197)).toInt32 = nI 197 := by decide +kernel
theorem si_256 : (Int16.ofInt (256)).toInt32 = nI 256 := by decide +kernel
theorem si_300 : (Int16.ofInt (300)).toInt32 = nI 300 := by decide +kernel
theorem si_719 : (Int16.ofInt (719)).toInt32 = nI 719 := by decide +kernel
theorem si_720 : (Int16.ofInt (720)).toInt32 = nI 720 := by decide +kernel
theorem si_1024 : (Int16.ofInt (1024)).toInt32 = nI 1024 := by decide +kernel
theorem si_1486 : (Int16.ofInt (1486)).toInt32 = nI 1486 := by decide +kernel
theorem si_4320 : (Int16.ofInt (4320)).toInt32 = nI 4320 := by decide +kernel
theorem si_9999 : (Int16.ofInt (9999)).toInt32 = nI 9999 := by decide +kernel
theorem nI_inc1 (a : Nat) : nI a + Int32.ofInt 1 = nI (a + 1) := by rw [show Int32.ofInt 1 = nI 1 from by decide +kernel, nI_add]
theorem nI_incI1 (x : Int32) : x + Int32.ofInt 1 = x + 1 := by rw [show Int32.ofInt 1 = 1 from by decide +kernel]
theorem nI_inc2 (a : Nat) : nI a + Int32.ofInt 2 = nI (a + 2) := by rw [show Int32.ofInt 2 = nI 2 from by decide +kernel, nI_add]
theorem nI_incI2 (x : Int32) : x + Int32.ofInt 2 = x + 2 := by rw [show Int32.ofInt 2 = 2 from by decide +kernel]
theorem nI_inc4 (a : Nat) : nI a + Int32.ofInt 4 = nI (a + 4) := by rw [show Int32.ofInt 4 = nI 4 from by decide +kernel, nI_add]
theorem nI_incI4 (x : Int32) : x + Int32.ofInt 4 = x + 4 := by rw [show Int32.ofInt 4 = 4 from by decide +kernel]
theorem nI_inc10 (a : Nat) : nI a + Int32.ofInt 10 = nI (a + 10) := by rw [show Int32.ofInt 10 = nI 10 from by decide +kernel, nI_add]
theorem nI_incI10 (x : Int32) : x + Int32.ofInt 10 = x + 10 := by rw [show Int32.ofInt 10 = 10 from by decide +kernel]
theorem nI_incIm1 (x : Int32) : x + Int32.ofInt (-1) = x + (-1) := by rw [show Int32.ofInt (-1) = -1 from by decide +kernel]
theorem stOK_0 (L : List Value) : stOK L 0 := fun j v h _ => absurd h (by omega)
theorem stOK_at {L : List Value} {k : Nat} {a : Value} (hk : L[k]? = some a) (hc : a.category = 1) : stOK L (k + 1) := fun j v h hv => by
  have e : j = k := by omega
  subst e
  rw [hk] at hv
  cases hv
  exact hc
theorem tsw_ne {x : Int32} {n : Nat} (h : ¬ x = nI n) (hn : n < 2 ^ 31) : ¬ x.toInt = (n : Int) := fun q => h (Int32.toInt_inj.mp (by rw [nI_toInt hn]; exact q))
theorem nI_max {a b : Nat} (ha : a < 2 ^ 31) (hb : b < 2 ^ 31) : (if nI a < nI b then nI b else nI a) = nI (max a b) := by
  by_cases h : a < b
  · rw [if_pos ((nI_ltI ha hb).2 h), Nat.max_eq_right (Nat.le_of_lt h)]
  · rw [if_neg (fun z => h ((nI_ltI ha hb).1 z)), Nat.max_eq_left (Nat.le_of_not_lt h)]
theorem nI_min {a b : Nat} (ha : a < 2 ^ 31) (hb : b < 2 ^ 31) : (if nI b < nI a then nI b else nI a) = nI (min a b) := by
  by_cases h : b < a
  · rw [if_pos ((nI_ltI hb ha).2 h), Nat.min_eq_right (Nat.le_of_lt h)]
  · rw [if_neg (fun z => h ((nI_ltI hb ha).1 z)), Nat.min_eq_left (Nat.le_of_not_lt h)]
theorem tsw_out_6 {x : Int32} (h : ¬ x = nI 0 ∧ ¬ x = nI 1 ∧ ¬ x = nI 2 ∧ ¬ x = nI 3 ∧ ¬ x = nI 4 ∧ ¬ x = nI 5 ∧ ¬ x = nI 6) : x.toInt < 0 ∨ 6 < x.toInt := by
  obtain ⟨h0, h1, h2, h3, h4, h5, h6⟩ := h
  have k0 := tsw_ne h0 (by decide)
  have k1 := tsw_ne h1 (by decide)
  have k2 := tsw_ne h2 (by decide)
  have k3 := tsw_ne h3 (by decide)
  have k4 := tsw_ne h4 (by decide)
  have k5 := tsw_ne h5 (by decide)
  have k6 := tsw_ne h6 (by decide)
  omega
theorem tsw_out_41 {x : Int32} (h : ¬ x = nI 0 ∧ ¬ x = nI 1 ∧ ¬ x = nI 2 ∧ ¬ x = nI 3 ∧ ¬ x = nI 4 ∧ ¬ x = nI 5 ∧ ¬ x = nI 6 ∧ ¬ x = nI 7 ∧ ¬ x = nI 8 ∧ ¬ x = nI 9 ∧ ¬ x = nI 10 ∧ ¬ x = nI 11 ∧ ¬ x = nI 12 ∧ ¬ x = nI 13 ∧ ¬ x = nI 14 ∧ ¬ x = nI 15 ∧ ¬ x = nI 16 ∧ ¬ x = nI 17 ∧ ¬ x = nI 18 ∧ ¬ x = nI 19 ∧ ¬ x = nI 20 ∧ ¬ x = nI 21 ∧ ¬ x = nI 22 ∧ ¬ x = nI 23 ∧ ¬ x = nI 24 ∧ ¬ x = nI 25 ∧ ¬ x = nI 26 ∧ ¬ x = nI 27 ∧ ¬ x = nI 28 ∧ ¬ x = nI 29 ∧ ¬ x = nI 30 ∧ ¬ x = nI 31 ∧ ¬ x = nI 32 ∧ ¬ x = nI 33 ∧ ¬ x = nI 34 ∧ ¬ x = nI 35 ∧ ¬ x = nI 36 ∧ ¬ x = nI 37 ∧ ¬ x = nI 38 ∧ ¬ x = nI 39 ∧ ¬ x = nI 40 ∧ ¬ x = nI 41) : x.toInt < 0 ∨ 41 < x.toInt := by
  obtain ⟨h0, h1, h2, h3, h4, h5, h6, h7, h8, h9, h10, h11, h12, h13, h14, h15, h16, h17, h18, h19, h20, h21, h22, h23, h24, h25, h26, h27, h28, h29, h30, h31, h32, h33, h34, h35, h36, h37, h38, h39, h40, h41⟩ := h
  have k0 := tsw_ne h0 (by decide)
  have k1 := tsw_ne h1 (by decide)
  have k2 := tsw_ne h2 (by decide)
  have k3 := tsw_ne h3 (by decide)
  have k4 := tsw_ne h4 (by decide)
  have k5 := tsw_ne h5 (by decide)
  have k6 := tsw_ne h6 (by decide)
  have k7 := tsw_ne h7 (by decide)
  have k8 := tsw_ne h8 (by decide)
  have k9 := tsw_ne h9 (by decide)
  have k10 := tsw_ne h10 (by decide)
  have k11 := tsw_ne h11 (by decide)
  have k12 := tsw_ne h12 (by decide)
  have k13 := tsw_ne h13 (by decide)
  have k14 := tsw_ne h14 (by decide)
  have k15 := tsw_ne h15 (by decide)
  have k16 := tsw_ne h16 (by decide)
  have k17 := tsw_ne h17 (by decide)
  have k18 := tsw_ne h18 (by decide)
  have k19 := tsw_ne h19 (by decide)
  have k20 := tsw_ne h20 (by decide)
  have k21 := tsw_ne h21 (by decide)
  have k22 := tsw_ne h22 (by decide)
  have k23 := tsw_ne h23 (by decide)
  have k24 := tsw_ne h24 (by decide)
  have k25 := tsw_ne h25 (by decide)
  have k26 := tsw_ne h26 (by decide)
  have k27 := tsw_ne h27 (by decide)
  have k28 := tsw_ne h28 (by decide)
  have k29 := tsw_ne h29 (by decide)
  have k30 := tsw_ne h30 (by decide)
  have k31 := tsw_ne h31 (by decide)
  have k32 := tsw_ne h32 (by decide)
  have k33 := tsw_ne h33 (by decide)
  have k34 := tsw_ne h34 (by decide)
  have k35 := tsw_ne h35 (by decide)
  have k36 := tsw_ne h36 (by decide)
  have k37 := tsw_ne h37 (by decide)
  have k38 := tsw_ne h38 (by decide)
  have k39 := tsw_ne h39 (by decide)
  have k40 := tsw_ne h40 (by decide)
  have k41 := tsw_ne h41 (by decide)
  omega
/-! variants of the intro rows, for the programs that lay segments -/
section TTV
variable {cc : ByteArray} {own : String} {init : Bool} {CT : CTT} {CN : CNT} {N1 U1 : Nat} {QR : AL → SG → Option Int32 → Prop} {sc : Option (Nat × (Nat → Int32))} {pc q : Nat} {L S : List Value} {A : AL} {σ : SG}
theorem sti_0 {a0 : Value} {r : List Value} {x : Int32} (h0 : decode cc pc = .ok (.istore 0, 2)) (hq : pc + 2 = q) (h : TT cc own init CT CN N1 U1 QR sc q (.int x :: r) S A σ) : TT cc own init CT CN N1 U1 QR sc pc (a0 :: r) (.int x :: S) A σ := tt_istore (L := a0 :: r) h0 (by simp) (stOK_0 _) hq h
theorem sti_n_0 {a0 : Value} {r : List Value} {x : Int32} {j : Fin 4} (h0 : decode cc pc = .ok (.istore_n j, 1)) (hj : (j : Nat) = 0) (hq : pc + 1 = q) (h : TT cc own init CT CN N1 U1 QR sc q (.int x :: r) S A σ) : TT cc own init CT CN N1 U1 QR sc pc (a0 :: r) (.int x :: S) A σ := tt_istore_n (L := a0 :: r) h0 hj (by simp) (stOK_0 _) hq h
theorem sta_0 {a0 : Value} {r : List Value} {x : Nat} (h0 : decode cc pc = .ok (.astore 0, 2)) (hq : pc + 2 = q) (h : TT cc own init CT CN N1 U1 QR sc q (.ref x :: r) S A σ) : TT cc own init CT CN N1 U1 QR sc pc (a0 :: r) (.ref x :: S) A σ := tt_astore (L := a0 :: r) h0 (by simp) (stOK_0 _) hq h
theorem sta_n_0 {a0 : Value} {r : List Value} {x : Nat} {j : Fin 4} (h0 : decode cc pc = .ok (.astore_n j, 1)) (hj : (j : Nat) = 0) (hq : pc + 1 = q) (h : TT cc own init CT CN N1 U1 QR sc q (.ref x :: r) S A σ) : TT cc own init CT CN N1 U1 QR sc pc (a0 :: r) (.ref x :: S) A σ := tt_astore_n (L := a0 :: r) h0 hj (by simp) (stOK_0 _) hq h
theorem inc_0 {r : List Value} {x v : Int32} {n : Int} (h0 : decode cc pc = .ok (.iinc 0 n, 3)) (hv : x + Int32.ofInt n = v) (hq : pc + 3 = q) (h : TT cc own init CT CN N1 U1 QR sc q (.int v :: r) S A σ) : TT cc own init CT CN N1 U1 QR sc pc (.int x :: r) S A σ := tt_iinc (L := .int x :: r) h0 rfl hv (stOK_0 _) hq h
theorem sti_1 {a0 a1 : Value} {r : List Value} {x : Int32} (h0 : decode cc pc = .ok (.istore 1, 2)) (hc : a0.category = 1) (hq : pc + 2 = q) (h : TT cc own init CT CN N1 U1 QR sc q (a0 :: .int x :: r) S A σ) : TT cc own init CT CN N1 U1 QR sc pc (a0 :: a1 :: r) (.int x :: S) A σ := tt_istore (L := a0 :: a1 :: r) h0 (by simp) (stOK_at (k := 0) rfl hc) hq h
theorem sti_n_1 {a0 a1 : Value} {r : List Value} {x : Int32} {j : Fin 4} (h0 : decode cc pc = .ok (.istore_n j, 1)) (hj : (j : Nat) = 1) (hc : a0.category = 1) (hq : pc + 1 = q) (h : TT cc own init CT CN N1 U1 QR sc q (a0 :: .int x :: r) S A σ) : TT cc own init CT CN N1 U1 QR sc pc (a0 :: a1 :: r) (.int x :: S) A σ := tt_istore_n (L := a0 :: a1 :: r) h0 hj (by simp) (stOK_at (k := 0) rfl hc) hq h
theorem sta_1 {a0 a1 : Value} {r : List Value} {x : Nat} (h0 : decode cc pc = .ok (.astore 1, 2)) (hc : a0.category = 1) (hq : pc + 2 = q) (h : TT cc own init CT CN N1 U1 QR sc q (a0 :: .ref x :: r) S A σ) : TT cc own init CT CN N1 U1 QR sc pc (a0 :: a1 :: r) (.ref x :: S) A σ := tt_astore (L := a0 :: a1 :: r) h0 (by simp) (stOK_at (k := 0) rfl hc) hq h
theorem sta_n_1 {a0 a1 : Value} {r : List Value} {x : Nat} {j : Fin 4} (h0 : decode cc pc = .ok (.astore_n j, 1)) (hj : (j : Nat) = 1) (hc : a0.category = 1) (hq : pc + 1 = q) (h : TT cc own init CT CN N1 U1 QR sc q (a0 :: .ref x :: r) S A σ) : TT cc own init CT CN N1 U1 QR sc pc (a0 :: a1 :: r) (.ref x :: S) A σ := tt_astore_n (L := a0 :: a1 :: r) h0 hj (by simp) (stOK_at (k := 0) rfl hc) hq h
theorem inc_1 {a0 : Value} {r : List Value} {x v : Int32} {n : Int} (h0 : decode cc pc = .ok (.iinc 1 n, 3)) (hv : x + Int32.ofInt n = v) (hc : a0.category = 1) (hq : pc + 3 = q) (h : TT cc own init CT CN N1 U1 QR sc q (a0 :: .int v :: r) S A σ) : TT cc own init CT CN N1 U1 QR sc pc (a0 :: .int x :: r) S A σ := tt_iinc (L := a0 :: .int x :: r) h0 rfl hv (stOK_at (k := 0) rfl hc) hq h
theorem sti_2 {a0 a1 a2 : Value} {r : List Value} {x : Int32} (h0 : decode cc pc = .ok (.istore 2, 2)) (hc : a1.category = 1) (hq : pc + 2 = q) (h : TT cc own init CT CN N1 U1 QR sc q (a0 :: a1 :: .int x :: r) S A σ) : TT cc own init CT CN N1 U1 QR sc pc (a0 :: a1 :: a2 :: r) (.int x :: S) A σ := tt_istore (L := a0 :: a1 :: a2 :: r) h0 (by simp) (stOK_at (k := 1) rfl hc) hq h
theorem sti_n_2 {a0 a1 a2 : Value} {r : List Value} {x : Int32} {j : Fin 4} (h0 : decode cc pc = .ok (.istore_n j, 1)) (hj : (j : Nat) = 2) (hc : a1.category = 1) (hq : pc + 1 = q) (h : TT cc own init CT CN N1 U1 QR sc q (a0 :: a1 :: .int x :: r) S A σ) : TT cc own init CT CN N1 U1 QR sc pc (a0 :: a1 :: a2 :: r) (.int x :: S) A σ := tt_istore_n (L := a0 :: a1 :: a2 :: r) h0 hj (by simp) (stOK_at (k := 1) rfl hc) hq h
theorem sta_2 {a0 a1 a2 : Value} {r : List Value} {x : Nat} (h0 : decode cc pc = .ok (.astore 2, 2)) (hc : a1.category = 1) (hq : pc + 2 = q) (h : TT cc own init CT CN N1 U1 QR sc q (a0 :: a1 :: .ref x :: r) S A σ) : TT cc own init CT CN N1 U1 QR sc pc (a0 :: a1 :: a2 :: r) (.ref x :: S) A σ := tt_astore (L := a0 :: a1 :: a2 :: r) h0 (by simp) (stOK_at (k := 1) rfl hc) hq h
theorem sta_n_2 {a0 a1 a2 : Value} {r : List Value} {x : Nat} {j : Fin 4} (h0 : decode cc pc = .ok (.astore_n j, 1)) (hj : (j : Nat) = 2) (hc : a1.category = 1) (hq : pc + 1 = q) (h : TT cc own init CT CN N1 U1 QR sc q (a0 :: a1 :: .ref x :: r) S A σ) : TT cc own init CT CN N1 U1 QR sc pc (a0 :: a1 :: a2 :: r) (.ref x :: S) A σ := tt_astore_n (L := a0 :: a1 :: a2 :: r) h0 hj (by simp) (stOK_at (k := 1) rfl hc) hq h
theorem inc_2 {a0 a1 : Value} {r : List Value} {x v : Int32} {n : Int} (h0 : decode cc pc = .ok (.iinc 2 n, 3)) (hv : x + Int32.ofInt n = v) (hc : a1.category = 1) (hq : pc + 3 = q) (h : TT cc own init CT CN N1 U1 QR sc q (a0 :: a1 :: .int v :: r) S A σ) : TT cc own init CT CN N1 U1 QR sc pc (a0 :: a1 :: .int x :: r) S A σ := tt_iinc (L := a0 :: a1 :: .int x :: r) h0 rfl hv (stOK_at (k := 1) rfl hc) hq h
theorem sti_3 {a0 a1 a2 a3 : Value} {r : List Value} {x : Int32} (h0 : decode cc pc = .ok (.istore 3, 2)) (hc : a2.category = 1) (hq : pc + 2 = q) (h : TT cc own init CT CN N1 U1 QR sc q (a0 :: a1 :: a2 :: .int x :: r) S A σ) : TT cc own init CT CN N1 U1 QR sc pc (a0 :: a1 :: a2 :: a3 :: r) (.int x :: S) A σ := tt_istore (L := a0 :: a1 :: a2 :: a3 :: r) h0 (by simp) (stOK_at (k := 2) rfl hc) hq h
theorem sti_n_3 {a0 a1 a2 a3 : Value} {r : List Value} {x : Int32} {j : Fin 4} (h0 : decode cc pc = .ok (.istore_n j, 1)) (hj : (j : Nat) = 3) (hc : a2.category = 1) (hq : pc + 1 = q) (h : TT cc own init CT CN N1 U1 QR sc q (a0 :: a1 :: a2 :: .int x :: r) S A σ) : TT cc own init CT CN N1 U1 QR sc pc (a0 :: a1 :: a2 :: a3 :: r) (.int x :: S) A σ := tt_istore_n (L := a0 :: a1 :: a2 :: a3 :: r) h0 hj (by simp) (stOK_at (k := 2) rfl hc) hq h
theorem sta_3 {a0 a1 a2 a3 : Value} {r : List Value} {x : Nat} (h0 : decode cc pc = .ok (.astore 3, 2)) (hc : a2.category = 1) (hq : pc + 2 = q) (h : TT cc own init CT CN N1 U1 QR sc q (a0 :: a1 :: a2 :: .ref x :: r) S A σ) : TT cc own init CT CN N1 U1 QR sc pc (a0 :: a1 :: a2 :: a3 :: r) (.ref x :: S) A σ := tt_astore (L := a0 :: a1 :: a2 :: a3 :: r) h0 (by simp) (stOK_at (k := 2) rfl hc) hq h
theorem sta_n_3 {a0 a1 a2 a3 : Value} {r : List Value} {x : Nat} {j : Fin 4} (h0 : decode cc pc = .ok (.astore_n j, 1)) (hj : (j : Nat) = 3) (hc : a2.category = 1) (hq : pc + 1 = q) (h : TT cc own init CT CN N1 U1 QR sc q (a0 :: a1 :: a2 :: .ref x :: r) S A σ) : TT cc own init CT CN N1 U1 QR sc pc (a0 :: a1 :: a2 :: a3 :: r) (.ref x :: S) A σ := tt_astore_n (L := a0 :: a1 :: a2 :: a3 :: r) h0 hj (by simp) (stOK_at (k := 2) rfl hc) hq h
theorem inc_3 {a0 a1 a2 : Value} {r : List Value} {x v : Int32} {n : Int} (h0 : decode cc pc = .ok (.iinc 3 n, 3)) (hv : x + Int32.ofInt n = v) (hc : a2.category = 1) (hq : pc + 3 = q) (h : TT cc own init CT CN N1 U1 QR sc q (a0 :: a1 :: a2 :: .int v :: r) S A σ) : TT cc own init CT CN N1 U1 QR sc pc (a0 :: a1 :: a2 :: .int x :: r) S A σ := tt_iinc (L := a0 :: a1 :: a2 :: .int x :: r) h0 rfl hv (stOK_at (k := 2) rfl hc) hq h
theorem sti_4 {a0 a1 a2 a3 a4 : Value} {r : List Value} {x : Int32} (h0 : decode cc pc = .ok (.istore 4, 2)) (hc : a3.category = 1) (hq : pc + 2 = q) (h : TT cc own init CT CN N1 U1 QR sc q (a0 :: a1 :: a2 :: a3 :: .int x :: r) S A σ) : TT cc own init CT CN N1 U1 QR sc pc (a0 :: a1 :: a2 :: a3 :: a4 :: r) (.int x :: S) A σ := tt_istore (L := a0 :: a1 :: a2 :: a3 :: a4 :: r) h0 (by simp) (stOK_at (k := 3) rfl hc) hq h
theorem sta_4 {a0 a1 a2 a3 a4 : Value} {r : List Value} {x : Nat} (h0 : decode cc pc = .ok (.astore 4, 2)) (hc : a3.category = 1) (hq : pc + 2 = q) (h : TT cc own init CT CN N1 U1 QR sc q (a0 :: a1 :: a2 :: a3 :: .ref x :: r) S A σ) : TT cc own init CT CN N1 U1 QR sc pc (a0 :: a1 :: a2 :: a3 :: a4 :: r) (.ref x :: S) A σ := tt_astore (L := a0 :: a1 :: a2 :: a3 :: a4 :: r) h0 (by simp) (stOK_at (k := 3) rfl hc) hq h
theorem inc_4 {a0 a1 a2 a3 : Value} {r : List Value} {x v : Int32} {n : Int} (h0 : decode cc pc = .ok (.iinc 4 n, 3)) (hv : x + Int32.ofInt n = v) (hc : a3.category = 1) (hq : pc + 3 = q) (h : TT cc own init CT CN N1 U1 QR sc q (a0 :: a1 :: a2 :: a3 :: .int v :: r) S A σ) : TT cc own init CT CN N1 U1 QR sc pc (a0 :: a1 :: a2 :: a3 :: .int x :: r) S A σ := tt_iinc (L := a0 :: a1 :: a2 :: a3 :: .int x :: r) h0 rfl hv (stOK_at (k := 3) rfl hc) hq h
theorem sti_5 {a0 a1 a2 a3 a4 a5 : Value} {r : List Value} {x : Int32} (h0 : decode cc pc = .ok (.istore 5, 2)) (hc : a4.category = 1) (hq : pc + 2 = q) (h : TT cc own init CT CN N1 U1 QR sc q (a0 :: a1 :: a2 :: a3 :: a4 :: .int x :: r) S A σ) : TT cc own init CT CN N1 U1 QR sc pc (a0 :: a1 :: a2 :: a3 :: a4 :: a5 :: r) (.int x :: S) A σ := tt_istore (L := a0 :: a1 :: a2 :: a3 :: a4 :: a5 :: r) h0 (by simp) (stOK_at (k := 4) rfl hc) hq h
theorem sta_5 {a0 a1 a2 a3 a4 a5 : Value} {r : List Value} {x : Nat} (h0 : decode cc pc = .ok (.astore 5, 2)) (hc : a4.category = 1) (hq : pc + 2 = q) (h : TT cc own init CT CN N1 U1 QR sc q (a0 :: a1 :: a2 :: a3 :: a4 :: .ref x :: r) S A σ) : TT cc own init CT CN N1 U1 QR sc pc (a0 :: a1 :: a2 :: a3 :: a4 :: a5 :: r) (.ref x :: S) A σ := tt_astore (L := a0 :: a1 :: a2 :: a3 :: a4 :: a5 :: r) h0 (by simp) (stOK_at (k := 4) rfl hc) hq h
theorem inc_5 {a0 a1 a2 a3 a4 : Value} {r : List Value} {x v : Int32} {n : Int} (h0 : decode cc pc = .ok (.iinc 5 n, 3)) (hv : x + Int32.ofInt n = v) (hc : a4.category = 1) (hq : pc + 3 = q) (h : TT cc own init CT CN N1 U1 QR sc q (a0 :: a1 :: a2 :: a3 :: a4 :: .int v :: r) S A σ) : TT cc own init CT CN N1 U1 QR sc pc (a0 :: a1 :: a2 :: a3 :: a4 :: .int x :: r) S A σ := tt_iinc (L := a0 :: a1 :: a2 :: a3 :: a4 :: .int x :: r) h0 rfl hv (stOK_at (k := 4) rfl hc) hq h
theorem sti_6 {a0 a1 a2 a3 a4 a5 a6 : Value} {r : List Value} {x : Int32} (h0 : decode cc pc = .ok (.istore 6, 2)) (hc : a5.category = 1) (hq : pc + 2 = q) (h : TT cc own init CT CN N1 U1 QR sc q (a0 :: a1 :: a2 :: a3 :: a4 :: a5 :: .int x :: r) S A σ) : TT cc own init CT CN N1 U1 QR sc pc (a0 :: a1 :: a2 :: a3 :: a4 :: a5 :: a6 :: r) (.int x :: S) A σ := tt_istore (L := a0 :: a1 :: a2 :: a3 :: a4 :: a5 :: a6 :: r) h0 (by simp) (stOK_at (k := 5) rfl hc) hq h
theorem sta_6 {a0 a1 a2 a3 a4 a5 a6 : Value} {r : List Value} {x : Nat} (h0 : decode cc pc = .ok (.astore 6, 2)) (hc : a5.category = 1) (hq : pc + 2 = q) (h : TT cc own init CT CN N1 U1 QR sc q (a0 :: a1 :: a2 :: a3 :: a4 :: a5 :: .ref x :: r) S A σ) : TT cc own init CT CN N1 U1 QR sc pc (a0 :: a1 :: a2 :: a3 :: a4 :: a5 :: a6 :: r) (.ref x :: S) A σ := tt_astore (L := a0 :: a1 :: a2 :: a3 :: a4 :: a5 :: a6 :: r) h0 (by simp) (stOK_at (k := 5) rfl hc) hq h
theorem inc_6 {a0 a1 a2 a3 a4 a5 : Value} {r : List Value} {x v : Int32} {n : Int} (h0 : decode cc pc = .ok (.iinc 6 n, 3)) (hv : x + Int32.ofInt n = v) (hc : a5.category = 1) (hq : pc + 3 = q) (h : TT cc own init CT CN N1 U1 QR sc q (a0 :: a1 :: a2 :: a3 :: a4 :: a5 :: .int v :: r) S A σ) : TT cc own init CT CN N1 U1 QR sc pc (a0 :: a1 :: a2 :: a3 :: a4 :: a5 :: .int x :: r) S A σ := tt_iinc (L := a0 :: a1 :: a2 :: a3 :: a4 :: a5 :: .int x :: r) h0 rfl hv (stOK_at (k := 5) rfl hc) hq h
theorem sti_7 {a0 a1 a2 a3 a4 a5 a6 a7 : Value} {r : List Value} {x : Int32} (h0 : decode cc pc = .ok (.istore 7, 2)) (hc : a6.category = 1) (hq : pc + 2 = q) (h : TT cc own init CT CN N1 U1 QR sc q (a0 :: a1 :: a2 :: a3 :: a4 :: a5 :: a6 :: .int x :: r) S A σ) : TT cc own init CT CN N1 U1 QR sc pc (a0 :: a1 :: a2 :: a3 :: a4 :: a5 :: a6 :: a7 :: r) (.int x :: S) A σ := tt_istore (L := a0 :: a1 :: a2 :: a3 :: a4 :: a5 :: a6 :: a7 :: r) h0 (by simp) (stOK_at (k := 6) rfl hc) hq h
theorem sta_7 {a0 a1 a2 a3 a4 a5 a6 a7 : Value} {r : List Value} {x : Nat} (h0 : decode cc pc = .ok (.astore 7, 2)) (hc : a6.category = 1) (hq : pc + 2 = q) (h : TT cc own init CT CN N1 U1 QR sc q (a0 :: a1 :: a2 :: a3 :: a4 :: a5 :: a6 :: .ref x :: r) S A σ) : TT cc own init CT CN N1 U1 QR sc pc (a0 :: a1 :: a2 :: a3 :: a4 :: a5 :: a6 :: a7 :: r) (.ref x :: S) A σ := tt_astore (L := a0 :: a1 :: a2 :: a3 :: a4 :: a5 :: a6 :: a7 :: r) h0 (by simp) (stOK_at (k := 6) rfl hc) hq h
theorem inc_7 {a0 a1 a2 a3 a4 a5 a6 : Value} {r : List Value} {x v : Int32} {n : Int} (h0 : decode cc pc = .ok (.iinc 7 n, 3)) (hv : x + Int32.ofInt n = v) (hc : a6.category = 1) (hq : pc + 3 = q) (h : TT cc own init CT CN N1 U1 QR sc q (a0 :: a1 :: a2 :: a3 :: a4 :: a5 :: a6 :: .int v :: r) S A σ) : TT cc own init CT CN N1 U1 QR sc pc (a0 :: a1 :: a2 :: a3 :: a4 :: a5 :: a6 :: .int x :: r) S A σ := tt_iinc (L := a0 :: a1 :: a2 :: a3 :: a4 :: a5 :: a6 :: .int x :: r) h0 rfl hv (stOK_at (k := 6) rfl hc) hq h
theorem sti_8 {a0 a1 a2 a3 a4 a5 a6 a7 a8 : Value} {r : List Value} {x : Int32} (h0 : decode cc pc = .ok (.istore 8, 2)) (hc : a7.category = 1) (hq : pc + 2 = q) (h : TT cc own init CT CN N1 U1 QR sc q (a0 :: a1 :: a2 :: a3 :: a4 :: a5 :: a6 :: a7 :: .int x :: r) S A σ) : TT cc own init CT CN N1 U1 QR sc pc (a0 :: a1 :: a2 :: a3 :: a4 :: a5 :: a6 :: a7 :: a8 :: r) (.int x :: S) A σ := tt_istore (L := a0 :: a1 :: a2 :: a3 :: a4 :: a5 :: a6 :: a7 :: a8 :: r) h0 (by simp) (stOK_at (k := 7) rfl hc) hq h
theorem sta_8 {a0 a1 a2 a3 a4 a5 a6 a7 a8 : Value} {r : List Value} {x : Nat} (h0 : decode cc pc = .ok (.astore 8, 2)) (hc : a7.category = 1) (hq : pc + 2 = q) (h : TT cc own init CT CN N1 U1 QR sc q (a0 :: a1 :: a2 :: a3 :: a4 :: a5 :: a6 :: a7 :: .ref x :: r) S A σ) : TT cc own init CT CN N1 U1 QR sc pc (a0 :: a1 :: a2 :: a3 :: a4 :: a5 :: a6 :: a7 :: a8 :: r) (.ref x :: S) A σ := tt_astore (L := a0 :: a1 :: a2 :: a3 :: a4 :: a5 :: a6 :: a7 :: a8 :: r) h0 (by simp) (stOK_at (k := 7) rfl hc) hq h
theorem inc_8 {a0 a1 a2 a3 a4 a5 a6 a7 : Value} {r : List Value} {x v : Int32} {n : Int} (h0 : decode cc pc = .ok (.iinc 8 n, 3)) (hv : x + Int32.ofInt n = v) (hc : a7.category = 1) (hq : pc + 3 = q) (h : TT cc own init CT CN N1 U1 QR sc q (a0 :: a1 :: a2 :: a3 :: a4 :: a5 :: a6 :: a7 :: .int v :: r) S A σ) : TT cc own init CT CN N1 U1 QR sc pc (a0 :: a1 :: a2 :: a3 :: a4 :: a5 :: a6 :: a7 :: .int x :: r) S A σ := tt_iinc (L := a0 :: a1 :: a2 :: a3 :: a4 :: a5 :: a6 :: a7 :: .int x :: r) h0 rfl hv (stOK_at (k := 7) rfl hc) hq h
theorem tt_iaddE {x y v : Int32} (h0 : decode cc pc = .ok (.iadd, 1)) (hv : x + y = v) (hq : pc + 1 = q) (h : TT cc own init CT CN N1 U1 QR sc q L (.int v :: S) A σ) : TT cc own init CT CN N1 U1 QR sc pc L (.int y :: .int x :: S) A σ := tt_iadd h0 hq (by rw [hv]; exact h)
theorem tt_isubE {x y v : Int32} (h0 : decode cc pc = .ok (.isub, 1)) (hv : x - y = v) (hq : pc + 1 = q) (h : TT cc own init CT CN N1 U1 QR sc q L (.int v :: S) A σ) : TT cc own init CT CN N1 U1 QR sc pc L (.int y :: .int x :: S) A σ := tt_isub h0 hq (by rw [hv]; exact h)
theorem tt_imulE {x y v : Int32} (h0 : decode cc pc = .ok (.imul, 1)) (hv : x * y = v) (hq : pc + 1 = q) (h : TT cc own init CT CN N1 U1 QR sc q L (.int v :: S) A σ) : TT cc own init CT CN N1 U1 QR sc pc L (.int y :: .int x :: S) A σ := tt_imul h0 hq (by rw [hv]; exact h)
theorem tt_iandE {x y v : Int32} (h0 : decode cc pc = .ok (.iand, 1)) (hv : x &&& y = v) (hq : pc + 1 = q) (h : TT cc own init CT CN N1 U1 QR sc q L (.int v :: S) A σ) : TT cc own init CT CN N1 U1 QR sc pc L (.int y :: .int x :: S) A σ := tt_iand h0 hq (by rw [hv]; exact h)
theorem tt_iorE {x y v : Int32} (h0 : decode cc pc = .ok (.ior, 1)) (hv : x ||| y = v) (hq : pc + 1 = q) (h : TT cc own init CT CN N1 U1 QR sc q L (.int v :: S) A σ) : TT cc own init CT CN N1 U1 QR sc pc L (.int y :: .int x :: S) A σ := tt_ior h0 hq (by rw [hv]; exact h)
theorem tt_ixorE {x y v : Int32} (h0 : decode cc pc = .ok (.ixor, 1)) (hv : x ^^^ y = v) (hq : pc + 1 = q) (h : TT cc own init CT CN N1 U1 QR sc q L (.int v :: S) A σ) : TT cc own init CT CN N1 U1 QR sc pc L (.int y :: .int x :: S) A σ := tt_ixor h0 hq (by rw [hv]; exact h)
theorem tt_ishlE {x y v : Int32} (h0 : decode cc pc = .ok (.ishl, 1)) (hv : x <<< (y &&& 31) = v) (hq : pc + 1 = q) (h : TT cc own init CT CN N1 U1 QR sc q L (.int v :: S) A σ) : TT cc own init CT CN N1 U1 QR sc pc L (.int y :: .int x :: S) A σ := tt_ishl h0 hq (by rw [hv]; exact h)
theorem tt_ishrE {x y v : Int32} (h0 : decode cc pc = .ok (.ishr, 1)) (hv : x >>> (y &&& 31) = v) (hq : pc + 1 = q) (h : TT cc own init CT CN N1 U1 QR sc q L (.int v :: S) A σ) : TT cc own init CT CN N1 U1 QR sc pc L (.int y :: .int x :: S) A σ := tt_ishr h0 hq (by rw [hv]; exact h)
theorem tt_inegE {x v : Int32} (h0 : decode cc pc = .ok (.ineg, 1)) (hv : -x = v) (hq : pc + 1 = q) (h : TT cc own init CT CN N1 U1 QR sc q L (.int v :: S) A σ) : TT cc own init CT CN N1 U1 QR sc pc L (.int x :: S) A σ := tt_ineg h0 hq (by rw [hv]; exact h)
theorem tt_idivE {x y v : Int32} (h0 : decode cc pc = .ok (.idiv, 1)) (hz : ¬ y = 0) (hv : x / y = v) (hq : pc + 1 = q) (h : TT cc own init CT CN N1 U1 QR sc q L (.int v :: S) A σ) : TT cc own init CT CN N1 U1 QR sc pc L (.int y :: .int x :: S) A σ := tt_idiv h0 hz hq (by rw [hv]; exact h)
theorem tt_iremE {x y v : Int32} (h0 : decode cc pc = .ok (.irem, 1)) (hz : ¬ y = 0) (hv : x - x / y * y = v) (hq : pc + 1 = q) (h : TT cc own init CT CN N1 U1 QR sc q L (.int v :: S) A σ) : TT cc own init CT CN N1 U1 QR sc pc L (.int y :: .int x :: S) A σ := tt_irem h0 hz hq (by rw [hv]; exact h)
theorem tt_iaddN {a b : Nat} (h0 : decode cc pc = .ok (.iadd, 1)) (hq : pc + 1 = q) (h : TT cc own init CT CN N1 U1 QR sc q L (.int (nI (a + b)) :: S) A σ) : TT cc own init CT CN N1 U1 QR sc pc L (.int (nI b) :: .int (nI a) :: S) A σ := tt_iaddE h0 (nI_add a b) hq h
theorem tt_imulN {a b : Nat} (h0 : decode cc pc = .ok (.imul, 1)) (hq : pc + 1 = q) (h : TT cc own init CT CN N1 U1 QR sc q L (.int (nI (a * b)) :: S) A σ) : TT cc own init CT CN N1 U1 QR sc pc L (.int (nI b) :: .int (nI a) :: S) A σ := tt_imulE h0 (pk_mul a b) hq h
theorem tt_isubN {a b : Nat} (h0 : decode cc pc = .ok (.isub, 1)) (hb : b ≤ a) (hq : pc + 1 = q) (h : TT cc own init CT CN N1 U1 QR sc q L (.int (nI (a - b)) :: S) A σ) : TT cc own init CT CN N1 U1 QR sc pc L (.int (nI b) :: .int (nI a) :: S) A σ := tt_isubE h0 (pk_sub hb) hq h
theorem tt_idivN {a b : Nat} (h0 : decode cc pc = .ok (.idiv, 1)) (ha : a < 2 ^ 31) (h1 : 0 < b) (h2 : b < 2 ^ 31) (hq : pc + 1 = q) (h : TT cc own init CT CN N1 U1 QR sc q L (.int (nI (a / b)) :: S) A σ) : TT cc own init CT CN N1 U1 QR sc pc L (.int (nI b) :: .int (nI a) :: S) A σ := tt_idivE h0 (nI_ne0 h1 h2) (pk_div ha h1 h2) hq h
theorem tt_iremN {a b : Nat} (h0 : decode cc pc = .ok (.irem, 1)) (ha : a < 2 ^ 31) (h1 : 0 < b) (h2 : b < 2 ^ 31) (hq : pc + 1 = q) (h : TT cc own init CT CN N1 U1 QR sc q L (.int (nI (a % b)) :: S) A σ) : TT cc own init CT CN N1 U1 QR sc pc L (.int (nI b) :: .int (nI a) :: S) A σ := tt_iremE h0 (nI_ne0 h1 h2) (pk_rem ha h1 h2) hq h
theorem tt_mmaxE {idx : Nat} {x y v : Int32} (h0 : decode cc pc = .ok (.invokestatic idx, 3)) (h1 : Cond.methodLink own idx Lib.Math.max.name ∈ BIG) (hv : (if x < y then y else x) = v) (hc : cats S ≤ 8) (hq : pc + 3 = q) (h : TT cc own init CT CN N1 U1 QR sc q L (.int v :: S) A σ) : TT cc own init CT CN N1 U1 QR sc pc L (.int y :: .int x :: S) A σ := tt_mmax h0 h1 hc hq (by rw [hv]; exact h)
theorem tt_mminE {idx : Nat} {x y v : Int32} (h0 : decode cc pc = .ok (.invokestatic idx, 3)) (h1 : Cond.methodLink own idx Lib.Math.min.name ∈ BIG) (hv : (if y < x then y else x) = v) (hc : cats S ≤ 8) (hq : pc + 3 = q) (h : TT cc own init CT CN N1 U1 QR sc q L (.int v :: S) A σ) : TT cc own init CT CN N1 U1 QR sc pc L (.int y :: .int x :: S) A σ := tt_mmin h0 h1 hc hq (by rw [hv]; exact h)
theorem tt_mmaxN {idx a c : Nat} (h0 : decode cc pc = .ok (.invokestatic idx, 3)) (h1 : Cond.methodLink own idx Lib.Math.max.name ∈ BIG) (ha : a < 2 ^ 31) (hb : c < 2 ^ 31) (hc : cats S ≤ 8) (hq : pc + 3 = q) (h : TT cc own init CT CN N1 U1 QR sc q L (.int (nI (max a c)) :: S) A σ) : TT cc own init CT CN N1 U1 QR sc pc L (.int (nI c) :: .int (nI a) :: S) A σ := tt_mmaxE h0 h1 (nI_max ha hb) hc hq h
theorem tt_mminN {idx a c : Nat} (h0 : decode cc pc = .ok (.invokestatic idx, 3)) (h1 : Cond.methodLink own idx Lib.Math.min.name ∈ BIG) (ha : a < 2 ^ 31) (hb : c < 2 ^ 31) (hc : cats S ≤ 8) (hq : pc + 3 = q) (h : TT cc own init CT CN N1 U1 QR sc q L (.int (nI (min a c)) :: S) A σ) : TT cc own init CT CN N1 U1 QR sc pc L (.int (nI c) :: .int (nI a) :: S) A σ := tt_mminE h0 h1 (nI_min ha hb) hc hq h
theorem callSi_0 {idx : Nat} {post : SG → Int32 → Prop} (h0 : decode cc pc = .ok (.invokestatic idx, 3)) (h1 : CT 0 idx A σ [] post) (hc : cats S ≤ 8) (hq : pc + 3 = q) (h : (∀ (τ : SG) (r : Int32), post τ r → TT cc own init CT CN N1 U1 QR sc q L (.int r :: S) A τ)) : TT cc own init CT CN N1 U1 QR sc pc L (S) A σ := tt_callSi (as := []) h0 h1 hc hq h
theorem callSvI_0 {idx : Nat} {P : SG → Prop} (h0 : decode cc pc = .ok (.invokestatic idx, 3)) (h1 : CT 1 idx A σ [] (fun τ _ => P τ)) (hc : cats S ≤ 8) (hq : pc + 3 = q) (h : ∀ τ : SG, P τ → TT cc own init CT CN N1 U1 QR sc q L S A τ) : TT cc own init CT CN N1 U1 QR sc pc L (S) A σ := tt_callSv (as := []) h0 h1 hc hq h
theorem callSv_0 {idx : Nat} {post : SG → Int32 → Prop} (h0 : decode cc pc = .ok (.invokestatic idx, 3)) (h1 : CT 1 idx A σ [] post) (hc : cats S ≤ 8) (hq : pc + 3 = q) (h : (∀ τ : SG, post τ 0 → TT cc own init CT CN N1 U1 QR sc q L S A τ)) : TT cc own init CT CN N1 U1 QR sc pc L (S) A σ := tt_callSv (as := []) h0 h1 hc hq h
theorem callVi_0 {idx : Nat} {k : Nat} {post : SG → Int32 → Prop} (h0 : decode cc pc = .ok (.invokevirtual idx, 3)) (h1 : CT 2 idx A σ (.ref k :: []) post) (hc : cats S ≤ 8) (hq : pc + 3 = q) (h : (∀ (τ : SG) (r : Int32), post τ r → TT cc own init CT CN N1 U1 QR sc q L (.int r :: S) A τ)) : TT cc own init CT CN N1 U1 QR sc pc L (.ref k :: S) A σ := tt_callVi (as := []) h0 h1 hc hq h
theorem callVvI_0 {idx : Nat} {k : Nat} {P : SG → Prop} (h0 : decode cc pc = .ok (.invokevirtual idx, 3)) (h1 : CT 3 idx A σ (.ref k :: []) (fun τ _ => P τ)) (hc : cats S ≤ 8) (hq : pc + 3 = q) (h : ∀ τ : SG, P τ → TT cc own init CT CN N1 U1 QR sc q L S A τ) : TT cc own init CT CN N1 U1 QR sc pc L (.ref k :: S) A σ := tt_callVv (as := []) h0 h1 hc hq h
theorem callVv_0 {idx : Nat} {k : Nat} {post : SG → Int32 → Prop} (h0 : decode cc pc = .ok (.invokevirtual idx, 3)) (h1 : CT 3 idx A σ (.ref k :: []) post) (hc : cats S ≤ 8) (hq : pc + 3 = q) (h : (∀ τ : SG, post τ 0 → TT cc own init CT CN N1 U1 QR sc q L S A τ)) : TT cc own init CT CN N1 U1 QR sc pc L (.ref k :: S) A σ := tt_callVv (as := []) h0 h1 hc hq h
theorem callSi_1 {idx : Nat} {v0 : Value} {post : SG → Int32 → Prop} (h0 : decode cc pc = .ok (.invokestatic idx, 3)) (h1 : CT 0 idx A σ [v0] post) (hc : cats S ≤ 8) (hq : pc + 3 = q) (h : (∀ (τ : SG) (r : Int32), post τ r → TT cc own init CT CN N1 U1 QR sc q L (.int r :: S) A τ)) : TT cc own init CT CN N1 U1 QR sc pc L (v0 :: S) A σ := tt_callSi (as := [v0]) h0 h1 hc hq h
theorem callSvI_1 {idx : Nat} {v0 : Value} {P : SG → Prop} (h0 : decode cc pc = .ok (.invokestatic idx, 3)) (h1 : CT 1 idx A σ [v0] (fun τ _ => P τ)) (hc : cats S ≤ 8) (hq : pc + 3 = q) (h : ∀ τ : SG, P τ → TT cc own init CT CN N1 U1 QR sc q L S A τ) : TT cc own init CT CN N1 U1 QR sc pc L (v0 :: S) A σ := tt_callSv (as := [v0]) h0 h1 hc hq h
theorem callSv_1 {idx : Nat} {v0 : Value} {post : SG → Int32 → Prop} (h0 : decode cc pc = .ok (.invokestatic idx, 3)) (h1 : CT 1 idx A σ [v0] post) (hc : cats S ≤ 8) (hq : pc + 3 = q) (h : (∀ τ : SG, post τ 0 → TT cc own init CT CN N1 U1 QR sc q L S A τ)) : TT cc own init CT CN N1 U1 QR sc pc L (v0 :: S) A σ := tt_callSv (as := [v0]) h0 h1 hc hq h
theorem callVi_1 {idx : Nat} {k : Nat} {v0 : Value} {post : SG → Int32 → Prop} (h0 : decode cc pc = .ok (.invokevirtual idx, 3)) (h1 : CT 2 idx A σ (.ref k :: [v0]) post) (hc : cats S ≤ 8) (hq : pc + 3 = q) (h : (∀ (τ : SG) (r : Int32), post τ r → TT cc own init CT CN N1 U1 QR sc q L (.int r :: S) A τ)) : TT cc own init CT CN N1 U1 QR sc pc L (v0 :: .ref k :: S) A σ := tt_callVi (as := [v0]) h0 h1 hc hq h
theorem callVvI_1 {idx : Nat} {k : Nat} {v0 : Value} {P : SG → Prop} (h0 : decode cc pc = .ok (.invokevirtual idx, 3)) (h1 : CT 3 idx A σ (.ref k :: [v0]) (fun τ _ => P τ)) (hc : cats S ≤ 8) (hq : pc + 3 = q) (h : ∀ τ : SG, P τ → TT cc own init CT CN N1 U1 QR sc q L S A τ) : TT cc own init CT CN N1 U1 QR sc pc L (v0 :: .ref k :: S) A σ := tt_callVv (as := [v0]) h0 h1 hc hq h
theorem callVv_1 {idx : Nat} {k : Nat} {v0 : Value} {post : SG → Int32 → Prop} (h0 : decode cc pc = .ok (.invokevirtual idx, 3)) (h1 : CT 3 idx A σ (.ref k :: [v0]) post) (hc : cats S ≤ 8) (hq : pc + 3 = q) (h : (∀ τ : SG, post τ 0 → TT cc own init CT CN N1 U1 QR sc q L S A τ)) : TT cc own init CT CN N1 U1 QR sc pc L (v0 :: .ref k :: S) A σ := tt_callVv (as := [v0]) h0 h1 hc hq h
theorem callSi_2 {idx : Nat} {v0 v1 : Value} {post : SG → Int32 → Prop} (h0 : decode cc pc = .ok (.invokestatic idx, 3)) (h1 : CT 0 idx A σ [v0, v1] post) (hc : cats S ≤ 8) (hq : pc + 3 = q) (h : (∀ (τ : SG) (r : Int32), post τ r → TT cc own init CT CN N1 U1 QR sc q L (.int r :: S) A τ)) : TT cc own init CT CN N1 U1 QR sc pc L (v1 :: v0 :: S) A σ := tt_callSi (as := [v0, v1]) h0 h1 hc hq h
theorem callSvI_2 {idx : Nat} {v0 v1 : Value} {P : SG → Prop} (h0 : decode cc pc = .ok (.invokestatic idx, 3)) (h1 : CT 1 idx A σ [v0, v1] (fun τ _ => P τ)) (hc : cats S ≤ 8) (hq : pc + 3 = q) (h : ∀ τ : SG, P τ → TT cc own init CT CN N1 U1 QR sc q L S A τ) : TT cc own init CT CN N1 U1 QR sc pc L (v1 :: v0 :: S) A σ := tt_callSv (as := [v0, v1]) h0 h1 hc hq h
theorem callSv_2 {idx : Nat} {v0 v1 : Value} {post : SG → Int32 → Prop} (h0 : decode cc pc = .ok (.invokestatic idx, 3)) (h1 : CT 1 idx A σ [v0, v1] post) (hc : cats S ≤ 8) (hq : pc + 3 = q) (h : (∀ τ : SG, post τ 0 → TT cc own init CT CN N1 U1 QR sc q L S A τ)) : TT cc own init CT CN N1 U1 QR sc pc L (v1 :: v0 :: S) A σ := tt_callSv (as := [v0, v1]) h0 h1 hc hq h
theorem callVi_2 {idx : Nat} {k : Nat} {v0 v1 : Value} {post : SG → Int32 → Prop} (h0 : decode cc pc = .ok (.invokevirtual idx, 3)) (h1 : CT 2 idx A σ (.ref k :: [v0, v1]) post) (hc : cats S ≤ 8) (hq : pc + 3 = q) (h : (∀ (τ : SG) (r : Int32), post τ r → TT cc own init CT CN N1 U1 QR sc q L (.int r :: S) A τ)) : TT cc own init CT CN N1 U1 QR sc pc L (v1 :: v0 :: .ref k :: S) A σ := tt_callVi (as := [v0, v1]) h0 h1 hc hq h
theorem callVvI_2 {idx : Nat} {k : Nat} {v0 v1 : Value} {P : SG → Prop} (h0 : decode cc pc = .ok (.invokevirtual idx, 3)) (h1 : CT 3 idx A σ (.ref k :: [v0, v1]) (fun τ _ => P τ)) (hc : cats S ≤ 8) (hq : pc + 3 = q) (h : ∀ τ : SG, P τ → TT cc own init CT CN N1 U1 QR sc q L S A τ) : TT cc own init CT CN N1 U1 QR sc pc L (v1 :: v0 :: .ref k :: S) A σ := tt_callVv (as := [v0, v1]) h0 h1 hc hq h
theorem callVv_2 {idx : Nat} {k : Nat} {v0 v1 : Value} {post : SG → Int32 → Prop} (h0 : decode cc pc = .ok (.invokevirtual idx, 3)) (h1 : CT 3 idx A σ (.ref k :: [v0, v1]) post) (hc : cats S ≤ 8) (hq : pc + 3 = q) (h : (∀ τ : SG, post τ 0 → TT cc own init CT CN N1 U1 QR sc q L S A τ)) : TT cc own init CT CN N1 U1 QR sc pc L (v1 :: v0 :: .ref k :: S) A σ := tt_callVv (as := [v0, v1]) h0 h1 hc hq h
theorem callSi_3 {idx : Nat} {v0 v1 v2 : Value} {post : SG → Int32 → Prop} (h0 : decode cc pc = .ok (.invokestatic idx, 3)) (h1 : CT 0 idx A σ [v0, v1, v2] post) (hc : cats S ≤ 8) (hq : pc + 3 = q) (h : (∀ (τ : SG) (r : Int32), post τ r → TT cc own init CT CN N1 U1 QR sc q L (.int r :: S) A τ)) : TT cc own init CT CN N1 U1 QR sc pc L (v2 :: v1 :: v0 :: S) A σ := tt_callSi (as := [v0, v1, v2]) h0 h1 hc hq h
theorem callSvI_3 {idx : Nat} {v0 v1 v2 : Value} {P : SG → Prop} (h0 : decode cc pc = .ok (.invokestatic idx, 3)) (h1 : CT 1 idx A σ [v0, v1, v2] (fun τ _ => P τ)) (hc : cats S ≤ 8) (hq : pc + 3 = q) (h : ∀ τ : SG, P τ → TT cc own init CT CN N1 U1 QR sc q L S A τ) : TT cc own init CT CN N1 U1 QR sc pc L (v2 :: v1 :: v0 :: S) A σ := tt_callSv (as := [v0, v1, v2]) h0 h1 hc hq h
theorem callSv_3 {idx : Nat} {v0 v1 v2 : Value} {post : SG → Int32 → Prop} (h0 : decode cc pc = .ok (.invokestatic idx, 3)) (h1 : CT 1 idx A σ [v0, v1, v2] post) (hc : cats S ≤ 8) (hq : pc + 3 = q) (h : (∀ τ : SG, post τ 0 → TT cc own init CT CN N1 U1 QR sc q L S A τ)) : TT cc own init CT CN N1 U1 QR sc pc L (v2 :: v1 :: v0 :: S) A σ := tt_callSv (as := [v0, v1, v2]) h0 h1 hc hq h
theorem callVi_3 {idx : Nat} {k : Nat} {v0 v1 v2 : Value} {post : SG → Int32 → Prop} (h0 : decode cc pc = .ok (.invokevirtual idx, 3)) (h1 : CT 2 idx A σ (.ref k :: [v0, v1, v2]) post) (hc : cats S ≤ 8) (hq : pc + 3 = q) (h : (∀ (τ : SG) (r : Int32), post τ r → TT cc own init CT CN N1 U1 QR sc q L (.int r :: S) A τ)) : TT cc own init CT CN N1 U1 QR sc pc L (v2 :: v1 :: v0 :: .ref k :: S) A σ := tt_callVi (as := [v0, v1, v2]) h0 h1 hc hq h
theorem callVvI_3 {idx : Nat} {k : Nat} {v0 v1 v2 : Value} {P : SG → Prop} (h0 : decode cc pc = .ok (.invokevirtual idx, 3)) (h1 : CT 3 idx A σ (.ref k :: [v0, v1, v2]) (fun τ _ => P τ)) (hc : cats S ≤ 8) (hq : pc + 3 = q) (h : ∀ τ : SG, P τ → TT cc own init CT CN N1 U1 QR sc q L S A τ) : TT cc own init CT CN N1 U1 QR sc pc L (v2 :: v1 :: v0 :: .ref k :: S) A σ := tt_callVv (as := [v0, v1, v2]) h0 h1 hc hq h
theorem callVv_3 {idx : Nat} {k : Nat} {v0 v1 v2 : Value} {post : SG → Int32 → Prop} (h0 : decode cc pc = .ok (.invokevirtual idx, 3)) (h1 : CT 3 idx A σ (.ref k :: [v0, v1, v2]) post) (hc : cats S ≤ 8) (hq : pc + 3 = q) (h : (∀ τ : SG, post τ 0 → TT cc own init CT CN N1 U1 QR sc q L S A τ)) : TT cc own init CT CN N1 U1 QR sc pc L (v2 :: v1 :: v0 :: .ref k :: S) A σ := tt_callVv (as := [v0, v1, v2]) h0 h1 hc hq h
theorem callSi_4 {idx : Nat} {v0 v1 v2 v3 : Value} {post : SG → Int32 → Prop} (h0 : decode cc pc = .ok (.invokestatic idx, 3)) (h1 : CT 0 idx A σ [v0, v1, v2, v3] post) (hc : cats S ≤ 8) (hq : pc + 3 = q) (h : (∀ (τ : SG) (r : Int32), post τ r → TT cc own init CT CN N1 U1 QR sc q L (.int r :: S) A τ)) : TT cc own init CT CN N1 U1 QR sc pc L (v3 :: v2 :: v1 :: v0 :: S) A σ := tt_callSi (as := [v0, v1, v2, v3]) h0 h1 hc hq h
theorem callSvI_4 {idx : Nat} {v0 v1 v2 v3 : Value} {P : SG → Prop} (h0 : decode cc pc = .ok (.invokestatic idx, 3)) (h1 : CT 1 idx A σ [v0, v1, v2, v3] (fun τ _ => P τ)) (hc : cats S ≤ 8) (hq : pc + 3 = q) (h : ∀ τ : SG, P τ → TT cc own init CT CN N1 U1 QR sc q L S A τ) : TT cc own init CT CN N1 U1 QR sc pc L (v3 :: v2 :: v1 :: v0 :: S) A σ := tt_callSv (as := [v0, v1, v2, v3]) h0 h1 hc hq h
theorem callSv_4 {idx : Nat} {v0 v1 v2 v3 : Value} {post : SG → Int32 → Prop} (h0 : decode cc pc = .ok (.invokestatic idx, 3)) (h1 : CT 1 idx A σ [v0, v1, v2, v3] post) (hc : cats S ≤ 8) (hq : pc + 3 = q) (h : (∀ τ : SG, post τ 0 → TT cc own init CT CN N1 U1 QR sc q L S A τ)) : TT cc own init CT CN N1 U1 QR sc pc L (v3 :: v2 :: v1 :: v0 :: S) A σ := tt_callSv (as := [v0, v1, v2, v3]) h0 h1 hc hq h
theorem callVi_4 {idx : Nat} {k : Nat} {v0 v1 v2 v3 : Value} {post : SG → Int32 → Prop} (h0 : decode cc pc = .ok (.invokevirtual idx, 3)) (h1 : CT 2 idx A σ (.ref k :: [v0, v1, v2, v3]) post) (hc : cats S ≤ 8) (hq : pc + 3 = q) (h : (∀ (τ : SG) (r : Int32), post τ r → TT cc own init CT CN N1 U1 QR sc q L (.int r :: S) A τ)) : TT cc own init CT CN N1 U1 QR sc pc L (v3 :: v2 :: v1 :: v0 :: .ref k :: S) A σ := tt_callVi (as := [v0, v1, v2, v3]) h0 h1 hc hq h
theorem callVvI_4 {idx : Nat} {k : Nat} {v0 v1 v2 v3 : Value} {P : SG → Prop} (h0 : decode cc pc = .ok (.invokevirtual idx, 3)) (h1 : CT 3 idx A σ (.ref k :: [v0, v1, v2, v3]) (fun τ _ => P τ)) (hc : cats S ≤ 8) (hq : pc + 3 = q) (h : ∀ τ : SG, P τ → TT cc own init CT CN N1 U1 QR sc q L S A τ) : TT cc own init CT CN N1 U1 QR sc pc L (v3 :: v2 :: v1 :: v0 :: .ref k :: S) A σ := tt_callVv (as := [v0, v1, v2, v3]) h0 h1 hc hq h
theorem callVv_4 {idx : Nat} {k : Nat} {v0 v1 v2 v3 : Value} {post : SG → Int32 → Prop} (h0 : decode cc pc = .ok (.invokevirtual idx, 3)) (h1 : CT 3 idx A σ (.ref k :: [v0, v1, v2, v3]) post) (hc : cats S ≤ 8) (hq : pc + 3 = q) (h : (∀ τ : SG, post τ 0 → TT cc own init CT CN N1 U1 QR sc q L S A τ)) : TT cc own init CT CN N1 U1 QR sc pc L (v3 :: v2 :: v1 :: v0 :: .ref k :: S) A σ := tt_callVv (as := [v0, v1, v2, v3]) h0 h1 hc hq h
end TTV
