section TTW
variable {cc : ByteArray} {own : String} {init : Bool} {CT : CTT} {CN : CNT} {N1 U1 : Nat} {QR : AL → SG → Option Int32 → Prop} {sc : Option (Nat × (Nat → Int32))} {pc q : Nat} {L S : List Value} {A : AL} {σ : SG}
variable {n n2 u u2 m : Nat} {η : DL}
theorem tt_newE {idx ci k : Nat} (h0 : decode cc pc = .ok (.new idx, 3)) (h1 : NW own idx n ci k) (c1 : n + 1 ≤ N1) (c2 : u + k ≤ U1) (e1 : n + 1 = n2) (e2 : u + k = u2) (hq : pc + 3 = q) (h : TT cc own init CT CN N1 U1 QR sc q L (.ref n :: S) (n2, u2, dOff η n 1) (zr σ n 1)) : TT cc own init CT CN N1 U1 QR sc pc L S (n, u, η) σ := tt_new (A := (n, u, η)) h0 h1 c1 c2 hq (by subst e1; subst e2; exact h)
theorem tt_newaE {k : Nat} {i : Int32} (h0 : decode cc pc = .ok (.newarray .int, 2)) (h1 : IA n k) (hi : i = nI k) (c1 : n + 1 ≤ N1) (c2 : u + k ≤ U1) (e1 : n + 1 = n2) (e2 : u + k = u2) (hq : pc + 2 = q) (h : TT cc own init CT CN N1 U1 QR sc q L (.ref n :: S) (n2, u2, dOff η n 1) (zr σ n 1)) : TT cc own init CT CN N1 U1 QR sc pc L (.int i :: S) (n, u, η) σ := tt_newa (A := (n, u, η)) h0 h1 hi c1 c2 hq (by subst e1; subst e2; exact h)
theorem tt_mnaE {idx a k : Nat} {i i2 : Int32} (h0 : decode cc pc = .ok (.multianewarray idx 2, 4)) (h1 : Cond.classLink own idx "[[I" ∈ BIG) (h2 : IG n a) (h3 : ∀ j, j < a → IA (n + 1 + j) k) (h35 : k < 5000) (hi : i = nI a) (hi2 : i2 = nI k) (c1 : n + 1 + a ≤ N1) (c2 : u + a + a * k ≤ U1) (e1 : n + 1 + a = n2) (e2 : u + a + a * k = u2) (e3 : 1 + a = m) (hq : pc + 4 = q) (h : TT cc own init CT CN N1 U1 QR sc q L (.ref n :: S) (n2, u2, dOff η n m) (zr σ n m)) : TT cc own init CT CN N1 U1 QR sc pc L (.int i2 :: .int i :: S) (n, u, η) σ := tt_mna (A := (n, u, η)) h0 h1 h2 h3 h35 hi hi2 c1 c2 hq (by subst e1; subst e2; subst e3; exact h)
theorem tt_putRE {idx ci j k t : Nat} (h0 : decode cc pc = .ok (.putfield idx, 3)) (h1 : FL own idx ci j) (h2 : OR k ci j t) (h3 : FR own ci j) (hk : k < n) (hq : pc + 3 = q) (h : TT cc own true CT CN N1 U1 QR sc q L S (n, u, dOn η k j) σ) : TT cc own true CT CN N1 U1 QR sc pc L (.ref t :: .ref k :: S) (n, u, η) σ := tt_putR (A := (n, u, η)) rfl h0 h1 h2 h3 hk hq h
theorem callN_0 {idx k mc ms : Nat} {post : DL → SG → Prop} (h0 : decode cc pc = .ok (.invokespecial idx, 3)) (h1 : CN idx A σ (.ref k :: []) mc ms post) (hc : cats S ≤ 8) (c1 : A.1 + mc ≤ N1) (c2 : A.2.1 + ms ≤ U1) (hq : pc + 3 = q) (h : ∀ (η : DL) (τ : SG), post η τ → TT cc own init CT CN N1 U1 QR sc q L S (A.1 + mc, A.2.1 + ms, η) τ) : TT cc own init CT CN N1 U1 QR sc pc L (.ref k :: S) A σ := tt_callN (as := []) h0 h1 hc c1 c2 hq h
theorem callN_1 {idx k mc ms : Nat} {v0 : Value} {post : DL → SG → Prop} (h0 : decode cc pc = .ok (.invokespecial idx, 3)) (h1 : CN idx A σ (.ref k :: [v0]) mc ms post) (hc : cats S ≤ 8) (c1 : A.1 + mc ≤ N1) (c2 : A.2.1 + ms ≤ U1) (hq : pc + 3 = q) (h : ∀ (η : DL) (τ : SG), post η τ → TT cc own init CT CN N1 U1 QR sc q L S (A.1 + mc, A.2.1 + ms, η) τ) : TT cc own init CT CN N1 U1 QR sc pc L (v0 :: .ref k :: S) A σ := tt_callN (as := [v0]) h0 h1 hc c1 c2 hq h
theorem callN_2 {idx k mc ms : Nat} {v0 v1 : Value} {post : DL → SG → Prop} (h0 : decode cc pc = .ok (.invokespecial idx, 3)) (h1 : CN idx A σ (.ref k :: [v0, v1]) mc ms post) (hc : cats S ≤ 8) (c1 : A.1 + mc ≤ N1) (c2 : A.2.1 + ms ≤ U1) (hq : pc + 3 = q) (h : ∀ (η : DL) (τ : SG), post η τ → TT cc own init CT CN N1 U1 QR sc q L S (A.1 + mc, A.2.1 + ms, η) τ) : TT cc own init CT CN N1 U1 QR sc pc L (v1 :: v0 :: .ref k :: S) A σ := tt_callN (as := [v0, v1]) h0 h1 hc c1 c2 hq h
theorem callN_3 {idx k mc ms : Nat} {v0 v1 v2 : Value} {post : DL → SG → Prop} (h0 : decode cc pc = .ok (.invokespecial idx, 3)) (h1 : CN idx A σ (.ref k :: [v0, v1, v2]) mc ms post) (hc : cats S ≤ 8) (c1 : A.1 + mc ≤ N1) (c2 : A.2.1 + ms ≤ U1) (hq : pc + 3 = q) (h : ∀ (η : DL) (τ : SG), post η τ → TT cc own init CT CN N1 U1 QR sc q L S (A.1 + mc, A.2.1 + ms, η) τ) : TT cc own init CT CN N1 U1 QR sc pc L (v2 :: v1 :: v0 :: .ref k :: S) A σ := tt_callN (as := [v0, v1, v2]) h0 h1 hc c1 c2 hq h
end TTW
theorem MN_of {l : Launch} {D : va_G} {cI cG : ClassId} {base b : Nat} {y : MethodName} {bytes : ByteArray} {maxL d mc ms : Nat} {A : AL} {σ : SG} {as : List Value} {post : DL → SG → Prop} {CT : CTT} {CN : CNT} (hy : plainName y.cls = true) (hn : y.name = "<init>") (he : (ent0 as).length ≤ maxL) (hd : 1 ≤ d) (hCT : CTOK l (rmn d mc ms) D cI cG base b y.cls CT) (hCN : CNOK l (rmn d mc ms) D cI cG base b y.cls CN)
    (hT : TT bytes y.cls true CT CN (A.1 + mc) (A.2.1 + ms) (QRn A mc ms post) none 0 (ent maxL as) [] A σ) : MN l D cI cG base b y bytes maxL (rmn d mc ms) A σ as mc ms post := by
  refine Met.ofW (cc := bytes) (maxL := maxL) (ret := none) hy rfl ?_
  intro p e s m args below meth c s₁ B hml hv
  obtain ⟨rfl, hsz, hP, hK, hN⟩ := hv
  have hts := atoms_spec (ws := Cond.code y bytes maxL none :: BIG) B.pre
  have C : CX p (rmn d mc ms) s m ((as.map (tv base b)).toArray) meth c D cI cG base b y.cls bytes maxL true none := ⟨B.exec, B.bytes, hml, findClass_of_methodNamed B.named, fun w hw => hts w (List.mem_cons_of_mem _ hw), hK, (fun _ => (name_of_methodNamed B.named B.method).1.trans hn), (fun _ _ h => by cases h), hd, (by show 100 ≤ 100 * d; omega), hN⟩
  have hac := hts _ (List.mem_cons_of_mem _ bw_arr)
  rw [lg_entry_eq]
  have hL := LH_entry base b he
  have hlocks := B.notSynchronized
  have hr := B.returns
  have key := hT (WN p l e (rmn d mc ms) s m ((as.map (tv base b)).toArray) below meth c D cI cG base b maxL A.1 A.2.1 (MQ below (va_Qv (fun (w : DL × SG) => post w.1 w.2) (fun w t => RU D cI cG base (A.1 + mc, A.2.1 + ms, w.1) w.2 t) (xA base)) ((as.map (tv base b)).toArray) s mc ms (xA base)))
    (rul_all C (Nat.le.intro hsz.symm) hCT (s_callN C hsz (Nat.le_refl _) (Nat.le_refl _) hCN) (s_new C hsz (Nat.le_refl _) (Nat.le_refl _)) (s_newa C hsz (Nat.le_refl _) (Nat.le_refl _) hac) (s_mna C hsz (Nat.le_refl _) (Nat.le_refl _) hac) (fun pc L A' τ v d hq => by obtain ⟨hv, -⟩ := hq; cases hv) (fun pc L A' τ d hq H locs ls zA hP1 hS1 hL1 => by
      obtain ⟨-, e1, e2, hp⟩ := hq
      rw [e1, e2, Nat.add_sub_cancel_left, Nat.add_sub_cancel_left]
      rw [e1] at hP1
      exact W.vret B.exec B.bytes hr (fun t ht hW => ⟨⟨(A'.2.2, τ), rfl, hp, ⟨(by rw [ht]; exact hP1), va_K.moved hW.alike hK, hN.warm hW⟩⟩, hS1.F ht⟩) hS1.2.2 d))
    s.heap [] _ ⟨Nat.le_refl _, Nat.le_refl _, by rw [Nat.sub_self]; exact Nat.zero_le _, by rw [Nat.sub_self]; exact Nat.zero_le _⟩ hP va_S.rf hL
  rw [Nat.sub_self, Nat.sub_self] at key
  exact key
theorem fr_X0_0_1 : FR RX0 0 1 := ⟨_, _, _, tyX0 1, rfl, rfl, rfl, tyX0_ok 1 (by decide), fun _ => ⟨rfl, rfl⟩⟩
theorem fr_X0_0_2 : FR RX0 0 2 := ⟨_, _, _, tyX0 2, rfl, rfl, rfl, tyX0_ok 2 (by decide), fun _ => ⟨rfl, rfl⟩⟩
theorem fr_X0_0_3 : FR RX0 0 3 := ⟨_, _, _, tyX0 3, rfl, rfl, rfl, tyX0_ok 3 (by decide), fun _ => ⟨rfl, rfl⟩⟩
theorem fr_X1_1_0 : FR RX1 1 0 := ⟨_, _, _, tyX1 0, rfl, rfl, rfl, tyX1_ok 0 (by decide), fun _ => ⟨rfl, rfl⟩⟩
theorem fr_X1_1_2 : FR RX1 1 2 := ⟨_, _, _, tyX1 2, rfl, rfl, rfl, tyX1_ok 2 (by decide), fun _ => ⟨rfl, rfl⟩⟩
theorem fr_X1_1_3 : FR RX1 1 3 := ⟨_, _, _, tyX1 3, rfl, rfl, rfl, tyX1_ok 3 (by decide), fun _ => ⟨rfl, rfl⟩⟩
theorem fr_X1_1_7 : FR RX1 1 7 := ⟨_, _, _, tyX1 7, rfl, rfl, rfl, tyX1_ok 7 (by decide), fun _ => ⟨rfl, rfl⟩⟩
theorem fr_X1_1_8 : FR RX1 1 8 := ⟨_, _, _, tyX1 8, rfl, rfl, rfl, tyX1_ok 8 (by decide), fun _ => ⟨rfl, rfl⟩⟩
theorem fr_X2_2_0 : FR RX2 2 0 := ⟨_, _, _, tyX2 0, rfl, rfl, rfl, tyX2_ok 0 (by decide), fun _ => ⟨rfl, rfl⟩⟩
theorem fr_X2_2_1 : FR RX2 2 1 := ⟨_, _, _, tyX2 1, rfl, rfl, rfl, tyX2_ok 1 (by decide), fun _ => ⟨rfl, rfl⟩⟩
theorem fr_X2_2_2 : FR RX2 2 2 := ⟨_, _, _, tyX2 2, rfl, rfl, rfl, tyX2_ok 2 (by decide), fun _ => ⟨rfl, rfl⟩⟩
theorem fr_X3_3_5 : FR RX3 3 5 := ⟨_, _, _, tyX3 5, rfl, rfl, rfl, tyX3_ok 5 (by decide), fun _ => ⟨rfl, rfl⟩⟩
theorem fr_X3_3_6 : FR RX3 3 6 := ⟨_, _, _, tyX3 6, rfl, rfl, rfl, tyX3_ok 6 (by decide), fun _ => ⟨rfl, rfl⟩⟩
theorem fr_X4_4_0 : FR RX4 4 0 := ⟨_, _, _, tyX4 0, rfl, rfl, rfl, tyX4_ok 0 (by decide), fun _ => ⟨rfl, rfl⟩⟩
theorem fr_X4_4_1 : FR RX4 4 1 := ⟨_, _, _, tyX4 1, rfl, rfl, rfl, tyX4_ok 1 (by decide), fun _ => ⟨rfl, rfl⟩⟩
theorem fr_X4_4_2 : FR RX4 4 2 := ⟨_, _, _, tyX4 2, rfl, rfl, rfl, tyX4_ok 2 (by decide), fun _ => ⟨rfl, rfl⟩⟩
theorem fr_X5_5_1 : FR RX5 5 1 := ⟨_, _, _, tyX5 1, rfl, rfl, rfl, tyX5_ok 1 (by decide), fun _ => ⟨rfl, rfl⟩⟩
theorem fr_X5_5_2 : FR RX5 5 2 := ⟨_, _, _, tyX5 2, rfl, rfl, rfl, tyX5_ok 2 (by decide), fun _ => ⟨rfl, rfl⟩⟩
theorem fr_X5_5_3 : FR RX5 5 3 := ⟨_, _, _, tyX5 3, rfl, rfl, rfl, tyX5_ok 3 (by decide), fun _ => ⟨rfl, rfl⟩⟩
theorem fr_X5_5_4 : FR RX5 5 4 := ⟨_, _, _, tyX5 4, rfl, rfl, rfl, tyX5_ok 4 (by decide), fun _ => ⟨rfl, rfl⟩⟩
theorem fr_X5_5_5 : FR RX5 5 5 := ⟨_, _, _, tyX5 5, rfl, rfl, rfl, tyX5_ok 5 (by decide), fun _ => ⟨rfl, rfl⟩⟩
theorem fr_X5_5_6 : FR RX5 5 6 := ⟨_, _, _, tyX5 6, rfl, rfl, rfl, tyX5_ok 6 (by decide), fun _ => ⟨rfl, rfl⟩⟩
theorem fr_X6_6_0 : FR RX6 6 0 := ⟨_, _, _, tyX6 0, rfl, rfl, rfl, tyX6_ok 0 (by decide), fun _ => ⟨rfl, rfl⟩⟩
theorem fr_X7_7_1 : FR RX7 7 1 := ⟨_, _, _, tyX7 1, rfl, rfl, rfl, tyX7_ok 1 (by decide), fun _ => ⟨rfl, rfl⟩⟩
theorem fr_X8_8_0 : FR RX8 8 0 := ⟨_, _, _, tyX8 0, rfl, rfl, rfl, tyX8_ok 0 (by decide), fun _ => ⟨rfl, rfl⟩⟩
theorem fr_X9_9_1 : FR RX9 9 1 := ⟨_, _, _, tyX9 1, rfl, rfl, rfl, tyX9_ok 1 (by decide), fun _ => ⟨rfl, rfl⟩⟩
theorem fr_X9_9_2 : FR RX9 9 2 := ⟨_, _, _, tyX9 2, rfl, rfl, rfl, tyX9_ok 2 (by decide), fun _ => ⟨rfl, rfl⟩⟩
theorem fr_X9_9_3 : FR RX9 9 3 := ⟨_, _, _, tyX9 3, rfl, rfl, rfl, tyX9_ok 3 (by decide), fun _ => ⟨rfl, rfl⟩⟩
theorem fr_X9_9_4 : FR RX9 9 4 := ⟨_, _, _, tyX9 4, rfl, rfl, rfl, tyX9_ok 4 (by decide), fun _ => ⟨rfl, rfl⟩⟩
theorem fr_X9_9_5 : FR RX9 9 5 := ⟨_, _, _, tyX9 5, rfl, rfl, rfl, tyX9_ok 5 (by decide), fun _ => ⟨rfl, rfl⟩⟩
theorem fr_X10_10_1 : FR RX10 10 1 := ⟨_, _, _, tyX10 1, rfl, rfl, rfl, tyX10_ok 1 (by decide), fun _ => ⟨rfl, rfl⟩⟩
theorem fr_X10_10_2 : FR RX10 10 2 := ⟨_, _, _, tyX10 2, rfl, rfl, rfl, tyX10_ok 2 (by decide), fun _ => ⟨rfl, rfl⟩⟩
theorem fr_X10_10_3 : FR RX10 10 3 := ⟨_, _, _, tyX10 3, rfl, rfl, rfl, tyX10_ok 3 (by decide), fun _ => ⟨rfl, rfl⟩⟩
theorem fr_X10_10_4 : FR RX10 10 4 := ⟨_, _, _, tyX10 4, rfl, rfl, rfl, tyX10_ok 4 (by decide), fun _ => ⟨rfl, rfl⟩⟩
theorem fr_X10_10_5 : FR RX10 10 5 := ⟨_, _, _, tyX10 5, rfl, rfl, rfl, tyX10_ok 5 (by decide), fun _ => ⟨rfl, rfl⟩⟩
theorem fr_X10_10_6 : FR RX10 10 6 := ⟨_, _, _, tyX10 6, rfl, rfl, rfl, tyX10_ok 6 (by decide), fun _ => ⟨rfl, rfl⟩⟩
theorem fr_X11_11_0 : FR RX11 11 0 := ⟨_, _, _, tyX11 0, rfl, rfl, rfl, tyX11_ok 0 (by decide), fun _ => ⟨rfl, rfl⟩⟩
theorem fr_X11_11_1 : FR RX11 11 1 := ⟨_, _, _, tyX11 1, rfl, rfl, rfl, tyX11_ok 1 (by decide), fun _ => ⟨rfl, rfl⟩⟩
theorem fr_X11_11_2 : FR RX11 11 2 := ⟨_, _, _, tyX11 2, rfl, rfl, rfl, tyX11_ok 2 (by decide), fun _ => ⟨rfl, rfl⟩⟩
theorem fr_X11_11_3 : FR RX11 11 3 := ⟨_, _, _, tyX11 3, rfl, rfl, rfl, tyX11_ok 3 (by decide), fun _ => ⟨rfl, rfl⟩⟩
theorem fr_X11_11_4 : FR RX11 11 4 := ⟨_, _, _, tyX11 4, rfl, rfl, rfl, tyX11_ok 4 (by decide), fun _ => ⟨rfl, rfl⟩⟩
theorem fr_X11_11_5 : FR RX11 11 5 := ⟨_, _, _, tyX11 5, rfl, rfl, rfl, tyX11_ok 5 (by decide), fun _ => ⟨rfl, rfl⟩⟩
theorem fr_X11_11_6 : FR RX11 11 6 := ⟨_, _, _, tyX11 6, rfl, rfl, rfl, tyX11_ok 6 (by decide), fun _ => ⟨rfl, rfl⟩⟩
theorem fr_X11_11_7 : FR RX11 11 7 := ⟨_, _, _, tyX11 7, rfl, rfl, rfl, tyX11_ok 7 (by decide), fun _ => ⟨rfl, rfl⟩⟩
theorem fr_X11_11_8 : FR RX11 11 8 := ⟨_, _, _, tyX11 8, rfl, rfl, rfl, tyX11_ok 8 (by decide), fun _ => ⟨rfl, rfl⟩⟩
theorem fr_X11_11_9 : FR RX11 11 9 := ⟨_, _, _, tyX11 9, rfl, rfl, rfl, tyX11_ok 9 (by decide), fun _ => ⟨rfl, rfl⟩⟩
theorem fr_X11_11_10 : FR RX11 11 10 := ⟨_, _, _, tyX11 10, rfl, rfl, rfl, tyX11_ok 10 (by decide), fun _ => ⟨rfl, rfl⟩⟩
theorem fr_X11_11_11 : FR RX11 11 11 := ⟨_, _, _, tyX11 11, rfl, rfl, rfl, tyX11_ok 11 (by decide), fun _ => ⟨rfl, rfl⟩⟩
theorem fr_X12_12_0 : FR RX12 12 0 := ⟨_, _, _, tyX12 0, rfl, rfl, rfl, tyX12_ok 0 (by decide), fun _ => ⟨rfl, rfl⟩⟩
theorem fr_X12_12_1 : FR RX12 12 1 := ⟨_, _, _, tyX12 1, rfl, rfl, rfl, tyX12_ok 1 (by decide), fun _ => ⟨rfl, rfl⟩⟩
theorem fr_X12_12_2 : FR RX12 12 2 := ⟨_, _, _, tyX12 2, rfl, rfl, rfl, tyX12_ok 2 (by decide), fun _ => ⟨rfl, rfl⟩⟩
theorem fr_X12_12_4 : FR RX12 12 4 := ⟨_, _, _, tyX12 4, rfl, rfl, rfl, tyX12_ok 4 (by decide), fun _ => ⟨rfl, rfl⟩⟩
theorem fr_X12_12_5 : FR RX12 12 5 := ⟨_, _, _, tyX12 5, rfl, rfl, rfl, tyX12_ok 5 (by decide), fun _ => ⟨rfl, rfl⟩⟩
theorem fr_X12_12_9 : FR RX12 12 9 := ⟨_, _, _, tyX12 9, rfl, rfl, rfl, tyX12_ok 9 (by decide), fun _ => ⟨rfl, rfl⟩⟩
theorem fr_X12_12_10 : FR RX12 12 10 := ⟨_, _, _, tyX12 10, rfl, rfl, rfl, tyX12_ok 10 (by decide), fun _ => ⟨rfl, rfl⟩⟩
theorem fr_X12_12_11 : FR RX12 12 11 := ⟨_, _, _, tyX12 11, rfl, rfl, rfl, tyX12_ok 11 (by decide), fun _ => ⟨rfl, rfl⟩⟩
theorem fr_X12_12_12 : FR RX12 12 12 := ⟨_, _, _, tyX12 12, rfl, rfl, rfl, tyX12_ok 12 (by decide), fun _ => ⟨rfl, rfl⟩⟩
theorem fr_X12_12_13 : FR RX12 12 13 := ⟨_, _, _, tyX12 13, rfl, rfl, rfl, tyX12_ok 13 (by decide), fun _ => ⟨rfl, rfl⟩⟩
theorem fr_X12_12_17 : FR RX12 12 17 := ⟨_, _, _, tyX12 17, rfl, rfl, rfl, tyX12_ok 17 (by decide), fun _ => ⟨rfl, rfl⟩⟩
theorem fr_X12_12_18 : FR RX12 12 18 := ⟨_, _, _, tyX12 18, rfl, rfl, rfl, tyX12_ok 18 (by decide), fun _ => ⟨rfl, rfl⟩⟩
theorem fr_X12_12_19 : FR RX12 12 19 := ⟨_, _, _, tyX12 19, rfl, rfl, rfl, tyX12_ok 19 (by decide), fun _ => ⟨rfl, rfl⟩⟩
theorem fr_X12_12_20 : FR RX12 12 20 := ⟨_, _, _, tyX12 20, rfl, rfl, rfl, tyX12_ok 20 (by decide), fun _ => ⟨rfl, rfl⟩⟩
theorem fr_X12_12_21 : FR RX12 12 21 := ⟨_, _, _, tyX12 21, rfl, rfl, rfl, tyX12_ok 21 (by decide), fun _ => ⟨rfl, rfl⟩⟩
theorem fr_X12_12_23 : FR RX12 12 23 := ⟨_, _, _, tyX12 23, rfl, rfl, rfl, tyX12_ok 23 (by decide), fun _ => ⟨rfl, rfl⟩⟩
theorem fr_X12_12_25 : FR RX12 12 25 := ⟨_, _, _, tyX12 25, rfl, rfl, rfl, tyX12_ok 25 (by decide), fun _ => ⟨rfl, rfl⟩⟩
set_option maxRecDepth 100000 in
theorem nw_L_7_0 : NW RL 7 0 11 13 := ⟨_, _, rfl, rfl, rfl, bigm 52 (by decide +kernel) rfl, bigm 53 (by decide +kernel) rfl, bigm 36 (by decide +kernel) rfl, by decide +kernel⟩
set_option maxRecDepth 100000 in
theorem nw_X11_9_1 : NW RX11 9 1 6 3 := ⟨_, _, rfl, rfl, rfl, bigm 60 (by decide +kernel) rfl, bigm 61 (by decide +kernel) rfl, bigm 37 (by decide +kernel) rfl, by decide +kernel⟩
set_option maxRecDepth 100000 in
theorem nw_X11_16_3 : NW RX11 16 3 4 3 := ⟨_, _, rfl, rfl, rfl, bigm 79 (by decide +kernel) rfl, bigm 80 (by decide +kernel) rfl, bigm 38 (by decide +kernel) rfl, by decide +kernel⟩
set_option maxRecDepth 100000 in
theorem nw_X11_23_7 : NW RX11 23 7 9 6 := ⟨_, _, rfl, rfl, rfl, bigm 107 (by decide +kernel) rfl, bigm 108 (by decide +kernel) rfl, bigm 40 (by decide +kernel) rfl, by decide +kernel⟩
set_option maxRecDepth 100000 in
theorem mn_X9_9 : Cond.classLink RX9 9 "[[I" ∈ BIG := bigm 113 (by decide +kernel) rfl
set_option maxRecDepth 100000 in
theorem nw_X11_32_36 : NW RX11 32 36 5 7 := ⟨_, _, rfl, rfl, rfl, bigm 147 (by decide +kernel) rfl, bigm 148 (by decide +kernel) rfl, bigm 41 (by decide +kernel) rfl, by decide +kernel⟩
set_option maxRecDepth 100000 in
theorem mn_X5_15 : Cond.classLink RX5 15 "[[I" ∈ BIG := bigm 153 (by decide +kernel) rfl
set_option maxRecDepth 100000 in
theorem nw_X11_41_61 : NW RX11 41 61 2 3 := ⟨_, _, rfl, rfl, rfl, bigm 186 (by decide +kernel) rfl, bigm 187 (by decide +kernel) rfl, bigm 42 (by decide +kernel) rfl, by decide +kernel⟩
set_option maxRecDepth 100000 in
theorem nw_X11_41_88 : NW RX11 41 88 2 3 := ⟨_, _, rfl, rfl, rfl, bigm 186 (by decide +kernel) rfl, bigm 187 (by decide +kernel) rfl, bigm 42 (by decide +kernel) rfl, by decide +kernel⟩
set_option maxRecDepth 100000 in
theorem mn_X2_9 : Cond.classLink RX2 9 "[[I" ∈ BIG := bigm 192 (by decide +kernel) rfl
set_option maxRecDepth 100000 in
theorem nw_X11_48_73 : NW RX11 48 73 1 9 := ⟨_, _, rfl, rfl, rfl, bigm 210 (by decide +kernel) rfl, bigm 211 (by decide +kernel) rfl, bigm 43 (by decide +kernel) rfl, by decide +kernel⟩
set_option maxRecDepth 100000 in
theorem nw_X11_57_77 : NW RX11 57 77 10 7 := ⟨_, _, rfl, rfl, rfl, bigm 246 (by decide +kernel) rfl, bigm 247 (by decide +kernel) rfl, bigm 44 (by decide +kernel) rfl, by decide +kernel⟩
set_option maxRecDepth 100000 in
theorem nw_X11_66_81 : NW RX11 66 81 8 3 := ⟨_, _, rfl, rfl, rfl, bigm 277 (by decide +kernel) rfl, bigm 278 (by decide +kernel) rfl, bigm 45 (by decide +kernel) rfl, by decide +kernel⟩
set_option maxRecDepth 100000 in
theorem nw_X11_73_83 : NW RX11 73 83 7 2 := ⟨_, _, rfl, rfl, rfl, bigm 298 (by decide +kernel) rfl, bigm 299 (by decide +kernel) rfl, bigm 46 (by decide +kernel) rfl, by decide +kernel⟩
set_option maxRecDepth 100000 in
theorem nw_X11_80_85 : NW RX11 80 85 0 4 := ⟨_, _, rfl, rfl, rfl, bigm 312 (by decide +kernel) rfl, bigm 313 (by decide +kernel) rfl, bigm 47 (by decide +kernel) rfl, by decide +kernel⟩
set_option maxRecDepth 100000 in
theorem nw_X11_89_87 : NW RX11 89 87 3 7 := ⟨_, _, rfl, rfl, rfl, bigm 332 (by decide +kernel) rfl, bigm 333 (by decide +kernel) rfl, bigm 48 (by decide +kernel) rfl, by decide +kernel⟩
set_option maxRecDepth 100000 in
theorem nw_X3_9_61 : NW RX3 9 61 2 3 := ⟨_, _, rfl, rfl, rfl, bigm 338 (by decide +kernel) rfl, bigm 187 (by decide +kernel) rfl, bigm 42 (by decide +kernel) rfl, by decide +kernel⟩
set_option maxRecDepth 100000 in
theorem nw_X3_9_88 : NW RX3 9 88 2 3 := ⟨_, _, rfl, rfl, rfl, bigm 338 (by decide +kernel) rfl, bigm 187 (by decide +kernel) rfl, bigm 42 (by decide +kernel) rfl, by decide +kernel⟩
set_option maxRecDepth 100000 in
theorem nw_L_10_102 : NW RL 10 102 12 27 := ⟨_, _, rfl, rfl, rfl, bigm 791 (by decide +kernel) rfl, bigm 792 (by decide +kernel) rfl, bigm 49 (by decide +kernel) rfl, by decide +kernel⟩
def INN_X6_init : AL → SG → List Value → Nat → Nat → (DL → SG → Prop) → Prop := fun A σ as mc ms post => (∃ (k : Nat) (as2 : List Value), as = .ref k :: as2 ∧ as2.length = 0 ∧ k < nObj) ∧ mc = 1 ∧ ms = 16 ∧ (ent0 as).length ≤ 1 ∧ TT cX6_init RX6 true CT0 CN0 (A.1 + 1) (A.2.1 + 16) (QRn A 1 16 post) none 0 (ent 1 as) [] A σ
section MC_X6_init
variable {l : Launch} {D : va_G} {cI cG : ClassId} {base b : Nat}
theorem CTOK_X6_init : CTOK l (rmn 1 1 16) D cI cG base b RX6 CT0 := by
  exact CTOK0
theorem CNOK_X6_init : CNOK l (rmn 1 1 16) D cI cG base b RX6 CN0 := by
  exact fun _ _ _ _ _ _ _ _ h => h.elim
theorem METN_X6_init (A : AL) (σ : SG) (as : List Value) (post : DL → SG → Prop) (h : INN_X6_init A σ as 1 16 post) : MN l D cI cG base b yX6_init cX6_init 1 (rmn 1 1 16) A σ as 1 16 post := MN_of lkb_X6_init.2.2.2.2 rfl h.2.2.2.1 (by decide) CTOK_X6_init CNOK_X6_init h.2.2.2.2
end MC_X6_init
def CT_X4_init : CTT := fun kd idx A σ as post => (kd = 3 ∧ idx = 21 ∧ IN_X4_layOut A σ as post)
def INN_X4_init : AL → SG → List Value → Nat → Nat → (DL → SG → Prop) → Prop := fun A σ as mc ms post => (∃ (k : Nat) (as2 : List Value), as = .ref k :: as2 ∧ as2.length = 0 ∧ k < nObj) ∧ mc = 3 ∧ ms = 5046 ∧ (ent0 as).length ≤ 2 ∧ TT cX4_init RX4 true CT_X4_init CN0 (A.1 + 3) (A.2.1 + 5046) (QRn A 3 5046 post) none 0 (ent 2 as) [] A σ
section MC_X4_init
variable {l : Launch} {D : va_G} {cI cG : ClassId} {base b : Nat}
theorem CTOK_X4_init : CTOK l (rmn 3 3 5046) D cI cG base b RX4 CT_X4_init := by
  refine ⟨?_, ?_, ?_, ?_⟩
  · intro idx A σ as post h
    rcases h with ⟨h1, h2, h⟩
    · exact absurd h1 (by decide)
  · intro idx A σ as post h
    rcases h with ⟨h1, h2, h⟩
    · exact absurd h1 (by decide)
  · intro idx k A σ as post h
    rcases h with ⟨h1, h2, h⟩
    · exact absurd h1 (by decide)
  · intro idx k A σ as post h
    rcases h with ⟨h1, h2, h⟩
    · subst h2
      obtain ⟨k9, as9, e9, hlen, hk1, hk2, hk3⟩ := h.1
      cases e9
      exact ⟨yX4_layOut, cX4_layOut, 7, (rmd 2), by rw [hlen]; exact lkb_X4_layOut, lnk_X4_21, vir_X4_layOut hk1 hk2 hk3, rfl, rfl, ⟨by decide, by decide⟩, MET_X4_layOut _ _ _ _ h⟩
theorem CNOK_X4_init : CNOK l (rmn 3 3 5046) D cI cG base b RX4 CN0 := by
  exact fun _ _ _ _ _ _ _ _ h => h.elim
theorem METN_X4_init (A : AL) (σ : SG) (as : List Value) (post : DL → SG → Prop) (h : INN_X4_init A σ as 3 5046 post) : MN l D cI cG base b yX4_init cX4_init 2 (rmn 3 3 5046) A σ as 3 5046 post := MN_of lkb_X4_init.2.2.2.2 rfl h.2.2.2.1 (by decide) CTOK_X4_init CNOK_X4_init h.2.2.2.2
end MC_X4_init
def CT_X9_init : CTT := fun kd idx A σ as post => (kd = 3 ∧ idx = 30 ∧ IN_X9_measure A σ as post)
def INN_X9_init : AL → SG → List Value → Nat → Nat → (DL → SG → Prop) → Prop := fun A σ as mc ms post => (∃ (k : Nat) (as2 : List Value), as = .ref k :: as2 ∧ as2.length = 1 ∧ k < nObj) ∧ mc = 28 ∧ ms = 10176 ∧ (ent0 as).length ≤ 2 ∧ TT cX9_init RX9 true CT_X9_init CN0 (A.1 + 28) (A.2.1 + 10176) (QRn A 28 10176 post) none 0 (ent 2 as) [] A σ
section MC_X9_init
variable {l : Launch} {D : va_G} {cI cG : ClassId} {base b : Nat}
theorem CTOK_X9_init : CTOK l (rmn 2 28 10176) D cI cG base b RX9 CT_X9_init := by
  refine ⟨?_, ?_, ?_, ?_⟩
  · intro idx A σ as post h
    rcases h with ⟨h1, h2, h⟩
    · exact absurd h1 (by decide)
  · intro idx A σ as post h
    rcases h with ⟨h1, h2, h⟩
    · exact absurd h1 (by decide)
  · intro idx k A σ as post h
    rcases h with ⟨h1, h2, h⟩
    · exact absurd h1 (by decide)
  · intro idx k A σ as post h
    rcases h with ⟨h1, h2, h⟩
    · subst h2
      obtain ⟨k9, as9, e9, hlen, hk1, hk2, hk3⟩ := h.1
      cases e9
      exact ⟨yX9_measure, cX9_measure, 6, (rmd 1), by rw [hlen]; exact lkb_X9_measure, lnk_X9_30, vir_X9_measure hk1 hk2 hk3, rfl, rfl, ⟨by decide, by decide⟩, MET_X9_measure _ _ _ _ h⟩
theorem CNOK_X9_init : CNOK l (rmn 2 28 10176) D cI cG base b RX9 CN0 := by
  exact fun _ _ _ _ _ _ _ _ h => h.elim
theorem METN_X9_init (A : AL) (σ : SG) (as : List Value) (post : DL → SG → Prop) (h : INN_X9_init A σ as 28 10176 post) : MN l D cI cG base b yX9_init cX9_init 2 (rmn 2 28 10176) A σ as 28 10176 post := MN_of lkb_X9_init.2.2.2.2 rfl h.2.2.2.1 (by decide) CTOK_X9_init CNOK_X9_init h.2.2.2.2
end MC_X9_init
def INN_X5_init : AL → SG → List Value → Nat → Nat → (DL → SG → Prop) → Prop := fun A σ as mc ms post => (∃ (k : Nat) (as2 : List Value), as = .ref k :: as2 ∧ as2.length = 2 ∧ k < nObj) ∧ mc = 24 ∧ ms = 7316 ∧ (ent0 as).length ≤ 3 ∧ TT cX5_init RX5 true CT0 CN0 (A.1 + 24) (A.2.1 + 7316) (QRn A 24 7316 post) none 0 (ent 3 as) [] A σ
section MC_X5_init
variable {l : Launch} {D : va_G} {cI cG : ClassId} {base b : Nat}
theorem CTOK_X5_init : CTOK l (rmn 1 24 7316) D cI cG base b RX5 CT0 := by
  exact CTOK0
theorem CNOK_X5_init : CNOK l (rmn 1 24 7316) D cI cG base b RX5 CN0 := by
  exact fun _ _ _ _ _ _ _ _ h => h.elim
theorem METN_X5_init (A : AL) (σ : SG) (as : List Value) (post : DL → SG → Prop) (h : INN_X5_init A σ as 24 7316 post) : MN l D cI cG base b yX5_init cX5_init 3 (rmn 1 24 7316) A σ as 24 7316 post := MN_of lkb_X5_init.2.2.2.2 rfl h.2.2.2.1 (by decide) CTOK_X5_init CNOK_X5_init h.2.2.2.2
end MC_X5_init
def CT_X2_init : CTT := fun kd idx A σ as post => (kd = 3 ∧ idx = 23 ∧ IN_X2_forget A σ as post)
def INN_X2_init : AL → SG → List Value → Nat → Nat → (DL → SG → Prop) → Prop := fun A σ as mc ms post => (∃ (k : Nat) (as2 : List Value), as = .ref k :: as2 ∧ as2.length = 0 ∧ k < nObj) ∧ mc = 11 ∧ ms = 58 ∧ (ent0 as).length ≤ 2 ∧ TT cX2_init RX2 true CT_X2_init CN0 (A.1 + 11) (A.2.1 + 58) (QRn A 11 58 post) none 0 (ent 2 as) [] A σ
section MC_X2_init
variable {l : Launch} {D : va_G} {cI cG : ClassId} {base b : Nat}
theorem CTOK_X2_init : CTOK l (rmn 2 11 58) D cI cG base b RX2 CT_X2_init := by
  refine ⟨?_, ?_, ?_, ?_⟩
  · intro idx A σ as post h
    rcases h with ⟨h1, h2, h⟩
    · exact absurd h1 (by decide)
  · intro idx A σ as post h
    rcases h with ⟨h1, h2, h⟩
    · exact absurd h1 (by decide)
  · intro idx k A σ as post h
    rcases h with ⟨h1, h2, h⟩
    · exact absurd h1 (by decide)
  · intro idx k A σ as post h
    rcases h with ⟨h1, h2, h⟩
    · subst h2
      obtain ⟨k9, as9, e9, hlen, hk1, hk2, hk3⟩ := h.1
      cases e9
      exact ⟨yX2_forget, cX2_forget, 3, (rmd 1), by rw [hlen]; exact lkb_X2_forget, lnk_X2_23, vir_X2_forget hk1 hk2 hk3, rfl, rfl, ⟨by decide, by decide⟩, MET_X2_forget _ _ _ _ h⟩
theorem CNOK_X2_init : CNOK l (rmn 2 11 58) D cI cG base b RX2 CN0 := by
  exact fun _ _ _ _ _ _ _ _ h => h.elim
theorem METN_X2_init (A : AL) (σ : SG) (as : List Value) (post : DL → SG → Prop) (h : INN_X2_init A σ as 11 58 post) : MN l D cI cG base b yX2_init cX2_init 2 (rmn 2 11 58) A σ as 11 58 post := MN_of lkb_X2_init.2.2.2.2 rfl h.2.2.2.1 (by decide) CTOK_X2_init CNOK_X2_init h.2.2.2.2
end MC_X2_init
def INN_X1_init : AL → SG → List Value → Nat → Nat → (DL → SG → Prop) → Prop := fun A σ as mc ms post => (∃ (k : Nat) (as2 : List Value), as = .ref k :: as2 ∧ as2.length = 2 ∧ k < nObj) ∧ mc = 3 ∧ ms = 15 ∧ (ent0 as).length ≤ 3 ∧ TT cX1_init RX1 true CT0 CN0 (A.1 + 3) (A.2.1 + 15) (QRn A 3 15 post) none 0 (ent 3 as) [] A σ
section MC_X1_init
variable {l : Launch} {D : va_G} {cI cG : ClassId} {base b : Nat}
theorem CTOK_X1_init : CTOK l (rmn 1 3 15) D cI cG base b RX1 CT0 := by
  exact CTOK0
theorem CNOK_X1_init : CNOK l (rmn 1 3 15) D cI cG base b RX1 CN0 := by
  exact fun _ _ _ _ _ _ _ _ h => h.elim
theorem METN_X1_init (A : AL) (σ : SG) (as : List Value) (post : DL → SG → Prop) (h : INN_X1_init A σ as 3 15 post) : MN l D cI cG base b yX1_init cX1_init 3 (rmn 1 3 15) A σ as 3 15 post := MN_of lkb_X1_init.2.2.2.2 rfl h.2.2.2.1 (by decide) CTOK_X1_init CNOK_X1_init h.2.2.2.2
end MC_X1_init
def INN_X10_init : AL → SG → List Value → Nat → Nat → (DL → SG → Prop) → Prop := fun A σ as mc ms post => (∃ (k : Nat) (as2 : List Value), as = .ref k :: as2 ∧ as2.length = 3 ∧ k < nObj) ∧ mc = 3 ∧ ms = 12 ∧ (ent0 as).length ≤ 4 ∧ TT cX10_init RX10 true CT0 CN0 (A.1 + 3) (A.2.1 + 12) (QRn A 3 12 post) none 0 (ent 4 as) [] A σ
section MC_X10_init
variable {l : Launch} {D : va_G} {cI cG : ClassId} {base b : Nat}
theorem CTOK_X10_init : CTOK l (rmn 1 3 12) D cI cG base b RX10 CT0 := by
  exact CTOK0
theorem CNOK_X10_init : CNOK l (rmn 1 3 12) D cI cG base b RX10 CN0 := by
  exact fun _ _ _ _ _ _ _ _ h => h.elim
theorem METN_X10_init (A : AL) (σ : SG) (as : List Value) (post : DL → SG → Prop) (h : INN_X10_init A σ as 3 12 post) : MN l D cI cG base b yX10_init cX10_init 4 (rmn 1 3 12) A σ as 3 12 post := MN_of lkb_X10_init.2.2.2.2 rfl h.2.2.2.1 (by decide) CTOK_X10_init CNOK_X10_init h.2.2.2.2
end MC_X10_init
def INN_X8_init : AL → SG → List Value → Nat → Nat → (DL → SG → Prop) → Prop := fun A σ as mc ms post => (∃ (k : Nat) (as2 : List Value), as = .ref k :: as2 ∧ as2.length = 0 ∧ k < nObj) ∧ mc = 1 ∧ ms = 4 ∧ (ent0 as).length ≤ 1 ∧ TT cX8_init RX8 true CT0 CN0 (A.1 + 1) (A.2.1 + 4) (QRn A 1 4 post) none 0 (ent 1 as) [] A σ
section MC_X8_init
variable {l : Launch} {D : va_G} {cI cG : ClassId} {base b : Nat}
theorem CTOK_X8_init : CTOK l (rmn 1 1 4) D cI cG base b RX8 CT0 := by
  exact CTOK0
theorem CNOK_X8_init : CNOK l (rmn 1 1 4) D cI cG base b RX8 CN0 := by
  exact fun _ _ _ _ _ _ _ _ h => h.elim
theorem METN_X8_init (A : AL) (σ : SG) (as : List Value) (post : DL → SG → Prop) (h : INN_X8_init A σ as 1 4 post) : MN l D cI cG base b yX8_init cX8_init 1 (rmn 1 1 4) A σ as 1 4 post := MN_of lkb_X8_init.2.2.2.2 rfl h.2.2.2.1 (by decide) CTOK_X8_init CNOK_X8_init h.2.2.2.2
end MC_X8_init
def INN_X7_init : AL → SG → List Value → Nat → Nat → (DL → SG → Prop) → Prop := fun A σ as mc ms post => (∃ (k : Nat) (as2 : List Value), as = .ref k :: as2 ∧ as2.length = 0 ∧ k < nObj) ∧ mc = 1 ∧ ms = 5 ∧ (ent0 as).length ≤ 1 ∧ TT cX7_init RX7 true CT0 CN0 (A.1 + 1) (A.2.1 + 5) (QRn A 1 5 post) none 0 (ent 1 as) [] A σ
section MC_X7_init
variable {l : Launch} {D : va_G} {cI cG : ClassId} {base b : Nat}
theorem CTOK_X7_init : CTOK l (rmn 1 1 5) D cI cG base b RX7 CT0 := by
  exact CTOK0
theorem CNOK_X7_init : CNOK l (rmn 1 1 5) D cI cG base b RX7 CN0 := by
  exact fun _ _ _ _ _ _ _ _ h => h.elim
theorem METN_X7_init (A : AL) (σ : SG) (as : List Value) (post : DL → SG → Prop) (h : INN_X7_init A σ as 1 5 post) : MN l D cI cG base b yX7_init cX7_init 1 (rmn 1 1 5) A σ as 1 5 post := MN_of lkb_X7_init.2.2.2.2 rfl h.2.2.2.1 (by decide) CTOK_X7_init CNOK_X7_init h.2.2.2.2
end MC_X7_init
def INN_X0_init : AL → SG → List Value → Nat → Nat → (DL → SG → Prop) → Prop := fun A σ as mc ms post => (∃ (k : Nat) (as2 : List Value), as = .ref k :: as2 ∧ as2.length = 2 ∧ k < nObj) ∧ mc = 1 ∧ ms = 8 ∧ (ent0 as).length ≤ 3 ∧ TT cX0_init RX0 true CT0 CN0 (A.1 + 1) (A.2.1 + 8) (QRn A 1 8 post) none 0 (ent 3 as) [] A σ
section MC_X0_init
variable {l : Launch} {D : va_G} {cI cG : ClassId} {base b : Nat}
theorem CTOK_X0_init : CTOK l (rmn 1 1 8) D cI cG base b RX0 CT0 := by
  exact CTOK0
theorem CNOK_X0_init : CNOK l (rmn 1 1 8) D cI cG base b RX0 CN0 := by
  exact fun _ _ _ _ _ _ _ _ h => h.elim
theorem METN_X0_init (A : AL) (σ : SG) (as : List Value) (post : DL → SG → Prop) (h : INN_X0_init A σ as 1 8 post) : MN l D cI cG base b yX0_init cX0_init 3 (rmn 1 1 8) A σ as 1 8 post := MN_of lkb_X0_init.2.2.2.2 rfl h.2.2.2.1 (by decide) CTOK_X0_init CNOK_X0_init h.2.2.2.2
end MC_X0_init
def CNT_X3_init : CNT := fun idx A σ as mc ms post => (idx = 11 ∧ INN_X2_init A σ as mc ms post)
def INN_X3_init : AL → SG → List Value → Nat → Nat → (DL → SG → Prop) → Prop := fun A σ as mc ms post => (∃ (k : Nat) (as2 : List Value), as = .ref k :: as2 ∧ as2.length = 0 ∧ k < nObj) ∧ mc = 13 ∧ ms = 65 ∧ (ent0 as).length ≤ 1 ∧ TT cX3_init RX3 true CT0 CNT_X3_init (A.1 + 13) (A.2.1 + 65) (QRn A 13 65 post) none 0 (ent 1 as) [] A σ
section MC_X3_init
variable {l : Launch} {D : va_G} {cI cG : ClassId} {base b : Nat}
theorem CTOK_X3_init : CTOK l (rmn 3 13 65) D cI cG base b RX3 CT0 := by
  exact CTOK0
theorem CNOK_X3_init : CNOK l (rmn 3 13 65) D cI cG base b RX3 CNT_X3_init := by
  intro idx k A σ as mc ms post h
  rcases h with ⟨h2, h⟩
  · subst h2
    obtain ⟨k9, as9, e9, hlen, hk⟩ := h.1
    cases e9
    obtain ⟨-, e1, e2, -, -⟩ := id h
    subst e1
    subst e2
    exact ⟨yX2_init, cX2_init, 2, (rmn 2 11 58), by rw [hlen]; exact lkb_X2_init, lnk_X3_11, rfl, ins_X2_init, hk, rfl, rfl, ⟨by decide, by decide⟩, METN_X2_init _ _ _ _ h⟩
theorem METN_X3_init (A : AL) (σ : SG) (as : List Value) (post : DL → SG → Prop) (h : INN_X3_init A σ as 13 65 post) : MN l D cI cG base b yX3_init cX3_init 1 (rmn 3 13 65) A σ as 13 65 post := MN_of lkb_X3_init.2.2.2.2 rfl h.2.2.2.1 (by decide) CTOK_X3_init CNOK_X3_init h.2.2.2.2
end MC_X3_init
def CNT_X11_init : CNT := fun idx A σ as mc ms post => (idx = 11 ∧ INN_X6_init A σ as mc ms post) ∨ (idx = 18 ∧ INN_X4_init A σ as mc ms post) ∨ (idx = 25 ∧ INN_X9_init A σ as mc ms post) ∨ (idx = 34 ∧ INN_X5_init A σ as mc ms post) ∨ (idx = 43 ∧ INN_X2_init A σ as mc ms post) ∨ (idx = 50 ∧ INN_X1_init A σ as mc ms post) ∨ (idx = 59 ∧ INN_X10_init A σ as mc ms post) ∨ (idx = 68 ∧ INN_X8_init A σ as mc ms post) ∨ (idx = 75 ∧ INN_X7_init A σ as mc ms post) ∨ (idx = 82 ∧ INN_X0_init A σ as mc ms post) ∨ (idx = 91 ∧ INN_X3_init A σ as mc ms post)
def INN_X11_init : AL → SG → List Value → Nat → Nat → (DL → SG → Prop) → Prop := fun A σ as mc ms post => (∃ (k : Nat) (as2 : List Value), as = .ref k :: as2 ∧ as2.length = 0 ∧ k < nObj) ∧ mc = 101 ∧ ms = 22782 ∧ (ent0 as).length ≤ 1 ∧ TT cX11_init RX11 true CT0 CNT_X11_init (A.1 + 101) (A.2.1 + 22782) (QRn A 101 22782 post) none 0 (ent 1 as) [] A σ
section MC_X11_init
variable {l : Launch} {D : va_G} {cI cG : ClassId} {base b : Nat}
theorem CTOK_X11_init : CTOK l (rmn 4 101 22782) D cI cG base b RX11 CT0 := by
  exact CTOK0
theorem CNOK_X11_init : CNOK l (rmn 4 101 22782) D cI cG base b RX11 CNT_X11_init := by
  intro idx k A σ as mc ms post h
  rcases h with ⟨h2, h⟩ | ⟨h2, h⟩ | ⟨h2, h⟩ | ⟨h2, h⟩ | ⟨h2, h⟩ | ⟨h2, h⟩ | ⟨h2, h⟩ | ⟨h2, h⟩ | ⟨h2, h⟩ | ⟨h2, h⟩ | ⟨h2, h⟩
  · subst h2
    obtain ⟨k9, as9, e9, hlen, hk⟩ := h.1
    cases e9
    obtain ⟨-, e1, e2, -, -⟩ := id h
    subst e1
    subst e2
    exact ⟨yX6_init, cX6_init, 1, (rmn 1 1 16), by rw [hlen]; exact lkb_X6_init, lnk_X11_11, rfl, ins_X6_init, hk, rfl, rfl, ⟨by decide, by decide⟩, METN_X6_init _ _ _ _ h⟩
  · subst h2
    obtain ⟨k9, as9, e9, hlen, hk⟩ := h.1
    cases e9
    obtain ⟨-, e1, e2, -, -⟩ := id h
    subst e1
    subst e2
    exact ⟨yX4_init, cX4_init, 2, (rmn 3 3 5046), by rw [hlen]; exact lkb_X4_init, lnk_X11_18, rfl, ins_X4_init, hk, rfl, rfl, ⟨by decide, by decide⟩, METN_X4_init _ _ _ _ h⟩
  · subst h2
    obtain ⟨k9, as9, e9, hlen, hk⟩ := h.1
    cases e9
    obtain ⟨-, e1, e2, -, -⟩ := id h
    subst e1
    subst e2
    exact ⟨yX9_init, cX9_init, 2, (rmn 2 28 10176), by rw [hlen]; exact lkb_X9_init, lnk_X11_25, rfl, ins_X9_init, hk, rfl, rfl, ⟨by decide, by decide⟩, METN_X9_init _ _ _ _ h⟩
  · subst h2
    obtain ⟨k9, as9, e9, hlen, hk⟩ := h.1
    cases e9
    obtain ⟨-, e1, e2, -, -⟩ := id h
    subst e1
    subst e2
    exact ⟨yX5_init, cX5_init, 3, (rmn 1 24 7316), by rw [hlen]; exact lkb_X5_init, lnk_X11_34, rfl, ins_X5_init, hk, rfl, rfl, ⟨by decide, by decide⟩, METN_X5_init _ _ _ _ h⟩
  · subst h2
    obtain ⟨k9, as9, e9, hlen, hk⟩ := h.1
    cases e9
    obtain ⟨-, e1, e2, -, -⟩ := id h
    subst e1
    subst e2
    exact ⟨yX2_init, cX2_init, 2, (rmn 2 11 58), by rw [hlen]; exact lkb_X2_init, lnk_X11_43, rfl, ins_X2_init, hk, rfl, rfl, ⟨by decide, by decide⟩, METN_X2_init _ _ _ _ h⟩
  · subst h2
    obtain ⟨k9, as9, e9, hlen, hk⟩ := h.1
    cases e9
    obtain ⟨-, e1, e2, -, -⟩ := id h
    subst e1
    subst e2
    exact ⟨yX1_init, cX1_init, 3, (rmn 1 3 15), by rw [hlen]; exact lkb_X1_init, lnk_X11_50, rfl, ins_X1_init, hk, rfl, rfl, ⟨by decide, by decide⟩, METN_X1_init _ _ _ _ h⟩
  · subst h2
    obtain ⟨k9, as9, e9, hlen, hk⟩ := h.1
    cases e9
    obtain ⟨-, e1, e2, -, -⟩ := id h
    subst e1
    subst e2
    exact ⟨yX10_init, cX10_init, 4, (rmn 1 3 12), by rw [hlen]; exact lkb_X10_init, lnk_X11_59, rfl, ins_X10_init, hk, rfl, rfl, ⟨by decide, by decide⟩, METN_X10_init _ _ _ _ h⟩
  · subst h2
    obtain ⟨k9, as9, e9, hlen, hk⟩ := h.1
    cases e9
    obtain ⟨-, e1, e2, -, -⟩ := id h
    subst e1
    subst e2
    exact ⟨yX8_init, cX8_init, 1, (rmn 1 1 4), by rw [hlen]; exact lkb_X8_init, lnk_X11_68, rfl, ins_X8_init, hk, rfl, rfl, ⟨by decide, by decide⟩, METN_X8_init _ _ _ _ h⟩
  · subst h2
    obtain ⟨k9, as9, e9, hlen, hk⟩ := h.1
    cases e9
    obtain ⟨-, e1, e2, -, -⟩ := id h
    subst e1
    subst e2
    exact ⟨yX7_init, cX7_init, 1, (rmn 1 1 5), by rw [hlen]; exact lkb_X7_init, lnk_X11_75, rfl, ins_X7_init, hk, rfl, rfl, ⟨by decide, by decide⟩, METN_X7_init _ _ _ _ h⟩
  · subst h2
    obtain ⟨k9, as9, e9, hlen, hk⟩ := h.1
    cases e9
    obtain ⟨-, e1, e2, -, -⟩ := id h
    subst e1
    subst e2
    exact ⟨yX0_init, cX0_init, 3, (rmn 1 1 8), by rw [hlen]; exact lkb_X0_init, lnk_X11_82, rfl, ins_X0_init, hk, rfl, rfl, ⟨by decide, by decide⟩, METN_X0_init _ _ _ _ h⟩
  · subst h2
    obtain ⟨k9, as9, e9, hlen, hk⟩ := h.1
    cases e9
    obtain ⟨-, e1, e2, -, -⟩ := id h
    subst e1
    subst e2
    exact ⟨yX3_init, cX3_init, 1, (rmn 3 13 65), by rw [hlen]; exact lkb_X3_init, lnk_X11_91, rfl, ins_X3_init, hk, rfl, rfl, ⟨by decide, by decide⟩, METN_X3_init _ _ _ _ h⟩
theorem METN_X11_init (A : AL) (σ : SG) (as : List Value) (post : DL → SG → Prop) (h : INN_X11_init A σ as 101 22782 post) : MN l D cI cG base b yX11_init cX11_init 1 (rmn 4 101 22782) A σ as 101 22782 post := MN_of lkb_X11_init.2.2.2.2 rfl h.2.2.2.1 (by decide) CTOK_X11_init CNOK_X11_init h.2.2.2.2
end MC_X11_init
def INN_X12_init : AL → SG → List Value → Nat → Nat → (DL → SG → Prop) → Prop := fun A σ as mc ms post => (∃ (k : Nat) (as2 : List Value), as = .ref k :: as2 ∧ as2.length = 0 ∧ k < nObj) ∧ mc = 17 ∧ ms = 1241 ∧ (ent0 as).length ≤ 2 ∧ TT cX12_init RX12 true CT0 CN0 (A.1 + 17) (A.2.1 + 1241) (QRn A 17 1241 post) none 0 (ent 2 as) [] A σ
section MC_X12_init
variable {l : Launch} {D : va_G} {cI cG : ClassId} {base b : Nat}
theorem CTOK_X12_init : CTOK l (rmn 1 17 1241) D cI cG base b RX12 CT0 := by
  exact CTOK0
theorem CNOK_X12_init : CNOK l (rmn 1 17 1241) D cI cG base b RX12 CN0 := by
  exact fun _ _ _ _ _ _ _ _ h => h.elim
theorem METN_X12_init (A : AL) (σ : SG) (as : List Value) (post : DL → SG → Prop) (h : INN_X12_init A σ as 17 1241 post) : MN l D cI cG base b yX12_init cX12_init 2 (rmn 1 17 1241) A σ as 17 1241 post := MN_of lkb_X12_init.2.2.2.2 rfl h.2.2.2.1 (by decide) CTOK_X12_init CNOK_X12_init h.2.2.2.2
end MC_X12_init
