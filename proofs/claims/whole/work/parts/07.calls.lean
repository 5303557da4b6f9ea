/-! SOUNDNESS of calls, of what makes cells, of returns; a method's contract out of TT -/
def LKB (y : MethodName) (bytes : ByteArray) (maxL : Nat) (ret : Option FieldType) (n : Nat) : Prop := Cond.code y bytes maxL ret ∈ BIG ∧ Cond.initialized y.cls ∈ BIG ∧ (y.cls ≠ "java/lang/invoke/MethodHandle" ∧ y.cls ≠ "java/lang/invoke/VarHandle") ∧ (parseMethodDescriptor y.desc).map (fun d => d.parameters.length) = some n ∧ plainName y.cls = true
def LNK (own : String) (idx : Nat) (y : MethodName) : Prop := Cond.methodLink own idx y ∈ BIG ∨ ∃ host, (own, idx, y, host) ∈ NEST
def RmOK (R rm : Room) (maxL : Nat) : Prop := rm.frames + 1 ≤ R.frames ∧ 8 + (maxL + 11) + rm.locals ≤ R.locals
def RU (D : va_G) (cI cG : ClassId) (base : Nat) (A : AL) (σ : SG) (U : State) : Prop := RP D cI cG base A.1 A.2.2 σ U.heap ∧ va_K D vwCl (tys2 cI cG) U ∧ NW2 U
def MI (l : Launch) (D : va_G) (cI cG : ClassId) (base b : Nat) (y : MethodName) (bytes : ByteArray) (maxL : Nat) (ret : Option FieldType) (rm : Room) (A : AL) (σ : SG) (as : List Value) (post : SG → Int32 → Prop) : Prop :=
  Met l y (Cond.code y bytes maxL ret :: BIG) rm (va_Pc (as.map (tv base b)) (fun U => base ≤ U.heap.size ∧ RU D cI cG base A σ U)) (va_Qi (fun r τ => post τ r) (fun τ t => RU D cI cG base A τ t) (xA base)) 0 0 (xA base)
def MV (l : Launch) (D : va_G) (cI cG : ClassId) (base b : Nat) (y : MethodName) (bytes : ByteArray) (maxL : Nat) (rm : Room) (A : AL) (σ : SG) (as : List Value) (post : SG → Int32 → Prop) : Prop :=
  Met l y (Cond.code y bytes maxL none :: BIG) rm (va_Pc (as.map (tv base b)) (fun U => base ≤ U.heap.size ∧ RU D cI cG base A σ U)) (va_Qv (fun τ => post τ 0) (fun τ t => RU D cI cG base A τ t) (xA base)) 0 0 (xA base)
def MN (l : Launch) (D : va_G) (cI cG : ClassId) (base b : Nat) (y : MethodName) (bytes : ByteArray) (maxL : Nat) (rm : Room) (A : AL) (σ : SG) (as : List Value) (mc ms : Nat) (post : DL → SG → Prop) : Prop :=
  Met l y (Cond.code y bytes maxL none :: BIG) rm (va_Pc (as.map (tv base b)) (fun U => U.heap.size = base + A.1 ∧ RU D cI cG base A σ U)) (va_Qv (fun (w : DL × SG) => post w.1 w.2) (fun w t => RU D cI cG base (A.1 + mc, A.2.1 + ms, w.1) w.2 t) (xA base)) mc ms (xA base)
def VIR (y : MethodName) (k : Nat) (A : AL) : Prop := Cond.instanceMethod y ∈ BIG ∧ Cond.selects y.cls y y ∈ BIG ∧ k < A.1 ∧ k < nObj ∧ ∃ (ci : Nat) (T : u_T) (N : Nat), vwCl[ci]? = some (y.cls, T, N) ∧ (tb k).1 = ci + 2
/-- what a caller's walk takes of its callees -/
def CTOK (l : Launch) (R : Room) (D : va_G) (cI cG : ClassId) (base b : Nat) (own : String) (CT : CTT) : Prop :=
  (∀ (idx : Nat) (A : AL) (σ : SG) (as : List Value) (post : SG → Int32 → Prop), CT 0 idx A σ as post → ∃ (y : MethodName) (bytes : ByteArray) (maxL : Nat) (ret : Option FieldType) (rm : Room), LKB y bytes maxL ret as.length ∧ LNK own idx y ∧ Cond.static y ∈ BIG ∧ rm.cells = 0 ∧ rm.slots = 0 ∧ RmOK R rm maxL ∧ MI l D cI cG base b y bytes maxL ret rm A σ as post) ∧
  (∀ (idx : Nat) (A : AL) (σ : SG) (as : List Value) (post : SG → Int32 → Prop), CT 1 idx A σ as post → ∃ (y : MethodName) (bytes : ByteArray) (maxL : Nat) (rm : Room), LKB y bytes maxL none as.length ∧ LNK own idx y ∧ Cond.static y ∈ BIG ∧ rm.cells = 0 ∧ rm.slots = 0 ∧ RmOK R rm maxL ∧ MV l D cI cG base b y bytes maxL rm A σ as post) ∧
  (∀ (idx k : Nat) (A : AL) (σ : SG) (as : List Value) (post : SG → Int32 → Prop), CT 2 idx A σ (.ref k :: as) post → ∃ (y : MethodName) (bytes : ByteArray) (maxL : Nat) (ret : Option FieldType) (rm : Room), LKB y bytes maxL ret as.length ∧ LNK own idx y ∧ VIR y k A ∧ rm.cells = 0 ∧ rm.slots = 0 ∧ RmOK R rm maxL ∧ MI l D cI cG base b y bytes maxL ret rm A σ (.ref k :: as) post) ∧
  (∀ (idx k : Nat) (A : AL) (σ : SG) (as : List Value) (post : SG → Int32 → Prop), CT 3 idx A σ (.ref k :: as) post → ∃ (y : MethodName) (bytes : ByteArray) (maxL : Nat) (rm : Room), LKB y bytes maxL none as.length ∧ LNK own idx y ∧ VIR y k A ∧ rm.cells = 0 ∧ rm.slots = 0 ∧ RmOK R rm maxL ∧ MV l D cI cG base b y bytes maxL rm A σ (.ref k :: as) post)
def CNOK (l : Launch) (R : Room) (D : va_G) (cI cG : ClassId) (base b : Nat) (own : String) (CN : CNT) : Prop :=
  ∀ (idx k : Nat) (A : AL) (σ : SG) (as : List Value) (mc ms : Nat) (post : DL → SG → Prop), CN idx A σ (.ref k :: as) mc ms post → ∃ (y : MethodName) (bytes : ByteArray) (maxL : Nat) (rm : Room), LKB y bytes maxL none as.length ∧ LNK own idx y ∧ y.name = "<init>" ∧ Cond.instanceMethod y ∈ BIG ∧ k < nObj ∧ rm.cells = mc ∧ rm.slots = ms ∧ RmOK R rm maxL ∧ MN l D cI cG base b y bytes maxL rm A σ (.ref k :: as) mc ms post
theorem blind_i {av : List Value} {D : va_G} {cI cG : ClassId} {base : Nat} {A : AL} {σ : SG} : FrameBlind (va_Pc av (fun U => base ≤ U.heap.size ∧ RU D cI cG base A σ U)) :=
  fun a U g mk q => by obtain ⟨q0, q1, qP, qK, qN⟩ := q; exact ⟨q0, q1, qP, va_K.moved (u := U) (U := U.calling g mk a) (Vm.Alike.refl U.vm) qK, qN.same rfl⟩
theorem blind_n {av : List Value} {D : va_G} {cI cG : ClassId} {base n : Nat} {A : AL} {σ : SG} : FrameBlind (va_Pc av (fun U => U.heap.size = n ∧ RU D cI cG base A σ U)) :=
  fun a U g mk q => by obtain ⟨q0, q1, qP, qK, qN⟩ := q; exact ⟨q0, q1, qP, va_K.moved (u := U) (U := U.calling g mk a) (Vm.Alike.refl U.vm) qK, qN.same rfl⟩
section CLS
variable {p : Program} {l : Launch} {e : Env} {R : Room} {s : State} {m : MethodId} {args : Array Value} {below : List Frame} {meth : Method} {c : Code} {D : va_G} {cI cG : ClassId} {base b : Nat} {own : String} {cc : ByteArray} {nL : Nat} {init : Bool} {sc : Option (Nat × (Nat → Int32))} {n0 u0 : Nat} {Q : State → Prop} {CT : CTT} {CN : CNT} {N1 U1 : Nat} {QR : AL → SG → Option Int32 → Prop}
theorem stk_S (base b : Nat) (as S : List Value) : (as.reverse ++ S).map (tv base b) = (as.map (tv base b)).reverse ++ S.map (tv base b) := by
  rw [List.map_append, List.map_reverse]
theorem stk_V (base b k : Nat) (as S : List Value) (h : k < nObj) : (as.reverse ++ .ref k :: S).map (tv base b) = (as.map (tv base b)).reverse ++ .ref (base + k) :: S.map (tv base b) := by
  rw [List.map_append, List.map_reverse, List.map_cons, tv_k h]
theorem run_S {mc ms pc : Nat} {H : Heap} {locs : List Loc} {cells slots : Nat} {ls : Array Slot} {y : MethodName} {bytes : ByteArray} {maxL idx : Nat} {ret : Option FieldType} {rm : Room} {as S : List Value} {B : State → Prop} {Qc : Array Value → State → Outcome → State → Prop}
    (C : CX p R s m args meth c D cI cG base b own cc nL init sc) (hB : FrameBlind (va_Pc (as.map (tv base b)) B)) (hM : Met l y (Cond.code y bytes maxL ret :: BIG) rm (va_Pc (as.map (tv base b)) B) Qc mc ms (xA base)) (h1 : LKB y bytes maxL ret as.length) (h2 : LNK own idx y) (h3 : Cond.static y ∈ BIG) (hrc : rm.cells = mc) (hrs : rm.slots = ms) (hR : RmOK R rm maxL)
    (hPc : ∀ U : State, U.heap = H → s.WarmedH U.vm → B U) (hsz : ls.size = nL) (hc : cats S ≤ 8) (d : decode cc pc = .ok (.invokestatic idx, 3)) (hf : cells + mc ≤ R.cells ∧ slots + ms ≤ R.slots) :
    va_Run p l e R s m args below meth c H locs cells slots mc ms (F0 m pc ls ((as.reverse ++ S).map (tv base b))) (S.map (tv base b)) (Qc (as.map (tv base b)).toArray) (xA base) := by
  have hp : PreS s H (va_Pc (as.map (tv base b)) B) (as.map (tv base b)) := ⟨hB, fun U hU hW => ⟨rfl, hPc U hU hW⟩⟩
  have hts := C.2.2.2.2.1
  have hst := hts _ h3
  have hn : (as.map (tv base b)).length = as.length := List.length_map _
  have hW : 2 * (F0 m pc ls ((as.reverse ++ S).map (tv base b))).monitorRoom + ((S.map (tv base b)).map fun v => v.category).sum ≤ 8 := by
    rw [cats_tv]
    show 2 * 0 + _ ≤ 8
    omega
  rcases h2 with h2 | ⟨host, h2⟩
  · exact va_runS ⟨C.1, C.2.1, C.2.2.1, C.2.2.2.1, hts⟩ hM ⟨callB_of as.length hts (good_BIG h1.1) rfl hrc hrs (hts _ h1.2.1) (hts _ h2) ⟨h1.2.2.1.1, h1.2.2.1.2, h1.2.2.2.1⟩ hR, hst⟩ hp rfl hn hsz (stk_S base b as S) hW d hf
  · have hl0 : va_Nw (.methodLinkNest own idx y host) s := C.2.2.2.2.2.2.2.2.2.2.1 _ h2
    exact va_runSN ⟨C.1, C.2.1, C.2.2.1, C.2.2.2.1, hts⟩ hM ⟨va_cnB as.length hts (good_BIG h1.1) rfl hrc hrs hl0 (hts _ h1.2.1) ⟨h1.2.2.1.1, h1.2.2.1.2, h1.2.2.2.1⟩ hR, hst, trivial⟩ hp rfl hn hsz (stk_S base b as S) hW d hf
theorem run_V {mc ms pc k : Nat} {H : Heap} {locs : List Loc} {cells slots : Nat} {ls : Array Slot} {y : MethodName} {bytes : ByteArray} {maxL idx : Nat} {ret : Option FieldType} {rm : Room} {as S : List Value} {B : State → Prop} {Qc : Array Value → State → Outcome → State → Prop} {A : AL} {σ : SG}
    (C : CX p R s m args meth c D cI cG base b own cc nL init sc) (hP : RP D cI cG base A.1 A.2.2 σ H) (hB : FrameBlind (va_Pc ((Value.ref k :: as).map (tv base b)) B)) (hM : Met l y (Cond.code y bytes maxL ret :: BIG) rm (va_Pc ((Value.ref k :: as).map (tv base b)) B) Qc mc ms (xA base)) (h1 : LKB y bytes maxL ret as.length) (h2 : LNK own idx y) (h3 : VIR y k A) (hrc : rm.cells = mc) (hrs : rm.slots = ms) (hR : RmOK R rm maxL)
    (hPc : ∀ U : State, U.heap = H → s.WarmedH U.vm → B U) (hsz : ls.size = nL) (hc : cats S ≤ 8) (d : decode cc pc = .ok (.invokevirtual idx, 3)) (hf : cells + mc ≤ R.cells ∧ slots + ms ≤ R.slots) :
    va_Run p l e R s m args below meth c H locs cells slots mc ms (F0 m pc ls ((as.reverse ++ .ref k :: S).map (tv base b))) (S.map (tv base b)) (Qc ((Value.ref k :: as).map (tv base b)).toArray) (xA base) := by
  obtain ⟨hv1, hv2, hv3, hv4, ci, T, N, hcl, htb⟩ := h3
  have hts := C.2.2.2.2.1
  have em : (Value.ref k :: as).map (tv base b) = .ref (base + k) :: as.map (tv base b) := by rw [List.map_cons, tv_k hv4]
  rw [em] at hB hM ⊢
  have hp : PreV s H y.cls (base + k) (va_Pc (.ref (base + k) :: as.map (tv base b)) B) (as.map (tv base b)) := by
    refine ⟨hB, va_recv C.2.2.2.2.2.1 hP hcl (q0 := k) (fs := (List.range (tb k).2.1).map (fv base A.2.2 σ k)) ?_, fun U hU hW => ⟨rfl, hPc U hU hW⟩⟩
    rw [wl_at base cI cG A.2.2 σ hv3, cel_obj htb]
  have hn : (as.map (tv base b)).length = as.length := List.length_map _
  have hW : 2 * (F0 m pc ls ((as.reverse ++ .ref k :: S).map (tv base b))).monitorRoom + ((S.map (tv base b)).map fun v => v.category).sum ≤ 8 := by
    rw [cats_tv]
    show 2 * 0 + _ ≤ 8
    omega
  rcases h2 with h2 | ⟨host, h2⟩
  · exact va_runV ⟨C.1, C.2.1, C.2.2.1, C.2.2.2.1, hts⟩ hM ⟨callB_of as.length hts (good_BIG h1.1) rfl hrc hrs (hts _ h1.2.1) (hts _ h2) ⟨h1.2.2.1.1, h1.2.2.1.2, h1.2.2.2.1⟩ hR, hts _ hv1, hts _ hv2⟩ hp rfl hn hsz (stk_V base b k as S hv4) hW d hf
  · have hl0 : va_Nw (.methodLinkNest own idx y host) s := C.2.2.2.2.2.2.2.2.2.2.1 _ h2
    exact va_runVN ⟨C.1, C.2.1, C.2.2.1, C.2.2.2.1, hts⟩ hM ⟨va_cnB as.length hts (good_BIG h1.1) rfl hrc hrs hl0 (hts _ h1.2.1) ⟨h1.2.2.1.1, h1.2.2.1.2, h1.2.2.2.1⟩ hR, hts _ hv1, hts _ hv2⟩ hp rfl hn hsz (stk_V base b k as S hv4) hW d hf
theorem s_callSi (C : CX p R s m args meth c D cI cG base b own cc nL init sc) (hsz : base ≤ s.heap.size) (hCT : CTOK l R D cI cG base b own CT) : R_callSi cc CT (WN p l e R s m args below meth c D cI cG base b nL n0 u0 Q) := by
  intro pc q L S A σ idx as post d hct hc hq hX H locs ls zA hP hS hL
  subst hq
  obtain ⟨y, bytes, maxL, ret, rm, h1, h2, h3, hrc, hrs, hR, hM⟩ := hCT.1 idx A σ as post hct
  have run := run_S (l := l) (e := e) (below := below) (H := H) (locs := locs) (cells := A.1 - n0) (slots := A.2.1 - u0) (pc := pc) (ls := ls) (S := S) C blind_i hM h1 h2 h3 hrc hrs hR (fun U hU hW => ⟨by rw [hU]; exact Nat.le_trans hsz hS.1, by rw [RU, hU]; exact ⟨hP, va_K.moved hW.alike C.2.2.2.2.2.1, C.2.2.2.2.2.2.2.2.2.2.warm hW⟩⟩) hL.1 hc d ⟨zA.2.2.1, zA.2.2.2⟩
  refine va_calli run hS (fun _ _ h => h) (fun _ h => h) (fun r u t H1 locs1 ht hvm hpost hB hz hk hS1 => ?_)
  obtain ⟨hP1, -⟩ := hB
  rw [ht] at hP1
  exact hX u r hpost H1 locs1 ls zA hP1 hS1 hL
theorem s_callSv (C : CX p R s m args meth c D cI cG base b own cc nL init sc) (hsz : base ≤ s.heap.size) (hCT : CTOK l R D cI cG base b own CT) : R_callSv cc CT (WN p l e R s m args below meth c D cI cG base b nL n0 u0 Q) := by
  intro pc q L S A σ idx as post d hct hc hq hX H locs ls zA hP hS hL
  subst hq
  obtain ⟨y, bytes, maxL, rm, h1, h2, h3, hrc, hrs, hR, hM⟩ := hCT.2.1 idx A σ as post hct
  have run := run_S (l := l) (e := e) (below := below) (H := H) (locs := locs) (cells := A.1 - n0) (slots := A.2.1 - u0) (pc := pc) (ls := ls) (S := S) C blind_i hM h1 h2 h3 hrc hrs hR (fun U hU hW => ⟨by rw [hU]; exact Nat.le_trans hsz hS.1, by rw [RU, hU]; exact ⟨hP, va_K.moved hW.alike C.2.2.2.2.2.1, C.2.2.2.2.2.2.2.2.2.2.warm hW⟩⟩) hL.1 hc d ⟨zA.2.2.1, zA.2.2.2⟩
  refine va_callv run hS (fun _ _ h => h) (fun _ h => h) (fun u t H1 locs1 ht hvm hpost hB hz hk hS1 => ?_)
  obtain ⟨hP1, -⟩ := hB
  rw [ht] at hP1
  exact hX u hpost H1 locs1 ls zA hP1 hS1 hL
theorem s_callVi (C : CX p R s m args meth c D cI cG base b own cc nL init sc) (hsz : base ≤ s.heap.size) (hCT : CTOK l R D cI cG base b own CT) : R_callVi cc CT (WN p l e R s m args below meth c D cI cG base b nL n0 u0 Q) := by
  intro pc q L S A σ idx k as post d hct hc hq hX H locs ls zA hP hS hL
  subst hq
  obtain ⟨y, bytes, maxL, ret, rm, h1, h2, h3, hrc, hrs, hR, hM⟩ := hCT.2.2.1 idx k A σ as post hct
  have run := run_V (l := l) (e := e) (below := below) (H := H) (locs := locs) (cells := A.1 - n0) (slots := A.2.1 - u0) (pc := pc) (ls := ls) (S := S) C hP blind_i hM h1 h2 h3 hrc hrs hR (fun U hU hW => ⟨by rw [hU]; exact Nat.le_trans hsz hS.1, by rw [RU, hU]; exact ⟨hP, va_K.moved hW.alike C.2.2.2.2.2.1, C.2.2.2.2.2.2.2.2.2.2.warm hW⟩⟩) hL.1 hc d ⟨zA.2.2.1, zA.2.2.2⟩
  refine va_calli run hS (fun _ _ h => h) (fun _ h => h) (fun r u t H1 locs1 ht hvm hpost hB hz hk hS1 => ?_)
  obtain ⟨hP1, -⟩ := hB
  rw [ht] at hP1
  exact hX u r hpost H1 locs1 ls zA hP1 hS1 hL
theorem s_callVv (C : CX p R s m args meth c D cI cG base b own cc nL init sc) (hsz : base ≤ s.heap.size) (hCT : CTOK l R D cI cG base b own CT) : R_callVv cc CT (WN p l e R s m args below meth c D cI cG base b nL n0 u0 Q) := by
  intro pc q L S A σ idx k as post d hct hc hq hX H locs ls zA hP hS hL
  subst hq
  obtain ⟨y, bytes, maxL, rm, h1, h2, h3, hrc, hrs, hR, hM⟩ := hCT.2.2.2 idx k A σ as post hct
  have run := run_V (l := l) (e := e) (below := below) (H := H) (locs := locs) (cells := A.1 - n0) (slots := A.2.1 - u0) (pc := pc) (ls := ls) (S := S) C hP blind_i hM h1 h2 h3 hrc hrs hR (fun U hU hW => ⟨by rw [hU]; exact Nat.le_trans hsz hS.1, by rw [RU, hU]; exact ⟨hP, va_K.moved hW.alike C.2.2.2.2.2.1, C.2.2.2.2.2.2.2.2.2.2.warm hW⟩⟩) hL.1 hc d ⟨zA.2.2.1, zA.2.2.2⟩
  refine va_callv run hS (fun _ _ h => h) (fun _ h => h) (fun u t H1 locs1 ht hvm hpost hB hz hk hS1 => ?_)
  obtain ⟨hP1, -⟩ := hB
  rw [ht] at hP1
  exact hX u hpost H1 locs1 ls zA hP1 hS1 hL
/-- how many cells there are, where all that was made is the world's -/
theorem sizeW {H : Heap} {locs : List Loc} {cells slots : Nat} {g : JFrame} (k : H.size ≤ s.heap.size + cells → W p l e R s m args below meth c H locs cells slots Q g) : W p l e R s m args below meth c H locs cells slots Q g :=
  fun T hT X => k (by rw [← hT]; exact X.heapSize) T hT X
theorem sizeLo {H : Heap} {locs : List Loc} {A : AL} {σ : SG} (hsz : base ≤ s.heap.size) (hP : RP D cI cG base A.1 A.2.2 σ H) (hS : va_S (xA base) s.heap H locs) : base + A.1 ≤ H.size := by
  rcases Nat.eq_zero_or_pos A.1 with h | h
  · rw [h]; exact Nat.le_trans hsz hS.1
  · have := (hP (A.1 - 1) _ (wl_at base cI cG A.2.2 σ (show A.1 - 1 < A.1 by omega))).lt
    have h2 : base + (A.1 - 1) < H.size := this
    omega
theorem s_callN (C : CX p R s m args meth c D cI cG base b own cc nL init sc) (hsz : s.heap.size = base + n0) (hN : N1 ≤ n0 + R.cells) (hU : U1 ≤ u0 + R.slots) (hCN : CNOK l R D cI cG base b own CN) : R_callN cc CN N1 U1 (WN p l e R s m args below meth c D cI cG base b nL n0 u0 Q) := by
  intro pc q L S A σ idx k mc ms as post d hct hc hn1 hu1 hq hX H locs ls zA hP hS hL
  subst hq
  obtain ⟨y, bytes, maxL, rm, h1, h2, h3, h4, hk, hrc, hrs, hR, hM⟩ := hCN idx k A σ as mc ms post hct
  refine sizeW fun hHi => ?_
  have hLo := sizeLo (Nat.le.intro hsz.symm) hP hS
  have z1 := zA.1
  have z2 := zA.2.1
  have hH : H.size = base + A.1 := by omega
  have hts := C.2.2.2.2.1
  have em : (Value.ref k :: as).map (tv base b) = .ref (base + k) :: as.map (tv base b) := by rw [List.map_cons, tv_k hk]
  have hW : 2 * (F0 m pc ls ((as.reverse ++ .ref k :: S).map (tv base b))).monitorRoom + ((S.map (tv base b)).map fun v => v.category).sum ≤ 8 := by
    rw [cats_tv]
    show 2 * 0 + _ ≤ 8
    omega
  have hn : (as.map (tv base b)).length = as.length := List.length_map _
  unfold MN at hM
  rw [em] at hM
  have hp : PreS s H (va_Pc (.ref (base + k) :: as.map (tv base b)) (fun U => U.heap.size = base + A.1 ∧ RU D cI cG base A σ U)) (.ref (base + k) :: as.map (tv base b)) := ⟨blind_n, fun U hU hW => ⟨rfl, by rw [hU]; exact hH, by rw [RU, hU]; exact ⟨hP, va_K.moved hW.alike C.2.2.2.2.2.1, C.2.2.2.2.2.2.2.2.2.2.warm hW⟩⟩⟩
  have run : va_Run p l e R s m args below meth c H locs (A.1 - n0) (A.2.1 - u0) mc ms (F0 m pc ls ((as.reverse ++ .ref k :: S).map (tv base b))) (S.map (tv base b)) (va_Qv (fun (w : DL × SG) => post w.1 w.2) (fun w t => RU D cI cG base (A.1 + mc, A.2.1 + ms, w.1) w.2 t) (xA base) (Value.ref (base + k) :: as.map (tv base b)).toArray) (xA base) := by
    rcases h2 with h2 | ⟨host, h2⟩
    · exact va_runI ⟨C.1, C.2.1, C.2.2.1, C.2.2.2.1, hts⟩ hM ⟨callB_of as.length hts (good_BIG h1.1) rfl hrc hrs (hts _ h1.2.1) (hts _ h2) ⟨h1.2.2.1.1, h1.2.2.1.2, h1.2.2.2.1⟩ hR, h3, hts _ h4⟩ hp rfl hn hL.1 (stk_V base b k as S hk) hW d ⟨by omega, by omega⟩
    · have hl0 : va_Nw (.methodLinkNest own idx y host) s := C.2.2.2.2.2.2.2.2.2.2.1 _ h2
      exact va_runIN ⟨C.1, C.2.1, C.2.2.1, C.2.2.2.1, hts⟩ hM ⟨va_cnB as.length hts (good_BIG h1.1) rfl hrc hrs hl0 (hts _ h1.2.1) ⟨h1.2.2.1.1, h1.2.2.1.2, h1.2.2.2.1⟩ hR, h3, hts _ h4⟩ hp rfl hn hL.1 (stk_V base b k as S hk) hW d ⟨by omega, by omega⟩
  refine va_callv run hS (fun _ _ h => h) (fun _ h => h) (fun u t H1 locs1 ht hvm hpost hB hz hk1 hS1 => ?_)
  obtain ⟨hP1, -⟩ := hB
  rw [ht] at hP1
  have ec : A.1 - n0 + mc = A.1 + mc - n0 := by omega
  have es : A.2.1 - u0 + ms = A.2.1 + ms - u0 := by omega
  rw [ec, es]
  exact hX u.1 u.2 hpost H1 locs1 ls ⟨by show n0 ≤ A.1 + mc; omega, by show u0 ≤ A.2.1 + ms; omega, by show A.1 + mc - n0 ≤ R.cells; omega, by show A.2.1 + ms - u0 ≤ R.slots; omega⟩ hP1 hS1 hL
end CLS
