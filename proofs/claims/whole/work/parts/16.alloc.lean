/-! SOUNDNESS of new and newarray; a constructor's contract out of TT -/
theorem tb_lt {k : Nat} (h : (tb k).2.1 ≠ 0) : k < nObj := by
  by_cases hk : k < TB.length
  · exact hk
  · exfalso
    apply h
    unfold tb
    rw [List.getD_eq_getElem?_getD, List.getElem?_eq_none (Nat.le_of_not_lt hk)]
    rfl
section ALC
variable {p : Program} {l : Launch} {e : Env} {R : Room} {s : State} {m : MethodId} {args : Array Value} {below : List Frame} {meth : Method} {c : Code} {D : va_G} {cI cG : ClassId} {base b : Nat} {own : String} {cc : ByteArray} {nL : Nat} {init : Bool} {sc : Option (Nat × (Nat → Int32))} {n0 u0 : Nat} {Q : State → Prop} {N1 U1 : Nat}
/-- the old cells of a world that has grown -/
theorem RP_old {H H1 : Heap} {n : Nat} {δ δ' : DL} {σ σ' : SG} (hP : RP D cI cG base n δ σ H) (hH : ∀ q, q < base + n → H1[q]? = H[q]?) (hδ : ∀ k, k < n → δ' k = δ k) (hσ : ∀ k, k < n → σ' k = σ k) {k : Nat} (hk : k < n) : va_at D vwCl (base + k, cel base cI cG δ' σ' k) H1 := by
  rw [← cel_cong (hδ k hk).symm (hσ k hk).symm]
  exact (hP k _ (wl_at base cI cG δ σ hk)).kept (hH _ (Nat.add_lt_add_left hk _))
theorem dOff_old {δ : DL} {n k j : Nat} (h : k < n) : dOff δ n j k = δ k := by
  funext q
  unfold dOff
  rw [if_neg (by omega)]
theorem zr_old {σ : SG} {n k j : Nat} (h : k < n) : zr σ n j k = σ k := by
  funext q
  unfold zr
  rw [if_neg (by omega)]
theorem s_new (C : CX p R s m args meth c D cI cG base b own cc nL init sc) (hsz : s.heap.size = base + n0) (hN : N1 ≤ n0 + R.cells) (hU : U1 ≤ u0 + R.slots) : R_new cc own N1 U1 (WN p l e R s m args below meth c D cI cG base b nL n0 u0 Q) := by
  intro pc q L S A σ idx ci n d ⟨C0, T, hcl, ht1, ht2, hw1, hw2, hw3, hdef⟩ hn1 hu1 hq hX H locs ls zA hP hS hL
  subst hq
  refine sizeW fun hHi => ?_
  have hLo := sizeLo (Nat.le.intro hsz.symm) hP hS
  have z1 := zA.1
  have z2 := zA.2.1
  have hH : H.size = base + A.1 := by omega
  have hKn := C.2.2.2.2.2.1.1 ci _ hcl
  have hk : A.1 < nObj := by
    by_cases hk : A.1 < TB.length
    · exact hk
    · exfalso
      have h0 : (tb A.1).1 = 0 := by
        unfold tb
        rw [List.getD_eq_getElem?_getD, List.getElem?_eq_none (Nat.le_of_not_lt hk)]
        rfl
      omega
  refine W.newcK C.1 C.2.1 C.2.2.2.1 (C.2.2.2.2.1 _ hw1) (C.2.2.2.2.1 _ hw2) (C.2.2.2.2.1 _ hw3) rfl d (by omega) (by omega) hKn.2.1 hH (fun H1 kC hkC e1 z3 o1 => ?_)
  have h2 := hX H1 locs ls ⟨by show n0 ≤ A.1 + 1; omega, by show u0 ≤ A.2.1 + n; omega, by show A.1 + 1 - n0 ≤ R.cells; omega, by show A.2.1 + n - u0 ≤ R.slots; omega⟩ ?_ ⟨Nat.le_trans hS.1 (by omega), fun x h1 h2 => (o1 x (Nat.lt_of_lt_of_le h1 (by have := hS.1; omega))).trans (hS.2.1 x h1 h2), hS.2.2⟩ hL
  · rw [List.map_cons, tv_k hk] at h2
    have ec : A.1 + 1 - n0 = A.1 - n0 + 1 := by omega
    have es : A.2.1 + n - u0 = A.2.1 - u0 + n := by omega
    rw [← ec, ← es]
    exact h2
  · intro k x hx
    obtain ⟨hk1, rfl⟩ := wl_of hx
    have hk2 : k < A.1 + 1 := hk1
    by_cases h9 : k < A.1
    · exact RP_old hP o1 (fun k h => dOff_old h) (fun k h => zr_old h) h9
    · have h8 : k = A.1 := by omega
      subst h8
      show va_at D vwCl (base + A.1, cel base cI cG (dOff A.2.2 A.1 1) (zr σ A.1 1) A.1) H1
      rw [cel_obj ht1]
      refine ⟨_, hcl, (u_born (vwTy ci) C.2.2.2.2.1 (vw_in hcl) hKn hkC e1 (vw_ok hcl).1).to (fun j hj => ?_)⟩
      have hj2 : j < (tb A.1).2.1 := by rw [ht2]; exact hj
      have e3 : vp_V ((List.range (tb A.1).2.1).map (fv base (dOff A.2.2 A.1 1) (zr σ A.1 1) A.1)) j = fv base (dOff A.2.2 A.1 1) (zr σ A.1 1) A.1 j := by
        unfold vp_V
        rw [List.getD_eq_getElem?_getD, List.getElem?_map, List.getElem?_range hj2]
        rfl
      rw [e3]
      have h3 := hdef j hj
      rw [(vw_ok hcl).1 j hj, Option.map_some] at h3
      have h4 := Option.some.inj h3
      rw [h4]
      unfold fv
      cases hr : (tb A.1).2.2.getD j none with
      | none =>
        show Value.int 0 = Value.int (zr σ A.1 1 A.1 j)
        unfold zr
        rw [if_pos (by omega)]
      | some t =>
        show Value.null = if dOff A.2.2 A.1 1 A.1 j = true then _ else Value.null
        have h9 : dOff A.2.2 A.1 1 A.1 j = false := by
          unfold dOff
          rw [if_pos (by omega)]
        rw [h9, if_neg (by decide)]
theorem s_newa (C : CX p R s m args meth c D cI cG base b own cc nL init sc) (hsz : s.heap.size = base + n0) (hN : N1 ≤ n0 + R.cells) (hU : U1 ≤ u0 + R.slots) (hac : (Cond.arrayClass .int).before args s = true) : R_newa cc N1 U1 (WN p l e R s m args below meth c D cI cG base b nL n0 u0 Q) := by
  intro pc q L S A σ n i d hA hi hn1 hu1 hq hX H locs ls zA hP hS hL
  subst hq; subst hi
  refine sizeW fun hHi => ?_
  have hLo := sizeLo (Nat.le.intro hsz.symm) hP hS
  have z1 := zA.1
  have z2 := zA.2.1
  have hH : H.size = base + A.1 := by omega
  have hs := hA.2.1 ▸ tb_small A.1
  have e9 := nI_clamp (n := n) hA.lt
  rw [List.map_cons]
  refine va_newaK (atype := .int) (N := n) C.1 C.2.1 hac rfl d rfl (nI_pos hA.lt) e9 (by show n * 4 ≤ _; omega) (by omega) (by omega) hH (fun H1 cA e1 z3 o1 hAr hNm => ?_)
  have hcI : s.vm.findClass ("[" ++ (FieldType.int).toString) = some cI := (C.2.2.2.2.2.1.2 0 _ rfl).2
  have hca : cA = cI := Option.some.inj (hNm.symm.trans hcI)
  subst hca
  have h2 := hX H1 locs ls ⟨by show n0 ≤ A.1 + 1; omega, by show u0 ≤ A.2.1 + n; omega, by show A.1 + 1 - n0 ≤ R.cells; omega, by show A.2.1 + n - u0 ≤ R.slots; omega⟩ ?_ ⟨Nat.le_trans hS.1 (by omega), fun x h1 h2 => (o1 x (Nat.lt_of_lt_of_le h1 (by have := hS.1; omega))).trans (hS.2.1 x h1 h2), hS.2.2⟩ hL
  · rw [List.map_cons, tv_k hA.2.2] at h2
    have ec : A.1 + 1 - n0 = A.1 - n0 + 1 := by omega
    have es : A.2.1 + n - u0 = A.2.1 - u0 + n := by omega
    rw [← ec, ← es]
    exact h2
  · intro k x hx
    obtain ⟨hk1, rfl⟩ := wl_of hx
    have hk2 : k < A.1 + 1 := hk1
    by_cases h9 : k < A.1
    · exact RP_old hP o1 (fun k h => dOff_old h) (fun k h => zr_old h) h9
    · have h8 : k = A.1 := by omega
      subst h8
      show va_at D vwCl (base + A.1, cel base cA cG (dOff A.2.2 A.1 1) (zr σ A.1 1) A.1) H1
      rw [cel_arr hA]
      show H1[base + A.1]? = some (vp_cell cA (n, .inl (zr σ A.1 1 A.1)))
      rw [e1, vp_cell_i]
      congr 2
      funext j
      unfold zr
      rw [if_pos (by omega)]
      rfl
end ALC
def QRn (A : AL) (mc ms : Nat) (post : DL → SG → Prop) : AL → SG → Option Int32 → Prop := fun A' τ r => r = none ∧ A'.1 = A.1 + mc ∧ A'.2.1 = A.2.1 + ms ∧ post A'.2.2 τ
set_option maxRecDepth 100000 in
theorem bw_arr : Cond.arrayClass .int ∈ BIG := by decide +kernel
def rmn (d mc ms : Nat) : Room := { frames := d, cells := mc, slots := ms, locals := 100 * d }
