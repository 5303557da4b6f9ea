/-! SOUNDNESS of multianewarray (over the library's row for it) -/
theorem arrV_congr {c : ClassId} {N : Nat} {f g : Nat → Value} (h : ∀ j, j < N → f j = g j) : arrV c N f = arrV c N g := by
  unfold arrV
  have e : (fun j : Fin N => f j.val) = fun j : Fin N => g j.val := funext fun j => h j.val j.isLt
  rw [e]
theorem outer_V (c : ClassId) (N h0 : Nat) : ∀ i : Nat, Jvm.Free.Multi.outerC c N h0 i = arrV c N (fun j => va_rf (if j < i then some (h0 + 1 + j) else none))
  | 0 => by
    show ({ cls := c, slots := Array.replicate N .null, vm := .none } : Cell) = _
    rw [arrV_new]
    exact arrV_congr fun j _ => by simp [va_rf]
  | i + 1 => by
    show (Jvm.Free.Multi.outerC c N h0 i).setSlot i (.ref (h0 + 1 + i)) = _
    rw [outer_V c N h0 i, arrV_store]
    refine arrV_congr fun j _ => ?_
    by_cases e : j = i
    · subst e
      simp [updV, va_rf]
    · by_cases h : j < i
      · simp [updV, e, h, Nat.lt_succ_of_lt h]
      · simp [updV, e, h, show ¬ j < i + 1 by omega]
section MNA
variable {p : Program} {l : Launch} {e : Env} {R : Room} {s : State} {m : MethodId} {args : Array Value} {below : List Frame} {meth : Method} {c : Code} {D : va_G} {cI cG : ClassId} {base b : Nat} {own : String} {cc : ByteArray} {nL : Nat} {init : Bool} {sc : Option (Nat × (Nat → Int32))} {n0 u0 : Nat} {Q : State → Prop} {N1 U1 : Nat}
theorem s_mna (C : CX p R s m args meth c D cI cG base b own cc nL init sc) (hsz : s.heap.size = base + n0) (hN : N1 ≤ n0 + R.cells) (hU : U1 ≤ u0 + R.slots) (hac : (Cond.arrayClass .int).before args s = true) : R_mna cc own N1 U1 (WN p l e R s m args below meth c D cI cG base b nL n0 u0 Q) := by
  intro pc q L S A σ idx n k i i2 d hlk hG hin hk5 hi hi2 hn1 hu1 hq hX H locs ls zA hP hS hL
  subst hq; subst hi; subst hi2
  refine sizeW fun hHi => ?_
  have hLo := sizeLo (Nat.le.intro hsz.symm) hP hS
  have z1 := zA.1
  have z2 := zA.2.1
  have hH : H.size = base + A.1 := by omega
  have hs := hG.2.1 ▸ tb_small A.1
  have e1 := nI_clamp (n := n) hG.lt
  have e2 := nI_clamp (n := k) (show k < 2 ^ 31 by omega)
  have hb : c.code = cc := C.2.1
  rw [List.map_cons, List.map_cons]
  intro T hT Xs
  have hnk : n * k = n * k := rfl
  generalize hnk2 : n * k = nk at hu1 hX
  obtain ⟨vm₁, cA, comp, hW1, fA, fC, hO, hI, X', step⟩ := Xs.multianewarray2F C.1 C.2.2.2.1 (C.2.2.2.2.1 _ hlk) C.2.2.2.2.2.2.2.2.2.2.2.use hac (g := F0 m pc ls (.int (nI k) :: .int (nI n) :: S.map (tv base b))) rfl (by rw [hb]; exact d) rfl (nI_pos hG.lt) (nI_pos (show k < 2 ^ 31 by omega)) (by rw [e1]; omega) (by rw [e2]; show k * 4 ≤ _; omega) (by rw [e2]; omega) rfl rfl (by rw [e1]; omega) (by rw [e1, e2, hnk2]; omega)
  rw [e1, e2] at X' step
  have hcA : cA = cG := Option.some.inj (fA.symm.trans (C.2.2.2.2.2.1.2 1 _ rfl).2)
  have hcI : comp = cI := Option.some.inj (fC.symm.trans (C.2.2.2.2.2.1.2 0 _ rfl).2)
  subst hcA
  subst hcI
  have hTh : (T.setVm vm₁).heap = H := hT
  obtain ⟨f1, f2, -, -⟩ := Jvm.Free.Multi.fill_facts (T.setVm vm₁) cA comp n k (defaultValue .int) n
  have hold : ∀ x : Nat, x < H.size → (Jvm.Free.Multi.fill (T.setVm vm₁) cA comp n k (defaultValue .int) n).heap[x]? = H[x]? := fun x hx => by
    have := Jvm.Free.Multi.fill_old (T.setVm vm₁) cA comp n k (defaultValue .int) (a := x) (by rw [hTh]; exact hx) n
    rw [hTh] at this
    exact this
  have hrow : ∀ j : Nat, j < n → (Jvm.Free.Multi.fill (T.setVm vm₁) cA comp n k (defaultValue .int) n).heap[H.size + 1 + j]? = some (Jvm.Free.Multi.innerC comp k (defaultValue .int)) := fun j hj => by
    have := Jvm.Free.Multi.fill_inner (T.setVm vm₁) cA comp n k (defaultValue .int) n j hj
    rw [hTh] at this
    exact this
  rw [hTh] at f1 f2
  generalize Jvm.Free.Multi.fill (T.setVm vm₁) cA comp n k (defaultValue .int) n = F at X' step f1 f2 hold hrow
  rw [hH] at hold hrow f1 f2
  have hk0 : A.1 < nObj := hG.2.2
  have hRP : RP D comp cA base (A.1 + 1 + n) (dOff A.2.2 A.1 (1 + n)) (zr σ A.1 (1 + n)) F.heap := by
    intro k9 x hx
    obtain ⟨hk1, rfl⟩ := wl_of hx
    by_cases h9 : k9 < A.1
    · exact RP_old hP hold (fun k h => dOff_old h) (fun k h => zr_old h) h9
    · by_cases h8 : k9 = A.1
      · subst h8
        rw [cel_grid hG]
        show F.heap[base + A.1]? = some (vp_cell cA _)
        rw [f2, outer_V, vp_cell_q]
        congr 1
        refine arrV_congr fun j hj => ?_
        rw [if_pos hj]
        congr 2
        omega
      · obtain ⟨j, rfl⟩ : ∃ j, k9 = A.1 + 1 + j := ⟨k9 - (A.1 + 1), by omega⟩
        have hj : j < n := by omega
        rw [cel_arr (hin j hj)]
        show F.heap[base + (A.1 + 1 + j)]? = some (vp_cell comp _)
        rw [show base + (A.1 + 1 + j) = base + A.1 + 1 + j by omega, hrow j hj, vp_cell_i]
        show some ({ cls := comp, slots := Array.replicate k (defaultValue .int), vm := .none } : Cell) = _
        rw [arrV_new]
        congr 1
        refine arrV_congr fun q9 _ => ?_
        unfold zr
        rw [if_pos (by omega)]
        rfl
  have X2 : Stand p l e R s m args below meth c F locs (A.1 + 1 + n - n0) (A.2.1 + n + nk - u0) := by
    rw [show A.1 + 1 + n - n0 = A.1 - n0 + 1 + n by omega, show A.2.1 + n + nk - u0 = A.2.1 - u0 + n + nk by omega, ← hnk2]
    exact X'
  obtain ⟨t, a1, b1⟩ := hX F.heap locs ls ⟨by show n0 ≤ A.1 + 1 + n; omega, by show u0 ≤ A.2.1 + n + nk; omega, by show A.1 + 1 + n - n0 ≤ R.cells; omega, by show A.2.1 + n + nk - u0 ≤ R.slots; omega⟩ hRP ⟨by rw [f1]; have := hS.1; omega, fun x h1 h2 => (hold x (Nat.lt_of_lt_of_le h1 (by have := hS.1; omega))).trans (hS.2.1 x h1 h2), hS.2.2⟩ hL F rfl X2
  refine ⟨t, step t ?_, b1⟩
  rw [List.map_cons, tv_k hk0] at a1
  have e9 : T.heap.size = base + A.1 := by rw [hT]; exact hH
  rw [e9]
  exact a1
end MNA
