/-! the contracts over the machine, by program -/
section MC_X0_add
variable {l : Launch} {D : va_G} {cI cG : ClassId} {base b : Nat}
theorem CTOK_X0_add : CTOK l (rmd 1) D cI cG base b RX0 CT0 := by
  exact CTOK0
theorem MET_X0_add (A : AL) (σ : SG) (as : List Value) (post : SG → Int32 → Prop) (h : IN_X0_add A σ as post) : MV l D cI cG base b yX0_add cX0_add 2 (rmd 1) A σ as post := MV_of lkb_X0_add.2.2.2.2 h.2.1 ⟨rfl, rfl, by decide, by decide⟩ CTOK_X0_add h.2.2
end MC_X0_add
section MC_X5_ahead
variable {l : Launch} {D : va_G} {cI cG : ClassId} {base b : Nat}
theorem CTOK_X5_ahead : CTOK l (rmd 1) D cI cG base b RX5 CT0 := by
  exact CTOK0
theorem MET_X5_ahead (A : AL) (σ : SG) (as : List Value) (post : SG → Int32 → Prop) (h : IN_X5_ahead A σ as post) : MI l D cI cG base b yX5_ahead cX5_ahead 3 (some .int) (rmd 1) A σ as post := MI_of rfl lkb_X5_ahead.2.2.2.2 h.2.1 ⟨rfl, rfl, by decide, by decide⟩ CTOK_X5_ahead h.2.2
end MC_X5_ahead
section MC_X2_takes
variable {l : Launch} {D : va_G} {cI cG : ClassId} {base b : Nat}
theorem CTOK_X2_takes : CTOK l (rmd 1) D cI cG base b RX2 CT0 := by
  exact CTOK0
theorem MET_X2_takes (A : AL) (σ : SG) (as : List Value) (post : SG → Int32 → Prop) (h : IN_X2_takes A σ as post) : MI l D cI cG base b yX2_takes cX2_takes 4 (some .int) (rmd 1) A σ as post := MI_of rfl lkb_X2_takes.2.2.2.2 h.2.1 ⟨rfl, rfl, by decide, by decide⟩ CTOK_X2_takes h.2.2
end MC_X2_takes
section MC_X0_firstAbove
variable {l : Launch} {D : va_G} {cI cG : ClassId} {base b : Nat}
theorem CTOK_X0_firstAbove : CTOK l (rmd 2) D cI cG base b RX0 CT_X0_firstAbove := by
  refine ⟨?_, ?_, ?_, ?_⟩
  · intro idx A σ as post h
    rcases h with ⟨h1, h2, h⟩ | ⟨h1, h2, h⟩
    · exact absurd h1 (by decide)
    · exact absurd h1 (by decide)
  · intro idx A σ as post h
    rcases h with ⟨h1, h2, h⟩ | ⟨h1, h2, h⟩
    · exact absurd h1 (by decide)
    · exact absurd h1 (by decide)
  · intro idx k A σ as post h
    rcases h with ⟨h1, h2, h⟩ | ⟨h1, h2, h⟩
    · subst h2
      obtain ⟨k9, as9, e9, hlen, hk1, hk2, hk3⟩ := h.1
      cases e9
      exact ⟨yX5_ahead, cX5_ahead, 3, (some .int), (rmd 1), by rw [hlen]; exact lkb_X5_ahead, lnk_X0_36, vir_X5_ahead hk1 hk2 hk3, rfl, rfl, ⟨by decide, by decide⟩, MET_X5_ahead _ _ _ _ h⟩
    · subst h2
      obtain ⟨k9, as9, e9, hlen, hk1, hk2, hk3⟩ := h.1
      cases e9
      exact ⟨yX2_takes, cX2_takes, 4, (some .int), (rmd 1), by rw [hlen]; exact lkb_X2_takes, lnk_X0_40, vir_X2_takes hk1 hk2 hk3, rfl, rfl, ⟨by decide, by decide⟩, MET_X2_takes _ _ _ _ h⟩
  · intro idx k A σ as post h
    rcases h with ⟨h1, h2, h⟩ | ⟨h1, h2, h⟩
    · exact absurd h1 (by decide)
    · exact absurd h1 (by decide)
theorem MET_X0_firstAbove (A : AL) (σ : SG) (as : List Value) (post : SG → Int32 → Prop) (h : IN_X0_firstAbove A σ as post) : MI l D cI cG base b yX0_firstAbove cX0_firstAbove 5 (some .int) (rmd 2) A σ as post := MI_of rfl lkb_X0_firstAbove.2.2.2.2 h.2.1 ⟨rfl, rfl, by decide, by decide⟩ CTOK_X0_firstAbove h.2.2
end MC_X0_firstAbove
section MC_X5_hasMove
variable {l : Launch} {D : va_G} {cI cG : ClassId} {base b : Nat}
theorem CTOK_X5_hasMove : CTOK l (rmd 1) D cI cG base b RX5 CT0 := by
  exact CTOK0
theorem MET_X5_hasMove (A : AL) (σ : SG) (as : List Value) (post : SG → Int32 → Prop) (h : IN_X5_hasMove A σ as post) : MI l D cI cG base b yX5_hasMove cX5_hasMove 3 (some .boolean) (rmd 1) A σ as post := MZ_of lkb_X5_hasMove.2.2.2.2 h.2.1 ⟨rfl, rfl, by decide, by decide⟩ CTOK_X5_hasMove h.2.2
end MC_X5_hasMove
section MC_X0_allAbove
variable {l : Launch} {D : va_G} {cI cG : ClassId} {base b : Nat}
theorem CTOK_X0_allAbove : CTOK l (rmd 2) D cI cG base b RX0 CT_X0_allAbove := by
  refine ⟨?_, ?_, ?_, ?_⟩
  · intro idx A σ as post h
    rcases h with ⟨h1, h2, h⟩ | ⟨h1, h2, h⟩ | ⟨h1, h2, h⟩
    · exact absurd h1 (by decide)
    · exact absurd h1 (by decide)
    · exact absurd h1 (by decide)
  · intro idx A σ as post h
    rcases h with ⟨h1, h2, h⟩ | ⟨h1, h2, h⟩ | ⟨h1, h2, h⟩
    · exact absurd h1 (by decide)
    · exact absurd h1 (by decide)
    · exact absurd h1 (by decide)
  · intro idx k A σ as post h
    rcases h with ⟨h1, h2, h⟩ | ⟨h1, h2, h⟩ | ⟨h1, h2, h⟩
    · subst h2
      obtain ⟨k9, as9, e9, hlen, hk1, hk2, hk3⟩ := h.1
      cases e9
      exact ⟨yX5_hasMove, cX5_hasMove, 3, (some .boolean), (rmd 1), by rw [hlen]; exact lkb_X5_hasMove, lnk_X0_45, vir_X5_hasMove hk1 hk2 hk3, rfl, rfl, ⟨by decide, by decide⟩, MET_X5_hasMove _ _ _ _ h⟩
    · subst h2
      obtain ⟨k9, as9, e9, hlen, hk1, hk2, hk3⟩ := h.1
      cases e9
      exact ⟨yX5_ahead, cX5_ahead, 3, (some .int), (rmd 1), by rw [hlen]; exact lkb_X5_ahead, lnk_X0_36, vir_X5_ahead hk1 hk2 hk3, rfl, rfl, ⟨by decide, by decide⟩, MET_X5_ahead _ _ _ _ h⟩
    · subst h2
      obtain ⟨k9, as9, e9, hlen, hk1, hk2, hk3⟩ := h.1
      cases e9
      exact ⟨yX2_takes, cX2_takes, 4, (some .int), (rmd 1), by rw [hlen]; exact lkb_X2_takes, lnk_X0_40, vir_X2_takes hk1 hk2 hk3, rfl, rfl, ⟨by decide, by decide⟩, MET_X2_takes _ _ _ _ h⟩
  · intro idx k A σ as post h
    rcases h with ⟨h1, h2, h⟩ | ⟨h1, h2, h⟩ | ⟨h1, h2, h⟩
    · exact absurd h1 (by decide)
    · exact absurd h1 (by decide)
    · exact absurd h1 (by decide)
theorem MET_X0_allAbove (A : AL) (σ : SG) (as : List Value) (post : SG → Int32 → Prop) (h : IN_X0_allAbove A σ as post) : MI l D cI cG base b yX0_allAbove cX0_allAbove 5 (some .int) (rmd 2) A σ as post := MI_of rfl lkb_X0_allAbove.2.2.2.2 h.2.1 ⟨rfl, rfl, by decide, by decide⟩ CTOK_X0_allAbove h.2.2
end MC_X0_allAbove
section MC_X1_look
variable {l : Launch} {D : va_G} {cI cG : ClassId} {base b : Nat}
theorem CTOK_X1_look : CTOK l (rmd 1) D cI cG base b RX1 CT0 := by
  exact CTOK0
theorem MET_X1_look (A : AL) (σ : SG) (as : List Value) (post : SG → Int32 → Prop) (h : IN_X1_look A σ as post) : MV l D cI cG base b yX1_look cX1_look 3 (rmd 1) A σ as post := MV_of lkb_X1_look.2.2.2.2 h.2.1 ⟨rfl, rfl, by decide, by decide⟩ CTOK_X1_look h.2.2
end MC_X1_look
section MC_X1_search
variable {l : Launch} {D : va_G} {cI cG : ClassId} {base b : Nat}
theorem IN_X1_search_len : ∀ {d : Nat} {A : AL} {σ : SG} {as : List Value} {post : SG → Int32 → Prop}, IN_X1_search d A σ as post → as.length = 4
  | 0, _, _, _, _, h => h.elim
  | _ + 1, _, _, _, _, h => h.1
theorem CTOK_X1_search (d : Nat) (ih : ∀ (A : AL) (σ : SG) (as : List Value) (post : SG → Int32 → Prop), IN_X1_search d A σ as post → MV l D cI cG base b yX1_search cX1_search 7 (rmd (2 + d)) A σ as post) : CTOK l (rmd (2 + (d + 1))) D cI cG base b RX1 (CT_X1_search d) := by
  refine ⟨?_, ?_, ?_, ?_⟩
  · intro idx A σ as post h
    rcases h with ⟨h1, h2, h⟩ | ⟨h1, h2, h⟩ | ⟨h1, h2, h⟩
    · exact absurd h1 (by decide)
    · exact absurd h1 (by decide)
    · exact absurd h1 (by decide)
  · intro idx A σ as post h
    rcases h with ⟨h1, h2, h⟩ | ⟨h1, h2, h⟩ | ⟨h1, h2, h⟩
    · exact absurd h1 (by decide)
    · exact absurd h1 (by decide)
    · subst h2
      have hlen := IN_X1_search_len h
      exact ⟨yX1_search, cX1_search, 7, (rmd (2 + d)), by rw [hlen]; exact lkb_X1_search, lnk_X1_45, sta_X1_search, rfl, rfl, ⟨by show 2 + d + 1 ≤ 2 + (d + 1); omega, by show 8 + (7 + 11) + 100 * (2 + d) ≤ 100 * (2 + (d + 1)); omega⟩, ih _ _ _ _ h⟩
  · intro idx k A σ as post h
    rcases h with ⟨h1, h2, h⟩ | ⟨h1, h2, h⟩ | ⟨h1, h2, h⟩
    · exact absurd h1 (by decide)
    · subst h2
      obtain ⟨k9, as9, e9, hlen, hk1, hk2, hk3⟩ := h.1
      cases e9
      exact ⟨yX2_takes, cX2_takes, 4, (some .int), (rmd 1), by rw [hlen]; exact lkb_X2_takes, lnk_X1_74, vir_X2_takes hk1 hk2 hk3, rfl, rfl, ⟨by show 1 + 1 ≤ 2 + (d + 1); omega, by show 8 + (4 + 11) + 100 * 1 ≤ 100 * (2 + (d + 1)); omega⟩, MET_X2_takes _ _ _ _ h⟩
    · exact absurd h1 (by decide)
  · intro idx k A σ as post h
    rcases h with ⟨h1, h2, h⟩ | ⟨h1, h2, h⟩ | ⟨h1, h2, h⟩
    · subst h2
      obtain ⟨k9, as9, e9, hlen, hk1, hk2, hk3⟩ := h.1
      cases e9
      exact ⟨yX1_look, cX1_look, 3, (rmd 1), by rw [hlen]; exact lkb_X1_look, lnk_X1_58, vir_X1_look hk1 hk2 hk3, rfl, rfl, ⟨by show 1 + 1 ≤ 2 + (d + 1); omega, by show 8 + (3 + 11) + 100 * 1 ≤ 100 * (2 + (d + 1)); omega⟩, MET_X1_look _ _ _ _ h⟩
    · exact absurd h1 (by decide)
    · exact absurd h1 (by decide)
theorem MET_X1_search : ∀ (d : Nat) (A : AL) (σ : SG) (as : List Value) (post : SG → Int32 → Prop), IN_X1_search d A σ as post → MV l D cI cG base b yX1_search cX1_search 7 (rmd (2 + d)) A σ as post
  | 0, _, _, _, _, h => h.elim
  | d + 1, A, σ, as, post, h => MV_of lkb_X1_search.2.2.2.2 h.2.1 ⟨rfl, rfl, by show 1 ≤ 2 + (d + 1); omega, by show 100 ≤ 100 * (2 + (d + 1)); omega⟩ (CTOK_X1_search d (MET_X1_search d)) h.2.2
end MC_X1_search
section MC_X1_leastTime
variable {l : Launch} {D : va_G} {cI cG : ClassId} {base b : Nat}
theorem CTOK_X1_leastTime : CTOK l (rmd 10) D cI cG base b RX1 CT_X1_leastTime := by
  refine ⟨?_, ?_, ?_, ?_⟩
  · intro idx A σ as post h
    rcases h with ⟨h1, h2, h⟩
    · exact absurd h1 (by decide)
  · intro idx A σ as post h
    rcases h with ⟨h1, h2, h⟩
    · subst h2
      have hlen := IN_X1_search_len h
      exact ⟨yX1_search, cX1_search, 7, (rmd (2 + 7)), by rw [hlen]; exact lkb_X1_search, lnk_X1_45, sta_X1_search, rfl, rfl, ⟨by decide, by decide⟩, MET_X1_search 7 _ _ _ _ h⟩
  · intro idx k A σ as post h
    rcases h with ⟨h1, h2, h⟩
    · exact absurd h1 (by decide)
  · intro idx k A σ as post h
    rcases h with ⟨h1, h2, h⟩
    · exact absurd h1 (by decide)
theorem MET_X1_leastTime (A : AL) (σ : SG) (as : List Value) (post : SG → Int32 → Prop) (h : IN_X1_leastTime A σ as post) : MI l D cI cG base b yX1_leastTime cX1_leastTime 3 (some .int) (rmd 10) A σ as post := MI_of rfl lkb_X1_leastTime.2.2.2.2 h.2.1 ⟨rfl, rfl, by decide, by decide⟩ CTOK_X1_leastTime h.2.2
end MC_X1_leastTime
section MC_X2_forget
variable {l : Launch} {D : va_G} {cI cG : ClassId} {base b : Nat}
theorem CTOK_X2_forget : CTOK l (rmd 1) D cI cG base b RX2 CT0 := by
  exact CTOK0
theorem MET_X2_forget (A : AL) (σ : SG) (as : List Value) (post : SG → Int32 → Prop) (h : IN_X2_forget A σ as post) : MV l D cI cG base b yX2_forget cX2_forget 3 (rmd 1) A σ as post := MV_of lkb_X2_forget.2.2.2.2 h.2.1 ⟨rfl, rfl, by decide, by decide⟩ CTOK_X2_forget h.2.2
end MC_X2_forget
section MC_X2_copy
variable {l : Launch} {D : va_G} {cI cG : ClassId} {base b : Nat}
theorem CTOK_X2_copy : CTOK l (rmd 1) D cI cG base b RX2 CT0 := by
  exact CTOK0
theorem MET_X2_copy (A : AL) (σ : SG) (as : List Value) (post : SG → Int32 → Prop) (h : IN_X2_copy A σ as post) : MV l D cI cG base b yX2_copy cX2_copy 3 (rmd 1) A σ as post := MV_of lkb_X2_copy.2.2.2.2 h.2.1 ⟨rfl, rfl, by decide, by decide⟩ CTOK_X2_copy h.2.2
end MC_X2_copy
section MC_X2_rowTime
variable {l : Launch} {D : va_G} {cI cG : ClassId} {base b : Nat}
theorem CTOK_X2_rowTime : CTOK l (rmd 2) D cI cG base b RX2 CT_X2_rowTime := by
  refine ⟨?_, ?_, ?_, ?_⟩
  · intro idx A σ as post h
    rcases h with ⟨h1, h2, h⟩ | ⟨h1, h2, h⟩
    · exact absurd h1 (by decide)
    · exact absurd h1 (by decide)
  · intro idx A σ as post h
    rcases h with ⟨h1, h2, h⟩ | ⟨h1, h2, h⟩
    · exact absurd h1 (by decide)
    · exact absurd h1 (by decide)
  · intro idx k A σ as post h
    rcases h with ⟨h1, h2, h⟩ | ⟨h1, h2, h⟩
    · subst h2
      obtain ⟨k9, as9, e9, hlen, hk1, hk2, hk3⟩ := h.1
      cases e9
      exact ⟨yX5_ahead, cX5_ahead, 3, (some .int), (rmd 1), by rw [hlen]; exact lkb_X5_ahead, lnk_X2_47, vir_X5_ahead hk1 hk2 hk3, rfl, rfl, ⟨by decide, by decide⟩, MET_X5_ahead _ _ _ _ h⟩
    · subst h2
      obtain ⟨k9, as9, e9, hlen, hk1, hk2, hk3⟩ := h.1
      cases e9
      exact ⟨yX2_takes, cX2_takes, 4, (some .int), (rmd 1), by rw [hlen]; exact lkb_X2_takes, lnk_X2_50, vir_X2_takes hk1 hk2 hk3, rfl, rfl, ⟨by decide, by decide⟩, MET_X2_takes _ _ _ _ h⟩
  · intro idx k A σ as post h
    rcases h with ⟨h1, h2, h⟩ | ⟨h1, h2, h⟩
    · exact absurd h1 (by decide)
    · exact absurd h1 (by decide)
theorem MET_X2_rowTime (A : AL) (σ : SG) (as : List Value) (post : SG → Int32 → Prop) (h : IN_X2_rowTime A σ as post) : MI l D cI cG base b yX2_rowTime cX2_rowTime 5 (some .int) (rmd 2) A σ as post := MI_of rfl lkb_X2_rowTime.2.2.2.2 h.2.1 ⟨rfl, rfl, by decide, by decide⟩ CTOK_X2_rowTime h.2.2
end MC_X2_rowTime
section MC_X2_kindOf
variable {l : Launch} {D : va_G} {cI cG : ClassId} {base b : Nat}
theorem CTOK_X2_kindOf : CTOK l (rmd 1) D cI cG base b RX2 CT0 := by
  exact CTOK0
theorem MET_X2_kindOf (A : AL) (σ : SG) (as : List Value) (post : SG → Int32 → Prop) (h : IN_X2_kindOf A σ as post) : MI l D cI cG base b yX2_kindOf cX2_kindOf 4 (some .int) (rmd 1) A σ as post := MI_of rfl lkb_X2_kindOf.2.2.2.2 h.2.1 ⟨rfl, rfl, by decide, by decide⟩ CTOK_X2_kindOf h.2.2
end MC_X2_kindOf
section MC_X2_locksDrawn
variable {l : Launch} {D : va_G} {cI cG : ClassId} {base b : Nat}
theorem CTOK_X2_locksDrawn : CTOK l (rmd 1) D cI cG base b RX2 CT0 := by
  exact CTOK0
theorem MET_X2_locksDrawn (A : AL) (σ : SG) (as : List Value) (post : SG → Int32 → Prop) (h : IN_X2_locksDrawn A σ as post) : MI l D cI cG base b yX2_locksDrawn cX2_locksDrawn 6 (some .int) (rmd 1) A σ as post := MI_of rfl lkb_X2_locksDrawn.2.2.2.2 h.2.1 ⟨rfl, rfl, by decide, by decide⟩ CTOK_X2_locksDrawn h.2.2
end MC_X2_locksDrawn
section MC_X4_nthOf
variable {l : Launch} {D : va_G} {cI cG : ClassId} {base b : Nat}
theorem CTOK_X4_nthOf : CTOK l (rmd 1) D cI cG base b RX4 CT0 := by
  exact CTOK0
theorem MET_X4_nthOf (A : AL) (σ : SG) (as : List Value) (post : SG → Int32 → Prop) (h : IN_X4_nthOf A σ as post) : MI l D cI cG base b yX4_nthOf cX4_nthOf 4 (some .int) (rmd 1) A σ as post := MI_of rfl lkb_X4_nthOf.2.2.2.2 h.2.1 ⟨rfl, rfl, by decide, by decide⟩ CTOK_X4_nthOf h.2.2
end MC_X4_nthOf
section MC_X4_layOut
variable {l : Launch} {D : va_G} {cI cG : ClassId} {base b : Nat}
theorem CTOK_X4_layOut : CTOK l (rmd 2) D cI cG base b RX4 CT_X4_layOut := by
  refine ⟨?_, ?_, ?_, ?_⟩
  · intro idx A σ as post h
    rcases h with ⟨h1, h2, h⟩
    · subst h2
      have hlen := h.1
      exact ⟨yX4_nthOf, cX4_nthOf, 4, (some .int), (rmd 1), by rw [hlen]; exact lkb_X4_nthOf, lnk_X4_31, sta_X4_nthOf, rfl, rfl, ⟨by decide, by decide⟩, MET_X4_nthOf _ _ _ _ h⟩
  · intro idx A σ as post h
    rcases h with ⟨h1, h2, h⟩
    · exact absurd h1 (by decide)
  · intro idx k A σ as post h
    rcases h with ⟨h1, h2, h⟩
    · exact absurd h1 (by decide)
  · intro idx k A σ as post h
    rcases h with ⟨h1, h2, h⟩
    · exact absurd h1 (by decide)
theorem MET_X4_layOut (A : AL) (σ : SG) (as : List Value) (post : SG → Int32 → Prop) (h : IN_X4_layOut A σ as post) : MV l D cI cG base b yX4_layOut cX4_layOut 7 (rmd 2) A σ as post := MV_of lkb_X4_layOut.2.2.2.2 h.2.1 ⟨rfl, rfl, by decide, by decide⟩ CTOK_X4_layOut h.2.2
end MC_X4_layOut
section MC_X4_piece
variable {l : Launch} {D : va_G} {cI cG : ClassId} {base b : Nat}
theorem CTOK_X4_piece : CTOK l (rmd 1) D cI cG base b RX4 CT0 := by
  exact CTOK0
theorem MET_X4_piece (A : AL) (σ : SG) (as : List Value) (post : SG → Int32 → Prop) (h : IN_X4_piece A σ as post) : MI l D cI cG base b yX4_piece cX4_piece 3 (some .int) (rmd 1) A σ as post := MI_of rfl lkb_X4_piece.2.2.2.2 h.2.1 ⟨rfl, rfl, by decide, by decide⟩ CTOK_X4_piece h.2.2
end MC_X4_piece
section MC_J6_bitCount_0f7a4
variable {l : Launch} {D : va_G} {cI cG : ClassId} {base b : Nat}
theorem CTOK_J6_bitCount_0f7a4 : CTOK l (rmd 1) D cI cG base b RJ6 CT0 := by
  exact CTOK0
theorem MET_J6_bitCount_0f7a4 (A : AL) (σ : SG) (as : List Value) (post : SG → Int32 → Prop) (h : IN_J6_bitCount_0f7a4 A σ as post) : MI l D cI cG base b yJ6_bitCount_0f7a4 cJ6_bitCount_0f7a4 1 (some .int) (rmd 1) A σ as post := MI_of rfl lkb_J6_bitCount_0f7a4.2.2.2.2 h.2.1 ⟨rfl, rfl, by decide, by decide⟩ CTOK_J6_bitCount_0f7a4 h.2.2
end MC_J6_bitCount_0f7a4
section MC_X4_numberOf
variable {l : Launch} {D : va_G} {cI cG : ClassId} {base b : Nat}
theorem CTOK_X4_numberOf : CTOK l (rmd 2) D cI cG base b RX4 CT_X4_numberOf := by
  refine ⟨?_, ?_, ?_, ?_⟩
  · intro idx A σ as post h
    rcases h with ⟨h1, h2, h⟩
    · subst h2
      have hlen := h.1
      exact ⟨yJ6_bitCount_0f7a4, cJ6_bitCount_0f7a4, 1, (some .int), (rmd 1), by rw [hlen]; exact lkb_J6_bitCount_0f7a4, lnk_X4_34, sta_J6_bitCount_0f7a4, rfl, rfl, ⟨by decide, by decide⟩, MET_J6_bitCount_0f7a4 _ _ _ _ h⟩
  · intro idx A σ as post h
    rcases h with ⟨h1, h2, h⟩
    · exact absurd h1 (by decide)
  · intro idx k A σ as post h
    rcases h with ⟨h1, h2, h⟩
    · exact absurd h1 (by decide)
  · intro idx k A σ as post h
    rcases h with ⟨h1, h2, h⟩
    · exact absurd h1 (by decide)
theorem MET_X4_numberOf (A : AL) (σ : SG) (as : List Value) (post : SG → Int32 → Prop) (h : IN_X4_numberOf A σ as post) : MI l D cI cG base b yX4_numberOf cX4_numberOf 6 (some .int) (rmd 2) A σ as post := MI_of rfl lkb_X4_numberOf.2.2.2.2 h.2.1 ⟨rfl, rfl, by decide, by decide⟩ CTOK_X4_numberOf h.2.2
end MC_X4_numberOf
section MC_X4_moved
variable {l : Launch} {D : va_G} {cI cG : ClassId} {base b : Nat}
theorem CTOK_X4_moved : CTOK l (rmd 3) D cI cG base b RX4 CT_X4_moved := by
  refine ⟨?_, ?_, ?_, ?_⟩
  · intro idx A σ as post h
    rcases h with ⟨h1, h2, h⟩ | ⟨h1, h2, h⟩
    · exact absurd h1 (by decide)
    · exact absurd h1 (by decide)
  · intro idx A σ as post h
    rcases h with ⟨h1, h2, h⟩ | ⟨h1, h2, h⟩
    · exact absurd h1 (by decide)
    · exact absurd h1 (by decide)
  · intro idx k A σ as post h
    rcases h with ⟨h1, h2, h⟩ | ⟨h1, h2, h⟩
    · subst h2
      obtain ⟨k9, as9, e9, hlen, hk1, hk2, hk3⟩ := h.1
      cases e9
      exact ⟨yX4_piece, cX4_piece, 3, (some .int), (rmd 1), by rw [hlen]; exact lkb_X4_piece, lnk_X4_40, vir_X4_piece hk1 hk2 hk3, rfl, rfl, ⟨by decide, by decide⟩, MET_X4_piece _ _ _ _ h⟩
    · subst h2
      obtain ⟨k9, as9, e9, hlen, hk1, hk2, hk3⟩ := h.1
      cases e9
      exact ⟨yX4_numberOf, cX4_numberOf, 6, (some .int), (rmd 2), by rw [hlen]; exact lkb_X4_numberOf, lnk_X4_43, vir_X4_numberOf hk1 hk2 hk3, rfl, rfl, ⟨by decide, by decide⟩, MET_X4_numberOf _ _ _ _ h⟩
  · intro idx k A σ as post h
    rcases h with ⟨h1, h2, h⟩ | ⟨h1, h2, h⟩
    · exact absurd h1 (by decide)
    · exact absurd h1 (by decide)
theorem MET_X4_moved (A : AL) (σ : SG) (as : List Value) (post : SG → Int32 → Prop) (h : IN_X4_moved A σ as post) : MI l D cI cG base b yX4_moved cX4_moved 4 (some .int) (rmd 3) A σ as post := MI_of rfl lkb_X4_moved.2.2.2.2 h.2.1 ⟨rfl, rfl, by decide, by decide⟩ CTOK_X4_moved h.2.2
end MC_X4_moved
section MC_X5_has
variable {l : Launch} {D : va_G} {cI cG : ClassId} {base b : Nat}
theorem CTOK_X5_has : CTOK l (rmd 1) D cI cG base b RX5 CT0 := by
  exact CTOK0
theorem MET_X5_has (A : AL) (σ : SG) (as : List Value) (post : SG → Int32 → Prop) (h : IN_X5_has A σ as post) : MI l D cI cG base b yX5_has cX5_has 2 (some .boolean) (rmd 1) A σ as post := MZ_of lkb_X5_has.2.2.2.2 h.2.1 ⟨rfl, rfl, by decide, by decide⟩ CTOK_X5_has h.2.2
end MC_X5_has
section MC_X5_takeRead
variable {l : Launch} {D : va_G} {cI cG : ClassId} {base b : Nat}
theorem CTOK_X5_takeRead : CTOK l (rmd 1) D cI cG base b RX5 CT0 := by
  exact CTOK0
theorem MET_X5_takeRead (A : AL) (σ : SG) (as : List Value) (post : SG → Int32 → Prop) (h : IN_X5_takeRead A σ as post) : MV l D cI cG base b yX5_takeRead cX5_takeRead 5 (rmd 1) A σ as post := MV_of lkb_X5_takeRead.2.2.2.2 h.2.1 ⟨rfl, rfl, by decide, by decide⟩ CTOK_X5_takeRead h.2.2
end MC_X5_takeRead
section MC_X5_goal
variable {l : Launch} {D : va_G} {cI cG : ClassId} {base b : Nat}
theorem CTOK_X5_goal : CTOK l (rmd 1) D cI cG base b RX5 CT0 := by
  exact CTOK0
theorem MET_X5_goal (A : AL) (σ : SG) (as : List Value) (post : SG → Int32 → Prop) (h : IN_X5_goal A σ as post) : MI l D cI cG base b yX5_goal cX5_goal 5 (some .int) (rmd 1) A σ as post := MI_of rfl lkb_X5_goal.2.2.2.2 h.2.1 ⟨rfl, rfl, by decide, by decide⟩ CTOK_X5_goal h.2.2
end MC_X5_goal
section MC_X5_solvedFrom
variable {l : Launch} {D : va_G} {cI cG : ClassId} {base b : Nat}
theorem CTOK_X5_solvedFrom : CTOK l (rmd 3) D cI cG base b RX5 CT_X5_solvedFrom := by
  refine ⟨?_, ?_, ?_, ?_⟩
  · intro idx A σ as post h
    rcases h with ⟨h1, h2, h⟩ | ⟨h1, h2, h⟩
    · exact absurd h1 (by decide)
    · exact absurd h1 (by decide)
  · intro idx A σ as post h
    rcases h with ⟨h1, h2, h⟩ | ⟨h1, h2, h⟩
    · exact absurd h1 (by decide)
    · exact absurd h1 (by decide)
  · intro idx k A σ as post h
    rcases h with ⟨h1, h2, h⟩ | ⟨h1, h2, h⟩
    · subst h2
      obtain ⟨k9, as9, e9, hlen, hk1, hk2, hk3⟩ := h.1
      cases e9
      exact ⟨yX5_goal, cX5_goal, 5, (some .int), (rmd 1), by rw [hlen]; exact lkb_X5_goal, lnk_X5_46, vir_X5_goal hk1 hk2 hk3, rfl, rfl, ⟨by decide, by decide⟩, MET_X5_goal _ _ _ _ h⟩
    · subst h2
      obtain ⟨k9, as9, e9, hlen, hk1, hk2, hk3⟩ := h.1
      cases e9
      exact ⟨yX4_numberOf, cX4_numberOf, 6, (some .int), (rmd 2), by rw [hlen]; exact lkb_X4_numberOf, lnk_X5_50, vir_X4_numberOf hk1 hk2 hk3, rfl, rfl, ⟨by decide, by decide⟩, MET_X4_numberOf _ _ _ _ h⟩
  · intro idx k A σ as post h
    rcases h with ⟨h1, h2, h⟩ | ⟨h1, h2, h⟩
    · exact absurd h1 (by decide)
    · exact absurd h1 (by decide)
theorem MET_X5_solvedFrom (A : AL) (σ : SG) (as : List Value) (post : SG → Int32 → Prop) (h : IN_X5_solvedFrom A σ as post) : MI l D cI cG base b yX5_solvedFrom cX5_solvedFrom 3 (some .int) (rmd 3) A σ as post := MI_of rfl lkb_X5_solvedFrom.2.2.2.2 h.2.1 ⟨rfl, rfl, by decide, by decide⟩ CTOK_X5_solvedFrom h.2.2
end MC_X5_solvedFrom
section MC_X6_add
variable {l : Launch} {D : va_G} {cI cG : ClassId} {base b : Nat}
theorem CTOK_X6_add : CTOK l (rmd 1) D cI cG base b RX6 CT0 := by
  exact CTOK0
theorem MET_X6_add (A : AL) (σ : SG) (as : List Value) (post : SG → Int32 → Prop) (h : IN_X6_add A σ as post) : MV l D cI cG base b yX6_add cX6_add 5 (rmd 1) A σ as post := MV_of lkb_X6_add.2.2.2.2 h.2.1 ⟨rfl, rfl, by decide, by decide⟩ CTOK_X6_add h.2.2
end MC_X6_add
section MC_X11_isPlace
variable {l : Launch} {D : va_G} {cI cG : ClassId} {base b : Nat}
theorem CTOK_X11_isPlace : CTOK l (rmd 1) D cI cG base b RX11 CT0 := by
  exact CTOK0
theorem MET_X11_isPlace (A : AL) (σ : SG) (as : List Value) (post : SG → Int32 → Prop) (h : IN_X11_isPlace A σ as post) : MI l D cI cG base b yX11_isPlace cX11_isPlace 1 (some .boolean) (rmd 1) A σ as post := MZ_of lkb_X11_isPlace.2.2.2.2 h.2.1 ⟨rfl, rfl, by decide, by decide⟩ CTOK_X11_isPlace h.2.2
end MC_X11_isPlace
section MC_X6_readTurn
variable {l : Launch} {D : va_G} {cI cG : ClassId} {base b : Nat}
theorem CTOK_X6_readTurn : CTOK l (rmd 2) D cI cG base b RX6 CT_X6_readTurn := by
  refine ⟨?_, ?_, ?_, ?_⟩
  · intro idx A σ as post h
    rcases h with ⟨h1, h2, h⟩
    · subst h2
      have hlen := h.1
      exact ⟨yX11_isPlace, cX11_isPlace, 1, (some .boolean), (rmd 1), by rw [hlen]; exact lkb_X11_isPlace, lnk_X6_21, sta_X11_isPlace, rfl, rfl, ⟨by decide, by decide⟩, MET_X11_isPlace _ _ _ _ h⟩
  · intro idx A σ as post h
    rcases h with ⟨h1, h2, h⟩
    · exact absurd h1 (by decide)
  · intro idx k A σ as post h
    rcases h with ⟨h1, h2, h⟩
    · exact absurd h1 (by decide)
  · intro idx k A σ as post h
    rcases h with ⟨h1, h2, h⟩
    · exact absurd h1 (by decide)
theorem MET_X6_readTurn (A : AL) (σ : SG) (as : List Value) (post : SG → Int32 → Prop) (h : IN_X6_readTurn A σ as post) : MI l D cI cG base b yX6_readTurn cX6_readTurn 9 (some .int) (rmd 2) A σ as post := MI_of rfl lkb_X6_readTurn.2.2.2.2 h.2.1 ⟨rfl, rfl, by decide, by decide⟩ CTOK_X6_readTurn h.2.2
end MC_X6_readTurn
section MC_X6_readRow
variable {l : Launch} {D : va_G} {cI cG : ClassId} {base b : Nat}
theorem CTOK_X6_readRow : CTOK l (rmd 1) D cI cG base b RX6 CT0 := by
  exact CTOK0
theorem MET_X6_readRow (A : AL) (σ : SG) (as : List Value) (post : SG → Int32 → Prop) (h : IN_X6_readRow A σ as post) : MI l D cI cG base b yX6_readRow cX6_readRow 5 (some .int) (rmd 1) A σ as post := MI_of rfl lkb_X6_readRow.2.2.2.2 h.2.1 ⟨rfl, rfl, by decide, by decide⟩ CTOK_X6_readRow h.2.2
end MC_X6_readRow
section MC_X7_add
variable {l : Launch} {D : va_G} {cI cG : ClassId} {base b : Nat}
theorem CTOK_X7_add : CTOK l (rmd 1) D cI cG base b RX7 CT0 := by
  exact CTOK0
theorem MET_X7_add (A : AL) (σ : SG) (as : List Value) (post : SG → Int32 → Prop) (h : IN_X7_add A σ as post) : MV l D cI cG base b yX7_add cX7_add 3 (rmd 1) A σ as post := MV_of lkb_X7_add.2.2.2.2 h.2.1 ⟨rfl, rfl, by decide, by decide⟩ CTOK_X7_add h.2.2
end MC_X7_add
section MC_X7_middleThree
variable {l : Launch} {D : va_G} {cI cG : ClassId} {base b : Nat}
theorem CTOK_X7_middleThree : CTOK l (rmd 1) D cI cG base b RX7 CT0 := by
  exact CTOK0
theorem MET_X7_middleThree (A : AL) (σ : SG) (as : List Value) (post : SG → Int32 → Prop) (h : IN_X7_middleThree A σ as post) : MI l D cI cG base b yX7_middleThree cX7_middleThree 1 (some .int) (rmd 1) A σ as post := MI_of rfl lkb_X7_middleThree.2.2.2.2 h.2.1 ⟨rfl, rfl, by decide, by decide⟩ CTOK_X7_middleThree h.2.2
end MC_X7_middleThree
section MC_X7_greatestFifth
variable {l : Launch} {D : va_G} {cI cG : ClassId} {base b : Nat}
theorem CTOK_X7_greatestFifth : CTOK l (rmd 1) D cI cG base b RX7 CT0 := by
  exact CTOK0
theorem MET_X7_greatestFifth (A : AL) (σ : SG) (as : List Value) (post : SG → Int32 → Prop) (h : IN_X7_greatestFifth A σ as post) : MI l D cI cG base b yX7_greatestFifth cX7_greatestFifth 3 (some .int) (rmd 1) A σ as post := MI_of rfl lkb_X7_greatestFifth.2.2.2.2 h.2.1 ⟨rfl, rfl, by decide, by decide⟩ CTOK_X7_greatestFifth h.2.2
end MC_X7_greatestFifth
section MC_X8_begin
variable {l : Launch} {D : va_G} {cI cG : ClassId} {base b : Nat}
theorem CTOK_X8_begin : CTOK l (rmd 1) D cI cG base b RX8 CT0 := by
  exact CTOK0
theorem MET_X8_begin (A : AL) (σ : SG) (as : List Value) (post : SG → Int32 → Prop) (h : IN_X8_begin A σ as post) : MV l D cI cG base b yX8_begin cX8_begin 2 (rmd 1) A σ as post := MV_of lkb_X8_begin.2.2.2.2 h.2.1 ⟨rfl, rfl, by decide, by decide⟩ CTOK_X8_begin h.2.2
end MC_X8_begin
section MC_X8_solved
variable {l : Launch} {D : va_G} {cI cG : ClassId} {base b : Nat}
theorem CTOK_X8_solved : CTOK l (rmd 1) D cI cG base b RX8 CT0 := by
  exact CTOK0
theorem MET_X8_solved (A : AL) (σ : SG) (as : List Value) (post : SG → Int32 → Prop) (h : IN_X8_solved A σ as post) : MI l D cI cG base b yX8_solved cX8_solved 1 (some .boolean) (rmd 1) A σ as post := MZ_of lkb_X8_solved.2.2.2.2 h.2.1 ⟨rfl, rfl, by decide, by decide⟩ CTOK_X8_solved h.2.2
end MC_X8_solved
section MC_X8_comesTo
variable {l : Launch} {D : va_G} {cI cG : ClassId} {base b : Nat}
theorem CTOK_X8_comesTo : CTOK l (rmd 1) D cI cG base b RX8 CT0 := by
  exact CTOK0
theorem MET_X8_comesTo (A : AL) (σ : SG) (as : List Value) (post : SG → Int32 → Prop) (h : IN_X8_comesTo A σ as post) : MI l D cI cG base b yX8_comesTo cX8_comesTo 2 (some .boolean) (rmd 1) A σ as post := MZ_of lkb_X8_comesTo.2.2.2.2 h.2.1 ⟨rfl, rfl, by decide, by decide⟩ CTOK_X8_comesTo h.2.2
end MC_X8_comesTo
section MC_X8_needsNone
variable {l : Launch} {D : va_G} {cI cG : ClassId} {base b : Nat}
theorem CTOK_X8_needsNone : CTOK l (rmd 1) D cI cG base b RX8 CT0 := by
  exact CTOK0
theorem MET_X8_needsNone (A : AL) (σ : SG) (as : List Value) (post : SG → Int32 → Prop) (h : IN_X8_needsNone A σ as post) : MI l D cI cG base b yX8_needsNone cX8_needsNone 2 (some .boolean) (rmd 1) A σ as post := MZ_of lkb_X8_needsNone.2.2.2.2 h.2.1 ⟨rfl, rfl, by decide, by decide⟩ CTOK_X8_needsNone h.2.2
end MC_X8_needsNone
section MC_X9_has
variable {l : Launch} {D : va_G} {cI cG : ClassId} {base b : Nat}
theorem CTOK_X9_has : CTOK l (rmd 1) D cI cG base b RX9 CT0 := by
  exact CTOK0
theorem MET_X9_has (A : AL) (σ : SG) (as : List Value) (post : SG → Int32 → Prop) (h : IN_X9_has A σ as post) : MI l D cI cG base b yX9_has cX9_has 2 (some .boolean) (rmd 1) A σ as post := MZ_of lkb_X9_has.2.2.2.2 h.2.1 ⟨rfl, rfl, by decide, by decide⟩ CTOK_X9_has h.2.2
end MC_X9_has
section MC_X9_hasMove
variable {l : Launch} {D : va_G} {cI cG : ClassId} {base b : Nat}
theorem CTOK_X9_hasMove : CTOK l (rmd 1) D cI cG base b RX9 CT0 := by
  exact CTOK0
theorem MET_X9_hasMove (A : AL) (σ : SG) (as : List Value) (post : SG → Int32 → Prop) (h : IN_X9_hasMove A σ as post) : MI l D cI cG base b yX9_hasMove cX9_hasMove 2 (some .boolean) (rmd 1) A σ as post := MZ_of lkb_X9_hasMove.2.2.2.2 h.2.1 ⟨rfl, rfl, by decide, by decide⟩ CTOK_X9_hasMove h.2.2
end MC_X9_hasMove
section MC_X9_measure
variable {l : Launch} {D : va_G} {cI cG : ClassId} {base b : Nat}
theorem CTOK_X9_measure : CTOK l (rmd 1) D cI cG base b RX9 CT0 := by
  exact CTOK0
theorem MET_X9_measure (A : AL) (σ : SG) (as : List Value) (post : SG → Int32 → Prop) (h : IN_X9_measure A σ as post) : MV l D cI cG base b yX9_measure cX9_measure 6 (rmd 1) A σ as post := MV_of lkb_X9_measure.2.2.2.2 h.2.1 ⟨rfl, rfl, by decide, by decide⟩ CTOK_X9_measure h.2.2
end MC_X9_measure
section MC_X9_takeRead
variable {l : Launch} {D : va_G} {cI cG : ClassId} {base b : Nat}
theorem CTOK_X9_takeRead : CTOK l (rmd 4) D cI cG base b RX9 CT_X9_takeRead := by
  refine ⟨?_, ?_, ?_, ?_⟩
  · intro idx A σ as post h
    rcases h with ⟨h1, h2, h⟩ | ⟨h1, h2, h⟩
    · exact absurd h1 (by decide)
    · exact absurd h1 (by decide)
  · intro idx A σ as post h
    rcases h with ⟨h1, h2, h⟩ | ⟨h1, h2, h⟩
    · exact absurd h1 (by decide)
    · exact absurd h1 (by decide)
  · intro idx k A σ as post h
    rcases h with ⟨h1, h2, h⟩ | ⟨h1, h2, h⟩
    · subst h2
      obtain ⟨k9, as9, e9, hlen, hk1, hk2, hk3⟩ := h.1
      cases e9
      exact ⟨yX4_moved, cX4_moved, 4, (some .int), (rmd 3), by rw [hlen]; exact lkb_X4_moved, lnk_X9_37, vir_X4_moved hk1 hk2 hk3, rfl, rfl, ⟨by decide, by decide⟩, MET_X4_moved _ _ _ _ h⟩
    · exact absurd h1 (by decide)
  · intro idx k A σ as post h
    rcases h with ⟨h1, h2, h⟩ | ⟨h1, h2, h⟩
    · exact absurd h1 (by decide)
    · subst h2
      obtain ⟨k9, as9, e9, hlen, hk1, hk2, hk3⟩ := h.1
      cases e9
      exact ⟨yX9_measure, cX9_measure, 6, (rmd 1), by rw [hlen]; exact lkb_X9_measure, lnk_X9_30, vir_X9_measure hk1 hk2 hk3, rfl, rfl, ⟨by decide, by decide⟩, MET_X9_measure _ _ _ _ h⟩
theorem MET_X9_takeRead (A : AL) (σ : SG) (as : List Value) (post : SG → Int32 → Prop) (h : IN_X9_takeRead A σ as post) : MV l D cI cG base b yX9_takeRead cX9_takeRead 5 (rmd 4) A σ as post := MV_of lkb_X9_takeRead.2.2.2.2 h.2.1 ⟨rfl, rfl, by decide, by decide⟩ CTOK_X9_takeRead h.2.2
end MC_X9_takeRead
section MC_X9_goBackTo
variable {l : Launch} {D : va_G} {cI cG : ClassId} {base b : Nat}
theorem CTOK_X9_goBackTo : CTOK l (rmd 2) D cI cG base b RX9 CT_X9_goBackTo := by
  refine ⟨?_, ?_, ?_, ?_⟩
  · intro idx A σ as post h
    rcases h with ⟨h1, h2, h⟩
    · exact absurd h1 (by decide)
  · intro idx A σ as post h
    rcases h with ⟨h1, h2, h⟩
    · exact absurd h1 (by decide)
  · intro idx k A σ as post h
    rcases h with ⟨h1, h2, h⟩
    · exact absurd h1 (by decide)
  · intro idx k A σ as post h
    rcases h with ⟨h1, h2, h⟩
    · subst h2
      obtain ⟨k9, as9, e9, hlen, hk1, hk2, hk3⟩ := h.1
      cases e9
      exact ⟨yX9_measure, cX9_measure, 6, (rmd 1), by rw [hlen]; exact lkb_X9_measure, lnk_X9_30, vir_X9_measure hk1 hk2 hk3, rfl, rfl, ⟨by decide, by decide⟩, MET_X9_measure _ _ _ _ h⟩
theorem MET_X9_goBackTo (A : AL) (σ : SG) (as : List Value) (post : SG → Int32 → Prop) (h : IN_X9_goBackTo A σ as post) : MV l D cI cG base b yX9_goBackTo cX9_goBackTo 2 (rmd 2) A σ as post := MV_of lkb_X9_goBackTo.2.2.2.2 h.2.1 ⟨rfl, rfl, by decide, by decide⟩ CTOK_X9_goBackTo h.2.2
end MC_X9_goBackTo
section MC_X9_firstTowardsSolved
variable {l : Launch} {D : va_G} {cI cG : ClassId} {base b : Nat}
theorem CTOK_X9_firstTowardsSolved : CTOK l (rmd 1) D cI cG base b RX9 CT0 := by
  exact CTOK0
theorem MET_X9_firstTowardsSolved (A : AL) (σ : SG) (as : List Value) (post : SG → Int32 → Prop) (h : IN_X9_firstTowardsSolved A σ as post) : MI l D cI cG base b yX9_firstTowardsSolved cX9_firstTowardsSolved 3 (some .int) (rmd 1) A σ as post := MI_of rfl lkb_X9_firstTowardsSolved.2.2.2.2 h.2.1 ⟨rfl, rfl, by decide, by decide⟩ CTOK_X9_firstTowardsSolved h.2.2
end MC_X9_firstTowardsSolved
section MC_X10_has
variable {l : Launch} {D : va_G} {cI cG : ClassId} {base b : Nat}
theorem CTOK_X10_has : CTOK l (rmd 1) D cI cG base b RX10 CT0 := by
  exact CTOK0
theorem MET_X10_has (A : AL) (σ : SG) (as : List Value) (post : SG → Int32 → Prop) (h : IN_X10_has A σ as post) : MI l D cI cG base b yX10_has cX10_has 2 (some .boolean) (rmd 1) A σ as post := MZ_of lkb_X10_has.2.2.2.2 h.2.1 ⟨rfl, rfl, by decide, by decide⟩ CTOK_X10_has h.2.2
end MC_X10_has
section MC_X10_add
variable {l : Launch} {D : va_G} {cI cG : ClassId} {base b : Nat}
theorem CTOK_X10_add : CTOK l (rmd 1) D cI cG base b RX10 CT0 := by
  exact CTOK0
theorem MET_X10_add (A : AL) (σ : SG) (as : List Value) (post : SG → Int32 → Prop) (h : IN_X10_add A σ as post) : MV l D cI cG base b yX10_add cX10_add 3 (rmd 1) A σ as post := MV_of lkb_X10_add.2.2.2.2 h.2.1 ⟨rfl, rfl, by decide, by decide⟩ CTOK_X10_add h.2.2
end MC_X10_add
section MC_X10_leastRow
variable {l : Launch} {D : va_G} {cI cG : ClassId} {base b : Nat}
theorem CTOK_X10_leastRow : CTOK l (rmd 1) D cI cG base b RX10 CT0 := by
  exact CTOK0
theorem MET_X10_leastRow (A : AL) (σ : SG) (as : List Value) (post : SG → Int32 → Prop) (h : IN_X10_leastRow A σ as post) : MI l D cI cG base b yX10_leastRow cX10_leastRow 5 (some .int) (rmd 1) A σ as post := MI_of rfl lkb_X10_leastRow.2.2.2.2 h.2.1 ⟨rfl, rfl, by decide, by decide⟩ CTOK_X10_leastRow h.2.2
end MC_X10_leastRow
section MC_X10_tryFrom
variable {l : Launch} {D : va_G} {cI cG : ClassId} {base b : Nat}
theorem CTOK_X10_tryFrom : CTOK l (rmd 2) D cI cG base b RX10 CT_X10_tryFrom := by
  refine ⟨?_, ?_, ?_, ?_⟩
  · intro idx A σ as post h
    rcases h with ⟨h1, h2, h⟩ | ⟨h1, h2, h⟩
    · exact absurd h1 (by decide)
    · exact absurd h1 (by decide)
  · intro idx A σ as post h
    rcases h with ⟨h1, h2, h⟩ | ⟨h1, h2, h⟩
    · exact absurd h1 (by decide)
    · exact absurd h1 (by decide)
  · intro idx k A σ as post h
    rcases h with ⟨h1, h2, h⟩ | ⟨h1, h2, h⟩
    · exact absurd h1 (by decide)
    · subst h2
      obtain ⟨k9, as9, e9, hlen, hk1, hk2, hk3⟩ := h.1
      cases e9
      exact ⟨yX10_leastRow, cX10_leastRow, 5, (some .int), (rmd 1), by rw [hlen]; exact lkb_X10_leastRow, lnk_X10_50, vir_X10_leastRow hk1 hk2 hk3, rfl, rfl, ⟨by decide, by decide⟩, MET_X10_leastRow _ _ _ _ h⟩
  · intro idx k A σ as post h
    rcases h with ⟨h1, h2, h⟩ | ⟨h1, h2, h⟩
    · subst h2
      obtain ⟨k9, as9, e9, hlen, hk1, hk2, hk3⟩ := h.1
      cases e9
      exact ⟨yX8_begin, cX8_begin, 2, (rmd 1), by rw [hlen]; exact lkb_X8_begin, lnk_X10_37, vir_X8_begin hk1 hk2 hk3, rfl, rfl, ⟨by decide, by decide⟩, MET_X8_begin _ _ _ _ h⟩
    · exact absurd h1 (by decide)
theorem MET_X10_tryFrom (A : AL) (σ : SG) (as : List Value) (post : SG → Int32 → Prop) (h : IN_X10_tryFrom A σ as post) : MV l D cI cG base b yX10_tryFrom cX10_tryFrom 7 (rmd 2) A σ as post := MV_of lkb_X10_tryFrom.2.2.2.2 h.2.1 ⟨rfl, rfl, by decide, by decide⟩ CTOK_X10_tryFrom h.2.2
end MC_X10_tryFrom
section MC_X10_solved
variable {l : Launch} {D : va_G} {cI cG : ClassId} {base b : Nat}
theorem CTOK_X10_solved : CTOK l (rmd 3) D cI cG base b RX10 CT_X10_solved := by
  refine ⟨?_, ?_, ?_, ?_⟩
  · intro idx A σ as post h
    rcases h with ⟨h1, h2, h⟩ | ⟨h1, h2, h⟩
    · exact absurd h1 (by decide)
    · exact absurd h1 (by decide)
  · intro idx A σ as post h
    rcases h with ⟨h1, h2, h⟩ | ⟨h1, h2, h⟩
    · exact absurd h1 (by decide)
    · exact absurd h1 (by decide)
  · intro idx k A σ as post h
    rcases h with ⟨h1, h2, h⟩ | ⟨h1, h2, h⟩
    · exact absurd h1 (by decide)
    · subst h2
      obtain ⟨k9, as9, e9, hlen, hk1, hk2, hk3⟩ := h.1
      cases e9
      exact ⟨yX8_solved, cX8_solved, 1, (some .boolean), (rmd 1), by rw [hlen]; exact lkb_X8_solved, lnk_X10_71, vir_X8_solved hk1 hk2 hk3, rfl, rfl, ⟨by decide, by decide⟩, MET_X8_solved _ _ _ _ h⟩
  · intro idx k A σ as post h
    rcases h with ⟨h1, h2, h⟩ | ⟨h1, h2, h⟩
    · subst h2
      obtain ⟨k9, as9, e9, hlen, hk1, hk2, hk3⟩ := h.1
      cases e9
      exact ⟨yX10_tryFrom, cX10_tryFrom, 7, (rmd 2), by rw [hlen]; exact lkb_X10_tryFrom, lnk_X10_67, vir_X10_tryFrom hk1 hk2 hk3, rfl, rfl, ⟨by decide, by decide⟩, MET_X10_tryFrom _ _ _ _ h⟩
    · exact absurd h1 (by decide)
theorem MET_X10_solved (A : AL) (σ : SG) (as : List Value) (post : SG → Int32 → Prop) (h : IN_X10_solved A σ as post) : MI l D cI cG base b yX10_solved cX10_solved 4 (some .int) (rmd 3) A σ as post := MI_of rfl lkb_X10_solved.2.2.2.2 h.2.1 ⟨rfl, rfl, by decide, by decide⟩ CTOK_X10_solved h.2.2
end MC_X10_solved
section MC_X10_sumOf
variable {l : Launch} {D : va_G} {cI cG : ClassId} {base b : Nat}
theorem CTOK_X10_sumOf : CTOK l (rmd 3) D cI cG base b RX10 CT_X10_sumOf := by
  refine ⟨?_, ?_, ?_, ?_⟩
  · intro idx A σ as post h
    rcases h with ⟨h1, h2, h⟩
    · exact absurd h1 (by decide)
  · intro idx A σ as post h
    rcases h with ⟨h1, h2, h⟩
    · exact absurd h1 (by decide)
  · intro idx k A σ as post h
    rcases h with ⟨h1, h2, h⟩
    · subst h2
      obtain ⟨k9, as9, e9, hlen, hk1, hk2, hk3⟩ := h.1
      cases e9
      exact ⟨yX2_rowTime, cX2_rowTime, 5, (some .int), (rmd 2), by rw [hlen]; exact lkb_X2_rowTime, lnk_X10_81, vir_X2_rowTime hk1 hk2 hk3, rfl, rfl, ⟨by decide, by decide⟩, MET_X2_rowTime _ _ _ _ h⟩
  · intro idx k A σ as post h
    rcases h with ⟨h1, h2, h⟩
    · exact absurd h1 (by decide)
theorem MET_X10_sumOf (A : AL) (σ : SG) (as : List Value) (post : SG → Int32 → Prop) (h : IN_X10_sumOf A σ as post) : MI l D cI cG base b yX10_sumOf cX10_sumOf 7 (some .int) (rmd 3) A σ as post := MI_of rfl lkb_X10_sumOf.2.2.2.2 h.2.1 ⟨rfl, rfl, by decide, by decide⟩ CTOK_X10_sumOf h.2.2
end MC_X10_sumOf
section MC_X11_outside
variable {l : Launch} {D : va_G} {cI cG : ClassId} {base b : Nat}
theorem CTOK_X11_outside : CTOK l (rmd 1) D cI cG base b RX11 CT0 := by
  exact CTOK0
theorem MET_X11_outside (A : AL) (σ : SG) (as : List Value) (post : SG → Int32 → Prop) (h : IN_X11_outside A σ as post) : MI l D cI cG base b yX11_outside cX11_outside 3 (some .int) (rmd 1) A σ as post := MI_of rfl lkb_X11_outside.2.2.2.2 h.2.1 ⟨rfl, rfl, by decide, by decide⟩ CTOK_X11_outside h.2.2
end MC_X11_outside
section MC_X11_refuse
variable {l : Launch} {D : va_G} {cI cG : ClassId} {base b : Nat}
theorem CTOK_X11_refuse : CTOK l (rmd 1) D cI cG base b RX11 CT0 := by
  exact CTOK0
theorem MET_X11_refuse (A : AL) (σ : SG) (as : List Value) (post : SG → Int32 → Prop) (h : IN_X11_refuse A σ as post) : MI l D cI cG base b yX11_refuse cX11_refuse 3 (some .int) (rmd 1) A σ as post := MI_of rfl lkb_X11_refuse.2.2.2.2 h.2.1 ⟨rfl, rfl, by decide, by decide⟩ CTOK_X11_refuse h.2.2
end MC_X11_refuse
section MC_X11_feed
variable {l : Launch} {D : va_G} {cI cG : ClassId} {base b : Nat}
theorem CTOK_X11_feed : CTOK l (rmd 2) D cI cG base b RX11 CT_X11_feed := by
  refine ⟨?_, ?_, ?_, ?_⟩
  · intro idx A σ as post h
    rcases h with ⟨h1, h2, h⟩ | ⟨h1, h2, h⟩ | ⟨h1, h2, h⟩
    · subst h2
      have hlen := h.1
      exact ⟨yX11_outside, cX11_outside, 3, (some .int), (rmd 1), by rw [hlen]; exact lkb_X11_outside, lnk_X11_104, sta_X11_outside, rfl, rfl, ⟨by decide, by decide⟩, MET_X11_outside _ _ _ _ h⟩
    · exact absurd h1 (by decide)
    · exact absurd h1 (by decide)
  · intro idx A σ as post h
    rcases h with ⟨h1, h2, h⟩ | ⟨h1, h2, h⟩ | ⟨h1, h2, h⟩
    · exact absurd h1 (by decide)
    · exact absurd h1 (by decide)
    · exact absurd h1 (by decide)
  · intro idx k A σ as post h
    rcases h with ⟨h1, h2, h⟩ | ⟨h1, h2, h⟩ | ⟨h1, h2, h⟩
    · exact absurd h1 (by decide)
    · subst h2
      obtain ⟨k9, as9, e9, hlen, hk1, hk2, hk3⟩ := h.1
      cases e9
      exact ⟨yX11_refuse, cX11_refuse, 3, (some .int), (rmd 1), by rw [hlen]; exact lkb_X11_refuse, lnk_X11_108, vir_X11_refuse hk1 hk2 hk3, rfl, rfl, ⟨by decide, by decide⟩, MET_X11_refuse _ _ _ _ h⟩
    · exact absurd h1 (by decide)
  · intro idx k A σ as post h
    rcases h with ⟨h1, h2, h⟩ | ⟨h1, h2, h⟩ | ⟨h1, h2, h⟩
    · exact absurd h1 (by decide)
    · exact absurd h1 (by decide)
    · subst h2
      obtain ⟨k9, as9, e9, hlen, hk1, hk2, hk3⟩ := h.1
      cases e9
      exact ⟨yX6_add, cX6_add, 5, (rmd 1), by rw [hlen]; exact lkb_X6_add, lnk_X11_115, vir_X6_add hk1 hk2 hk3, rfl, rfl, ⟨by decide, by decide⟩, MET_X6_add _ _ _ _ h⟩
theorem MET_X11_feed (A : AL) (σ : SG) (as : List Value) (post : SG → Int32 → Prop) (h : IN_X11_feed A σ as post) : MI l D cI cG base b yX11_feed cX11_feed 5 (some .int) (rmd 2) A σ as post := MI_of rfl lkb_X11_feed.2.2.2.2 h.2.1 ⟨rfl, rfl, by decide, by decide⟩ CTOK_X11_feed h.2.2
end MC_X11_feed
section MC_X11_turn
variable {l : Launch} {D : va_G} {cI cG : ClassId} {base b : Nat}
theorem CTOK_X11_turn : CTOK l (rmd 5) D cI cG base b RX11 CT_X11_turn := by
  refine ⟨?_, ?_, ?_, ?_⟩
  · intro idx A σ as post h
    rcases h with ⟨h1, h2, h⟩ | ⟨h1, h2, h⟩ | ⟨h1, h2, h⟩ | ⟨h1, h2, h⟩
    · exact absurd h1 (by decide)
    · exact absurd h1 (by decide)
    · exact absurd h1 (by decide)
    · exact absurd h1 (by decide)
  · intro idx A σ as post h
    rcases h with ⟨h1, h2, h⟩ | ⟨h1, h2, h⟩ | ⟨h1, h2, h⟩ | ⟨h1, h2, h⟩
    · exact absurd h1 (by decide)
    · exact absurd h1 (by decide)
    · exact absurd h1 (by decide)
    · exact absurd h1 (by decide)
  · intro idx k A σ as post h
    rcases h with ⟨h1, h2, h⟩ | ⟨h1, h2, h⟩ | ⟨h1, h2, h⟩ | ⟨h1, h2, h⟩
    · subst h2
      obtain ⟨k9, as9, e9, hlen, hk1, hk2, hk3⟩ := h.1
      cases e9
      exact ⟨yX11_refuse, cX11_refuse, 3, (some .int), (rmd 1), by rw [hlen]; exact lkb_X11_refuse, lnk_X11_108, vir_X11_refuse hk1 hk2 hk3, rfl, rfl, ⟨by decide, by decide⟩, MET_X11_refuse _ _ _ _ h⟩
    · subst h2
      obtain ⟨k9, as9, e9, hlen, hk1, hk2, hk3⟩ := h.1
      cases e9
      exact ⟨yX6_readTurn, cX6_readTurn, 9, (some .int), (rmd 2), by rw [hlen]; exact lkb_X6_readTurn, lnk_X11_126, vir_X6_readTurn hk1 hk2 hk3, rfl, rfl, ⟨by decide, by decide⟩, MET_X6_readTurn _ _ _ _ h⟩
    · exact absurd h1 (by decide)
    · exact absurd h1 (by decide)
  · intro idx k A σ as post h
    rcases h with ⟨h1, h2, h⟩ | ⟨h1, h2, h⟩ | ⟨h1, h2, h⟩ | ⟨h1, h2, h⟩
    · exact absurd h1 (by decide)
    · exact absurd h1 (by decide)
    · subst h2
      obtain ⟨k9, as9, e9, hlen, hk1, hk2, hk3⟩ := h.1
      cases e9
      exact ⟨yX2_forget, cX2_forget, 3, (rmd 1), by rw [hlen]; exact lkb_X2_forget, lnk_X11_130, vir_X2_forget hk1 hk2 hk3, rfl, rfl, ⟨by decide, by decide⟩, MET_X2_forget _ _ _ _ h⟩
    · subst h2
      obtain ⟨k9, as9, e9, hlen, hk1, hk2, hk3⟩ := h.1
      cases e9
      exact ⟨yX9_takeRead, cX9_takeRead, 5, (rmd 4), by rw [hlen]; exact lkb_X9_takeRead, lnk_X11_134, vir_X9_takeRead hk1 hk2 hk3, rfl, rfl, ⟨by decide, by decide⟩, MET_X9_takeRead _ _ _ _ h⟩
theorem MET_X11_turn (A : AL) (σ : SG) (as : List Value) (post : SG → Int32 → Prop) (h : IN_X11_turn A σ as post) : MI l D cI cG base b yX11_turn cX11_turn 2 (some .int) (rmd 5) A σ as post := MI_of rfl lkb_X11_turn.2.2.2.2 h.2.1 ⟨rfl, rfl, by decide, by decide⟩ CTOK_X11_turn h.2.2
end MC_X11_turn
section MC_X11_row
variable {l : Launch} {D : va_G} {cI cG : ClassId} {base b : Nat}
theorem CTOK_X11_row : CTOK l (rmd 2) D cI cG base b RX11 CT_X11_row := by
  refine ⟨?_, ?_, ?_, ?_⟩
  · intro idx A σ as post h
    rcases h with ⟨h1, h2, h⟩ | ⟨h1, h2, h⟩ | ⟨h1, h2, h⟩
    · exact absurd h1 (by decide)
    · exact absurd h1 (by decide)
    · exact absurd h1 (by decide)
  · intro idx A σ as post h
    rcases h with ⟨h1, h2, h⟩ | ⟨h1, h2, h⟩ | ⟨h1, h2, h⟩
    · exact absurd h1 (by decide)
    · exact absurd h1 (by decide)
    · exact absurd h1 (by decide)
  · intro idx k A σ as post h
    rcases h with ⟨h1, h2, h⟩ | ⟨h1, h2, h⟩ | ⟨h1, h2, h⟩
    · subst h2
      obtain ⟨k9, as9, e9, hlen, hk1, hk2, hk3⟩ := h.1
      cases e9
      exact ⟨yX11_refuse, cX11_refuse, 3, (some .int), (rmd 1), by rw [hlen]; exact lkb_X11_refuse, lnk_X11_108, vir_X11_refuse hk1 hk2 hk3, rfl, rfl, ⟨by decide, by decide⟩, MET_X11_refuse _ _ _ _ h⟩
    · subst h2
      obtain ⟨k9, as9, e9, hlen, hk1, hk2, hk3⟩ := h.1
      cases e9
      exact ⟨yX6_readRow, cX6_readRow, 5, (some .int), (rmd 1), by rw [hlen]; exact lkb_X6_readRow, lnk_X11_141, vir_X6_readRow hk1 hk2 hk3, rfl, rfl, ⟨by decide, by decide⟩, MET_X6_readRow _ _ _ _ h⟩
    · exact absurd h1 (by decide)
  · intro idx k A σ as post h
    rcases h with ⟨h1, h2, h⟩ | ⟨h1, h2, h⟩ | ⟨h1, h2, h⟩
    · exact absurd h1 (by decide)
    · exact absurd h1 (by decide)
    · subst h2
      obtain ⟨k9, as9, e9, hlen, hk1, hk2, hk3⟩ := h.1
      cases e9
      exact ⟨yX5_takeRead, cX5_takeRead, 5, (rmd 1), by rw [hlen]; exact lkb_X5_takeRead, lnk_X11_148, vir_X5_takeRead hk1 hk2 hk3, rfl, rfl, ⟨by decide, by decide⟩, MET_X5_takeRead _ _ _ _ h⟩
theorem MET_X11_row (A : AL) (σ : SG) (as : List Value) (post : SG → Int32 → Prop) (h : IN_X11_row A σ as post) : MI l D cI cG base b yX11_row cX11_row 2 (some .int) (rmd 2) A σ as post := MI_of rfl lkb_X11_row.2.2.2.2 h.2.1 ⟨rfl, rfl, by decide, by decide⟩ CTOK_X11_row h.2.2
end MC_X11_row
section MC_X11_goes
variable {l : Launch} {D : va_G} {cI cG : ClassId} {base b : Nat}
theorem CTOK_X11_goes : CTOK l (rmd 2) D cI cG base b RX11 CT_X11_goes := by
  refine ⟨?_, ?_, ?_, ?_⟩
  · intro idx A σ as post h
    rcases h with ⟨h1, h2, h⟩ | ⟨h1, h2, h⟩ | ⟨h1, h2, h⟩
    · exact absurd h1 (by decide)
    · subst h2
      have hlen := h.1
      exact ⟨yX11_isPlace, cX11_isPlace, 1, (some .boolean), (rmd 1), by rw [hlen]; exact lkb_X11_isPlace, lnk_X11_154, sta_X11_isPlace, rfl, rfl, ⟨by decide, by decide⟩, MET_X11_isPlace _ _ _ _ h⟩
    · exact absurd h1 (by decide)
  · intro idx A σ as post h
    rcases h with ⟨h1, h2, h⟩ | ⟨h1, h2, h⟩ | ⟨h1, h2, h⟩
    · exact absurd h1 (by decide)
    · exact absurd h1 (by decide)
    · exact absurd h1 (by decide)
  · intro idx k A σ as post h
    rcases h with ⟨h1, h2, h⟩ | ⟨h1, h2, h⟩ | ⟨h1, h2, h⟩
    · subst h2
      obtain ⟨k9, as9, e9, hlen, hk1, hk2, hk3⟩ := h.1
      cases e9
      exact ⟨yX9_hasMove, cX9_hasMove, 2, (some .boolean), (rmd 1), by rw [hlen]; exact lkb_X9_hasMove, lnk_X11_150, vir_X9_hasMove hk1 hk2 hk3, rfl, rfl, ⟨by decide, by decide⟩, MET_X9_hasMove _ _ _ _ h⟩
    · exact absurd h1 (by decide)
    · subst h2
      obtain ⟨k9, as9, e9, hlen, hk1, hk2, hk3⟩ := h.1
      cases e9
      exact ⟨yX11_refuse, cX11_refuse, 3, (some .int), (rmd 1), by rw [hlen]; exact lkb_X11_refuse, lnk_X11_108, vir_X11_refuse hk1 hk2 hk3, rfl, rfl, ⟨by decide, by decide⟩, MET_X11_refuse _ _ _ _ h⟩
  · intro idx k A σ as post h
    rcases h with ⟨h1, h2, h⟩ | ⟨h1, h2, h⟩ | ⟨h1, h2, h⟩
    · exact absurd h1 (by decide)
    · exact absurd h1 (by decide)
    · exact absurd h1 (by decide)
theorem MET_X11_goes (A : AL) (σ : SG) (as : List Value) (post : SG → Int32 → Prop) (h : IN_X11_goes A σ as post) : MI l D cI cG base b yX11_goes cX11_goes 3 (some .int) (rmd 2) A σ as post := MI_of rfl lkb_X11_goes.2.2.2.2 h.2.1 ⟨rfl, rfl, by decide, by decide⟩ CTOK_X11_goes h.2.2
end MC_X11_goes
section MC_X11_rowOf
variable {l : Launch} {D : va_G} {cI cG : ClassId} {base b : Nat}
theorem CTOK_X11_rowOf : CTOK l (rmd 2) D cI cG base b RX11 CT_X11_rowOf := by
  refine ⟨?_, ?_, ?_, ?_⟩
  · intro idx A σ as post h
    rcases h with ⟨h1, h2, h⟩ | ⟨h1, h2, h⟩ | ⟨h1, h2, h⟩
    · exact absurd h1 (by decide)
    · exact absurd h1 (by decide)
    · exact absurd h1 (by decide)
  · intro idx A σ as post h
    rcases h with ⟨h1, h2, h⟩ | ⟨h1, h2, h⟩ | ⟨h1, h2, h⟩
    · exact absurd h1 (by decide)
    · exact absurd h1 (by decide)
    · exact absurd h1 (by decide)
  · intro idx k A σ as post h
    rcases h with ⟨h1, h2, h⟩ | ⟨h1, h2, h⟩ | ⟨h1, h2, h⟩
    · subst h2
      obtain ⟨k9, as9, e9, hlen, hk1, hk2, hk3⟩ := h.1
      cases e9
      exact ⟨yX5_has, cX5_has, 2, (some .boolean), (rmd 1), by rw [hlen]; exact lkb_X5_has, lnk_X11_157, vir_X5_has hk1 hk2 hk3, rfl, rfl, ⟨by decide, by decide⟩, MET_X5_has _ _ _ _ h⟩
    · subst h2
      obtain ⟨k9, as9, e9, hlen, hk1, hk2, hk3⟩ := h.1
      cases e9
      exact ⟨yX11_refuse, cX11_refuse, 3, (some .int), (rmd 1), by rw [hlen]; exact lkb_X11_refuse, lnk_X11_108, vir_X11_refuse hk1 hk2 hk3, rfl, rfl, ⟨by decide, by decide⟩, MET_X11_refuse _ _ _ _ h⟩
    · subst h2
      obtain ⟨k9, as9, e9, hlen, hk1, hk2, hk3⟩ := h.1
      cases e9
      exact ⟨yX5_hasMove, cX5_hasMove, 3, (some .boolean), (rmd 1), by rw [hlen]; exact lkb_X5_hasMove, lnk_X11_163, vir_X5_hasMove hk1 hk2 hk3, rfl, rfl, ⟨by decide, by decide⟩, MET_X5_hasMove _ _ _ _ h⟩
  · intro idx k A σ as post h
    rcases h with ⟨h1, h2, h⟩ | ⟨h1, h2, h⟩ | ⟨h1, h2, h⟩
    · exact absurd h1 (by decide)
    · exact absurd h1 (by decide)
    · exact absurd h1 (by decide)
theorem MET_X11_rowOf (A : AL) (σ : SG) (as : List Value) (post : SG → Int32 → Prop) (h : IN_X11_rowOf A σ as post) : MI l D cI cG base b yX11_rowOf cX11_rowOf 3 (some .int) (rmd 2) A σ as post := MI_of rfl lkb_X11_rowOf.2.2.2.2 h.2.1 ⟨rfl, rfl, by decide, by decide⟩ CTOK_X11_rowOf h.2.2
end MC_X11_rowOf
section MC_X11_does
variable {l : Launch} {D : va_G} {cI cG : ClassId} {base b : Nat}
theorem CTOK_X11_does : CTOK l (rmd 2) D cI cG base b RX11 CT_X11_does := by
  refine ⟨?_, ?_, ?_, ?_⟩
  · intro idx A σ as post h
    rcases h with ⟨h1, h2, h⟩ | ⟨h1, h2, h⟩ | ⟨h1, h2, h⟩ | ⟨h1, h2, h⟩
    · exact absurd h1 (by decide)
    · subst h2
      have hlen := h.1
      exact ⟨yX11_isPlace, cX11_isPlace, 1, (some .boolean), (rmd 1), by rw [hlen]; exact lkb_X11_isPlace, lnk_X11_154, sta_X11_isPlace, rfl, rfl, ⟨by decide, by decide⟩, MET_X11_isPlace _ _ _ _ h⟩
    · exact absurd h1 (by decide)
    · exact absurd h1 (by decide)
  · intro idx A σ as post h
    rcases h with ⟨h1, h2, h⟩ | ⟨h1, h2, h⟩ | ⟨h1, h2, h⟩ | ⟨h1, h2, h⟩
    · exact absurd h1 (by decide)
    · exact absurd h1 (by decide)
    · exact absurd h1 (by decide)
    · exact absurd h1 (by decide)
  · intro idx k A σ as post h
    rcases h with ⟨h1, h2, h⟩ | ⟨h1, h2, h⟩ | ⟨h1, h2, h⟩ | ⟨h1, h2, h⟩
    · subst h2
      obtain ⟨k9, as9, e9, hlen, hk1, hk2, hk3⟩ := h.1
      cases e9
      exact ⟨yX5_has, cX5_has, 2, (some .boolean), (rmd 1), by rw [hlen]; exact lkb_X5_has, lnk_X11_157, vir_X5_has hk1 hk2 hk3, rfl, rfl, ⟨by decide, by decide⟩, MET_X5_has _ _ _ _ h⟩
    · exact absurd h1 (by decide)
    · subst h2
      obtain ⟨k9, as9, e9, hlen, hk1, hk2, hk3⟩ := h.1
      cases e9
      exact ⟨yX11_refuse, cX11_refuse, 3, (some .int), (rmd 1), by rw [hlen]; exact lkb_X11_refuse, lnk_X11_108, vir_X11_refuse hk1 hk2 hk3, rfl, rfl, ⟨by decide, by decide⟩, MET_X11_refuse _ _ _ _ h⟩
    · subst h2
      obtain ⟨k9, as9, e9, hlen, hk1, hk2, hk3⟩ := h.1
      cases e9
      exact ⟨yX5_goal, cX5_goal, 5, (some .int), (rmd 1), by rw [hlen]; exact lkb_X5_goal, lnk_X11_166, vir_X5_goal hk1 hk2 hk3, rfl, rfl, ⟨by decide, by decide⟩, MET_X5_goal _ _ _ _ h⟩
  · intro idx k A σ as post h
    rcases h with ⟨h1, h2, h⟩ | ⟨h1, h2, h⟩ | ⟨h1, h2, h⟩ | ⟨h1, h2, h⟩
    · exact absurd h1 (by decide)
    · exact absurd h1 (by decide)
    · exact absurd h1 (by decide)
    · exact absurd h1 (by decide)
theorem MET_X11_does (A : AL) (σ : SG) (as : List Value) (post : SG → Int32 → Prop) (h : IN_X11_does A σ as post) : MI l D cI cG base b yX11_does cX11_does 3 (some .int) (rmd 2) A σ as post := MI_of rfl lkb_X11_does.2.2.2.2 h.2.1 ⟨rfl, rfl, by decide, by decide⟩ CTOK_X11_does h.2.2
end MC_X11_does
section MC_X11_order
variable {l : Launch} {D : va_G} {cI cG : ClassId} {base b : Nat}
theorem CTOK_X11_order : CTOK l (rmd 2) D cI cG base b RX11 CT_X11_order := by
  refine ⟨?_, ?_, ?_, ?_⟩
  · intro idx A σ as post h
    rcases h with ⟨h1, h2, h⟩ | ⟨h1, h2, h⟩
    · exact absurd h1 (by decide)
    · exact absurd h1 (by decide)
  · intro idx A σ as post h
    rcases h with ⟨h1, h2, h⟩ | ⟨h1, h2, h⟩
    · exact absurd h1 (by decide)
    · exact absurd h1 (by decide)
  · intro idx k A σ as post h
    rcases h with ⟨h1, h2, h⟩ | ⟨h1, h2, h⟩
    · subst h2
      obtain ⟨k9, as9, e9, hlen, hk1, hk2, hk3⟩ := h.1
      cases e9
      exact ⟨yX5_has, cX5_has, 2, (some .boolean), (rmd 1), by rw [hlen]; exact lkb_X5_has, lnk_X11_157, vir_X5_has hk1 hk2 hk3, rfl, rfl, ⟨by decide, by decide⟩, MET_X5_has _ _ _ _ h⟩
    · subst h2
      obtain ⟨k9, as9, e9, hlen, hk1, hk2, hk3⟩ := h.1
      cases e9
      exact ⟨yX11_refuse, cX11_refuse, 3, (some .int), (rmd 1), by rw [hlen]; exact lkb_X11_refuse, lnk_X11_108, vir_X11_refuse hk1 hk2 hk3, rfl, rfl, ⟨by decide, by decide⟩, MET_X11_refuse _ _ _ _ h⟩
  · intro idx k A σ as post h
    rcases h with ⟨h1, h2, h⟩ | ⟨h1, h2, h⟩
    · exact absurd h1 (by decide)
    · exact absurd h1 (by decide)
theorem MET_X11_order (A : AL) (σ : SG) (as : List Value) (post : SG → Int32 → Prop) (h : IN_X11_order A σ as post) : MI l D cI cG base b yX11_order cX11_order 4 (some .int) (rmd 2) A σ as post := MI_of rfl lkb_X11_order.2.2.2.2 h.2.1 ⟨rfl, rfl, by decide, by decide⟩ CTOK_X11_order h.2.2
end MC_X11_order
section MC_X11_keeps
variable {l : Launch} {D : va_G} {cI cG : ClassId} {base b : Nat}
theorem CTOK_X11_keeps : CTOK l (rmd 2) D cI cG base b RX11 CT_X11_keeps := by
  refine ⟨?_, ?_, ?_, ?_⟩
  · intro idx A σ as post h
    rcases h with ⟨h1, h2, h⟩ | ⟨h1, h2, h⟩
    · exact absurd h1 (by decide)
    · exact absurd h1 (by decide)
  · intro idx A σ as post h
    rcases h with ⟨h1, h2, h⟩ | ⟨h1, h2, h⟩
    · exact absurd h1 (by decide)
    · exact absurd h1 (by decide)
  · intro idx k A σ as post h
    rcases h with ⟨h1, h2, h⟩ | ⟨h1, h2, h⟩
    · subst h2
      obtain ⟨k9, as9, e9, hlen, hk1, hk2, hk3⟩ := h.1
      cases e9
      exact ⟨yX5_has, cX5_has, 2, (some .boolean), (rmd 1), by rw [hlen]; exact lkb_X5_has, lnk_X11_157, vir_X5_has hk1 hk2 hk3, rfl, rfl, ⟨by decide, by decide⟩, MET_X5_has _ _ _ _ h⟩
    · subst h2
      obtain ⟨k9, as9, e9, hlen, hk1, hk2, hk3⟩ := h.1
      cases e9
      exact ⟨yX11_refuse, cX11_refuse, 3, (some .int), (rmd 1), by rw [hlen]; exact lkb_X11_refuse, lnk_X11_108, vir_X11_refuse hk1 hk2 hk3, rfl, rfl, ⟨by decide, by decide⟩, MET_X11_refuse _ _ _ _ h⟩
  · intro idx k A σ as post h
    rcases h with ⟨h1, h2, h⟩ | ⟨h1, h2, h⟩
    · exact absurd h1 (by decide)
    · exact absurd h1 (by decide)
theorem MET_X11_keeps (A : AL) (σ : SG) (as : List Value) (post : SG → Int32 → Prop) (h : IN_X11_keeps A σ as post) : MI l D cI cG base b yX11_keeps cX11_keeps 2 (some .int) (rmd 2) A σ as post := MI_of rfl lkb_X11_keeps.2.2.2.2 h.2.1 ⟨rfl, rfl, by decide, by decide⟩ CTOK_X11_keeps h.2.2
end MC_X11_keeps
section MC_X11_now
variable {l : Launch} {D : va_G} {cI cG : ClassId} {base b : Nat}
theorem CTOK_X11_now : CTOK l (rmd 2) D cI cG base b RX11 CT_X11_now := by
  refine ⟨?_, ?_, ?_, ?_⟩
  · intro idx A σ as post h
    rcases h with ⟨h1, h2, h⟩ | ⟨h1, h2, h⟩ | ⟨h1, h2, h⟩
    · subst h2
      have hlen := h.1
      exact ⟨yX11_isPlace, cX11_isPlace, 1, (some .boolean), (rmd 1), by rw [hlen]; exact lkb_X11_isPlace, lnk_X11_154, sta_X11_isPlace, rfl, rfl, ⟨by decide, by decide⟩, MET_X11_isPlace _ _ _ _ h⟩
    · exact absurd h1 (by decide)
    · exact absurd h1 (by decide)
  · intro idx A σ as post h
    rcases h with ⟨h1, h2, h⟩ | ⟨h1, h2, h⟩ | ⟨h1, h2, h⟩
    · exact absurd h1 (by decide)
    · exact absurd h1 (by decide)
    · exact absurd h1 (by decide)
  · intro idx k A σ as post h
    rcases h with ⟨h1, h2, h⟩ | ⟨h1, h2, h⟩ | ⟨h1, h2, h⟩
    · exact absurd h1 (by decide)
    · subst h2
      obtain ⟨k9, as9, e9, hlen, hk1, hk2, hk3⟩ := h.1
      cases e9
      exact ⟨yX11_refuse, cX11_refuse, 3, (some .int), (rmd 1), by rw [hlen]; exact lkb_X11_refuse, lnk_X11_108, vir_X11_refuse hk1 hk2 hk3, rfl, rfl, ⟨by decide, by decide⟩, MET_X11_refuse _ _ _ _ h⟩
    · subst h2
      obtain ⟨k9, as9, e9, hlen, hk1, hk2, hk3⟩ := h.1
      cases e9
      exact ⟨yX4_piece, cX4_piece, 3, (some .int), (rmd 1), by rw [hlen]; exact lkb_X4_piece, lnk_X11_176, vir_X4_piece hk1 hk2 hk3, rfl, rfl, ⟨by decide, by decide⟩, MET_X4_piece _ _ _ _ h⟩
  · intro idx k A σ as post h
    rcases h with ⟨h1, h2, h⟩ | ⟨h1, h2, h⟩ | ⟨h1, h2, h⟩
    · exact absurd h1 (by decide)
    · exact absurd h1 (by decide)
    · exact absurd h1 (by decide)
theorem MET_X11_now (A : AL) (σ : SG) (as : List Value) (post : SG → Int32 → Prop) (h : IN_X11_now A σ as post) : MI l D cI cG base b yX11_now cX11_now 2 (some .int) (rmd 2) A σ as post := MI_of rfl lkb_X11_now.2.2.2.2 h.2.1 ⟨rfl, rfl, by decide, by decide⟩ CTOK_X11_now h.2.2
end MC_X11_now
section MC_X11_solvedNow
variable {l : Launch} {D : va_G} {cI cG : ClassId} {base b : Nat}
theorem CTOK_X11_solvedNow : CTOK l (rmd 1) D cI cG base b RX11 CT0 := by
  exact CTOK0
theorem MET_X11_solvedNow (A : AL) (σ : SG) (as : List Value) (post : SG → Int32 → Prop) (h : IN_X11_solvedNow A σ as post) : MI l D cI cG base b yX11_solvedNow cX11_solvedNow 1 (some .int) (rmd 1) A σ as post := MI_of rfl lkb_X11_solvedNow.2.2.2.2 h.2.1 ⟨rfl, rfl, by decide, by decide⟩ CTOK_X11_solvedNow h.2.2
end MC_X11_solvedNow
section MC_X11_make
variable {l : Launch} {D : va_G} {cI cG : ClassId} {base b : Nat}
theorem CTOK_X11_make : CTOK l (rmd 2) D cI cG base b RX11 CT_X11_make := by
  refine ⟨?_, ?_, ?_, ?_⟩
  · intro idx A σ as post h
    rcases h with ⟨h1, h2, h⟩ | ⟨h1, h2, h⟩ | ⟨h1, h2, h⟩
    · exact absurd h1 (by decide)
    · exact absurd h1 (by decide)
    · exact absurd h1 (by decide)
  · intro idx A σ as post h
    rcases h with ⟨h1, h2, h⟩ | ⟨h1, h2, h⟩ | ⟨h1, h2, h⟩
    · exact absurd h1 (by decide)
    · exact absurd h1 (by decide)
    · exact absurd h1 (by decide)
  · intro idx k A σ as post h
    rcases h with ⟨h1, h2, h⟩ | ⟨h1, h2, h⟩ | ⟨h1, h2, h⟩
    · subst h2
      obtain ⟨k9, as9, e9, hlen, hk1, hk2, hk3⟩ := h.1
      cases e9
      exact ⟨yX9_hasMove, cX9_hasMove, 2, (some .boolean), (rmd 1), by rw [hlen]; exact lkb_X9_hasMove, lnk_X11_150, vir_X9_hasMove hk1 hk2 hk3, rfl, rfl, ⟨by decide, by decide⟩, MET_X9_hasMove _ _ _ _ h⟩
    · subst h2
      obtain ⟨k9, as9, e9, hlen, hk1, hk2, hk3⟩ := h.1
      cases e9
      exact ⟨yX11_refuse, cX11_refuse, 3, (some .int), (rmd 1), by rw [hlen]; exact lkb_X11_refuse, lnk_X11_108, vir_X11_refuse hk1 hk2 hk3, rfl, rfl, ⟨by decide, by decide⟩, MET_X11_refuse _ _ _ _ h⟩
    · subst h2
      obtain ⟨k9, as9, e9, hlen, hk1, hk2, hk3⟩ := h.1
      cases e9
      exact ⟨yX11_solvedNow, cX11_solvedNow, 1, (some .int), (rmd 1), by rw [hlen]; exact lkb_X11_solvedNow, lnk_X11_182, vir_X11_solvedNow hk1 hk2 hk3, rfl, rfl, ⟨by decide, by decide⟩, MET_X11_solvedNow _ _ _ _ h⟩
  · intro idx k A σ as post h
    rcases h with ⟨h1, h2, h⟩ | ⟨h1, h2, h⟩ | ⟨h1, h2, h⟩
    · exact absurd h1 (by decide)
    · exact absurd h1 (by decide)
    · exact absurd h1 (by decide)
theorem MET_X11_make (A : AL) (σ : SG) (as : List Value) (post : SG → Int32 → Prop) (h : IN_X11_make A σ as post) : MI l D cI cG base b yX11_make cX11_make 2 (some .int) (rmd 2) A σ as post := MI_of rfl lkb_X11_make.2.2.2.2 h.2.1 ⟨rfl, rfl, by decide, by decide⟩ CTOK_X11_make h.2.2
end MC_X11_make
section MC_X11_makeRow
variable {l : Launch} {D : va_G} {cI cG : ClassId} {base b : Nat}
theorem CTOK_X11_makeRow : CTOK l (rmd 2) D cI cG base b RX11 CT_X11_makeRow := by
  refine ⟨?_, ?_, ?_, ?_⟩
  · intro idx A σ as post h
    rcases h with ⟨h1, h2, h⟩ | ⟨h1, h2, h⟩ | ⟨h1, h2, h⟩
    · exact absurd h1 (by decide)
    · exact absurd h1 (by decide)
    · exact absurd h1 (by decide)
  · intro idx A σ as post h
    rcases h with ⟨h1, h2, h⟩ | ⟨h1, h2, h⟩ | ⟨h1, h2, h⟩
    · exact absurd h1 (by decide)
    · exact absurd h1 (by decide)
    · exact absurd h1 (by decide)
  · intro idx k A σ as post h
    rcases h with ⟨h1, h2, h⟩ | ⟨h1, h2, h⟩ | ⟨h1, h2, h⟩
    · subst h2
      obtain ⟨k9, as9, e9, hlen, hk1, hk2, hk3⟩ := h.1
      cases e9
      exact ⟨yX5_has, cX5_has, 2, (some .boolean), (rmd 1), by rw [hlen]; exact lkb_X5_has, lnk_X11_157, vir_X5_has hk1 hk2 hk3, rfl, rfl, ⟨by decide, by decide⟩, MET_X5_has _ _ _ _ h⟩
    · subst h2
      obtain ⟨k9, as9, e9, hlen, hk1, hk2, hk3⟩ := h.1
      cases e9
      exact ⟨yX11_refuse, cX11_refuse, 3, (some .int), (rmd 1), by rw [hlen]; exact lkb_X11_refuse, lnk_X11_108, vir_X11_refuse hk1 hk2 hk3, rfl, rfl, ⟨by decide, by decide⟩, MET_X11_refuse _ _ _ _ h⟩
    · subst h2
      obtain ⟨k9, as9, e9, hlen, hk1, hk2, hk3⟩ := h.1
      cases e9
      exact ⟨yX11_solvedNow, cX11_solvedNow, 1, (some .int), (rmd 1), by rw [hlen]; exact lkb_X11_solvedNow, lnk_X11_182, vir_X11_solvedNow hk1 hk2 hk3, rfl, rfl, ⟨by decide, by decide⟩, MET_X11_solvedNow _ _ _ _ h⟩
  · intro idx k A σ as post h
    rcases h with ⟨h1, h2, h⟩ | ⟨h1, h2, h⟩ | ⟨h1, h2, h⟩
    · exact absurd h1 (by decide)
    · exact absurd h1 (by decide)
    · exact absurd h1 (by decide)
theorem MET_X11_makeRow (A : AL) (σ : SG) (as : List Value) (post : SG → Int32 → Prop) (h : IN_X11_makeRow A σ as post) : MI l D cI cG base b yX11_makeRow cX11_makeRow 2 (some .int) (rmd 2) A σ as post := MI_of rfl lkb_X11_makeRow.2.2.2.2 h.2.1 ⟨rfl, rfl, by decide, by decide⟩ CTOK_X11_makeRow h.2.2
end MC_X11_makeRow
section MC_X11_put
variable {l : Launch} {D : va_G} {cI cG : ClassId} {base b : Nat}
theorem CTOK_X11_put : CTOK l (rmd 2) D cI cG base b RX11 CT_X11_put := by
  refine ⟨?_, ?_, ?_, ?_⟩
  · intro idx A σ as post h
    rcases h with ⟨h1, h2, h⟩ | ⟨h1, h2, h⟩ | ⟨h1, h2, h⟩
    · subst h2
      have hlen := h.1
      exact ⟨yX11_outside, cX11_outside, 3, (some .int), (rmd 1), by rw [hlen]; exact lkb_X11_outside, lnk_X11_104, sta_X11_outside, rfl, rfl, ⟨by decide, by decide⟩, MET_X11_outside _ _ _ _ h⟩
    · exact absurd h1 (by decide)
    · exact absurd h1 (by decide)
  · intro idx A σ as post h
    rcases h with ⟨h1, h2, h⟩ | ⟨h1, h2, h⟩ | ⟨h1, h2, h⟩
    · exact absurd h1 (by decide)
    · exact absurd h1 (by decide)
    · exact absurd h1 (by decide)
  · intro idx k A σ as post h
    rcases h with ⟨h1, h2, h⟩ | ⟨h1, h2, h⟩ | ⟨h1, h2, h⟩
    · exact absurd h1 (by decide)
    · subst h2
      obtain ⟨k9, as9, e9, hlen, hk1, hk2, hk3⟩ := h.1
      cases e9
      exact ⟨yX11_refuse, cX11_refuse, 3, (some .int), (rmd 1), by rw [hlen]; exact lkb_X11_refuse, lnk_X11_108, vir_X11_refuse hk1 hk2 hk3, rfl, rfl, ⟨by decide, by decide⟩, MET_X11_refuse _ _ _ _ h⟩
    · subst h2
      obtain ⟨k9, as9, e9, hlen, hk1, hk2, hk3⟩ := h.1
      cases e9
      exact ⟨yX11_solvedNow, cX11_solvedNow, 1, (some .int), (rmd 1), by rw [hlen]; exact lkb_X11_solvedNow, lnk_X11_182, vir_X11_solvedNow hk1 hk2 hk3, rfl, rfl, ⟨by decide, by decide⟩, MET_X11_solvedNow _ _ _ _ h⟩
  · intro idx k A σ as post h
    rcases h with ⟨h1, h2, h⟩ | ⟨h1, h2, h⟩ | ⟨h1, h2, h⟩
    · exact absurd h1 (by decide)
    · exact absurd h1 (by decide)
    · exact absurd h1 (by decide)
theorem MET_X11_put (A : AL) (σ : SG) (as : List Value) (post : SG → Int32 → Prop) (h : IN_X11_put A σ as post) : MI l D cI cG base b yX11_put cX11_put 3 (some .int) (rmd 2) A σ as post := MI_of rfl lkb_X11_put.2.2.2.2 h.2.1 ⟨rfl, rfl, by decide, by decide⟩ CTOK_X11_put h.2.2
end MC_X11_put
section MC_X11_exchange
variable {l : Launch} {D : va_G} {cI cG : ClassId} {base b : Nat}
theorem CTOK_X11_exchange : CTOK l (rmd 1) D cI cG base b RX11 CT0 := by
  exact CTOK0
theorem MET_X11_exchange (A : AL) (σ : SG) (as : List Value) (post : SG → Int32 → Prop) (h : IN_X11_exchange A σ as post) : MI l D cI cG base b yX11_exchange cX11_exchange 4 (some .int) (rmd 1) A σ as post := MI_of rfl lkb_X11_exchange.2.2.2.2 h.2.1 ⟨rfl, rfl, by decide, by decide⟩ CTOK_X11_exchange h.2.2
end MC_X11_exchange
section MC_X11_time
variable {l : Launch} {D : va_G} {cI cG : ClassId} {base b : Nat}
theorem CTOK_X11_time : CTOK l (rmd 2) D cI cG base b RX11 CT_X11_time := by
  refine ⟨?_, ?_, ?_, ?_⟩
  · intro idx A σ as post h
    rcases h with ⟨h1, h2, h⟩ | ⟨h1, h2, h⟩ | ⟨h1, h2, h⟩ | ⟨h1, h2, h⟩
    · exact absurd h1 (by decide)
    · exact absurd h1 (by decide)
    · subst h2
      have hlen := h.1
      exact ⟨yX11_outside, cX11_outside, 3, (some .int), (rmd 1), by rw [hlen]; exact lkb_X11_outside, lnk_X11_104, sta_X11_outside, rfl, rfl, ⟨by decide, by decide⟩, MET_X11_outside _ _ _ _ h⟩
    · subst h2
      have hlen := h.1
      exact ⟨yX11_exchange, cX11_exchange, 4, (some .int), (rmd 1), by rw [hlen]; exact lkb_X11_exchange, lnk_X11_190, sta_X11_exchange, rfl, rfl, ⟨by decide, by decide⟩, MET_X11_exchange _ _ _ _ h⟩
  · intro idx A σ as post h
    rcases h with ⟨h1, h2, h⟩ | ⟨h1, h2, h⟩ | ⟨h1, h2, h⟩ | ⟨h1, h2, h⟩
    · exact absurd h1 (by decide)
    · exact absurd h1 (by decide)
    · exact absurd h1 (by decide)
    · exact absurd h1 (by decide)
  · intro idx k A σ as post h
    rcases h with ⟨h1, h2, h⟩ | ⟨h1, h2, h⟩ | ⟨h1, h2, h⟩ | ⟨h1, h2, h⟩
    · subst h2
      obtain ⟨k9, as9, e9, hlen, hk1, hk2, hk3⟩ := h.1
      cases e9
      exact ⟨yX9_has, cX9_has, 2, (some .boolean), (rmd 1), by rw [hlen]; exact lkb_X9_has, lnk_X11_186, vir_X9_has hk1 hk2 hk3, rfl, rfl, ⟨by decide, by decide⟩, MET_X9_has _ _ _ _ h⟩
    · subst h2
      obtain ⟨k9, as9, e9, hlen, hk1, hk2, hk3⟩ := h.1
      cases e9
      exact ⟨yX11_refuse, cX11_refuse, 3, (some .int), (rmd 1), by rw [hlen]; exact lkb_X11_refuse, lnk_X11_108, vir_X11_refuse hk1 hk2 hk3, rfl, rfl, ⟨by decide, by decide⟩, MET_X11_refuse _ _ _ _ h⟩
    · exact absurd h1 (by decide)
    · exact absurd h1 (by decide)
  · intro idx k A σ as post h
    rcases h with ⟨h1, h2, h⟩ | ⟨h1, h2, h⟩ | ⟨h1, h2, h⟩ | ⟨h1, h2, h⟩
    · exact absurd h1 (by decide)
    · exact absurd h1 (by decide)
    · exact absurd h1 (by decide)
    · exact absurd h1 (by decide)
theorem MET_X11_time (A : AL) (σ : SG) (as : List Value) (post : SG → Int32 → Prop) (h : IN_X11_time A σ as post) : MI l D cI cG base b yX11_time cX11_time 5 (some .int) (rmd 2) A σ as post := MI_of rfl lkb_X11_time.2.2.2.2 h.2.1 ⟨rfl, rfl, by decide, by decide⟩ CTOK_X11_time h.2.2
end MC_X11_time
section MC_X11_after
variable {l : Launch} {D : va_G} {cI cG : ClassId} {base b : Nat}
theorem CTOK_X11_after : CTOK l (rmd 2) D cI cG base b RX11 CT_X11_after := by
  refine ⟨?_, ?_, ?_, ?_⟩
  · intro idx A σ as post h
    rcases h with ⟨h1, h2, h⟩ | ⟨h1, h2, h⟩ | ⟨h1, h2, h⟩ | ⟨h1, h2, h⟩
    · exact absurd h1 (by decide)
    · exact absurd h1 (by decide)
    · subst h2
      have hlen := h.1
      exact ⟨yX11_outside, cX11_outside, 3, (some .int), (rmd 1), by rw [hlen]; exact lkb_X11_outside, lnk_X11_104, sta_X11_outside, rfl, rfl, ⟨by decide, by decide⟩, MET_X11_outside _ _ _ _ h⟩
    · subst h2
      have hlen := h.1
      exact ⟨yX11_exchange, cX11_exchange, 4, (some .int), (rmd 1), by rw [hlen]; exact lkb_X11_exchange, lnk_X11_190, sta_X11_exchange, rfl, rfl, ⟨by decide, by decide⟩, MET_X11_exchange _ _ _ _ h⟩
  · intro idx A σ as post h
    rcases h with ⟨h1, h2, h⟩ | ⟨h1, h2, h⟩ | ⟨h1, h2, h⟩ | ⟨h1, h2, h⟩
    · exact absurd h1 (by decide)
    · exact absurd h1 (by decide)
    · exact absurd h1 (by decide)
    · exact absurd h1 (by decide)
  · intro idx k A σ as post h
    rcases h with ⟨h1, h2, h⟩ | ⟨h1, h2, h⟩ | ⟨h1, h2, h⟩ | ⟨h1, h2, h⟩
    · subst h2
      obtain ⟨k9, as9, e9, hlen, hk1, hk2, hk3⟩ := h.1
      cases e9
      exact ⟨yX9_has, cX9_has, 2, (some .boolean), (rmd 1), by rw [hlen]; exact lkb_X9_has, lnk_X11_186, vir_X9_has hk1 hk2 hk3, rfl, rfl, ⟨by decide, by decide⟩, MET_X9_has _ _ _ _ h⟩
    · subst h2
      obtain ⟨k9, as9, e9, hlen, hk1, hk2, hk3⟩ := h.1
      cases e9
      exact ⟨yX11_refuse, cX11_refuse, 3, (some .int), (rmd 1), by rw [hlen]; exact lkb_X11_refuse, lnk_X11_108, vir_X11_refuse hk1 hk2 hk3, rfl, rfl, ⟨by decide, by decide⟩, MET_X11_refuse _ _ _ _ h⟩
    · exact absurd h1 (by decide)
    · exact absurd h1 (by decide)
  · intro idx k A σ as post h
    rcases h with ⟨h1, h2, h⟩ | ⟨h1, h2, h⟩ | ⟨h1, h2, h⟩ | ⟨h1, h2, h⟩
    · exact absurd h1 (by decide)
    · exact absurd h1 (by decide)
    · exact absurd h1 (by decide)
    · exact absurd h1 (by decide)
theorem MET_X11_after (A : AL) (σ : SG) (as : List Value) (post : SG → Int32 → Prop) (h : IN_X11_after A σ as post) : MI l D cI cG base b yX11_after cX11_after 5 (some .int) (rmd 2) A σ as post := MI_of rfl lkb_X11_after.2.2.2.2 h.2.1 ⟨rfl, rfl, by decide, by decide⟩ CTOK_X11_after h.2.2
end MC_X11_after
section MC_X11_locks
variable {l : Launch} {D : va_G} {cI cG : ClassId} {base b : Nat}
theorem CTOK_X11_locks : CTOK l (rmd 2) D cI cG base b RX11 CT_X11_locks := by
  refine ⟨?_, ?_, ?_, ?_⟩
  · intro idx A σ as post h
    rcases h with ⟨h1, h2, h⟩ | ⟨h1, h2, h⟩ | ⟨h1, h2, h⟩
    · exact absurd h1 (by decide)
    · subst h2
      have hlen := h.1
      exact ⟨yX11_outside, cX11_outside, 3, (some .int), (rmd 1), by rw [hlen]; exact lkb_X11_outside, lnk_X11_104, sta_X11_outside, rfl, rfl, ⟨by decide, by decide⟩, MET_X11_outside _ _ _ _ h⟩
    · subst h2
      have hlen := h.1
      exact ⟨yX11_exchange, cX11_exchange, 4, (some .int), (rmd 1), by rw [hlen]; exact lkb_X11_exchange, lnk_X11_190, sta_X11_exchange, rfl, rfl, ⟨by decide, by decide⟩, MET_X11_exchange _ _ _ _ h⟩
  · intro idx A σ as post h
    rcases h with ⟨h1, h2, h⟩ | ⟨h1, h2, h⟩ | ⟨h1, h2, h⟩
    · exact absurd h1 (by decide)
    · exact absurd h1 (by decide)
    · exact absurd h1 (by decide)
  · intro idx k A σ as post h
    rcases h with ⟨h1, h2, h⟩ | ⟨h1, h2, h⟩ | ⟨h1, h2, h⟩
    · subst h2
      obtain ⟨k9, as9, e9, hlen, hk1, hk2, hk3⟩ := h.1
      cases e9
      exact ⟨yX11_refuse, cX11_refuse, 3, (some .int), (rmd 1), by rw [hlen]; exact lkb_X11_refuse, lnk_X11_108, vir_X11_refuse hk1 hk2 hk3, rfl, rfl, ⟨by decide, by decide⟩, MET_X11_refuse _ _ _ _ h⟩
    · exact absurd h1 (by decide)
    · exact absurd h1 (by decide)
  · intro idx k A σ as post h
    rcases h with ⟨h1, h2, h⟩ | ⟨h1, h2, h⟩ | ⟨h1, h2, h⟩
    · exact absurd h1 (by decide)
    · exact absurd h1 (by decide)
    · exact absurd h1 (by decide)
theorem MET_X11_locks (A : AL) (σ : SG) (as : List Value) (post : SG → Int32 → Prop) (h : IN_X11_locks A σ as post) : MI l D cI cG base b yX11_locks cX11_locks 4 (some .int) (rmd 2) A σ as post := MI_of rfl lkb_X11_locks.2.2.2.2 h.2.1 ⟨rfl, rfl, by decide, by decide⟩ CTOK_X11_locks h.2.2
end MC_X11_locks
section MC_X11_kind
variable {l : Launch} {D : va_G} {cI cG : ClassId} {base b : Nat}
theorem CTOK_X11_kind : CTOK l (rmd 2) D cI cG base b RX11 CT_X11_kind := by
  refine ⟨?_, ?_, ?_, ?_⟩
  · intro idx A σ as post h
    rcases h with ⟨h1, h2, h⟩ | ⟨h1, h2, h⟩ | ⟨h1, h2, h⟩ | ⟨h1, h2, h⟩ | ⟨h1, h2, h⟩
    · exact absurd h1 (by decide)
    · exact absurd h1 (by decide)
    · exact absurd h1 (by decide)
    · exact absurd h1 (by decide)
    · exact absurd h1 (by decide)
  · intro idx A σ as post h
    rcases h with ⟨h1, h2, h⟩ | ⟨h1, h2, h⟩ | ⟨h1, h2, h⟩ | ⟨h1, h2, h⟩ | ⟨h1, h2, h⟩
    · exact absurd h1 (by decide)
    · exact absurd h1 (by decide)
    · exact absurd h1 (by decide)
    · exact absurd h1 (by decide)
    · exact absurd h1 (by decide)
  · intro idx k A σ as post h
    rcases h with ⟨h1, h2, h⟩ | ⟨h1, h2, h⟩ | ⟨h1, h2, h⟩ | ⟨h1, h2, h⟩ | ⟨h1, h2, h⟩
    · subst h2
      obtain ⟨k9, as9, e9, hlen, hk1, hk2, hk3⟩ := h.1
      cases e9
      exact ⟨yX5_has, cX5_has, 2, (some .boolean), (rmd 1), by rw [hlen]; exact lkb_X5_has, lnk_X11_157, vir_X5_has hk1 hk2 hk3, rfl, rfl, ⟨by decide, by decide⟩, MET_X5_has _ _ _ _ h⟩
    · subst h2
      obtain ⟨k9, as9, e9, hlen, hk1, hk2, hk3⟩ := h.1
      cases e9
      exact ⟨yX11_refuse, cX11_refuse, 3, (some .int), (rmd 1), by rw [hlen]; exact lkb_X11_refuse, lnk_X11_108, vir_X11_refuse hk1 hk2 hk3, rfl, rfl, ⟨by decide, by decide⟩, MET_X11_refuse _ _ _ _ h⟩
    · subst h2
      obtain ⟨k9, as9, e9, hlen, hk1, hk2, hk3⟩ := h.1
      cases e9
      exact ⟨yX5_hasMove, cX5_hasMove, 3, (some .boolean), (rmd 1), by rw [hlen]; exact lkb_X5_hasMove, lnk_X11_163, vir_X5_hasMove hk1 hk2 hk3, rfl, rfl, ⟨by decide, by decide⟩, MET_X5_hasMove _ _ _ _ h⟩
    · subst h2
      obtain ⟨k9, as9, e9, hlen, hk1, hk2, hk3⟩ := h.1
      cases e9
      exact ⟨yX5_ahead, cX5_ahead, 3, (some .int), (rmd 1), by rw [hlen]; exact lkb_X5_ahead, lnk_X11_201, vir_X5_ahead hk1 hk2 hk3, rfl, rfl, ⟨by decide, by decide⟩, MET_X5_ahead _ _ _ _ h⟩
    · subst h2
      obtain ⟨k9, as9, e9, hlen, hk1, hk2, hk3⟩ := h.1
      cases e9
      exact ⟨yX2_kindOf, cX2_kindOf, 4, (some .int), (rmd 1), by rw [hlen]; exact lkb_X2_kindOf, lnk_X11_204, vir_X2_kindOf hk1 hk2 hk3, rfl, rfl, ⟨by decide, by decide⟩, MET_X2_kindOf _ _ _ _ h⟩
  · intro idx k A σ as post h
    rcases h with ⟨h1, h2, h⟩ | ⟨h1, h2, h⟩ | ⟨h1, h2, h⟩ | ⟨h1, h2, h⟩ | ⟨h1, h2, h⟩
    · exact absurd h1 (by decide)
    · exact absurd h1 (by decide)
    · exact absurd h1 (by decide)
    · exact absurd h1 (by decide)
    · exact absurd h1 (by decide)
theorem MET_X11_kind (A : AL) (σ : SG) (as : List Value) (post : SG → Int32 → Prop) (h : IN_X11_kind A σ as post) : MI l D cI cG base b yX11_kind cX11_kind 3 (some .int) (rmd 2) A σ as post := MI_of rfl lkb_X11_kind.2.2.2.2 h.2.1 ⟨rfl, rfl, by decide, by decide⟩ CTOK_X11_kind h.2.2
end MC_X11_kind
section MC_X11_seconds
variable {l : Launch} {D : va_G} {cI cG : ClassId} {base b : Nat}
theorem CTOK_X11_seconds : CTOK l (rmd 3) D cI cG base b RX11 CT_X11_seconds := by
  refine ⟨?_, ?_, ?_, ?_⟩
  · intro idx A σ as post h
    rcases h with ⟨h1, h2, h⟩ | ⟨h1, h2, h⟩ | ⟨h1, h2, h⟩
    · exact absurd h1 (by decide)
    · exact absurd h1 (by decide)
    · exact absurd h1 (by decide)
  · intro idx A σ as post h
    rcases h with ⟨h1, h2, h⟩ | ⟨h1, h2, h⟩ | ⟨h1, h2, h⟩
    · exact absurd h1 (by decide)
    · exact absurd h1 (by decide)
    · exact absurd h1 (by decide)
  · intro idx k A σ as post h
    rcases h with ⟨h1, h2, h⟩ | ⟨h1, h2, h⟩ | ⟨h1, h2, h⟩
    · subst h2
      obtain ⟨k9, as9, e9, hlen, hk1, hk2, hk3⟩ := h.1
      cases e9
      exact ⟨yX5_has, cX5_has, 2, (some .boolean), (rmd 1), by rw [hlen]; exact lkb_X5_has, lnk_X11_157, vir_X5_has hk1 hk2 hk3, rfl, rfl, ⟨by decide, by decide⟩, MET_X5_has _ _ _ _ h⟩
    · subst h2
      obtain ⟨k9, as9, e9, hlen, hk1, hk2, hk3⟩ := h.1
      cases e9
      exact ⟨yX11_refuse, cX11_refuse, 3, (some .int), (rmd 1), by rw [hlen]; exact lkb_X11_refuse, lnk_X11_108, vir_X11_refuse hk1 hk2 hk3, rfl, rfl, ⟨by decide, by decide⟩, MET_X11_refuse _ _ _ _ h⟩
    · subst h2
      obtain ⟨k9, as9, e9, hlen, hk1, hk2, hk3⟩ := h.1
      cases e9
      exact ⟨yX2_rowTime, cX2_rowTime, 5, (some .int), (rmd 2), by rw [hlen]; exact lkb_X2_rowTime, lnk_X11_207, vir_X2_rowTime hk1 hk2 hk3, rfl, rfl, ⟨by decide, by decide⟩, MET_X2_rowTime _ _ _ _ h⟩
  · intro idx k A σ as post h
    rcases h with ⟨h1, h2, h⟩ | ⟨h1, h2, h⟩ | ⟨h1, h2, h⟩
    · exact absurd h1 (by decide)
    · exact absurd h1 (by decide)
    · exact absurd h1 (by decide)
theorem MET_X11_seconds (A : AL) (σ : SG) (as : List Value) (post : SG → Int32 → Prop) (h : IN_X11_seconds A σ as post) : MI l D cI cG base b yX11_seconds cX11_seconds 2 (some .int) (rmd 3) A σ as post := MI_of rfl lkb_X11_seconds.2.2.2.2 h.2.1 ⟨rfl, rfl, by decide, by decide⟩ CTOK_X11_seconds h.2.2
end MC_X11_seconds
section MC_X11_mean
variable {l : Launch} {D : va_G} {cI cG : ClassId} {base b : Nat}
theorem CTOK_X11_mean : CTOK l (rmd 3) D cI cG base b RX11 CT_X11_mean := by
  refine ⟨?_, ?_, ?_, ?_⟩
  · intro idx A σ as post h
    rcases h with ⟨h1, h2, h⟩ | ⟨h1, h2, h⟩ | ⟨h1, h2, h⟩
    · exact absurd h1 (by decide)
    · exact absurd h1 (by decide)
    · exact absurd h1 (by decide)
  · intro idx A σ as post h
    rcases h with ⟨h1, h2, h⟩ | ⟨h1, h2, h⟩ | ⟨h1, h2, h⟩
    · exact absurd h1 (by decide)
    · exact absurd h1 (by decide)
    · exact absurd h1 (by decide)
  · intro idx k A σ as post h
    rcases h with ⟨h1, h2, h⟩ | ⟨h1, h2, h⟩ | ⟨h1, h2, h⟩
    · subst h2
      obtain ⟨k9, as9, e9, hlen, hk1, hk2, hk3⟩ := h.1
      cases e9
      exact ⟨yX5_has, cX5_has, 2, (some .boolean), (rmd 1), by rw [hlen]; exact lkb_X5_has, lnk_X11_157, vir_X5_has hk1 hk2 hk3, rfl, rfl, ⟨by decide, by decide⟩, MET_X5_has _ _ _ _ h⟩
    · subst h2
      obtain ⟨k9, as9, e9, hlen, hk1, hk2, hk3⟩ := h.1
      cases e9
      exact ⟨yX11_refuse, cX11_refuse, 3, (some .int), (rmd 1), by rw [hlen]; exact lkb_X11_refuse, lnk_X11_108, vir_X11_refuse hk1 hk2 hk3, rfl, rfl, ⟨by decide, by decide⟩, MET_X11_refuse _ _ _ _ h⟩
    · subst h2
      obtain ⟨k9, as9, e9, hlen, hk1, hk2, hk3⟩ := h.1
      cases e9
      exact ⟨yX2_rowTime, cX2_rowTime, 5, (some .int), (rmd 2), by rw [hlen]; exact lkb_X2_rowTime, lnk_X11_207, vir_X2_rowTime hk1 hk2 hk3, rfl, rfl, ⟨by decide, by decide⟩, MET_X2_rowTime _ _ _ _ h⟩
  · intro idx k A σ as post h
    rcases h with ⟨h1, h2, h⟩ | ⟨h1, h2, h⟩ | ⟨h1, h2, h⟩
    · exact absurd h1 (by decide)
    · exact absurd h1 (by decide)
    · exact absurd h1 (by decide)
theorem MET_X11_mean (A : AL) (σ : SG) (as : List Value) (post : SG → Int32 → Prop) (h : IN_X11_mean A σ as post) : MI l D cI cG base b yX11_mean cX11_mean 2 (some .int) (rmd 3) A σ as post := MI_of rfl lkb_X11_mean.2.2.2.2 h.2.1 ⟨rfl, rfl, by decide, by decide⟩ CTOK_X11_mean h.2.2
end MC_X11_mean
section MC_X11_drawn
variable {l : Launch} {D : va_G} {cI cG : ClassId} {base b : Nat}
theorem CTOK_X11_drawn : CTOK l (rmd 3) D cI cG base b RX11 CT_X11_drawn := by
  refine ⟨?_, ?_, ?_, ?_⟩
  · intro idx A σ as post h
    rcases h with ⟨h1, h2, h⟩ | ⟨h1, h2, h⟩ | ⟨h1, h2, h⟩ | ⟨h1, h2, h⟩
    · exact absurd h1 (by decide)
    · exact absurd h1 (by decide)
    · exact absurd h1 (by decide)
    · exact absurd h1 (by decide)
  · intro idx A σ as post h
    rcases h with ⟨h1, h2, h⟩ | ⟨h1, h2, h⟩ | ⟨h1, h2, h⟩ | ⟨h1, h2, h⟩
    · exact absurd h1 (by decide)
    · exact absurd h1 (by decide)
    · exact absurd h1 (by decide)
    · exact absurd h1 (by decide)
  · intro idx k A σ as post h
    rcases h with ⟨h1, h2, h⟩ | ⟨h1, h2, h⟩ | ⟨h1, h2, h⟩ | ⟨h1, h2, h⟩
    · subst h2
      obtain ⟨k9, as9, e9, hlen, hk1, hk2, hk3⟩ := h.1
      cases e9
      exact ⟨yX5_has, cX5_has, 2, (some .boolean), (rmd 1), by rw [hlen]; exact lkb_X5_has, lnk_X11_157, vir_X5_has hk1 hk2 hk3, rfl, rfl, ⟨by decide, by decide⟩, MET_X5_has _ _ _ _ h⟩
    · subst h2
      obtain ⟨k9, as9, e9, hlen, hk1, hk2, hk3⟩ := h.1
      cases e9
      exact ⟨yX11_refuse, cX11_refuse, 3, (some .int), (rmd 1), by rw [hlen]; exact lkb_X11_refuse, lnk_X11_108, vir_X11_refuse hk1 hk2 hk3, rfl, rfl, ⟨by decide, by decide⟩, MET_X11_refuse _ _ _ _ h⟩
    · subst h2
      obtain ⟨k9, as9, e9, hlen, hk1, hk2, hk3⟩ := h.1
      cases e9
      exact ⟨yX2_rowTime, cX2_rowTime, 5, (some .int), (rmd 2), by rw [hlen]; exact lkb_X2_rowTime, lnk_X11_207, vir_X2_rowTime hk1 hk2 hk3, rfl, rfl, ⟨by decide, by decide⟩, MET_X2_rowTime _ _ _ _ h⟩
    · subst h2
      obtain ⟨k9, as9, e9, hlen, hk1, hk2, hk3⟩ := h.1
      cases e9
      exact ⟨yX2_locksDrawn, cX2_locksDrawn, 6, (some .int), (rmd 1), by rw [hlen]; exact lkb_X2_locksDrawn, lnk_X11_211, vir_X2_locksDrawn hk1 hk2 hk3, rfl, rfl, ⟨by decide, by decide⟩, MET_X2_locksDrawn _ _ _ _ h⟩
  · intro idx k A σ as post h
    rcases h with ⟨h1, h2, h⟩ | ⟨h1, h2, h⟩ | ⟨h1, h2, h⟩ | ⟨h1, h2, h⟩
    · exact absurd h1 (by decide)
    · exact absurd h1 (by decide)
    · exact absurd h1 (by decide)
    · exact absurd h1 (by decide)
theorem MET_X11_drawn (A : AL) (σ : SG) (as : List Value) (post : SG → Int32 → Prop) (h : IN_X11_drawn A σ as post) : MI l D cI cG base b yX11_drawn cX11_drawn 3 (some .int) (rmd 3) A σ as post := MI_of rfl lkb_X11_drawn.2.2.2.2 h.2.1 ⟨rfl, rfl, by decide, by decide⟩ CTOK_X11_drawn h.2.2
end MC_X11_drawn
section MC_X11_better
variable {l : Launch} {D : va_G} {cI cG : ClassId} {base b : Nat}
theorem CTOK_X11_better : CTOK l (rmd 11) D cI cG base b RX11 CT_X11_better := by
  refine ⟨?_, ?_, ?_, ?_⟩
  · intro idx A σ as post h
    rcases h with ⟨h1, h2, h⟩ | ⟨h1, h2, h⟩ | ⟨h1, h2, h⟩ | ⟨h1, h2, h⟩ | ⟨h1, h2, h⟩
    · exact absurd h1 (by decide)
    · exact absurd h1 (by decide)
    · subst h2
      have hlen := h.1
      exact ⟨yX11_outside, cX11_outside, 3, (some .int), (rmd 1), by rw [hlen]; exact lkb_X11_outside, lnk_X11_104, sta_X11_outside, rfl, rfl, ⟨by decide, by decide⟩, MET_X11_outside _ _ _ _ h⟩
    · exact absurd h1 (by decide)
    · exact absurd h1 (by decide)
  · intro idx A σ as post h
    rcases h with ⟨h1, h2, h⟩ | ⟨h1, h2, h⟩ | ⟨h1, h2, h⟩ | ⟨h1, h2, h⟩ | ⟨h1, h2, h⟩
    · exact absurd h1 (by decide)
    · exact absurd h1 (by decide)
    · exact absurd h1 (by decide)
    · exact absurd h1 (by decide)
    · exact absurd h1 (by decide)
  · intro idx k A σ as post h
    rcases h with ⟨h1, h2, h⟩ | ⟨h1, h2, h⟩ | ⟨h1, h2, h⟩ | ⟨h1, h2, h⟩ | ⟨h1, h2, h⟩
    · subst h2
      obtain ⟨k9, as9, e9, hlen, hk1, hk2, hk3⟩ := h.1
      cases e9
      exact ⟨yX5_has, cX5_has, 2, (some .boolean), (rmd 1), by rw [hlen]; exact lkb_X5_has, lnk_X11_157, vir_X5_has hk1 hk2 hk3, rfl, rfl, ⟨by decide, by decide⟩, MET_X5_has _ _ _ _ h⟩
    · subst h2
      obtain ⟨k9, as9, e9, hlen, hk1, hk2, hk3⟩ := h.1
      cases e9
      exact ⟨yX11_refuse, cX11_refuse, 3, (some .int), (rmd 1), by rw [hlen]; exact lkb_X11_refuse, lnk_X11_108, vir_X11_refuse hk1 hk2 hk3, rfl, rfl, ⟨by decide, by decide⟩, MET_X11_refuse _ _ _ _ h⟩
    · exact absurd h1 (by decide)
    · subst h2
      obtain ⟨k9, as9, e9, hlen, hk1, hk2, hk3⟩ := h.1
      cases e9
      exact ⟨yX5_solvedFrom, cX5_solvedFrom, 3, (some .int), (rmd 3), by rw [hlen]; exact lkb_X5_solvedFrom, lnk_X11_214, vir_X5_solvedFrom hk1 hk2 hk3, rfl, rfl, ⟨by decide, by decide⟩, MET_X5_solvedFrom _ _ _ _ h⟩
    · subst h2
      obtain ⟨k9, as9, e9, hlen, hk1, hk2, hk3⟩ := h.1
      cases e9
      exact ⟨yX1_leastTime, cX1_leastTime, 3, (some .int), (rmd 10), by rw [hlen]; exact lkb_X1_leastTime, lnk_X11_217, vir_X1_leastTime hk1 hk2 hk3, rfl, rfl, ⟨by decide, by decide⟩, MET_X1_leastTime _ _ _ _ h⟩
  · intro idx k A σ as post h
    rcases h with ⟨h1, h2, h⟩ | ⟨h1, h2, h⟩ | ⟨h1, h2, h⟩ | ⟨h1, h2, h⟩ | ⟨h1, h2, h⟩
    · exact absurd h1 (by decide)
    · exact absurd h1 (by decide)
    · exact absurd h1 (by decide)
    · exact absurd h1 (by decide)
    · exact absurd h1 (by decide)
theorem MET_X11_better (A : AL) (σ : SG) (as : List Value) (post : SG → Int32 → Prop) (h : IN_X11_better A σ as post) : MI l D cI cG base b yX11_better cX11_better 5 (some .int) (rmd 11) A σ as post := MI_of rfl lkb_X11_better.2.2.2.2 h.2.1 ⟨rfl, rfl, by decide, by decide⟩ CTOK_X11_better h.2.2
end MC_X11_better
section MC_X11_found
variable {l : Launch} {D : va_G} {cI cG : ClassId} {base b : Nat}
theorem CTOK_X11_found : CTOK l (rmd 1) D cI cG base b RX11 CT0 := by
  exact CTOK0
theorem MET_X11_found (A : AL) (σ : SG) (as : List Value) (post : SG → Int32 → Prop) (h : IN_X11_found A σ as post) : MI l D cI cG base b yX11_found cX11_found 2 (some .int) (rmd 1) A σ as post := MI_of rfl lkb_X11_found.2.2.2.2 h.2.1 ⟨rfl, rfl, by decide, by decide⟩ CTOK_X11_found h.2.2
end MC_X11_found
section MC_X11_fewest
variable {l : Launch} {D : va_G} {cI cG : ClassId} {base b : Nat}
theorem CTOK_X11_fewest : CTOK l (rmd 1) D cI cG base b RX11 CT0 := by
  exact CTOK0
theorem MET_X11_fewest (A : AL) (σ : SG) (as : List Value) (post : SG → Int32 → Prop) (h : IN_X11_fewest A σ as post) : MI l D cI cG base b yX11_fewest cX11_fewest 1 (some .int) (rmd 1) A σ as post := MI_of rfl lkb_X11_fewest.2.2.2.2 h.2.1 ⟨rfl, rfl, by decide, by decide⟩ CTOK_X11_fewest h.2.2
end MC_X11_fewest
section MC_X11_first
variable {l : Launch} {D : va_G} {cI cG : ClassId} {base b : Nat}
theorem CTOK_X11_first : CTOK l (rmd 2) D cI cG base b RX11 CT_X11_first := by
  refine ⟨?_, ?_, ?_, ?_⟩
  · intro idx A σ as post h
    rcases h with ⟨h1, h2, h⟩
    · exact absurd h1 (by decide)
  · intro idx A σ as post h
    rcases h with ⟨h1, h2, h⟩
    · exact absurd h1 (by decide)
  · intro idx k A σ as post h
    rcases h with ⟨h1, h2, h⟩
    · subst h2
      obtain ⟨k9, as9, e9, hlen, hk1, hk2, hk3⟩ := h.1
      cases e9
      exact ⟨yX9_firstTowardsSolved, cX9_firstTowardsSolved, 3, (some .int), (rmd 1), by rw [hlen]; exact lkb_X9_firstTowardsSolved, lnk_X11_229, vir_X9_firstTowardsSolved hk1 hk2 hk3, rfl, rfl, ⟨by decide, by decide⟩, MET_X9_firstTowardsSolved _ _ _ _ h⟩
  · intro idx k A σ as post h
    rcases h with ⟨h1, h2, h⟩
    · exact absurd h1 (by decide)
theorem MET_X11_first (A : AL) (σ : SG) (as : List Value) (post : SG → Int32 → Prop) (h : IN_X11_first A σ as post) : MI l D cI cG base b yX11_first cX11_first 1 (some .int) (rmd 2) A σ as post := MI_of rfl lkb_X11_first.2.2.2.2 h.2.1 ⟨rfl, rfl, by decide, by decide⟩ CTOK_X11_first h.2.2
end MC_X11_first
section MC_X11_step
variable {l : Launch} {D : va_G} {cI cG : ClassId} {base b : Nat}
theorem CTOK_X11_step : CTOK l (rmd 2) D cI cG base b RX11 CT_X11_step := by
  refine ⟨?_, ?_, ?_, ?_⟩
  · intro idx A σ as post h
    rcases h with ⟨h1, h2, h⟩ | ⟨h1, h2, h⟩
    · exact absurd h1 (by decide)
    · exact absurd h1 (by decide)
  · intro idx A σ as post h
    rcases h with ⟨h1, h2, h⟩ | ⟨h1, h2, h⟩
    · exact absurd h1 (by decide)
    · exact absurd h1 (by decide)
  · intro idx k A σ as post h
    rcases h with ⟨h1, h2, h⟩ | ⟨h1, h2, h⟩
    · subst h2
      obtain ⟨k9, as9, e9, hlen, hk1, hk2, hk3⟩ := h.1
      cases e9
      exact ⟨yX11_refuse, cX11_refuse, 3, (some .int), (rmd 1), by rw [hlen]; exact lkb_X11_refuse, lnk_X11_108, vir_X11_refuse hk1 hk2 hk3, rfl, rfl, ⟨by decide, by decide⟩, MET_X11_refuse _ _ _ _ h⟩
    · exact absurd h1 (by decide)
  · intro idx k A σ as post h
    rcases h with ⟨h1, h2, h⟩ | ⟨h1, h2, h⟩
    · exact absurd h1 (by decide)
    · subst h2
      obtain ⟨k9, as9, e9, hlen, hk1, hk2, hk3⟩ := h.1
      cases e9
      exact ⟨yX10_add, cX10_add, 3, (rmd 1), by rw [hlen]; exact lkb_X10_add, lnk_X11_233, vir_X10_add hk1 hk2 hk3, rfl, rfl, ⟨by decide, by decide⟩, MET_X10_add _ _ _ _ h⟩
theorem MET_X11_step (A : AL) (σ : SG) (as : List Value) (post : SG → Int32 → Prop) (h : IN_X11_step A σ as post) : MI l D cI cG base b yX11_step cX11_step 3 (some .int) (rmd 2) A σ as post := MI_of rfl lkb_X11_step.2.2.2.2 h.2.1 ⟨rfl, rfl, by decide, by decide⟩ CTOK_X11_step h.2.2
end MC_X11_step
section MC_X11_tried
variable {l : Launch} {D : va_G} {cI cG : ClassId} {base b : Nat}
theorem CTOK_X11_tried : CTOK l (rmd 3) D cI cG base b RX11 CT_X11_tried := by
  refine ⟨?_, ?_, ?_, ?_⟩
  · intro idx A σ as post h
    rcases h with ⟨h1, h2, h⟩
    · exact absurd h1 (by decide)
  · intro idx A σ as post h
    rcases h with ⟨h1, h2, h⟩
    · exact absurd h1 (by decide)
  · intro idx k A σ as post h
    rcases h with ⟨h1, h2, h⟩
    · exact absurd h1 (by decide)
  · intro idx k A σ as post h
    rcases h with ⟨h1, h2, h⟩
    · subst h2
      obtain ⟨k9, as9, e9, hlen, hk1, hk2, hk3⟩ := h.1
      cases e9
      exact ⟨yX10_tryFrom, cX10_tryFrom, 7, (rmd 2), by rw [hlen]; exact lkb_X10_tryFrom, lnk_X11_236, vir_X10_tryFrom hk1 hk2 hk3, rfl, rfl, ⟨by decide, by decide⟩, MET_X10_tryFrom _ _ _ _ h⟩
theorem MET_X11_tried (A : AL) (σ : SG) (as : List Value) (post : SG → Int32 → Prop) (h : IN_X11_tried A σ as post) : MI l D cI cG base b yX11_tried cX11_tried 1 (some .int) (rmd 3) A σ as post := MI_of rfl lkb_X11_tried.2.2.2.2 h.2.1 ⟨rfl, rfl, by decide, by decide⟩ CTOK_X11_tried h.2.2
end MC_X11_tried
section MC_X11_triedRow
variable {l : Launch} {D : va_G} {cI cG : ClassId} {base b : Nat}
theorem CTOK_X11_triedRow : CTOK l (rmd 3) D cI cG base b RX11 CT_X11_triedRow := by
  refine ⟨?_, ?_, ?_, ?_⟩
  · intro idx A σ as post h
    rcases h with ⟨h1, h2, h⟩ | ⟨h1, h2, h⟩ | ⟨h1, h2, h⟩
    · exact absurd h1 (by decide)
    · exact absurd h1 (by decide)
    · exact absurd h1 (by decide)
  · intro idx A σ as post h
    rcases h with ⟨h1, h2, h⟩ | ⟨h1, h2, h⟩ | ⟨h1, h2, h⟩
    · exact absurd h1 (by decide)
    · exact absurd h1 (by decide)
    · exact absurd h1 (by decide)
  · intro idx k A σ as post h
    rcases h with ⟨h1, h2, h⟩ | ⟨h1, h2, h⟩ | ⟨h1, h2, h⟩
    · subst h2
      obtain ⟨k9, as9, e9, hlen, hk1, hk2, hk3⟩ := h.1
      cases e9
      exact ⟨yX10_has, cX10_has, 2, (some .boolean), (rmd 1), by rw [hlen]; exact lkb_X10_has, lnk_X11_243, vir_X10_has hk1 hk2 hk3, rfl, rfl, ⟨by decide, by decide⟩, MET_X10_has _ _ _ _ h⟩
    · subst h2
      obtain ⟨k9, as9, e9, hlen, hk1, hk2, hk3⟩ := h.1
      cases e9
      exact ⟨yX11_refuse, cX11_refuse, 3, (some .int), (rmd 1), by rw [hlen]; exact lkb_X11_refuse, lnk_X11_108, vir_X11_refuse hk1 hk2 hk3, rfl, rfl, ⟨by decide, by decide⟩, MET_X11_refuse _ _ _ _ h⟩
    · exact absurd h1 (by decide)
  · intro idx k A σ as post h
    rcases h with ⟨h1, h2, h⟩ | ⟨h1, h2, h⟩ | ⟨h1, h2, h⟩
    · exact absurd h1 (by decide)
    · exact absurd h1 (by decide)
    · subst h2
      obtain ⟨k9, as9, e9, hlen, hk1, hk2, hk3⟩ := h.1
      cases e9
      exact ⟨yX10_tryFrom, cX10_tryFrom, 7, (rmd 2), by rw [hlen]; exact lkb_X10_tryFrom, lnk_X11_236, vir_X10_tryFrom hk1 hk2 hk3, rfl, rfl, ⟨by decide, by decide⟩, MET_X10_tryFrom _ _ _ _ h⟩
theorem MET_X11_triedRow (A : AL) (σ : SG) (as : List Value) (post : SG → Int32 → Prop) (h : IN_X11_triedRow A σ as post) : MI l D cI cG base b yX11_triedRow cX11_triedRow 2 (some .int) (rmd 3) A σ as post := MI_of rfl lkb_X11_triedRow.2.2.2.2 h.2.1 ⟨rfl, rfl, by decide, by decide⟩ CTOK_X11_triedRow h.2.2
end MC_X11_triedRow
section MC_X11_solves
variable {l : Launch} {D : va_G} {cI cG : ClassId} {base b : Nat}
theorem CTOK_X11_solves : CTOK l (rmd 4) D cI cG base b RX11 CT_X11_solves := by
  refine ⟨?_, ?_, ?_, ?_⟩
  · intro idx A σ as post h
    rcases h with ⟨h1, h2, h⟩
    · exact absurd h1 (by decide)
  · intro idx A σ as post h
    rcases h with ⟨h1, h2, h⟩
    · exact absurd h1 (by decide)
  · intro idx k A σ as post h
    rcases h with ⟨h1, h2, h⟩
    · subst h2
      obtain ⟨k9, as9, e9, hlen, hk1, hk2, hk3⟩ := h.1
      cases e9
      exact ⟨yX10_solved, cX10_solved, 4, (some .int), (rmd 3), by rw [hlen]; exact lkb_X10_solved, lnk_X11_247, vir_X10_solved hk1 hk2 hk3, rfl, rfl, ⟨by decide, by decide⟩, MET_X10_solved _ _ _ _ h⟩
  · intro idx k A σ as post h
    rcases h with ⟨h1, h2, h⟩
    · exact absurd h1 (by decide)
theorem MET_X11_solves (A : AL) (σ : SG) (as : List Value) (post : SG → Int32 → Prop) (h : IN_X11_solves A σ as post) : MI l D cI cG base b yX11_solves cX11_solves 1 (some .int) (rmd 4) A σ as post := MI_of rfl lkb_X11_solves.2.2.2.2 h.2.1 ⟨rfl, rfl, by decide, by decide⟩ CTOK_X11_solves h.2.2
end MC_X11_solves
section MC_X11_lacks
variable {l : Launch} {D : va_G} {cI cG : ClassId} {base b : Nat}
theorem CTOK_X11_lacks : CTOK l (rmd 3) D cI cG base b RX11 CT_X11_lacks := by
  refine ⟨?_, ?_, ?_, ?_⟩
  · intro idx A σ as post h
    rcases h with ⟨h1, h2, h⟩ | ⟨h1, h2, h⟩
    · exact absurd h1 (by decide)
    · exact absurd h1 (by decide)
  · intro idx A σ as post h
    rcases h with ⟨h1, h2, h⟩ | ⟨h1, h2, h⟩
    · exact absurd h1 (by decide)
    · exact absurd h1 (by decide)
  · intro idx k A σ as post h
    rcases h with ⟨h1, h2, h⟩ | ⟨h1, h2, h⟩
    · exact absurd h1 (by decide)
    · subst h2
      obtain ⟨k9, as9, e9, hlen, hk1, hk2, hk3⟩ := h.1
      cases e9
      exact ⟨yX8_solved, cX8_solved, 1, (some .boolean), (rmd 1), by rw [hlen]; exact lkb_X8_solved, lnk_X11_251, vir_X8_solved hk1 hk2 hk3, rfl, rfl, ⟨by decide, by decide⟩, MET_X8_solved _ _ _ _ h⟩
  · intro idx k A σ as post h
    rcases h with ⟨h1, h2, h⟩ | ⟨h1, h2, h⟩
    · subst h2
      obtain ⟨k9, as9, e9, hlen, hk1, hk2, hk3⟩ := h.1
      cases e9
      exact ⟨yX10_tryFrom, cX10_tryFrom, 7, (rmd 2), by rw [hlen]; exact lkb_X10_tryFrom, lnk_X11_236, vir_X10_tryFrom hk1 hk2 hk3, rfl, rfl, ⟨by decide, by decide⟩, MET_X10_tryFrom _ _ _ _ h⟩
    · exact absurd h1 (by decide)
theorem MET_X11_lacks (A : AL) (σ : SG) (as : List Value) (post : SG → Int32 → Prop) (h : IN_X11_lacks A σ as post) : MI l D cI cG base b yX11_lacks cX11_lacks 2 (some .int) (rmd 3) A σ as post := MI_of rfl lkb_X11_lacks.2.2.2.2 h.2.1 ⟨rfl, rfl, by decide, by decide⟩ CTOK_X11_lacks h.2.2
end MC_X11_lacks
section MC_X11_leastTerms
variable {l : Launch} {D : va_G} {cI cG : ClassId} {base b : Nat}
theorem CTOK_X11_leastTerms : CTOK l (rmd 1) D cI cG base b RX11 CT0 := by
  exact CTOK0
theorem MET_X11_leastTerms (A : AL) (σ : SG) (as : List Value) (post : SG → Int32 → Prop) (h : IN_X11_leastTerms A σ as post) : MI l D cI cG base b yX11_leastTerms cX11_leastTerms 4 (some .int) (rmd 1) A σ as post := MI_of rfl lkb_X11_leastTerms.2.2.2.2 h.2.1 ⟨rfl, rfl, by decide, by decide⟩ CTOK_X11_leastTerms h.2.2
end MC_X11_leastTerms
section MC_X11_luck
variable {l : Launch} {D : va_G} {cI cG : ClassId} {base b : Nat}
theorem CTOK_X11_luck : CTOK l (rmd 3) D cI cG base b RX11 CT_X11_luck := by
  refine ⟨?_, ?_, ?_, ?_⟩
  · intro idx A σ as post h
    rcases h with ⟨h1, h2, h⟩ | ⟨h1, h2, h⟩ | ⟨h1, h2, h⟩ | ⟨h1, h2, h⟩ | ⟨h1, h2, h⟩ | ⟨h1, h2, h⟩
    · exact absurd h1 (by decide)
    · exact absurd h1 (by decide)
    · exact absurd h1 (by decide)
    · exact absurd h1 (by decide)
    · exact absurd h1 (by decide)
    · subst h2
      have hlen := h.1
      exact ⟨yX11_leastTerms, cX11_leastTerms, 4, (some .int), (rmd 1), by rw [hlen]; exact lkb_X11_leastTerms, lnk_X11_260, sta_X11_leastTerms, rfl, rfl, ⟨by decide, by decide⟩, MET_X11_leastTerms _ _ _ _ h⟩
  · intro idx A σ as post h
    rcases h with ⟨h1, h2, h⟩ | ⟨h1, h2, h⟩ | ⟨h1, h2, h⟩ | ⟨h1, h2, h⟩ | ⟨h1, h2, h⟩ | ⟨h1, h2, h⟩
    · exact absurd h1 (by decide)
    · exact absurd h1 (by decide)
    · exact absurd h1 (by decide)
    · exact absurd h1 (by decide)
    · exact absurd h1 (by decide)
    · exact absurd h1 (by decide)
  · intro idx k A σ as post h
    rcases h with ⟨h1, h2, h⟩ | ⟨h1, h2, h⟩ | ⟨h1, h2, h⟩ | ⟨h1, h2, h⟩ | ⟨h1, h2, h⟩ | ⟨h1, h2, h⟩
    · subst h2
      obtain ⟨k9, as9, e9, hlen, hk1, hk2, hk3⟩ := h.1
      cases e9
      exact ⟨yX10_has, cX10_has, 2, (some .boolean), (rmd 1), by rw [hlen]; exact lkb_X10_has, lnk_X11_243, vir_X10_has hk1 hk2 hk3, rfl, rfl, ⟨by decide, by decide⟩, MET_X10_has _ _ _ _ h⟩
    · subst h2
      obtain ⟨k9, as9, e9, hlen, hk1, hk2, hk3⟩ := h.1
      cases e9
      exact ⟨yX11_refuse, cX11_refuse, 3, (some .int), (rmd 1), by rw [hlen]; exact lkb_X11_refuse, lnk_X11_108, vir_X11_refuse hk1 hk2 hk3, rfl, rfl, ⟨by decide, by decide⟩, MET_X11_refuse _ _ _ _ h⟩
    · exact absurd h1 (by decide)
    · subst h2
      obtain ⟨k9, as9, e9, hlen, hk1, hk2, hk3⟩ := h.1
      cases e9
      exact ⟨yX8_comesTo, cX8_comesTo, 2, (some .boolean), (rmd 1), by rw [hlen]; exact lkb_X8_comesTo, lnk_X11_254, vir_X8_comesTo hk1 hk2 hk3, rfl, rfl, ⟨by decide, by decide⟩, MET_X8_comesTo _ _ _ _ h⟩
    · subst h2
      obtain ⟨k9, as9, e9, hlen, hk1, hk2, hk3⟩ := h.1
      cases e9
      exact ⟨yX8_needsNone, cX8_needsNone, 2, (some .boolean), (rmd 1), by rw [hlen]; exact lkb_X8_needsNone, lnk_X11_257, vir_X8_needsNone hk1 hk2 hk3, rfl, rfl, ⟨by decide, by decide⟩, MET_X8_needsNone _ _ _ _ h⟩
    · exact absurd h1 (by decide)
  · intro idx k A σ as post h
    rcases h with ⟨h1, h2, h⟩ | ⟨h1, h2, h⟩ | ⟨h1, h2, h⟩ | ⟨h1, h2, h⟩ | ⟨h1, h2, h⟩ | ⟨h1, h2, h⟩
    · exact absurd h1 (by decide)
    · exact absurd h1 (by decide)
    · subst h2
      obtain ⟨k9, as9, e9, hlen, hk1, hk2, hk3⟩ := h.1
      cases e9
      exact ⟨yX10_tryFrom, cX10_tryFrom, 7, (rmd 2), by rw [hlen]; exact lkb_X10_tryFrom, lnk_X11_236, vir_X10_tryFrom hk1 hk2 hk3, rfl, rfl, ⟨by decide, by decide⟩, MET_X10_tryFrom _ _ _ _ h⟩
    · exact absurd h1 (by decide)
    · exact absurd h1 (by decide)
    · exact absurd h1 (by decide)
theorem MET_X11_luck (A : AL) (σ : SG) (as : List Value) (post : SG → Int32 → Prop) (h : IN_X11_luck A σ as post) : MI l D cI cG base b yX11_luck cX11_luck 6 (some .int) (rmd 3) A σ as post := MI_of rfl lkb_X11_luck.2.2.2.2 h.2.1 ⟨rfl, rfl, by decide, by decide⟩ CTOK_X11_luck h.2.2
end MC_X11_luck
section MC_X11_see
variable {l : Launch} {D : va_G} {cI cG : ClassId} {base b : Nat}
theorem CTOK_X11_see : CTOK l (rmd 2) D cI cG base b RX11 CT_X11_see := by
  refine ⟨?_, ?_, ?_, ?_⟩
  · intro idx A σ as post h
    rcases h with ⟨h1, h2, h⟩ | ⟨h1, h2, h⟩ | ⟨h1, h2, h⟩ | ⟨h1, h2, h⟩
    · exact absurd h1 (by decide)
    · exact absurd h1 (by decide)
    · subst h2
      have hlen := h.1
      exact ⟨yX11_outside, cX11_outside, 3, (some .int), (rmd 1), by rw [hlen]; exact lkb_X11_outside, lnk_X11_104, sta_X11_outside, rfl, rfl, ⟨by decide, by decide⟩, MET_X11_outside _ _ _ _ h⟩
    · subst h2
      have hlen := h.1
      exact ⟨yX11_exchange, cX11_exchange, 4, (some .int), (rmd 1), by rw [hlen]; exact lkb_X11_exchange, lnk_X11_190, sta_X11_exchange, rfl, rfl, ⟨by decide, by decide⟩, MET_X11_exchange _ _ _ _ h⟩
  · intro idx A σ as post h
    rcases h with ⟨h1, h2, h⟩ | ⟨h1, h2, h⟩ | ⟨h1, h2, h⟩ | ⟨h1, h2, h⟩
    · exact absurd h1 (by decide)
    · exact absurd h1 (by decide)
    · exact absurd h1 (by decide)
    · exact absurd h1 (by decide)
  · intro idx k A σ as post h
    rcases h with ⟨h1, h2, h⟩ | ⟨h1, h2, h⟩ | ⟨h1, h2, h⟩ | ⟨h1, h2, h⟩
    · subst h2
      obtain ⟨k9, as9, e9, hlen, hk1, hk2, hk3⟩ := h.1
      cases e9
      exact ⟨yX10_has, cX10_has, 2, (some .boolean), (rmd 1), by rw [hlen]; exact lkb_X10_has, lnk_X11_243, vir_X10_has hk1 hk2 hk3, rfl, rfl, ⟨by decide, by decide⟩, MET_X10_has _ _ _ _ h⟩
    · subst h2
      obtain ⟨k9, as9, e9, hlen, hk1, hk2, hk3⟩ := h.1
      cases e9
      exact ⟨yX11_refuse, cX11_refuse, 3, (some .int), (rmd 1), by rw [hlen]; exact lkb_X11_refuse, lnk_X11_108, vir_X11_refuse hk1 hk2 hk3, rfl, rfl, ⟨by decide, by decide⟩, MET_X11_refuse _ _ _ _ h⟩
    · exact absurd h1 (by decide)
    · exact absurd h1 (by decide)
  · intro idx k A σ as post h
    rcases h with ⟨h1, h2, h⟩ | ⟨h1, h2, h⟩ | ⟨h1, h2, h⟩ | ⟨h1, h2, h⟩
    · exact absurd h1 (by decide)
    · exact absurd h1 (by decide)
    · exact absurd h1 (by decide)
    · exact absurd h1 (by decide)
theorem MET_X11_see (A : AL) (σ : SG) (as : List Value) (post : SG → Int32 → Prop) (h : IN_X11_see A σ as post) : MI l D cI cG base b yX11_see cX11_see 4 (some .int) (rmd 2) A σ as post := MI_of rfl lkb_X11_see.2.2.2.2 h.2.1 ⟨rfl, rfl, by decide, by decide⟩ CTOK_X11_see h.2.2
end MC_X11_see
section MC_X11_sum
variable {l : Launch} {D : va_G} {cI cG : ClassId} {base b : Nat}
theorem CTOK_X11_sum : CTOK l (rmd 4) D cI cG base b RX11 CT_X11_sum := by
  refine ⟨?_, ?_, ?_, ?_⟩
  · intro idx A σ as post h
    rcases h with ⟨h1, h2, h⟩ | ⟨h1, h2, h⟩ | ⟨h1, h2, h⟩ | ⟨h1, h2, h⟩
    · subst h2
      have hlen := h.1
      exact ⟨yX11_outside, cX11_outside, 3, (some .int), (rmd 1), by rw [hlen]; exact lkb_X11_outside, lnk_X11_104, sta_X11_outside, rfl, rfl, ⟨by decide, by decide⟩, MET_X11_outside _ _ _ _ h⟩
    · exact absurd h1 (by decide)
    · exact absurd h1 (by decide)
    · exact absurd h1 (by decide)
  · intro idx A σ as post h
    rcases h with ⟨h1, h2, h⟩ | ⟨h1, h2, h⟩ | ⟨h1, h2, h⟩ | ⟨h1, h2, h⟩
    · exact absurd h1 (by decide)
    · exact absurd h1 (by decide)
    · exact absurd h1 (by decide)
    · exact absurd h1 (by decide)
  · intro idx k A σ as post h
    rcases h with ⟨h1, h2, h⟩ | ⟨h1, h2, h⟩ | ⟨h1, h2, h⟩ | ⟨h1, h2, h⟩
    · exact absurd h1 (by decide)
    · subst h2
      obtain ⟨k9, as9, e9, hlen, hk1, hk2, hk3⟩ := h.1
      cases e9
      exact ⟨yX11_refuse, cX11_refuse, 3, (some .int), (rmd 1), by rw [hlen]; exact lkb_X11_refuse, lnk_X11_108, vir_X11_refuse hk1 hk2 hk3, rfl, rfl, ⟨by decide, by decide⟩, MET_X11_refuse _ _ _ _ h⟩
    · exact absurd h1 (by decide)
    · subst h2
      obtain ⟨k9, as9, e9, hlen, hk1, hk2, hk3⟩ := h.1
      cases e9
      exact ⟨yX10_sumOf, cX10_sumOf, 7, (some .int), (rmd 3), by rw [hlen]; exact lkb_X10_sumOf, lnk_X11_266, vir_X10_sumOf hk1 hk2 hk3, rfl, rfl, ⟨by decide, by decide⟩, MET_X10_sumOf _ _ _ _ h⟩
  · intro idx k A σ as post h
    rcases h with ⟨h1, h2, h⟩ | ⟨h1, h2, h⟩ | ⟨h1, h2, h⟩ | ⟨h1, h2, h⟩
    · exact absurd h1 (by decide)
    · exact absurd h1 (by decide)
    · subst h2
      obtain ⟨k9, as9, e9, hlen, hk1, hk2, hk3⟩ := h.1
      cases e9
      exact ⟨yX10_tryFrom, cX10_tryFrom, 7, (rmd 2), by rw [hlen]; exact lkb_X10_tryFrom, lnk_X11_236, vir_X10_tryFrom hk1 hk2 hk3, rfl, rfl, ⟨by decide, by decide⟩, MET_X10_tryFrom _ _ _ _ h⟩
    · exact absurd h1 (by decide)
theorem MET_X11_sum (A : AL) (σ : SG) (as : List Value) (post : SG → Int32 → Prop) (h : IN_X11_sum A σ as post) : MI l D cI cG base b yX11_sum cX11_sum 3 (some .int) (rmd 4) A σ as post := MI_of rfl lkb_X11_sum.2.2.2.2 h.2.1 ⟨rfl, rfl, by decide, by decide⟩ CTOK_X11_sum h.2.2
end MC_X11_sum
section MC_X11_bestPace
variable {l : Launch} {D : va_G} {cI cG : ClassId} {base b : Nat}
theorem CTOK_X11_bestPace : CTOK l (rmd 4) D cI cG base b RX11 CT_X11_bestPace := by
  refine ⟨?_, ?_, ?_, ?_⟩
  · intro idx A σ as post h
    rcases h with ⟨h1, h2, h⟩ | ⟨h1, h2, h⟩
    · exact absurd h1 (by decide)
    · exact absurd h1 (by decide)
  · intro idx A σ as post h
    rcases h with ⟨h1, h2, h⟩ | ⟨h1, h2, h⟩
    · exact absurd h1 (by decide)
    · exact absurd h1 (by decide)
  · intro idx k A σ as post h
    rcases h with ⟨h1, h2, h⟩ | ⟨h1, h2, h⟩
    · exact absurd h1 (by decide)
    · subst h2
      obtain ⟨k9, as9, e9, hlen, hk1, hk2, hk3⟩ := h.1
      cases e9
      exact ⟨yX10_sumOf, cX10_sumOf, 7, (some .int), (rmd 3), by rw [hlen]; exact lkb_X10_sumOf, lnk_X11_266, vir_X10_sumOf hk1 hk2 hk3, rfl, rfl, ⟨by decide, by decide⟩, MET_X10_sumOf _ _ _ _ h⟩
  · intro idx k A σ as post h
    rcases h with ⟨h1, h2, h⟩ | ⟨h1, h2, h⟩
    · subst h2
      obtain ⟨k9, as9, e9, hlen, hk1, hk2, hk3⟩ := h.1
      cases e9
      exact ⟨yX10_tryFrom, cX10_tryFrom, 7, (rmd 2), by rw [hlen]; exact lkb_X10_tryFrom, lnk_X11_236, vir_X10_tryFrom hk1 hk2 hk3, rfl, rfl, ⟨by decide, by decide⟩, MET_X10_tryFrom _ _ _ _ h⟩
    · exact absurd h1 (by decide)
theorem MET_X11_bestPace (A : AL) (σ : SG) (as : List Value) (post : SG → Int32 → Prop) (h : IN_X11_bestPace A σ as post) : MI l D cI cG base b yX11_bestPace cX11_bestPace 5 (some .int) (rmd 4) A σ as post := MI_of rfl lkb_X11_bestPace.2.2.2.2 h.2.1 ⟨rfl, rfl, by decide, by decide⟩ CTOK_X11_bestPace h.2.2
end MC_X11_bestPace
section MC_X11_learn
variable {l : Launch} {D : va_G} {cI cG : ClassId} {base b : Nat}
theorem CTOK_X11_learn : CTOK l (rmd 4) D cI cG base b RX11 CT_X11_learn := by
  refine ⟨?_, ?_, ?_, ?_⟩
  · intro idx A σ as post h
    rcases h with ⟨h1, h2, h⟩ | ⟨h1, h2, h⟩ | ⟨h1, h2, h⟩
    · exact absurd h1 (by decide)
    · exact absurd h1 (by decide)
    · exact absurd h1 (by decide)
  · intro idx A σ as post h
    rcases h with ⟨h1, h2, h⟩ | ⟨h1, h2, h⟩ | ⟨h1, h2, h⟩
    · exact absurd h1 (by decide)
    · exact absurd h1 (by decide)
    · exact absurd h1 (by decide)
  · intro idx k A σ as post h
    rcases h with ⟨h1, h2, h⟩ | ⟨h1, h2, h⟩ | ⟨h1, h2, h⟩
    · subst h2
      obtain ⟨k9, as9, e9, hlen, hk1, hk2, hk3⟩ := h.1
      cases e9
      exact ⟨yX10_has, cX10_has, 2, (some .boolean), (rmd 1), by rw [hlen]; exact lkb_X10_has, lnk_X11_243, vir_X10_has hk1 hk2 hk3, rfl, rfl, ⟨by decide, by decide⟩, MET_X10_has _ _ _ _ h⟩
    · subst h2
      obtain ⟨k9, as9, e9, hlen, hk1, hk2, hk3⟩ := h.1
      cases e9
      exact ⟨yX11_refuse, cX11_refuse, 3, (some .int), (rmd 1), by rw [hlen]; exact lkb_X11_refuse, lnk_X11_108, vir_X11_refuse hk1 hk2 hk3, rfl, rfl, ⟨by decide, by decide⟩, MET_X11_refuse _ _ _ _ h⟩
    · subst h2
      obtain ⟨k9, as9, e9, hlen, hk1, hk2, hk3⟩ := h.1
      cases e9
      exact ⟨yX10_solved, cX10_solved, 4, (some .int), (rmd 3), by rw [hlen]; exact lkb_X10_solved, lnk_X11_247, vir_X10_solved hk1 hk2 hk3, rfl, rfl, ⟨by decide, by decide⟩, MET_X10_solved _ _ _ _ h⟩
  · intro idx k A σ as post h
    rcases h with ⟨h1, h2, h⟩ | ⟨h1, h2, h⟩ | ⟨h1, h2, h⟩
    · exact absurd h1 (by decide)
    · exact absurd h1 (by decide)
    · exact absurd h1 (by decide)
theorem MET_X11_learn (A : AL) (σ : SG) (as : List Value) (post : SG → Int32 → Prop) (h : IN_X11_learn A σ as post) : MI l D cI cG base b yX11_learn cX11_learn 7 (some .int) (rmd 4) A σ as post := MI_of rfl lkb_X11_learn.2.2.2.2 h.2.1 ⟨rfl, rfl, by decide, by decide⟩ CTOK_X11_learn h.2.2
end MC_X11_learn
section MC_X11_five
variable {l : Launch} {D : va_G} {cI cG : ClassId} {base b : Nat}
theorem CTOK_X11_five : CTOK l (rmd 2) D cI cG base b RX11 CT_X11_five := by
  refine ⟨?_, ?_, ?_, ?_⟩
  · intro idx A σ as post h
    rcases h with ⟨h1, h2, h⟩ | ⟨h1, h2, h⟩ | ⟨h1, h2, h⟩
    · subst h2
      have hlen := h.1
      exact ⟨yX11_outside, cX11_outside, 3, (some .int), (rmd 1), by rw [hlen]; exact lkb_X11_outside, lnk_X11_104, sta_X11_outside, rfl, rfl, ⟨by decide, by decide⟩, MET_X11_outside _ _ _ _ h⟩
    · exact absurd h1 (by decide)
    · exact absurd h1 (by decide)
  · intro idx A σ as post h
    rcases h with ⟨h1, h2, h⟩ | ⟨h1, h2, h⟩ | ⟨h1, h2, h⟩
    · exact absurd h1 (by decide)
    · exact absurd h1 (by decide)
    · exact absurd h1 (by decide)
  · intro idx k A σ as post h
    rcases h with ⟨h1, h2, h⟩ | ⟨h1, h2, h⟩ | ⟨h1, h2, h⟩
    · exact absurd h1 (by decide)
    · subst h2
      obtain ⟨k9, as9, e9, hlen, hk1, hk2, hk3⟩ := h.1
      cases e9
      exact ⟨yX11_refuse, cX11_refuse, 3, (some .int), (rmd 1), by rw [hlen]; exact lkb_X11_refuse, lnk_X11_108, vir_X11_refuse hk1 hk2 hk3, rfl, rfl, ⟨by decide, by decide⟩, MET_X11_refuse _ _ _ _ h⟩
    · exact absurd h1 (by decide)
  · intro idx k A σ as post h
    rcases h with ⟨h1, h2, h⟩ | ⟨h1, h2, h⟩ | ⟨h1, h2, h⟩
    · exact absurd h1 (by decide)
    · exact absurd h1 (by decide)
    · subst h2
      obtain ⟨k9, as9, e9, hlen, hk1, hk2, hk3⟩ := h.1
      cases e9
      exact ⟨yX7_add, cX7_add, 3, (rmd 1), by rw [hlen]; exact lkb_X7_add, lnk_X11_274, vir_X7_add hk1 hk2 hk3, rfl, rfl, ⟨by decide, by decide⟩, MET_X7_add _ _ _ _ h⟩
theorem MET_X11_five (A : AL) (σ : SG) (as : List Value) (post : SG → Int32 → Prop) (h : IN_X11_five A σ as post) : MI l D cI cG base b yX11_five cX11_five 3 (some .int) (rmd 2) A σ as post := MI_of rfl lkb_X11_five.2.2.2.2 h.2.1 ⟨rfl, rfl, by decide, by decide⟩ CTOK_X11_five h.2.2
end MC_X11_five
section MC_X11_middle
variable {l : Launch} {D : va_G} {cI cG : ClassId} {base b : Nat}
theorem CTOK_X11_middle : CTOK l (rmd 2) D cI cG base b RX11 CT_X11_middle := by
  refine ⟨?_, ?_, ?_, ?_⟩
  · intro idx A σ as post h
    rcases h with ⟨h1, h2, h⟩ | ⟨h1, h2, h⟩ | ⟨h1, h2, h⟩
    · exact absurd h1 (by decide)
    · exact absurd h1 (by decide)
    · subst h2
      have hlen := h.1
      exact ⟨yX11_leastTerms, cX11_leastTerms, 4, (some .int), (rmd 1), by rw [hlen]; exact lkb_X11_leastTerms, lnk_X11_260, sta_X11_leastTerms, rfl, rfl, ⟨by decide, by decide⟩, MET_X11_leastTerms _ _ _ _ h⟩
  · intro idx A σ as post h
    rcases h with ⟨h1, h2, h⟩ | ⟨h1, h2, h⟩ | ⟨h1, h2, h⟩
    · exact absurd h1 (by decide)
    · exact absurd h1 (by decide)
    · exact absurd h1 (by decide)
  · intro idx k A σ as post h
    rcases h with ⟨h1, h2, h⟩ | ⟨h1, h2, h⟩ | ⟨h1, h2, h⟩
    · subst h2
      obtain ⟨k9, as9, e9, hlen, hk1, hk2, hk3⟩ := h.1
      cases e9
      exact ⟨yX11_refuse, cX11_refuse, 3, (some .int), (rmd 1), by rw [hlen]; exact lkb_X11_refuse, lnk_X11_108, vir_X11_refuse hk1 hk2 hk3, rfl, rfl, ⟨by decide, by decide⟩, MET_X11_refuse _ _ _ _ h⟩
    · subst h2
      obtain ⟨k9, as9, e9, hlen, hk1, hk2, hk3⟩ := h.1
      cases e9
      exact ⟨yX7_middleThree, cX7_middleThree, 1, (some .int), (rmd 1), by rw [hlen]; exact lkb_X7_middleThree, lnk_X11_276, vir_X7_middleThree hk1 hk2 hk3, rfl, rfl, ⟨by decide, by decide⟩, MET_X7_middleThree _ _ _ _ h⟩
    · exact absurd h1 (by decide)
  · intro idx k A σ as post h
    rcases h with ⟨h1, h2, h⟩ | ⟨h1, h2, h⟩ | ⟨h1, h2, h⟩
    · exact absurd h1 (by decide)
    · exact absurd h1 (by decide)
    · exact absurd h1 (by decide)
theorem MET_X11_middle (A : AL) (σ : SG) (as : List Value) (post : SG → Int32 → Prop) (h : IN_X11_middle A σ as post) : MI l D cI cG base b yX11_middle cX11_middle 3 (some .int) (rmd 2) A σ as post := MI_of rfl lkb_X11_middle.2.2.2.2 h.2.1 ⟨rfl, rfl, by decide, by decide⟩ CTOK_X11_middle h.2.2
end MC_X11_middle
section MC_X11_need
variable {l : Launch} {D : va_G} {cI cG : ClassId} {base b : Nat}
theorem CTOK_X11_need : CTOK l (rmd 2) D cI cG base b RX11 CT_X11_need := by
  refine ⟨?_, ?_, ?_, ?_⟩
  · intro idx A σ as post h
    rcases h with ⟨h1, h2, h⟩ | ⟨h1, h2, h⟩ | ⟨h1, h2, h⟩
    · subst h2
      have hlen := h.1
      exact ⟨yX11_outside, cX11_outside, 3, (some .int), (rmd 1), by rw [hlen]; exact lkb_X11_outside, lnk_X11_104, sta_X11_outside, rfl, rfl, ⟨by decide, by decide⟩, MET_X11_outside _ _ _ _ h⟩
    · exact absurd h1 (by decide)
    · exact absurd h1 (by decide)
  · intro idx A σ as post h
    rcases h with ⟨h1, h2, h⟩ | ⟨h1, h2, h⟩ | ⟨h1, h2, h⟩
    · exact absurd h1 (by decide)
    · exact absurd h1 (by decide)
    · exact absurd h1 (by decide)
  · intro idx k A σ as post h
    rcases h with ⟨h1, h2, h⟩ | ⟨h1, h2, h⟩ | ⟨h1, h2, h⟩
    · exact absurd h1 (by decide)
    · subst h2
      obtain ⟨k9, as9, e9, hlen, hk1, hk2, hk3⟩ := h.1
      cases e9
      exact ⟨yX11_refuse, cX11_refuse, 3, (some .int), (rmd 1), by rw [hlen]; exact lkb_X11_refuse, lnk_X11_108, vir_X11_refuse hk1 hk2 hk3, rfl, rfl, ⟨by decide, by decide⟩, MET_X11_refuse _ _ _ _ h⟩
    · subst h2
      obtain ⟨k9, as9, e9, hlen, hk1, hk2, hk3⟩ := h.1
      cases e9
      exact ⟨yX7_greatestFifth, cX7_greatestFifth, 3, (some .int), (rmd 1), by rw [hlen]; exact lkb_X7_greatestFifth, lnk_X11_279, vir_X7_greatestFifth hk1 hk2 hk3, rfl, rfl, ⟨by decide, by decide⟩, MET_X7_greatestFifth _ _ _ _ h⟩
  · intro idx k A σ as post h
    rcases h with ⟨h1, h2, h⟩ | ⟨h1, h2, h⟩ | ⟨h1, h2, h⟩
    · exact absurd h1 (by decide)
    · exact absurd h1 (by decide)
    · exact absurd h1 (by decide)
theorem MET_X11_need (A : AL) (σ : SG) (as : List Value) (post : SG → Int32 → Prop) (h : IN_X11_need A σ as post) : MI l D cI cG base b yX11_need cX11_need 3 (some .int) (rmd 2) A σ as post := MI_of rfl lkb_X11_need.2.2.2.2 h.2.1 ⟨rfl, rfl, by decide, by decide⟩ CTOK_X11_need h.2.2
end MC_X11_need
section MC_X11_film
variable {l : Launch} {D : va_G} {cI cG : ClassId} {base b : Nat}
theorem CTOK_X11_film : CTOK l (rmd 2) D cI cG base b RX11 CT_X11_film := by
  refine ⟨?_, ?_, ?_, ?_⟩
  · intro idx A σ as post h
    rcases h with ⟨h1, h2, h⟩ | ⟨h1, h2, h⟩ | ⟨h1, h2, h⟩
    · subst h2
      have hlen := h.1
      exact ⟨yX11_outside, cX11_outside, 3, (some .int), (rmd 1), by rw [hlen]; exact lkb_X11_outside, lnk_X11_104, sta_X11_outside, rfl, rfl, ⟨by decide, by decide⟩, MET_X11_outside _ _ _ _ h⟩
    · exact absurd h1 (by decide)
    · exact absurd h1 (by decide)
  · intro idx A σ as post h
    rcases h with ⟨h1, h2, h⟩ | ⟨h1, h2, h⟩ | ⟨h1, h2, h⟩
    · exact absurd h1 (by decide)
    · exact absurd h1 (by decide)
    · exact absurd h1 (by decide)
  · intro idx k A σ as post h
    rcases h with ⟨h1, h2, h⟩ | ⟨h1, h2, h⟩ | ⟨h1, h2, h⟩
    · exact absurd h1 (by decide)
    · subst h2
      obtain ⟨k9, as9, e9, hlen, hk1, hk2, hk3⟩ := h.1
      cases e9
      exact ⟨yX11_refuse, cX11_refuse, 3, (some .int), (rmd 1), by rw [hlen]; exact lkb_X11_refuse, lnk_X11_108, vir_X11_refuse hk1 hk2 hk3, rfl, rfl, ⟨by decide, by decide⟩, MET_X11_refuse _ _ _ _ h⟩
    · exact absurd h1 (by decide)
  · intro idx k A σ as post h
    rcases h with ⟨h1, h2, h⟩ | ⟨h1, h2, h⟩ | ⟨h1, h2, h⟩
    · exact absurd h1 (by decide)
    · exact absurd h1 (by decide)
    · subst h2
      obtain ⟨k9, as9, e9, hlen, hk1, hk2, hk3⟩ := h.1
      cases e9
      exact ⟨yX0_add, cX0_add, 2, (rmd 1), by rw [hlen]; exact lkb_X0_add, lnk_X11_283, vir_X0_add hk1 hk2 hk3, rfl, rfl, ⟨by decide, by decide⟩, MET_X0_add _ _ _ _ h⟩
theorem MET_X11_film (A : AL) (σ : SG) (as : List Value) (post : SG → Int32 → Prop) (h : IN_X11_film A σ as post) : MI l D cI cG base b yX11_film cX11_film 3 (some .int) (rmd 2) A σ as post := MI_of rfl lkb_X11_film.2.2.2.2 h.2.1 ⟨rfl, rfl, by decide, by decide⟩ CTOK_X11_film h.2.2
end MC_X11_film
section MC_X11_held
variable {l : Launch} {D : va_G} {cI cG : ClassId} {base b : Nat}
theorem CTOK_X11_held : CTOK l (rmd 3) D cI cG base b RX11 CT_X11_held := by
  refine ⟨?_, ?_, ?_, ?_⟩
  · intro idx A σ as post h
    rcases h with ⟨h1, h2, h⟩ | ⟨h1, h2, h⟩ | ⟨h1, h2, h⟩ | ⟨h1, h2, h⟩
    · exact absurd h1 (by decide)
    · exact absurd h1 (by decide)
    · subst h2
      have hlen := h.1
      exact ⟨yX11_outside, cX11_outside, 3, (some .int), (rmd 1), by rw [hlen]; exact lkb_X11_outside, lnk_X11_104, sta_X11_outside, rfl, rfl, ⟨by decide, by decide⟩, MET_X11_outside _ _ _ _ h⟩
    · exact absurd h1 (by decide)
  · intro idx A σ as post h
    rcases h with ⟨h1, h2, h⟩ | ⟨h1, h2, h⟩ | ⟨h1, h2, h⟩ | ⟨h1, h2, h⟩
    · exact absurd h1 (by decide)
    · exact absurd h1 (by decide)
    · exact absurd h1 (by decide)
    · exact absurd h1 (by decide)
  · intro idx k A σ as post h
    rcases h with ⟨h1, h2, h⟩ | ⟨h1, h2, h⟩ | ⟨h1, h2, h⟩ | ⟨h1, h2, h⟩
    · subst h2
      obtain ⟨k9, as9, e9, hlen, hk1, hk2, hk3⟩ := h.1
      cases e9
      exact ⟨yX5_has, cX5_has, 2, (some .boolean), (rmd 1), by rw [hlen]; exact lkb_X5_has, lnk_X11_157, vir_X5_has hk1 hk2 hk3, rfl, rfl, ⟨by decide, by decide⟩, MET_X5_has _ _ _ _ h⟩
    · subst h2
      obtain ⟨k9, as9, e9, hlen, hk1, hk2, hk3⟩ := h.1
      cases e9
      exact ⟨yX11_refuse, cX11_refuse, 3, (some .int), (rmd 1), by rw [hlen]; exact lkb_X11_refuse, lnk_X11_108, vir_X11_refuse hk1 hk2 hk3, rfl, rfl, ⟨by decide, by decide⟩, MET_X11_refuse _ _ _ _ h⟩
    · exact absurd h1 (by decide)
    · subst h2
      obtain ⟨k9, as9, e9, hlen, hk1, hk2, hk3⟩ := h.1
      cases e9
      exact ⟨yX0_firstAbove, cX0_firstAbove, 5, (some .int), (rmd 2), by rw [hlen]; exact lkb_X0_firstAbove, lnk_X11_284, vir_X0_firstAbove hk1 hk2 hk3, rfl, rfl, ⟨by decide, by decide⟩, MET_X0_firstAbove _ _ _ _ h⟩
  · intro idx k A σ as post h
    rcases h with ⟨h1, h2, h⟩ | ⟨h1, h2, h⟩ | ⟨h1, h2, h⟩ | ⟨h1, h2, h⟩
    · exact absurd h1 (by decide)
    · exact absurd h1 (by decide)
    · exact absurd h1 (by decide)
    · exact absurd h1 (by decide)
theorem MET_X11_held (A : AL) (σ : SG) (as : List Value) (post : SG → Int32 → Prop) (h : IN_X11_held A σ as post) : MI l D cI cG base b yX11_held cX11_held 4 (some .int) (rmd 3) A σ as post := MI_of rfl lkb_X11_held.2.2.2.2 h.2.1 ⟨rfl, rfl, by decide, by decide⟩ CTOK_X11_held h.2.2
end MC_X11_held
section MC_X11_heldUp
variable {l : Launch} {D : va_G} {cI cG : ClassId} {base b : Nat}
theorem CTOK_X11_heldUp : CTOK l (rmd 3) D cI cG base b RX11 CT_X11_heldUp := by
  refine ⟨?_, ?_, ?_, ?_⟩
  · intro idx A σ as post h
    rcases h with ⟨h1, h2, h⟩ | ⟨h1, h2, h⟩ | ⟨h1, h2, h⟩
    · exact absurd h1 (by decide)
    · exact absurd h1 (by decide)
    · exact absurd h1 (by decide)
  · intro idx A σ as post h
    rcases h with ⟨h1, h2, h⟩ | ⟨h1, h2, h⟩ | ⟨h1, h2, h⟩
    · exact absurd h1 (by decide)
    · exact absurd h1 (by decide)
    · exact absurd h1 (by decide)
  · intro idx k A σ as post h
    rcases h with ⟨h1, h2, h⟩ | ⟨h1, h2, h⟩ | ⟨h1, h2, h⟩
    · subst h2
      obtain ⟨k9, as9, e9, hlen, hk1, hk2, hk3⟩ := h.1
      cases e9
      exact ⟨yX5_has, cX5_has, 2, (some .boolean), (rmd 1), by rw [hlen]; exact lkb_X5_has, lnk_X11_157, vir_X5_has hk1 hk2 hk3, rfl, rfl, ⟨by decide, by decide⟩, MET_X5_has _ _ _ _ h⟩
    · subst h2
      obtain ⟨k9, as9, e9, hlen, hk1, hk2, hk3⟩ := h.1
      cases e9
      exact ⟨yX11_refuse, cX11_refuse, 3, (some .int), (rmd 1), by rw [hlen]; exact lkb_X11_refuse, lnk_X11_108, vir_X11_refuse hk1 hk2 hk3, rfl, rfl, ⟨by decide, by decide⟩, MET_X11_refuse _ _ _ _ h⟩
    · subst h2
      obtain ⟨k9, as9, e9, hlen, hk1, hk2, hk3⟩ := h.1
      cases e9
      exact ⟨yX0_allAbove, cX0_allAbove, 5, (some .int), (rmd 2), by rw [hlen]; exact lkb_X0_allAbove, lnk_X11_287, vir_X0_allAbove hk1 hk2 hk3, rfl, rfl, ⟨by decide, by decide⟩, MET_X0_allAbove _ _ _ _ h⟩
  · intro idx k A σ as post h
    rcases h with ⟨h1, h2, h⟩ | ⟨h1, h2, h⟩ | ⟨h1, h2, h⟩
    · exact absurd h1 (by decide)
    · exact absurd h1 (by decide)
    · exact absurd h1 (by decide)
theorem MET_X11_heldUp (A : AL) (σ : SG) (as : List Value) (post : SG → Int32 → Prop) (h : IN_X11_heldUp A σ as post) : MI l D cI cG base b yX11_heldUp cX11_heldUp 3 (some .int) (rmd 3) A σ as post := MI_of rfl lkb_X11_heldUp.2.2.2.2 h.2.1 ⟨rfl, rfl, by decide, by decide⟩ CTOK_X11_heldUp h.2.2
end MC_X11_heldUp
section MC_X11_image
variable {l : Launch} {D : va_G} {cI cG : ClassId} {base b : Nat}
theorem CTOK_X11_image : CTOK l (rmd 2) D cI cG base b RX11 CT_X11_image := by
  refine ⟨?_, ?_, ?_, ?_⟩
  · intro idx A σ as post h
    rcases h with ⟨h1, h2, h⟩
    · exact absurd h1 (by decide)
  · intro idx A σ as post h
    rcases h with ⟨h1, h2, h⟩
    · exact absurd h1 (by decide)
  · intro idx k A σ as post h
    rcases h with ⟨h1, h2, h⟩
    · exact absurd h1 (by decide)
  · intro idx k A σ as post h
    rcases h with ⟨h1, h2, h⟩
    · subst h2
      obtain ⟨k9, as9, e9, hlen, hk1, hk2, hk3⟩ := h.1
      cases e9
      exact ⟨yX2_copy, cX2_copy, 3, (rmd 1), by rw [hlen]; exact lkb_X2_copy, lnk_X11_305, vir_X2_copy hk1 hk2 hk3, rfl, rfl, ⟨by decide, by decide⟩, MET_X2_copy _ _ _ _ h⟩
theorem MET_X11_image (A : AL) (σ : SG) (as : List Value) (post : SG → Int32 → Prop) (h : IN_X11_image A σ as post) : MI l D cI cG base b yX11_image cX11_image 1 (some .int) (rmd 2) A σ as post := MI_of rfl lkb_X11_image.2.2.2.2 h.2.1 ⟨rfl, rfl, by decide, by decide⟩ CTOK_X11_image h.2.2
end MC_X11_image
section MC_X11_on
variable {l : Launch} {D : va_G} {cI cG : ClassId} {base b : Nat}
theorem CTOK_X11_on : CTOK l (rmd 3) D cI cG base b RX11 CT_X11_on := by
  refine ⟨?_, ?_, ?_, ?_⟩
  · intro idx A σ as post h
    rcases h with ⟨h1, h2, h⟩ | ⟨h1, h2, h⟩ | ⟨h1, h2, h⟩
    · exact absurd h1 (by decide)
    · exact absurd h1 (by decide)
    · exact absurd h1 (by decide)
  · intro idx A σ as post h
    rcases h with ⟨h1, h2, h⟩ | ⟨h1, h2, h⟩ | ⟨h1, h2, h⟩
    · exact absurd h1 (by decide)
    · exact absurd h1 (by decide)
    · exact absurd h1 (by decide)
  · intro idx k A σ as post h
    rcases h with ⟨h1, h2, h⟩ | ⟨h1, h2, h⟩ | ⟨h1, h2, h⟩
    · subst h2
      obtain ⟨k9, as9, e9, hlen, hk1, hk2, hk3⟩ := h.1
      cases e9
      exact ⟨yX11_refuse, cX11_refuse, 3, (some .int), (rmd 1), by rw [hlen]; exact lkb_X11_refuse, lnk_X11_108, vir_X11_refuse hk1 hk2 hk3, rfl, rfl, ⟨by decide, by decide⟩, MET_X11_refuse _ _ _ _ h⟩
    · exact absurd h1 (by decide)
    · exact absurd h1 (by decide)
  · intro idx k A σ as post h
    rcases h with ⟨h1, h2, h⟩ | ⟨h1, h2, h⟩ | ⟨h1, h2, h⟩
    · exact absurd h1 (by decide)
    · subst h2
      obtain ⟨k9, as9, e9, hlen, hk1, hk2, hk3⟩ := h.1
      cases e9
      exact ⟨yX9_goBackTo, cX9_goBackTo, 2, (rmd 2), by rw [hlen]; exact lkb_X9_goBackTo, lnk_X11_316, vir_X9_goBackTo hk1 hk2 hk3, rfl, rfl, ⟨by decide, by decide⟩, MET_X9_goBackTo _ _ _ _ h⟩
    · subst h2
      obtain ⟨k9, as9, e9, hlen, hk1, hk2, hk3⟩ := h.1
      cases e9
      exact ⟨yX2_copy, cX2_copy, 3, (rmd 1), by rw [hlen]; exact lkb_X2_copy, lnk_X11_305, vir_X2_copy hk1 hk2 hk3, rfl, rfl, ⟨by decide, by decide⟩, MET_X2_copy _ _ _ _ h⟩
theorem MET_X11_on (A : AL) (σ : SG) (as : List Value) (post : SG → Int32 → Prop) (h : IN_X11_on A σ as post) : MI l D cI cG base b yX11_on cX11_on 1 (some .int) (rmd 3) A σ as post := MI_of rfl lkb_X11_on.2.2.2.2 h.2.1 ⟨rfl, rfl, by decide, by decide⟩ CTOK_X11_on h.2.2
end MC_X11_on
section MC_X11_count
variable {l : Launch} {D : va_G} {cI cG : ClassId} {base b : Nat}
theorem CTOK_X11_count : CTOK l (rmd 2) D cI cG base b RX11 CT_X11_count := by
  refine ⟨?_, ?_, ?_, ?_⟩
  · intro idx A σ as post h
    rcases h with ⟨h1, h2, h⟩
    · subst h2
      have hlen := h.1
      exact ⟨yJ6_bitCount_0f7a4, cJ6_bitCount_0f7a4, 1, (some .int), (rmd 1), by rw [hlen]; exact lkb_J6_bitCount_0f7a4, lnk_X11_319, sta_J6_bitCount_0f7a4, rfl, rfl, ⟨by decide, by decide⟩, MET_J6_bitCount_0f7a4 _ _ _ _ h⟩
  · intro idx A σ as post h
    rcases h with ⟨h1, h2, h⟩
    · exact absurd h1 (by decide)
  · intro idx k A σ as post h
    rcases h with ⟨h1, h2, h⟩
    · exact absurd h1 (by decide)
  · intro idx k A σ as post h
    rcases h with ⟨h1, h2, h⟩
    · exact absurd h1 (by decide)
theorem MET_X11_count (A : AL) (σ : SG) (as : List Value) (post : SG → Int32 → Prop) (h : IN_X11_count A σ as post) : MI l D cI cG base b yX11_count cX11_count 2 (some .int) (rmd 2) A σ as post := MI_of rfl lkb_X11_count.2.2.2.2 h.2.1 ⟨rfl, rfl, by decide, by decide⟩ CTOK_X11_count h.2.2
end MC_X11_count
section MC_X12_refuse
variable {l : Launch} {D : va_G} {cI cG : ClassId} {base b : Nat}
theorem CTOK_X12_refuse : CTOK l (rmd 1) D cI cG base b RX12 CT0 := by
  exact CTOK0
theorem MET_X12_refuse (A : AL) (σ : SG) (as : List Value) (post : SG → Int32 → Prop) (h : IN_X12_refuse A σ as post) : MI l D cI cG base b yX12_refuse cX12_refuse 2 (some .int) (rmd 1) A σ as post := MI_of rfl lkb_X12_refuse.2.2.2.2 h.2.1 ⟨rfl, rfl, by decide, by decide⟩ CTOK_X12_refuse h.2.2
end MC_X12_refuse
section MC_X12_isIn
variable {l : Launch} {D : va_G} {cI cG : ClassId} {base b : Nat}
theorem CTOK_X12_isIn : CTOK l (rmd 1) D cI cG base b RX12 CT0 := by
  exact CTOK0
theorem MET_X12_isIn (A : AL) (σ : SG) (as : List Value) (post : SG → Int32 → Prop) (h : IN_X12_isIn A σ as post) : MI l D cI cG base b yX12_isIn cX12_isIn 2 (some .boolean) (rmd 1) A σ as post := MZ_of lkb_X12_isIn.2.2.2.2 h.2.1 ⟨rfl, rfl, by decide, by decide⟩ CTOK_X12_isIn h.2.2
end MC_X12_isIn
section MC_X12_within
variable {l : Launch} {D : va_G} {cI cG : ClassId} {base b : Nat}
theorem CTOK_X12_within : CTOK l (rmd 1) D cI cG base b RX12 CT0 := by
  exact CTOK0
theorem MET_X12_within (A : AL) (σ : SG) (as : List Value) (post : SG → Int32 → Prop) (h : IN_X12_within A σ as post) : MI l D cI cG base b yX12_within cX12_within 3 (some .int) (rmd 1) A σ as post := MI_of rfl lkb_X12_within.2.2.2.2 h.2.1 ⟨rfl, rfl, by decide, by decide⟩ CTOK_X12_within h.2.2
end MC_X12_within
section MC_X12_isMove
variable {l : Launch} {D : va_G} {cI cG : ClassId} {base b : Nat}
theorem CTOK_X12_isMove : CTOK l (rmd 2) D cI cG base b RX12 CT_X12_isMove := by
  refine ⟨?_, ?_, ?_, ?_⟩
  · intro idx A σ as post h
    rcases h with ⟨h1, h2, h⟩
    · subst h2
      have hlen := h.1
      exact ⟨yX12_isIn, cX12_isIn, 2, (some .boolean), (rmd 1), by rw [hlen]; exact lkb_X12_isIn, lnk_X12_61, sta_X12_isIn, rfl, rfl, ⟨by decide, by decide⟩, MET_X12_isIn _ _ _ _ h⟩
  · intro idx A σ as post h
    rcases h with ⟨h1, h2, h⟩
    · exact absurd h1 (by decide)
  · intro idx k A σ as post h
    rcases h with ⟨h1, h2, h⟩
    · exact absurd h1 (by decide)
  · intro idx k A σ as post h
    rcases h with ⟨h1, h2, h⟩
    · exact absurd h1 (by decide)
theorem MET_X12_isMove (A : AL) (σ : SG) (as : List Value) (post : SG → Int32 → Prop) (h : IN_X12_isMove A σ as post) : MI l D cI cG base b yX12_isMove cX12_isMove 2 (some .boolean) (rmd 2) A σ as post := MZ_of lkb_X12_isMove.2.2.2.2 h.2.1 ⟨rfl, rfl, by decide, by decide⟩ CTOK_X12_isMove h.2.2
end MC_X12_isMove
section MC_X12_isRow
variable {l : Launch} {D : va_G} {cI cG : ClassId} {base b : Nat}
theorem CTOK_X12_isRow : CTOK l (rmd 2) D cI cG base b RX12 CT_X12_isRow := by
  refine ⟨?_, ?_, ?_, ?_⟩
  · intro idx A σ as post h
    rcases h with ⟨h1, h2, h⟩
    · subst h2
      have hlen := h.1
      exact ⟨yX12_isIn, cX12_isIn, 2, (some .boolean), (rmd 1), by rw [hlen]; exact lkb_X12_isIn, lnk_X12_61, sta_X12_isIn, rfl, rfl, ⟨by decide, by decide⟩, MET_X12_isIn _ _ _ _ h⟩
  · intro idx A σ as post h
    rcases h with ⟨h1, h2, h⟩
    · exact absurd h1 (by decide)
  · intro idx k A σ as post h
    rcases h with ⟨h1, h2, h⟩
    · exact absurd h1 (by decide)
  · intro idx k A σ as post h
    rcases h with ⟨h1, h2, h⟩
    · exact absurd h1 (by decide)
theorem MET_X12_isRow (A : AL) (σ : SG) (as : List Value) (post : SG → Int32 → Prop) (h : IN_X12_isRow A σ as post) : MI l D cI cG base b yX12_isRow cX12_isRow 2 (some .boolean) (rmd 2) A σ as post := MZ_of lkb_X12_isRow.2.2.2.2 h.2.1 ⟨rfl, rfl, by decide, by decide⟩ CTOK_X12_isRow h.2.2
end MC_X12_isRow
section MC_X12_isStep
variable {l : Launch} {D : va_G} {cI cG : ClassId} {base b : Nat}
theorem CTOK_X12_isStep : CTOK l (rmd 2) D cI cG base b RX12 CT_X12_isStep := by
  refine ⟨?_, ?_, ?_, ?_⟩
  · intro idx A σ as post h
    rcases h with ⟨h1, h2, h⟩
    · subst h2
      have hlen := h.1
      exact ⟨yX12_isIn, cX12_isIn, 2, (some .boolean), (rmd 1), by rw [hlen]; exact lkb_X12_isIn, lnk_X12_61, sta_X12_isIn, rfl, rfl, ⟨by decide, by decide⟩, MET_X12_isIn _ _ _ _ h⟩
  · intro idx A σ as post h
    rcases h with ⟨h1, h2, h⟩
    · exact absurd h1 (by decide)
  · intro idx k A σ as post h
    rcases h with ⟨h1, h2, h⟩
    · exact absurd h1 (by decide)
  · intro idx k A σ as post h
    rcases h with ⟨h1, h2, h⟩
    · exact absurd h1 (by decide)
theorem MET_X12_isStep (A : AL) (σ : SG) (as : List Value) (post : SG → Int32 → Prop) (h : IN_X12_isStep A σ as post) : MI l D cI cG base b yX12_isStep cX12_isStep 2 (some .boolean) (rmd 2) A σ as post := MZ_of lkb_X12_isStep.2.2.2.2 h.2.1 ⟨rfl, rfl, by decide, by decide⟩ CTOK_X12_isStep h.2.2
end MC_X12_isStep
section MC_X12_isPlace
variable {l : Launch} {D : va_G} {cI cG : ClassId} {base b : Nat}
theorem CTOK_X12_isPlace : CTOK l (rmd 2) D cI cG base b RX12 CT_X12_isPlace := by
  refine ⟨?_, ?_, ?_, ?_⟩
  · intro idx A σ as post h
    rcases h with ⟨h1, h2, h⟩
    · subst h2
      have hlen := h.1
      exact ⟨yX12_isIn, cX12_isIn, 2, (some .boolean), (rmd 1), by rw [hlen]; exact lkb_X12_isIn, lnk_X12_61, sta_X12_isIn, rfl, rfl, ⟨by decide, by decide⟩, MET_X12_isIn _ _ _ _ h⟩
  · intro idx A σ as post h
    rcases h with ⟨h1, h2, h⟩
    · exact absurd h1 (by decide)
  · intro idx k A σ as post h
    rcases h with ⟨h1, h2, h⟩
    · exact absurd h1 (by decide)
  · intro idx k A σ as post h
    rcases h with ⟨h1, h2, h⟩
    · exact absurd h1 (by decide)
theorem MET_X12_isPlace (A : AL) (σ : SG) (as : List Value) (post : SG → Int32 → Prop) (h : IN_X12_isPlace A σ as post) : MI l D cI cG base b yX12_isPlace cX12_isPlace 1 (some .boolean) (rmd 2) A σ as post := MZ_of lkb_X12_isPlace.2.2.2.2 h.2.1 ⟨rfl, rfl, by decide, by decide⟩ CTOK_X12_isPlace h.2.2
end MC_X12_isPlace
section MC_X12_feed
variable {l : Launch} {D : va_G} {cI cG : ClassId} {base b : Nat}
theorem CTOK_X12_feed : CTOK l (rmd 2) D cI cG base b RX12 CT_X12_feed := by
  refine ⟨?_, ?_, ?_, ?_⟩
  · intro idx A σ as post h
    rcases h with ⟨h1, h2, h⟩
    · exact absurd h1 (by decide)
  · intro idx A σ as post h
    rcases h with ⟨h1, h2, h⟩
    · exact absurd h1 (by decide)
  · intro idx k A σ as post h
    rcases h with ⟨h1, h2, h⟩
    · subst h2
      obtain ⟨k9, as9, e9, hlen, hk1, hk2, hk3⟩ := h.1
      cases e9
      exact ⟨yX12_refuse, cX12_refuse, 2, (some .int), (rmd 1), by rw [hlen]; exact lkb_X12_refuse, lnk_X12_65, vir_X12_refuse hk1 hk2 hk3, rfl, rfl, ⟨by decide, by decide⟩, MET_X12_refuse _ _ _ _ h⟩
  · intro idx k A σ as post h
    rcases h with ⟨h1, h2, h⟩
    · exact absurd h1 (by decide)
theorem MET_X12_feed (A : AL) (σ : SG) (as : List Value) (post : SG → Int32 → Prop) (h : IN_X12_feed A σ as post) : MI l D cI cG base b yX12_feed cX12_feed 5 (some .int) (rmd 2) A σ as post := MI_of rfl lkb_X12_feed.2.2.2.2 h.2.1 ⟨rfl, rfl, by decide, by decide⟩ CTOK_X12_feed h.2.2
end MC_X12_feed
section MC_X12_sign
variable {l : Launch} {D : va_G} {cI cG : ClassId} {base b : Nat}
theorem CTOK_X12_sign : CTOK l (rmd 1) D cI cG base b RX12 CT0 := by
  exact CTOK0
theorem MET_X12_sign (A : AL) (σ : SG) (as : List Value) (post : SG → Int32 → Prop) (h : IN_X12_sign A σ as post) : MI l D cI cG base b yX12_sign cX12_sign 1 (some .int) (rmd 1) A σ as post := MI_of rfl lkb_X12_sign.2.2.2.2 h.2.1 ⟨rfl, rfl, by decide, by decide⟩ CTOK_X12_sign h.2.2
end MC_X12_sign
section MC_X12_readsRing
variable {l : Launch} {D : va_G} {cI cG : ClassId} {base b : Nat}
theorem CTOK_X12_readsRing : CTOK l (rmd 2) D cI cG base b RX12 CT_X12_readsRing := by
  refine ⟨?_, ?_, ?_, ?_⟩
  · intro idx A σ as post h
    rcases h with ⟨h1, h2, h⟩
    · exact absurd h1 (by decide)
  · intro idx A σ as post h
    rcases h with ⟨h1, h2, h⟩
    · exact absurd h1 (by decide)
  · intro idx k A σ as post h
    rcases h with ⟨h1, h2, h⟩
    · subst h2
      obtain ⟨k9, as9, e9, hlen, hk1, hk2, hk3⟩ := h.1
      cases e9
      exact ⟨yX12_sign, cX12_sign, 1, (some .int), (rmd 1), by rw [hlen]; exact lkb_X12_sign, lnk_X12_78, vir_X12_sign hk1 hk2 hk3, rfl, rfl, ⟨by decide, by decide⟩, MET_X12_sign _ _ _ _ h⟩
  · intro idx k A σ as post h
    rcases h with ⟨h1, h2, h⟩
    · exact absurd h1 (by decide)
theorem MET_X12_readsRing (A : AL) (σ : SG) (as : List Value) (post : SG → Int32 → Prop) (h : IN_X12_readsRing A σ as post) : MI l D cI cG base b yX12_readsRing cX12_readsRing 5 (some .boolean) (rmd 2) A σ as post := MZ_of lkb_X12_readsRing.2.2.2.2 h.2.1 ⟨rfl, rfl, by decide, by decide⟩ CTOK_X12_readsRing h.2.2
end MC_X12_readsRing
section MC_X12_readsTurn
variable {l : Launch} {D : va_G} {cI cG : ClassId} {base b : Nat}
theorem CTOK_X12_readsTurn : CTOK l (rmd 3) D cI cG base b RX12 CT_X12_readsTurn := by
  refine ⟨?_, ?_, ?_, ?_⟩
  · intro idx A σ as post h
    rcases h with ⟨h1, h2, h⟩
    · exact absurd h1 (by decide)
  · intro idx A σ as post h
    rcases h with ⟨h1, h2, h⟩
    · exact absurd h1 (by decide)
  · intro idx k A σ as post h
    rcases h with ⟨h1, h2, h⟩
    · subst h2
      obtain ⟨k9, as9, e9, hlen, hk1, hk2, hk3⟩ := h.1
      cases e9
      exact ⟨yX12_readsRing, cX12_readsRing, 5, (some .boolean), (rmd 2), by rw [hlen]; exact lkb_X12_readsRing, lnk_X12_85, vir_X12_readsRing hk1 hk2 hk3, rfl, rfl, ⟨by decide, by decide⟩, MET_X12_readsRing _ _ _ _ h⟩
  · intro idx k A σ as post h
    rcases h with ⟨h1, h2, h⟩
    · exact absurd h1 (by decide)
theorem MET_X12_readsTurn (A : AL) (σ : SG) (as : List Value) (post : SG → Int32 → Prop) (h : IN_X12_readsTurn A σ as post) : MI l D cI cG base b yX12_readsTurn cX12_readsTurn 2 (some .boolean) (rmd 3) A σ as post := MZ_of lkb_X12_readsTurn.2.2.2.2 h.2.1 ⟨rfl, rfl, by decide, by decide⟩ CTOK_X12_readsTurn h.2.2
end MC_X12_readsTurn
section MC_X12_turn
variable {l : Launch} {D : va_G} {cI cG : ClassId} {base b : Nat}
theorem CTOK_X12_turn : CTOK l (rmd 4) D cI cG base b RX12 CT_X12_turn := by
  refine ⟨?_, ?_, ?_, ?_⟩
  · intro idx A σ as post h
    rcases h with ⟨h1, h2, h⟩ | ⟨h1, h2, h⟩
    · exact absurd h1 (by decide)
    · exact absurd h1 (by decide)
  · intro idx A σ as post h
    rcases h with ⟨h1, h2, h⟩ | ⟨h1, h2, h⟩
    · exact absurd h1 (by decide)
    · exact absurd h1 (by decide)
  · intro idx k A σ as post h
    rcases h with ⟨h1, h2, h⟩ | ⟨h1, h2, h⟩
    · subst h2
      obtain ⟨k9, as9, e9, hlen, hk1, hk2, hk3⟩ := h.1
      cases e9
      exact ⟨yX12_refuse, cX12_refuse, 2, (some .int), (rmd 1), by rw [hlen]; exact lkb_X12_refuse, lnk_X12_65, vir_X12_refuse hk1 hk2 hk3, rfl, rfl, ⟨by decide, by decide⟩, MET_X12_refuse _ _ _ _ h⟩
    · subst h2
      obtain ⟨k9, as9, e9, hlen, hk1, hk2, hk3⟩ := h.1
      cases e9
      exact ⟨yX12_readsTurn, cX12_readsTurn, 2, (some .boolean), (rmd 3), by rw [hlen]; exact lkb_X12_readsTurn, lnk_X12_89, vir_X12_readsTurn hk1 hk2 hk3, rfl, rfl, ⟨by decide, by decide⟩, MET_X12_readsTurn _ _ _ _ h⟩
  · intro idx k A σ as post h
    rcases h with ⟨h1, h2, h⟩ | ⟨h1, h2, h⟩
    · exact absurd h1 (by decide)
    · exact absurd h1 (by decide)
theorem MET_X12_turn (A : AL) (σ : SG) (as : List Value) (post : SG → Int32 → Prop) (h : IN_X12_turn A σ as post) : MI l D cI cG base b yX12_turn cX12_turn 3 (some .int) (rmd 4) A σ as post := MI_of rfl lkb_X12_turn.2.2.2.2 h.2.1 ⟨rfl, rfl, by decide, by decide⟩ CTOK_X12_turn h.2.2
end MC_X12_turn
section MC_X12_readsRow
variable {l : Launch} {D : va_G} {cI cG : ClassId} {base b : Nat}
theorem CTOK_X12_readsRow : CTOK l (rmd 2) D cI cG base b RX12 CT_X12_readsRow := by
  refine ⟨?_, ?_, ?_, ?_⟩
  · intro idx A σ as post h
    rcases h with ⟨h1, h2, h⟩ | ⟨h1, h2, h⟩
    · exact absurd h1 (by decide)
    · subst h2
      have hlen := h.1
      exact ⟨yX12_isIn, cX12_isIn, 2, (some .boolean), (rmd 1), by rw [hlen]; exact lkb_X12_isIn, lnk_X12_61, sta_X12_isIn, rfl, rfl, ⟨by decide, by decide⟩, MET_X12_isIn _ _ _ _ h⟩
  · intro idx A σ as post h
    rcases h with ⟨h1, h2, h⟩ | ⟨h1, h2, h⟩
    · exact absurd h1 (by decide)
    · exact absurd h1 (by decide)
  · intro idx k A σ as post h
    rcases h with ⟨h1, h2, h⟩ | ⟨h1, h2, h⟩
    · subst h2
      obtain ⟨k9, as9, e9, hlen, hk1, hk2, hk3⟩ := h.1
      cases e9
      exact ⟨yX12_sign, cX12_sign, 1, (some .int), (rmd 1), by rw [hlen]; exact lkb_X12_sign, lnk_X12_78, vir_X12_sign hk1 hk2 hk3, rfl, rfl, ⟨by decide, by decide⟩, MET_X12_sign _ _ _ _ h⟩
    · exact absurd h1 (by decide)
  · intro idx k A σ as post h
    rcases h with ⟨h1, h2, h⟩ | ⟨h1, h2, h⟩
    · exact absurd h1 (by decide)
    · exact absurd h1 (by decide)
theorem MET_X12_readsRow (A : AL) (σ : SG) (as : List Value) (post : SG → Int32 → Prop) (h : IN_X12_readsRow A σ as post) : MI l D cI cG base b yX12_readsRow cX12_readsRow 4 (some .boolean) (rmd 2) A σ as post := MZ_of lkb_X12_readsRow.2.2.2.2 h.2.1 ⟨rfl, rfl, by decide, by decide⟩ CTOK_X12_readsRow h.2.2
end MC_X12_readsRow
section MC_X12_row
variable {l : Launch} {D : va_G} {cI cG : ClassId} {base b : Nat}
theorem CTOK_X12_row : CTOK l (rmd 3) D cI cG base b RX12 CT_X12_row := by
  refine ⟨?_, ?_, ?_, ?_⟩
  · intro idx A σ as post h
    rcases h with ⟨h1, h2, h⟩ | ⟨h1, h2, h⟩
    · exact absurd h1 (by decide)
    · exact absurd h1 (by decide)
  · intro idx A σ as post h
    rcases h with ⟨h1, h2, h⟩ | ⟨h1, h2, h⟩
    · exact absurd h1 (by decide)
    · exact absurd h1 (by decide)
  · intro idx k A σ as post h
    rcases h with ⟨h1, h2, h⟩ | ⟨h1, h2, h⟩
    · subst h2
      obtain ⟨k9, as9, e9, hlen, hk1, hk2, hk3⟩ := h.1
      cases e9
      exact ⟨yX12_refuse, cX12_refuse, 2, (some .int), (rmd 1), by rw [hlen]; exact lkb_X12_refuse, lnk_X12_65, vir_X12_refuse hk1 hk2 hk3, rfl, rfl, ⟨by decide, by decide⟩, MET_X12_refuse _ _ _ _ h⟩
    · subst h2
      obtain ⟨k9, as9, e9, hlen, hk1, hk2, hk3⟩ := h.1
      cases e9
      exact ⟨yX12_readsRow, cX12_readsRow, 4, (some .boolean), (rmd 2), by rw [hlen]; exact lkb_X12_readsRow, lnk_X12_92, vir_X12_readsRow hk1 hk2 hk3, rfl, rfl, ⟨by decide, by decide⟩, MET_X12_readsRow _ _ _ _ h⟩
  · intro idx k A σ as post h
    rcases h with ⟨h1, h2, h⟩ | ⟨h1, h2, h⟩
    · exact absurd h1 (by decide)
    · exact absurd h1 (by decide)
theorem MET_X12_row (A : AL) (σ : SG) (as : List Value) (post : SG → Int32 → Prop) (h : IN_X12_row A σ as post) : MI l D cI cG base b yX12_row cX12_row 3 (some .int) (rmd 3) A σ as post := MI_of rfl lkb_X12_row.2.2.2.2 h.2.1 ⟨rfl, rfl, by decide, by decide⟩ CTOK_X12_row h.2.2
end MC_X12_row
section MC_X12_goesTo
variable {l : Launch} {D : va_G} {cI cG : ClassId} {base b : Nat}
theorem CTOK_X12_goesTo : CTOK l (rmd 1) D cI cG base b RX12 CT0 := by
  exact CTOK0
theorem MET_X12_goesTo (A : AL) (σ : SG) (as : List Value) (post : SG → Int32 → Prop) (h : IN_X12_goesTo A σ as post) : MI l D cI cG base b yX12_goesTo cX12_goesTo 5 (some .int) (rmd 1) A σ as post := MI_of rfl lkb_X12_goesTo.2.2.2.2 h.2.1 ⟨rfl, rfl, by decide, by decide⟩ CTOK_X12_goesTo h.2.2
end MC_X12_goesTo
section MC_X12_goes
variable {l : Launch} {D : va_G} {cI cG : ClassId} {base b : Nat}
theorem CTOK_X12_goes : CTOK l (rmd 3) D cI cG base b RX12 CT_X12_goes := by
  refine ⟨?_, ?_, ?_, ?_⟩
  · intro idx A σ as post h
    rcases h with ⟨h1, h2, h⟩ | ⟨h1, h2, h⟩ | ⟨h1, h2, h⟩ | ⟨h1, h2, h⟩
    · exact absurd h1 (by decide)
    · subst h2
      have hlen := h.1
      exact ⟨yX12_isPlace, cX12_isPlace, 1, (some .boolean), (rmd 2), by rw [hlen]; exact lkb_X12_isPlace, lnk_X12_99, sta_X12_isPlace, rfl, rfl, ⟨by decide, by decide⟩, MET_X12_isPlace _ _ _ _ h⟩
    · exact absurd h1 (by decide)
    · exact absurd h1 (by decide)
  · intro idx A σ as post h
    rcases h with ⟨h1, h2, h⟩ | ⟨h1, h2, h⟩ | ⟨h1, h2, h⟩ | ⟨h1, h2, h⟩
    · exact absurd h1 (by decide)
    · exact absurd h1 (by decide)
    · exact absurd h1 (by decide)
    · exact absurd h1 (by decide)
  · intro idx k A σ as post h
    rcases h with ⟨h1, h2, h⟩ | ⟨h1, h2, h⟩ | ⟨h1, h2, h⟩ | ⟨h1, h2, h⟩
    · subst h2
      obtain ⟨k9, as9, e9, hlen, hk1, hk2, hk3⟩ := h.1
      cases e9
      exact ⟨yX12_isMove, cX12_isMove, 2, (some .boolean), (rmd 2), by rw [hlen]; exact lkb_X12_isMove, lnk_X12_95, vir_X12_isMove hk1 hk2 hk3, rfl, rfl, ⟨by decide, by decide⟩, MET_X12_isMove _ _ _ _ h⟩
    · exact absurd h1 (by decide)
    · subst h2
      obtain ⟨k9, as9, e9, hlen, hk1, hk2, hk3⟩ := h.1
      cases e9
      exact ⟨yX12_goesTo, cX12_goesTo, 5, (some .int), (rmd 1), by rw [hlen]; exact lkb_X12_goesTo, lnk_X12_102, vir_X12_goesTo hk1 hk2 hk3, rfl, rfl, ⟨by decide, by decide⟩, MET_X12_goesTo _ _ _ _ h⟩
    · subst h2
      obtain ⟨k9, as9, e9, hlen, hk1, hk2, hk3⟩ := h.1
      cases e9
      exact ⟨yX12_refuse, cX12_refuse, 2, (some .int), (rmd 1), by rw [hlen]; exact lkb_X12_refuse, lnk_X12_65, vir_X12_refuse hk1 hk2 hk3, rfl, rfl, ⟨by decide, by decide⟩, MET_X12_refuse _ _ _ _ h⟩
  · intro idx k A σ as post h
    rcases h with ⟨h1, h2, h⟩ | ⟨h1, h2, h⟩ | ⟨h1, h2, h⟩ | ⟨h1, h2, h⟩
    · exact absurd h1 (by decide)
    · exact absurd h1 (by decide)
    · exact absurd h1 (by decide)
    · exact absurd h1 (by decide)
theorem MET_X12_goes (A : AL) (σ : SG) (as : List Value) (post : SG → Int32 → Prop) (h : IN_X12_goes A σ as post) : MI l D cI cG base b yX12_goes cX12_goes 3 (some .int) (rmd 3) A σ as post := MI_of rfl lkb_X12_goes.2.2.2.2 h.2.1 ⟨rfl, rfl, by decide, by decide⟩ CTOK_X12_goes h.2.2
end MC_X12_goes
section MC_X12_size
variable {l : Launch} {D : va_G} {cI cG : ClassId} {base b : Nat}
theorem CTOK_X12_size : CTOK l (rmd 1) D cI cG base b RX12 CT0 := by
  exact CTOK0
theorem MET_X12_size (A : AL) (σ : SG) (as : List Value) (post : SG → Int32 → Prop) (h : IN_X12_size A σ as post) : MI l D cI cG base b yX12_size cX12_size 2 (some .int) (rmd 1) A σ as post := MI_of rfl lkb_X12_size.2.2.2.2 h.2.1 ⟨rfl, rfl, by decide, by decide⟩ CTOK_X12_size h.2.2
end MC_X12_size
section MC_X12_moveOf
variable {l : Launch} {D : va_G} {cI cG : ClassId} {base b : Nat}
theorem CTOK_X12_moveOf : CTOK l (rmd 1) D cI cG base b RX12 CT0 := by
  exact CTOK0
theorem MET_X12_moveOf (A : AL) (σ : SG) (as : List Value) (post : SG → Int32 → Prop) (h : IN_X12_moveOf A σ as post) : MI l D cI cG base b yX12_moveOf cX12_moveOf 3 (some .int) (rmd 1) A σ as post := MI_of rfl lkb_X12_moveOf.2.2.2.2 h.2.1 ⟨rfl, rfl, by decide, by decide⟩ CTOK_X12_moveOf h.2.2
end MC_X12_moveOf
section MC_X12_rowOf
variable {l : Launch} {D : va_G} {cI cG : ClassId} {base b : Nat}
theorem CTOK_X12_rowOf : CTOK l (rmd 3) D cI cG base b RX12 CT_X12_rowOf := by
  refine ⟨?_, ?_, ?_, ?_⟩
  · intro idx A σ as post h
    rcases h with ⟨h1, h2, h⟩ | ⟨h1, h2, h⟩ | ⟨h1, h2, h⟩ | ⟨h1, h2, h⟩ | ⟨h1, h2, h⟩
    · exact absurd h1 (by decide)
    · exact absurd h1 (by decide)
    · exact absurd h1 (by decide)
    · subst h2
      have hlen := h.1
      exact ⟨yX12_isIn, cX12_isIn, 2, (some .boolean), (rmd 1), by rw [hlen]; exact lkb_X12_isIn, lnk_X12_61, sta_X12_isIn, rfl, rfl, ⟨by decide, by decide⟩, MET_X12_isIn _ _ _ _ h⟩
    · exact absurd h1 (by decide)
  · intro idx A σ as post h
    rcases h with ⟨h1, h2, h⟩ | ⟨h1, h2, h⟩ | ⟨h1, h2, h⟩ | ⟨h1, h2, h⟩ | ⟨h1, h2, h⟩
    · exact absurd h1 (by decide)
    · exact absurd h1 (by decide)
    · exact absurd h1 (by decide)
    · exact absurd h1 (by decide)
    · exact absurd h1 (by decide)
  · intro idx k A σ as post h
    rcases h with ⟨h1, h2, h⟩ | ⟨h1, h2, h⟩ | ⟨h1, h2, h⟩ | ⟨h1, h2, h⟩ | ⟨h1, h2, h⟩
    · subst h2
      obtain ⟨k9, as9, e9, hlen, hk1, hk2, hk3⟩ := h.1
      cases e9
      exact ⟨yX12_isRow, cX12_isRow, 2, (some .boolean), (rmd 2), by rw [hlen]; exact lkb_X12_isRow, lnk_X12_106, vir_X12_isRow hk1 hk2 hk3, rfl, rfl, ⟨by decide, by decide⟩, MET_X12_isRow _ _ _ _ h⟩
    · subst h2
      obtain ⟨k9, as9, e9, hlen, hk1, hk2, hk3⟩ := h.1
      cases e9
      exact ⟨yX12_refuse, cX12_refuse, 2, (some .int), (rmd 1), by rw [hlen]; exact lkb_X12_refuse, lnk_X12_65, vir_X12_refuse hk1 hk2 hk3, rfl, rfl, ⟨by decide, by decide⟩, MET_X12_refuse _ _ _ _ h⟩
    · subst h2
      obtain ⟨k9, as9, e9, hlen, hk1, hk2, hk3⟩ := h.1
      cases e9
      exact ⟨yX12_size, cX12_size, 2, (some .int), (rmd 1), by rw [hlen]; exact lkb_X12_size, lnk_X12_109, vir_X12_size hk1 hk2 hk3, rfl, rfl, ⟨by decide, by decide⟩, MET_X12_size _ _ _ _ h⟩
    · exact absurd h1 (by decide)
    · subst h2
      obtain ⟨k9, as9, e9, hlen, hk1, hk2, hk3⟩ := h.1
      cases e9
      exact ⟨yX12_moveOf, cX12_moveOf, 3, (some .int), (rmd 1), by rw [hlen]; exact lkb_X12_moveOf, lnk_X12_112, vir_X12_moveOf hk1 hk2 hk3, rfl, rfl, ⟨by decide, by decide⟩, MET_X12_moveOf _ _ _ _ h⟩
  · intro idx k A σ as post h
    rcases h with ⟨h1, h2, h⟩ | ⟨h1, h2, h⟩ | ⟨h1, h2, h⟩ | ⟨h1, h2, h⟩ | ⟨h1, h2, h⟩
    · exact absurd h1 (by decide)
    · exact absurd h1 (by decide)
    · exact absurd h1 (by decide)
    · exact absurd h1 (by decide)
    · exact absurd h1 (by decide)
theorem MET_X12_rowOf (A : AL) (σ : SG) (as : List Value) (post : SG → Int32 → Prop) (h : IN_X12_rowOf A σ as post) : MI l D cI cG base b yX12_rowOf cX12_rowOf 3 (some .int) (rmd 3) A σ as post := MI_of rfl lkb_X12_rowOf.2.2.2.2 h.2.1 ⟨rfl, rfl, by decide, by decide⟩ CTOK_X12_rowOf h.2.2
end MC_X12_rowOf
section MC_X12_doesTo
variable {l : Launch} {D : va_G} {cI cG : ClassId} {base b : Nat}
theorem CTOK_X12_doesTo : CTOK l (rmd 2) D cI cG base b RX12 CT_X12_doesTo := by
  refine ⟨?_, ?_, ?_, ?_⟩
  · intro idx A σ as post h
    rcases h with ⟨h1, h2, h⟩ | ⟨h1, h2, h⟩ | ⟨h1, h2, h⟩
    · exact absurd h1 (by decide)
    · exact absurd h1 (by decide)
    · exact absurd h1 (by decide)
  · intro idx A σ as post h
    rcases h with ⟨h1, h2, h⟩ | ⟨h1, h2, h⟩ | ⟨h1, h2, h⟩
    · exact absurd h1 (by decide)
    · exact absurd h1 (by decide)
    · exact absurd h1 (by decide)
  · intro idx k A σ as post h
    rcases h with ⟨h1, h2, h⟩ | ⟨h1, h2, h⟩ | ⟨h1, h2, h⟩
    · subst h2
      obtain ⟨k9, as9, e9, hlen, hk1, hk2, hk3⟩ := h.1
      cases e9
      exact ⟨yX12_size, cX12_size, 2, (some .int), (rmd 1), by rw [hlen]; exact lkb_X12_size, lnk_X12_109, vir_X12_size hk1 hk2 hk3, rfl, rfl, ⟨by decide, by decide⟩, MET_X12_size _ _ _ _ h⟩
    · subst h2
      obtain ⟨k9, as9, e9, hlen, hk1, hk2, hk3⟩ := h.1
      cases e9
      exact ⟨yX12_moveOf, cX12_moveOf, 3, (some .int), (rmd 1), by rw [hlen]; exact lkb_X12_moveOf, lnk_X12_112, vir_X12_moveOf hk1 hk2 hk3, rfl, rfl, ⟨by decide, by decide⟩, MET_X12_moveOf _ _ _ _ h⟩
    · subst h2
      obtain ⟨k9, as9, e9, hlen, hk1, hk2, hk3⟩ := h.1
      cases e9
      exact ⟨yX12_goesTo, cX12_goesTo, 5, (some .int), (rmd 1), by rw [hlen]; exact lkb_X12_goesTo, lnk_X12_102, vir_X12_goesTo hk1 hk2 hk3, rfl, rfl, ⟨by decide, by decide⟩, MET_X12_goesTo _ _ _ _ h⟩
  · intro idx k A σ as post h
    rcases h with ⟨h1, h2, h⟩ | ⟨h1, h2, h⟩ | ⟨h1, h2, h⟩
    · exact absurd h1 (by decide)
    · exact absurd h1 (by decide)
    · exact absurd h1 (by decide)
theorem MET_X12_doesTo (A : AL) (σ : SG) (as : List Value) (post : SG → Int32 → Prop) (h : IN_X12_doesTo A σ as post) : MI l D cI cG base b yX12_doesTo cX12_doesTo 5 (some .int) (rmd 2) A σ as post := MI_of rfl lkb_X12_doesTo.2.2.2.2 h.2.1 ⟨rfl, rfl, by decide, by decide⟩ CTOK_X12_doesTo h.2.2
end MC_X12_doesTo
section MC_X12_does
variable {l : Launch} {D : va_G} {cI cG : ClassId} {base b : Nat}
theorem CTOK_X12_does : CTOK l (rmd 3) D cI cG base b RX12 CT_X12_does := by
  refine ⟨?_, ?_, ?_, ?_⟩
  · intro idx A σ as post h
    rcases h with ⟨h1, h2, h⟩ | ⟨h1, h2, h⟩ | ⟨h1, h2, h⟩ | ⟨h1, h2, h⟩
    · exact absurd h1 (by decide)
    · subst h2
      have hlen := h.1
      exact ⟨yX12_isPlace, cX12_isPlace, 1, (some .boolean), (rmd 2), by rw [hlen]; exact lkb_X12_isPlace, lnk_X12_99, sta_X12_isPlace, rfl, rfl, ⟨by decide, by decide⟩, MET_X12_isPlace _ _ _ _ h⟩
    · exact absurd h1 (by decide)
    · exact absurd h1 (by decide)
  · intro idx A σ as post h
    rcases h with ⟨h1, h2, h⟩ | ⟨h1, h2, h⟩ | ⟨h1, h2, h⟩ | ⟨h1, h2, h⟩
    · exact absurd h1 (by decide)
    · exact absurd h1 (by decide)
    · exact absurd h1 (by decide)
    · exact absurd h1 (by decide)
  · intro idx k A σ as post h
    rcases h with ⟨h1, h2, h⟩ | ⟨h1, h2, h⟩ | ⟨h1, h2, h⟩ | ⟨h1, h2, h⟩
    · subst h2
      obtain ⟨k9, as9, e9, hlen, hk1, hk2, hk3⟩ := h.1
      cases e9
      exact ⟨yX12_isRow, cX12_isRow, 2, (some .boolean), (rmd 2), by rw [hlen]; exact lkb_X12_isRow, lnk_X12_106, vir_X12_isRow hk1 hk2 hk3, rfl, rfl, ⟨by decide, by decide⟩, MET_X12_isRow _ _ _ _ h⟩
    · exact absurd h1 (by decide)
    · subst h2
      obtain ⟨k9, as9, e9, hlen, hk1, hk2, hk3⟩ := h.1
      cases e9
      exact ⟨yX12_doesTo, cX12_doesTo, 5, (some .int), (rmd 2), by rw [hlen]; exact lkb_X12_doesTo, lnk_X12_115, vir_X12_doesTo hk1 hk2 hk3, rfl, rfl, ⟨by decide, by decide⟩, MET_X12_doesTo _ _ _ _ h⟩
    · subst h2
      obtain ⟨k9, as9, e9, hlen, hk1, hk2, hk3⟩ := h.1
      cases e9
      exact ⟨yX12_refuse, cX12_refuse, 2, (some .int), (rmd 1), by rw [hlen]; exact lkb_X12_refuse, lnk_X12_65, vir_X12_refuse hk1 hk2 hk3, rfl, rfl, ⟨by decide, by decide⟩, MET_X12_refuse _ _ _ _ h⟩
  · intro idx k A σ as post h
    rcases h with ⟨h1, h2, h⟩ | ⟨h1, h2, h⟩ | ⟨h1, h2, h⟩ | ⟨h1, h2, h⟩
    · exact absurd h1 (by decide)
    · exact absurd h1 (by decide)
    · exact absurd h1 (by decide)
    · exact absurd h1 (by decide)
theorem MET_X12_does (A : AL) (σ : SG) (as : List Value) (post : SG → Int32 → Prop) (h : IN_X12_does A σ as post) : MI l D cI cG base b yX12_does cX12_does 3 (some .int) (rmd 3) A σ as post := MI_of rfl lkb_X12_does.2.2.2.2 h.2.1 ⟨rfl, rfl, by decide, by decide⟩ CTOK_X12_does h.2.2
end MC_X12_does
section MC_X12_order
variable {l : Launch} {D : va_G} {cI cG : ClassId} {base b : Nat}
theorem CTOK_X12_order : CTOK l (rmd 3) D cI cG base b RX12 CT_X12_order := by
  refine ⟨?_, ?_, ?_, ?_⟩
  · intro idx A σ as post h
    rcases h with ⟨h1, h2, h⟩ | ⟨h1, h2, h⟩ | ⟨h1, h2, h⟩
    · exact absurd h1 (by decide)
    · exact absurd h1 (by decide)
    · exact absurd h1 (by decide)
  · intro idx A σ as post h
    rcases h with ⟨h1, h2, h⟩ | ⟨h1, h2, h⟩ | ⟨h1, h2, h⟩
    · exact absurd h1 (by decide)
    · exact absurd h1 (by decide)
    · exact absurd h1 (by decide)
  · intro idx k A σ as post h
    rcases h with ⟨h1, h2, h⟩ | ⟨h1, h2, h⟩ | ⟨h1, h2, h⟩
    · subst h2
      obtain ⟨k9, as9, e9, hlen, hk1, hk2, hk3⟩ := h.1
      cases e9
      exact ⟨yX12_isRow, cX12_isRow, 2, (some .boolean), (rmd 2), by rw [hlen]; exact lkb_X12_isRow, lnk_X12_106, vir_X12_isRow hk1 hk2 hk3, rfl, rfl, ⟨by decide, by decide⟩, MET_X12_isRow _ _ _ _ h⟩
    · subst h2
      obtain ⟨k9, as9, e9, hlen, hk1, hk2, hk3⟩ := h.1
      cases e9
      exact ⟨yX12_refuse, cX12_refuse, 2, (some .int), (rmd 1), by rw [hlen]; exact lkb_X12_refuse, lnk_X12_65, vir_X12_refuse hk1 hk2 hk3, rfl, rfl, ⟨by decide, by decide⟩, MET_X12_refuse _ _ _ _ h⟩
    · subst h2
      obtain ⟨k9, as9, e9, hlen, hk1, hk2, hk3⟩ := h.1
      cases e9
      exact ⟨yX12_doesTo, cX12_doesTo, 5, (some .int), (rmd 2), by rw [hlen]; exact lkb_X12_doesTo, lnk_X12_115, vir_X12_doesTo hk1 hk2 hk3, rfl, rfl, ⟨by decide, by decide⟩, MET_X12_doesTo _ _ _ _ h⟩
  · intro idx k A σ as post h
    rcases h with ⟨h1, h2, h⟩ | ⟨h1, h2, h⟩ | ⟨h1, h2, h⟩
    · exact absurd h1 (by decide)
    · exact absurd h1 (by decide)
    · exact absurd h1 (by decide)
theorem MET_X12_order (A : AL) (σ : SG) (as : List Value) (post : SG → Int32 → Prop) (h : IN_X12_order A σ as post) : MI l D cI cG base b yX12_order cX12_order 5 (some .int) (rmd 3) A σ as post := MI_of rfl lkb_X12_order.2.2.2.2 h.2.1 ⟨rfl, rfl, by decide, by decide⟩ CTOK_X12_order h.2.2
end MC_X12_order
section MC_X12_keeps
variable {l : Launch} {D : va_G} {cI cG : ClassId} {base b : Nat}
theorem CTOK_X12_keeps : CTOK l (rmd 3) D cI cG base b RX12 CT_X12_keeps := by
  refine ⟨?_, ?_, ?_, ?_⟩
  · intro idx A σ as post h
    rcases h with ⟨h1, h2, h⟩ | ⟨h1, h2, h⟩ | ⟨h1, h2, h⟩
    · exact absurd h1 (by decide)
    · exact absurd h1 (by decide)
    · exact absurd h1 (by decide)
  · intro idx A σ as post h
    rcases h with ⟨h1, h2, h⟩ | ⟨h1, h2, h⟩ | ⟨h1, h2, h⟩
    · exact absurd h1 (by decide)
    · exact absurd h1 (by decide)
    · exact absurd h1 (by decide)
  · intro idx k A σ as post h
    rcases h with ⟨h1, h2, h⟩ | ⟨h1, h2, h⟩ | ⟨h1, h2, h⟩
    · subst h2
      obtain ⟨k9, as9, e9, hlen, hk1, hk2, hk3⟩ := h.1
      cases e9
      exact ⟨yX12_isRow, cX12_isRow, 2, (some .boolean), (rmd 2), by rw [hlen]; exact lkb_X12_isRow, lnk_X12_106, vir_X12_isRow hk1 hk2 hk3, rfl, rfl, ⟨by decide, by decide⟩, MET_X12_isRow _ _ _ _ h⟩
    · subst h2
      obtain ⟨k9, as9, e9, hlen, hk1, hk2, hk3⟩ := h.1
      cases e9
      exact ⟨yX12_refuse, cX12_refuse, 2, (some .int), (rmd 1), by rw [hlen]; exact lkb_X12_refuse, lnk_X12_65, vir_X12_refuse hk1 hk2 hk3, rfl, rfl, ⟨by decide, by decide⟩, MET_X12_refuse _ _ _ _ h⟩
    · subst h2
      obtain ⟨k9, as9, e9, hlen, hk1, hk2, hk3⟩ := h.1
      cases e9
      exact ⟨yX12_doesTo, cX12_doesTo, 5, (some .int), (rmd 2), by rw [hlen]; exact lkb_X12_doesTo, lnk_X12_115, vir_X12_doesTo hk1 hk2 hk3, rfl, rfl, ⟨by decide, by decide⟩, MET_X12_doesTo _ _ _ _ h⟩
  · intro idx k A σ as post h
    rcases h with ⟨h1, h2, h⟩ | ⟨h1, h2, h⟩ | ⟨h1, h2, h⟩
    · exact absurd h1 (by decide)
    · exact absurd h1 (by decide)
    · exact absurd h1 (by decide)
theorem MET_X12_keeps (A : AL) (σ : SG) (as : List Value) (post : SG → Int32 → Prop) (h : IN_X12_keeps A σ as post) : MI l D cI cG base b yX12_keeps cX12_keeps 4 (some .int) (rmd 3) A σ as post := MI_of rfl lkb_X12_keeps.2.2.2.2 h.2.1 ⟨rfl, rfl, by decide, by decide⟩ CTOK_X12_keeps h.2.2
end MC_X12_keeps
section MC_X12_now
variable {l : Launch} {D : va_G} {cI cG : ClassId} {base b : Nat}
theorem CTOK_X12_now : CTOK l (rmd 3) D cI cG base b RX12 CT_X12_now := by
  refine ⟨?_, ?_, ?_, ?_⟩
  · intro idx A σ as post h
    rcases h with ⟨h1, h2, h⟩ | ⟨h1, h2, h⟩
    · subst h2
      have hlen := h.1
      exact ⟨yX12_isPlace, cX12_isPlace, 1, (some .boolean), (rmd 2), by rw [hlen]; exact lkb_X12_isPlace, lnk_X12_99, sta_X12_isPlace, rfl, rfl, ⟨by decide, by decide⟩, MET_X12_isPlace _ _ _ _ h⟩
    · exact absurd h1 (by decide)
  · intro idx A σ as post h
    rcases h with ⟨h1, h2, h⟩ | ⟨h1, h2, h⟩
    · exact absurd h1 (by decide)
    · exact absurd h1 (by decide)
  · intro idx k A σ as post h
    rcases h with ⟨h1, h2, h⟩ | ⟨h1, h2, h⟩
    · exact absurd h1 (by decide)
    · subst h2
      obtain ⟨k9, as9, e9, hlen, hk1, hk2, hk3⟩ := h.1
      cases e9
      exact ⟨yX12_refuse, cX12_refuse, 2, (some .int), (rmd 1), by rw [hlen]; exact lkb_X12_refuse, lnk_X12_65, vir_X12_refuse hk1 hk2 hk3, rfl, rfl, ⟨by decide, by decide⟩, MET_X12_refuse _ _ _ _ h⟩
  · intro idx k A σ as post h
    rcases h with ⟨h1, h2, h⟩ | ⟨h1, h2, h⟩
    · exact absurd h1 (by decide)
    · exact absurd h1 (by decide)
theorem MET_X12_now (A : AL) (σ : SG) (as : List Value) (post : SG → Int32 → Prop) (h : IN_X12_now A σ as post) : MI l D cI cG base b yX12_now cX12_now 2 (some .int) (rmd 3) A σ as post := MI_of rfl lkb_X12_now.2.2.2.2 h.2.1 ⟨rfl, rfl, by decide, by decide⟩ CTOK_X12_now h.2.2
end MC_X12_now
section MC_X12_makes
variable {l : Launch} {D : va_G} {cI cG : ClassId} {base b : Nat}
theorem CTOK_X12_makes : CTOK l (rmd 2) D cI cG base b RX12 CT_X12_makes := by
  refine ⟨?_, ?_, ?_, ?_⟩
  · intro idx A σ as post h
    rcases h with ⟨h1, h2, h⟩
    · exact absurd h1 (by decide)
  · intro idx A σ as post h
    rcases h with ⟨h1, h2, h⟩
    · exact absurd h1 (by decide)
  · intro idx k A σ as post h
    rcases h with ⟨h1, h2, h⟩
    · subst h2
      obtain ⟨k9, as9, e9, hlen, hk1, hk2, hk3⟩ := h.1
      cases e9
      exact ⟨yX12_goesTo, cX12_goesTo, 5, (some .int), (rmd 1), by rw [hlen]; exact lkb_X12_goesTo, lnk_X12_102, vir_X12_goesTo hk1 hk2 hk3, rfl, rfl, ⟨by decide, by decide⟩, MET_X12_goesTo _ _ _ _ h⟩
  · intro idx k A σ as post h
    rcases h with ⟨h1, h2, h⟩
    · exact absurd h1 (by decide)
theorem MET_X12_makes (A : AL) (σ : SG) (as : List Value) (post : SG → Int32 → Prop) (h : IN_X12_makes A σ as post) : MV l D cI cG base b yX12_makes cX12_makes 5 (rmd 2) A σ as post := MV_of lkb_X12_makes.2.2.2.2 h.2.1 ⟨rfl, rfl, by decide, by decide⟩ CTOK_X12_makes h.2.2
end MC_X12_makes
section MC_X12_makesRow
variable {l : Launch} {D : va_G} {cI cG : ClassId} {base b : Nat}
theorem CTOK_X12_makesRow : CTOK l (rmd 3) D cI cG base b RX12 CT_X12_makesRow := by
  refine ⟨?_, ?_, ?_, ?_⟩
  · intro idx A σ as post h
    rcases h with ⟨h1, h2, h⟩ | ⟨h1, h2, h⟩ | ⟨h1, h2, h⟩
    · exact absurd h1 (by decide)
    · exact absurd h1 (by decide)
    · exact absurd h1 (by decide)
  · intro idx A σ as post h
    rcases h with ⟨h1, h2, h⟩ | ⟨h1, h2, h⟩ | ⟨h1, h2, h⟩
    · exact absurd h1 (by decide)
    · exact absurd h1 (by decide)
    · exact absurd h1 (by decide)
  · intro idx k A σ as post h
    rcases h with ⟨h1, h2, h⟩ | ⟨h1, h2, h⟩ | ⟨h1, h2, h⟩
    · subst h2
      obtain ⟨k9, as9, e9, hlen, hk1, hk2, hk3⟩ := h.1
      cases e9
      exact ⟨yX12_size, cX12_size, 2, (some .int), (rmd 1), by rw [hlen]; exact lkb_X12_size, lnk_X12_109, vir_X12_size hk1 hk2 hk3, rfl, rfl, ⟨by decide, by decide⟩, MET_X12_size _ _ _ _ h⟩
    · subst h2
      obtain ⟨k9, as9, e9, hlen, hk1, hk2, hk3⟩ := h.1
      cases e9
      exact ⟨yX12_moveOf, cX12_moveOf, 3, (some .int), (rmd 1), by rw [hlen]; exact lkb_X12_moveOf, lnk_X12_112, vir_X12_moveOf hk1 hk2 hk3, rfl, rfl, ⟨by decide, by decide⟩, MET_X12_moveOf _ _ _ _ h⟩
    · exact absurd h1 (by decide)
  · intro idx k A σ as post h
    rcases h with ⟨h1, h2, h⟩ | ⟨h1, h2, h⟩ | ⟨h1, h2, h⟩
    · exact absurd h1 (by decide)
    · exact absurd h1 (by decide)
    · subst h2
      obtain ⟨k9, as9, e9, hlen, hk1, hk2, hk3⟩ := h.1
      cases e9
      exact ⟨yX12_makes, cX12_makes, 5, (rmd 2), by rw [hlen]; exact lkb_X12_makes, lnk_X12_118, vir_X12_makes hk1 hk2 hk3, rfl, rfl, ⟨by decide, by decide⟩, MET_X12_makes _ _ _ _ h⟩
theorem MET_X12_makesRow (A : AL) (σ : SG) (as : List Value) (post : SG → Int32 → Prop) (h : IN_X12_makesRow A σ as post) : MV l D cI cG base b yX12_makesRow cX12_makesRow 5 (rmd 3) A σ as post := MV_of lkb_X12_makesRow.2.2.2.2 h.2.1 ⟨rfl, rfl, by decide, by decide⟩ CTOK_X12_makesRow h.2.2
end MC_X12_makesRow
section MC_X12_isSolved
variable {l : Launch} {D : va_G} {cI cG : ClassId} {base b : Nat}
theorem CTOK_X12_isSolved : CTOK l (rmd 1) D cI cG base b RX12 CT0 := by
  exact CTOK0
theorem MET_X12_isSolved (A : AL) (σ : SG) (as : List Value) (post : SG → Int32 → Prop) (h : IN_X12_isSolved A σ as post) : MI l D cI cG base b yX12_isSolved cX12_isSolved 3 (some .boolean) (rmd 1) A σ as post := MZ_of lkb_X12_isSolved.2.2.2.2 h.2.1 ⟨rfl, rfl, by decide, by decide⟩ CTOK_X12_isSolved h.2.2
end MC_X12_isSolved
section MC_X12_make
variable {l : Launch} {D : va_G} {cI cG : ClassId} {base b : Nat}
theorem CTOK_X12_make : CTOK l (rmd 3) D cI cG base b RX12 CT_X12_make := by
  refine ⟨?_, ?_, ?_, ?_⟩
  · intro idx A σ as post h
    rcases h with ⟨h1, h2, h⟩ | ⟨h1, h2, h⟩ | ⟨h1, h2, h⟩ | ⟨h1, h2, h⟩
    · exact absurd h1 (by decide)
    · exact absurd h1 (by decide)
    · exact absurd h1 (by decide)
    · subst h2
      have hlen := h.1
      exact ⟨yX12_isSolved, cX12_isSolved, 3, (some .boolean), (rmd 1), by rw [hlen]; exact lkb_X12_isSolved, lnk_X12_122, sta_X12_isSolved, rfl, rfl, ⟨by decide, by decide⟩, MET_X12_isSolved _ _ _ _ h⟩
  · intro idx A σ as post h
    rcases h with ⟨h1, h2, h⟩ | ⟨h1, h2, h⟩ | ⟨h1, h2, h⟩ | ⟨h1, h2, h⟩
    · exact absurd h1 (by decide)
    · exact absurd h1 (by decide)
    · exact absurd h1 (by decide)
    · exact absurd h1 (by decide)
  · intro idx k A σ as post h
    rcases h with ⟨h1, h2, h⟩ | ⟨h1, h2, h⟩ | ⟨h1, h2, h⟩ | ⟨h1, h2, h⟩
    · subst h2
      obtain ⟨k9, as9, e9, hlen, hk1, hk2, hk3⟩ := h.1
      cases e9
      exact ⟨yX12_isMove, cX12_isMove, 2, (some .boolean), (rmd 2), by rw [hlen]; exact lkb_X12_isMove, lnk_X12_95, vir_X12_isMove hk1 hk2 hk3, rfl, rfl, ⟨by decide, by decide⟩, MET_X12_isMove _ _ _ _ h⟩
    · subst h2
      obtain ⟨k9, as9, e9, hlen, hk1, hk2, hk3⟩ := h.1
      cases e9
      exact ⟨yX12_refuse, cX12_refuse, 2, (some .int), (rmd 1), by rw [hlen]; exact lkb_X12_refuse, lnk_X12_65, vir_X12_refuse hk1 hk2 hk3, rfl, rfl, ⟨by decide, by decide⟩, MET_X12_refuse _ _ _ _ h⟩
    · exact absurd h1 (by decide)
    · exact absurd h1 (by decide)
  · intro idx k A σ as post h
    rcases h with ⟨h1, h2, h⟩ | ⟨h1, h2, h⟩ | ⟨h1, h2, h⟩ | ⟨h1, h2, h⟩
    · exact absurd h1 (by decide)
    · exact absurd h1 (by decide)
    · subst h2
      obtain ⟨k9, as9, e9, hlen, hk1, hk2, hk3⟩ := h.1
      cases e9
      exact ⟨yX12_makes, cX12_makes, 5, (rmd 2), by rw [hlen]; exact lkb_X12_makes, lnk_X12_118, vir_X12_makes hk1 hk2 hk3, rfl, rfl, ⟨by decide, by decide⟩, MET_X12_makes _ _ _ _ h⟩
    · exact absurd h1 (by decide)
theorem MET_X12_make (A : AL) (σ : SG) (as : List Value) (post : SG → Int32 → Prop) (h : IN_X12_make A σ as post) : MI l D cI cG base b yX12_make cX12_make 2 (some .int) (rmd 3) A σ as post := MI_of rfl lkb_X12_make.2.2.2.2 h.2.1 ⟨rfl, rfl, by decide, by decide⟩ CTOK_X12_make h.2.2
end MC_X12_make
section MC_X12_makeRow
variable {l : Launch} {D : va_G} {cI cG : ClassId} {base b : Nat}
theorem CTOK_X12_makeRow : CTOK l (rmd 4) D cI cG base b RX12 CT_X12_makeRow := by
  refine ⟨?_, ?_, ?_, ?_⟩
  · intro idx A σ as post h
    rcases h with ⟨h1, h2, h⟩ | ⟨h1, h2, h⟩ | ⟨h1, h2, h⟩ | ⟨h1, h2, h⟩
    · exact absurd h1 (by decide)
    · exact absurd h1 (by decide)
    · exact absurd h1 (by decide)
    · subst h2
      have hlen := h.1
      exact ⟨yX12_isSolved, cX12_isSolved, 3, (some .boolean), (rmd 1), by rw [hlen]; exact lkb_X12_isSolved, lnk_X12_122, sta_X12_isSolved, rfl, rfl, ⟨by decide, by decide⟩, MET_X12_isSolved _ _ _ _ h⟩
  · intro idx A σ as post h
    rcases h with ⟨h1, h2, h⟩ | ⟨h1, h2, h⟩ | ⟨h1, h2, h⟩ | ⟨h1, h2, h⟩
    · exact absurd h1 (by decide)
    · exact absurd h1 (by decide)
    · exact absurd h1 (by decide)
    · exact absurd h1 (by decide)
  · intro idx k A σ as post h
    rcases h with ⟨h1, h2, h⟩ | ⟨h1, h2, h⟩ | ⟨h1, h2, h⟩ | ⟨h1, h2, h⟩
    · subst h2
      obtain ⟨k9, as9, e9, hlen, hk1, hk2, hk3⟩ := h.1
      cases e9
      exact ⟨yX12_isRow, cX12_isRow, 2, (some .boolean), (rmd 2), by rw [hlen]; exact lkb_X12_isRow, lnk_X12_106, vir_X12_isRow hk1 hk2 hk3, rfl, rfl, ⟨by decide, by decide⟩, MET_X12_isRow _ _ _ _ h⟩
    · subst h2
      obtain ⟨k9, as9, e9, hlen, hk1, hk2, hk3⟩ := h.1
      cases e9
      exact ⟨yX12_refuse, cX12_refuse, 2, (some .int), (rmd 1), by rw [hlen]; exact lkb_X12_refuse, lnk_X12_65, vir_X12_refuse hk1 hk2 hk3, rfl, rfl, ⟨by decide, by decide⟩, MET_X12_refuse _ _ _ _ h⟩
    · exact absurd h1 (by decide)
    · exact absurd h1 (by decide)
  · intro idx k A σ as post h
    rcases h with ⟨h1, h2, h⟩ | ⟨h1, h2, h⟩ | ⟨h1, h2, h⟩ | ⟨h1, h2, h⟩
    · exact absurd h1 (by decide)
    · exact absurd h1 (by decide)
    · subst h2
      obtain ⟨k9, as9, e9, hlen, hk1, hk2, hk3⟩ := h.1
      cases e9
      exact ⟨yX12_makesRow, cX12_makesRow, 5, (rmd 3), by rw [hlen]; exact lkb_X12_makesRow, lnk_X12_126, vir_X12_makesRow hk1 hk2 hk3, rfl, rfl, ⟨by decide, by decide⟩, MET_X12_makesRow _ _ _ _ h⟩
    · exact absurd h1 (by decide)
theorem MET_X12_makeRow (A : AL) (σ : SG) (as : List Value) (post : SG → Int32 → Prop) (h : IN_X12_makeRow A σ as post) : MI l D cI cG base b yX12_makeRow cX12_makeRow 2 (some .int) (rmd 4) A σ as post := MI_of rfl lkb_X12_makeRow.2.2.2.2 h.2.1 ⟨rfl, rfl, by decide, by decide⟩ CTOK_X12_makeRow h.2.2
end MC_X12_makeRow
section MC_X12_puts
variable {l : Launch} {D : va_G} {cI cG : ClassId} {base b : Nat}
theorem CTOK_X12_puts : CTOK l (rmd 1) D cI cG base b RX12 CT0 := by
  exact CTOK0
theorem MET_X12_puts (A : AL) (σ : SG) (as : List Value) (post : SG → Int32 → Prop) (h : IN_X12_puts A σ as post) : MV l D cI cG base b yX12_puts cX12_puts 9 (rmd 1) A σ as post := MV_of lkb_X12_puts.2.2.2.2 h.2.1 ⟨rfl, rfl, by decide, by decide⟩ CTOK_X12_puts h.2.2
end MC_X12_puts
section MC_X12_numberOf
variable {l : Launch} {D : va_G} {cI cG : ClassId} {base b : Nat}
theorem CTOK_X12_numberOf : CTOK l (rmd 1) D cI cG base b RX12 CT0 := by
  exact CTOK0
theorem MET_X12_numberOf (A : AL) (σ : SG) (as : List Value) (post : SG → Int32 → Prop) (h : IN_X12_numberOf A σ as post) : MI l D cI cG base b yX12_numberOf cX12_numberOf 6 (some .int) (rmd 1) A σ as post := MI_of rfl lkb_X12_numberOf.2.2.2.2 h.2.1 ⟨rfl, rfl, by decide, by decide⟩ CTOK_X12_numberOf h.2.2
end MC_X12_numberOf
section MC_X12_put
variable {l : Launch} {D : va_G} {cI cG : ClassId} {base b : Nat}
theorem CTOK_X12_put : CTOK l (rmd 2) D cI cG base b RX12 CT_X12_put := by
  refine ⟨?_, ?_, ?_, ?_⟩
  · intro idx A σ as post h
    rcases h with ⟨h1, h2, h⟩ | ⟨h1, h2, h⟩ | ⟨h1, h2, h⟩
    · subst h2
      have hlen := h.1
      exact ⟨yX12_within, cX12_within, 3, (some .int), (rmd 1), by rw [hlen]; exact lkb_X12_within, lnk_X12_129, sta_X12_within, rfl, rfl, ⟨by decide, by decide⟩, MET_X12_within _ _ _ _ h⟩
    · exact absurd h1 (by decide)
    · exact absurd h1 (by decide)
  · intro idx A σ as post h
    rcases h with ⟨h1, h2, h⟩ | ⟨h1, h2, h⟩ | ⟨h1, h2, h⟩
    · exact absurd h1 (by decide)
    · exact absurd h1 (by decide)
    · subst h2
      have hlen := h.1
      exact ⟨yX12_puts, cX12_puts, 9, (rmd 1), by rw [hlen]; exact lkb_X12_puts, lnk_X12_133, sta_X12_puts, rfl, rfl, ⟨by decide, by decide⟩, MET_X12_puts _ _ _ _ h⟩
  · intro idx k A σ as post h
    rcases h with ⟨h1, h2, h⟩ | ⟨h1, h2, h⟩ | ⟨h1, h2, h⟩
    · exact absurd h1 (by decide)
    · subst h2
      obtain ⟨k9, as9, e9, hlen, hk1, hk2, hk3⟩ := h.1
      cases e9
      exact ⟨yX12_refuse, cX12_refuse, 2, (some .int), (rmd 1), by rw [hlen]; exact lkb_X12_refuse, lnk_X12_65, vir_X12_refuse hk1 hk2 hk3, rfl, rfl, ⟨by decide, by decide⟩, MET_X12_refuse _ _ _ _ h⟩
    · exact absurd h1 (by decide)
  · intro idx k A σ as post h
    rcases h with ⟨h1, h2, h⟩ | ⟨h1, h2, h⟩ | ⟨h1, h2, h⟩
    · exact absurd h1 (by decide)
    · exact absurd h1 (by decide)
    · exact absurd h1 (by decide)
theorem MET_X12_put (A : AL) (σ : SG) (as : List Value) (post : SG → Int32 → Prop) (h : IN_X12_put A σ as post) : MI l D cI cG base b yX12_put cX12_put 3 (some .int) (rmd 2) A σ as post := MI_of rfl lkb_X12_put.2.2.2.2 h.2.1 ⟨rfl, rfl, by decide, by decide⟩ CTOK_X12_put h.2.2
end MC_X12_put
section MC_X12_time
variable {l : Launch} {D : va_G} {cI cG : ClassId} {base b : Nat}
theorem CTOK_X12_time : CTOK l (rmd 2) D cI cG base b RX12 CT_X12_time := by
  refine ⟨?_, ?_, ?_, ?_⟩
  · intro idx A σ as post h
    rcases h with ⟨h1, h2, h⟩ | ⟨h1, h2, h⟩ | ⟨h1, h2, h⟩
    · subst h2
      have hlen := h.1
      exact ⟨yX12_isIn, cX12_isIn, 2, (some .boolean), (rmd 1), by rw [hlen]; exact lkb_X12_isIn, lnk_X12_61, sta_X12_isIn, rfl, rfl, ⟨by decide, by decide⟩, MET_X12_isIn _ _ _ _ h⟩
    · exact absurd h1 (by decide)
    · subst h2
      have hlen := h.1
      exact ⟨yX12_within, cX12_within, 3, (some .int), (rmd 1), by rw [hlen]; exact lkb_X12_within, lnk_X12_129, sta_X12_within, rfl, rfl, ⟨by decide, by decide⟩, MET_X12_within _ _ _ _ h⟩
  · intro idx A σ as post h
    rcases h with ⟨h1, h2, h⟩ | ⟨h1, h2, h⟩ | ⟨h1, h2, h⟩
    · exact absurd h1 (by decide)
    · exact absurd h1 (by decide)
    · exact absurd h1 (by decide)
  · intro idx k A σ as post h
    rcases h with ⟨h1, h2, h⟩ | ⟨h1, h2, h⟩ | ⟨h1, h2, h⟩
    · exact absurd h1 (by decide)
    · subst h2
      obtain ⟨k9, as9, e9, hlen, hk1, hk2, hk3⟩ := h.1
      cases e9
      exact ⟨yX12_refuse, cX12_refuse, 2, (some .int), (rmd 1), by rw [hlen]; exact lkb_X12_refuse, lnk_X12_65, vir_X12_refuse hk1 hk2 hk3, rfl, rfl, ⟨by decide, by decide⟩, MET_X12_refuse _ _ _ _ h⟩
    · exact absurd h1 (by decide)
  · intro idx k A σ as post h
    rcases h with ⟨h1, h2, h⟩ | ⟨h1, h2, h⟩ | ⟨h1, h2, h⟩
    · exact absurd h1 (by decide)
    · exact absurd h1 (by decide)
    · exact absurd h1 (by decide)
theorem MET_X12_time (A : AL) (σ : SG) (as : List Value) (post : SG → Int32 → Prop) (h : IN_X12_time A σ as post) : MI l D cI cG base b yX12_time cX12_time 7 (some .int) (rmd 2) A σ as post := MI_of rfl lkb_X12_time.2.2.2.2 h.2.1 ⟨rfl, rfl, by decide, by decide⟩ CTOK_X12_time h.2.2
end MC_X12_time
section MC_X12_after
variable {l : Launch} {D : va_G} {cI cG : ClassId} {base b : Nat}
theorem CTOK_X12_after : CTOK l (rmd 2) D cI cG base b RX12 CT_X12_after := by
  refine ⟨?_, ?_, ?_, ?_⟩
  · intro idx A σ as post h
    rcases h with ⟨h1, h2, h⟩ | ⟨h1, h2, h⟩ | ⟨h1, h2, h⟩
    · subst h2
      have hlen := h.1
      exact ⟨yX12_isIn, cX12_isIn, 2, (some .boolean), (rmd 1), by rw [hlen]; exact lkb_X12_isIn, lnk_X12_61, sta_X12_isIn, rfl, rfl, ⟨by decide, by decide⟩, MET_X12_isIn _ _ _ _ h⟩
    · subst h2
      have hlen := h.1
      exact ⟨yX12_within, cX12_within, 3, (some .int), (rmd 1), by rw [hlen]; exact lkb_X12_within, lnk_X12_129, sta_X12_within, rfl, rfl, ⟨by decide, by decide⟩, MET_X12_within _ _ _ _ h⟩
    · exact absurd h1 (by decide)
  · intro idx A σ as post h
    rcases h with ⟨h1, h2, h⟩ | ⟨h1, h2, h⟩ | ⟨h1, h2, h⟩
    · exact absurd h1 (by decide)
    · exact absurd h1 (by decide)
    · exact absurd h1 (by decide)
  · intro idx k A σ as post h
    rcases h with ⟨h1, h2, h⟩ | ⟨h1, h2, h⟩ | ⟨h1, h2, h⟩
    · exact absurd h1 (by decide)
    · exact absurd h1 (by decide)
    · subst h2
      obtain ⟨k9, as9, e9, hlen, hk1, hk2, hk3⟩ := h.1
      cases e9
      exact ⟨yX12_refuse, cX12_refuse, 2, (some .int), (rmd 1), by rw [hlen]; exact lkb_X12_refuse, lnk_X12_65, vir_X12_refuse hk1 hk2 hk3, rfl, rfl, ⟨by decide, by decide⟩, MET_X12_refuse _ _ _ _ h⟩
  · intro idx k A σ as post h
    rcases h with ⟨h1, h2, h⟩ | ⟨h1, h2, h⟩ | ⟨h1, h2, h⟩
    · exact absurd h1 (by decide)
    · exact absurd h1 (by decide)
    · exact absurd h1 (by decide)
theorem MET_X12_after (A : AL) (σ : SG) (as : List Value) (post : SG → Int32 → Prop) (h : IN_X12_after A σ as post) : MI l D cI cG base b yX12_after cX12_after 6 (some .int) (rmd 2) A σ as post := MI_of rfl lkb_X12_after.2.2.2.2 h.2.1 ⟨rfl, rfl, by decide, by decide⟩ CTOK_X12_after h.2.2
end MC_X12_after
section MC_X12_locks
variable {l : Launch} {D : va_G} {cI cG : ClassId} {base b : Nat}
theorem CTOK_X12_locks : CTOK l (rmd 2) D cI cG base b RX12 CT_X12_locks := by
  refine ⟨?_, ?_, ?_, ?_⟩
  · intro idx A σ as post h
    rcases h with ⟨h1, h2, h⟩ | ⟨h1, h2, h⟩ | ⟨h1, h2, h⟩
    · subst h2
      have hlen := h.1
      exact ⟨yX12_isIn, cX12_isIn, 2, (some .boolean), (rmd 1), by rw [hlen]; exact lkb_X12_isIn, lnk_X12_61, sta_X12_isIn, rfl, rfl, ⟨by decide, by decide⟩, MET_X12_isIn _ _ _ _ h⟩
    · exact absurd h1 (by decide)
    · subst h2
      have hlen := h.1
      exact ⟨yX12_within, cX12_within, 3, (some .int), (rmd 1), by rw [hlen]; exact lkb_X12_within, lnk_X12_129, sta_X12_within, rfl, rfl, ⟨by decide, by decide⟩, MET_X12_within _ _ _ _ h⟩
  · intro idx A σ as post h
    rcases h with ⟨h1, h2, h⟩ | ⟨h1, h2, h⟩ | ⟨h1, h2, h⟩
    · exact absurd h1 (by decide)
    · exact absurd h1 (by decide)
    · exact absurd h1 (by decide)
  · intro idx k A σ as post h
    rcases h with ⟨h1, h2, h⟩ | ⟨h1, h2, h⟩ | ⟨h1, h2, h⟩
    · exact absurd h1 (by decide)
    · subst h2
      obtain ⟨k9, as9, e9, hlen, hk1, hk2, hk3⟩ := h.1
      cases e9
      exact ⟨yX12_refuse, cX12_refuse, 2, (some .int), (rmd 1), by rw [hlen]; exact lkb_X12_refuse, lnk_X12_65, vir_X12_refuse hk1 hk2 hk3, rfl, rfl, ⟨by decide, by decide⟩, MET_X12_refuse _ _ _ _ h⟩
    · exact absurd h1 (by decide)
  · intro idx k A σ as post h
    rcases h with ⟨h1, h2, h⟩ | ⟨h1, h2, h⟩ | ⟨h1, h2, h⟩
    · exact absurd h1 (by decide)
    · exact absurd h1 (by decide)
    · exact absurd h1 (by decide)
theorem MET_X12_locks (A : AL) (σ : SG) (as : List Value) (post : SG → Int32 → Prop) (h : IN_X12_locks A σ as post) : MI l D cI cG base b yX12_locks cX12_locks 5 (some .int) (rmd 2) A σ as post := MI_of rfl lkb_X12_locks.2.2.2.2 h.2.1 ⟨rfl, rfl, by decide, by decide⟩ CTOK_X12_locks h.2.2
end MC_X12_locks
section MC_X12_afterOf
variable {l : Launch} {D : va_G} {cI cG : ClassId} {base b : Nat}
theorem CTOK_X12_afterOf : CTOK l (rmd 1) D cI cG base b RX12 CT0 := by
  exact CTOK0
theorem MET_X12_afterOf (A : AL) (σ : SG) (as : List Value) (post : SG → Int32 → Prop) (h : IN_X12_afterOf A σ as post) : MI l D cI cG base b yX12_afterOf cX12_afterOf 3 (some .int) (rmd 1) A σ as post := MI_of rfl lkb_X12_afterOf.2.2.2.2 h.2.1 ⟨rfl, rfl, by decide, by decide⟩ CTOK_X12_afterOf h.2.2
end MC_X12_afterOf
section MC_X12_takes
variable {l : Launch} {D : va_G} {cI cG : ClassId} {base b : Nat}
theorem CTOK_X12_takes : CTOK l (rmd 2) D cI cG base b RX12 CT_X12_takes := by
  refine ⟨?_, ?_, ?_, ?_⟩
  · intro idx A σ as post h
    rcases h with ⟨h1, h2, h⟩
    · exact absurd h1 (by decide)
  · intro idx A σ as post h
    rcases h with ⟨h1, h2, h⟩
    · exact absurd h1 (by decide)
  · intro idx k A σ as post h
    rcases h with ⟨h1, h2, h⟩
    · subst h2
      obtain ⟨k9, as9, e9, hlen, hk1, hk2, hk3⟩ := h.1
      cases e9
      exact ⟨yX12_afterOf, cX12_afterOf, 3, (some .int), (rmd 1), by rw [hlen]; exact lkb_X12_afterOf, lnk_X12_137, vir_X12_afterOf hk1 hk2 hk3, rfl, rfl, ⟨by decide, by decide⟩, MET_X12_afterOf _ _ _ _ h⟩
  · intro idx k A σ as post h
    rcases h with ⟨h1, h2, h⟩
    · exact absurd h1 (by decide)
theorem MET_X12_takes (A : AL) (σ : SG) (as : List Value) (post : SG → Int32 → Prop) (h : IN_X12_takes A σ as post) : MI l D cI cG base b yX12_takes cX12_takes 4 (some .int) (rmd 2) A σ as post := MI_of rfl lkb_X12_takes.2.2.2.2 h.2.1 ⟨rfl, rfl, by decide, by decide⟩ CTOK_X12_takes h.2.2
end MC_X12_takes
section MC_X12_takesOf
variable {l : Launch} {D : va_G} {cI cG : ClassId} {base b : Nat}
theorem CTOK_X12_takesOf : CTOK l (rmd 3) D cI cG base b RX12 CT_X12_takesOf := by
  refine ⟨?_, ?_, ?_, ?_⟩
  · intro idx A σ as post h
    rcases h with ⟨h1, h2, h⟩ | ⟨h1, h2, h⟩
    · exact absurd h1 (by decide)
    · exact absurd h1 (by decide)
  · intro idx A σ as post h
    rcases h with ⟨h1, h2, h⟩ | ⟨h1, h2, h⟩
    · exact absurd h1 (by decide)
    · exact absurd h1 (by decide)
  · intro idx k A σ as post h
    rcases h with ⟨h1, h2, h⟩ | ⟨h1, h2, h⟩
    · subst h2
      obtain ⟨k9, as9, e9, hlen, hk1, hk2, hk3⟩ := h.1
      cases e9
      exact ⟨yX12_moveOf, cX12_moveOf, 3, (some .int), (rmd 1), by rw [hlen]; exact lkb_X12_moveOf, lnk_X12_112, vir_X12_moveOf hk1 hk2 hk3, rfl, rfl, ⟨by decide, by decide⟩, MET_X12_moveOf _ _ _ _ h⟩
    · subst h2
      obtain ⟨k9, as9, e9, hlen, hk1, hk2, hk3⟩ := h.1
      cases e9
      exact ⟨yX12_takes, cX12_takes, 4, (some .int), (rmd 2), by rw [hlen]; exact lkb_X12_takes, lnk_X12_140, vir_X12_takes hk1 hk2 hk3, rfl, rfl, ⟨by decide, by decide⟩, MET_X12_takes _ _ _ _ h⟩
  · intro idx k A σ as post h
    rcases h with ⟨h1, h2, h⟩ | ⟨h1, h2, h⟩
    · exact absurd h1 (by decide)
    · exact absurd h1 (by decide)
theorem MET_X12_takesOf (A : AL) (σ : SG) (as : List Value) (post : SG → Int32 → Prop) (h : IN_X12_takesOf A σ as post) : MI l D cI cG base b yX12_takesOf cX12_takesOf 3 (some .int) (rmd 3) A σ as post := MI_of rfl lkb_X12_takesOf.2.2.2.2 h.2.1 ⟨rfl, rfl, by decide, by decide⟩ CTOK_X12_takesOf h.2.2
end MC_X12_takesOf
section MC_X12_kind
variable {l : Launch} {D : va_G} {cI cG : ClassId} {base b : Nat}
theorem CTOK_X12_kind : CTOK l (rmd 3) D cI cG base b RX12 CT_X12_kind := by
  refine ⟨?_, ?_, ?_, ?_⟩
  · intro idx A σ as post h
    rcases h with ⟨h1, h2, h⟩ | ⟨h1, h2, h⟩ | ⟨h1, h2, h⟩ | ⟨h1, h2, h⟩ | ⟨h1, h2, h⟩ | ⟨h1, h2, h⟩
    · exact absurd h1 (by decide)
    · exact absurd h1 (by decide)
    · exact absurd h1 (by decide)
    · subst h2
      have hlen := h.1
      exact ⟨yX12_isIn, cX12_isIn, 2, (some .boolean), (rmd 1), by rw [hlen]; exact lkb_X12_isIn, lnk_X12_61, sta_X12_isIn, rfl, rfl, ⟨by decide, by decide⟩, MET_X12_isIn _ _ _ _ h⟩
    · exact absurd h1 (by decide)
    · exact absurd h1 (by decide)
  · intro idx A σ as post h
    rcases h with ⟨h1, h2, h⟩ | ⟨h1, h2, h⟩ | ⟨h1, h2, h⟩ | ⟨h1, h2, h⟩ | ⟨h1, h2, h⟩ | ⟨h1, h2, h⟩
    · exact absurd h1 (by decide)
    · exact absurd h1 (by decide)
    · exact absurd h1 (by decide)
    · exact absurd h1 (by decide)
    · exact absurd h1 (by decide)
    · exact absurd h1 (by decide)
  · intro idx k A σ as post h
    rcases h with ⟨h1, h2, h⟩ | ⟨h1, h2, h⟩ | ⟨h1, h2, h⟩ | ⟨h1, h2, h⟩ | ⟨h1, h2, h⟩ | ⟨h1, h2, h⟩
    · subst h2
      obtain ⟨k9, as9, e9, hlen, hk1, hk2, hk3⟩ := h.1
      cases e9
      exact ⟨yX12_isRow, cX12_isRow, 2, (some .boolean), (rmd 2), by rw [hlen]; exact lkb_X12_isRow, lnk_X12_106, vir_X12_isRow hk1 hk2 hk3, rfl, rfl, ⟨by decide, by decide⟩, MET_X12_isRow _ _ _ _ h⟩
    · subst h2
      obtain ⟨k9, as9, e9, hlen, hk1, hk2, hk3⟩ := h.1
      cases e9
      exact ⟨yX12_refuse, cX12_refuse, 2, (some .int), (rmd 1), by rw [hlen]; exact lkb_X12_refuse, lnk_X12_65, vir_X12_refuse hk1 hk2 hk3, rfl, rfl, ⟨by decide, by decide⟩, MET_X12_refuse _ _ _ _ h⟩
    · subst h2
      obtain ⟨k9, as9, e9, hlen, hk1, hk2, hk3⟩ := h.1
      cases e9
      exact ⟨yX12_size, cX12_size, 2, (some .int), (rmd 1), by rw [hlen]; exact lkb_X12_size, lnk_X12_109, vir_X12_size hk1 hk2 hk3, rfl, rfl, ⟨by decide, by decide⟩, MET_X12_size _ _ _ _ h⟩
    · exact absurd h1 (by decide)
    · subst h2
      obtain ⟨k9, as9, e9, hlen, hk1, hk2, hk3⟩ := h.1
      cases e9
      exact ⟨yX12_moveOf, cX12_moveOf, 3, (some .int), (rmd 1), by rw [hlen]; exact lkb_X12_moveOf, lnk_X12_112, vir_X12_moveOf hk1 hk2 hk3, rfl, rfl, ⟨by decide, by decide⟩, MET_X12_moveOf _ _ _ _ h⟩
    · subst h2
      obtain ⟨k9, as9, e9, hlen, hk1, hk2, hk3⟩ := h.1
      cases e9
      exact ⟨yX12_afterOf, cX12_afterOf, 3, (some .int), (rmd 1), by rw [hlen]; exact lkb_X12_afterOf, lnk_X12_137, vir_X12_afterOf hk1 hk2 hk3, rfl, rfl, ⟨by decide, by decide⟩, MET_X12_afterOf _ _ _ _ h⟩
  · intro idx k A σ as post h
    rcases h with ⟨h1, h2, h⟩ | ⟨h1, h2, h⟩ | ⟨h1, h2, h⟩ | ⟨h1, h2, h⟩ | ⟨h1, h2, h⟩ | ⟨h1, h2, h⟩
    · exact absurd h1 (by decide)
    · exact absurd h1 (by decide)
    · exact absurd h1 (by decide)
    · exact absurd h1 (by decide)
    · exact absurd h1 (by decide)
    · exact absurd h1 (by decide)
theorem MET_X12_kind (A : AL) (σ : SG) (as : List Value) (post : SG → Int32 → Prop) (h : IN_X12_kind A σ as post) : MI l D cI cG base b yX12_kind cX12_kind 6 (some .int) (rmd 3) A σ as post := MI_of rfl lkb_X12_kind.2.2.2.2 h.2.1 ⟨rfl, rfl, by decide, by decide⟩ CTOK_X12_kind h.2.2
end MC_X12_kind
section MC_X12_secondsOf
variable {l : Launch} {D : va_G} {cI cG : ClassId} {base b : Nat}
theorem CTOK_X12_secondsOf : CTOK l (rmd 4) D cI cG base b RX12 CT_X12_secondsOf := by
  refine ⟨?_, ?_, ?_, ?_⟩
  · intro idx A σ as post h
    rcases h with ⟨h1, h2, h⟩ | ⟨h1, h2, h⟩
    · exact absurd h1 (by decide)
    · exact absurd h1 (by decide)
  · intro idx A σ as post h
    rcases h with ⟨h1, h2, h⟩ | ⟨h1, h2, h⟩
    · exact absurd h1 (by decide)
    · exact absurd h1 (by decide)
  · intro idx k A σ as post h
    rcases h with ⟨h1, h2, h⟩ | ⟨h1, h2, h⟩
    · subst h2
      obtain ⟨k9, as9, e9, hlen, hk1, hk2, hk3⟩ := h.1
      cases e9
      exact ⟨yX12_size, cX12_size, 2, (some .int), (rmd 1), by rw [hlen]; exact lkb_X12_size, lnk_X12_109, vir_X12_size hk1 hk2 hk3, rfl, rfl, ⟨by decide, by decide⟩, MET_X12_size _ _ _ _ h⟩
    · subst h2
      obtain ⟨k9, as9, e9, hlen, hk1, hk2, hk3⟩ := h.1
      cases e9
      exact ⟨yX12_takesOf, cX12_takesOf, 3, (some .int), (rmd 3), by rw [hlen]; exact lkb_X12_takesOf, lnk_X12_143, vir_X12_takesOf hk1 hk2 hk3, rfl, rfl, ⟨by decide, by decide⟩, MET_X12_takesOf _ _ _ _ h⟩
  · intro idx k A σ as post h
    rcases h with ⟨h1, h2, h⟩ | ⟨h1, h2, h⟩
    · exact absurd h1 (by decide)
    · exact absurd h1 (by decide)
theorem MET_X12_secondsOf (A : AL) (σ : SG) (as : List Value) (post : SG → Int32 → Prop) (h : IN_X12_secondsOf A σ as post) : MI l D cI cG base b yX12_secondsOf cX12_secondsOf 4 (some .int) (rmd 4) A σ as post := MI_of rfl lkb_X12_secondsOf.2.2.2.2 h.2.1 ⟨rfl, rfl, by decide, by decide⟩ CTOK_X12_secondsOf h.2.2
end MC_X12_secondsOf
section MC_X12_seconds
variable {l : Launch} {D : va_G} {cI cG : ClassId} {base b : Nat}
theorem CTOK_X12_seconds : CTOK l (rmd 5) D cI cG base b RX12 CT_X12_seconds := by
  refine ⟨?_, ?_, ?_, ?_⟩
  · intro idx A σ as post h
    rcases h with ⟨h1, h2, h⟩ | ⟨h1, h2, h⟩ | ⟨h1, h2, h⟩
    · exact absurd h1 (by decide)
    · exact absurd h1 (by decide)
    · exact absurd h1 (by decide)
  · intro idx A σ as post h
    rcases h with ⟨h1, h2, h⟩ | ⟨h1, h2, h⟩ | ⟨h1, h2, h⟩
    · exact absurd h1 (by decide)
    · exact absurd h1 (by decide)
    · exact absurd h1 (by decide)
  · intro idx k A σ as post h
    rcases h with ⟨h1, h2, h⟩ | ⟨h1, h2, h⟩ | ⟨h1, h2, h⟩
    · subst h2
      obtain ⟨k9, as9, e9, hlen, hk1, hk2, hk3⟩ := h.1
      cases e9
      exact ⟨yX12_isRow, cX12_isRow, 2, (some .boolean), (rmd 2), by rw [hlen]; exact lkb_X12_isRow, lnk_X12_106, vir_X12_isRow hk1 hk2 hk3, rfl, rfl, ⟨by decide, by decide⟩, MET_X12_isRow _ _ _ _ h⟩
    · subst h2
      obtain ⟨k9, as9, e9, hlen, hk1, hk2, hk3⟩ := h.1
      cases e9
      exact ⟨yX12_secondsOf, cX12_secondsOf, 4, (some .int), (rmd 4), by rw [hlen]; exact lkb_X12_secondsOf, lnk_X12_146, vir_X12_secondsOf hk1 hk2 hk3, rfl, rfl, ⟨by decide, by decide⟩, MET_X12_secondsOf _ _ _ _ h⟩
    · subst h2
      obtain ⟨k9, as9, e9, hlen, hk1, hk2, hk3⟩ := h.1
      cases e9
      exact ⟨yX12_refuse, cX12_refuse, 2, (some .int), (rmd 1), by rw [hlen]; exact lkb_X12_refuse, lnk_X12_65, vir_X12_refuse hk1 hk2 hk3, rfl, rfl, ⟨by decide, by decide⟩, MET_X12_refuse _ _ _ _ h⟩
  · intro idx k A σ as post h
    rcases h with ⟨h1, h2, h⟩ | ⟨h1, h2, h⟩ | ⟨h1, h2, h⟩
    · exact absurd h1 (by decide)
    · exact absurd h1 (by decide)
    · exact absurd h1 (by decide)
theorem MET_X12_seconds (A : AL) (σ : SG) (as : List Value) (post : SG → Int32 → Prop) (h : IN_X12_seconds A σ as post) : MI l D cI cG base b yX12_seconds cX12_seconds 2 (some .int) (rmd 5) A σ as post := MI_of rfl lkb_X12_seconds.2.2.2.2 h.2.1 ⟨rfl, rfl, by decide, by decide⟩ CTOK_X12_seconds h.2.2
end MC_X12_seconds
section MC_X12_mean
variable {l : Launch} {D : va_G} {cI cG : ClassId} {base b : Nat}
theorem CTOK_X12_mean : CTOK l (rmd 5) D cI cG base b RX12 CT_X12_mean := by
  refine ⟨?_, ?_, ?_, ?_⟩
  · intro idx A σ as post h
    rcases h with ⟨h1, h2, h⟩ | ⟨h1, h2, h⟩ | ⟨h1, h2, h⟩ | ⟨h1, h2, h⟩
    · exact absurd h1 (by decide)
    · exact absurd h1 (by decide)
    · exact absurd h1 (by decide)
    · exact absurd h1 (by decide)
  · intro idx A σ as post h
    rcases h with ⟨h1, h2, h⟩ | ⟨h1, h2, h⟩ | ⟨h1, h2, h⟩ | ⟨h1, h2, h⟩
    · exact absurd h1 (by decide)
    · exact absurd h1 (by decide)
    · exact absurd h1 (by decide)
    · exact absurd h1 (by decide)
  · intro idx k A σ as post h
    rcases h with ⟨h1, h2, h⟩ | ⟨h1, h2, h⟩ | ⟨h1, h2, h⟩ | ⟨h1, h2, h⟩
    · subst h2
      obtain ⟨k9, as9, e9, hlen, hk1, hk2, hk3⟩ := h.1
      cases e9
      exact ⟨yX12_isRow, cX12_isRow, 2, (some .boolean), (rmd 2), by rw [hlen]; exact lkb_X12_isRow, lnk_X12_106, vir_X12_isRow hk1 hk2 hk3, rfl, rfl, ⟨by decide, by decide⟩, MET_X12_isRow _ _ _ _ h⟩
    · subst h2
      obtain ⟨k9, as9, e9, hlen, hk1, hk2, hk3⟩ := h.1
      cases e9
      exact ⟨yX12_secondsOf, cX12_secondsOf, 4, (some .int), (rmd 4), by rw [hlen]; exact lkb_X12_secondsOf, lnk_X12_146, vir_X12_secondsOf hk1 hk2 hk3, rfl, rfl, ⟨by decide, by decide⟩, MET_X12_secondsOf _ _ _ _ h⟩
    · subst h2
      obtain ⟨k9, as9, e9, hlen, hk1, hk2, hk3⟩ := h.1
      cases e9
      exact ⟨yX12_size, cX12_size, 2, (some .int), (rmd 1), by rw [hlen]; exact lkb_X12_size, lnk_X12_109, vir_X12_size hk1 hk2 hk3, rfl, rfl, ⟨by decide, by decide⟩, MET_X12_size _ _ _ _ h⟩
    · subst h2
      obtain ⟨k9, as9, e9, hlen, hk1, hk2, hk3⟩ := h.1
      cases e9
      exact ⟨yX12_refuse, cX12_refuse, 2, (some .int), (rmd 1), by rw [hlen]; exact lkb_X12_refuse, lnk_X12_65, vir_X12_refuse hk1 hk2 hk3, rfl, rfl, ⟨by decide, by decide⟩, MET_X12_refuse _ _ _ _ h⟩
  · intro idx k A σ as post h
    rcases h with ⟨h1, h2, h⟩ | ⟨h1, h2, h⟩ | ⟨h1, h2, h⟩ | ⟨h1, h2, h⟩
    · exact absurd h1 (by decide)
    · exact absurd h1 (by decide)
    · exact absurd h1 (by decide)
    · exact absurd h1 (by decide)
theorem MET_X12_mean (A : AL) (σ : SG) (as : List Value) (post : SG → Int32 → Prop) (h : IN_X12_mean A σ as post) : MI l D cI cG base b yX12_mean cX12_mean 2 (some .int) (rmd 5) A σ as post := MI_of rfl lkb_X12_mean.2.2.2.2 h.2.1 ⟨rfl, rfl, by decide, by decide⟩ CTOK_X12_mean h.2.2
end MC_X12_mean
section MC_X12_drawn
variable {l : Launch} {D : va_G} {cI cG : ClassId} {base b : Nat}
theorem CTOK_X12_drawn : CTOK l (rmd 5) D cI cG base b RX12 CT_X12_drawn := by
  refine ⟨?_, ?_, ?_, ?_⟩
  · intro idx A σ as post h
    rcases h with ⟨h1, h2, h⟩ | ⟨h1, h2, h⟩ | ⟨h1, h2, h⟩ | ⟨h1, h2, h⟩
    · exact absurd h1 (by decide)
    · exact absurd h1 (by decide)
    · exact absurd h1 (by decide)
    · exact absurd h1 (by decide)
  · intro idx A σ as post h
    rcases h with ⟨h1, h2, h⟩ | ⟨h1, h2, h⟩ | ⟨h1, h2, h⟩ | ⟨h1, h2, h⟩
    · exact absurd h1 (by decide)
    · exact absurd h1 (by decide)
    · exact absurd h1 (by decide)
    · exact absurd h1 (by decide)
  · intro idx k A σ as post h
    rcases h with ⟨h1, h2, h⟩ | ⟨h1, h2, h⟩ | ⟨h1, h2, h⟩ | ⟨h1, h2, h⟩
    · subst h2
      obtain ⟨k9, as9, e9, hlen, hk1, hk2, hk3⟩ := h.1
      cases e9
      exact ⟨yX12_isRow, cX12_isRow, 2, (some .boolean), (rmd 2), by rw [hlen]; exact lkb_X12_isRow, lnk_X12_106, vir_X12_isRow hk1 hk2 hk3, rfl, rfl, ⟨by decide, by decide⟩, MET_X12_isRow _ _ _ _ h⟩
    · subst h2
      obtain ⟨k9, as9, e9, hlen, hk1, hk2, hk3⟩ := h.1
      cases e9
      exact ⟨yX12_refuse, cX12_refuse, 2, (some .int), (rmd 1), by rw [hlen]; exact lkb_X12_refuse, lnk_X12_65, vir_X12_refuse hk1 hk2 hk3, rfl, rfl, ⟨by decide, by decide⟩, MET_X12_refuse _ _ _ _ h⟩
    · subst h2
      obtain ⟨k9, as9, e9, hlen, hk1, hk2, hk3⟩ := h.1
      cases e9
      exact ⟨yX12_secondsOf, cX12_secondsOf, 4, (some .int), (rmd 4), by rw [hlen]; exact lkb_X12_secondsOf, lnk_X12_146, vir_X12_secondsOf hk1 hk2 hk3, rfl, rfl, ⟨by decide, by decide⟩, MET_X12_secondsOf _ _ _ _ h⟩
    · subst h2
      obtain ⟨k9, as9, e9, hlen, hk1, hk2, hk3⟩ := h.1
      cases e9
      exact ⟨yX12_size, cX12_size, 2, (some .int), (rmd 1), by rw [hlen]; exact lkb_X12_size, lnk_X12_109, vir_X12_size hk1 hk2 hk3, rfl, rfl, ⟨by decide, by decide⟩, MET_X12_size _ _ _ _ h⟩
  · intro idx k A σ as post h
    rcases h with ⟨h1, h2, h⟩ | ⟨h1, h2, h⟩ | ⟨h1, h2, h⟩ | ⟨h1, h2, h⟩
    · exact absurd h1 (by decide)
    · exact absurd h1 (by decide)
    · exact absurd h1 (by decide)
    · exact absurd h1 (by decide)
theorem MET_X12_drawn (A : AL) (σ : SG) (as : List Value) (post : SG → Int32 → Prop) (h : IN_X12_drawn A σ as post) : MI l D cI cG base b yX12_drawn cX12_drawn 6 (some .int) (rmd 5) A σ as post := MI_of rfl lkb_X12_drawn.2.2.2.2 h.2.1 ⟨rfl, rfl, by decide, by decide⟩ CTOK_X12_drawn h.2.2
end MC_X12_drawn
section MC_X12_tries
variable {l : Launch} {D : va_G} {cI cG : ClassId} {base b : Nat}
theorem IN_X12_tries_len : ∀ {d : Nat} {A : AL} {σ : SG} {as : List Value} {post : SG → Int32 → Prop}, IN_X12_tries d A σ as post → (∃ (k : Nat) (as2 : List Value), as = .ref k :: as2 ∧ as2.length = 3 ∧ k < A.1 ∧ k < nObj ∧ (tb k).1 = 14)
  | 0, _, _, _, _, h => h.elim
  | _ + 1, _, _, _, _, h => h.1
theorem CTOK_X12_tries (d : Nat) (ih : ∀ (A : AL) (σ : SG) (as : List Value) (post : SG → Int32 → Prop), IN_X12_tries d A σ as post → MV l D cI cG base b yX12_tries cX12_tries 6 (rmd (3 + d)) A σ as post) : CTOK l (rmd (3 + (d + 1))) D cI cG base b RX12 (CT_X12_tries d) := by
  refine ⟨?_, ?_, ?_, ?_⟩
  · intro idx A σ as post h
    rcases h with ⟨h1, h2, h⟩ | ⟨h1, h2, h⟩ | ⟨h1, h2, h⟩
    · exact absurd h1 (by decide)
    · exact absurd h1 (by decide)
    · exact absurd h1 (by decide)
  · intro idx A σ as post h
    rcases h with ⟨h1, h2, h⟩ | ⟨h1, h2, h⟩ | ⟨h1, h2, h⟩
    · exact absurd h1 (by decide)
    · exact absurd h1 (by decide)
    · exact absurd h1 (by decide)
  · intro idx k A σ as post h
    rcases h with ⟨h1, h2, h⟩ | ⟨h1, h2, h⟩ | ⟨h1, h2, h⟩
    · subst h2
      obtain ⟨k9, as9, e9, hlen, hk1, hk2, hk3⟩ := h.1
      cases e9
      exact ⟨yX12_goesTo, cX12_goesTo, 5, (some .int), (rmd 1), by rw [hlen]; exact lkb_X12_goesTo, lnk_X12_102, vir_X12_goesTo hk1 hk2 hk3, rfl, rfl, ⟨by show 1 + 1 ≤ 3 + (d + 1); omega, by show 8 + (5 + 11) + 100 * 1 ≤ 100 * (3 + (d + 1)); omega⟩, MET_X12_goesTo _ _ _ _ h⟩
    · subst h2
      obtain ⟨k9, as9, e9, hlen, hk1, hk2, hk3⟩ := h.1
      cases e9
      exact ⟨yX12_takes, cX12_takes, 4, (some .int), (rmd 2), by rw [hlen]; exact lkb_X12_takes, lnk_X12_140, vir_X12_takes hk1 hk2 hk3, rfl, rfl, ⟨by show 2 + 1 ≤ 3 + (d + 1); omega, by show 8 + (4 + 11) + 100 * 2 ≤ 100 * (3 + (d + 1)); omega⟩, MET_X12_takes _ _ _ _ h⟩
    · exact absurd h1 (by decide)
  · intro idx k A σ as post h
    rcases h with ⟨h1, h2, h⟩ | ⟨h1, h2, h⟩ | ⟨h1, h2, h⟩
    · exact absurd h1 (by decide)
    · exact absurd h1 (by decide)
    · subst h2
      obtain ⟨k9, as9, e9, hlen, hk1, hk2, hk3⟩ := IN_X12_tries_len h
      cases e9
      exact ⟨yX12_tries, cX12_tries, 6, (rmd (3 + d)), by rw [hlen]; exact lkb_X12_tries, lnk_X12_158, vir_X12_tries hk1 hk2 hk3, rfl, rfl, ⟨by show 3 + d + 1 ≤ 3 + (d + 1); omega, by show 8 + (6 + 11) + 100 * (3 + d) ≤ 100 * (3 + (d + 1)); omega⟩, ih _ _ _ _ h⟩
theorem MET_X12_tries : ∀ (d : Nat) (A : AL) (σ : SG) (as : List Value) (post : SG → Int32 → Prop), IN_X12_tries d A σ as post → MV l D cI cG base b yX12_tries cX12_tries 6 (rmd (3 + d)) A σ as post
  | 0, _, _, _, _, h => h.elim
  | d + 1, A, σ, as, post, h => MV_of lkb_X12_tries.2.2.2.2 h.2.1 ⟨rfl, rfl, by show 1 ≤ 3 + (d + 1); omega, by show 100 ≤ 100 * (3 + (d + 1)); omega⟩ (CTOK_X12_tries d (MET_X12_tries d)) h.2.2
end MC_X12_tries
section MC_X12_better
variable {l : Launch} {D : va_G} {cI cG : ClassId} {base b : Nat}
theorem CTOK_X12_better : CTOK l (rmd 11) D cI cG base b RX12 CT_X12_better := by
  refine ⟨?_, ?_, ?_, ?_⟩
  · intro idx A σ as post h
    rcases h with ⟨h1, h2, h⟩ | ⟨h1, h2, h⟩ | ⟨h1, h2, h⟩ | ⟨h1, h2, h⟩ | ⟨h1, h2, h⟩
    · exact absurd h1 (by decide)
    · subst h2
      have hlen := h.1
      exact ⟨yX12_within, cX12_within, 3, (some .int), (rmd 1), by rw [hlen]; exact lkb_X12_within, lnk_X12_129, sta_X12_within, rfl, rfl, ⟨by decide, by decide⟩, MET_X12_within _ _ _ _ h⟩
    · exact absurd h1 (by decide)
    · exact absurd h1 (by decide)
    · exact absurd h1 (by decide)
  · intro idx A σ as post h
    rcases h with ⟨h1, h2, h⟩ | ⟨h1, h2, h⟩ | ⟨h1, h2, h⟩ | ⟨h1, h2, h⟩ | ⟨h1, h2, h⟩
    · exact absurd h1 (by decide)
    · exact absurd h1 (by decide)
    · exact absurd h1 (by decide)
    · exact absurd h1 (by decide)
    · exact absurd h1 (by decide)
  · intro idx k A σ as post h
    rcases h with ⟨h1, h2, h⟩ | ⟨h1, h2, h⟩ | ⟨h1, h2, h⟩ | ⟨h1, h2, h⟩ | ⟨h1, h2, h⟩
    · subst h2
      obtain ⟨k9, as9, e9, hlen, hk1, hk2, hk3⟩ := h.1
      cases e9
      exact ⟨yX12_isRow, cX12_isRow, 2, (some .boolean), (rmd 2), by rw [hlen]; exact lkb_X12_isRow, lnk_X12_106, vir_X12_isRow hk1 hk2 hk3, rfl, rfl, ⟨by decide, by decide⟩, MET_X12_isRow _ _ _ _ h⟩
    · exact absurd h1 (by decide)
    · subst h2
      obtain ⟨k9, as9, e9, hlen, hk1, hk2, hk3⟩ := h.1
      cases e9
      exact ⟨yX12_refuse, cX12_refuse, 2, (some .int), (rmd 1), by rw [hlen]; exact lkb_X12_refuse, lnk_X12_65, vir_X12_refuse hk1 hk2 hk3, rfl, rfl, ⟨by decide, by decide⟩, MET_X12_refuse _ _ _ _ h⟩
    · subst h2
      obtain ⟨k9, as9, e9, hlen, hk1, hk2, hk3⟩ := h.1
      cases e9
      exact ⟨yX12_doesTo, cX12_doesTo, 5, (some .int), (rmd 2), by rw [hlen]; exact lkb_X12_doesTo, lnk_X12_115, vir_X12_doesTo hk1 hk2 hk3, rfl, rfl, ⟨by decide, by decide⟩, MET_X12_doesTo _ _ _ _ h⟩
    · exact absurd h1 (by decide)
  · intro idx k A σ as post h
    rcases h with ⟨h1, h2, h⟩ | ⟨h1, h2, h⟩ | ⟨h1, h2, h⟩ | ⟨h1, h2, h⟩ | ⟨h1, h2, h⟩
    · exact absurd h1 (by decide)
    · exact absurd h1 (by decide)
    · exact absurd h1 (by decide)
    · exact absurd h1 (by decide)
    · subst h2
      obtain ⟨k9, as9, e9, hlen, hk1, hk2, hk3⟩ := IN_X12_tries_len h
      cases e9
      exact ⟨yX12_tries, cX12_tries, 6, (rmd (3 + 7)), by rw [hlen]; exact lkb_X12_tries, lnk_X12_158, vir_X12_tries hk1 hk2 hk3, rfl, rfl, ⟨by decide, by decide⟩, MET_X12_tries 7 _ _ _ _ h⟩
theorem MET_X12_better (A : AL) (σ : SG) (as : List Value) (post : SG → Int32 → Prop) (h : IN_X12_better A σ as post) : MI l D cI cG base b yX12_better cX12_better 5 (some .int) (rmd 11) A σ as post := MI_of rfl lkb_X12_better.2.2.2.2 h.2.1 ⟨rfl, rfl, by decide, by decide⟩ CTOK_X12_better h.2.2
end MC_X12_better
section MC_X12_found
variable {l : Launch} {D : va_G} {cI cG : ClassId} {base b : Nat}
theorem CTOK_X12_found : CTOK l (rmd 2) D cI cG base b RX12 CT_X12_found := by
  refine ⟨?_, ?_, ?_, ?_⟩
  · intro idx A σ as post h
    rcases h with ⟨h1, h2, h⟩
    · subst h2
      have hlen := h.1
      exact ⟨yX12_isIn, cX12_isIn, 2, (some .boolean), (rmd 1), by rw [hlen]; exact lkb_X12_isIn, lnk_X12_61, sta_X12_isIn, rfl, rfl, ⟨by decide, by decide⟩, MET_X12_isIn _ _ _ _ h⟩
  · intro idx A σ as post h
    rcases h with ⟨h1, h2, h⟩
    · exact absurd h1 (by decide)
  · intro idx k A σ as post h
    rcases h with ⟨h1, h2, h⟩
    · exact absurd h1 (by decide)
  · intro idx k A σ as post h
    rcases h with ⟨h1, h2, h⟩
    · exact absurd h1 (by decide)
theorem MET_X12_found (A : AL) (σ : SG) (as : List Value) (post : SG → Int32 → Prop) (h : IN_X12_found A σ as post) : MI l D cI cG base b yX12_found cX12_found 2 (some .int) (rmd 2) A σ as post := MI_of rfl lkb_X12_found.2.2.2.2 h.2.1 ⟨rfl, rfl, by decide, by decide⟩ CTOK_X12_found h.2.2
end MC_X12_found
section MC_X12_findFar
variable {l : Launch} {D : va_G} {cI cG : ClassId} {base b : Nat}
theorem CTOK_X12_findFar : CTOK l (rmd 3) D cI cG base b RX12 CT_X12_findFar := by
  refine ⟨?_, ?_, ?_, ?_⟩
  · intro idx A σ as post h
    rcases h with ⟨h1, h2, h⟩ | ⟨h1, h2, h⟩ | ⟨h1, h2, h⟩
    · exact absurd h1 (by decide)
    · exact absurd h1 (by decide)
    · subst h2
      have hlen := h.1
      exact ⟨yX12_numberOf, cX12_numberOf, 6, (some .int), (rmd 1), by rw [hlen]; exact lkb_X12_numberOf, lnk_X12_165, sta_X12_numberOf, rfl, rfl, ⟨by decide, by decide⟩, MET_X12_numberOf _ _ _ _ h⟩
  · intro idx A σ as post h
    rcases h with ⟨h1, h2, h⟩ | ⟨h1, h2, h⟩ | ⟨h1, h2, h⟩
    · subst h2
      have hlen := h.1
      exact ⟨yX12_puts, cX12_puts, 9, (rmd 1), by rw [hlen]; exact lkb_X12_puts, lnk_X12_133, sta_X12_puts, rfl, rfl, ⟨by decide, by decide⟩, MET_X12_puts _ _ _ _ h⟩
    · exact absurd h1 (by decide)
    · exact absurd h1 (by decide)
  · intro idx k A σ as post h
    rcases h with ⟨h1, h2, h⟩ | ⟨h1, h2, h⟩ | ⟨h1, h2, h⟩
    · exact absurd h1 (by decide)
    · exact absurd h1 (by decide)
    · exact absurd h1 (by decide)
  · intro idx k A σ as post h
    rcases h with ⟨h1, h2, h⟩ | ⟨h1, h2, h⟩ | ⟨h1, h2, h⟩
    · exact absurd h1 (by decide)
    · subst h2
      obtain ⟨k9, as9, e9, hlen, hk1, hk2, hk3⟩ := h.1
      cases e9
      exact ⟨yX12_makes, cX12_makes, 5, (rmd 2), by rw [hlen]; exact lkb_X12_makes, lnk_X12_118, vir_X12_makes hk1 hk2 hk3, rfl, rfl, ⟨by decide, by decide⟩, MET_X12_makes _ _ _ _ h⟩
    · exact absurd h1 (by decide)
theorem MET_X12_findFar (A : AL) (σ : SG) (as : List Value) (post : SG → Int32 → Prop) (h : IN_X12_findFar A σ as post) : MV l D cI cG base b yX12_findFar cX12_findFar 6 (rmd 3) A σ as post := MV_of lkb_X12_findFar.2.2.2.2 h.2.1 ⟨rfl, rfl, by decide, by decide⟩ CTOK_X12_findFar h.2.2
end MC_X12_findFar
section MC_X12_fewest
variable {l : Launch} {D : va_G} {cI cG : ClassId} {base b : Nat}
theorem CTOK_X12_fewest : CTOK l (rmd 4) D cI cG base b RX12 CT_X12_fewest := by
  refine ⟨?_, ?_, ?_, ?_⟩
  · intro idx A σ as post h
    rcases h with ⟨h1, h2, h⟩ | ⟨h1, h2, h⟩
    · exact absurd h1 (by decide)
    · subst h2
      have hlen := h.1
      exact ⟨yX12_numberOf, cX12_numberOf, 6, (some .int), (rmd 1), by rw [hlen]; exact lkb_X12_numberOf, lnk_X12_165, sta_X12_numberOf, rfl, rfl, ⟨by decide, by decide⟩, MET_X12_numberOf _ _ _ _ h⟩
  · intro idx A σ as post h
    rcases h with ⟨h1, h2, h⟩ | ⟨h1, h2, h⟩
    · exact absurd h1 (by decide)
    · exact absurd h1 (by decide)
  · intro idx k A σ as post h
    rcases h with ⟨h1, h2, h⟩ | ⟨h1, h2, h⟩
    · exact absurd h1 (by decide)
    · exact absurd h1 (by decide)
  · intro idx k A σ as post h
    rcases h with ⟨h1, h2, h⟩ | ⟨h1, h2, h⟩
    · subst h2
      obtain ⟨k9, as9, e9, hlen, hk1, hk2, hk3⟩ := h.1
      cases e9
      exact ⟨yX12_findFar, cX12_findFar, 6, (rmd 3), by rw [hlen]; exact lkb_X12_findFar, lnk_X12_169, vir_X12_findFar hk1 hk2 hk3, rfl, rfl, ⟨by decide, by decide⟩, MET_X12_findFar _ _ _ _ h⟩
    · exact absurd h1 (by decide)
theorem MET_X12_fewest (A : AL) (σ : SG) (as : List Value) (post : SG → Int32 → Prop) (h : IN_X12_fewest A σ as post) : MI l D cI cG base b yX12_fewest cX12_fewest 1 (some .int) (rmd 4) A σ as post := MI_of rfl lkb_X12_fewest.2.2.2.2 h.2.1 ⟨rfl, rfl, by decide, by decide⟩ CTOK_X12_fewest h.2.2
end MC_X12_fewest
section MC_X12_first
variable {l : Launch} {D : va_G} {cI cG : ClassId} {base b : Nat}
theorem CTOK_X12_first : CTOK l (rmd 4) D cI cG base b RX12 CT_X12_first := by
  refine ⟨?_, ?_, ?_, ?_⟩
  · intro idx A σ as post h
    rcases h with ⟨h1, h2, h⟩ | ⟨h1, h2, h⟩ | ⟨h1, h2, h⟩
    · exact absurd h1 (by decide)
    · subst h2
      have hlen := h.1
      exact ⟨yX12_numberOf, cX12_numberOf, 6, (some .int), (rmd 1), by rw [hlen]; exact lkb_X12_numberOf, lnk_X12_165, sta_X12_numberOf, rfl, rfl, ⟨by decide, by decide⟩, MET_X12_numberOf _ _ _ _ h⟩
    · exact absurd h1 (by decide)
  · intro idx A σ as post h
    rcases h with ⟨h1, h2, h⟩ | ⟨h1, h2, h⟩ | ⟨h1, h2, h⟩
    · exact absurd h1 (by decide)
    · exact absurd h1 (by decide)
    · exact absurd h1 (by decide)
  · intro idx k A σ as post h
    rcases h with ⟨h1, h2, h⟩ | ⟨h1, h2, h⟩ | ⟨h1, h2, h⟩
    · exact absurd h1 (by decide)
    · exact absurd h1 (by decide)
    · exact absurd h1 (by decide)
  · intro idx k A σ as post h
    rcases h with ⟨h1, h2, h⟩ | ⟨h1, h2, h⟩ | ⟨h1, h2, h⟩
    · subst h2
      obtain ⟨k9, as9, e9, hlen, hk1, hk2, hk3⟩ := h.1
      cases e9
      exact ⟨yX12_findFar, cX12_findFar, 6, (rmd 3), by rw [hlen]; exact lkb_X12_findFar, lnk_X12_169, vir_X12_findFar hk1 hk2 hk3, rfl, rfl, ⟨by decide, by decide⟩, MET_X12_findFar _ _ _ _ h⟩
    · exact absurd h1 (by decide)
    · subst h2
      obtain ⟨k9, as9, e9, hlen, hk1, hk2, hk3⟩ := h.1
      cases e9
      exact ⟨yX12_makes, cX12_makes, 5, (rmd 2), by rw [hlen]; exact lkb_X12_makes, lnk_X12_118, vir_X12_makes hk1 hk2 hk3, rfl, rfl, ⟨by decide, by decide⟩, MET_X12_makes _ _ _ _ h⟩
theorem MET_X12_first (A : AL) (σ : SG) (as : List Value) (post : SG → Int32 → Prop) (h : IN_X12_first A σ as post) : MI l D cI cG base b yX12_first cX12_first 4 (some .int) (rmd 4) A σ as post := MI_of rfl lkb_X12_first.2.2.2.2 h.2.1 ⟨rfl, rfl, by decide, by decide⟩ CTOK_X12_first h.2.2
end MC_X12_first
section MC_X12_step
variable {l : Launch} {D : va_G} {cI cG : ClassId} {base b : Nat}
theorem CTOK_X12_step : CTOK l (rmd 2) D cI cG base b RX12 CT_X12_step := by
  refine ⟨?_, ?_, ?_, ?_⟩
  · intro idx A σ as post h
    rcases h with ⟨h1, h2, h⟩ | ⟨h1, h2, h⟩
    · subst h2
      have hlen := h.1
      exact ⟨yX12_isIn, cX12_isIn, 2, (some .boolean), (rmd 1), by rw [hlen]; exact lkb_X12_isIn, lnk_X12_61, sta_X12_isIn, rfl, rfl, ⟨by decide, by decide⟩, MET_X12_isIn _ _ _ _ h⟩
    · exact absurd h1 (by decide)
  · intro idx A σ as post h
    rcases h with ⟨h1, h2, h⟩ | ⟨h1, h2, h⟩
    · exact absurd h1 (by decide)
    · exact absurd h1 (by decide)
  · intro idx k A σ as post h
    rcases h with ⟨h1, h2, h⟩ | ⟨h1, h2, h⟩
    · exact absurd h1 (by decide)
    · subst h2
      obtain ⟨k9, as9, e9, hlen, hk1, hk2, hk3⟩ := h.1
      cases e9
      exact ⟨yX12_refuse, cX12_refuse, 2, (some .int), (rmd 1), by rw [hlen]; exact lkb_X12_refuse, lnk_X12_65, vir_X12_refuse hk1 hk2 hk3, rfl, rfl, ⟨by decide, by decide⟩, MET_X12_refuse _ _ _ _ h⟩
  · intro idx k A σ as post h
    rcases h with ⟨h1, h2, h⟩ | ⟨h1, h2, h⟩
    · exact absurd h1 (by decide)
    · exact absurd h1 (by decide)
theorem MET_X12_step (A : AL) (σ : SG) (as : List Value) (post : SG → Int32 → Prop) (h : IN_X12_step A σ as post) : MI l D cI cG base b yX12_step cX12_step 4 (some .int) (rmd 2) A σ as post := MI_of rfl lkb_X12_step.2.2.2.2 h.2.1 ⟨rfl, rfl, by decide, by decide⟩ CTOK_X12_step h.2.2
end MC_X12_step
section MC_X12_stepOf
variable {l : Launch} {D : va_G} {cI cG : ClassId} {base b : Nat}
theorem CTOK_X12_stepOf : CTOK l (rmd 1) D cI cG base b RX12 CT0 := by
  exact CTOK0
theorem MET_X12_stepOf (A : AL) (σ : SG) (as : List Value) (post : SG → Int32 → Prop) (h : IN_X12_stepOf A σ as post) : MI l D cI cG base b yX12_stepOf cX12_stepOf 3 (some .int) (rmd 1) A σ as post := MI_of rfl lkb_X12_stepOf.2.2.2.2 h.2.1 ⟨rfl, rfl, by decide, by decide⟩ CTOK_X12_stepOf h.2.2
end MC_X12_stepOf
section MC_X12_isDone
variable {l : Launch} {D : va_G} {cI cG : ClassId} {base b : Nat}
theorem CTOK_X12_isDone : CTOK l (rmd 2) D cI cG base b RX12 CT_X12_isDone := by
  refine ⟨?_, ?_, ?_, ?_⟩
  · intro idx A σ as post h
    rcases h with ⟨h1, h2, h⟩
    · exact absurd h1 (by decide)
  · intro idx A σ as post h
    rcases h with ⟨h1, h2, h⟩
    · exact absurd h1 (by decide)
  · intro idx k A σ as post h
    rcases h with ⟨h1, h2, h⟩
    · subst h2
      obtain ⟨k9, as9, e9, hlen, hk1, hk2, hk3⟩ := h.1
      cases e9
      exact ⟨yX12_stepOf, cX12_stepOf, 3, (some .int), (rmd 1), by rw [hlen]; exact lkb_X12_stepOf, lnk_X12_172, vir_X12_stepOf hk1 hk2 hk3, rfl, rfl, ⟨by decide, by decide⟩, MET_X12_stepOf _ _ _ _ h⟩
  · intro idx k A σ as post h
    rcases h with ⟨h1, h2, h⟩
    · exact absurd h1 (by decide)
theorem MET_X12_isDone (A : AL) (σ : SG) (as : List Value) (post : SG → Int32 → Prop) (h : IN_X12_isDone A σ as post) : MI l D cI cG base b yX12_isDone cX12_isDone 5 (some .boolean) (rmd 2) A σ as post := MZ_of lkb_X12_isDone.2.2.2.2 h.2.1 ⟨rfl, rfl, by decide, by decide⟩ CTOK_X12_isDone h.2.2
end MC_X12_isDone
section MC_X12_rowFor
variable {l : Launch} {D : va_G} {cI cG : ClassId} {base b : Nat}
theorem CTOK_X12_rowFor : CTOK l (rmd 4) D cI cG base b RX12 CT_X12_rowFor := by
  refine ⟨?_, ?_, ?_, ?_⟩
  · intro idx A σ as post h
    rcases h with ⟨h1, h2, h⟩ | ⟨h1, h2, h⟩ | ⟨h1, h2, h⟩
    · exact absurd h1 (by decide)
    · exact absurd h1 (by decide)
    · exact absurd h1 (by decide)
  · intro idx A σ as post h
    rcases h with ⟨h1, h2, h⟩ | ⟨h1, h2, h⟩ | ⟨h1, h2, h⟩
    · exact absurd h1 (by decide)
    · exact absurd h1 (by decide)
    · exact absurd h1 (by decide)
  · intro idx k A σ as post h
    rcases h with ⟨h1, h2, h⟩ | ⟨h1, h2, h⟩ | ⟨h1, h2, h⟩
    · subst h2
      obtain ⟨k9, as9, e9, hlen, hk1, hk2, hk3⟩ := h.1
      cases e9
      exact ⟨yX12_stepOf, cX12_stepOf, 3, (some .int), (rmd 1), by rw [hlen]; exact lkb_X12_stepOf, lnk_X12_172, vir_X12_stepOf hk1 hk2 hk3, rfl, rfl, ⟨by decide, by decide⟩, MET_X12_stepOf _ _ _ _ h⟩
    · exact absurd h1 (by decide)
    · subst h2
      obtain ⟨k9, as9, e9, hlen, hk1, hk2, hk3⟩ := h.1
      cases e9
      exact ⟨yX12_isDone, cX12_isDone, 5, (some .boolean), (rmd 2), by rw [hlen]; exact lkb_X12_isDone, lnk_X12_175, vir_X12_isDone hk1 hk2 hk3, rfl, rfl, ⟨by decide, by decide⟩, MET_X12_isDone _ _ _ _ h⟩
  · intro idx k A σ as post h
    rcases h with ⟨h1, h2, h⟩ | ⟨h1, h2, h⟩ | ⟨h1, h2, h⟩
    · exact absurd h1 (by decide)
    · subst h2
      obtain ⟨k9, as9, e9, hlen, hk1, hk2, hk3⟩ := h.1
      cases e9
      exact ⟨yX12_makesRow, cX12_makesRow, 5, (rmd 3), by rw [hlen]; exact lkb_X12_makesRow, lnk_X12_126, vir_X12_makesRow hk1 hk2 hk3, rfl, rfl, ⟨by decide, by decide⟩, MET_X12_makesRow _ _ _ _ h⟩
    · exact absurd h1 (by decide)
theorem MET_X12_rowFor (A : AL) (σ : SG) (as : List Value) (post : SG → Int32 → Prop) (h : IN_X12_rowFor A σ as post) : MI l D cI cG base b yX12_rowFor cX12_rowFor 4 (some .int) (rmd 4) A σ as post := MI_of rfl lkb_X12_rowFor.2.2.2.2 h.2.1 ⟨rfl, rfl, by decide, by decide⟩ CTOK_X12_rowFor h.2.2
end MC_X12_rowFor
section MC_X12_goesOn
variable {l : Launch} {D : va_G} {cI cG : ClassId} {base b : Nat}
theorem CTOK_X12_goesOn : CTOK l (rmd 5) D cI cG base b RX12 CT_X12_goesOn := by
  refine ⟨?_, ?_, ?_, ?_⟩
  · intro idx A σ as post h
    rcases h with ⟨h1, h2, h⟩ | ⟨h1, h2, h⟩ | ⟨h1, h2, h⟩
    · exact absurd h1 (by decide)
    · exact absurd h1 (by decide)
    · exact absurd h1 (by decide)
  · intro idx A σ as post h
    rcases h with ⟨h1, h2, h⟩ | ⟨h1, h2, h⟩ | ⟨h1, h2, h⟩
    · exact absurd h1 (by decide)
    · exact absurd h1 (by decide)
    · exact absurd h1 (by decide)
  · intro idx k A σ as post h
    rcases h with ⟨h1, h2, h⟩ | ⟨h1, h2, h⟩ | ⟨h1, h2, h⟩
    · subst h2
      obtain ⟨k9, as9, e9, hlen, hk1, hk2, hk3⟩ := h.1
      cases e9
      exact ⟨yX12_isDone, cX12_isDone, 5, (some .boolean), (rmd 2), by rw [hlen]; exact lkb_X12_isDone, lnk_X12_175, vir_X12_isDone hk1 hk2 hk3, rfl, rfl, ⟨by decide, by decide⟩, MET_X12_isDone _ _ _ _ h⟩
    · subst h2
      obtain ⟨k9, as9, e9, hlen, hk1, hk2, hk3⟩ := h.1
      cases e9
      exact ⟨yX12_rowFor, cX12_rowFor, 4, (some .int), (rmd 4), by rw [hlen]; exact lkb_X12_rowFor, lnk_X12_181, vir_X12_rowFor hk1 hk2 hk3, rfl, rfl, ⟨by decide, by decide⟩, MET_X12_rowFor _ _ _ _ h⟩
    · exact absurd h1 (by decide)
  · intro idx k A σ as post h
    rcases h with ⟨h1, h2, h⟩ | ⟨h1, h2, h⟩ | ⟨h1, h2, h⟩
    · exact absurd h1 (by decide)
    · exact absurd h1 (by decide)
    · subst h2
      obtain ⟨k9, as9, e9, hlen, hk1, hk2, hk3⟩ := h.1
      cases e9
      exact ⟨yX12_makesRow, cX12_makesRow, 5, (rmd 3), by rw [hlen]; exact lkb_X12_makesRow, lnk_X12_126, vir_X12_makesRow hk1 hk2 hk3, rfl, rfl, ⟨by decide, by decide⟩, MET_X12_makesRow _ _ _ _ h⟩
theorem MET_X12_goesOn (A : AL) (σ : SG) (as : List Value) (post : SG → Int32 → Prop) (h : IN_X12_goesOn A σ as post) : MV l D cI cG base b yX12_goesOn cX12_goesOn 2 (rmd 5) A σ as post := MV_of lkb_X12_goesOn.2.2.2.2 h.2.1 ⟨rfl, rfl, by decide, by decide⟩ CTOK_X12_goesOn h.2.2
end MC_X12_goesOn
section MC_X12_triesNow
variable {l : Launch} {D : va_G} {cI cG : ClassId} {base b : Nat}
theorem CTOK_X12_triesNow : CTOK l (rmd 6) D cI cG base b RX12 CT_X12_triesNow := by
  refine ⟨?_, ?_, ?_, ?_⟩
  · intro idx A σ as post h
    rcases h with ⟨h1, h2, h⟩
    · exact absurd h1 (by decide)
  · intro idx A σ as post h
    rcases h with ⟨h1, h2, h⟩
    · exact absurd h1 (by decide)
  · intro idx k A σ as post h
    rcases h with ⟨h1, h2, h⟩
    · exact absurd h1 (by decide)
  · intro idx k A σ as post h
    rcases h with ⟨h1, h2, h⟩
    · subst h2
      obtain ⟨k9, as9, e9, hlen, hk1, hk2, hk3⟩ := h.1
      cases e9
      exact ⟨yX12_goesOn, cX12_goesOn, 2, (rmd 5), by rw [hlen]; exact lkb_X12_goesOn, lnk_X12_184, vir_X12_goesOn hk1 hk2 hk3, rfl, rfl, ⟨by decide, by decide⟩, MET_X12_goesOn _ _ _ _ h⟩
theorem MET_X12_triesNow (A : AL) (σ : SG) (as : List Value) (post : SG → Int32 → Prop) (h : IN_X12_triesNow A σ as post) : MV l D cI cG base b yX12_triesNow cX12_triesNow 2 (rmd 6) A σ as post := MV_of lkb_X12_triesNow.2.2.2.2 h.2.1 ⟨rfl, rfl, by decide, by decide⟩ CTOK_X12_triesNow h.2.2
end MC_X12_triesNow
section MC_X12_tried
variable {l : Launch} {D : va_G} {cI cG : ClassId} {base b : Nat}
theorem CTOK_X12_tried : CTOK l (rmd 7) D cI cG base b RX12 CT_X12_tried := by
  refine ⟨?_, ?_, ?_, ?_⟩
  · intro idx A σ as post h
    rcases h with ⟨h1, h2, h⟩
    · exact absurd h1 (by decide)
  · intro idx A σ as post h
    rcases h with ⟨h1, h2, h⟩
    · exact absurd h1 (by decide)
  · intro idx k A σ as post h
    rcases h with ⟨h1, h2, h⟩
    · exact absurd h1 (by decide)
  · intro idx k A σ as post h
    rcases h with ⟨h1, h2, h⟩
    · subst h2
      obtain ⟨k9, as9, e9, hlen, hk1, hk2, hk3⟩ := h.1
      cases e9
      exact ⟨yX12_triesNow, cX12_triesNow, 2, (rmd 6), by rw [hlen]; exact lkb_X12_triesNow, lnk_X12_187, vir_X12_triesNow hk1 hk2 hk3, rfl, rfl, ⟨by decide, by decide⟩, MET_X12_triesNow _ _ _ _ h⟩
theorem MET_X12_tried (A : AL) (σ : SG) (as : List Value) (post : SG → Int32 → Prop) (h : IN_X12_tried A σ as post) : MI l D cI cG base b yX12_tried cX12_tried 1 (some .int) (rmd 7) A σ as post := MI_of rfl lkb_X12_tried.2.2.2.2 h.2.1 ⟨rfl, rfl, by decide, by decide⟩ CTOK_X12_tried h.2.2
end MC_X12_tried
section MC_X12_triedRow
variable {l : Launch} {D : va_G} {cI cG : ClassId} {base b : Nat}
theorem CTOK_X12_triedRow : CTOK l (rmd 7) D cI cG base b RX12 CT_X12_triedRow := by
  refine ⟨?_, ?_, ?_, ?_⟩
  · intro idx A σ as post h
    rcases h with ⟨h1, h2, h⟩ | ⟨h1, h2, h⟩ | ⟨h1, h2, h⟩
    · exact absurd h1 (by decide)
    · exact absurd h1 (by decide)
    · exact absurd h1 (by decide)
  · intro idx A σ as post h
    rcases h with ⟨h1, h2, h⟩ | ⟨h1, h2, h⟩ | ⟨h1, h2, h⟩
    · exact absurd h1 (by decide)
    · exact absurd h1 (by decide)
    · exact absurd h1 (by decide)
  · intro idx k A σ as post h
    rcases h with ⟨h1, h2, h⟩ | ⟨h1, h2, h⟩ | ⟨h1, h2, h⟩
    · subst h2
      obtain ⟨k9, as9, e9, hlen, hk1, hk2, hk3⟩ := h.1
      cases e9
      exact ⟨yX12_isStep, cX12_isStep, 2, (some .boolean), (rmd 2), by rw [hlen]; exact lkb_X12_isStep, lnk_X12_190, vir_X12_isStep hk1 hk2 hk3, rfl, rfl, ⟨by decide, by decide⟩, MET_X12_isStep _ _ _ _ h⟩
    · subst h2
      obtain ⟨k9, as9, e9, hlen, hk1, hk2, hk3⟩ := h.1
      cases e9
      exact ⟨yX12_refuse, cX12_refuse, 2, (some .int), (rmd 1), by rw [hlen]; exact lkb_X12_refuse, lnk_X12_65, vir_X12_refuse hk1 hk2 hk3, rfl, rfl, ⟨by decide, by decide⟩, MET_X12_refuse _ _ _ _ h⟩
    · exact absurd h1 (by decide)
  · intro idx k A σ as post h
    rcases h with ⟨h1, h2, h⟩ | ⟨h1, h2, h⟩ | ⟨h1, h2, h⟩
    · exact absurd h1 (by decide)
    · exact absurd h1 (by decide)
    · subst h2
      obtain ⟨k9, as9, e9, hlen, hk1, hk2, hk3⟩ := h.1
      cases e9
      exact ⟨yX12_triesNow, cX12_triesNow, 2, (rmd 6), by rw [hlen]; exact lkb_X12_triesNow, lnk_X12_187, vir_X12_triesNow hk1 hk2 hk3, rfl, rfl, ⟨by decide, by decide⟩, MET_X12_triesNow _ _ _ _ h⟩
theorem MET_X12_triedRow (A : AL) (σ : SG) (as : List Value) (post : SG → Int32 → Prop) (h : IN_X12_triedRow A σ as post) : MI l D cI cG base b yX12_triedRow cX12_triedRow 2 (some .int) (rmd 7) A σ as post := MI_of rfl lkb_X12_triedRow.2.2.2.2 h.2.1 ⟨rfl, rfl, by decide, by decide⟩ CTOK_X12_triedRow h.2.2
end MC_X12_triedRow
section MC_X12_solvesFrom
variable {l : Launch} {D : va_G} {cI cG : ClassId} {base b : Nat}
theorem CTOK_X12_solvesFrom : CTOK l (rmd 6) D cI cG base b RX12 CT_X12_solvesFrom := by
  refine ⟨?_, ?_, ?_, ?_⟩
  · intro idx A σ as post h
    rcases h with ⟨h1, h2, h⟩ | ⟨h1, h2, h⟩ | ⟨h1, h2, h⟩
    · exact absurd h1 (by decide)
    · exact absurd h1 (by decide)
    · subst h2
      have hlen := h.1
      exact ⟨yX12_isSolved, cX12_isSolved, 3, (some .boolean), (rmd 1), by rw [hlen]; exact lkb_X12_isSolved, lnk_X12_122, sta_X12_isSolved, rfl, rfl, ⟨by decide, by decide⟩, MET_X12_isSolved _ _ _ _ h⟩
  · intro idx A σ as post h
    rcases h with ⟨h1, h2, h⟩ | ⟨h1, h2, h⟩ | ⟨h1, h2, h⟩
    · subst h2
      have hlen := h.1
      exact ⟨yX12_puts, cX12_puts, 9, (rmd 1), by rw [hlen]; exact lkb_X12_puts, lnk_X12_133, sta_X12_puts, rfl, rfl, ⟨by decide, by decide⟩, MET_X12_puts _ _ _ _ h⟩
    · exact absurd h1 (by decide)
    · exact absurd h1 (by decide)
  · intro idx k A σ as post h
    rcases h with ⟨h1, h2, h⟩ | ⟨h1, h2, h⟩ | ⟨h1, h2, h⟩
    · exact absurd h1 (by decide)
    · exact absurd h1 (by decide)
    · exact absurd h1 (by decide)
  · intro idx k A σ as post h
    rcases h with ⟨h1, h2, h⟩ | ⟨h1, h2, h⟩ | ⟨h1, h2, h⟩
    · exact absurd h1 (by decide)
    · subst h2
      obtain ⟨k9, as9, e9, hlen, hk1, hk2, hk3⟩ := h.1
      cases e9
      exact ⟨yX12_goesOn, cX12_goesOn, 2, (rmd 5), by rw [hlen]; exact lkb_X12_goesOn, lnk_X12_184, vir_X12_goesOn hk1 hk2 hk3, rfl, rfl, ⟨by decide, by decide⟩, MET_X12_goesOn _ _ _ _ h⟩
    · exact absurd h1 (by decide)
theorem MET_X12_solvesFrom (A : AL) (σ : SG) (as : List Value) (post : SG → Int32 → Prop) (h : IN_X12_solvesFrom A σ as post) : MI l D cI cG base b yX12_solvesFrom cX12_solvesFrom 2 (some .boolean) (rmd 6) A σ as post := MZ_of lkb_X12_solvesFrom.2.2.2.2 h.2.1 ⟨rfl, rfl, by decide, by decide⟩ CTOK_X12_solvesFrom h.2.2
end MC_X12_solvesFrom
section MC_X12_solvesOf
variable {l : Launch} {D : va_G} {cI cG : ClassId} {base b : Nat}
theorem CTOK_X12_solvesOf : CTOK l (rmd 7) D cI cG base b RX12 CT_X12_solvesOf := by
  refine ⟨?_, ?_, ?_, ?_⟩
  · intro idx A σ as post h
    rcases h with ⟨h1, h2, h⟩
    · exact absurd h1 (by decide)
  · intro idx A σ as post h
    rcases h with ⟨h1, h2, h⟩
    · exact absurd h1 (by decide)
  · intro idx k A σ as post h
    rcases h with ⟨h1, h2, h⟩
    · subst h2
      obtain ⟨k9, as9, e9, hlen, hk1, hk2, hk3⟩ := h.1
      cases e9
      exact ⟨yX12_solvesFrom, cX12_solvesFrom, 2, (some .boolean), (rmd 6), by rw [hlen]; exact lkb_X12_solvesFrom, lnk_X12_193, vir_X12_solvesFrom hk1 hk2 hk3, rfl, rfl, ⟨by decide, by decide⟩, MET_X12_solvesFrom _ _ _ _ h⟩
  · intro idx k A σ as post h
    rcases h with ⟨h1, h2, h⟩
    · exact absurd h1 (by decide)
theorem MET_X12_solvesOf (A : AL) (σ : SG) (as : List Value) (post : SG → Int32 → Prop) (h : IN_X12_solvesOf A σ as post) : MI l D cI cG base b yX12_solvesOf cX12_solvesOf 3 (some .int) (rmd 7) A σ as post := MI_of rfl lkb_X12_solvesOf.2.2.2.2 h.2.1 ⟨rfl, rfl, by decide, by decide⟩ CTOK_X12_solvesOf h.2.2
end MC_X12_solvesOf
section MC_X12_solves
variable {l : Launch} {D : va_G} {cI cG : ClassId} {base b : Nat}
theorem CTOK_X12_solves : CTOK l (rmd 8) D cI cG base b RX12 CT_X12_solves := by
  refine ⟨?_, ?_, ?_, ?_⟩
  · intro idx A σ as post h
    rcases h with ⟨h1, h2, h⟩
    · exact absurd h1 (by decide)
  · intro idx A σ as post h
    rcases h with ⟨h1, h2, h⟩
    · exact absurd h1 (by decide)
  · intro idx k A σ as post h
    rcases h with ⟨h1, h2, h⟩
    · subst h2
      obtain ⟨k9, as9, e9, hlen, hk1, hk2, hk3⟩ := h.1
      cases e9
      exact ⟨yX12_solvesOf, cX12_solvesOf, 3, (some .int), (rmd 7), by rw [hlen]; exact lkb_X12_solvesOf, lnk_X12_196, vir_X12_solvesOf hk1 hk2 hk3, rfl, rfl, ⟨by decide, by decide⟩, MET_X12_solvesOf _ _ _ _ h⟩
  · intro idx k A σ as post h
    rcases h with ⟨h1, h2, h⟩
    · exact absurd h1 (by decide)
theorem MET_X12_solves (A : AL) (σ : SG) (as : List Value) (post : SG → Int32 → Prop) (h : IN_X12_solves A σ as post) : MI l D cI cG base b yX12_solves cX12_solves 1 (some .int) (rmd 8) A σ as post := MI_of rfl lkb_X12_solves.2.2.2.2 h.2.1 ⟨rfl, rfl, by decide, by decide⟩ CTOK_X12_solves h.2.2
end MC_X12_solves
section MC_X12_lacks
variable {l : Launch} {D : va_G} {cI cG : ClassId} {base b : Nat}
theorem CTOK_X12_lacks : CTOK l (rmd 7) D cI cG base b RX12 CT_X12_lacks := by
  refine ⟨?_, ?_, ?_, ?_⟩
  · intro idx A σ as post h
    rcases h with ⟨h1, h2, h⟩
    · exact absurd h1 (by decide)
  · intro idx A σ as post h
    rcases h with ⟨h1, h2, h⟩
    · exact absurd h1 (by decide)
  · intro idx k A σ as post h
    rcases h with ⟨h1, h2, h⟩
    · subst h2
      obtain ⟨k9, as9, e9, hlen, hk1, hk2, hk3⟩ := h.1
      cases e9
      exact ⟨yX12_solvesFrom, cX12_solvesFrom, 2, (some .boolean), (rmd 6), by rw [hlen]; exact lkb_X12_solvesFrom, lnk_X12_193, vir_X12_solvesFrom hk1 hk2 hk3, rfl, rfl, ⟨by decide, by decide⟩, MET_X12_solvesFrom _ _ _ _ h⟩
  · intro idx k A σ as post h
    rcases h with ⟨h1, h2, h⟩
    · exact absurd h1 (by decide)
theorem MET_X12_lacks (A : AL) (σ : SG) (as : List Value) (post : SG → Int32 → Prop) (h : IN_X12_lacks A σ as post) : MI l D cI cG base b yX12_lacks cX12_lacks 2 (some .int) (rmd 7) A σ as post := MI_of rfl lkb_X12_lacks.2.2.2.2 h.2.1 ⟨rfl, rfl, by decide, by decide⟩ CTOK_X12_lacks h.2.2
end MC_X12_lacks
section MC_X12_common
variable {l : Launch} {D : va_G} {cI cG : ClassId} {base b : Nat}
theorem IN_X12_common_len : ∀ {d : Nat} {A : AL} {σ : SG} {as : List Value} {post : SG → Int32 → Prop}, IN_X12_common d A σ as post → as.length = 2
  | 0, _, _, _, _, h => h.elim
  | _ + 1, _, _, _, _, h => h.1
theorem CTOK_X12_common (d : Nat) (ih : ∀ (A : AL) (σ : SG) (as : List Value) (post : SG → Int32 → Prop), IN_X12_common d A σ as post → MI l D cI cG base b yX12_common cX12_common 2 (some .int) (rmd (1 + d)) A σ as post) : CTOK l (rmd (1 + (d + 1))) D cI cG base b RX12 (CT_X12_common d) := by
  refine ⟨?_, ?_, ?_, ?_⟩
  · intro idx A σ as post h
    rcases h with ⟨h1, h2, h⟩
    · subst h2
      have hlen := IN_X12_common_len h
      exact ⟨yX12_common, cX12_common, 2, (some .int), (rmd (1 + d)), by rw [hlen]; exact lkb_X12_common, lnk_X12_199, sta_X12_common, rfl, rfl, ⟨by show 1 + d + 1 ≤ 1 + (d + 1); omega, by show 8 + (2 + 11) + 100 * (1 + d) ≤ 100 * (1 + (d + 1)); omega⟩, ih _ _ _ _ h⟩
  · intro idx A σ as post h
    rcases h with ⟨h1, h2, h⟩
    · exact absurd h1 (by decide)
  · intro idx k A σ as post h
    rcases h with ⟨h1, h2, h⟩
    · exact absurd h1 (by decide)
  · intro idx k A σ as post h
    rcases h with ⟨h1, h2, h⟩
    · exact absurd h1 (by decide)
theorem MET_X12_common : ∀ (d : Nat) (A : AL) (σ : SG) (as : List Value) (post : SG → Int32 → Prop), IN_X12_common d A σ as post → MI l D cI cG base b yX12_common cX12_common 2 (some .int) (rmd (1 + d)) A σ as post
  | 0, _, _, _, _, h => h.elim
  | d + 1, A, σ, as, post, h => MI_of rfl lkb_X12_common.2.2.2.2 h.2.1 ⟨rfl, rfl, by show 1 ≤ 1 + (d + 1); omega, by show 100 ≤ 100 * (1 + (d + 1)); omega⟩ (CTOK_X12_common d (MET_X12_common d)) h.2.2
end MC_X12_common
section MC_X12_luck
variable {l : Launch} {D : va_G} {cI cG : ClassId} {base b : Nat}
theorem CTOK_X12_luck : CTOK l (rmd 42) D cI cG base b RX12 CT_X12_luck := by
  refine ⟨?_, ?_, ?_, ?_⟩
  · intro idx A σ as post h
    rcases h with ⟨h1, h2, h⟩ | ⟨h1, h2, h⟩ | ⟨h1, h2, h⟩ | ⟨h1, h2, h⟩ | ⟨h1, h2, h⟩ | ⟨h1, h2, h⟩
    · exact absurd h1 (by decide)
    · exact absurd h1 (by decide)
    · subst h2
      have hlen := h.1
      exact ⟨yX12_isIn, cX12_isIn, 2, (some .boolean), (rmd 1), by rw [hlen]; exact lkb_X12_isIn, lnk_X12_61, sta_X12_isIn, rfl, rfl, ⟨by decide, by decide⟩, MET_X12_isIn _ _ _ _ h⟩
    · exact absurd h1 (by decide)
    · exact absurd h1 (by decide)
    · subst h2
      have hlen := IN_X12_common_len h
      exact ⟨yX12_common, cX12_common, 2, (some .int), (rmd (1 + 40)), by rw [hlen]; exact lkb_X12_common, lnk_X12_199, sta_X12_common, rfl, rfl, ⟨by decide, by decide⟩, MET_X12_common 40 _ _ _ _ h⟩
  · intro idx A σ as post h
    rcases h with ⟨h1, h2, h⟩ | ⟨h1, h2, h⟩ | ⟨h1, h2, h⟩ | ⟨h1, h2, h⟩ | ⟨h1, h2, h⟩ | ⟨h1, h2, h⟩
    · exact absurd h1 (by decide)
    · exact absurd h1 (by decide)
    · exact absurd h1 (by decide)
    · subst h2
      have hlen := h.1
      exact ⟨yX12_puts, cX12_puts, 9, (rmd 1), by rw [hlen]; exact lkb_X12_puts, lnk_X12_133, sta_X12_puts, rfl, rfl, ⟨by decide, by decide⟩, MET_X12_puts _ _ _ _ h⟩
    · exact absurd h1 (by decide)
    · exact absurd h1 (by decide)
  · intro idx k A σ as post h
    rcases h with ⟨h1, h2, h⟩ | ⟨h1, h2, h⟩ | ⟨h1, h2, h⟩ | ⟨h1, h2, h⟩ | ⟨h1, h2, h⟩ | ⟨h1, h2, h⟩
    · subst h2
      obtain ⟨k9, as9, e9, hlen, hk1, hk2, hk3⟩ := h.1
      cases e9
      exact ⟨yX12_isStep, cX12_isStep, 2, (some .boolean), (rmd 2), by rw [hlen]; exact lkb_X12_isStep, lnk_X12_190, vir_X12_isStep hk1 hk2 hk3, rfl, rfl, ⟨by decide, by decide⟩, MET_X12_isStep _ _ _ _ h⟩
    · subst h2
      obtain ⟨k9, as9, e9, hlen, hk1, hk2, hk3⟩ := h.1
      cases e9
      exact ⟨yX12_refuse, cX12_refuse, 2, (some .int), (rmd 1), by rw [hlen]; exact lkb_X12_refuse, lnk_X12_65, vir_X12_refuse hk1 hk2 hk3, rfl, rfl, ⟨by decide, by decide⟩, MET_X12_refuse _ _ _ _ h⟩
    · exact absurd h1 (by decide)
    · exact absurd h1 (by decide)
    · exact absurd h1 (by decide)
    · exact absurd h1 (by decide)
  · intro idx k A σ as post h
    rcases h with ⟨h1, h2, h⟩ | ⟨h1, h2, h⟩ | ⟨h1, h2, h⟩ | ⟨h1, h2, h⟩ | ⟨h1, h2, h⟩ | ⟨h1, h2, h⟩
    · exact absurd h1 (by decide)
    · exact absurd h1 (by decide)
    · exact absurd h1 (by decide)
    · exact absurd h1 (by decide)
    · subst h2
      obtain ⟨k9, as9, e9, hlen, hk1, hk2, hk3⟩ := h.1
      cases e9
      exact ⟨yX12_goesOn, cX12_goesOn, 2, (rmd 5), by rw [hlen]; exact lkb_X12_goesOn, lnk_X12_184, vir_X12_goesOn hk1 hk2 hk3, rfl, rfl, ⟨by decide, by decide⟩, MET_X12_goesOn _ _ _ _ h⟩
    · exact absurd h1 (by decide)
theorem MET_X12_luck (A : AL) (σ : SG) (as : List Value) (post : SG → Int32 → Prop) (h : IN_X12_luck A σ as post) : MI l D cI cG base b yX12_luck cX12_luck 6 (some .int) (rmd 42) A σ as post := MI_of rfl lkb_X12_luck.2.2.2.2 h.2.1 ⟨rfl, rfl, by decide, by decide⟩ CTOK_X12_luck h.2.2
end MC_X12_luck
section MC_X12_see
variable {l : Launch} {D : va_G} {cI cG : ClassId} {base b : Nat}
theorem CTOK_X12_see : CTOK l (rmd 3) D cI cG base b RX12 CT_X12_see := by
  refine ⟨?_, ?_, ?_, ?_⟩
  · intro idx A σ as post h
    rcases h with ⟨h1, h2, h⟩ | ⟨h1, h2, h⟩ | ⟨h1, h2, h⟩ | ⟨h1, h2, h⟩
    · exact absurd h1 (by decide)
    · subst h2
      have hlen := h.1
      exact ⟨yX12_within, cX12_within, 3, (some .int), (rmd 1), by rw [hlen]; exact lkb_X12_within, lnk_X12_129, sta_X12_within, rfl, rfl, ⟨by decide, by decide⟩, MET_X12_within _ _ _ _ h⟩
    · exact absurd h1 (by decide)
    · exact absurd h1 (by decide)
  · intro idx A σ as post h
    rcases h with ⟨h1, h2, h⟩ | ⟨h1, h2, h⟩ | ⟨h1, h2, h⟩ | ⟨h1, h2, h⟩
    · exact absurd h1 (by decide)
    · exact absurd h1 (by decide)
    · exact absurd h1 (by decide)
    · exact absurd h1 (by decide)
  · intro idx k A σ as post h
    rcases h with ⟨h1, h2, h⟩ | ⟨h1, h2, h⟩ | ⟨h1, h2, h⟩ | ⟨h1, h2, h⟩
    · subst h2
      obtain ⟨k9, as9, e9, hlen, hk1, hk2, hk3⟩ := h.1
      cases e9
      exact ⟨yX12_isStep, cX12_isStep, 2, (some .boolean), (rmd 2), by rw [hlen]; exact lkb_X12_isStep, lnk_X12_190, vir_X12_isStep hk1 hk2 hk3, rfl, rfl, ⟨by decide, by decide⟩, MET_X12_isStep _ _ _ _ h⟩
    · exact absurd h1 (by decide)
    · subst h2
      obtain ⟨k9, as9, e9, hlen, hk1, hk2, hk3⟩ := h.1
      cases e9
      exact ⟨yX12_refuse, cX12_refuse, 2, (some .int), (rmd 1), by rw [hlen]; exact lkb_X12_refuse, lnk_X12_65, vir_X12_refuse hk1 hk2 hk3, rfl, rfl, ⟨by decide, by decide⟩, MET_X12_refuse _ _ _ _ h⟩
    · subst h2
      obtain ⟨k9, as9, e9, hlen, hk1, hk2, hk3⟩ := h.1
      cases e9
      exact ⟨yX12_stepOf, cX12_stepOf, 3, (some .int), (rmd 1), by rw [hlen]; exact lkb_X12_stepOf, lnk_X12_172, vir_X12_stepOf hk1 hk2 hk3, rfl, rfl, ⟨by decide, by decide⟩, MET_X12_stepOf _ _ _ _ h⟩
  · intro idx k A σ as post h
    rcases h with ⟨h1, h2, h⟩ | ⟨h1, h2, h⟩ | ⟨h1, h2, h⟩ | ⟨h1, h2, h⟩
    · exact absurd h1 (by decide)
    · exact absurd h1 (by decide)
    · exact absurd h1 (by decide)
    · exact absurd h1 (by decide)
theorem MET_X12_see (A : AL) (σ : SG) (as : List Value) (post : SG → Int32 → Prop) (h : IN_X12_see A σ as post) : MI l D cI cG base b yX12_see cX12_see 5 (some .int) (rmd 3) A σ as post := MI_of rfl lkb_X12_see.2.2.2.2 h.2.1 ⟨rfl, rfl, by decide, by decide⟩ CTOK_X12_see h.2.2
end MC_X12_see
section MC_X12_sumBy
variable {l : Launch} {D : va_G} {cI cG : ClassId} {base b : Nat}
theorem CTOK_X12_sumBy : CTOK l (rmd 7) D cI cG base b RX12 CT_X12_sumBy := by
  refine ⟨?_, ?_, ?_, ?_⟩
  · intro idx A σ as post h
    rcases h with ⟨h1, h2, h⟩ | ⟨h1, h2, h⟩ | ⟨h1, h2, h⟩
    · exact absurd h1 (by decide)
    · exact absurd h1 (by decide)
    · exact absurd h1 (by decide)
  · intro idx A σ as post h
    rcases h with ⟨h1, h2, h⟩ | ⟨h1, h2, h⟩ | ⟨h1, h2, h⟩
    · exact absurd h1 (by decide)
    · exact absurd h1 (by decide)
    · exact absurd h1 (by decide)
  · intro idx k A σ as post h
    rcases h with ⟨h1, h2, h⟩ | ⟨h1, h2, h⟩ | ⟨h1, h2, h⟩
    · exact absurd h1 (by decide)
    · subst h2
      obtain ⟨k9, as9, e9, hlen, hk1, hk2, hk3⟩ := h.1
      cases e9
      exact ⟨yX12_stepOf, cX12_stepOf, 3, (some .int), (rmd 1), by rw [hlen]; exact lkb_X12_stepOf, lnk_X12_172, vir_X12_stepOf hk1 hk2 hk3, rfl, rfl, ⟨by decide, by decide⟩, MET_X12_stepOf _ _ _ _ h⟩
    · subst h2
      obtain ⟨k9, as9, e9, hlen, hk1, hk2, hk3⟩ := h.1
      cases e9
      exact ⟨yX12_secondsOf, cX12_secondsOf, 4, (some .int), (rmd 4), by rw [hlen]; exact lkb_X12_secondsOf, lnk_X12_146, vir_X12_secondsOf hk1 hk2 hk3, rfl, rfl, ⟨by decide, by decide⟩, MET_X12_secondsOf _ _ _ _ h⟩
  · intro idx k A σ as post h
    rcases h with ⟨h1, h2, h⟩ | ⟨h1, h2, h⟩ | ⟨h1, h2, h⟩
    · subst h2
      obtain ⟨k9, as9, e9, hlen, hk1, hk2, hk3⟩ := h.1
      cases e9
      exact ⟨yX12_triesNow, cX12_triesNow, 2, (rmd 6), by rw [hlen]; exact lkb_X12_triesNow, lnk_X12_187, vir_X12_triesNow hk1 hk2 hk3, rfl, rfl, ⟨by decide, by decide⟩, MET_X12_triesNow _ _ _ _ h⟩
    · exact absurd h1 (by decide)
    · exact absurd h1 (by decide)
theorem MET_X12_sumBy (A : AL) (σ : SG) (as : List Value) (post : SG → Int32 → Prop) (h : IN_X12_sumBy A σ as post) : MI l D cI cG base b yX12_sumBy cX12_sumBy 6 (some .int) (rmd 7) A σ as post := MI_of rfl lkb_X12_sumBy.2.2.2.2 h.2.1 ⟨rfl, rfl, by decide, by decide⟩ CTOK_X12_sumBy h.2.2
end MC_X12_sumBy
section MC_X12_sum
variable {l : Launch} {D : va_G} {cI cG : ClassId} {base b : Nat}
theorem CTOK_X12_sum : CTOK l (rmd 8) D cI cG base b RX12 CT_X12_sum := by
  refine ⟨?_, ?_, ?_, ?_⟩
  · intro idx A σ as post h
    rcases h with ⟨h1, h2, h⟩ | ⟨h1, h2, h⟩ | ⟨h1, h2, h⟩
    · subst h2
      have hlen := h.1
      exact ⟨yX12_within, cX12_within, 3, (some .int), (rmd 1), by rw [hlen]; exact lkb_X12_within, lnk_X12_129, sta_X12_within, rfl, rfl, ⟨by decide, by decide⟩, MET_X12_within _ _ _ _ h⟩
    · exact absurd h1 (by decide)
    · exact absurd h1 (by decide)
  · intro idx A σ as post h
    rcases h with ⟨h1, h2, h⟩ | ⟨h1, h2, h⟩ | ⟨h1, h2, h⟩
    · exact absurd h1 (by decide)
    · exact absurd h1 (by decide)
    · exact absurd h1 (by decide)
  · intro idx k A σ as post h
    rcases h with ⟨h1, h2, h⟩ | ⟨h1, h2, h⟩ | ⟨h1, h2, h⟩
    · exact absurd h1 (by decide)
    · subst h2
      obtain ⟨k9, as9, e9, hlen, hk1, hk2, hk3⟩ := h.1
      cases e9
      exact ⟨yX12_refuse, cX12_refuse, 2, (some .int), (rmd 1), by rw [hlen]; exact lkb_X12_refuse, lnk_X12_65, vir_X12_refuse hk1 hk2 hk3, rfl, rfl, ⟨by decide, by decide⟩, MET_X12_refuse _ _ _ _ h⟩
    · subst h2
      obtain ⟨k9, as9, e9, hlen, hk1, hk2, hk3⟩ := h.1
      cases e9
      exact ⟨yX12_sumBy, cX12_sumBy, 6, (some .int), (rmd 7), by rw [hlen]; exact lkb_X12_sumBy, lnk_X12_202, vir_X12_sumBy hk1 hk2 hk3, rfl, rfl, ⟨by decide, by decide⟩, MET_X12_sumBy _ _ _ _ h⟩
  · intro idx k A σ as post h
    rcases h with ⟨h1, h2, h⟩ | ⟨h1, h2, h⟩ | ⟨h1, h2, h⟩
    · exact absurd h1 (by decide)
    · exact absurd h1 (by decide)
    · exact absurd h1 (by decide)
theorem MET_X12_sum (A : AL) (σ : SG) (as : List Value) (post : SG → Int32 → Prop) (h : IN_X12_sum A σ as post) : MI l D cI cG base b yX12_sum cX12_sum 3 (some .int) (rmd 8) A σ as post := MI_of rfl lkb_X12_sum.2.2.2.2 h.2.1 ⟨rfl, rfl, by decide, by decide⟩ CTOK_X12_sum h.2.2
end MC_X12_sum
section MC_X12_bestPace
variable {l : Launch} {D : va_G} {cI cG : ClassId} {base b : Nat}
theorem CTOK_X12_bestPace : CTOK l (rmd 8) D cI cG base b RX12 CT_X12_bestPace := by
  refine ⟨?_, ?_, ?_, ?_⟩
  · intro idx A σ as post h
    rcases h with ⟨h1, h2, h⟩
    · exact absurd h1 (by decide)
  · intro idx A σ as post h
    rcases h with ⟨h1, h2, h⟩
    · exact absurd h1 (by decide)
  · intro idx k A σ as post h
    rcases h with ⟨h1, h2, h⟩
    · subst h2
      obtain ⟨k9, as9, e9, hlen, hk1, hk2, hk3⟩ := h.1
      cases e9
      exact ⟨yX12_sumBy, cX12_sumBy, 6, (some .int), (rmd 7), by rw [hlen]; exact lkb_X12_sumBy, lnk_X12_202, vir_X12_sumBy hk1 hk2 hk3, rfl, rfl, ⟨by decide, by decide⟩, MET_X12_sumBy _ _ _ _ h⟩
  · intro idx k A σ as post h
    rcases h with ⟨h1, h2, h⟩
    · exact absurd h1 (by decide)
theorem MET_X12_bestPace (A : AL) (σ : SG) (as : List Value) (post : SG → Int32 → Prop) (h : IN_X12_bestPace A σ as post) : MI l D cI cG base b yX12_bestPace cX12_bestPace 5 (some .int) (rmd 8) A σ as post := MI_of rfl lkb_X12_bestPace.2.2.2.2 h.2.1 ⟨rfl, rfl, by decide, by decide⟩ CTOK_X12_bestPace h.2.2
end MC_X12_bestPace
section MC_X12_learn
variable {l : Launch} {D : va_G} {cI cG : ClassId} {base b : Nat}
theorem CTOK_X12_learn : CTOK l (rmd 8) D cI cG base b RX12 CT_X12_learn := by
  refine ⟨?_, ?_, ?_, ?_⟩
  · intro idx A σ as post h
    rcases h with ⟨h1, h2, h⟩ | ⟨h1, h2, h⟩ | ⟨h1, h2, h⟩ | ⟨h1, h2, h⟩
    · exact absurd h1 (by decide)
    · exact absurd h1 (by decide)
    · exact absurd h1 (by decide)
    · exact absurd h1 (by decide)
  · intro idx A σ as post h
    rcases h with ⟨h1, h2, h⟩ | ⟨h1, h2, h⟩ | ⟨h1, h2, h⟩ | ⟨h1, h2, h⟩
    · exact absurd h1 (by decide)
    · exact absurd h1 (by decide)
    · exact absurd h1 (by decide)
    · exact absurd h1 (by decide)
  · intro idx k A σ as post h
    rcases h with ⟨h1, h2, h⟩ | ⟨h1, h2, h⟩ | ⟨h1, h2, h⟩ | ⟨h1, h2, h⟩
    · subst h2
      obtain ⟨k9, as9, e9, hlen, hk1, hk2, hk3⟩ := h.1
      cases e9
      exact ⟨yX12_isStep, cX12_isStep, 2, (some .boolean), (rmd 2), by rw [hlen]; exact lkb_X12_isStep, lnk_X12_190, vir_X12_isStep hk1 hk2 hk3, rfl, rfl, ⟨by decide, by decide⟩, MET_X12_isStep _ _ _ _ h⟩
    · subst h2
      obtain ⟨k9, as9, e9, hlen, hk1, hk2, hk3⟩ := h.1
      cases e9
      exact ⟨yX12_refuse, cX12_refuse, 2, (some .int), (rmd 1), by rw [hlen]; exact lkb_X12_refuse, lnk_X12_65, vir_X12_refuse hk1 hk2 hk3, rfl, rfl, ⟨by decide, by decide⟩, MET_X12_refuse _ _ _ _ h⟩
    · subst h2
      obtain ⟨k9, as9, e9, hlen, hk1, hk2, hk3⟩ := h.1
      cases e9
      exact ⟨yX12_stepOf, cX12_stepOf, 3, (some .int), (rmd 1), by rw [hlen]; exact lkb_X12_stepOf, lnk_X12_172, vir_X12_stepOf hk1 hk2 hk3, rfl, rfl, ⟨by decide, by decide⟩, MET_X12_stepOf _ _ _ _ h⟩
    · subst h2
      obtain ⟨k9, as9, e9, hlen, hk1, hk2, hk3⟩ := h.1
      cases e9
      exact ⟨yX12_solvesOf, cX12_solvesOf, 3, (some .int), (rmd 7), by rw [hlen]; exact lkb_X12_solvesOf, lnk_X12_196, vir_X12_solvesOf hk1 hk2 hk3, rfl, rfl, ⟨by decide, by decide⟩, MET_X12_solvesOf _ _ _ _ h⟩
  · intro idx k A σ as post h
    rcases h with ⟨h1, h2, h⟩ | ⟨h1, h2, h⟩ | ⟨h1, h2, h⟩ | ⟨h1, h2, h⟩
    · exact absurd h1 (by decide)
    · exact absurd h1 (by decide)
    · exact absurd h1 (by decide)
    · exact absurd h1 (by decide)
theorem MET_X12_learn (A : AL) (σ : SG) (as : List Value) (post : SG → Int32 → Prop) (h : IN_X12_learn A σ as post) : MI l D cI cG base b yX12_learn cX12_learn 7 (some .int) (rmd 8) A σ as post := MI_of rfl lkb_X12_learn.2.2.2.2 h.2.1 ⟨rfl, rfl, by decide, by decide⟩ CTOK_X12_learn h.2.2
end MC_X12_learn
section MC_X12_five
variable {l : Launch} {D : va_G} {cI cG : ClassId} {base b : Nat}
theorem CTOK_X12_five : CTOK l (rmd 2) D cI cG base b RX12 CT_X12_five := by
  refine ⟨?_, ?_, ?_, ?_⟩
  · intro idx A σ as post h
    rcases h with ⟨h1, h2, h⟩ | ⟨h1, h2, h⟩
    · subst h2
      have hlen := h.1
      exact ⟨yX12_within, cX12_within, 3, (some .int), (rmd 1), by rw [hlen]; exact lkb_X12_within, lnk_X12_129, sta_X12_within, rfl, rfl, ⟨by decide, by decide⟩, MET_X12_within _ _ _ _ h⟩
    · exact absurd h1 (by decide)
  · intro idx A σ as post h
    rcases h with ⟨h1, h2, h⟩ | ⟨h1, h2, h⟩
    · exact absurd h1 (by decide)
    · exact absurd h1 (by decide)
  · intro idx k A σ as post h
    rcases h with ⟨h1, h2, h⟩ | ⟨h1, h2, h⟩
    · exact absurd h1 (by decide)
    · subst h2
      obtain ⟨k9, as9, e9, hlen, hk1, hk2, hk3⟩ := h.1
      cases e9
      exact ⟨yX12_refuse, cX12_refuse, 2, (some .int), (rmd 1), by rw [hlen]; exact lkb_X12_refuse, lnk_X12_65, vir_X12_refuse hk1 hk2 hk3, rfl, rfl, ⟨by decide, by decide⟩, MET_X12_refuse _ _ _ _ h⟩
  · intro idx k A σ as post h
    rcases h with ⟨h1, h2, h⟩ | ⟨h1, h2, h⟩
    · exact absurd h1 (by decide)
    · exact absurd h1 (by decide)
theorem MET_X12_five (A : AL) (σ : SG) (as : List Value) (post : SG → Int32 → Prop) (h : IN_X12_five A σ as post) : MI l D cI cG base b yX12_five cX12_five 3 (some .int) (rmd 2) A σ as post := MI_of rfl lkb_X12_five.2.2.2.2 h.2.1 ⟨rfl, rfl, by decide, by decide⟩ CTOK_X12_five h.2.2
end MC_X12_five
section MC_X12_middleSum
variable {l : Launch} {D : va_G} {cI cG : ClassId} {base b : Nat}
theorem CTOK_X12_middleSum : CTOK l (rmd 1) D cI cG base b RX12 CT0 := by
  exact CTOK0
theorem MET_X12_middleSum (A : AL) (σ : SG) (as : List Value) (post : SG → Int32 → Prop) (h : IN_X12_middleSum A σ as post) : MI l D cI cG base b yX12_middleSum cX12_middleSum 5 (some .int) (rmd 1) A σ as post := MI_of rfl lkb_X12_middleSum.2.2.2.2 h.2.1 ⟨rfl, rfl, by decide, by decide⟩ CTOK_X12_middleSum h.2.2
end MC_X12_middleSum
section MC_X12_middle
variable {l : Launch} {D : va_G} {cI cG : ClassId} {base b : Nat}
theorem CTOK_X12_middle : CTOK l (rmd 2) D cI cG base b RX12 CT_X12_middle := by
  refine ⟨?_, ?_, ?_, ?_⟩
  · intro idx A σ as post h
    rcases h with ⟨h1, h2, h⟩ | ⟨h1, h2, h⟩ | ⟨h1, h2, h⟩
    · subst h2
      have hlen := h.1
      exact ⟨yX12_isIn, cX12_isIn, 2, (some .boolean), (rmd 1), by rw [hlen]; exact lkb_X12_isIn, lnk_X12_61, sta_X12_isIn, rfl, rfl, ⟨by decide, by decide⟩, MET_X12_isIn _ _ _ _ h⟩
    · exact absurd h1 (by decide)
    · exact absurd h1 (by decide)
  · intro idx A σ as post h
    rcases h with ⟨h1, h2, h⟩ | ⟨h1, h2, h⟩ | ⟨h1, h2, h⟩
    · exact absurd h1 (by decide)
    · exact absurd h1 (by decide)
    · exact absurd h1 (by decide)
  · intro idx k A σ as post h
    rcases h with ⟨h1, h2, h⟩ | ⟨h1, h2, h⟩ | ⟨h1, h2, h⟩
    · exact absurd h1 (by decide)
    · subst h2
      obtain ⟨k9, as9, e9, hlen, hk1, hk2, hk3⟩ := h.1
      cases e9
      exact ⟨yX12_refuse, cX12_refuse, 2, (some .int), (rmd 1), by rw [hlen]; exact lkb_X12_refuse, lnk_X12_65, vir_X12_refuse hk1 hk2 hk3, rfl, rfl, ⟨by decide, by decide⟩, MET_X12_refuse _ _ _ _ h⟩
    · subst h2
      obtain ⟨k9, as9, e9, hlen, hk1, hk2, hk3⟩ := h.1
      cases e9
      exact ⟨yX12_middleSum, cX12_middleSum, 5, (some .int), (rmd 1), by rw [hlen]; exact lkb_X12_middleSum, lnk_X12_208, vir_X12_middleSum hk1 hk2 hk3, rfl, rfl, ⟨by decide, by decide⟩, MET_X12_middleSum _ _ _ _ h⟩
  · intro idx k A σ as post h
    rcases h with ⟨h1, h2, h⟩ | ⟨h1, h2, h⟩ | ⟨h1, h2, h⟩
    · exact absurd h1 (by decide)
    · exact absurd h1 (by decide)
    · exact absurd h1 (by decide)
theorem MET_X12_middle (A : AL) (σ : SG) (as : List Value) (post : SG → Int32 → Prop) (h : IN_X12_middle A σ as post) : MI l D cI cG base b yX12_middle cX12_middle 3 (some .int) (rmd 2) A σ as post := MI_of rfl lkb_X12_middle.2.2.2.2 h.2.1 ⟨rfl, rfl, by decide, by decide⟩ CTOK_X12_middle h.2.2
end MC_X12_middle
section MC_X12_need
variable {l : Launch} {D : va_G} {cI cG : ClassId} {base b : Nat}
theorem CTOK_X12_need : CTOK l (rmd 2) D cI cG base b RX12 CT_X12_need := by
  refine ⟨?_, ?_, ?_, ?_⟩
  · intro idx A σ as post h
    rcases h with ⟨h1, h2, h⟩ | ⟨h1, h2, h⟩ | ⟨h1, h2, h⟩
    · subst h2
      have hlen := h.1
      exact ⟨yX12_within, cX12_within, 3, (some .int), (rmd 1), by rw [hlen]; exact lkb_X12_within, lnk_X12_129, sta_X12_within, rfl, rfl, ⟨by decide, by decide⟩, MET_X12_within _ _ _ _ h⟩
    · exact absurd h1 (by decide)
    · exact absurd h1 (by decide)
  · intro idx A σ as post h
    rcases h with ⟨h1, h2, h⟩ | ⟨h1, h2, h⟩ | ⟨h1, h2, h⟩
    · exact absurd h1 (by decide)
    · exact absurd h1 (by decide)
    · exact absurd h1 (by decide)
  · intro idx k A σ as post h
    rcases h with ⟨h1, h2, h⟩ | ⟨h1, h2, h⟩ | ⟨h1, h2, h⟩
    · exact absurd h1 (by decide)
    · subst h2
      obtain ⟨k9, as9, e9, hlen, hk1, hk2, hk3⟩ := h.1
      cases e9
      exact ⟨yX12_refuse, cX12_refuse, 2, (some .int), (rmd 1), by rw [hlen]; exact lkb_X12_refuse, lnk_X12_65, vir_X12_refuse hk1 hk2 hk3, rfl, rfl, ⟨by decide, by decide⟩, MET_X12_refuse _ _ _ _ h⟩
    · subst h2
      obtain ⟨k9, as9, e9, hlen, hk1, hk2, hk3⟩ := h.1
      cases e9
      exact ⟨yX12_middleSum, cX12_middleSum, 5, (some .int), (rmd 1), by rw [hlen]; exact lkb_X12_middleSum, lnk_X12_208, vir_X12_middleSum hk1 hk2 hk3, rfl, rfl, ⟨by decide, by decide⟩, MET_X12_middleSum _ _ _ _ h⟩
  · intro idx k A σ as post h
    rcases h with ⟨h1, h2, h⟩ | ⟨h1, h2, h⟩ | ⟨h1, h2, h⟩
    · exact absurd h1 (by decide)
    · exact absurd h1 (by decide)
    · exact absurd h1 (by decide)
theorem MET_X12_need (A : AL) (σ : SG) (as : List Value) (post : SG → Int32 → Prop) (h : IN_X12_need A σ as post) : MI l D cI cG base b yX12_need cX12_need 4 (some .int) (rmd 2) A σ as post := MI_of rfl lkb_X12_need.2.2.2.2 h.2.1 ⟨rfl, rfl, by decide, by decide⟩ CTOK_X12_need h.2.2
end MC_X12_need
section MC_X12_film
variable {l : Launch} {D : va_G} {cI cG : ClassId} {base b : Nat}
theorem CTOK_X12_film : CTOK l (rmd 2) D cI cG base b RX12 CT_X12_film := by
  refine ⟨?_, ?_, ?_, ?_⟩
  · intro idx A σ as post h
    rcases h with ⟨h1, h2, h⟩ | ⟨h1, h2, h⟩
    · subst h2
      have hlen := h.1
      exact ⟨yX12_within, cX12_within, 3, (some .int), (rmd 1), by rw [hlen]; exact lkb_X12_within, lnk_X12_129, sta_X12_within, rfl, rfl, ⟨by decide, by decide⟩, MET_X12_within _ _ _ _ h⟩
    · exact absurd h1 (by decide)
  · intro idx A σ as post h
    rcases h with ⟨h1, h2, h⟩ | ⟨h1, h2, h⟩
    · exact absurd h1 (by decide)
    · exact absurd h1 (by decide)
  · intro idx k A σ as post h
    rcases h with ⟨h1, h2, h⟩ | ⟨h1, h2, h⟩
    · exact absurd h1 (by decide)
    · subst h2
      obtain ⟨k9, as9, e9, hlen, hk1, hk2, hk3⟩ := h.1
      cases e9
      exact ⟨yX12_refuse, cX12_refuse, 2, (some .int), (rmd 1), by rw [hlen]; exact lkb_X12_refuse, lnk_X12_65, vir_X12_refuse hk1 hk2 hk3, rfl, rfl, ⟨by decide, by decide⟩, MET_X12_refuse _ _ _ _ h⟩
  · intro idx k A σ as post h
    rcases h with ⟨h1, h2, h⟩ | ⟨h1, h2, h⟩
    · exact absurd h1 (by decide)
    · exact absurd h1 (by decide)
theorem MET_X12_film (A : AL) (σ : SG) (as : List Value) (post : SG → Int32 → Prop) (h : IN_X12_film A σ as post) : MI l D cI cG base b yX12_film cX12_film 3 (some .int) (rmd 2) A σ as post := MI_of rfl lkb_X12_film.2.2.2.2 h.2.1 ⟨rfl, rfl, by decide, by decide⟩ CTOK_X12_film h.2.2
end MC_X12_film
section MC_X12_held
variable {l : Launch} {D : va_G} {cI cG : ClassId} {base b : Nat}
theorem CTOK_X12_held : CTOK l (rmd 4) D cI cG base b RX12 CT_X12_held := by
  refine ⟨?_, ?_, ?_, ?_⟩
  · intro idx A σ as post h
    rcases h with ⟨h1, h2, h⟩ | ⟨h1, h2, h⟩ | ⟨h1, h2, h⟩ | ⟨h1, h2, h⟩ | ⟨h1, h2, h⟩
    · exact absurd h1 (by decide)
    · subst h2
      have hlen := h.1
      exact ⟨yX12_within, cX12_within, 3, (some .int), (rmd 1), by rw [hlen]; exact lkb_X12_within, lnk_X12_129, sta_X12_within, rfl, rfl, ⟨by decide, by decide⟩, MET_X12_within _ _ _ _ h⟩
    · exact absurd h1 (by decide)
    · exact absurd h1 (by decide)
    · exact absurd h1 (by decide)
  · intro idx A σ as post h
    rcases h with ⟨h1, h2, h⟩ | ⟨h1, h2, h⟩ | ⟨h1, h2, h⟩ | ⟨h1, h2, h⟩ | ⟨h1, h2, h⟩
    · exact absurd h1 (by decide)
    · exact absurd h1 (by decide)
    · exact absurd h1 (by decide)
    · exact absurd h1 (by decide)
    · exact absurd h1 (by decide)
  · intro idx k A σ as post h
    rcases h with ⟨h1, h2, h⟩ | ⟨h1, h2, h⟩ | ⟨h1, h2, h⟩ | ⟨h1, h2, h⟩ | ⟨h1, h2, h⟩
    · subst h2
      obtain ⟨k9, as9, e9, hlen, hk1, hk2, hk3⟩ := h.1
      cases e9
      exact ⟨yX12_isRow, cX12_isRow, 2, (some .boolean), (rmd 2), by rw [hlen]; exact lkb_X12_isRow, lnk_X12_106, vir_X12_isRow hk1 hk2 hk3, rfl, rfl, ⟨by decide, by decide⟩, MET_X12_isRow _ _ _ _ h⟩
    · exact absurd h1 (by decide)
    · subst h2
      obtain ⟨k9, as9, e9, hlen, hk1, hk2, hk3⟩ := h.1
      cases e9
      exact ⟨yX12_refuse, cX12_refuse, 2, (some .int), (rmd 1), by rw [hlen]; exact lkb_X12_refuse, lnk_X12_65, vir_X12_refuse hk1 hk2 hk3, rfl, rfl, ⟨by decide, by decide⟩, MET_X12_refuse _ _ _ _ h⟩
    · subst h2
      obtain ⟨k9, as9, e9, hlen, hk1, hk2, hk3⟩ := h.1
      cases e9
      exact ⟨yX12_size, cX12_size, 2, (some .int), (rmd 1), by rw [hlen]; exact lkb_X12_size, lnk_X12_109, vir_X12_size hk1 hk2 hk3, rfl, rfl, ⟨by decide, by decide⟩, MET_X12_size _ _ _ _ h⟩
    · subst h2
      obtain ⟨k9, as9, e9, hlen, hk1, hk2, hk3⟩ := h.1
      cases e9
      exact ⟨yX12_takesOf, cX12_takesOf, 3, (some .int), (rmd 3), by rw [hlen]; exact lkb_X12_takesOf, lnk_X12_143, vir_X12_takesOf hk1 hk2 hk3, rfl, rfl, ⟨by decide, by decide⟩, MET_X12_takesOf _ _ _ _ h⟩
  · intro idx k A σ as post h
    rcases h with ⟨h1, h2, h⟩ | ⟨h1, h2, h⟩ | ⟨h1, h2, h⟩ | ⟨h1, h2, h⟩ | ⟨h1, h2, h⟩
    · exact absurd h1 (by decide)
    · exact absurd h1 (by decide)
    · exact absurd h1 (by decide)
    · exact absurd h1 (by decide)
    · exact absurd h1 (by decide)
theorem MET_X12_held (A : AL) (σ : SG) (as : List Value) (post : SG → Int32 → Prop) (h : IN_X12_held A σ as post) : MI l D cI cG base b yX12_held cX12_held 5 (some .int) (rmd 4) A σ as post := MI_of rfl lkb_X12_held.2.2.2.2 h.2.1 ⟨rfl, rfl, by decide, by decide⟩ CTOK_X12_held h.2.2
end MC_X12_held
section MC_X12_heldUp
variable {l : Launch} {D : va_G} {cI cG : ClassId} {base b : Nat}
theorem CTOK_X12_heldUp : CTOK l (rmd 4) D cI cG base b RX12 CT_X12_heldUp := by
  refine ⟨?_, ?_, ?_, ?_⟩
  · intro idx A σ as post h
    rcases h with ⟨h1, h2, h⟩ | ⟨h1, h2, h⟩ | ⟨h1, h2, h⟩ | ⟨h1, h2, h⟩
    · exact absurd h1 (by decide)
    · exact absurd h1 (by decide)
    · exact absurd h1 (by decide)
    · exact absurd h1 (by decide)
  · intro idx A σ as post h
    rcases h with ⟨h1, h2, h⟩ | ⟨h1, h2, h⟩ | ⟨h1, h2, h⟩ | ⟨h1, h2, h⟩
    · exact absurd h1 (by decide)
    · exact absurd h1 (by decide)
    · exact absurd h1 (by decide)
    · exact absurd h1 (by decide)
  · intro idx k A σ as post h
    rcases h with ⟨h1, h2, h⟩ | ⟨h1, h2, h⟩ | ⟨h1, h2, h⟩ | ⟨h1, h2, h⟩
    · subst h2
      obtain ⟨k9, as9, e9, hlen, hk1, hk2, hk3⟩ := h.1
      cases e9
      exact ⟨yX12_isRow, cX12_isRow, 2, (some .boolean), (rmd 2), by rw [hlen]; exact lkb_X12_isRow, lnk_X12_106, vir_X12_isRow hk1 hk2 hk3, rfl, rfl, ⟨by decide, by decide⟩, MET_X12_isRow _ _ _ _ h⟩
    · subst h2
      obtain ⟨k9, as9, e9, hlen, hk1, hk2, hk3⟩ := h.1
      cases e9
      exact ⟨yX12_refuse, cX12_refuse, 2, (some .int), (rmd 1), by rw [hlen]; exact lkb_X12_refuse, lnk_X12_65, vir_X12_refuse hk1 hk2 hk3, rfl, rfl, ⟨by decide, by decide⟩, MET_X12_refuse _ _ _ _ h⟩
    · subst h2
      obtain ⟨k9, as9, e9, hlen, hk1, hk2, hk3⟩ := h.1
      cases e9
      exact ⟨yX12_size, cX12_size, 2, (some .int), (rmd 1), by rw [hlen]; exact lkb_X12_size, lnk_X12_109, vir_X12_size hk1 hk2 hk3, rfl, rfl, ⟨by decide, by decide⟩, MET_X12_size _ _ _ _ h⟩
    · subst h2
      obtain ⟨k9, as9, e9, hlen, hk1, hk2, hk3⟩ := h.1
      cases e9
      exact ⟨yX12_takesOf, cX12_takesOf, 3, (some .int), (rmd 3), by rw [hlen]; exact lkb_X12_takesOf, lnk_X12_143, vir_X12_takesOf hk1 hk2 hk3, rfl, rfl, ⟨by decide, by decide⟩, MET_X12_takesOf _ _ _ _ h⟩
  · intro idx k A σ as post h
    rcases h with ⟨h1, h2, h⟩ | ⟨h1, h2, h⟩ | ⟨h1, h2, h⟩ | ⟨h1, h2, h⟩
    · exact absurd h1 (by decide)
    · exact absurd h1 (by decide)
    · exact absurd h1 (by decide)
    · exact absurd h1 (by decide)
theorem MET_X12_heldUp (A : AL) (σ : SG) (as : List Value) (post : SG → Int32 → Prop) (h : IN_X12_heldUp A σ as post) : MI l D cI cG base b yX12_heldUp cX12_heldUp 5 (some .int) (rmd 4) A σ as post := MI_of rfl lkb_X12_heldUp.2.2.2.2 h.2.1 ⟨rfl, rfl, by decide, by decide⟩ CTOK_X12_heldUp h.2.2
end MC_X12_heldUp
section MC_X12_image
variable {l : Launch} {D : va_G} {cI cG : ClassId} {base b : Nat}
theorem CTOK_X12_image : CTOK l (rmd 1) D cI cG base b RX12 CT0 := by
  exact CTOK0
theorem MET_X12_image (A : AL) (σ : SG) (as : List Value) (post : SG → Int32 → Prop) (h : IN_X12_image A σ as post) : MI l D cI cG base b yX12_image cX12_image 2 (some .int) (rmd 1) A σ as post := MI_of rfl lkb_X12_image.2.2.2.2 h.2.1 ⟨rfl, rfl, by decide, by decide⟩ CTOK_X12_image h.2.2
end MC_X12_image
section MC_X12_on
variable {l : Launch} {D : va_G} {cI cG : ClassId} {base b : Nat}
theorem CTOK_X12_on : CTOK l (rmd 2) D cI cG base b RX12 CT_X12_on := by
  refine ⟨?_, ?_, ?_, ?_⟩
  · intro idx A σ as post h
    rcases h with ⟨h1, h2, h⟩
    · exact absurd h1 (by decide)
  · intro idx A σ as post h
    rcases h with ⟨h1, h2, h⟩
    · exact absurd h1 (by decide)
  · intro idx k A σ as post h
    rcases h with ⟨h1, h2, h⟩
    · subst h2
      obtain ⟨k9, as9, e9, hlen, hk1, hk2, hk3⟩ := h.1
      cases e9
      exact ⟨yX12_refuse, cX12_refuse, 2, (some .int), (rmd 1), by rw [hlen]; exact lkb_X12_refuse, lnk_X12_65, vir_X12_refuse hk1 hk2 hk3, rfl, rfl, ⟨by decide, by decide⟩, MET_X12_refuse _ _ _ _ h⟩
  · intro idx k A σ as post h
    rcases h with ⟨h1, h2, h⟩
    · exact absurd h1 (by decide)
theorem MET_X12_on (A : AL) (σ : SG) (as : List Value) (post : SG → Int32 → Prop) (h : IN_X12_on A σ as post) : MI l D cI cG base b yX12_on cX12_on 2 (some .int) (rmd 2) A σ as post := MI_of rfl lkb_X12_on.2.2.2.2 h.2.1 ⟨rfl, rfl, by decide, by decide⟩ CTOK_X12_on h.2.2
end MC_X12_on
section MC_X12_count
variable {l : Launch} {D : va_G} {cI cG : ClassId} {base b : Nat}
theorem CTOK_X12_count : CTOK l (rmd 1) D cI cG base b RX12 CT0 := by
  exact CTOK0
theorem MET_X12_count (A : AL) (σ : SG) (as : List Value) (post : SG → Int32 → Prop) (h : IN_X12_count A σ as post) : MI l D cI cG base b yX12_count cX12_count 4 (some .int) (rmd 1) A σ as post := MI_of rfl lkb_X12_count.2.2.2.2 h.2.1 ⟨rfl, rfl, by decide, by decide⟩ CTOK_X12_count h.2.2
end MC_X12_count
