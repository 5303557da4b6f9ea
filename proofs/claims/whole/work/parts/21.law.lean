def CT_L_law : CTT := fun kd idx A σ as post => (kd = 2 ∧ idx = 15 ∧ IN_X11_feed A σ as post) ∨ (kd = 2 ∧ idx = 19 ∧ IN_X12_feed A σ as post) ∨ (kd = 2 ∧ idx = 20 ∧ IN_X11_turn A σ as post) ∨ (kd = 2 ∧ idx = 24 ∧ IN_X12_turn A σ as post) ∨ (kd = 2 ∧ idx = 25 ∧ IN_X11_row A σ as post) ∨ (kd = 2 ∧ idx = 28 ∧ IN_X12_row A σ as post) ∨ (kd = 2 ∧ idx = 29 ∧ IN_X11_goes A σ as post) ∨ (kd = 2 ∧ idx = 33 ∧ IN_X12_goes A σ as post) ∨ (kd = 2 ∧ idx = 34 ∧ IN_X11_rowOf A σ as post) ∨ (kd = 2 ∧ idx = 37 ∧ IN_X12_rowOf A σ as post) ∨ (kd = 2 ∧ idx = 38 ∧ IN_X11_does A σ as post) ∨ (kd = 2 ∧ idx = 41 ∧ IN_X12_does A σ as post) ∨ (kd = 2 ∧ idx = 42 ∧ IN_X11_order A σ as post) ∨ (kd = 2 ∧ idx = 46 ∧ IN_X12_order A σ as post) ∨ (kd = 2 ∧ idx = 47 ∧ IN_X11_keeps A σ as post) ∨ (kd = 2 ∧ idx = 50 ∧ IN_X12_keeps A σ as post) ∨ (kd = 2 ∧ idx = 51 ∧ IN_X11_now A σ as post) ∨ (kd = 2 ∧ idx = 54 ∧ IN_X12_now A σ as post) ∨ (kd = 2 ∧ idx = 55 ∧ IN_X11_make A σ as post) ∨ (kd = 2 ∧ idx = 58 ∧ IN_X12_make A σ as post) ∨ (kd = 2 ∧ idx = 59 ∧ IN_X11_makeRow A σ as post) ∨ (kd = 2 ∧ idx = 62 ∧ IN_X12_makeRow A σ as post) ∨ (kd = 2 ∧ idx = 63 ∧ IN_X11_put A σ as post) ∨ (kd = 2 ∧ idx = 66 ∧ IN_X12_put A σ as post) ∨ (kd = 2 ∧ idx = 67 ∧ IN_X11_time A σ as post) ∨ (kd = 2 ∧ idx = 71 ∧ IN_X12_time A σ as post) ∨ (kd = 2 ∧ idx = 72 ∧ IN_X11_after A σ as post) ∨ (kd = 2 ∧ idx = 75 ∧ IN_X12_after A σ as post) ∨ (kd = 2 ∧ idx = 76 ∧ IN_X11_locks A σ as post) ∨ (kd = 2 ∧ idx = 79 ∧ IN_X12_locks A σ as post) ∨ (kd = 2 ∧ idx = 80 ∧ IN_X11_kind A σ as post) ∨ (kd = 2 ∧ idx = 83 ∧ IN_X12_kind A σ as post) ∨ (kd = 2 ∧ idx = 84 ∧ IN_X11_seconds A σ as post) ∨ (kd = 2 ∧ idx = 87 ∧ IN_X12_seconds A σ as post) ∨ (kd = 2 ∧ idx = 88 ∧ IN_X11_mean A σ as post) ∨ (kd = 2 ∧ idx = 91 ∧ IN_X12_mean A σ as post) ∨ (kd = 2 ∧ idx = 92 ∧ IN_X11_drawn A σ as post) ∨ (kd = 2 ∧ idx = 95 ∧ IN_X12_drawn A σ as post) ∨ (kd = 2 ∧ idx = 96 ∧ IN_X11_better A σ as post) ∨ (kd = 2 ∧ idx = 99 ∧ IN_X12_better A σ as post) ∨ (kd = 2 ∧ idx = 100 ∧ IN_X11_found A σ as post) ∨ (kd = 2 ∧ idx = 103 ∧ IN_X12_found A σ as post) ∨ (kd = 2 ∧ idx = 104 ∧ IN_X11_fewest A σ as post) ∨ (kd = 2 ∧ idx = 107 ∧ IN_X12_fewest A σ as post) ∨ (kd = 2 ∧ idx = 108 ∧ IN_X11_first A σ as post) ∨ (kd = 2 ∧ idx = 111 ∧ IN_X12_first A σ as post) ∨ (kd = 2 ∧ idx = 112 ∧ IN_X11_step A σ as post) ∨ (kd = 2 ∧ idx = 115 ∧ IN_X12_step A σ as post) ∨ (kd = 2 ∧ idx = 116 ∧ IN_X11_tried A σ as post) ∨ (kd = 2 ∧ idx = 119 ∧ IN_X12_tried A σ as post) ∨ (kd = 2 ∧ idx = 120 ∧ IN_X11_triedRow A σ as post) ∨ (kd = 2 ∧ idx = 123 ∧ IN_X12_triedRow A σ as post) ∨ (kd = 2 ∧ idx = 124 ∧ IN_X11_solves A σ as post) ∨ (kd = 2 ∧ idx = 127 ∧ IN_X12_solves A σ as post) ∨ (kd = 2 ∧ idx = 128 ∧ IN_X11_lacks A σ as post) ∨ (kd = 2 ∧ idx = 131 ∧ IN_X12_lacks A σ as post) ∨ (kd = 2 ∧ idx = 132 ∧ IN_X11_luck A σ as post) ∨ (kd = 2 ∧ idx = 135 ∧ IN_X12_luck A σ as post) ∨ (kd = 2 ∧ idx = 136 ∧ IN_X11_see A σ as post) ∨ (kd = 2 ∧ idx = 139 ∧ IN_X12_see A σ as post) ∨ (kd = 2 ∧ idx = 140 ∧ IN_X11_sum A σ as post) ∨ (kd = 2 ∧ idx = 143 ∧ IN_X12_sum A σ as post) ∨ (kd = 2 ∧ idx = 144 ∧ IN_X11_bestPace A σ as post) ∨ (kd = 2 ∧ idx = 147 ∧ IN_X12_bestPace A σ as post) ∨ (kd = 2 ∧ idx = 148 ∧ IN_X11_learn A σ as post) ∨ (kd = 2 ∧ idx = 151 ∧ IN_X12_learn A σ as post) ∨ (kd = 2 ∧ idx = 152 ∧ IN_X11_five A σ as post) ∨ (kd = 2 ∧ idx = 155 ∧ IN_X12_five A σ as post) ∨ (kd = 2 ∧ idx = 156 ∧ IN_X11_middle A σ as post) ∨ (kd = 2 ∧ idx = 159 ∧ IN_X12_middle A σ as post) ∨ (kd = 2 ∧ idx = 160 ∧ IN_X11_need A σ as post) ∨ (kd = 2 ∧ idx = 163 ∧ IN_X12_need A σ as post) ∨ (kd = 2 ∧ idx = 164 ∧ IN_X11_film A σ as post) ∨ (kd = 2 ∧ idx = 167 ∧ IN_X12_film A σ as post) ∨ (kd = 2 ∧ idx = 168 ∧ IN_X11_held A σ as post) ∨ (kd = 2 ∧ idx = 171 ∧ IN_X12_held A σ as post) ∨ (kd = 2 ∧ idx = 172 ∧ IN_X11_heldUp A σ as post) ∨ (kd = 2 ∧ idx = 175 ∧ IN_X12_heldUp A σ as post) ∨ (kd = 2 ∧ idx = 176 ∧ IN_X11_image A σ as post) ∨ (kd = 2 ∧ idx = 179 ∧ IN_X12_image A σ as post) ∨ (kd = 2 ∧ idx = 180 ∧ IN_X11_on A σ as post) ∨ (kd = 2 ∧ idx = 183 ∧ IN_X12_on A σ as post) ∨ (kd = 2 ∧ idx = 184 ∧ IN_X11_count A σ as post) ∨ (kd = 2 ∧ idx = 187 ∧ IN_X12_count A σ as post)
def CNT_L_law : CNT := fun idx A σ as mc ms post => (idx = 9 ∧ INN_X11_init A σ as mc ms post) ∨ (idx = 12 ∧ INN_X12_init A σ as mc ms post)
def QRL : AL → SG → Option Int32 → Prop := fun _ _ r => r = some 1
abbrev T_L_law (Ln : Nat) (xs : Nat → Int32) (pc : Nat) (L S : List Value) (A : AL) (σ : SG) : Prop := TT cL_law RL false CT_L_law CNT_L_law 120 24063 QRL (some (Ln, xs)) pc L S A σ
section MC_law
variable {l : Launch} {D : va_G} {cI cG : ClassId} {base b : Nat}
theorem CTOK_L_law : CTOK l room_1 D cI cG base b RL CT_L_law := by
  refine ⟨?_, ?_, ?_, ?_⟩
  · intro idx A σ as post h
    rcases h with ⟨h1, h2, h⟩ | ⟨h1, h2, h⟩ | ⟨h1, h2, h⟩ | ⟨h1, h2, h⟩ | ⟨h1, h2, h⟩ | ⟨h1, h2, h⟩ | ⟨h1, h2, h⟩ | ⟨h1, h2, h⟩ | ⟨h1, h2, h⟩ | ⟨h1, h2, h⟩ | ⟨h1, h2, h⟩ | ⟨h1, h2, h⟩ | ⟨h1, h2, h⟩ | ⟨h1, h2, h⟩ | ⟨h1, h2, h⟩ | ⟨h1, h2, h⟩ | ⟨h1, h2, h⟩ | ⟨h1, h2, h⟩ | ⟨h1, h2, h⟩ | ⟨h1, h2, h⟩ | ⟨h1, h2, h⟩ | ⟨h1, h2, h⟩ | ⟨h1, h2, h⟩ | ⟨h1, h2, h⟩ | ⟨h1, h2, h⟩ | ⟨h1, h2, h⟩ | ⟨h1, h2, h⟩ | ⟨h1, h2, h⟩ | ⟨h1, h2, h⟩ | ⟨h1, h2, h⟩ | ⟨h1, h2, h⟩ | ⟨h1, h2, h⟩ | ⟨h1, h2, h⟩ | ⟨h1, h2, h⟩ | ⟨h1, h2, h⟩ | ⟨h1, h2, h⟩ | ⟨h1, h2, h⟩ | ⟨h1, h2, h⟩ | ⟨h1, h2, h⟩ | ⟨h1, h2, h⟩ | ⟨h1, h2, h⟩ | ⟨h1, h2, h⟩ | ⟨h1, h2, h⟩ | ⟨h1, h2, h⟩ | ⟨h1, h2, h⟩ | ⟨h1, h2, h⟩ | ⟨h1, h2, h⟩ | ⟨h1, h2, h⟩ | ⟨h1, h2, h⟩ | ⟨h1, h2, h⟩ | ⟨h1, h2, h⟩ | ⟨h1, h2, h⟩ | ⟨h1, h2, h⟩ | ⟨h1, h2, h⟩ | ⟨h1, h2, h⟩ | ⟨h1, h2, h⟩ | ⟨h1, h2, h⟩ | ⟨h1, h2, h⟩ | ⟨h1, h2, h⟩ | ⟨h1, h2, h⟩ | ⟨h1, h2, h⟩ | ⟨h1, h2, h⟩ | ⟨h1, h2, h⟩ | ⟨h1, h2, h⟩ | ⟨h1, h2, h⟩ | ⟨h1, h2, h⟩ | ⟨h1, h2, h⟩ | ⟨h1, h2, h⟩ | ⟨h1, h2, h⟩ | ⟨h1, h2, h⟩ | ⟨h1, h2, h⟩ | ⟨h1, h2, h⟩ | ⟨h1, h2, h⟩ | ⟨h1, h2, h⟩ | ⟨h1, h2, h⟩ | ⟨h1, h2, h⟩ | ⟨h1, h2, h⟩ | ⟨h1, h2, h⟩ | ⟨h1, h2, h⟩ | ⟨h1, h2, h⟩ | ⟨h1, h2, h⟩ | ⟨h1, h2, h⟩ | ⟨h1, h2, h⟩ | ⟨h1, h2, h⟩
    · exact absurd h1 (by decide)
    · exact absurd h1 (by decide)
    · exact absurd h1 (by decide)
    · exact absurd h1 (by decide)
    · exact absurd h1 (by decide)
    · exact absurd h1 (by decide)
    · exact absurd h1 (by decide)
    · exact absurd h1 (by decide)
    · exact absurd h1 (by decide)
    · exact absurd h1 (by decide)
    · exact absurd h1 (by decide)
    · exact absurd h1 (by decide)
    · exact absurd h1 (by decide)
    · exact absurd h1 (by decide)
    · exact absurd h1 (by decide)
    · exact absurd h1 (by decide)
    · exact absurd h1 (by decide)
    · exact absurd h1 (by decide)
    · exact absurd h1 (by decide)
    · exact absurd h1 (by decide)
    · exact absurd h1 (by decide)
    · exact absurd h1 (by decide)
    · exact absurd h1 (by decide)
    · exact absurd h1 (by decide)
    · exact absurd h1 (by decide)
    · exact absurd h1 (by decide)
    · exact absurd h1 (by decide)
    · exact absurd h1 (by decide)
    · exact absurd h1 (by decide)
    · exact absurd h1 (by decide)
    · exact absurd h1 (by decide)
    · exact absurd h1 (by decide)
    · exact absurd h1 (by decide)
    · exact absurd h1 (by decide)
    · exact absurd h1 (by decide)
    · exact absurd h1 (by decide)
    · exact absurd h1 (by decide)
    · exact absurd h1 (by decide)
    · exact absurd h1 (by decide)
    · exact absurd h1 (by decide)
    · exact absurd h1 (by decide)
    · exact absurd h1 (by decide)
    · exact absurd h1 (by decide)
    · exact absurd h1 (by decide)
    · exact absurd h1 (by decide)
    · exact absurd h1 (by decide)
    · exact absurd h1 (by decide)
    · exact absurd h1 (by decide)
    · exact absurd h1 (by decide)
    · exact absurd h1 (by decide)
    · exact absurd h1 (by decide)
    · exact absurd h1 (by decide)
    · exact absurd h1 (by decide)
    · exact absurd h1 (by decide)
    · exact absurd h1 (by decide)
    · exact absurd h1 (by decide)
    · exact absurd h1 (by decide)
    · exact absurd h1 (by decide)
    · exact absurd h1 (by decide)
    · exact absurd h1 (by decide)
    · exact absurd h1 (by decide)
    · exact absurd h1 (by decide)
    · exact absurd h1 (by decide)
    · exact absurd h1 (by decide)
    · exact absurd h1 (by decide)
    · exact absurd h1 (by decide)
    · exact absurd h1 (by decide)
    · exact absurd h1 (by decide)
    · exact absurd h1 (by decide)
    · exact absurd h1 (by decide)
    · exact absurd h1 (by decide)
    · exact absurd h1 (by decide)
    · exact absurd h1 (by decide)
    · exact absurd h1 (by decide)
    · exact absurd h1 (by decide)
    · exact absurd h1 (by decide)
    · exact absurd h1 (by decide)
    · exact absurd h1 (by decide)
    · exact absurd h1 (by decide)
    · exact absurd h1 (by decide)
    · exact absurd h1 (by decide)
    · exact absurd h1 (by decide)
    · exact absurd h1 (by decide)
    · exact absurd h1 (by decide)
  · intro idx A σ as post h
    rcases h with ⟨h1, h2, h⟩ | ⟨h1, h2, h⟩ | ⟨h1, h2, h⟩ | ⟨h1, h2, h⟩ | ⟨h1, h2, h⟩ | ⟨h1, h2, h⟩ | ⟨h1, h2, h⟩ | ⟨h1, h2, h⟩ | ⟨h1, h2, h⟩ | ⟨h1, h2, h⟩ | ⟨h1, h2, h⟩ | ⟨h1, h2, h⟩ | ⟨h1, h2, h⟩ | ⟨h1, h2, h⟩ | ⟨h1, h2, h⟩ | ⟨h1, h2, h⟩ | ⟨h1, h2, h⟩ | ⟨h1, h2, h⟩ | ⟨h1, h2, h⟩ | ⟨h1, h2, h⟩ | ⟨h1, h2, h⟩ | ⟨h1, h2, h⟩ | ⟨h1, h2, h⟩ | ⟨h1, h2, h⟩ | ⟨h1, h2, h⟩ | ⟨h1, h2, h⟩ | ⟨h1, h2, h⟩ | ⟨h1, h2, h⟩ | ⟨h1, h2, h⟩ | ⟨h1, h2, h⟩ | ⟨h1, h2, h⟩ | ⟨h1, h2, h⟩ | ⟨h1, h2, h⟩ | ⟨h1, h2, h⟩ | ⟨h1, h2, h⟩ | ⟨h1, h2, h⟩ | ⟨h1, h2, h⟩ | ⟨h1, h2, h⟩ | ⟨h1, h2, h⟩ | ⟨h1, h2, h⟩ | ⟨h1, h2, h⟩ | ⟨h1, h2, h⟩ | ⟨h1, h2, h⟩ | ⟨h1, h2, h⟩ | ⟨h1, h2, h⟩ | ⟨h1, h2, h⟩ | ⟨h1, h2, h⟩ | ⟨h1, h2, h⟩ | ⟨h1, h2, h⟩ | ⟨h1, h2, h⟩ | ⟨h1, h2, h⟩ | ⟨h1, h2, h⟩ | ⟨h1, h2, h⟩ | ⟨h1, h2, h⟩ | ⟨h1, h2, h⟩ | ⟨h1, h2, h⟩ | ⟨h1, h2, h⟩ | ⟨h1, h2, h⟩ | ⟨h1, h2, h⟩ | ⟨h1, h2, h⟩ | ⟨h1, h2, h⟩ | ⟨h1, h2, h⟩ | ⟨h1, h2, h⟩ | ⟨h1, h2, h⟩ | ⟨h1, h2, h⟩ | ⟨h1, h2, h⟩ | ⟨h1, h2, h⟩ | ⟨h1, h2, h⟩ | ⟨h1, h2, h⟩ | ⟨h1, h2, h⟩ | ⟨h1, h2, h⟩ | ⟨h1, h2, h⟩ | ⟨h1, h2, h⟩ | ⟨h1, h2, h⟩ | ⟨h1, h2, h⟩ | ⟨h1, h2, h⟩ | ⟨h1, h2, h⟩ | ⟨h1, h2, h⟩ | ⟨h1, h2, h⟩ | ⟨h1, h2, h⟩ | ⟨h1, h2, h⟩ | ⟨h1, h2, h⟩ | ⟨h1, h2, h⟩ | ⟨h1, h2, h⟩
    · exact absurd h1 (by decide)
    · exact absurd h1 (by decide)
    · exact absurd h1 (by decide)
    · exact absurd h1 (by decide)
    · exact absurd h1 (by decide)
    · exact absurd h1 (by decide)
    · exact absurd h1 (by decide)
    · exact absurd h1 (by decide)
    · exact absurd h1 (by decide)
    · exact absurd h1 (by decide)
    · exact absurd h1 (by decide)
    · exact absurd h1 (by decide)
    · exact absurd h1 (by decide)
    · exact absurd h1 (by decide)
    · exact absurd h1 (by decide)
    · exact absurd h1 (by decide)
    · exact absurd h1 (by decide)
    · exact absurd h1 (by decide)
    · exact absurd h1 (by decide)
    · exact absurd h1 (by decide)
    · exact absurd h1 (by decide)
    · exact absurd h1 (by decide)
    · exact absurd h1 (by decide)
    · exact absurd h1 (by decide)
    · exact absurd h1 (by decide)
    · exact absurd h1 (by decide)
    · exact absurd h1 (by decide)
    · exact absurd h1 (by decide)
    · exact absurd h1 (by decide)
    · exact absurd h1 (by decide)
    · exact absurd h1 (by decide)
    · exact absurd h1 (by decide)
    · exact absurd h1 (by decide)
    · exact absurd h1 (by decide)
    · exact absurd h1 (by decide)
    · exact absurd h1 (by decide)
    · exact absurd h1 (by decide)
    · exact absurd h1 (by decide)
    · exact absurd h1 (by decide)
    · exact absurd h1 (by decide)
    · exact absurd h1 (by decide)
    · exact absurd h1 (by decide)
    · exact absurd h1 (by decide)
    · exact absurd h1 (by decide)
    · exact absurd h1 (by decide)
    · exact absurd h1 (by decide)
    · exact absurd h1 (by decide)
    · exact absurd h1 (by decide)
    · exact absurd h1 (by decide)
    · exact absurd h1 (by decide)
    · exact absurd h1 (by decide)
    · exact absurd h1 (by decide)
    · exact absurd h1 (by decide)
    · exact absurd h1 (by decide)
    · exact absurd h1 (by decide)
    · exact absurd h1 (by decide)
    · exact absurd h1 (by decide)
    · exact absurd h1 (by decide)
    · exact absurd h1 (by decide)
    · exact absurd h1 (by decide)
    · exact absurd h1 (by decide)
    · exact absurd h1 (by decide)
    · exact absurd h1 (by decide)
    · exact absurd h1 (by decide)
    · exact absurd h1 (by decide)
    · exact absurd h1 (by decide)
    · exact absurd h1 (by decide)
    · exact absurd h1 (by decide)
    · exact absurd h1 (by decide)
    · exact absurd h1 (by decide)
    · exact absurd h1 (by decide)
    · exact absurd h1 (by decide)
    · exact absurd h1 (by decide)
    · exact absurd h1 (by decide)
    · exact absurd h1 (by decide)
    · exact absurd h1 (by decide)
    · exact absurd h1 (by decide)
    · exact absurd h1 (by decide)
    · exact absurd h1 (by decide)
    · exact absurd h1 (by decide)
    · exact absurd h1 (by decide)
    · exact absurd h1 (by decide)
    · exact absurd h1 (by decide)
    · exact absurd h1 (by decide)
  · intro idx k A σ as post h
    rcases h with ⟨h1, h2, h⟩ | ⟨h1, h2, h⟩ | ⟨h1, h2, h⟩ | ⟨h1, h2, h⟩ | ⟨h1, h2, h⟩ | ⟨h1, h2, h⟩ | ⟨h1, h2, h⟩ | ⟨h1, h2, h⟩ | ⟨h1, h2, h⟩ | ⟨h1, h2, h⟩ | ⟨h1, h2, h⟩ | ⟨h1, h2, h⟩ | ⟨h1, h2, h⟩ | ⟨h1, h2, h⟩ | ⟨h1, h2, h⟩ | ⟨h1, h2, h⟩ | ⟨h1, h2, h⟩ | ⟨h1, h2, h⟩ | ⟨h1, h2, h⟩ | ⟨h1, h2, h⟩ | ⟨h1, h2, h⟩ | ⟨h1, h2, h⟩ | ⟨h1, h2, h⟩ | ⟨h1, h2, h⟩ | ⟨h1, h2, h⟩ | ⟨h1, h2, h⟩ | ⟨h1, h2, h⟩ | ⟨h1, h2, h⟩ | ⟨h1, h2, h⟩ | ⟨h1, h2, h⟩ | ⟨h1, h2, h⟩ | ⟨h1, h2, h⟩ | ⟨h1, h2, h⟩ | ⟨h1, h2, h⟩ | ⟨h1, h2, h⟩ | ⟨h1, h2, h⟩ | ⟨h1, h2, h⟩ | ⟨h1, h2, h⟩ | ⟨h1, h2, h⟩ | ⟨h1, h2, h⟩ | ⟨h1, h2, h⟩ | ⟨h1, h2, h⟩ | ⟨h1, h2, h⟩ | ⟨h1, h2, h⟩ | ⟨h1, h2, h⟩ | ⟨h1, h2, h⟩ | ⟨h1, h2, h⟩ | ⟨h1, h2, h⟩ | ⟨h1, h2, h⟩ | ⟨h1, h2, h⟩ | ⟨h1, h2, h⟩ | ⟨h1, h2, h⟩ | ⟨h1, h2, h⟩ | ⟨h1, h2, h⟩ | ⟨h1, h2, h⟩ | ⟨h1, h2, h⟩ | ⟨h1, h2, h⟩ | ⟨h1, h2, h⟩ | ⟨h1, h2, h⟩ | ⟨h1, h2, h⟩ | ⟨h1, h2, h⟩ | ⟨h1, h2, h⟩ | ⟨h1, h2, h⟩ | ⟨h1, h2, h⟩ | ⟨h1, h2, h⟩ | ⟨h1, h2, h⟩ | ⟨h1, h2, h⟩ | ⟨h1, h2, h⟩ | ⟨h1, h2, h⟩ | ⟨h1, h2, h⟩ | ⟨h1, h2, h⟩ | ⟨h1, h2, h⟩ | ⟨h1, h2, h⟩ | ⟨h1, h2, h⟩ | ⟨h1, h2, h⟩ | ⟨h1, h2, h⟩ | ⟨h1, h2, h⟩ | ⟨h1, h2, h⟩ | ⟨h1, h2, h⟩ | ⟨h1, h2, h⟩ | ⟨h1, h2, h⟩ | ⟨h1, h2, h⟩ | ⟨h1, h2, h⟩ | ⟨h1, h2, h⟩
    · subst h2
      obtain ⟨k9, as9, e9, hlen, hk1, hk2, hk3⟩ := h.1
      cases e9
      exact ⟨yX11_feed, cX11_feed, 5, (some .int), (rmd 2), by rw [hlen]; exact lkb_X11_feed, lnk_L_15, vir_X11_feed hk1 hk2 hk3, rfl, rfl, ⟨by decide, by decide⟩, MET_X11_feed _ _ _ _ h⟩
    · subst h2
      obtain ⟨k9, as9, e9, hlen, hk1, hk2, hk3⟩ := h.1
      cases e9
      exact ⟨yX12_feed, cX12_feed, 5, (some .int), (rmd 2), by rw [hlen]; exact lkb_X12_feed, lnk_L_19, vir_X12_feed hk1 hk2 hk3, rfl, rfl, ⟨by decide, by decide⟩, MET_X12_feed _ _ _ _ h⟩
    · subst h2
      obtain ⟨k9, as9, e9, hlen, hk1, hk2, hk3⟩ := h.1
      cases e9
      exact ⟨yX11_turn, cX11_turn, 2, (some .int), (rmd 5), by rw [hlen]; exact lkb_X11_turn, lnk_L_20, vir_X11_turn hk1 hk2 hk3, rfl, rfl, ⟨by decide, by decide⟩, MET_X11_turn _ _ _ _ h⟩
    · subst h2
      obtain ⟨k9, as9, e9, hlen, hk1, hk2, hk3⟩ := h.1
      cases e9
      exact ⟨yX12_turn, cX12_turn, 3, (some .int), (rmd 4), by rw [hlen]; exact lkb_X12_turn, lnk_L_24, vir_X12_turn hk1 hk2 hk3, rfl, rfl, ⟨by decide, by decide⟩, MET_X12_turn _ _ _ _ h⟩
    · subst h2
      obtain ⟨k9, as9, e9, hlen, hk1, hk2, hk3⟩ := h.1
      cases e9
      exact ⟨yX11_row, cX11_row, 2, (some .int), (rmd 2), by rw [hlen]; exact lkb_X11_row, lnk_L_25, vir_X11_row hk1 hk2 hk3, rfl, rfl, ⟨by decide, by decide⟩, MET_X11_row _ _ _ _ h⟩
    · subst h2
      obtain ⟨k9, as9, e9, hlen, hk1, hk2, hk3⟩ := h.1
      cases e9
      exact ⟨yX12_row, cX12_row, 3, (some .int), (rmd 3), by rw [hlen]; exact lkb_X12_row, lnk_L_28, vir_X12_row hk1 hk2 hk3, rfl, rfl, ⟨by decide, by decide⟩, MET_X12_row _ _ _ _ h⟩
    · subst h2
      obtain ⟨k9, as9, e9, hlen, hk1, hk2, hk3⟩ := h.1
      cases e9
      exact ⟨yX11_goes, cX11_goes, 3, (some .int), (rmd 2), by rw [hlen]; exact lkb_X11_goes, lnk_L_29, vir_X11_goes hk1 hk2 hk3, rfl, rfl, ⟨by decide, by decide⟩, MET_X11_goes _ _ _ _ h⟩
    · subst h2
      obtain ⟨k9, as9, e9, hlen, hk1, hk2, hk3⟩ := h.1
      cases e9
      exact ⟨yX12_goes, cX12_goes, 3, (some .int), (rmd 3), by rw [hlen]; exact lkb_X12_goes, lnk_L_33, vir_X12_goes hk1 hk2 hk3, rfl, rfl, ⟨by decide, by decide⟩, MET_X12_goes _ _ _ _ h⟩
    · subst h2
      obtain ⟨k9, as9, e9, hlen, hk1, hk2, hk3⟩ := h.1
      cases e9
      exact ⟨yX11_rowOf, cX11_rowOf, 3, (some .int), (rmd 2), by rw [hlen]; exact lkb_X11_rowOf, lnk_L_34, vir_X11_rowOf hk1 hk2 hk3, rfl, rfl, ⟨by decide, by decide⟩, MET_X11_rowOf _ _ _ _ h⟩
    · subst h2
      obtain ⟨k9, as9, e9, hlen, hk1, hk2, hk3⟩ := h.1
      cases e9
      exact ⟨yX12_rowOf, cX12_rowOf, 3, (some .int), (rmd 3), by rw [hlen]; exact lkb_X12_rowOf, lnk_L_37, vir_X12_rowOf hk1 hk2 hk3, rfl, rfl, ⟨by decide, by decide⟩, MET_X12_rowOf _ _ _ _ h⟩
    · subst h2
      obtain ⟨k9, as9, e9, hlen, hk1, hk2, hk3⟩ := h.1
      cases e9
      exact ⟨yX11_does, cX11_does, 3, (some .int), (rmd 2), by rw [hlen]; exact lkb_X11_does, lnk_L_38, vir_X11_does hk1 hk2 hk3, rfl, rfl, ⟨by decide, by decide⟩, MET_X11_does _ _ _ _ h⟩
    · subst h2
      obtain ⟨k9, as9, e9, hlen, hk1, hk2, hk3⟩ := h.1
      cases e9
      exact ⟨yX12_does, cX12_does, 3, (some .int), (rmd 3), by rw [hlen]; exact lkb_X12_does, lnk_L_41, vir_X12_does hk1 hk2 hk3, rfl, rfl, ⟨by decide, by decide⟩, MET_X12_does _ _ _ _ h⟩
    · subst h2
      obtain ⟨k9, as9, e9, hlen, hk1, hk2, hk3⟩ := h.1
      cases e9
      exact ⟨yX11_order, cX11_order, 4, (some .int), (rmd 2), by rw [hlen]; exact lkb_X11_order, lnk_L_42, vir_X11_order hk1 hk2 hk3, rfl, rfl, ⟨by decide, by decide⟩, MET_X11_order _ _ _ _ h⟩
    · subst h2
      obtain ⟨k9, as9, e9, hlen, hk1, hk2, hk3⟩ := h.1
      cases e9
      exact ⟨yX12_order, cX12_order, 5, (some .int), (rmd 3), by rw [hlen]; exact lkb_X12_order, lnk_L_46, vir_X12_order hk1 hk2 hk3, rfl, rfl, ⟨by decide, by decide⟩, MET_X12_order _ _ _ _ h⟩
    · subst h2
      obtain ⟨k9, as9, e9, hlen, hk1, hk2, hk3⟩ := h.1
      cases e9
      exact ⟨yX11_keeps, cX11_keeps, 2, (some .int), (rmd 2), by rw [hlen]; exact lkb_X11_keeps, lnk_L_47, vir_X11_keeps hk1 hk2 hk3, rfl, rfl, ⟨by decide, by decide⟩, MET_X11_keeps _ _ _ _ h⟩
    · subst h2
      obtain ⟨k9, as9, e9, hlen, hk1, hk2, hk3⟩ := h.1
      cases e9
      exact ⟨yX12_keeps, cX12_keeps, 4, (some .int), (rmd 3), by rw [hlen]; exact lkb_X12_keeps, lnk_L_50, vir_X12_keeps hk1 hk2 hk3, rfl, rfl, ⟨by decide, by decide⟩, MET_X12_keeps _ _ _ _ h⟩
    · subst h2
      obtain ⟨k9, as9, e9, hlen, hk1, hk2, hk3⟩ := h.1
      cases e9
      exact ⟨yX11_now, cX11_now, 2, (some .int), (rmd 2), by rw [hlen]; exact lkb_X11_now, lnk_L_51, vir_X11_now hk1 hk2 hk3, rfl, rfl, ⟨by decide, by decide⟩, MET_X11_now _ _ _ _ h⟩
    · subst h2
      obtain ⟨k9, as9, e9, hlen, hk1, hk2, hk3⟩ := h.1
      cases e9
      exact ⟨yX12_now, cX12_now, 2, (some .int), (rmd 3), by rw [hlen]; exact lkb_X12_now, lnk_L_54, vir_X12_now hk1 hk2 hk3, rfl, rfl, ⟨by decide, by decide⟩, MET_X12_now _ _ _ _ h⟩
    · subst h2
      obtain ⟨k9, as9, e9, hlen, hk1, hk2, hk3⟩ := h.1
      cases e9
      exact ⟨yX11_make, cX11_make, 2, (some .int), (rmd 2), by rw [hlen]; exact lkb_X11_make, lnk_L_55, vir_X11_make hk1 hk2 hk3, rfl, rfl, ⟨by decide, by decide⟩, MET_X11_make _ _ _ _ h⟩
    · subst h2
      obtain ⟨k9, as9, e9, hlen, hk1, hk2, hk3⟩ := h.1
      cases e9
      exact ⟨yX12_make, cX12_make, 2, (some .int), (rmd 3), by rw [hlen]; exact lkb_X12_make, lnk_L_58, vir_X12_make hk1 hk2 hk3, rfl, rfl, ⟨by decide, by decide⟩, MET_X12_make _ _ _ _ h⟩
    · subst h2
      obtain ⟨k9, as9, e9, hlen, hk1, hk2, hk3⟩ := h.1
      cases e9
      exact ⟨yX11_makeRow, cX11_makeRow, 2, (some .int), (rmd 2), by rw [hlen]; exact lkb_X11_makeRow, lnk_L_59, vir_X11_makeRow hk1 hk2 hk3, rfl, rfl, ⟨by decide, by decide⟩, MET_X11_makeRow _ _ _ _ h⟩
    · subst h2
      obtain ⟨k9, as9, e9, hlen, hk1, hk2, hk3⟩ := h.1
      cases e9
      exact ⟨yX12_makeRow, cX12_makeRow, 2, (some .int), (rmd 4), by rw [hlen]; exact lkb_X12_makeRow, lnk_L_62, vir_X12_makeRow hk1 hk2 hk3, rfl, rfl, ⟨by decide, by decide⟩, MET_X12_makeRow _ _ _ _ h⟩
    · subst h2
      obtain ⟨k9, as9, e9, hlen, hk1, hk2, hk3⟩ := h.1
      cases e9
      exact ⟨yX11_put, cX11_put, 3, (some .int), (rmd 2), by rw [hlen]; exact lkb_X11_put, lnk_L_63, vir_X11_put hk1 hk2 hk3, rfl, rfl, ⟨by decide, by decide⟩, MET_X11_put _ _ _ _ h⟩
    · subst h2
      obtain ⟨k9, as9, e9, hlen, hk1, hk2, hk3⟩ := h.1
      cases e9
      exact ⟨yX12_put, cX12_put, 3, (some .int), (rmd 2), by rw [hlen]; exact lkb_X12_put, lnk_L_66, vir_X12_put hk1 hk2 hk3, rfl, rfl, ⟨by decide, by decide⟩, MET_X12_put _ _ _ _ h⟩
    · subst h2
      obtain ⟨k9, as9, e9, hlen, hk1, hk2, hk3⟩ := h.1
      cases e9
      exact ⟨yX11_time, cX11_time, 5, (some .int), (rmd 2), by rw [hlen]; exact lkb_X11_time, lnk_L_67, vir_X11_time hk1 hk2 hk3, rfl, rfl, ⟨by decide, by decide⟩, MET_X11_time _ _ _ _ h⟩
    · subst h2
      obtain ⟨k9, as9, e9, hlen, hk1, hk2, hk3⟩ := h.1
      cases e9
      exact ⟨yX12_time, cX12_time, 7, (some .int), (rmd 2), by rw [hlen]; exact lkb_X12_time, lnk_L_71, vir_X12_time hk1 hk2 hk3, rfl, rfl, ⟨by decide, by decide⟩, MET_X12_time _ _ _ _ h⟩
    · subst h2
      obtain ⟨k9, as9, e9, hlen, hk1, hk2, hk3⟩ := h.1
      cases e9
      exact ⟨yX11_after, cX11_after, 5, (some .int), (rmd 2), by rw [hlen]; exact lkb_X11_after, lnk_L_72, vir_X11_after hk1 hk2 hk3, rfl, rfl, ⟨by decide, by decide⟩, MET_X11_after _ _ _ _ h⟩
    · subst h2
      obtain ⟨k9, as9, e9, hlen, hk1, hk2, hk3⟩ := h.1
      cases e9
      exact ⟨yX12_after, cX12_after, 6, (some .int), (rmd 2), by rw [hlen]; exact lkb_X12_after, lnk_L_75, vir_X12_after hk1 hk2 hk3, rfl, rfl, ⟨by decide, by decide⟩, MET_X12_after _ _ _ _ h⟩
    · subst h2
      obtain ⟨k9, as9, e9, hlen, hk1, hk2, hk3⟩ := h.1
      cases e9
      exact ⟨yX11_locks, cX11_locks, 4, (some .int), (rmd 2), by rw [hlen]; exact lkb_X11_locks, lnk_L_76, vir_X11_locks hk1 hk2 hk3, rfl, rfl, ⟨by decide, by decide⟩, MET_X11_locks _ _ _ _ h⟩
    · subst h2
      obtain ⟨k9, as9, e9, hlen, hk1, hk2, hk3⟩ := h.1
      cases e9
      exact ⟨yX12_locks, cX12_locks, 5, (some .int), (rmd 2), by rw [hlen]; exact lkb_X12_locks, lnk_L_79, vir_X12_locks hk1 hk2 hk3, rfl, rfl, ⟨by decide, by decide⟩, MET_X12_locks _ _ _ _ h⟩
    · subst h2
      obtain ⟨k9, as9, e9, hlen, hk1, hk2, hk3⟩ := h.1
      cases e9
      exact ⟨yX11_kind, cX11_kind, 3, (some .int), (rmd 2), by rw [hlen]; exact lkb_X11_kind, lnk_L_80, vir_X11_kind hk1 hk2 hk3, rfl, rfl, ⟨by decide, by decide⟩, MET_X11_kind _ _ _ _ h⟩
    · subst h2
      obtain ⟨k9, as9, e9, hlen, hk1, hk2, hk3⟩ := h.1
      cases e9
      exact ⟨yX12_kind, cX12_kind, 6, (some .int), (rmd 3), by rw [hlen]; exact lkb_X12_kind, lnk_L_83, vir_X12_kind hk1 hk2 hk3, rfl, rfl, ⟨by decide, by decide⟩, MET_X12_kind _ _ _ _ h⟩
    · subst h2
      obtain ⟨k9, as9, e9, hlen, hk1, hk2, hk3⟩ := h.1
      cases e9
      exact ⟨yX11_seconds, cX11_seconds, 2, (some .int), (rmd 3), by rw [hlen]; exact lkb_X11_seconds, lnk_L_84, vir_X11_seconds hk1 hk2 hk3, rfl, rfl, ⟨by decide, by decide⟩, MET_X11_seconds _ _ _ _ h⟩
    · subst h2
      obtain ⟨k9, as9, e9, hlen, hk1, hk2, hk3⟩ := h.1
      cases e9
      exact ⟨yX12_seconds, cX12_seconds, 2, (some .int), (rmd 5), by rw [hlen]; exact lkb_X12_seconds, lnk_L_87, vir_X12_seconds hk1 hk2 hk3, rfl, rfl, ⟨by decide, by decide⟩, MET_X12_seconds _ _ _ _ h⟩
    · subst h2
      obtain ⟨k9, as9, e9, hlen, hk1, hk2, hk3⟩ := h.1
      cases e9
      exact ⟨yX11_mean, cX11_mean, 2, (some .int), (rmd 3), by rw [hlen]; exact lkb_X11_mean, lnk_L_88, vir_X11_mean hk1 hk2 hk3, rfl, rfl, ⟨by decide, by decide⟩, MET_X11_mean _ _ _ _ h⟩
    · subst h2
      obtain ⟨k9, as9, e9, hlen, hk1, hk2, hk3⟩ := h.1
      cases e9
      exact ⟨yX12_mean, cX12_mean, 2, (some .int), (rmd 5), by rw [hlen]; exact lkb_X12_mean, lnk_L_91, vir_X12_mean hk1 hk2 hk3, rfl, rfl, ⟨by decide, by decide⟩, MET_X12_mean _ _ _ _ h⟩
    · subst h2
      obtain ⟨k9, as9, e9, hlen, hk1, hk2, hk3⟩ := h.1
      cases e9
      exact ⟨yX11_drawn, cX11_drawn, 3, (some .int), (rmd 3), by rw [hlen]; exact lkb_X11_drawn, lnk_L_92, vir_X11_drawn hk1 hk2 hk3, rfl, rfl, ⟨by decide, by decide⟩, MET_X11_drawn _ _ _ _ h⟩
    · subst h2
      obtain ⟨k9, as9, e9, hlen, hk1, hk2, hk3⟩ := h.1
      cases e9
      exact ⟨yX12_drawn, cX12_drawn, 6, (some .int), (rmd 5), by rw [hlen]; exact lkb_X12_drawn, lnk_L_95, vir_X12_drawn hk1 hk2 hk3, rfl, rfl, ⟨by decide, by decide⟩, MET_X12_drawn _ _ _ _ h⟩
    · subst h2
      obtain ⟨k9, as9, e9, hlen, hk1, hk2, hk3⟩ := h.1
      cases e9
      exact ⟨yX11_better, cX11_better, 5, (some .int), (rmd 11), by rw [hlen]; exact lkb_X11_better, lnk_L_96, vir_X11_better hk1 hk2 hk3, rfl, rfl, ⟨by decide, by decide⟩, MET_X11_better _ _ _ _ h⟩
    · subst h2
      obtain ⟨k9, as9, e9, hlen, hk1, hk2, hk3⟩ := h.1
      cases e9
      exact ⟨yX12_better, cX12_better, 5, (some .int), (rmd 11), by rw [hlen]; exact lkb_X12_better, lnk_L_99, vir_X12_better hk1 hk2 hk3, rfl, rfl, ⟨by decide, by decide⟩, MET_X12_better _ _ _ _ h⟩
    · subst h2
      obtain ⟨k9, as9, e9, hlen, hk1, hk2, hk3⟩ := h.1
      cases e9
      exact ⟨yX11_found, cX11_found, 2, (some .int), (rmd 1), by rw [hlen]; exact lkb_X11_found, lnk_L_100, vir_X11_found hk1 hk2 hk3, rfl, rfl, ⟨by decide, by decide⟩, MET_X11_found _ _ _ _ h⟩
    · subst h2
      obtain ⟨k9, as9, e9, hlen, hk1, hk2, hk3⟩ := h.1
      cases e9
      exact ⟨yX12_found, cX12_found, 2, (some .int), (rmd 2), by rw [hlen]; exact lkb_X12_found, lnk_L_103, vir_X12_found hk1 hk2 hk3, rfl, rfl, ⟨by decide, by decide⟩, MET_X12_found _ _ _ _ h⟩
    · subst h2
      obtain ⟨k9, as9, e9, hlen, hk1, hk2, hk3⟩ := h.1
      cases e9
      exact ⟨yX11_fewest, cX11_fewest, 1, (some .int), (rmd 1), by rw [hlen]; exact lkb_X11_fewest, lnk_L_104, vir_X11_fewest hk1 hk2 hk3, rfl, rfl, ⟨by decide, by decide⟩, MET_X11_fewest _ _ _ _ h⟩
    · subst h2
      obtain ⟨k9, as9, e9, hlen, hk1, hk2, hk3⟩ := h.1
      cases e9
      exact ⟨yX12_fewest, cX12_fewest, 1, (some .int), (rmd 4), by rw [hlen]; exact lkb_X12_fewest, lnk_L_107, vir_X12_fewest hk1 hk2 hk3, rfl, rfl, ⟨by decide, by decide⟩, MET_X12_fewest _ _ _ _ h⟩
    · subst h2
      obtain ⟨k9, as9, e9, hlen, hk1, hk2, hk3⟩ := h.1
      cases e9
      exact ⟨yX11_first, cX11_first, 1, (some .int), (rmd 2), by rw [hlen]; exact lkb_X11_first, lnk_L_108, vir_X11_first hk1 hk2 hk3, rfl, rfl, ⟨by decide, by decide⟩, MET_X11_first _ _ _ _ h⟩
    · subst h2
      obtain ⟨k9, as9, e9, hlen, hk1, hk2, hk3⟩ := h.1
      cases e9
      exact ⟨yX12_first, cX12_first, 4, (some .int), (rmd 4), by rw [hlen]; exact lkb_X12_first, lnk_L_111, vir_X12_first hk1 hk2 hk3, rfl, rfl, ⟨by decide, by decide⟩, MET_X12_first _ _ _ _ h⟩
    · subst h2
      obtain ⟨k9, as9, e9, hlen, hk1, hk2, hk3⟩ := h.1
      cases e9
      exact ⟨yX11_step, cX11_step, 3, (some .int), (rmd 2), by rw [hlen]; exact lkb_X11_step, lnk_L_112, vir_X11_step hk1 hk2 hk3, rfl, rfl, ⟨by decide, by decide⟩, MET_X11_step _ _ _ _ h⟩
    · subst h2
      obtain ⟨k9, as9, e9, hlen, hk1, hk2, hk3⟩ := h.1
      cases e9
      exact ⟨yX12_step, cX12_step, 4, (some .int), (rmd 2), by rw [hlen]; exact lkb_X12_step, lnk_L_115, vir_X12_step hk1 hk2 hk3, rfl, rfl, ⟨by decide, by decide⟩, MET_X12_step _ _ _ _ h⟩
    · subst h2
      obtain ⟨k9, as9, e9, hlen, hk1, hk2, hk3⟩ := h.1
      cases e9
      exact ⟨yX11_tried, cX11_tried, 1, (some .int), (rmd 3), by rw [hlen]; exact lkb_X11_tried, lnk_L_116, vir_X11_tried hk1 hk2 hk3, rfl, rfl, ⟨by decide, by decide⟩, MET_X11_tried _ _ _ _ h⟩
    · subst h2
      obtain ⟨k9, as9, e9, hlen, hk1, hk2, hk3⟩ := h.1
      cases e9
      exact ⟨yX12_tried, cX12_tried, 1, (some .int), (rmd 7), by rw [hlen]; exact lkb_X12_tried, lnk_L_119, vir_X12_tried hk1 hk2 hk3, rfl, rfl, ⟨by decide, by decide⟩, MET_X12_tried _ _ _ _ h⟩
    · subst h2
      obtain ⟨k9, as9, e9, hlen, hk1, hk2, hk3⟩ := h.1
      cases e9
      exact ⟨yX11_triedRow, cX11_triedRow, 2, (some .int), (rmd 3), by rw [hlen]; exact lkb_X11_triedRow, lnk_L_120, vir_X11_triedRow hk1 hk2 hk3, rfl, rfl, ⟨by decide, by decide⟩, MET_X11_triedRow _ _ _ _ h⟩
    · subst h2
      obtain ⟨k9, as9, e9, hlen, hk1, hk2, hk3⟩ := h.1
      cases e9
      exact ⟨yX12_triedRow, cX12_triedRow, 2, (some .int), (rmd 7), by rw [hlen]; exact lkb_X12_triedRow, lnk_L_123, vir_X12_triedRow hk1 hk2 hk3, rfl, rfl, ⟨by decide, by decide⟩, MET_X12_triedRow _ _ _ _ h⟩
    · subst h2
      obtain ⟨k9, as9, e9, hlen, hk1, hk2, hk3⟩ := h.1
      cases e9
      exact ⟨yX11_solves, cX11_solves, 1, (some .int), (rmd 4), by rw [hlen]; exact lkb_X11_solves, lnk_L_124, vir_X11_solves hk1 hk2 hk3, rfl, rfl, ⟨by decide, by decide⟩, MET_X11_solves _ _ _ _ h⟩
    · subst h2
      obtain ⟨k9, as9, e9, hlen, hk1, hk2, hk3⟩ := h.1
      cases e9
      exact ⟨yX12_solves, cX12_solves, 1, (some .int), (rmd 8), by rw [hlen]; exact lkb_X12_solves, lnk_L_127, vir_X12_solves hk1 hk2 hk3, rfl, rfl, ⟨by decide, by decide⟩, MET_X12_solves _ _ _ _ h⟩
    · subst h2
      obtain ⟨k9, as9, e9, hlen, hk1, hk2, hk3⟩ := h.1
      cases e9
      exact ⟨yX11_lacks, cX11_lacks, 2, (some .int), (rmd 3), by rw [hlen]; exact lkb_X11_lacks, lnk_L_128, vir_X11_lacks hk1 hk2 hk3, rfl, rfl, ⟨by decide, by decide⟩, MET_X11_lacks _ _ _ _ h⟩
    · subst h2
      obtain ⟨k9, as9, e9, hlen, hk1, hk2, hk3⟩ := h.1
      cases e9
      exact ⟨yX12_lacks, cX12_lacks, 2, (some .int), (rmd 7), by rw [hlen]; exact lkb_X12_lacks, lnk_L_131, vir_X12_lacks hk1 hk2 hk3, rfl, rfl, ⟨by decide, by decide⟩, MET_X12_lacks _ _ _ _ h⟩
    · subst h2
      obtain ⟨k9, as9, e9, hlen, hk1, hk2, hk3⟩ := h.1
      cases e9
      exact ⟨yX11_luck, cX11_luck, 6, (some .int), (rmd 3), by rw [hlen]; exact lkb_X11_luck, lnk_L_132, vir_X11_luck hk1 hk2 hk3, rfl, rfl, ⟨by decide, by decide⟩, MET_X11_luck _ _ _ _ h⟩
    · subst h2
      obtain ⟨k9, as9, e9, hlen, hk1, hk2, hk3⟩ := h.1
      cases e9
      exact ⟨yX12_luck, cX12_luck, 6, (some .int), (rmd 42), by rw [hlen]; exact lkb_X12_luck, lnk_L_135, vir_X12_luck hk1 hk2 hk3, rfl, rfl, ⟨by decide, by decide⟩, MET_X12_luck _ _ _ _ h⟩
    · subst h2
      obtain ⟨k9, as9, e9, hlen, hk1, hk2, hk3⟩ := h.1
      cases e9
      exact ⟨yX11_see, cX11_see, 4, (some .int), (rmd 2), by rw [hlen]; exact lkb_X11_see, lnk_L_136, vir_X11_see hk1 hk2 hk3, rfl, rfl, ⟨by decide, by decide⟩, MET_X11_see _ _ _ _ h⟩
    · subst h2
      obtain ⟨k9, as9, e9, hlen, hk1, hk2, hk3⟩ := h.1
      cases e9
      exact ⟨yX12_see, cX12_see, 5, (some .int), (rmd 3), by rw [hlen]; exact lkb_X12_see, lnk_L_139, vir_X12_see hk1 hk2 hk3, rfl, rfl, ⟨by decide, by decide⟩, MET_X12_see _ _ _ _ h⟩
    · subst h2
      obtain ⟨k9, as9, e9, hlen, hk1, hk2, hk3⟩ := h.1
      cases e9
      exact ⟨yX11_sum, cX11_sum, 3, (some .int), (rmd 4), by rw [hlen]; exact lkb_X11_sum, lnk_L_140, vir_X11_sum hk1 hk2 hk3, rfl, rfl, ⟨by decide, by decide⟩, MET_X11_sum _ _ _ _ h⟩
    · subst h2
      obtain ⟨k9, as9, e9, hlen, hk1, hk2, hk3⟩ := h.1
      cases e9
      exact ⟨yX12_sum, cX12_sum, 3, (some .int), (rmd 8), by rw [hlen]; exact lkb_X12_sum, lnk_L_143, vir_X12_sum hk1 hk2 hk3, rfl, rfl, ⟨by decide, by decide⟩, MET_X12_sum _ _ _ _ h⟩
    · subst h2
      obtain ⟨k9, as9, e9, hlen, hk1, hk2, hk3⟩ := h.1
      cases e9
      exact ⟨yX11_bestPace, cX11_bestPace, 5, (some .int), (rmd 4), by rw [hlen]; exact lkb_X11_bestPace, lnk_L_144, vir_X11_bestPace hk1 hk2 hk3, rfl, rfl, ⟨by decide, by decide⟩, MET_X11_bestPace _ _ _ _ h⟩
    · subst h2
      obtain ⟨k9, as9, e9, hlen, hk1, hk2, hk3⟩ := h.1
      cases e9
      exact ⟨yX12_bestPace, cX12_bestPace, 5, (some .int), (rmd 8), by rw [hlen]; exact lkb_X12_bestPace, lnk_L_147, vir_X12_bestPace hk1 hk2 hk3, rfl, rfl, ⟨by decide, by decide⟩, MET_X12_bestPace _ _ _ _ h⟩
    · subst h2
      obtain ⟨k9, as9, e9, hlen, hk1, hk2, hk3⟩ := h.1
      cases e9
      exact ⟨yX11_learn, cX11_learn, 7, (some .int), (rmd 4), by rw [hlen]; exact lkb_X11_learn, lnk_L_148, vir_X11_learn hk1 hk2 hk3, rfl, rfl, ⟨by decide, by decide⟩, MET_X11_learn _ _ _ _ h⟩
    · subst h2
      obtain ⟨k9, as9, e9, hlen, hk1, hk2, hk3⟩ := h.1
      cases e9
      exact ⟨yX12_learn, cX12_learn, 7, (some .int), (rmd 8), by rw [hlen]; exact lkb_X12_learn, lnk_L_151, vir_X12_learn hk1 hk2 hk3, rfl, rfl, ⟨by decide, by decide⟩, MET_X12_learn _ _ _ _ h⟩
    · subst h2
      obtain ⟨k9, as9, e9, hlen, hk1, hk2, hk3⟩ := h.1
      cases e9
      exact ⟨yX11_five, cX11_five, 3, (some .int), (rmd 2), by rw [hlen]; exact lkb_X11_five, lnk_L_152, vir_X11_five hk1 hk2 hk3, rfl, rfl, ⟨by decide, by decide⟩, MET_X11_five _ _ _ _ h⟩
    · subst h2
      obtain ⟨k9, as9, e9, hlen, hk1, hk2, hk3⟩ := h.1
      cases e9
      exact ⟨yX12_five, cX12_five, 3, (some .int), (rmd 2), by rw [hlen]; exact lkb_X12_five, lnk_L_155, vir_X12_five hk1 hk2 hk3, rfl, rfl, ⟨by decide, by decide⟩, MET_X12_five _ _ _ _ h⟩
    · subst h2
      obtain ⟨k9, as9, e9, hlen, hk1, hk2, hk3⟩ := h.1
      cases e9
      exact ⟨yX11_middle, cX11_middle, 3, (some .int), (rmd 2), by rw [hlen]; exact lkb_X11_middle, lnk_L_156, vir_X11_middle hk1 hk2 hk3, rfl, rfl, ⟨by decide, by decide⟩, MET_X11_middle _ _ _ _ h⟩
    · subst h2
      obtain ⟨k9, as9, e9, hlen, hk1, hk2, hk3⟩ := h.1
      cases e9
      exact ⟨yX12_middle, cX12_middle, 3, (some .int), (rmd 2), by rw [hlen]; exact lkb_X12_middle, lnk_L_159, vir_X12_middle hk1 hk2 hk3, rfl, rfl, ⟨by decide, by decide⟩, MET_X12_middle _ _ _ _ h⟩
    · subst h2
      obtain ⟨k9, as9, e9, hlen, hk1, hk2, hk3⟩ := h.1
      cases e9
      exact ⟨yX11_need, cX11_need, 3, (some .int), (rmd 2), by rw [hlen]; exact lkb_X11_need, lnk_L_160, vir_X11_need hk1 hk2 hk3, rfl, rfl, ⟨by decide, by decide⟩, MET_X11_need _ _ _ _ h⟩
    · subst h2
      obtain ⟨k9, as9, e9, hlen, hk1, hk2, hk3⟩ := h.1
      cases e9
      exact ⟨yX12_need, cX12_need, 4, (some .int), (rmd 2), by rw [hlen]; exact lkb_X12_need, lnk_L_163, vir_X12_need hk1 hk2 hk3, rfl, rfl, ⟨by decide, by decide⟩, MET_X12_need _ _ _ _ h⟩
    · subst h2
      obtain ⟨k9, as9, e9, hlen, hk1, hk2, hk3⟩ := h.1
      cases e9
      exact ⟨yX11_film, cX11_film, 3, (some .int), (rmd 2), by rw [hlen]; exact lkb_X11_film, lnk_L_164, vir_X11_film hk1 hk2 hk3, rfl, rfl, ⟨by decide, by decide⟩, MET_X11_film _ _ _ _ h⟩
    · subst h2
      obtain ⟨k9, as9, e9, hlen, hk1, hk2, hk3⟩ := h.1
      cases e9
      exact ⟨yX12_film, cX12_film, 3, (some .int), (rmd 2), by rw [hlen]; exact lkb_X12_film, lnk_L_167, vir_X12_film hk1 hk2 hk3, rfl, rfl, ⟨by decide, by decide⟩, MET_X12_film _ _ _ _ h⟩
    · subst h2
      obtain ⟨k9, as9, e9, hlen, hk1, hk2, hk3⟩ := h.1
      cases e9
      exact ⟨yX11_held, cX11_held, 4, (some .int), (rmd 3), by rw [hlen]; exact lkb_X11_held, lnk_L_168, vir_X11_held hk1 hk2 hk3, rfl, rfl, ⟨by decide, by decide⟩, MET_X11_held _ _ _ _ h⟩
    · subst h2
      obtain ⟨k9, as9, e9, hlen, hk1, hk2, hk3⟩ := h.1
      cases e9
      exact ⟨yX12_held, cX12_held, 5, (some .int), (rmd 4), by rw [hlen]; exact lkb_X12_held, lnk_L_171, vir_X12_held hk1 hk2 hk3, rfl, rfl, ⟨by decide, by decide⟩, MET_X12_held _ _ _ _ h⟩
    · subst h2
      obtain ⟨k9, as9, e9, hlen, hk1, hk2, hk3⟩ := h.1
      cases e9
      exact ⟨yX11_heldUp, cX11_heldUp, 3, (some .int), (rmd 3), by rw [hlen]; exact lkb_X11_heldUp, lnk_L_172, vir_X11_heldUp hk1 hk2 hk3, rfl, rfl, ⟨by decide, by decide⟩, MET_X11_heldUp _ _ _ _ h⟩
    · subst h2
      obtain ⟨k9, as9, e9, hlen, hk1, hk2, hk3⟩ := h.1
      cases e9
      exact ⟨yX12_heldUp, cX12_heldUp, 5, (some .int), (rmd 4), by rw [hlen]; exact lkb_X12_heldUp, lnk_L_175, vir_X12_heldUp hk1 hk2 hk3, rfl, rfl, ⟨by decide, by decide⟩, MET_X12_heldUp _ _ _ _ h⟩
    · subst h2
      obtain ⟨k9, as9, e9, hlen, hk1, hk2, hk3⟩ := h.1
      cases e9
      exact ⟨yX11_image, cX11_image, 1, (some .int), (rmd 2), by rw [hlen]; exact lkb_X11_image, lnk_L_176, vir_X11_image hk1 hk2 hk3, rfl, rfl, ⟨by decide, by decide⟩, MET_X11_image _ _ _ _ h⟩
    · subst h2
      obtain ⟨k9, as9, e9, hlen, hk1, hk2, hk3⟩ := h.1
      cases e9
      exact ⟨yX12_image, cX12_image, 2, (some .int), (rmd 1), by rw [hlen]; exact lkb_X12_image, lnk_L_179, vir_X12_image hk1 hk2 hk3, rfl, rfl, ⟨by decide, by decide⟩, MET_X12_image _ _ _ _ h⟩
    · subst h2
      obtain ⟨k9, as9, e9, hlen, hk1, hk2, hk3⟩ := h.1
      cases e9
      exact ⟨yX11_on, cX11_on, 1, (some .int), (rmd 3), by rw [hlen]; exact lkb_X11_on, lnk_L_180, vir_X11_on hk1 hk2 hk3, rfl, rfl, ⟨by decide, by decide⟩, MET_X11_on _ _ _ _ h⟩
    · subst h2
      obtain ⟨k9, as9, e9, hlen, hk1, hk2, hk3⟩ := h.1
      cases e9
      exact ⟨yX12_on, cX12_on, 2, (some .int), (rmd 2), by rw [hlen]; exact lkb_X12_on, lnk_L_183, vir_X12_on hk1 hk2 hk3, rfl, rfl, ⟨by decide, by decide⟩, MET_X12_on _ _ _ _ h⟩
    · subst h2
      obtain ⟨k9, as9, e9, hlen, hk1, hk2, hk3⟩ := h.1
      cases e9
      exact ⟨yX11_count, cX11_count, 2, (some .int), (rmd 2), by rw [hlen]; exact lkb_X11_count, lnk_L_184, vir_X11_count hk1 hk2 hk3, rfl, rfl, ⟨by decide, by decide⟩, MET_X11_count _ _ _ _ h⟩
    · subst h2
      obtain ⟨k9, as9, e9, hlen, hk1, hk2, hk3⟩ := h.1
      cases e9
      exact ⟨yX12_count, cX12_count, 4, (some .int), (rmd 1), by rw [hlen]; exact lkb_X12_count, lnk_L_187, vir_X12_count hk1 hk2 hk3, rfl, rfl, ⟨by decide, by decide⟩, MET_X12_count _ _ _ _ h⟩
  · intro idx k A σ as post h
    rcases h with ⟨h1, h2, h⟩ | ⟨h1, h2, h⟩ | ⟨h1, h2, h⟩ | ⟨h1, h2, h⟩ | ⟨h1, h2, h⟩ | ⟨h1, h2, h⟩ | ⟨h1, h2, h⟩ | ⟨h1, h2, h⟩ | ⟨h1, h2, h⟩ | ⟨h1, h2, h⟩ | ⟨h1, h2, h⟩ | ⟨h1, h2, h⟩ | ⟨h1, h2, h⟩ | ⟨h1, h2, h⟩ | ⟨h1, h2, h⟩ | ⟨h1, h2, h⟩ | ⟨h1, h2, h⟩ | ⟨h1, h2, h⟩ | ⟨h1, h2, h⟩ | ⟨h1, h2, h⟩ | ⟨h1, h2, h⟩ | ⟨h1, h2, h⟩ | ⟨h1, h2, h⟩ | ⟨h1, h2, h⟩ | ⟨h1, h2, h⟩ | ⟨h1, h2, h⟩ | ⟨h1, h2, h⟩ | ⟨h1, h2, h⟩ | ⟨h1, h2, h⟩ | ⟨h1, h2, h⟩ | ⟨h1, h2, h⟩ | ⟨h1, h2, h⟩ | ⟨h1, h2, h⟩ | ⟨h1, h2, h⟩ | ⟨h1, h2, h⟩ | ⟨h1, h2, h⟩ | ⟨h1, h2, h⟩ | ⟨h1, h2, h⟩ | ⟨h1, h2, h⟩ | ⟨h1, h2, h⟩ | ⟨h1, h2, h⟩ | ⟨h1, h2, h⟩ | ⟨h1, h2, h⟩ | ⟨h1, h2, h⟩ | ⟨h1, h2, h⟩ | ⟨h1, h2, h⟩ | ⟨h1, h2, h⟩ | ⟨h1, h2, h⟩ | ⟨h1, h2, h⟩ | ⟨h1, h2, h⟩ | ⟨h1, h2, h⟩ | ⟨h1, h2, h⟩ | ⟨h1, h2, h⟩ | ⟨h1, h2, h⟩ | ⟨h1, h2, h⟩ | ⟨h1, h2, h⟩ | ⟨h1, h2, h⟩ | ⟨h1, h2, h⟩ | ⟨h1, h2, h⟩ | ⟨h1, h2, h⟩ | ⟨h1, h2, h⟩ | ⟨h1, h2, h⟩ | ⟨h1, h2, h⟩ | ⟨h1, h2, h⟩ | ⟨h1, h2, h⟩ | ⟨h1, h2, h⟩ | ⟨h1, h2, h⟩ | ⟨h1, h2, h⟩ | ⟨h1, h2, h⟩ | ⟨h1, h2, h⟩ | ⟨h1, h2, h⟩ | ⟨h1, h2, h⟩ | ⟨h1, h2, h⟩ | ⟨h1, h2, h⟩ | ⟨h1, h2, h⟩ | ⟨h1, h2, h⟩ | ⟨h1, h2, h⟩ | ⟨h1, h2, h⟩ | ⟨h1, h2, h⟩ | ⟨h1, h2, h⟩ | ⟨h1, h2, h⟩ | ⟨h1, h2, h⟩ | ⟨h1, h2, h⟩ | ⟨h1, h2, h⟩
    · exact absurd h1 (by decide)
    · exact absurd h1 (by decide)
    · exact absurd h1 (by decide)
    · exact absurd h1 (by decide)
    · exact absurd h1 (by decide)
    · exact absurd h1 (by decide)
    · exact absurd h1 (by decide)
    · exact absurd h1 (by decide)
    · exact absurd h1 (by decide)
    · exact absurd h1 (by decide)
    · exact absurd h1 (by decide)
    · exact absurd h1 (by decide)
    · exact absurd h1 (by decide)
    · exact absurd h1 (by decide)
    · exact absurd h1 (by decide)
    · exact absurd h1 (by decide)
    · exact absurd h1 (by decide)
    · exact absurd h1 (by decide)
    · exact absurd h1 (by decide)
    · exact absurd h1 (by decide)
    · exact absurd h1 (by decide)
    · exact absurd h1 (by decide)
    · exact absurd h1 (by decide)
    · exact absurd h1 (by decide)
    · exact absurd h1 (by decide)
    · exact absurd h1 (by decide)
    · exact absurd h1 (by decide)
    · exact absurd h1 (by decide)
    · exact absurd h1 (by decide)
    · exact absurd h1 (by decide)
    · exact absurd h1 (by decide)
    · exact absurd h1 (by decide)
    · exact absurd h1 (by decide)
    · exact absurd h1 (by decide)
    · exact absurd h1 (by decide)
    · exact absurd h1 (by decide)
    · exact absurd h1 (by decide)
    · exact absurd h1 (by decide)
    · exact absurd h1 (by decide)
    · exact absurd h1 (by decide)
    · exact absurd h1 (by decide)
    · exact absurd h1 (by decide)
    · exact absurd h1 (by decide)
    · exact absurd h1 (by decide)
    · exact absurd h1 (by decide)
    · exact absurd h1 (by decide)
    · exact absurd h1 (by decide)
    · exact absurd h1 (by decide)
    · exact absurd h1 (by decide)
    · exact absurd h1 (by decide)
    · exact absurd h1 (by decide)
    · exact absurd h1 (by decide)
    · exact absurd h1 (by decide)
    · exact absurd h1 (by decide)
    · exact absurd h1 (by decide)
    · exact absurd h1 (by decide)
    · exact absurd h1 (by decide)
    · exact absurd h1 (by decide)
    · exact absurd h1 (by decide)
    · exact absurd h1 (by decide)
    · exact absurd h1 (by decide)
    · exact absurd h1 (by decide)
    · exact absurd h1 (by decide)
    · exact absurd h1 (by decide)
    · exact absurd h1 (by decide)
    · exact absurd h1 (by decide)
    · exact absurd h1 (by decide)
    · exact absurd h1 (by decide)
    · exact absurd h1 (by decide)
    · exact absurd h1 (by decide)
    · exact absurd h1 (by decide)
    · exact absurd h1 (by decide)
    · exact absurd h1 (by decide)
    · exact absurd h1 (by decide)
    · exact absurd h1 (by decide)
    · exact absurd h1 (by decide)
    · exact absurd h1 (by decide)
    · exact absurd h1 (by decide)
    · exact absurd h1 (by decide)
    · exact absurd h1 (by decide)
    · exact absurd h1 (by decide)
    · exact absurd h1 (by decide)
    · exact absurd h1 (by decide)
    · exact absurd h1 (by decide)
theorem CNOK_L_law : CNOK l room_1 D cI cG base b RL CNT_L_law := by
  intro idx k A σ as mc ms post h
  rcases h with ⟨h2, h⟩ | ⟨h2, h⟩
  · subst h2
    obtain ⟨k9, as9, e9, hlen, hk⟩ := h.1
    cases e9
    obtain ⟨-, e1, e2, -, -⟩ := id h
    subst e1
    subst e2
    exact ⟨yX11_init, cX11_init, 1, (rmn 4 101 22782), by rw [hlen]; exact lkb_X11_init, lnk_L_9, rfl, ins_X11_init, hk, rfl, rfl, ⟨by decide, by decide⟩, METN_X11_init _ _ _ _ h⟩
  · subst h2
    obtain ⟨k9, as9, e9, hlen, hk⟩ := h.1
    cases e9
    obtain ⟨-, e1, e2, -, -⟩ := id h
    subst e1
    subst e2
    exact ⟨yX12_init, cX12_init, 2, (rmn 1 17 1241), by rw [hlen]; exact lkb_X12_init, lnk_L_12, rfl, ins_X12_init, hk, rfl, rfl, ⟨by decide, by decide⟩, METN_X12_init _ _ _ _ h⟩
end MC_law
def R_law : String := "TurnedInSixLaw"
def lw_P (b : Addr) (xs : List Int32) (args : Array Value) (s : State) : Prop := args = #[.ref b] ∧ s.IntsAt b xs ∧ xs.length ≤ 2048 ∧ (Jvm.Cond.and given_1 narrow_1).before args s = true
def lw_Q (_ : Array Value) (s : State) (o : Outcome) (t : State) : Prop := o = .returned (some (.int 1)) ∧ Framed s o t [] 600000 7302250
def lw_Z (below : List Frame) (a : Array Value) (s : State) : State → Prop := fun t => ∃ o, t.status = .running ∧ Ended t below o ∧ lw_Q a s o t
/-- the law's own end, with 1 on the stack, nothing written that was there before, its room as the claim has it -/
theorem lw_ret {p : Program} {l : Launch} {e : Env} {s : State} {m : MethodId} {below : List Frame} {meth : Method} {c : Code} {b : Nat} (hx : p.tables.exec = Jvm.exec) (hb : c.code = code) (hr : meth.sig.returnType = ret) (hlocks : meth.locks = false) {pc : Nat} {H : Heap} {ls : Array Slot} (hdg : decode code pc = .ok (.ireturn, 1)) : W p l e room_1 s m #[Value.ref b] below meth c H [] 600000 7302250 (lw_Z below #[Value.ref b] s) (F0 m pc ls [.int 1]) := by
  intro T hT X
  obtain ⟨fs, hret, hrun, hended, hW, hframe⟩ := X.leave (v := some (.int 1)) (hlocks := hlocks) (fun h => by rw [hr] at h; cases h)
  have hmeth' : T.vm.method? m = some meth := X.method'
  refine ⟨T.setFrames fs, ?_, .returned (some (.int 1)), hrun, hended, rfl, ⟨_, rfl⟩, hW, hframe⟩
  jvm_step X.here [X.here.top, hx, hb, hdg, hmeth', hr, ret, narrow_b1]
  (try refine ⟨rfl, ?_⟩); (try refine ⟨rfl, ?_⟩)
  first | (intro acts; rw [hret _ acts rfl rfl rfl]) | rw [hret _ _ rfl rfl rfl]
  exact Steps.refl _
/-- what holds at the law's entry: the machine, the code, the tables' words (any of lw_tbl by 'hts w (by decide +kernel)'), the script of L ints xs at the cell b, what the Statement gives of the start (any of its parts by flat_of_before) -/
def lw_At (p : Program) (s : State) (m : MethodId) (meth : Method) (c : Code) (b L : Nat) (xs : Nat → Int32) : Prop :=
  p.tables.exec = Jvm.exec ∧ c.code = code ∧ meth.sig.returnType = ret ∧ c.maxLocals = 4 ∧ s.vm.findClass R_law = some m.cls ∧ (∀ w ∈ lw_tbl, w.before #[Value.ref b] s = true) ∧ va_X b L xs s s.heap ∧ b < s.heap.size ∧ meth.locks = false ∧ (Jvm.Cond.and given_1 narrow_1).before #[Value.ref b] s = true
theorem ac_known {args : Array Value} {s : State} {c : ClassId} (h : (Cond.arrayClass .int).before args s = true) (hf : s.vm.findClass (FieldType.array .int).toString = some c) : ArrOfT s c .int ∧ va_RA s c .int := by
  have h : (Cond.arrayClass .int).holds args s none s [] = true := h
  simp only [Cond.holds, Cond.value, beq_iff_eq] at h
  have hf2 : s.vm.findClass ("[" ++ FieldType.int.toString) = some c := hf
  rw [hf2, Option.bind_some] at h
  simp only [Option.map_eq_some_iff] at h
  obtain ⟨k, hk, hb⟩ := h
  cases hkind : k.kind with
  | array comp ty =>
    rw [hkind] at hb
    simp at hb
    subst hb
    exact ⟨fun n z => ⟨fun q hq => (by cases hq), k, hk, comp, hkind⟩, hf2⟩
  | _ => rw [hkind] at hb; simp at hb
set_option maxRecDepth 100000 in
theorem nest_in : ∀ q ∈ NEST, Cond.methodLinkNest q.1 q.2.1 q.2.2.1 q.2.2.2 ∈ lw_tbl := by decide +kernel
set_option maxRecDepth 100000 in
theorem ao_in : Cond.arrayOver (.array .int) ∈ lw_tbl := by decide +kernel
set_option maxRecDepth 100000 in
theorem li_0 : Cond.instantiable RX0 4 ∈ BIG := bigm 313 (by decide +kernel) rfl
set_option maxRecDepth 100000 in
theorem li_1 : Cond.instantiable RX1 9 ∈ BIG := bigm 211 (by decide +kernel) rfl
set_option maxRecDepth 100000 in
theorem li_2 : Cond.instantiable RX2 3 ∈ BIG := bigm 187 (by decide +kernel) rfl
set_option maxRecDepth 100000 in
theorem li_3 : Cond.instantiable RX3 7 ∈ BIG := bigm 333 (by decide +kernel) rfl
set_option maxRecDepth 100000 in
theorem li_4 : Cond.instantiable RX4 3 ∈ BIG := bigm 80 (by decide +kernel) rfl
set_option maxRecDepth 100000 in
theorem li_5 : Cond.instantiable RX5 7 ∈ BIG := bigm 148 (by decide +kernel) rfl
set_option maxRecDepth 100000 in
theorem li_6 : Cond.instantiable RX6 3 ∈ BIG := bigm 61 (by decide +kernel) rfl
set_option maxRecDepth 100000 in
theorem li_7 : Cond.instantiable RX7 2 ∈ BIG := bigm 299 (by decide +kernel) rfl
set_option maxRecDepth 100000 in
theorem li_8 : Cond.instantiable RX8 3 ∈ BIG := bigm 278 (by decide +kernel) rfl
set_option maxRecDepth 100000 in
theorem li_9 : Cond.instantiable RX9 6 ∈ BIG := bigm 108 (by decide +kernel) rfl
set_option maxRecDepth 100000 in
theorem li_10 : Cond.instantiable RX10 7 ∈ BIG := bigm 247 (by decide +kernel) rfl
set_option maxRecDepth 100000 in
theorem li_11 : Cond.instantiable RX11 13 ∈ BIG := bigm 53 (by decide +kernel) rfl
set_option maxRecDepth 100000 in
theorem li_12 : Cond.instantiable RX12 27 ∈ BIG := bigm 792 (by decide +kernel) rfl
set_option maxHeartbeats 4000000 in
set_option maxRecDepth 100000 in
/-- from the law's entry: all that is left is TT -/
theorem start_of_TT (hTT : ∀ (Ln : Nat) (xs : Nat → Int32), Ln ≤ 2048 → T_L_law Ln xs 0 [.ref scr, dum, dum, dum] [] (0, 0, fun _ _ => true) (fun _ _ => 0)) {p : Program} {e : Env} {s : State} {m : MethodId} {below : List Frame} {meth : Method} {c : Code} (l : Launch) {b L : Nat} {xs : Nat → Int32} (hL : L ≤ 2048) (C0 : lw_At p s m meth c b L xs) : W p l e room_1 s m #[Value.ref b] below meth c s.heap [] 0 0 (lw_Z below #[Value.ref b] s) (entryFrame m ([Value.ref b] : List Value).toArray 4) := by
  obtain ⟨hx, hb, hr, hml, hown, hts, hX, hbl, hlocks, hgv⟩ := C0
  have htsB : ∀ w ∈ BIG, w.before #[Value.ref b] s = true := fun w hw => hts w (List.mem_filter.mp hw).1
  obtain ⟨c0, iS0, hKn0⟩ := u_known (C := RX0) (T := TX0) (N := 4) (n := 4) htsB inX0 (htsB _ li_0)
  obtain ⟨c1, iS1, hKn1⟩ := u_known (C := RX1) (T := TX1) (N := 9) (n := 9) htsB inX1 (htsB _ li_1)
  obtain ⟨c2, iS2, hKn2⟩ := u_known (C := RX2) (T := TX2) (N := 3) (n := 3) htsB inX2 (htsB _ li_2)
  obtain ⟨c3, iS3, hKn3⟩ := u_known (C := RX3) (T := TX3) (N := 7) (n := 7) htsB inX3 (htsB _ li_3)
  obtain ⟨c4, iS4, hKn4⟩ := u_known (C := RX4) (T := TX4) (N := 3) (n := 3) htsB inX4 (htsB _ li_4)
  obtain ⟨c5, iS5, hKn5⟩ := u_known (C := RX5) (T := TX5) (N := 7) (n := 7) htsB inX5 (htsB _ li_5)
  obtain ⟨c6, iS6, hKn6⟩ := u_known (C := RX6) (T := TX6) (N := 3) (n := 3) htsB inX6 (htsB _ li_6)
  obtain ⟨c7, iS7, hKn7⟩ := u_known (C := RX7) (T := TX7) (N := 2) (n := 2) htsB inX7 (htsB _ li_7)
  obtain ⟨c8, iS8, hKn8⟩ := u_known (C := RX8) (T := TX8) (N := 3) (n := 3) htsB inX8 (htsB _ li_8)
  obtain ⟨c9, iS9, hKn9⟩ := u_known (C := RX9) (T := TX9) (N := 6) (n := 6) htsB inX9 (htsB _ li_9)
  obtain ⟨c10, iS10, hKn10⟩ := u_known (C := RX10) (T := TX10) (N := 7) (n := 7) htsB inX10 (htsB _ li_10)
  obtain ⟨c11, iS11, hKn11⟩ := u_known (C := RX11) (T := TX11) (N := 13) (n := 13) htsB inX11 (htsB _ li_11)
  obtain ⟨c12, iS12, hKn12⟩ := u_known (C := RX12) (T := TX12) (N := 27) (n := 27) htsB inX12 (htsB _ li_12)
  obtain ⟨dC, dI, hKc⟩ : ∃ (dC : Nat → ClassId) (dI : Nat → Nat → Nat), ∀ (k : Nat) (q : vw_C), vwCl[k]? = some q → u_Kn s q.1 q.2.1 q.2.2 (dC k) (dI k) := by
    refine ⟨fun k => if k = 0 then c0 else if k = 1 then c1 else if k = 2 then c2 else if k = 3 then c3 else if k = 4 then c4 else if k = 5 then c5 else if k = 6 then c6 else if k = 7 then c7 else if k = 8 then c8 else if k = 9 then c9 else if k = 10 then c10 else if k = 11 then c11 else c12, fun k => if k = 0 then iS0 else if k = 1 then iS1 else if k = 2 then iS2 else if k = 3 then iS3 else if k = 4 then iS4 else if k = 5 then iS5 else if k = 6 then iS6 else if k = 7 then iS7 else if k = 8 then iS8 else if k = 9 then iS9 else if k = 10 then iS10 else if k = 11 then iS11 else iS12, ?_⟩
    intro k q hq
    match k, hq with
    | 0, hq => cases hq; exact hKn0
    | 1, hq => cases hq; exact hKn1
    | 2, hq => cases hq; exact hKn2
    | 3, hq => cases hq; exact hKn3
    | 4, hq => cases hq; exact hKn4
    | 5, hq => cases hq; exact hKn5
    | 6, hq => cases hq; exact hKn6
    | 7, hq => cases hq; exact hKn7
    | 8, hq => cases hq; exact hKn8
    | 9, hq => cases hq; exact hKn9
    | 10, hq => cases hq; exact hKn10
    | 11, hq => cases hq; exact hKn11
    | 12, hq => cases hq; exact hKn12
    | k + 13, hq => simp [vwCl] at hq
  have hac := htsB _ bw_arr
  obtain ⟨comp, cG, kG, fi, fidx, hkG, hkindG, fG⟩ := AOI.of (hts _ ao_in)
  have hAI : ArrOfT s comp .int ∧ va_RA s comp .int := ac_known hac fi
  have hAG : ArrOfT s cG (.array .int) := fun n z => ⟨fun q hq => (by cases hq), kG, hkG, comp, hkindG⟩
  have hK : va_K (dC, dI) vwCl (tys2 comp cG) s := ⟨hKc, fun k q h => by
    match k, h with
    | 0, h => cases h; exact hAI
    | 1, h => cases h; exact ⟨hAG, fG⟩
    | k + 2, h => simp [tys2] at h⟩
  have hN : NW2 s := ⟨fun q hq => va_Nw.of rfl (hts _ (nest_in q hq)), AOI.of (hts _ ao_in)⟩
  have C : CX p room_1 s m #[Value.ref b] meth c (dC, dI) comp cG s.heap.size b RL cL_law 4 false (some (L, xs)) := ⟨hx, hb, hml, hown, htsB, hK, (fun h => by cases h), (fun Ln xs2 h => by cases h; exact ⟨hX, hbl, Nat.not_le.mpr hbl⟩), by decide, by decide, hN⟩
  have hl := lv_entry ([.ref b]) (n := 4) (Nat.le_of_ble_eq_true rfl)
  rw [lg_entry_eq]
  generalize (lg_sl ([.ref b]) ++ List.replicate (4 - (lg_sl ([.ref b])).length) Slot.unset).toArray = ls at hl ⊢
  have hLH : LH s.heap.size b 4 ls [.ref scr, dum, dum, dum] := by
    refine ⟨hl.1, hl.2.1, rfl, fun i v hi hv => ?_⟩
    match i, hi with
    | 0, hi => cases hi; exact hl.2.2 (0, .ref b) List.mem_cons_self
    | 1, hi => cases hi; exact absurd rfl hv
    | 2, hi => cases hi; exact absurd rfl hv
    | 3, hi => cases hi; exact absurd rfl hv
    | k + 4, hi => simp at hi
  have key := hTT L xs hL (WN p l e room_1 s m #[Value.ref b] below meth c (dC, dI) comp cG s.heap.size b 4 0 0 (lw_Z below #[Value.ref b] s))
    (rul_all C (Nat.le_refl _) CTOK_L_law (s_callN C rfl (by decide) (by decide) CNOK_L_law) (s_new C rfl (by decide) (by decide)) (s_newa C rfl (by decide) (by decide) hac) (s_mna C rfl (by decide) (by decide) hac) (fun pc L' A' τ v d hq H locs ls' zA hP1 hS1 hL1 => by
      have hv : some v = some 1 := hq
      cases hv
      refine va_forget (fun q hq => hS1.2.2 q hq) ?_
      refine W.widen (k := 600000) (n := 7302250) zA.2.2.1 zA.2.2.2 ?_
      exact lw_ret hx hb hr hlocks d) (fun pc L' A' τ d hq => by cases hq))
    s.heap [] ls ⟨Nat.le_refl _, Nat.le_refl _, Nat.zero_le _, Nat.zero_le _⟩ (fun k q h => by simp [wl] at h) va_S.rf hLH
  exact key
