-- ===== the world made is the world of the contracts (printed by wip/gen/gen_final.py) =====
def hc_W6 : List hc_E := hc_st [hc_6z] 0 hc_6f hc_L7
def hc_W : List hc_E := hc_W6
theorem hc_off2 : ∀ i, i < 9 → ∀ j, j < 10 → hq_off (hq_HR 2 i j).1 (hq_HR 2 i j).2 = hq_hof i + 1 + 1 + j := by decide +kernel
theorem hc_off5 : ∀ j, j < 6 → hq_off (hq_HR 5 0 j).1 (hq_HR 5 0 j).2 = 28 + 1 + 13 * j := by decide +kernel
def hc_Is (b : Nat) (cy : Nat → ClassId) (k : Nat) : Prop := ∃ e, hc_W[k]? = some e ∧ hc_sm (hc_ent b cy e) (hq_ent b cy h0_ (hq_kn k).1 (hq_kn k).2)
theorem hc_list (b : Nat) (cy : Nat → ClassId) (i : Nat) (hi : i < 9) (n : Nat) (hn : n = hq_hof i + 1) : hc_sm (hc_ent b cy (hc_li n 10)) (hq_ent b cy h0_ 2 i) := by
  refine hc_sm_q (fun j hj => ?_)
  show ((if j < 10 then some (n + 1 + j) else none).map (b + ·)) = some (b + hq_off (hq_HR 2 i j).1 (hq_HR 2 i j).2)
  rw [if_pos hj, hc_off2 i hi j hj, hn]
  rfl
theorem hc_ring (b : Nat) (cy : Nat → ClassId) : hc_sm (hc_ent b cy (hc_ri 28 6)) (hq_ent b cy h0_ 5 0) := by
  refine hc_sm_q (fun j hj => ?_)
  show ((if j < 6 then some (28 + 1 + 13 * j) else none).map (b + ·)) = some (b + hq_off (hq_HR 5 0 j).1 (hq_HR 5 0 j).2)
  rw [if_pos hj, hc_off5 j hj]
  rfl
def hc_And (P : Nat → Prop) : Nat → Prop
  | 0 => True
  | n + 1 => hc_And P n ∧ P n
theorem hc_And_at {P : Nat → Prop} : ∀ {n : Nat}, hc_And P n → ∀ j, j < n → P j
  | 0, _, j, h => absurd h (Nat.not_lt_zero _)
  | n + 1, h, j, hj => by
    by_cases e : j = n
    · rw [e]
      exact h.2
    · exact hc_And_at h.1 j (by omega)
theorem hc_is0 (b : Nat) (cy : Nat → ClassId) : hc_Is b cy 0 := ⟨_, rfl, hc_sm_rf _⟩
theorem hc_is1 (b : Nat) (cy : Nat → ClassId) : hc_Is b cy 1 := ⟨_, rfl, hc_sm_rf _⟩
theorem hc_is2 (b : Nat) (cy : Nat → ClassId) : hc_Is b cy 2 := ⟨_, rfl, hc_list b cy 0 (by decide) _ rfl⟩
theorem hc_is3 (b : Nat) (cy : Nat → ClassId) : hc_Is b cy 3 := ⟨_, rfl, hc_sm_rf _⟩
theorem hc_is4 (b : Nat) (cy : Nat → ClassId) : hc_Is b cy 4 := ⟨_, rfl, hc_sm_rf _⟩
theorem hc_is5 (b : Nat) (cy : Nat → ClassId) : hc_Is b cy 5 := ⟨_, rfl, hc_sm_rf _⟩
theorem hc_is6 (b : Nat) (cy : Nat → ClassId) : hc_Is b cy 6 := ⟨_, rfl, hc_sm_rf _⟩
theorem hc_is7 (b : Nat) (cy : Nat → ClassId) : hc_Is b cy 7 := ⟨_, rfl, hc_sm_rf _⟩
theorem hc_is8 (b : Nat) (cy : Nat → ClassId) : hc_Is b cy 8 := ⟨_, rfl, hc_sm_rf _⟩
theorem hc_is9 (b : Nat) (cy : Nat → ClassId) : hc_Is b cy 9 := ⟨_, rfl, hc_sm_rf _⟩
theorem hc_is10 (b : Nat) (cy : Nat → ClassId) : hc_Is b cy 10 := ⟨_, rfl, hc_sm_rf _⟩
theorem hc_is11 (b : Nat) (cy : Nat → ClassId) : hc_Is b cy 11 := ⟨_, rfl, hc_sm_rf _⟩
theorem hc_is12 (b : Nat) (cy : Nat → ClassId) : hc_Is b cy 12 := ⟨_, rfl, hc_sm_rf _⟩
theorem hc_is13 (b : Nat) (cy : Nat → ClassId) : hc_Is b cy 13 := ⟨_, rfl, hc_sm_rf _⟩
theorem hc_is14 (b : Nat) (cy : Nat → ClassId) : hc_Is b cy 14 := ⟨_, rfl, hc_sm_rf _⟩
theorem hc_is15 (b : Nat) (cy : Nat → ClassId) : hc_Is b cy 15 := ⟨_, rfl, hc_list b cy 1 (by decide) _ rfl⟩
theorem hc_is16 (b : Nat) (cy : Nat → ClassId) : hc_Is b cy 16 := ⟨_, rfl, hc_sm_rf _⟩
theorem hc_is17 (b : Nat) (cy : Nat → ClassId) : hc_Is b cy 17 := ⟨_, rfl, hc_sm_rf _⟩
theorem hc_is18 (b : Nat) (cy : Nat → ClassId) : hc_Is b cy 18 := ⟨_, rfl, hc_sm_rf _⟩
theorem hc_is19 (b : Nat) (cy : Nat → ClassId) : hc_Is b cy 19 := ⟨_, rfl, hc_sm_rf _⟩
theorem hc_is20 (b : Nat) (cy : Nat → ClassId) : hc_Is b cy 20 := ⟨_, rfl, hc_sm_rf _⟩
theorem hc_is21 (b : Nat) (cy : Nat → ClassId) : hc_Is b cy 21 := ⟨_, rfl, hc_sm_rf _⟩
theorem hc_is22 (b : Nat) (cy : Nat → ClassId) : hc_Is b cy 22 := ⟨_, rfl, hc_sm_rf _⟩
theorem hc_is23 (b : Nat) (cy : Nat → ClassId) : hc_Is b cy 23 := ⟨_, rfl, hc_sm_rf _⟩
theorem hc_is24 (b : Nat) (cy : Nat → ClassId) : hc_Is b cy 24 := ⟨_, rfl, hc_sm_rf _⟩
theorem hc_is25 (b : Nat) (cy : Nat → ClassId) : hc_Is b cy 25 := ⟨_, rfl, hc_sm_rf _⟩
theorem hc_is26 (b : Nat) (cy : Nat → ClassId) : hc_Is b cy 26 := ⟨_, rfl, hc_sm_rf _⟩
theorem hc_is27 (b : Nat) (cy : Nat → ClassId) : hc_Is b cy 27 := ⟨_, rfl, hc_sm_rf _⟩
theorem hc_is28 (b : Nat) (cy : Nat → ClassId) : hc_Is b cy 28 := ⟨_, rfl, hc_ring b cy⟩
theorem hc_is29 (b : Nat) (cy : Nat → ClassId) : hc_Is b cy 29 := ⟨_, rfl, hc_sm_rf _⟩
theorem hc_is30 (b : Nat) (cy : Nat → ClassId) : hc_Is b cy 30 := ⟨_, rfl, hc_list b cy 2 (by decide) _ rfl⟩
theorem hc_is31 (b : Nat) (cy : Nat → ClassId) : hc_Is b cy 31 := ⟨_, rfl, hc_sm_rf _⟩
theorem hc_is32 (b : Nat) (cy : Nat → ClassId) : hc_Is b cy 32 := ⟨_, rfl, hc_sm_rf _⟩
theorem hc_is33 (b : Nat) (cy : Nat → ClassId) : hc_Is b cy 33 := ⟨_, rfl, hc_sm_rf _⟩
theorem hc_is34 (b : Nat) (cy : Nat → ClassId) : hc_Is b cy 34 := ⟨_, rfl, hc_sm_rf _⟩
theorem hc_is35 (b : Nat) (cy : Nat → ClassId) : hc_Is b cy 35 := ⟨_, rfl, hc_sm_rf _⟩
theorem hc_is36 (b : Nat) (cy : Nat → ClassId) : hc_Is b cy 36 := ⟨_, rfl, hc_sm_rf _⟩
theorem hc_is37 (b : Nat) (cy : Nat → ClassId) : hc_Is b cy 37 := ⟨_, rfl, hc_sm_rf _⟩
theorem hc_is38 (b : Nat) (cy : Nat → ClassId) : hc_Is b cy 38 := ⟨_, rfl, hc_sm_rf _⟩
theorem hc_is39 (b : Nat) (cy : Nat → ClassId) : hc_Is b cy 39 := ⟨_, rfl, hc_sm_rf _⟩
theorem hc_is40 (b : Nat) (cy : Nat → ClassId) : hc_Is b cy 40 := ⟨_, rfl, hc_sm_rf _⟩
theorem hc_is41 (b : Nat) (cy : Nat → ClassId) : hc_Is b cy 41 := ⟨_, rfl, hc_sm_rf _⟩
theorem hc_is42 (b : Nat) (cy : Nat → ClassId) : hc_Is b cy 42 := ⟨_, rfl, hc_sm_rf _⟩
theorem hc_is43 (b : Nat) (cy : Nat → ClassId) : hc_Is b cy 43 := ⟨_, rfl, hc_list b cy 3 (by decide) _ rfl⟩
theorem hc_is44 (b : Nat) (cy : Nat → ClassId) : hc_Is b cy 44 := ⟨_, rfl, hc_sm_rf _⟩
theorem hc_is45 (b : Nat) (cy : Nat → ClassId) : hc_Is b cy 45 := ⟨_, rfl, hc_sm_rf _⟩
theorem hc_is46 (b : Nat) (cy : Nat → ClassId) : hc_Is b cy 46 := ⟨_, rfl, hc_sm_rf _⟩
theorem hc_is47 (b : Nat) (cy : Nat → ClassId) : hc_Is b cy 47 := ⟨_, rfl, hc_sm_rf _⟩
theorem hc_is48 (b : Nat) (cy : Nat → ClassId) : hc_Is b cy 48 := ⟨_, rfl, hc_sm_rf _⟩
theorem hc_is49 (b : Nat) (cy : Nat → ClassId) : hc_Is b cy 49 := ⟨_, rfl, hc_sm_rf _⟩
theorem hc_is50 (b : Nat) (cy : Nat → ClassId) : hc_Is b cy 50 := ⟨_, rfl, hc_sm_rf _⟩
theorem hc_is51 (b : Nat) (cy : Nat → ClassId) : hc_Is b cy 51 := ⟨_, rfl, hc_sm_rf _⟩
theorem hc_is52 (b : Nat) (cy : Nat → ClassId) : hc_Is b cy 52 := ⟨_, rfl, hc_sm_rf _⟩
theorem hc_is53 (b : Nat) (cy : Nat → ClassId) : hc_Is b cy 53 := ⟨_, rfl, hc_sm_rf _⟩
theorem hc_is54 (b : Nat) (cy : Nat → ClassId) : hc_Is b cy 54 := ⟨_, rfl, hc_sm_rf _⟩
theorem hc_is55 (b : Nat) (cy : Nat → ClassId) : hc_Is b cy 55 := ⟨_, rfl, hc_sm_rf _⟩
theorem hc_is56 (b : Nat) (cy : Nat → ClassId) : hc_Is b cy 56 := ⟨_, rfl, hc_list b cy 4 (by decide) _ rfl⟩
theorem hc_is57 (b : Nat) (cy : Nat → ClassId) : hc_Is b cy 57 := ⟨_, rfl, hc_sm_rf _⟩
theorem hc_is58 (b : Nat) (cy : Nat → ClassId) : hc_Is b cy 58 := ⟨_, rfl, hc_sm_rf _⟩
theorem hc_is59 (b : Nat) (cy : Nat → ClassId) : hc_Is b cy 59 := ⟨_, rfl, hc_sm_rf _⟩
theorem hc_is60 (b : Nat) (cy : Nat → ClassId) : hc_Is b cy 60 := ⟨_, rfl, hc_sm_rf _⟩
theorem hc_is61 (b : Nat) (cy : Nat → ClassId) : hc_Is b cy 61 := ⟨_, rfl, hc_sm_rf _⟩
theorem hc_is62 (b : Nat) (cy : Nat → ClassId) : hc_Is b cy 62 := ⟨_, rfl, hc_sm_rf _⟩
theorem hc_is63 (b : Nat) (cy : Nat → ClassId) : hc_Is b cy 63 := ⟨_, rfl, hc_sm_rf _⟩
theorem hc_is64 (b : Nat) (cy : Nat → ClassId) : hc_Is b cy 64 := ⟨_, rfl, hc_sm_rf _⟩
theorem hc_is65 (b : Nat) (cy : Nat → ClassId) : hc_Is b cy 65 := ⟨_, rfl, hc_sm_rf _⟩
theorem hc_is66 (b : Nat) (cy : Nat → ClassId) : hc_Is b cy 66 := ⟨_, rfl, hc_sm_rf _⟩
theorem hc_is67 (b : Nat) (cy : Nat → ClassId) : hc_Is b cy 67 := ⟨_, rfl, hc_sm_rf _⟩
theorem hc_is68 (b : Nat) (cy : Nat → ClassId) : hc_Is b cy 68 := ⟨_, rfl, hc_sm_rf _⟩
theorem hc_is69 (b : Nat) (cy : Nat → ClassId) : hc_Is b cy 69 := ⟨_, rfl, hc_list b cy 5 (by decide) _ rfl⟩
theorem hc_is70 (b : Nat) (cy : Nat → ClassId) : hc_Is b cy 70 := ⟨_, rfl, hc_sm_rf _⟩
theorem hc_is71 (b : Nat) (cy : Nat → ClassId) : hc_Is b cy 71 := ⟨_, rfl, hc_sm_rf _⟩
theorem hc_is72 (b : Nat) (cy : Nat → ClassId) : hc_Is b cy 72 := ⟨_, rfl, hc_sm_rf _⟩
theorem hc_is73 (b : Nat) (cy : Nat → ClassId) : hc_Is b cy 73 := ⟨_, rfl, hc_sm_rf _⟩
theorem hc_is74 (b : Nat) (cy : Nat → ClassId) : hc_Is b cy 74 := ⟨_, rfl, hc_sm_rf _⟩
theorem hc_is75 (b : Nat) (cy : Nat → ClassId) : hc_Is b cy 75 := ⟨_, rfl, hc_sm_rf _⟩
theorem hc_is76 (b : Nat) (cy : Nat → ClassId) : hc_Is b cy 76 := ⟨_, rfl, hc_sm_rf _⟩
theorem hc_is77 (b : Nat) (cy : Nat → ClassId) : hc_Is b cy 77 := ⟨_, rfl, hc_sm_rf _⟩
theorem hc_is78 (b : Nat) (cy : Nat → ClassId) : hc_Is b cy 78 := ⟨_, rfl, hc_sm_rf _⟩
theorem hc_is79 (b : Nat) (cy : Nat → ClassId) : hc_Is b cy 79 := ⟨_, rfl, hc_sm_rf _⟩
theorem hc_is80 (b : Nat) (cy : Nat → ClassId) : hc_Is b cy 80 := ⟨_, rfl, hc_sm_rf _⟩
theorem hc_is81 (b : Nat) (cy : Nat → ClassId) : hc_Is b cy 81 := ⟨_, rfl, hc_sm_rf _⟩
theorem hc_is82 (b : Nat) (cy : Nat → ClassId) : hc_Is b cy 82 := ⟨_, rfl, hc_list b cy 6 (by decide) _ rfl⟩
theorem hc_is83 (b : Nat) (cy : Nat → ClassId) : hc_Is b cy 83 := ⟨_, rfl, hc_sm_rf _⟩
theorem hc_is84 (b : Nat) (cy : Nat → ClassId) : hc_Is b cy 84 := ⟨_, rfl, hc_sm_rf _⟩
theorem hc_is85 (b : Nat) (cy : Nat → ClassId) : hc_Is b cy 85 := ⟨_, rfl, hc_sm_rf _⟩
theorem hc_is86 (b : Nat) (cy : Nat → ClassId) : hc_Is b cy 86 := ⟨_, rfl, hc_sm_rf _⟩
theorem hc_is87 (b : Nat) (cy : Nat → ClassId) : hc_Is b cy 87 := ⟨_, rfl, hc_sm_rf _⟩
theorem hc_is88 (b : Nat) (cy : Nat → ClassId) : hc_Is b cy 88 := ⟨_, rfl, hc_sm_rf _⟩
theorem hc_is89 (b : Nat) (cy : Nat → ClassId) : hc_Is b cy 89 := ⟨_, rfl, hc_sm_rf _⟩
theorem hc_is90 (b : Nat) (cy : Nat → ClassId) : hc_Is b cy 90 := ⟨_, rfl, hc_sm_rf _⟩
theorem hc_is91 (b : Nat) (cy : Nat → ClassId) : hc_Is b cy 91 := ⟨_, rfl, hc_sm_rf _⟩
theorem hc_is92 (b : Nat) (cy : Nat → ClassId) : hc_Is b cy 92 := ⟨_, rfl, hc_sm_rf _⟩
theorem hc_is93 (b : Nat) (cy : Nat → ClassId) : hc_Is b cy 93 := ⟨_, rfl, hc_sm_rf _⟩
theorem hc_is94 (b : Nat) (cy : Nat → ClassId) : hc_Is b cy 94 := ⟨_, rfl, hc_sm_rf _⟩
theorem hc_is95 (b : Nat) (cy : Nat → ClassId) : hc_Is b cy 95 := ⟨_, rfl, hc_list b cy 7 (by decide) _ rfl⟩
theorem hc_is96 (b : Nat) (cy : Nat → ClassId) : hc_Is b cy 96 := ⟨_, rfl, hc_sm_rf _⟩
theorem hc_is97 (b : Nat) (cy : Nat → ClassId) : hc_Is b cy 97 := ⟨_, rfl, hc_sm_rf _⟩
theorem hc_is98 (b : Nat) (cy : Nat → ClassId) : hc_Is b cy 98 := ⟨_, rfl, hc_sm_rf _⟩
theorem hc_is99 (b : Nat) (cy : Nat → ClassId) : hc_Is b cy 99 := ⟨_, rfl, hc_sm_rf _⟩
theorem hc_is100 (b : Nat) (cy : Nat → ClassId) : hc_Is b cy 100 := ⟨_, rfl, hc_sm_rf _⟩
theorem hc_is101 (b : Nat) (cy : Nat → ClassId) : hc_Is b cy 101 := ⟨_, rfl, hc_sm_rf _⟩
theorem hc_is102 (b : Nat) (cy : Nat → ClassId) : hc_Is b cy 102 := ⟨_, rfl, hc_sm_rf _⟩
theorem hc_is103 (b : Nat) (cy : Nat → ClassId) : hc_Is b cy 103 := ⟨_, rfl, hc_sm_rf _⟩
theorem hc_is104 (b : Nat) (cy : Nat → ClassId) : hc_Is b cy 104 := ⟨_, rfl, hc_sm_rf _⟩
theorem hc_is105 (b : Nat) (cy : Nat → ClassId) : hc_Is b cy 105 := ⟨_, rfl, hc_sm_rf _⟩
theorem hc_is106 (b : Nat) (cy : Nat → ClassId) : hc_Is b cy 106 := ⟨_, rfl, hc_sm_rf _⟩
theorem hc_is107 (b : Nat) (cy : Nat → ClassId) : hc_Is b cy 107 := ⟨_, rfl, hc_sm_rf _⟩
theorem hc_is108 (b : Nat) (cy : Nat → ClassId) : hc_Is b cy 108 := ⟨_, rfl, hc_list b cy 8 (by decide) _ rfl⟩
theorem hc_is109 (b : Nat) (cy : Nat → ClassId) : hc_Is b cy 109 := ⟨_, rfl, hc_sm_rf _⟩
theorem hc_is110 (b : Nat) (cy : Nat → ClassId) : hc_Is b cy 110 := ⟨_, rfl, hc_sm_rf _⟩
theorem hc_is111 (b : Nat) (cy : Nat → ClassId) : hc_Is b cy 111 := ⟨_, rfl, hc_sm_rf _⟩
theorem hc_is112 (b : Nat) (cy : Nat → ClassId) : hc_Is b cy 112 := ⟨_, rfl, hc_sm_rf _⟩
theorem hc_is113 (b : Nat) (cy : Nat → ClassId) : hc_Is b cy 113 := ⟨_, rfl, hc_sm_rf _⟩
theorem hc_is114 (b : Nat) (cy : Nat → ClassId) : hc_Is b cy 114 := ⟨_, rfl, hc_sm_rf _⟩
theorem hc_is115 (b : Nat) (cy : Nat → ClassId) : hc_Is b cy 115 := ⟨_, rfl, hc_sm_rf _⟩
theorem hc_is116 (b : Nat) (cy : Nat → ClassId) : hc_Is b cy 116 := ⟨_, rfl, hc_sm_rf _⟩
theorem hc_is117 (b : Nat) (cy : Nat → ClassId) : hc_Is b cy 117 := ⟨_, rfl, hc_sm_rf _⟩
theorem hc_is118 (b : Nat) (cy : Nat → ClassId) : hc_Is b cy 118 := ⟨_, rfl, hc_sm_rf _⟩
theorem hc_is119 (b : Nat) (cy : Nat → ClassId) : hc_Is b cy 119 := ⟨_, rfl, hc_sm_rf _⟩
theorem hc_is120 (b : Nat) (cy : Nat → ClassId) : hc_Is b cy 120 := ⟨_, rfl, hc_sm_rf _⟩
theorem hc_is121 (b : Nat) (cy : Nat → ClassId) : hc_Is b cy 121 := ⟨_, rfl, hc_sm_rf _⟩
theorem hc_is122 (b : Nat) (cy : Nat → ClassId) : hc_Is b cy 122 := ⟨_, rfl, hc_sm_rf _⟩
theorem hc_is123 (b : Nat) (cy : Nat → ClassId) : hc_Is b cy 123 := ⟨_, rfl, hc_sm_rf _⟩
theorem hc_is124 (b : Nat) (cy : Nat → ClassId) : hc_Is b cy 124 := ⟨_, rfl, hc_sm_rf _⟩
theorem hc_is125 (b : Nat) (cy : Nat → ClassId) : hc_Is b cy 125 := ⟨_, rfl, hc_sm_rf _⟩
theorem hc_is126 (b : Nat) (cy : Nat → ClassId) : hc_Is b cy 126 := ⟨_, rfl, hc_sm_rf _⟩
theorem hc_isA0 (b : Nat) (cy : Nat → ClassId) : hc_And (hc_Is b cy) 0 := trivial
theorem hc_isA15 (b : Nat) (cy : Nat → ClassId) : hc_And (hc_Is b cy) 15 := ⟨⟨⟨⟨⟨⟨⟨⟨⟨⟨⟨⟨⟨⟨⟨(hc_isA0 b cy), hc_is0 b cy⟩, hc_is1 b cy⟩, hc_is2 b cy⟩, hc_is3 b cy⟩, hc_is4 b cy⟩, hc_is5 b cy⟩, hc_is6 b cy⟩, hc_is7 b cy⟩, hc_is8 b cy⟩, hc_is9 b cy⟩, hc_is10 b cy⟩, hc_is11 b cy⟩, hc_is12 b cy⟩, hc_is13 b cy⟩, hc_is14 b cy⟩
theorem hc_isA30 (b : Nat) (cy : Nat → ClassId) : hc_And (hc_Is b cy) 30 := ⟨⟨⟨⟨⟨⟨⟨⟨⟨⟨⟨⟨⟨⟨⟨(hc_isA15 b cy), hc_is15 b cy⟩, hc_is16 b cy⟩, hc_is17 b cy⟩, hc_is18 b cy⟩, hc_is19 b cy⟩, hc_is20 b cy⟩, hc_is21 b cy⟩, hc_is22 b cy⟩, hc_is23 b cy⟩, hc_is24 b cy⟩, hc_is25 b cy⟩, hc_is26 b cy⟩, hc_is27 b cy⟩, hc_is28 b cy⟩, hc_is29 b cy⟩
theorem hc_isA45 (b : Nat) (cy : Nat → ClassId) : hc_And (hc_Is b cy) 45 := ⟨⟨⟨⟨⟨⟨⟨⟨⟨⟨⟨⟨⟨⟨⟨(hc_isA30 b cy), hc_is30 b cy⟩, hc_is31 b cy⟩, hc_is32 b cy⟩, hc_is33 b cy⟩, hc_is34 b cy⟩, hc_is35 b cy⟩, hc_is36 b cy⟩, hc_is37 b cy⟩, hc_is38 b cy⟩, hc_is39 b cy⟩, hc_is40 b cy⟩, hc_is41 b cy⟩, hc_is42 b cy⟩, hc_is43 b cy⟩, hc_is44 b cy⟩
theorem hc_isA60 (b : Nat) (cy : Nat → ClassId) : hc_And (hc_Is b cy) 60 := ⟨⟨⟨⟨⟨⟨⟨⟨⟨⟨⟨⟨⟨⟨⟨(hc_isA45 b cy), hc_is45 b cy⟩, hc_is46 b cy⟩, hc_is47 b cy⟩, hc_is48 b cy⟩, hc_is49 b cy⟩, hc_is50 b cy⟩, hc_is51 b cy⟩, hc_is52 b cy⟩, hc_is53 b cy⟩, hc_is54 b cy⟩, hc_is55 b cy⟩, hc_is56 b cy⟩, hc_is57 b cy⟩, hc_is58 b cy⟩, hc_is59 b cy⟩
theorem hc_isA75 (b : Nat) (cy : Nat → ClassId) : hc_And (hc_Is b cy) 75 := ⟨⟨⟨⟨⟨⟨⟨⟨⟨⟨⟨⟨⟨⟨⟨(hc_isA60 b cy), hc_is60 b cy⟩, hc_is61 b cy⟩, hc_is62 b cy⟩, hc_is63 b cy⟩, hc_is64 b cy⟩, hc_is65 b cy⟩, hc_is66 b cy⟩, hc_is67 b cy⟩, hc_is68 b cy⟩, hc_is69 b cy⟩, hc_is70 b cy⟩, hc_is71 b cy⟩, hc_is72 b cy⟩, hc_is73 b cy⟩, hc_is74 b cy⟩
theorem hc_isA90 (b : Nat) (cy : Nat → ClassId) : hc_And (hc_Is b cy) 90 := ⟨⟨⟨⟨⟨⟨⟨⟨⟨⟨⟨⟨⟨⟨⟨(hc_isA75 b cy), hc_is75 b cy⟩, hc_is76 b cy⟩, hc_is77 b cy⟩, hc_is78 b cy⟩, hc_is79 b cy⟩, hc_is80 b cy⟩, hc_is81 b cy⟩, hc_is82 b cy⟩, hc_is83 b cy⟩, hc_is84 b cy⟩, hc_is85 b cy⟩, hc_is86 b cy⟩, hc_is87 b cy⟩, hc_is88 b cy⟩, hc_is89 b cy⟩
theorem hc_isA105 (b : Nat) (cy : Nat → ClassId) : hc_And (hc_Is b cy) 105 := ⟨⟨⟨⟨⟨⟨⟨⟨⟨⟨⟨⟨⟨⟨⟨(hc_isA90 b cy), hc_is90 b cy⟩, hc_is91 b cy⟩, hc_is92 b cy⟩, hc_is93 b cy⟩, hc_is94 b cy⟩, hc_is95 b cy⟩, hc_is96 b cy⟩, hc_is97 b cy⟩, hc_is98 b cy⟩, hc_is99 b cy⟩, hc_is100 b cy⟩, hc_is101 b cy⟩, hc_is102 b cy⟩, hc_is103 b cy⟩, hc_is104 b cy⟩
theorem hc_isA120 (b : Nat) (cy : Nat → ClassId) : hc_And (hc_Is b cy) 120 := ⟨⟨⟨⟨⟨⟨⟨⟨⟨⟨⟨⟨⟨⟨⟨(hc_isA105 b cy), hc_is105 b cy⟩, hc_is106 b cy⟩, hc_is107 b cy⟩, hc_is108 b cy⟩, hc_is109 b cy⟩, hc_is110 b cy⟩, hc_is111 b cy⟩, hc_is112 b cy⟩, hc_is113 b cy⟩, hc_is114 b cy⟩, hc_is115 b cy⟩, hc_is116 b cy⟩, hc_is117 b cy⟩, hc_is118 b cy⟩, hc_is119 b cy⟩
theorem hc_isA127 (b : Nat) (cy : Nat → ClassId) : hc_And (hc_Is b cy) 127 := ⟨⟨⟨⟨⟨⟨⟨(hc_isA120 b cy), hc_is120 b cy⟩, hc_is121 b cy⟩, hc_is122 b cy⟩, hc_is123 b cy⟩, hc_is124 b cy⟩, hc_is125 b cy⟩, hc_is126 b cy⟩
theorem hc_final {D : va_G} {H : Heap} {b : Nat} {cy : Nat → ClassId} (hP : va_P D vwCl (hc_w b cy hc_W) H) : va_P D vwCl (hq_w b cy h0_) H := by
  intro k q hq
  have hk : k < 127 := by
    have := (List.getElem?_eq_some_iff.mp hq).1
    unfold hq_w at this
    rw [List.length_map, List.length_range] at this
    exact this
  have e : (hq_w b cy h0_)[k]? = some (b + k, hq_ent b cy h0_ (hq_kn k).1 (hq_kn k).2) := by
    unfold hq_w
    rw [List.getElem?_map, List.getElem?_range hk]
    rfl
  rw [e] at hq
  cases hq
  obtain ⟨en, h1, h2⟩ := hc_And_at (hc_isA127 b cy) k hk
  exact h2 D vwCl _ H (hP k _ (hc_at b cy h1))
theorem hc_W6_len : hc_W6.length = 127 ∧ hc_sz hc_W6 = 2753 := by decide +kernel
