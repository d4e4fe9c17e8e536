-- ===== the class's joiner =====
def hw_jn (h : hq_H) (L : hz_J) : hq_H := (fun k i s => if k = 8 ∧ i = 0 ∧ s = 2 then nI L.1 else if k = 9 ∧ i = 0 ∧ s < L.1 then nI (L.2 s) else h.1 k i s, fun k i s => if k = 10 ∧ i = 0 ∧ s < 64 then hz_fb (fun e => hj_in L (64 * s + e)) else h.2 k i s)
theorem hw_jn_n (h : hq_H) (L : hz_J) : (hw_jn h L).1 8 0 2 = nI L.1 := by
  show (if (8 : Nat) = 8 ∧ (0 : Nat) = 0 ∧ (2 : Nat) = 2 then nI L.1 else (if (8 : Nat) = 9 ∧ (0 : Nat) = 0 ∧ 2 < L.1 then nI (L.2 2) else h.1 8 0 2)) = _
  rw [if_pos ⟨rfl, rfl, rfl⟩]
theorem hw_jn_m (h : hq_H) (L : hz_J) {i : Nat} (hi : i < L.1) : (hw_jn h L).1 9 0 i = nI (L.2 i) := by
  show (if (9 : Nat) = 8 ∧ (0 : Nat) = 0 ∧ i = 2 then nI L.1 else if (9 : Nat) = 9 ∧ (0 : Nat) = 0 ∧ i < L.1 then nI (L.2 i) else h.1 9 0 i) = _
  rw [if_neg (fun z => absurd z.1 (by decide)), if_pos ⟨rfl, rfl, hi⟩]
theorem hw_jn_s (h : hq_H) (L : hz_J) {l : Nat} (hl : l < 64) : (hw_jn h L).2 10 0 l = hz_fb (fun e => hj_in L (64 * l + e)) := if_pos ⟨rfl, rfl, hl⟩
theorem hw_jn_o (h : hq_H) (L : hz_J) {k : Nat} (hk : k < 8) (i s : Nat) : (hw_jn h L).1 k i s = h.1 k i s := (if_neg (fun z => by omega)).trans (if_neg (fun z => by omega))
theorem hw_jn_st (h : hq_H) (L : hz_J) : hw_stay (fun k _ => 7 ≤ k ∧ k < 13) h (hw_jn h L) := by
  intro k i hn
  refine ⟨?_, ?_⟩
  · funext s
    exact (if_neg (fun z => hn ⟨by omega, by omega⟩)).trans (if_neg (fun z => hn ⟨by omega, by omega⟩))
  · funext s
    exact if_neg (fun z => hn ⟨by omega, by omega⟩)
theorem hw_jn_add (h : hq_H) {L : hz_J} {l e : Nat} (hl : l < 64) (he : e < 64) (hin : hj_in L (64 * l + e) = false) :
    hq_si (hq_si (hq_sl (hw_jn h L) 10 0 l ((hw_jn h L).2 10 0 l ||| ((1 : Int64) <<< ((nI e).toInt64 &&& 63)))) 9 0 L.1 (nI (64 * l + e))) 8 0 2 (nI (L.1 + 1)) = hw_jn h (hj_add L (64 * l + e)) := by
  refine hq_ext (fun k i s => ?_) (fun k i s => ?_)
  · rw [hq_si_at, hq_si_at, hj_add_n hin]
    show (if k = 8 ∧ s = 2 ∧ i = 0 then nI (L.1 + 1) else if k = 9 ∧ s = L.1 ∧ i = 0 then nI (64 * l + e) else if k = 8 ∧ i = 0 ∧ s = 2 then nI L.1 else if k = 9 ∧ i = 0 ∧ s < L.1 then nI (L.2 s) else h.1 k i s) = if k = 8 ∧ i = 0 ∧ s = 2 then nI (L.1 + 1) else if k = 9 ∧ i = 0 ∧ s < L.1 + 1 then nI (if s = L.1 then 64 * l + e else L.2 s) else h.1 k i s
    by_cases c8 : k = 8 ∧ i = 0 ∧ s = 2
    · rw [if_pos ⟨c8.1, c8.2.2, c8.2.1⟩, if_pos c8]
    · rw [if_neg (fun z => c8 ⟨z.1, z.2.2, z.2.1⟩), if_neg c8, if_neg c8]
      by_cases c9 : k = 9 ∧ i = 0
      · by_cases e1 : s = L.1
        · rw [if_pos ⟨c9.1, e1, c9.2⟩, if_pos ⟨c9.1, c9.2, by omega⟩, if_pos e1]
        · rw [if_neg (fun z => e1 z.2.1)]
          by_cases e2 : s < L.1
          · rw [if_pos ⟨c9.1, c9.2, e2⟩, if_pos ⟨c9.1, c9.2, by omega⟩, if_neg e1]
          · rw [if_neg (fun z => e2 z.2.2), if_neg (fun z => by have := z.2.2; omega)]
      · rw [if_neg (fun z => c9 ⟨z.1, z.2.2⟩), if_neg (fun z => c9 ⟨z.1, z.2.1⟩), if_neg (fun z => c9 ⟨z.1, z.2.1⟩)]
  · show (hq_sl (hw_jn h L) 10 0 l ((hw_jn h L).2 10 0 l ||| ((1 : Int64) <<< ((nI e).toInt64 &&& 63)))).2 k i s = _
    rw [hq_sl_at]
    show (if k = 10 ∧ s = l ∧ i = 0 then (hw_jn h L).2 10 0 l ||| ((1 : Int64) <<< ((nI e).toInt64 &&& 63)) else if k = 10 ∧ i = 0 ∧ s < 64 then hz_fb (fun x => hj_in L (64 * s + x)) else h.2 k i s) = if k = 10 ∧ i = 0 ∧ s < 64 then hz_fb (fun x => hj_in (hj_add L (64 * l + e)) (64 * s + x)) else h.2 k i s
    by_cases c : k = 10 ∧ i = 0 ∧ s < 64
    · rw [if_pos c, if_pos c]
      by_cases e1 : s = l
      · subst e1
        rw [if_pos ⟨c.1, rfl, c.2.1⟩, hw_jn_s h L hl]
        apply hz_bl_ext
        intro q hq
        rw [hz_bl_or, hz_fb_bl _ hq, hz_fb_bl _ hq, hz_bl_one e he q hq, hj_add_in]
        congr 1
        exact decide_eq_decide.mpr (by omega)
      · rw [if_neg (fun z => e1 z.2.1)]
        apply hz_bl_ext
        intro q hq
        rw [hz_fb_bl _ hq, hz_fb_bl _ hq, hj_add_in, decide_eq_false (by omega), Bool.or_false]
    · rw [if_neg c, if_neg c, if_neg (fun z => c ⟨z.1, z.2.2, by omega⟩)]
theorem hz_shl6 {a : Nat} (ha : a < 4096) : nI a <<< ((6 : Int32) &&& 31) = nI (a * 64) := pk_shlN (n := a) ((6 : Int32) &&& 31) 6 (by decide) (by omega)
theorem hz_shr6 {a : Nat} (ha : a < 4096) : nI a >>> ((6 : Int32) &&& 31) = nI (a / 64) := pk_shrN (n := a) (by omega) ((6 : Int32) &&& 31) 6 (by decide)
theorem x_jadd (d : Nat) (h : hq_H) {L : hz_J} (hok : hj_ok L) {l e : Nat} (hl : l < 64) (he : e < 64) (hv : hj_v (64 * l + e)) {x y : Int32} (hx : x = nI l) (hy : y = nI e) : hq_Met (d + 1) MX1_add [.inr (8, 0), hz_i x, hz_i y] (hw_jn h L) hz_v (hw_jn h (hj_add L (64 * l + e))) := by
  subst hx
  subst hy
  have mx := hj_max hok
  have n0 := hw_jn_n h L
  have s0 := hw_jn_s h L hl
  have b0' : hz_bl ((hw_jn h L).2 10 0 l) e = hj_in L (64 * l + e) := by rw [s0, hz_fb_bl _ he]
  refine inX1_add d 0 (nI l) (nI e) (hw_jn h L) _ _ (fun _ => trivial) (fun J b0 => b0 _ _ _ ?_)
  refine hq_bf (nI_pos (by omega)) ?_
  refine hq_bf (hz_nle (a := 64) (b := l) rfl rfl hl (by omega)) ?_
  refine hq_bf (by
    show ¬ (hw_jn h L).1 8 0 2 < 0
    rw [n0]
    exact nI_pos (by omega)) ?_
  cases hin : hj_in L (64 * l + e) with
  | true =>
    rw [hj_add_y hin]
    refine hq_bc (fun _ => ?_) (fun _ => ⟨rfl, rfl⟩)
    refine ⟨l, hl, rfl, ?_⟩
    exact hq_nt (fun z => by
      have q := (hz_bl_sh he).mp ((hz_cmp0 _).mp z)
      have q : hz_bl ((hw_jn h L).2 10 0 l) e = false := q
      rw [b0', hin] at q
      cases q) ⟨rfl, rfl⟩
  | false =>
    have lt := hj_room hok hv hin
    refine hq_bt (hz_lt (a := L.1) (b := 729) n0 rfl lt (by omega)) ?_
    refine ⟨l, hl, rfl, ?_⟩
    refine hq_nf ((hz_cmp0 _).mpr ((hz_bl_sh he).mpr (b0'.trans hin))) ?_
    refine ⟨l, hl, rfl, l, hl, rfl, ?_⟩
    refine ⟨L.1, lt, n0, ?_⟩
    have fin := hw_jn_add h hl he hin
    have w1 : nI l <<< ((6 : Int32) &&& 31) ||| nI e = nI (64 * l + e) := by
      rw [hz_shl6 (by omega), hz_orN, Nat.mul_comm]
      exact congrArg nI (Nat.two_pow_add_eq_or_of_lt (i := 6) he l).symm
    rw [← w1] at fin
    have w2 : (hq_si (hq_sl (hw_jn h L) 10 0 l ((hw_jn h L).2 10 0 l ||| ((1 : Int64) <<< ((nI e).toInt64 &&& 63)))) 9 0 L.1 (nI l <<< ((6 : Int32) &&& 31) ||| nI e)).1 8 0 2 + 1 = nI (L.1 + 1) := by
      rw [hq_si_at, if_neg (fun z => absurd z.1 (by decide))]
      show (hw_jn h L).1 8 0 2 + 1 = _
      rw [n0, nI_1]
    rw [← w2] at fin
    exact ⟨rfl, fin⟩
theorem x_row (d : Nat) (h : hq_H) {L : hz_J} (hok : hj_ok L) {k : Nat} (hk : k < L.1) : hq_Met (d + 2) MX1_joinWithEarlier [.inr (8, 0), hz_i (nI k)] (hw_jn h L) hz_v (hw_jn h (hj_row L k k)) := by
  have mx := hj_max hok
  refine inX1_joinWithEarlier (d + 1) 0 (nI k) (hw_jn h L) _ _ (fun _ => trivial) (fun J b0 b26 => b0 _ _ _ ?_)
  refine hq_bf (nI_pos (by omega)) ?_
  refine hq_bf (hz_nle (a := 729) (b := k) rfl rfl (by omega) (by omega)) ?_
  refine ⟨k, by omega, rfl, ?_⟩
  show J 26 [some (.inr (8, 0)), some (hz_i (nI k)), some (hz_i ((hw_jn h L).1 9 0 k)), some (hz_i (nI 0)), none, none, none] [] (hw_jn h (hj_row L k 0))
  rw [hw_jn_m h L hk]
  refine hq_up (P := fun j => ∀ v4 v5 v6, J 26 [some (.inr (8, 0)), some (hz_i (nI k)), some (hz_i (nI (L.2 k))), some (hz_i (nI j)), v4, v5, v6] [] (hw_jn h (hj_row L k j))) k (fun v4 v5 v6 => b26 _ _ _ (hq_bt (hz_le (a := k) (b := k) rfl rfl (Nat.le_refl _) (by omega)) ⟨rfl, rfl⟩)) (fun j hj ih v4 v5 v6 => b26 _ _ _ ?_) 0 (Nat.zero_le _) none none none
  refine hq_bf (hz_nle (a := k) (b := j) rfl rfl hj (by omega)) ?_
  refine hq_bf (hz_nle (a := 729) (b := j) rfl rfl (by omega) (by omega)) ?_
  refine ⟨j, by omega, rfl, ?_⟩
  have pre := hj_pre_row L k j
  have okj := hj_row_ok hok hk j (by omega)
  have vA := hok.1 k hk
  have vB := hok.1 j (by omega)
  have eB : (hw_jn h (hj_row L k j)).1 9 0 j = nI (L.2 j) := (hw_jn_m h _ (Nat.lt_of_lt_of_le (by omega) pre.1)).trans (congrArg nI (pre.2 j (by omega)))
  have s : hj_row L k (j + 1) = hj_jn (L.2 k) (L.2 j) (hj_row L k j) := rfl
  rw [s, nI_succ j] at ih
  show hk_istore 4 _ _ [(.inl (.int ((hw_jn h (hj_row L k j)).1 9 0 j)))] _
  rw [eB]
  generalize hj_row L k j = M at *
  generalize L.2 k = A at *
  generalize L.2 j = B at *
  have c6 := hj_cn_lt A B
  have cI : (((nI A >>> ((6 : Int32) &&& 31)) &&& nI B) ||| (nI A &&& (nI B >>> ((6 : Int32) &&& 31)))) &&& 63 = nI (hj_cn A B) := by
    rw [hz_shr6 vA.1, hz_shr6 vB.1, hz_andN, hz_andN, hz_orN]
    exact hz_andN _ 63
  refine hq_bc (fun c => ?_) (fun c => ?_)
  · have c : (((nI A >>> ((6 : Int32) &&& 31)) &&& nI B) ||| (nI A &&& (nI B >>> ((6 : Int32) &&& 31)))) &&& 63 = 0 := c
    rw [cI] at c
    have c := (nI_eq (b := 0) (by omega) (by decide)).mp c
    rw [show hj_jn A B M = M from if_neg (fun z => z.1 c)] at ih
    exact ih _ _ _
  · have c : ¬ (((nI A >>> ((6 : Int32) &&& 31)) &&& nI B) ||| (nI A &&& (nI B >>> ((6 : Int32) &&& 31)))) &&& 63 = 0 := c
    rw [cI] at c
    have c0 : hj_cn A B ≠ 0 := fun z => c (by rw [z]; rfl)
    have cP : nI (hj_cn A B) - 1 = nI (hj_cn A B - 1) := by
      obtain ⟨q, hq⟩ : ∃ q, hj_cn A B = q + 1 := ⟨hj_cn A B - 1, by omega⟩
      rw [hq, nI_pred]
      rfl
    refine hq_nc (fun c2 => ?_) (fun c2 => ?_)
    · have c2 : ¬ ((((nI A >>> ((6 : Int32) &&& 31)) &&& nI B) ||| (nI A &&& (nI B >>> ((6 : Int32) &&& 31)))) &&& 63) &&& (((((nI A >>> ((6 : Int32) &&& 31)) &&& nI B) ||| (nI A &&& (nI B >>> ((6 : Int32) &&& 31)))) &&& 63) - 1) = 0 := c2
      rw [cI, cP, hz_andI _ (by omega)] at c2
      rw [show hj_jn A B M = M from if_neg (fun z => c2 z.2)] at ih
      exact ih _ _ _
    · have c2 : ((((nI A >>> ((6 : Int32) &&& 31)) &&& nI B) ||| (nI A &&& (nI B >>> ((6 : Int32) &&& 31)))) &&& 63) &&& (((((nI A >>> ((6 : Int32) &&& 31)) &&& nI B) ||| (nI A &&& (nI B >>> ((6 : Int32) &&& 31)))) &&& 63) - 1) = 0 := c2
      rw [cI, cP, hz_andI _ (by omega)] at c2
      rw [show hj_jn A B M = hj_add M (hj_al A B) from if_pos ⟨c0, c2⟩] at ih
      have va := hj_al_v vA vB
      have aI : (nI A ||| nI B) &&& (((((((nI A >>> ((6 : Int32) &&& 31)) &&& nI B) ||| (nI A &&& (nI B >>> ((6 : Int32) &&& 31)))) &&& 63) <<< ((6 : Int32) &&& 31)) ||| ((((nI A >>> ((6 : Int32) &&& 31)) &&& nI B) ||| (nI A &&& (nI B >>> ((6 : Int32) &&& 31)))) &&& 63)) ^^^ -1) = nI (hj_al A B) := by
        rw [cI, hz_shl6 (by omega), hz_orN, hz_orN, hz_difN]
        rfl
      have dv : 64 * (hj_al A B / 64) + hj_al A B % 64 = hj_al A B := Nat.div_add_mod _ 64
      have m := x_jadd d h okj (l := hj_al A B / 64) (e := hj_al A B % 64) (by have := va.1; omega) (Nat.mod_lt _ (by decide)) (by rw [dv]; exact va) (x := ((nI A ||| nI B) &&& (((((((nI A >>> ((6 : Int32) &&& 31)) &&& nI B) ||| (nI A &&& (nI B >>> ((6 : Int32) &&& 31)))) &&& 63) <<< ((6 : Int32) &&& 31)) ||| ((((nI A >>> ((6 : Int32) &&& 31)) &&& nI B) ||| (nI A &&& (nI B >>> ((6 : Int32) &&& 31)))) &&& 63)) ^^^ -1)) >>> ((6 : Int32) &&& 31)) (y := ((nI A ||| nI B) &&& (((((((nI A >>> ((6 : Int32) &&& 31)) &&& nI B) ||| (nI A &&& (nI B >>> ((6 : Int32) &&& 31)))) &&& 63) <<< ((6 : Int32) &&& 31)) ||| ((((nI A >>> ((6 : Int32) &&& 31)) &&& nI B) ||| (nI A &&& (nI B >>> ((6 : Int32) &&& 31)))) &&& 63)) ^^^ -1)) &&& 63) (by rw [aI]; exact hz_shr6 va.1) (by
        rw [aI]
        exact (hz_andN _ 63).trans (congrArg nI (Nat.and_two_pow_sub_one_eq_mod (hj_al A B) 6)))
      rw [dv] at m
      exact ⟨_, m, ih _ _ _⟩
