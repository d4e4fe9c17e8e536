-- ===== joining =====
def hz_fbk (p : Nat → Bool) : Nat → Int64
  | 0 => 0
  | k + 1 => if p k = true then hz_fbk p k ||| ((1 : Int64) <<< ((nI k).toInt64 &&& 63)) else hz_fbk p k
theorem hz_fbk_bl (p : Nat → Bool) (k : Nat) (hk : k < 64) : ∀ m, m ≤ 64 → hz_bl (hz_fbk p m) k = (decide (k < m) && p k)
  | 0, _ => by rw [show hz_fbk p 0 = 0 from rfl, hz_bl_0]; rfl
  | m + 1, hm => by
    have ih := hz_fbk_bl p k hk m (by omega)
    by_cases c : p m = true
    · rw [show hz_fbk p (m + 1) = hz_fbk p m ||| ((1 : Int64) <<< ((nI m).toInt64 &&& 63)) from if_pos c, hz_bl_or, ih, hz_bl_one m (by omega) k hk]
      by_cases e1 : k = m
      · subst e1
        rw [c, decide_eq_true (Nat.lt_succ_self k), decide_eq_true rfl, Bool.or_true]
        rfl
      · rw [decide_eq_false e1, Bool.or_false, show decide (k < m + 1) = decide (k < m) from decide_eq_decide.mpr (by omega)]
    · rw [show hz_fbk p (m + 1) = hz_fbk p m from if_neg c, ih]
      by_cases e1 : k = m
      · subst e1
        rw [(Bool.not_eq_true _).mp c, Bool.and_false, Bool.and_false]
      · rw [show decide (k < m + 1) = decide (k < m) from decide_eq_decide.mpr (by omega)]
def hz_fb (p : Nat → Bool) : Int64 := hz_fbk p 64
theorem hz_fb_bl (p : Nat → Bool) {k : Nat} (hk : k < 64) : hz_bl (hz_fb p) k = p k := by
  unfold hz_fb
  rw [hz_fbk_bl p k hk 64 (Nat.le_refl _), decide_eq_true hk, Bool.true_and]
/-- what was made so far: how many, and each as 64 * let + empty -/
abbrev hz_J : Type := Nat × (Nat → Nat)
def hj_in (L : hz_J) (c : Nat) : Bool := hz_any (fun i => decide (L.2 i = c)) L.1
def hj_add (L : hz_J) (c : Nat) : hz_J := if hj_in L c = true then L else (L.1 + 1, fun i => if i = L.1 then c else L.2 i)
def hj_v (c : Nat) : Prop := c < 4096 ∧ ∀ b, b < 6 → (c.testBit (b + 6) && c.testBit b) = false
def hj_ok (L : hz_J) : Prop := (∀ i, i < L.1 → hj_v (L.2 i)) ∧ ∀ i j, i < j → j < L.1 → L.2 i ≠ L.2 j
theorem hj_in_iff {L : hz_J} {c : Nat} : hj_in L c = true ↔ ∃ i, i < L.1 ∧ L.2 i = c := by
  unfold hj_in
  rw [hz_any_iff]
  constructor
  · intro ⟨i, hi, e⟩
    exact ⟨i, hi, of_decide_eq_true e⟩
  · intro ⟨i, hi, e⟩
    exact ⟨i, hi, decide_eq_true e⟩
theorem hj_add_y {L : hz_J} {c : Nat} (h : hj_in L c = true) : hj_add L c = L := if_pos h
theorem hj_add_n {L : hz_J} {c : Nat} (h : hj_in L c = false) : hj_add L c = (L.1 + 1, fun i => if i = L.1 then c else L.2 i) := if_neg (by rw [h]; decide)
theorem hj_add_in (L : hz_J) (c x : Nat) : hj_in (hj_add L c) x = (hj_in L x || decide (c = x)) := by
  cases h : hj_in L c with
  | true =>
    rw [hj_add_y h]
    by_cases e : c = x
    · rw [← e, h]; rfl
    · rw [decide_eq_false e, Bool.or_false]
  | false =>
    rw [hj_add_n h]
    apply Bool.eq_iff_iff.mpr
    rw [Bool.or_eq_true, hj_in_iff, hj_in_iff, decide_eq_true_iff]
    constructor
    · intro ⟨i, hi, e⟩
      have hi : i < L.1 + 1 := hi
      have e : (if i = L.1 then c else L.2 i) = x := e
      by_cases z : i = L.1
      · rw [if_pos z] at e
        exact Or.inr e
      · rw [if_neg z] at e
        exact Or.inl ⟨i, by omega, e⟩
    · intro z
      rcases z with ⟨i, hi, e⟩ | e
      · exact ⟨i, Nat.lt_succ_of_lt hi, (if_neg (by omega)).trans e⟩
      · exact ⟨L.1, Nat.lt_succ_self _, (if_pos rfl).trans e⟩
theorem hj_add_ok {L : hz_J} {c : Nat} (h : hj_ok L) (hc : hj_v c) : hj_ok (hj_add L c) := by
  cases e : hj_in L c with
  | true => rw [hj_add_y e]; exact h
  | false =>
    rw [hj_add_n e]
    refine ⟨fun i hi => ?_, fun i j hij hj => ?_⟩
    · have hi : i < L.1 + 1 := hi
      show hj_v (if i = L.1 then c else L.2 i)
      by_cases z : i = L.1
      · rw [if_pos z]; exact hc
      · rw [if_neg z]; exact h.1 i (by omega)
    · have hj : j < L.1 + 1 := hj
      show (if i = L.1 then c else L.2 i) ≠ (if j = L.1 then c else L.2 j)
      rw [if_neg (by omega : ¬ i = L.1)]
      by_cases z : j = L.1
      · rw [if_pos z]
        intro y
        rw [hj_in_iff.mpr ⟨i, by omega, y⟩] at e
        cases e
      · rw [if_neg z]
        exact h.2 i j hij (by omega)
def hz_c2 (p : Nat → Bool) : Nat → Nat
  | 0 => 0
  | n + 1 => hz_c2 p n + hz_cnt (fun e => p (64 * n + e)) 64
theorem hz_c2_is (p : Nat → Bool) : ∀ n, hz_cnt p (64 * n) = hz_c2 p n
  | 0 => rfl
  | n + 1 => by
    rw [show 64 * (n + 1) = 64 * n + 64 by omega, hz_cnt_add, hz_c2_is p n]
    rfl
def hj_vb (c : Nat) : Bool := hz_all (fun b => !(c.testBit (b + 6) && c.testBit b)) 6
theorem hj_729 : hz_c2 hj_vb 64 = 729 := by decide +kernel
theorem hz_cnt_mono {p q : Nat → Bool} : ∀ {n : Nat}, (∀ k, k < n → p k = true → q k = true) → hz_cnt p n ≤ hz_cnt q n
  | 0, _ => Nat.le_refl _
  | n + 1, h => by
    have ih := hz_cnt_mono (n := n) (fun k hk => h k (by omega))
    show hz_cnt p n + (if p n = true then 1 else 0) ≤ hz_cnt q n + (if q n = true then 1 else 0)
    by_cases c : p n = true
    · rw [if_pos c, if_pos (h n (by omega) c)]; omega
    · rw [if_neg c]; omega
theorem hj_cnt (f : Nat → Nat) : ∀ m, hj_ok (m, f) → hz_cnt (hj_in (m, f)) 4096 = m
  | 0, _ => hz_cnt_0 (fun k _ => rfl)
  | m + 1, h => by
    have ih := hj_cnt f m ⟨fun i hi => h.1 i (Nat.lt_succ_of_lt hi), fun i j hij hj => h.2 i j hij (Nat.lt_succ_of_lt hj)⟩
    have e : hz_cnt (hj_in (m + 1, f)) 4096 = hz_cnt (hj_in (m, f)) 4096 + hz_cnt (fun c => decide (c = f m)) 4096 := by
      refine hz_cnt_2 (fun k hk => ?_)
      have e1 : hj_in (m + 1, f) k = (hj_in (m, f) k || decide (f m = k)) := rfl
      rw [e1, show decide (f m = k) = decide (k = f m) from decide_eq_decide.mpr eq_comm]
      refine ⟨rfl, ts_nt (fun z => ?_)⟩
      rw [Bool.and_eq_true, hj_in_iff] at z
      obtain ⟨⟨i, hi, y⟩, z2⟩ := z
      exact h.2 i m hi (Nat.lt_succ_self m) (y.trans (of_decide_eq_true z2))
    rw [e, ih, hz_cnt_1, if_pos (h.1 m (Nat.lt_succ_self m)).1]
theorem hj_max {L : hz_J} (h : hj_ok L) : L.1 ≤ 729 := by
  obtain ⟨m, f⟩ := L
  have e := hj_cnt f m h
  have q : hz_cnt hj_vb 4096 = 729 := (hz_c2_is hj_vb 64).trans hj_729
  have le : hz_cnt (hj_in (m, f)) 4096 ≤ hz_cnt hj_vb 4096 := hz_cnt_mono (fun k hk z => by
    obtain ⟨i, hi, y⟩ := hj_in_iff.mp z
    have v := (h.1 i hi).2
    have y : f i = k := y
    refine hz_all_iff.mpr (fun b hb => ?_)
    have v := v b hb
    have v : ((f i).testBit (b + 6) && (f i).testBit b) = false := v
    rw [y] at v
    rw [v]
    rfl)
  show m ≤ 729
  omega
theorem hj_room {L : hz_J} {c : Nat} (h : hj_ok L) (hc : hj_v c) (e : hj_in L c = false) : L.1 < 729 := by
  have q := hj_max (hj_add_ok h hc)
  rw [hj_add_n e] at q
  exact q
/-- the two that are joined: the rooms that they contest, and what becomes of them -/
def hj_cn (A B : Nat) : Nat := (((A / 64) &&& B) ||| (A &&& (B / 64))) &&& 63
def hj_al (A B : Nat) : Nat := hz_dif (A ||| B) ((hj_cn A B * 64) ||| hj_cn A B)
def hj_jn (A B : Nat) (L : hz_J) : hz_J := if hj_cn A B ≠ 0 ∧ hj_cn A B &&& (hj_cn A B - 1) = 0 then hj_add L (hj_al A B) else L
theorem hj_cn_lt (A B : Nat) : hj_cn A B < 64 := Nat.lt_of_le_of_lt Nat.and_le_right (by decide)
theorem hj_d64 (A b : Nat) : (A / 64).testBit b = A.testBit (b + 6) := Nat.testBit_div_two_pow (n := 6) A b
theorem hj_cn_bit (A B : Nat) {b : Nat} (hb : b < 6) : (hj_cn A B).testBit b = ((A.testBit (b + 6) && B.testBit b) || (A.testBit b && B.testBit (b + 6))) := by
  unfold hj_cn
  have e : (63 : Nat).testBit b = true := (by decide : ∀ b, b < 6 → (63 : Nat).testBit b = true) b hb
  rw [Nat.testBit_and, e, Bool.and_true, Nat.testBit_or, Nat.testBit_and, Nat.testBit_and, hj_d64, hj_d64]
theorem hj_al_v {A B : Nat} (hA : hj_v A) (hB : hj_v B) : hj_v (hj_al A B) := by
  have c6 := hj_cn_lt A B
  refine ⟨hz_dif_lt _ (n := 12) (Nat.or_lt_two_pow (n := 12) hA.1 hB.1), fun b hb => ?_⟩
  have m1 : (hj_cn A B * 64).testBit b = false := by
    have e : (hj_cn A B * 2 ^ 6).testBit b = _ := Nat.testBit_mul_two_pow ..
    rw [show (64 : Nat) = 2 ^ 6 from rfl, e, decide_eq_false (by omega), Bool.false_and]
  have m2 : (hj_cn A B * 64).testBit (b + 6) = (hj_cn A B).testBit b := by
    have e : (hj_cn A B * 2 ^ 6).testBit (b + 6) = _ := Nat.testBit_mul_two_pow ..
    rw [show (64 : Nat) = 2 ^ 6 from rfl, e, decide_eq_true (by omega), Bool.true_and, show b + 6 - 6 = b by omega]
  have m3 : (hj_cn A B).testBit (b + 6) = false := hz_bit6 c6 (by omega)
  have a1 := hA.2 b hb
  have b1 := hB.2 b hb
  unfold hj_al
  rw [hz_dif_bit, hz_dif_bit, Nat.testBit_or, Nat.testBit_or, Nat.testBit_or, Nat.testBit_or, m1, m2, m3, hj_cn_bit A B hb]
  revert a1 b1
  cases A.testBit (b + 6) <;> cases A.testBit b <;> cases B.testBit (b + 6) <;> cases B.testBit b <;> decide
theorem hj_jn_ok {A B : Nat} {L : hz_J} (h : hj_ok L) (hA : hj_v A) (hB : hj_v B) : hj_ok (hj_jn A B L) := by
  unfold hj_jn
  split
  · exact hj_add_ok h (hj_al_v hA hB)
  · exact h
/-- what stays as it was made -/
def hj_pre (L L' : hz_J) : Prop := L.1 ≤ L'.1 ∧ ∀ i, i < L.1 → L'.2 i = L.2 i
theorem hj_pre_add (L : hz_J) (c : Nat) : hj_pre L (hj_add L c) := by
  unfold hj_add
  split
  · exact ⟨Nat.le_refl _, fun _ _ => rfl⟩
  · exact ⟨Nat.le_succ _, fun i hi => if_neg (by omega)⟩
theorem hj_pre.trans {a b c : hz_J} (h1 : hj_pre a b) (h2 : hj_pre b c) : hj_pre a c := ⟨Nat.le_trans h1.1 h2.1, fun i hi => (h2.2 i (Nat.lt_of_lt_of_le hi h1.1)).trans (h1.2 i hi)⟩
theorem hj_pre_jn (A B : Nat) (L : hz_J) : hj_pre L (hj_jn A B L) := by
  unfold hj_jn
  split
  · exact hj_pre_add _ _
  · exact ⟨Nat.le_refl _, fun _ _ => rfl⟩
/-- one made rule is joined with those before it -/
def hj_row (L : hz_J) (k : Nat) : Nat → hz_J
  | 0 => L
  | j + 1 => hj_jn (L.2 k) (L.2 j) (hj_row L k j)
theorem hj_pre_row (L : hz_J) (k : Nat) : ∀ j, hj_pre L (hj_row L k j)
  | 0 => ⟨Nat.le_refl _, fun _ _ => rfl⟩
  | j + 1 => (hj_pre_row L k j).trans (hj_pre_jn _ _ _)
theorem hj_row_ok {L : hz_J} (h : hj_ok L) {k : Nat} (hk : k < L.1) : ∀ j, j ≤ k → hj_ok (hj_row L k j)
  | 0, _ => h
  | j + 1, hj => hj_jn_ok (hj_row_ok h hk j (by omega)) (h.1 k hk) (h.1 j (by omega))
def hj_close : Nat → Nat → hz_J → hz_J
  | 0, _, L => L
  | f + 1, k, L => if k < L.1 then hj_close f (k + 1) (hj_row L k k) else L
def hj_code (st : hz_St) (k : Nat) : Nat := 64 * (st.2.1 k 0).toNatClampNeg + (st.2.1 k 1).toNatClampNeg
def hj_init (st : hz_St) (S : Nat) : Nat → hz_J
  | 0 => (0, fun _ => 0)
  | k + 1 => if S.testBit k = true then hj_add (hj_init st S k) (hj_code st k) else hj_init st S k
def hz_joined (st : hz_St) (S : Nat) : hz_J := hj_close 729 1 (hj_init st S st.1)
