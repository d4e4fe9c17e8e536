-- ===== a log, part by part =====
abbrev hr_Q : Type := Bool × Nat × (Nat → Int32)
def hl_S (b : Nat → Nat) (n j : Nat) (r : Nat → Int32) (K : (Nat → Int32) → hr_Q) : hr_Q := if j < n then (match hr_take r (b j) with
    | some r' => K r'
    | none => (false, j, r)) else (false, j, r)
def hl_sg (b : Nat → Nat) (n : Nat) : Nat → Nat → (Nat → Int32) → hr_Q
  | 0, j, r => (false, j, r)
  | f + 1, j, r => if j < n ∧ ¬ b j = 59 then (match hr_take r (b j) with
    | some r' => if r' 0 = 4 then hl_S b n (j + 1) r' (fun r2 => hl_sg b n f (j + 2) r2) else hl_sg b n f (j + 1) r'
    | none => (decide (r 0 = 3), j, r)) else (decide (r 0 = 3), j, r)
def hl_part (b : Nat → Nat) (n i : Nat) (r : Nat → Int32) : hr_Q := hl_S b n i r (fun r1 => if r1 0 = 1 then hl_S b n (i + 1) r1 (fun r2 => hl_sg b n (n + 1) (i + 2) r2) else if r1 0 = 7 then hl_S b n (i + 1) r1 (fun r2 => hl_S b n (i + 2) r2 (fun r3 => (true, i + 3, r3))) else hl_S b n (i + 1) r1 (fun r2 => (true, i + 2, r2)))
/-- what a whole part has told -/
def hr_done (r : Nat → Int32) : Prop := (r 1 = 114 ∧ (∃ p, 1 ≤ p ∧ p ≤ 9 ∧ r 2 = nI p) ∧ ∃ l e, l < 64 ∧ e < 64 ∧ r 5 = nI l ∧ r 6 = nI e ∧ l &&& e = 0 ∧ l ||| e ≠ 0) ∨ ((r 1 = 99 ∨ r 1 = 103) ∧ ∃ q, q < 6 ∧ r 4 = nI q) ∨ (r 1 = 110 ∧ ∃ p, 1 ≤ p ∧ p ≤ 9 ∧ r 2 = nI p) ∨ (r 1 = 118 ∧ (∃ p, p ≤ 9 ∧ r 2 = nI p) ∧ ∃ q, q ≤ 9 ∧ r 3 = nI q)
def hr_sgok (r : Nat → Int32) : Prop := ∃ l e, l < 64 ∧ e < 64 ∧ r 5 = nI l ∧ r 6 = nI e ∧ l &&& e = 0 ∧ ((r 0 = 2 ∧ l ||| e = 0) ∨ (r 0 = 3 ∧ l ||| e ≠ 0)) ∧ r 1 = 114 ∧ ∃ p, 1 ≤ p ∧ p ≤ 9 ∧ r 2 = nI p
def hl_good (b : Nat → Nat) (n j : Nat) (r : Nat → Int32) (Q : hr_Q) : Prop := j ≤ Q.2.1 ∧ Q.2.1 ≤ n ∧ hr_go b (n - j) j r = (if Q.1 = true then hr_go b (n - Q.2.1) Q.2.1 Q.2.2 else (Q.2.1, Q.2.2)) ∧ (Q.1 = true → (Q.2.2 0 = 9 ∨ Q.2.2 0 = 3) ∧ hr_done Q.2.2 ∧ (Q.2.1 < n → b Q.2.1 ≠ 59 → hr_take Q.2.2 (b Q.2.1) = none)) ∧ (Q.1 = false → Q.2.1 = n → hr_atEnd Q.2.2 = false)
theorem hr_go_s (b : Nat → Nat) (m i : Nat) (r : Nat → Int32) : hr_go b (m + 1) i r = (match hr_take r (b i) with
    | none => (i, r)
    | some r' => hr_go b m (i + 1) r') := rfl
theorem hl_go_n {b : Nat → Nat} {n j : Nat} {r : Nat → Int32} (hj : j < n) (e : hr_take r (b j) = none) : hr_go b (n - j) j r = (j, r) := by
  rw [show n - j = (n - (j + 1)) + 1 by omega, hr_go_s, e]
theorem hl_go_y {b : Nat → Nat} {n j : Nat} {r r' : Nat → Int32} (hj : j < n) (e : hr_take r (b j) = some r') : hr_go b (n - j) j r = hr_go b (n - (j + 1)) (j + 1) r' := by
  rw [show n - j = (n - (j + 1)) + 1 by omega, hr_go_s, e]
theorem hl_go_e {b : Nat → Nat} {n : Nat} {r : Nat → Int32} : hr_go b (n - n) n r = (n, r) := by
  rw [Nat.sub_self]
  rfl
theorem hl_good_no {b : Nat → Nat} {n j : Nat} {r : Nat → Int32} (hj : j ≤ n) (h : j < n → hr_take r (b j) = none) (ha : hr_atEnd r = false) : hl_good b n j r (false, j, r) := by
  refine ⟨Nat.le_refl _, hj, ?_, fun z => (by cases z), fun _ _ => ha⟩
  show hr_go b (n - j) j r = (j, r)
  by_cases c : j < n
  · exact hl_go_n c (h c)
  · have e : j = n := by omega
    rw [e]
    exact hl_go_e
theorem hl_good_next {b : Nat → Nat} {n j : Nat} {r r' : Nat → Int32} {Q : hr_Q} (hj : j < n) (e : hr_take r (b j) = some r') (h : hl_good b n (j + 1) r' Q) : hl_good b n j r Q := by
  obtain ⟨a1, a2, a3, a4⟩ := h
  exact ⟨by omega, a2, (hl_go_y hj e).trans a3, a4⟩
theorem hl_good_S {b : Nat → Nat} {n j : Nat} {r : Nat → Int32} {K : (Nat → Int32) → hr_Q} (hj : j ≤ n) (ha : hr_atEnd r = false) (h : ∀ r', j < n → hr_take r (b j) = some r' → hl_good b n (j + 1) r' (K r')) : hl_good b n j r (hl_S b n j r K) := by
  unfold hl_S
  by_cases c : j < n
  · rw [if_pos c]
    cases e : hr_take r (b j) with
    | none => exact hl_good_no hj (fun _ => e) ha
    | some r' => exact hl_good_next c e (h r' c e)
  · rw [if_neg c]
    exact hl_good_no hj (fun z => absurd z c) ha
theorem hl_good_end {b : Nat → Nat} {n j : Nat} {r : Nat → Int32} (hj : j ≤ n) (h0 : r 0 = 9 ∨ r 0 = 3) (hd : hr_done r) (ht : j < n → b j ≠ 59 → hr_take r (b j) = none) : hl_good b n j r (true, j, r) :=
  ⟨Nat.le_refl _, hj, rfl, fun _ => ⟨h0, hd, ht⟩, fun z => (by cases z)⟩
theorem hr_put_e (r : Nat → Int32) (s : Nat) (x : Int32) : hr_put r s x s = x := if_pos rfl
theorem hr_put_n (r : Nat → Int32) {s t : Nat} (x : Int32) (h : t ≠ s) : hr_put r s x t = r t := if_neg h
theorem hr_digit {c a : Nat} (hc : c ≤ 126) (ha : a ≤ 9) : (¬ nI c - 48 < nI a ∧ nI c - 48 ≤ 9) ↔ ∃ p, a ≤ p ∧ p ≤ 9 ∧ c = 48 + p := by
  by_cases l : 48 ≤ c
  · have e : nI c - 48 = nI (c - 48) := pk_sub l
    rw [e]
    constructor
    · intro ⟨h1, h2⟩
      refine ⟨c - 48, Nat.le_of_not_lt (fun z => h1 (nI_lt z (by omega))), (nI_leI (a := c - 48) (b := 9) (by omega) (by decide)).mp h2, by omega⟩
    · intro ⟨p, h1, h2, h3⟩
      exact ⟨nI_nlt (by omega) (by omega), nI_le (b := 9) (by omega) (by decide)⟩
  · have n0 : nI c - 48 < 0 := pk_sneg (b := 48) (by decide) (by omega)
    constructor
    · intro ⟨h1, _⟩
      exact absurd (Int32.lt_of_lt_of_le n0 (nI_pos' (n := a) (by omega))) h1
    · intro ⟨p, _, _, h⟩
      omega
theorem hr_digit_v {c p : Nat} (h : c = 48 + p) : nI c - 48 = nI p := by
  have e : nI c - nI 48 = nI (c - 48) := pk_sub (by omega)
  rw [show c - 48 = p by omega] at e
  exact e
theorem hr_room_is {c : Nat} : hr_room c = true ↔ ∃ q, q < 6 ∧ c = 97 + q := by
  unfold hr_room
  rw [Bool.and_eq_true, decide_eq_true_iff, decide_eq_true_iff]
  constructor
  · intro ⟨h1, h2⟩
    exact ⟨c - 97, by omega, by omega⟩
  · intro ⟨q, h1, h2⟩
    omega
theorem hr_room_v {c q : Nat} (h : c = 97 + q) : nI c - 97 = nI q := by
  have e : nI c - nI 97 = nI (c - 97) := pk_sub (by omega)
  rw [show c - 97 = q by omega] at e
  exact e
theorem hr_un_is {r : Nat → Int32} {l e c : Nat} (hl : l < 64) (he : e < 64) (h5 : r 5 = nI l) (h6 : r 6 = nI e) : hr_un r c = true ↔ ∃ q, q < 6 ∧ c = 97 + q ∧ (l ||| e).testBit q = false := by
  unfold hr_un
  rw [Bool.and_eq_true, hr_room_is, decide_eq_true_iff, h5, h6, hz_orN]
  have lo : l ||| e < 2 ^ 6 := Nat.or_lt_two_pow hl he
  constructor
  · intro ⟨⟨q, h1, h2⟩, h3⟩
    refine ⟨q, h1, h2, ?_⟩
    rw [hr_room_v h2] at h3
    exact ts_nt (fun z => hz_bitn (by omega) (by omega) z h3)
  · intro ⟨q, h1, h2, h3⟩
    refine ⟨⟨q, h1, h2⟩, ?_⟩
    rw [hr_room_v h2]
    exact hz_bit0 (by omega) (by omega) h3
theorem hr_or6 : ∀ q, q < 6 → ∀ l, l < 64 → l ||| 2 ^ q < 64 ∧ l ||| 2 ^ q ≠ 0 := by decide +kernel
theorem hz_or_z {x y : Nat} (h : x ||| y = 0) : x = 0 := by
  apply Nat.eq_of_testBit_eq
  intro i
  have q : (x ||| y).testBit i = false := by rw [h, Nat.zero_testBit]
  rw [Nat.testBit_or] at q
  rw [Nat.zero_testBit]
  revert q
  cases x.testBit i <;> simp
/-- a sign read: what is named -/
theorem hr_sg_let {r : Nat → Int32} (h : hr_sgok r) {c : Nat} (hu : hr_un r c = true) : hr_sgok (hr_put (hr_put r 5 (r 5 ||| ((1 : Int32) <<< ((nI c - 97) &&& 31)))) 0 3) := by
  obtain ⟨l, e, hl, he, h5, h6, hle, -, h1, p, p1, p9, hp⟩ := h
  obtain ⟨q, hq, hc, hn⟩ := (hr_un_is hl he h5 h6).mp hu
  obtain ⟨o1, o2⟩ := hr_or6 q hq l hl
  refine ⟨l ||| 2 ^ q, e, o1, he, ?_, ?_, ?_, Or.inr ⟨hr_put_e _ _ _, ?_⟩, ?_, p, p1, p9, ?_⟩
  · rw [hr_put_n _ _ (by decide), hr_put_e, hr_room_v hc, h5, hz_pw (by omega), hz_orN]
  · rw [hr_put_n _ _ (by decide), hr_put_n _ _ (by decide)]
    exact h6
  · rw [hz_and0 _ o1]
    intro i hi
    have z := (hz_and0 _ hl).mp hle i hi
    rw [Nat.testBit_or, Nat.testBit_two_pow]
    rw [Nat.testBit_or] at hn
    by_cases w : q = i
    · subst w
      revert hn
      cases l.testBit q <;> cases e.testBit q <;> simp
    · rw [decide_eq_false w, Bool.or_false]
      exact z
  · exact fun z => o2 (hz_or_z z)
  · rw [hr_put_n _ _ (by decide), hr_put_n _ _ (by decide)]
    exact h1
  · rw [hr_put_n _ _ (by decide), hr_put_n _ _ (by decide)]
    exact hp
theorem hr_sg_emp {r : Nat → Int32} (h : hr_sgok r) {c : Nat} (hu : hr_un (hr_put r 0 4) c = true) : hr_sgok (hr_put (hr_put (hr_put r 0 4) 6 ((hr_put r 0 4) 6 ||| ((1 : Int32) <<< ((nI c - 97) &&& 31)))) 0 3) := by
  obtain ⟨l, e, hl, he, h5, h6, hle, -, h1, p, p1, p9, hp⟩ := h
  have h5' : (hr_put r 0 4) 5 = nI l := (hr_put_n _ _ (by decide)).trans h5
  have h6' : (hr_put r 0 4) 6 = nI e := (hr_put_n _ _ (by decide)).trans h6
  obtain ⟨q, hq, hc, hn⟩ := (hr_un_is hl he h5' h6').mp hu
  obtain ⟨o1, o2⟩ := hr_or6 q hq e he
  refine ⟨l, e ||| 2 ^ q, hl, o1, ?_, ?_, ?_, Or.inr ⟨hr_put_e _ _ _, ?_⟩, ?_, p, p1, p9, ?_⟩
  · rw [hr_put_n _ _ (by decide), hr_put_n _ _ (by decide)]
    exact h5'
  · rw [hr_put_n _ _ (by decide), hr_put_e, hr_room_v hc, h6', hz_pw (by omega), hz_orN]
  · rw [hz_and0 _ hl]
    intro i hi
    have z := (hz_and0 _ hl).mp hle i hi
    rw [Nat.testBit_or, Nat.testBit_two_pow]
    rw [Nat.testBit_or] at hn
    by_cases w : q = i
    · subst w
      revert hn
      cases l.testBit q <;> cases e.testBit q <;> simp
    · rw [decide_eq_false w, Bool.or_false]
      exact z
  · intro z
    rw [Nat.or_comm] at z
    exact o2 (hz_or_z z)
  · rw [hr_put_n _ _ (by decide), hr_put_n _ _ (by decide), hr_put_n _ _ (by decide)]
    exact h1
  · rw [hr_put_n _ _ (by decide), hr_put_n _ _ (by decide), hr_put_n _ _ (by decide)]
    exact hp
theorem hr_take_0 {r : Nat → Int32} (c : Nat) (h : r 0 = 0) : hr_take r c = hr_kind r c := by
  unfold hr_take
  rw [h]
  rfl
theorem hr_take_1 {r : Nat → Int32} (c : Nat) (h : r 0 = 1) : hr_take r c = hr_num r c 1 2 := by
  unfold hr_take
  rw [h]
  rfl
theorem hr_take_2 {r : Nat → Int32} (c : Nat) (h : r 0 = 2) : hr_take r c = hr_sign r c := by
  unfold hr_take
  rw [h]
  rfl
theorem hr_take_3 {r : Nat → Int32} (c : Nat) (h : r 0 = 3) : hr_take r c = if (hr_end r c).isSome = true then hr_end r c else hr_sign r c := by
  unfold hr_take
  rw [h]
  rfl
theorem hr_take_4 {r : Nat → Int32} (c : Nat) (h : r 0 = 4) : hr_take r c = hr_emp r c := by
  unfold hr_take
  rw [h]
  rfl
theorem hr_take_5 {r : Nat → Int32} (c : Nat) (h : r 0 = 5) : hr_take r c = hr_rm r c := by
  unfold hr_take
  rw [h]
  rfl
theorem hr_take_6 {r : Nat → Int32} (c : Nat) (h : r 0 = 6) : hr_take r c = hr_num r c 1 9 := by
  unfold hr_take
  rw [h]
  rfl
theorem hr_take_7 {r : Nat → Int32} (c : Nat) (h : r 0 = 7) : hr_take r c = hr_num r c 0 8 := by
  unfold hr_take
  rw [h]
  rfl
theorem hr_take_8 {r : Nat → Int32} (c : Nat) (h : r 0 = 8) : hr_take r c = hr_days r c := by
  unfold hr_take
  rw [h]
  rfl
theorem hr_take_9 {r : Nat → Int32} (c : Nat) (h : r 0 = 9) : hr_take r c = hr_end r c := by
  unfold hr_take
  rw [h]
  rfl
theorem hr_end_n (r : Nat → Int32) {c : Nat} (h : c ≠ 59) : hr_end r c = none := if_neg h
theorem hr_sg_0 {r : Nat → Int32} (h : hr_sgok r) : r 0 = 2 ∨ r 0 = 3 := by
  obtain ⟨l, e, _, _, _, _, _, h0, _⟩ := h
  rcases h0 with h0 | h0
  · exact Or.inl h0.1
  · exact Or.inr h0.1
theorem hr_sg_take {r : Nat → Int32} (h : hr_sgok r) {c : Nat} (hc : c ≠ 59) : hr_take r c = hr_sign r c := by
  rcases hr_sg_0 h with h0 | h0
  · exact hr_take_2 c h0
  · rw [hr_take_3 c h0, hr_end_n r hc]
    rfl
theorem hr_sg_59 {r : Nat → Int32} (h0 : r 0 = 2) : hr_take r 59 = none := by
  rw [hr_take_2 59 h0]
  unfold hr_sign
  rw [if_neg (fun z => by omega), if_neg]
  intro z
  unfold hr_un at z
  rw [Bool.and_eq_true] at z
  exact absurd z.1 (by decide)
theorem hr_sg_done {r : Nat → Int32} (h : hr_sgok r) (h3 : r 0 = 3) : hr_done r := by
  obtain ⟨l, e, hl, he, h5, h6, hle, h0, h1, p⟩ := h
  rcases h0 with h0 | h0
  · rw [h0.1] at h3
    exact absurd h3 (by decide)
  · exact Or.inl ⟨h1, p, l, e, hl, he, h5, h6, hle, h0.2⟩
theorem hr_ae {r : Nat → Int32} {v : Int32} (h : r 0 = v) (h9 : ¬ v = 9) (h3 : ¬ v = 3) : hr_atEnd r = false := by
  unfold hr_atEnd
  rw [h, decide_eq_false h9, decide_eq_false h3]
  rfl
theorem hl_sg_stop {b : Nat → Nat} {n j : Nat} {r : Nat → Int32} (hj : j ≤ n) (h : hr_sgok r) (ht : j < n → b j ≠ 59 → hr_take r (b j) = none) : hl_good b n j r (decide (r 0 = 3), j, r) := by
  rcases hr_sg_0 h with h0 | h0
  · rw [show decide (r 0 = 3) = false from decide_eq_false (by rw [h0]; decide)]
    refine hl_good_no hj (fun z => ?_) (hr_ae h0 (by decide) (by decide))
    by_cases c : b j = 59
    · rw [c]
      exact hr_sg_59 h0
    · exact ht z c
  · rw [show decide (r 0 = 3) = true from decide_eq_true h0]
    exact hl_good_end hj (Or.inr h0) (hr_sg_done h h0) ht
theorem hl_sg_is {b : Nat → Nat} {n : Nat} : ∀ f j r, n - j < f → j ≤ n → hr_sgok r → hl_good b n j r (hl_sg b n f j r) := by
  intro f
  induction f with
  | zero => intro j r hf; exact absurd hf (Nat.not_lt_zero _)
  | succ f ih =>
    intro j r hf hj h
    unfold hl_sg
    by_cases c : j < n ∧ ¬ b j = 59
    · rw [if_pos c]
      cases e : hr_take r (b j) with
      | none => exact hl_sg_stop hj h (fun _ _ => e)
      | some r' =>
        have e2 := e
        rw [hr_sg_take h c.2] at e2
        unfold hr_sign at e2
        show hl_good b n j r (if r' 0 = 4 then hl_S b n (j + 1) r' (fun r2 => hl_sg b n f (j + 2) r2) else hl_sg b n f (j + 1) r')
        by_cases c3 : b j = 33 ∧ ¬ (r 5 ||| r 6) = 63
        · rw [if_pos c3] at e2
          have e3 : hr_put r 0 4 = r' := Option.some.inj e2
          subst e3
          rw [if_pos (hr_put_e r 0 4)]
          refine hl_good_next c.1 e (hl_good_S (by omega) (hr_ae (hr_put_e r 0 4) (by decide) (by decide)) (fun r2 h2 e4 => ?_))
          rw [hr_take_4 _ (hr_put_e r 0 4)] at e4
          unfold hr_emp at e4
          by_cases u : hr_un (hr_put r 0 4) (b (j + 1)) = true
          · rw [if_pos u] at e4
            have e5 := Option.some.inj e4
            rw [← e5]
            exact ih (j + 2) _ (by omega) (by omega) (hr_sg_emp h u)
          · rw [if_neg u] at e4
            cases e4
        · rw [if_neg c3] at e2
          by_cases u : hr_un r (b j) = true
          · rw [if_pos u] at e2
            have e3 := Option.some.inj e2
            have s := hr_sg_let h u
            rw [e3] at s
            rw [if_neg (fun z => by
              have e0 : r' 0 = 3 := by rw [← e3]; exact hr_put_e _ _ _
              rw [e0] at z
              exact absurd z (by decide))]
            exact hl_good_next c.1 e (ih (j + 1) _ (by omega) (by omega) s)
          · rw [if_neg u] at e2
            cases e2
    · rw [if_neg c]
      exact hl_sg_stop hj h (fun z1 z2 => absurd ⟨z1, z2⟩ c)
theorem hr_kind_is {r r1 : Nat → Int32} {c : Nat} (h : hr_kind r c = some r1) : r1 5 = 0 ∧ r1 6 = 0 ∧ r1 1 = nI c ∧ ((c = 114 ∧ r1 0 = 1) ∨ ((c = 99 ∨ c = 103) ∧ r1 0 = 5) ∨ (c = 110 ∧ r1 0 = 6) ∨ (c = 118 ∧ r1 0 = 7)) := by
  unfold hr_kind at h
  by_cases z : hr_bh c = 0
  · rw [if_pos z] at h
    cases h
  · rw [if_neg z] at h
    have e := Option.some.inj h
    have e0 : r1 0 = hr_bh c := by rw [← e]; exact hr_put_e _ _ _
    refine ⟨?_, ?_, ?_, ?_⟩
    · rw [← e, hr_put_n _ _ (by decide), hr_put_n _ _ (by decide), hr_put_e]
    · rw [← e, hr_put_n _ _ (by decide), hr_put_e]
    · rw [← e, hr_put_n _ _ (by decide), hr_put_n _ _ (by decide), hr_put_n _ _ (by decide), hr_put_e]
    · rw [e0]
      unfold hr_bh at z ⊢
      by_cases c1 : c = 99
      · rw [if_pos c1]; exact Or.inr (Or.inl ⟨Or.inl c1, rfl⟩)
      · rw [if_neg c1] at z ⊢
        by_cases c2 : c = 103
        · rw [if_pos c2]; exact Or.inr (Or.inl ⟨Or.inr c2, rfl⟩)
        · rw [if_neg c2] at z ⊢
          by_cases c3 : c = 110
          · rw [if_pos c3]; exact Or.inr (Or.inr (Or.inl ⟨c3, rfl⟩))
          · rw [if_neg c3] at z ⊢
            by_cases c4 : c = 114
            · rw [if_pos c4]; exact Or.inl ⟨c4, rfl⟩
            · rw [if_neg c4] at z ⊢
              by_cases c5 : c = 118
              · rw [if_pos c5]; exact Or.inr (Or.inr (Or.inr ⟨c5, rfl⟩))
              · rw [if_neg c5] at z
                exact absurd rfl z
theorem hr_num_is {r r2 : Nat → Int32} {c : Nat} {least next : Int32} {a : Nat} (hc : c ≤ 126) (ha : a ≤ 9) (hl : least = nI a) (h : hr_num r c least next = some r2) : ∃ p, a ≤ p ∧ p ≤ 9 ∧ c = 48 + p ∧ r2 = hr_put (hr_put r 2 (nI p)) 0 next := by
  unfold hr_num at h
  rw [hl] at h
  by_cases z : ¬ nI c - 48 < nI a ∧ nI c - 48 ≤ 9
  · rw [if_pos z] at h
    obtain ⟨p, h1, h2, h3⟩ := (hr_digit hc ha).mp z
    have e := Option.some.inj h
    rw [hr_digit_v h3] at e
    exact ⟨p, h1, h2, h3, e.symm⟩
  · rw [if_neg z] at h
    cases h
theorem hr_days_is {r r2 : Nat → Int32} {c : Nat} (hc : c ≤ 126) (h : hr_days r c = some r2) : ∃ p, p ≤ 9 ∧ c = 48 + p ∧ r2 = hr_put (hr_put r 3 (nI p)) 0 9 := by
  unfold hr_days at h
  by_cases z : ¬ nI c - 48 < 0 ∧ nI c - 48 ≤ 9
  · rw [if_pos z] at h
    obtain ⟨p, h1, h2, h3⟩ := (hr_digit (a := 0) hc (by decide)).mp z
    have e := Option.some.inj h
    rw [hr_digit_v h3] at e
    exact ⟨p, h2, h3, e.symm⟩
  · rw [if_neg z] at h
    cases h
theorem hr_rm_is {r r2 : Nat → Int32} {c : Nat} (h : hr_rm r c = some r2) : ∃ q, q < 6 ∧ c = 97 + q ∧ r2 = hr_put (hr_put r 4 (nI q)) 0 9 := by
  unfold hr_rm at h
  by_cases z : hr_room c = true
  · rw [if_pos z] at h
    obtain ⟨q, h1, h2⟩ := hr_room_is.mp z
    have e := Option.some.inj h
    rw [hr_room_v h2] at e
    exact ⟨q, h1, h2, e.symm⟩
  · rw [if_neg z] at h
    cases h
theorem hr_end9 {r : Nat → Int32} (h : r 0 = 9) {b : Nat → Nat} {n j : Nat} : j < n → b j ≠ 59 → hr_take r (b j) = none := fun _ z => by rw [hr_take_9 _ h, hr_end_n _ z]
theorem hl_part_is {b : Nat → Nat} {n : Nat} (hb : ∀ i, i < n → b i ≤ 126) {i : Nat} (hi : i ≤ n) {r : Nat → Int32} (h0 : r 0 = 0) : hl_good b n i r (hl_part b n i r) := by
  unfold hl_part
  refine hl_good_S hi (hr_ae h0 (by decide) (by decide)) (fun r1 l1 e1 => ?_)
  rw [hr_take_0 _ h0] at e1
  obtain ⟨k5, k6, k1, k0⟩ := hr_kind_is e1
  rcases k0 with ⟨c, k0⟩ | ⟨c, k0⟩ | ⟨c, k0⟩ | ⟨c, k0⟩
  · rw [if_pos k0]
    refine hl_good_S (by omega) (hr_ae k0 (by decide) (by decide)) (fun r2 l2 e2 => ?_)
    rw [hr_take_1 _ k0] at e2
    obtain ⟨p, p1, p9, -, e⟩ := hr_num_is (a := 1) (hb _ l2) (by decide) rfl e2
    refine hl_sg_is (n + 1) (i + 2) r2 (by omega) (by omega) ⟨0, 0, by decide, by decide, ?_, ?_, rfl, Or.inl ⟨?_, rfl⟩, ?_, p, p1, p9, ?_⟩
    · rw [e, hr_put_n _ _ (by decide), hr_put_n _ _ (by decide)]
      exact k5
    · rw [e, hr_put_n _ _ (by decide), hr_put_n _ _ (by decide)]
      exact k6
    · rw [e, hr_put_e]
    · rw [e, hr_put_n _ _ (by decide), hr_put_n _ _ (by decide), k1, c]
      rfl
    · rw [e, hr_put_n _ _ (by decide), hr_put_e]
  · rw [if_neg (by rw [k0]; decide), if_neg (by rw [k0]; decide)]
    refine hl_good_S (by omega) (hr_ae k0 (by decide) (by decide)) (fun r2 l2 e2 => ?_)
    rw [hr_take_5 _ k0] at e2
    obtain ⟨q, q6, -, e⟩ := hr_rm_is e2
    have e0 : r2 0 = 9 := by rw [e, hr_put_e]
    refine hl_good_end (by omega) (Or.inl e0) (Or.inr (Or.inl ⟨?_, q, q6, ?_⟩)) (hr_end9 e0)
    · rw [e, hr_put_n _ _ (by decide), hr_put_n _ _ (by decide), k1]
      rcases c with c | c
      · rw [c]; exact Or.inl rfl
      · rw [c]; exact Or.inr rfl
    · rw [e, hr_put_n _ _ (by decide), hr_put_e]
  · rw [if_neg (by rw [k0]; decide), if_neg (by rw [k0]; decide)]
    refine hl_good_S (by omega) (hr_ae k0 (by decide) (by decide)) (fun r2 l2 e2 => ?_)
    rw [hr_take_6 _ k0] at e2
    obtain ⟨p, p1, p9, -, e⟩ := hr_num_is (a := 1) (hb _ l2) (by decide) rfl e2
    have e0 : r2 0 = 9 := by rw [e, hr_put_e]
    refine hl_good_end (by omega) (Or.inl e0) (Or.inr (Or.inr (Or.inl ⟨?_, p, p1, p9, ?_⟩))) (hr_end9 e0)
    · rw [e, hr_put_n _ _ (by decide), hr_put_n _ _ (by decide), k1, c]
      rfl
    · rw [e, hr_put_n _ _ (by decide), hr_put_e]
  · rw [if_neg (by rw [k0]; decide), if_pos k0]
    refine hl_good_S (by omega) (hr_ae k0 (by decide) (by decide)) (fun r2 l2 e2 => ?_)
    rw [hr_take_7 _ k0] at e2
    obtain ⟨p, p1, p9, -, e⟩ := hr_num_is (a := 0) (hb _ l2) (by decide) rfl e2
    have e8 : r2 0 = 8 := by rw [e, hr_put_e]
    refine hl_good_S (by omega) (hr_ae e8 (by decide) (by decide)) (fun r3 l3 e3 => ?_)
    rw [hr_take_8 _ e8] at e3
    obtain ⟨q, q9, -, e'⟩ := hr_days_is (hb _ l3) e3
    have e0 : r3 0 = 9 := by rw [e', hr_put_e]
    refine hl_good_end (by omega) (Or.inl e0) (Or.inr (Or.inr (Or.inr ⟨?_, ⟨p, p9, ?_⟩, q, q9, ?_⟩))) (hr_end9 e0)
    · rw [e', hr_put_n _ _ (by decide), hr_put_n _ _ (by decide), e, hr_put_n _ _ (by decide), hr_put_n _ _ (by decide), k1, c]
      rfl
    · rw [e', hr_put_n _ _ (by decide), hr_put_n _ _ (by decide), e, hr_put_n _ _ (by decide), hr_put_e]
    · rw [e', hr_put_n _ _ (by decide), hr_put_e]
theorem hl_part_lt {b : Nat → Nat} {n : Nat} (hb : ∀ i, i < n → b i ≤ 126) {i : Nat} (hi : i ≤ n) {r : Nat → Int32} (h0 : r 0 = 0) (ok : (hl_part b n i r).1 = true) : i < n ∧ i < (hl_part b n i r).2.1 := by
  have G := hl_part_is hb hi h0
  have l : i < n := by
    by_cases z : i < n
    · exact z
    · unfold hl_part hl_S at ok
      rw [if_neg z] at ok
      cases ok
  refine ⟨l, ?_⟩
  by_cases e : (hl_part b n i r).2.1 = i
  · have d := (G.2.2.2.1 ok)
    have g := G.2.2.1
    rw [ok, if_pos rfl, e] at g
    cases t : hr_take r (b i) with
    | none =>
      unfold hl_part hl_S at ok
      rw [if_pos l, t] at ok
      cases ok
    | some r1 =>
      exfalso
      have t0 := t
      rw [hr_take_0 _ h0] at t0
      obtain ⟨-, -, -, k0⟩ := hr_kind_is t0
      have q : hl_good b n (i + 1) r1 (hl_part b n i r) := by
        have u : hl_part b n i r = (if r1 0 = 1 then hl_S b n (i + 1) r1 (fun r2 => hl_sg b n (n + 1) (i + 2) r2) else if r1 0 = 7 then hl_S b n (i + 1) r1 (fun r2 => hl_S b n (i + 2) r2 (fun r3 => (true, i + 3, r3))) else hl_S b n (i + 1) r1 (fun r2 => (true, i + 2, r2))) := by
          show hl_S b n i r _ = _
          unfold hl_S
          rw [if_pos l, t]
        have G' := G
        obtain ⟨g1, g2, g3, g4⟩ := G
        refine ⟨?_, g2, (hl_go_y l t).symm.trans g3, g4⟩
        rw [u]
        have low : ∀ (r' : Nat → Int32) (j : Nat) (K : (Nat → Int32) → hr_Q), (∀ r2, j ≤ (K r2).2.1) → j ≤ (hl_S b n j r' K).2.1 := by
          intro r' j K hK
          unfold hl_S
          split
          · split
            · exact hK _
            · exact Nat.le_refl _
          · exact Nat.le_refl _
        have lsg : ∀ f j r', j ≤ (hl_sg b n f j r').2.1 := by
          intro f
          induction f with
          | zero => intro j r'; exact Nat.le_refl _
          | succ f ih =>
            intro j r'
            unfold hl_sg
            split
            · split
              · split
                · exact Nat.le_trans (Nat.le_succ j) (low _ _ _ (fun r2 => Nat.le_trans (Nat.le_succ _) (ih (j + 2) r2)))
                · exact Nat.le_trans (Nat.le_succ j) (ih (j + 1) _)
              · exact Nat.le_refl _
            · exact Nat.le_refl _
        split
        · exact low _ _ _ (fun r2 => Nat.le_trans (Nat.le_succ _) (lsg _ (i + 2) r2))
        · split
          · exact low _ _ _ (fun r2 => Nat.le_trans (Nat.le_succ _) (low _ _ _ (fun r3 => show i + 2 ≤ i + 3 by omega)))
          · exact low _ _ _ (fun r2 => show i + 1 ≤ i + 2 by omega)
      have := q.1
      omega
  · have := G.1
    omega
