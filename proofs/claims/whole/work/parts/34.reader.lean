-- ===== the class's reader: one character =====
def hr_put (r : Nat → Int32) (s : Nat) (x : Int32) : Nat → Int32 := fun s' => if s' = s then x else r s'
def hw_rd (h : hq_H) (r : Nat → Int32) : hq_H := (fun k i s => if k = 7 ∧ i = 0 ∧ s < 7 then r s else h.1 k i s, h.2)
theorem hw_rd_g (h : hq_H) (r : Nat → Int32) {s : Nat} (hs : s < 7) : (hw_rd h r).1 7 0 s = r s := by
  show (if (7 : Nat) = 7 ∧ (0 : Nat) = 0 ∧ s < 7 then r s else h.1 7 0 s) = _
  rw [if_pos ⟨rfl, rfl, hs⟩]
theorem hw_rd_0 (h : hq_H) : hw_rd h (h.1 7 0) = h := by
  refine hq_ext (fun k i s => ?_) (fun _ _ _ => rfl)
  show (if k = 7 ∧ i = 0 ∧ s < 7 then h.1 7 0 s else h.1 k i s) = h.1 k i s
  by_cases c : k = 7 ∧ i = 0 ∧ s < 7
  · rw [if_pos c, c.1, c.2.1]
  · rw [if_neg c]
theorem hw_rd_p (h : hq_H) (r : Nat → Int32) {s : Nat} (x : Int32) (hs : s < 7) : hq_si (hw_rd h r) 7 0 s x = hw_rd h (hr_put r s x) := by
  refine hq_ext (fun k i s' => ?_) (fun _ _ _ => rfl)
  rw [hq_si_at]
  show (if k = 7 ∧ s' = s ∧ i = 0 then x else if k = 7 ∧ i = 0 ∧ s' < 7 then r s' else h.1 k i s') = if k = 7 ∧ i = 0 ∧ s' < 7 then (if s' = s then x else r s') else h.1 k i s'
  by_cases c : k = 7 ∧ i = 0
  · by_cases e : s' = s
    · rw [if_pos ⟨c.1, e, c.2⟩, if_pos ⟨c.1, c.2, by omega⟩, if_pos e]
    · rw [if_neg (fun z => e z.2.1), if_neg e]
  · rw [if_neg (fun z => c ⟨z.1, z.2.2⟩), if_neg (fun z => c ⟨z.1, z.2.1⟩), if_neg (fun z => c ⟨z.1, z.2.1⟩)]
def hr_room (c : Nat) : Bool := decide (97 ≤ c) && decide (c < 103)
def hr_un (r : Nat → Int32) (c : Nat) : Bool := hr_room c && decide (((r 5 ||| r 6) >>> ((nI c - 97) &&& 31)) &&& 1 = 0)
abbrev hr_O : Type := Option (Nat → Int32)
def hr_emp (r : Nat → Int32) (c : Nat) : hr_O := if hr_un r c = true then some (hr_put (hr_put r 6 (r 6 ||| ((1 : Int32) <<< ((nI c - 97) &&& 31)))) 0 3) else none
def hr_sign (r : Nat → Int32) (c : Nat) : hr_O := if c = 33 ∧ ¬ (r 5 ||| r 6) = 63 then some (hr_put r 0 4) else if hr_un r c = true then some (hr_put (hr_put r 5 (r 5 ||| ((1 : Int32) <<< ((nI c - 97) &&& 31)))) 0 3) else none
def hr_end (r : Nat → Int32) (c : Nat) : hr_O := if c = 59 then some (hr_put r 0 0) else none
def hr_num (r : Nat → Int32) (c : Nat) (least next : Int32) : hr_O := if ¬ nI c - 48 < least ∧ nI c - 48 ≤ 9 then some (hr_put (hr_put r 2 (nI c - 48)) 0 next) else none
def hr_days (r : Nat → Int32) (c : Nat) : hr_O := if ¬ nI c - 48 < 0 ∧ nI c - 48 ≤ 9 then some (hr_put (hr_put r 3 (nI c - 48)) 0 9) else none
def hr_rm (r : Nat → Int32) (c : Nat) : hr_O := if hr_room c = true then some (hr_put (hr_put r 4 (nI c - 97)) 0 9) else none
def hr_bh (c : Nat) : Int32 := if c = 99 then 5 else if c = 103 then 5 else if c = 110 then 6 else if c = 114 then 1 else if c = 118 then 7 else 0
def hr_kind (r : Nat → Int32) (c : Nat) : hr_O := if hr_bh c = 0 then none else some (hr_put (hr_put (hr_put (hr_put r 1 (nI c)) 5 0) 6 0) 0 (hr_bh c))
def hr_y (o : hr_O) : hq_R := hz_o (hz_b o.isSome)
def hr_s (r : Nat → Int32) (o : hr_O) : Nat → Int32 := o.getD r
theorem x_isRoom (d c : Nat) (h : hq_H) (hc : c ≤ 126) : hq_Met (d + 1) MX2_isRoom [hz_i (nI c)] h (hz_o (hz_b (hr_room c))) h := by
  refine inX2_isRoom d (nI c) h _ _ (fun _ => trivial) (fun J b0 => b0 _ _ _ ?_)
  unfold hr_room
  by_cases c1 : 97 ≤ c
  · refine hq_bf (hz_nlt (a := c) (b := 97) rfl rfl c1 (by omega)) ?_
    by_cases c2 : c < 103
    · exact hq_bf (hz_nle (a := 103) (b := c) rfl rfl c2 (by omega)) ⟨Or.inr rfl, hz_rb (by rw [decide_eq_true c1, decide_eq_true c2]; rfl), rfl⟩
    · exact hq_bt (hz_le (a := 103) (b := c) rfl rfl (by omega) (by omega)) ⟨Or.inl rfl, hz_rf (by rw [decide_eq_false c2, Bool.and_false]), rfl⟩
  · exact hq_bt (hz_lt (a := c) (b := 97) rfl rfl (by omega) (by omega)) ⟨Or.inl rfl, hz_rf (by rw [decide_eq_false c1]; rfl), rfl⟩
theorem x_un (d c : Nat) (h : hq_H) (r : Nat → Int32) (hc : c ≤ 126) : hq_Met (d + 2) MX2_isUnnamedRoom [.inr (7, 0), hz_i (nI c)] (hw_rd h r) (hz_o (hz_b (hr_un r c))) (hw_rd h r) := by
  have g5 := hw_rd_g h r (s := 5) (by decide)
  have g6 := hw_rd_g h r (s := 6) (by decide)
  refine inX2_isUnnamedRoom (d + 1) 0 (nI c) (hw_rd h r) _ _ (fun _ => trivial) (fun J b0 => b0 _ _ _ ?_)
  refine ⟨_, _, x_isRoom d c _ hc, ?_⟩
  unfold hr_un
  cases c1 : hr_room c with
  | false => exact hq_bt rfl ⟨Or.inl rfl, hz_rf (b := false && _) rfl, rfl⟩
  | true =>
    refine hq_bf (by decide) ?_
    rw [← g5, ← g6]
    refine hq_nc (fun c2 => ?_) (fun c2 => ?_)
    · exact ⟨Or.inl rfl, hz_rf (b := true && decide _) (decide_eq_false c2), rfl⟩
    · exact ⟨Or.inr rfl, hz_rb (b := true && decide _) (decide_eq_true c2), rfl⟩
theorem x_tEnd (d c : Nat) (h : hq_H) (r : Nat → Int32) (hc : c ≤ 126) : hq_Met (d + 1) MX2_takeEnd [.inr (7, 0), hz_i (nI c)] (hw_rd h r) (hr_y (hr_end r c)) (hw_rd h (hr_s r (hr_end r c))) := by
  refine inX2_takeEnd d 0 (nI c) (hw_rd h r) _ _ (fun _ => trivial) (fun J b0 => b0 _ _ _ ?_)
  unfold hr_end
  by_cases c1 : c = 59
  · rw [if_pos c1]
    exact hq_bt (congrArg nI c1) ⟨Or.inr rfl, rfl, hw_rd_p h r (s := 0) 0 (by decide)⟩
  · rw [if_neg c1]
    exact hq_bf (hz_ne (a := c) (b := 59) rfl rfl c1 (by omega) (by omega)) ⟨Or.inl rfl, rfl, rfl⟩
theorem x_tRoom (d c : Nat) (h : hq_H) (r : Nat → Int32) (hc : c ≤ 126) : hq_Met (d + 2) MX2_takeRoom [.inr (7, 0), hz_i (nI c)] (hw_rd h r) (hr_y (hr_rm r c)) (hw_rd h (hr_s r (hr_rm r c))) := by
  refine inX2_takeRoom (d + 1) 0 (nI c) (hw_rd h r) _ _ (fun _ => trivial) (fun J b0 => b0 _ _ _ ?_)
  refine ⟨_, _, x_isRoom d c _ hc, ?_⟩
  unfold hr_rm
  cases c1 : hr_room c with
  | false => exact hq_nf rfl ⟨Or.inl rfl, rfl, rfl⟩
  | true => exact hq_nt (by decide) ⟨Or.inr rfl, rfl, ((congrArg (fun x => hq_si x 7 0 0 9) (hw_rd_p h r (s := 4) (nI c - 97) (by decide))).trans (hw_rd_p h _ 9 (by decide)))⟩
theorem x_tDays (d c : Nat) (h : hq_H) (r : Nat → Int32) : hq_Met (d + 1) MX2_takeDays [.inr (7, 0), hz_i (nI c)] (hw_rd h r) (hr_y (hr_days r c)) (hw_rd h (hr_s r (hr_days r c))) := by
  refine inX2_takeDays d 0 (nI c) (hw_rd h r) _ _ (fun _ => trivial) (fun J b0 => b0 _ _ _ ?_)
  unfold hr_days
  refine hq_bc (fun c1 => ?_) (fun c1 => ?_)
  · rw [if_neg (fun z => z.1 c1)]
    exact ⟨Or.inl rfl, rfl, rfl⟩
  · refine hq_bc (fun c2 => ?_) (fun c2 => ?_)
    · rw [if_pos ⟨c1, c2⟩]
      exact ⟨Or.inr rfl, rfl, ((congrArg (fun x => hq_si x 7 0 0 9) (hw_rd_p h r (s := 3) (nI c - 48) (by decide))).trans (hw_rd_p h _ 9 (by decide)))⟩
    · rw [if_neg (fun z => c2 z.2)]
      exact ⟨Or.inl rfl, rfl, rfl⟩
theorem x_tNum (d c : Nat) (h : hq_H) (r : Nat → Int32) (least next : Int32) : hq_Met (d + 1) MX2_takeNumber [.inr (7, 0), hz_i (nI c), hz_i least, hz_i next] (hw_rd h r) (hr_y (hr_num r c least next)) (hw_rd h (hr_s r (hr_num r c least next))) := by
  refine inX2_takeNumber d 0 (nI c) least next (hw_rd h r) _ _ (fun _ => trivial) (fun J b0 => b0 _ _ _ ?_)
  unfold hr_num
  refine hq_bc (fun c1 => ?_) (fun c1 => ?_)
  · rw [if_neg (fun z => z.1 c1)]
    exact ⟨Or.inl rfl, rfl, rfl⟩
  · refine hq_bc (fun c2 => ?_) (fun c2 => ?_)
    · rw [if_pos ⟨c1, c2⟩]
      exact ⟨Or.inr rfl, rfl, ((congrArg (fun x => hq_si x 7 0 0 next) (hw_rd_p h r (s := 2) (nI c - 48) (by decide))).trans (hw_rd_p h _ next (by decide)))⟩
    · rw [if_neg (fun z => c2 z.2)]
      exact ⟨Or.inl rfl, rfl, rfl⟩
theorem x_tEmp (d c : Nat) (h : hq_H) (r : Nat → Int32) (hc : c ≤ 126) : hq_Met (d + 3) MX2_takeRoomToBeEmpty [.inr (7, 0), hz_i (nI c)] (hw_rd h r) (hr_y (hr_emp r c)) (hw_rd h (hr_s r (hr_emp r c))) := by
  have g6 := hw_rd_g h r (s := 6) (by decide)
  refine inX2_takeRoomToBeEmpty (d + 2) 0 (nI c) (hw_rd h r) _ _ (fun _ => trivial) (fun J b0 => b0 _ _ _ ?_)
  refine ⟨_, _, x_un d c h r hc, ?_⟩
  unfold hr_emp
  cases c1 : hr_un r c with
  | false => exact hq_nf rfl ⟨Or.inl rfl, rfl, rfl⟩
  | true =>
    have fin := ((congrArg (fun x => hq_si x 7 0 0 3) (hw_rd_p h r (s := 6) (r 6 ||| ((1 : Int32) <<< ((nI c - 97) &&& 31))) (by decide))).trans (hw_rd_p h _ 3 (by decide)))
    rw [← g6] at fin
    refine hq_nt (by decide) ⟨Or.inr rfl, rfl, ?_⟩
    rw [g6] at fin ⊢
    exact fin
theorem x_tSign (d c : Nat) (h : hq_H) (r : Nat → Int32) (hc : c ≤ 126) : hq_Met (d + 3) MX2_takeSign [.inr (7, 0), hz_i (nI c)] (hw_rd h r) (hr_y (hr_sign r c)) (hw_rd h (hr_s r (hr_sign r c))) := by
  have g5 := hw_rd_g h r (s := 5) (by decide)
  have g6 := hw_rd_g h r (s := 6) (by decide)
  refine inX2_takeSign (d + 2) 0 (nI c) (hw_rd h r) _ _ (fun _ => trivial) (fun J b0 b27 => b0 _ _ _ ?_)
  have rest : ¬ (c = 33 ∧ ¬ (r 5 ||| r 6) = 63) → J 27 [some (.inr (7, 0)), some (hz_i (nI c))] [] (hw_rd h r) := by
    intro n
    refine b27 _ _ _ ⟨_, _, x_un d c h r hc, ?_⟩
    unfold hr_sign
    rw [if_neg n]
    cases c1 : hr_un r c with
    | false => exact hq_nf rfl ⟨Or.inl rfl, rfl, rfl⟩
    | true =>
      have fin := ((congrArg (fun x => hq_si x 7 0 0 3) (hw_rd_p h r (s := 5) (r 5 ||| ((1 : Int32) <<< ((nI c - 97) &&& 31))) (by decide))).trans (hw_rd_p h _ 3 (by decide)))
      refine hq_nt (by decide) ⟨Or.inr rfl, rfl, ?_⟩
      rw [g5]
      exact fin
  by_cases c1 : c = 33
  · refine hq_nf (congrArg nI c1) ?_
    refine hq_bc (fun c2 => rest (fun z => z.2 ?_)) (fun c2 => ?_)
    · rw [← g5, ← g6]
      exact c2
    · have c2 : ¬ (r 5 ||| r 6) = 63 := fun z => c2 (by
        show (hw_rd h r).1 7 0 5 ||| (hw_rd h r).1 7 0 6 = 63
        rw [g5, g6]
        exact z)
      unfold hr_sign
      rw [if_pos ⟨c1, c2⟩]
      exact ⟨Or.inr rfl, rfl, hw_rd_p h r (s := 0) 4 (by decide)⟩
  · exact hq_nt (hz_ne (a := c) (b := 33) rfl rfl c1 (by omega) (by omega)) (rest (fun z => c1 z.1))
