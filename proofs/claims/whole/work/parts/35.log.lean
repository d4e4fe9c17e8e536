-- ===== the class's reader: a whole log =====
def hr_take (r : Nat → Int32) (c : Nat) : hr_O :=
  if r 0 = 0 then hr_kind r c else if r 0 = 1 then hr_num r c 1 2 else if r 0 = 2 then hr_sign r c else
  if r 0 = 3 then (if (hr_end r c).isSome = true then hr_end r c else hr_sign r c) else
  if r 0 = 4 then hr_emp r c else if r 0 = 5 then hr_rm r c else if r 0 = 6 then hr_num r c 1 9 else if r 0 = 7 then hr_num r c 0 8 else if r 0 = 8 then hr_days r c else hr_end r c
theorem x_behind (d c : Nat) (h : hq_H) (hc : c ≤ 126) : hq_Met (d + 1) MX2_stageBehind [hz_i (nI c)] h (hz_o (hr_bh c)) h := by
  have q : ∀ a, a ≤ 126 → (nI c = nI a ↔ c = a) := fun a ha => nI_eq (by omega) (by omega)
  refine inX2_stageBehind d (nI c) h _ _ (fun _ => trivial) (fun J b0 => b0 _ _ _ ?_)
  unfold hr_bh
  refine hq_bc (fun e => ?_) (fun n => ?_)
  · rw [if_pos ((q 99 (by decide)).mp e)]
    exact ⟨rfl, rfl⟩
  rw [if_neg (fun z => n ((q 99 (by decide)).mpr z))]
  refine hq_bc (fun e => ?_) (fun n => ?_)
  · rw [if_pos ((q 103 (by decide)).mp e)]
    exact ⟨rfl, rfl⟩
  rw [if_neg (fun z => n ((q 103 (by decide)).mpr z))]
  refine hq_bc (fun e => ?_) (fun n => ?_)
  · rw [if_pos ((q 110 (by decide)).mp e)]
    exact ⟨rfl, rfl⟩
  rw [if_neg (fun z => n ((q 110 (by decide)).mpr z))]
  refine hq_bc (fun e => ?_) (fun n => ?_)
  · rw [if_pos ((q 114 (by decide)).mp e)]
    exact ⟨rfl, rfl⟩
  rw [if_neg (fun z => n ((q 114 (by decide)).mpr z))]
  refine hq_bc (fun e => ?_) (fun n => ?_)
  · rw [if_pos ((q 118 (by decide)).mp e)]
    exact ⟨rfl, rfl⟩
  rw [if_neg (fun z => n ((q 118 (by decide)).mpr z))]
  exact ⟨rfl, rfl⟩
theorem x_tKind (d c : Nat) (h : hq_H) (r : Nat → Int32) (hc : c ≤ 126) : hq_Met (d + 2) MX2_takeKind [.inr (7, 0), hz_i (nI c)] (hw_rd h r) (hr_y (hr_kind r c)) (hw_rd h (hr_s r (hr_kind r c))) := by
  refine inX2_takeKind (d + 1) 0 (nI c) (hw_rd h r) _ _ (fun _ => trivial) (fun J b0 => b0 _ _ _ ?_)
  refine ⟨_, _, x_behind d c _ hc, ?_⟩
  unfold hr_kind
  refine hq_nc (fun e => ?_) (fun e => ?_)
  · rw [if_neg e]
    refine ⟨Or.inr rfl, rfl, ?_⟩
    show hq_si (hq_si (hq_si (hq_si (hw_rd h r) 7 0 1 (nI c)) 7 0 5 0) 7 0 6 0) 7 0 0 (hr_bh c) = hw_rd h (hr_put (hr_put (hr_put (hr_put r 1 (nI c)) 5 0) 6 0) 0 (hr_bh c))
    rw [hw_rd_p _ _ _ (by decide), hw_rd_p _ _ _ (by decide), hw_rd_p _ _ _ (by decide), hw_rd_p _ _ _ (by decide)]
  · rw [if_pos e]
    exact ⟨Or.inl rfl, rfl, rfl⟩
theorem x_take (d c : Nat) (h : hq_H) (r : Nat → Int32) (hc : c ≤ 126) : hq_Met (d + 4) MX2_take [.inr (7, 0), hz_i (nI c)] (hw_rd h r) (hr_y (hr_take r c)) (hw_rd h (hr_s r (hr_take r c))) := by
  have g0 := hw_rd_g h r (s := 0) (by decide)
  refine inX2_take (d + 3) 0 (nI c) (hw_rd h r) _ _ (fun _ => trivial) (fun J b0 => b0 _ _ _ ?_)
  unfold hr_take
  refine hq_bc (fun e => ?_) (fun n => ?_)
  · rw [if_pos (g0.symm.trans e)]
    exact ⟨_, _, x_tKind (d + 1) c h r hc, hz_bz _, rfl, rfl⟩
  rw [if_neg (fun z => n (g0.trans z))]
  refine hq_bc (fun e => ?_) (fun n => ?_)
  · rw [if_pos (g0.symm.trans e)]
    exact ⟨_, _, x_tNum (d + 2) c h r 1 2, hz_bz _, rfl, rfl⟩
  rw [if_neg (fun z => n (g0.trans z))]
  refine hq_bc (fun e => ?_) (fun n => ?_)
  · rw [if_pos (g0.symm.trans e)]
    exact ⟨_, _, x_tSign d c h r hc, hz_bz _, rfl, rfl⟩
  rw [if_neg (fun z => n (g0.trans z))]
  refine hq_bc (fun e => ?_) (fun n => ?_)
  · rw [if_pos (g0.symm.trans e)]
    refine ⟨_, _, x_tEnd (d + 2) c h r hc, ?_⟩
    cases o : hr_end r c with
    | some x =>
      rw [if_pos (show (some x).isSome = true from rfl)]
      exact hq_nt (show ¬ (1 : Int32) = 0 by decide) ⟨Or.inr rfl, rfl, rfl⟩
    | none =>
      rw [if_neg (show ¬ (none : hr_O).isSome = true by decide)]
      refine hq_nf rfl ?_
      refine ⟨_, _, x_tSign d c h r hc, ?_⟩
      cases o2 : hr_sign r c with
      | some y => exact hq_bf (show ¬ (1 : Int32) = 0 by decide) ⟨Or.inr rfl, rfl, rfl⟩
      | none => exact hq_bt rfl ⟨Or.inl rfl, rfl, rfl⟩
  rw [if_neg (fun z => n (g0.trans z))]
  refine hq_bc (fun e => ?_) (fun n => ?_)
  · rw [if_pos (g0.symm.trans e)]
    exact ⟨_, _, x_tEmp d c h r hc, hz_bz _, rfl, rfl⟩
  rw [if_neg (fun z => n (g0.trans z))]
  refine hq_bc (fun e => ?_) (fun n => ?_)
  · rw [if_pos (g0.symm.trans e)]
    exact ⟨_, _, x_tRoom (d + 1) c h r hc, hz_bz _, rfl, rfl⟩
  rw [if_neg (fun z => n (g0.trans z))]
  refine hq_bc (fun e => ?_) (fun n => ?_)
  · rw [if_pos (g0.symm.trans e)]
    exact ⟨_, _, x_tNum (d + 2) c h r 1 9, hz_bz _, rfl, rfl⟩
  rw [if_neg (fun z => n (g0.trans z))]
  refine hq_bc (fun e => ?_) (fun n => ?_)
  · rw [if_pos (g0.symm.trans e)]
    exact ⟨_, _, x_tNum (d + 2) c h r 0 8, hz_bz _, rfl, rfl⟩
  rw [if_neg (fun z => n (g0.trans z))]
  refine hq_bc (fun e => ?_) (fun n => ?_)
  · rw [if_pos (g0.symm.trans e)]
    exact ⟨_, _, x_tDays (d + 2) c h r, hz_bz _, rfl, rfl⟩
  rw [if_neg (fun z => n (g0.trans z))]
  exact ⟨_, _, x_tEnd (d + 2) c h r hc, hz_bz _, rfl, rfl⟩
def hr_beg (r : Nat → Int32) : Nat → Int32 := hr_put (hr_put r 0 0) 1 0
theorem x_begin (d : Nat) (h : hq_H) (r : Nat → Int32) : hq_Met (d + 1) MX2_begin [.inr (7, 0)] (hw_rd h r) hz_v (hw_rd h (hr_beg r)) := by
  refine inX2_begin d 0 (hw_rd h r) _ _ (fun _ => trivial) (fun J b0 => b0 _ _ _ ⟨rfl, ?_⟩)
  show hq_si (hq_si (hw_rd h r) 7 0 0 0) 7 0 1 0 = hw_rd h (hr_put (hr_put r 0 0) 1 0)
  rw [hw_rd_p _ _ _ (by decide), hw_rd_p _ _ _ (by decide)]
def hr_atEnd (r : Nat → Int32) : Bool := decide (r 0 = 9) || decide (r 0 = 3)
theorem x_atEnd (d : Nat) (h : hq_H) (r : Nat → Int32) : hq_Met (d + 1) MX2_isAtEnd [.inr (7, 0)] (hw_rd h r) (hz_o (hz_b (hr_atEnd r))) (hw_rd h r) := by
  have g0 := hw_rd_g h r (s := 0) (by decide)
  refine inX2_isAtEnd d 0 (hw_rd h r) _ _ (fun _ => trivial) (fun J b0 => b0 _ _ _ ?_)
  unfold hr_atEnd
  refine hq_bc (fun e => ?_) (fun n => ?_)
  · exact ⟨Or.inr rfl, hz_rb (by rw [decide_eq_true (g0.symm.trans e)]; rfl), rfl⟩
  · refine hq_nc (fun n2 => ?_) (fun e => ?_)
    · exact ⟨Or.inl rfl, hz_rf (by rw [decide_eq_false (fun z => n (g0.trans z)), decide_eq_false (fun z => n2 (g0.trans z))]; rfl), rfl⟩
    · exact ⟨Or.inr rfl, hz_rb (by rw [decide_eq_true (show r 0 = 3 from g0.symm.trans e), Bool.or_true]), rfl⟩
/-- reads on, from place i, m characters at most: where it stops, and the reader then -/
def hr_go (b : Nat → Nat) : Nat → Nat → (Nat → Int32) → Nat × (Nat → Int32)
  | 0, i, r => (i, r)
  | m + 1, i, r => match hr_take r (b i) with
    | none => (i, r)
    | some r' => hr_go b m (i + 1) r'
theorem x_readLog (d : Nat) (h : hq_H) (b : Nat × (Nat → Nat)) (hB : hz_BF h b) (r : Nat → Int32) : hq_Met (d + 5) MX6_readLog [.inr (3, 0)] (hw_rd h r) (hz_o (nI (hr_go b.2 b.1 0 (hr_beg r)).1)) (hw_rd h (hr_go b.2 b.1 0 (hr_beg r)).2) := by
  obtain ⟨⟨l60, hb⟩, hl, hc⟩ := hB
  have gl : ∀ r, (hw_rd h r).1 3 0 5 = nI b.1 := fun r => (show (if (3 : Nat) = 7 ∧ (0 : Nat) = 0 ∧ 5 < 7 then r 5 else h.1 3 0 5) = _ from if_neg (fun z => absurd z.1 (by decide))).trans hl
  have gc : ∀ r i, i < b.1 → (hw_rd h r).1 6 0 i = nI (b.2 i) := fun r i hi => (show (if (6 : Nat) = 7 ∧ (0 : Nat) = 0 ∧ i < 7 then r i else h.1 6 0 i) = _ from if_neg (fun z => absurd z.1 (by decide))).trans (hc i hi)
  refine inX6_readLog (d + 4) 0 (hw_rd h r) _ _ (fun _ => trivial) (fun J b0 b9 => b0 _ _ _ ?_)
  refine ⟨_, x_begin (d + 3) h r, ?_⟩
  refine hq_up (P := fun k => ∀ q, hr_go b.2 (b.1 - k) k q = hr_go b.2 b.1 0 (hr_beg r) → J 9 [some (.inr (3, 0)), some (hz_i (nI k))] [] (hw_rd h q)) b.1 (fun q e => b9 _ _ _ ?_) (fun k hk ih q e => b9 _ _ _ ?_) 0 (Nat.zero_le _) (hr_beg r) rfl
  · rw [Nat.sub_self] at e
    have e : (b.1, q) = hr_go b.2 b.1 0 (hr_beg r) := e
    refine hq_bt (hz_le (a := b.1) (b := b.1) (gl q) rfl (Nat.le_refl _) (by omega)) ⟨hz_ri ?_, ?_⟩
    · rw [← e]
      exact (gl q).symm
    · rw [← e]
  · refine hq_bf (hz_nle (a := b.1) (b := k) (gl q) rfl hk (by omega)) ?_
    refine hq_bf (hz_nle (a := 60) (b := k) rfl rfl (by omega) (by omega)) ?_
    refine ⟨k, by omega, rfl, ?_⟩
    have m := x_take d (b.2 k) h q (hb k hk).2
    rw [← gc q k hk] at m
    refine ⟨_, _, m, ?_⟩
    rw [show b.1 - k = (b.1 - (k + 1)) + 1 by omega] at e
    have e : (match hr_take q (b.2 k) with
      | none => (k, q)
      | some r' => hr_go b.2 (b.1 - (k + 1)) (k + 1) r') = hr_go b.2 b.1 0 (hr_beg r) := e
    rw [nI_succ k] at ih
    cases t : hr_take q (b.2 k) with
    | none =>
      rw [t] at e
      refine hq_nf rfl ⟨hz_ri ?_, ?_⟩
      · rw [← e]
      · rw [← e]
        rfl
    | some r' =>
      rw [t] at e
      exact hq_nt (show ¬ (1 : Int32) = 0 by decide) (ih r' e)
