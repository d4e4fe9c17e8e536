-- ===== a whole log; what stays from before does not matter =====
def hr_e (r q : Nat → Int32) : Prop := r 0 = q 0 ∧ (r 0 = 0 ∨ (r 5 = q 5 ∧ r 6 = q 6))
def hr_eo (a b : hr_O) : Prop := match a, b with
  | none, none => True
  | some x, some y => hr_e x y
  | _, _ => False
theorem hr_un_e {r q : Nat → Int32} (c : Nat) (h5 : r 5 = q 5) (h6 : r 6 = q 6) : hr_un r c = hr_un q c := by
  unfold hr_un
  rw [h5, h6]
theorem hr_e_0 {r q : Nat → Int32} (x : Int32) (h5 : r 5 = q 5) (h6 : r 6 = q 6) : hr_e (hr_put r 0 x) (hr_put q 0 x) :=
  ⟨by rw [hr_put_e, hr_put_e], Or.inr ⟨by rw [hr_put_n _ _ (by decide), hr_put_n _ _ (by decide)]; exact h5, by rw [hr_put_n _ _ (by decide), hr_put_n _ _ (by decide)]; exact h6⟩⟩
theorem hr_eo_num {r q : Nat → Int32} (c : Nat) (a b : Int32) (h5 : r 5 = q 5) (h6 : r 6 = q 6) : hr_eo (hr_num r c a b) (hr_num q c a b) := by
  unfold hr_num
  by_cases z : ¬ nI c - 48 < a ∧ nI c - 48 ≤ 9
  · rw [if_pos z, if_pos z]
    exact hr_e_0 b ((hr_put_n _ _ (by decide)).trans (h5.trans (hr_put_n _ _ (by decide)).symm)) ((hr_put_n _ _ (by decide)).trans (h6.trans (hr_put_n _ _ (by decide)).symm))
  · rw [if_neg z, if_neg z]
    trivial
theorem hr_eo_days {r q : Nat → Int32} (c : Nat) (h5 : r 5 = q 5) (h6 : r 6 = q 6) : hr_eo (hr_days r c) (hr_days q c) := by
  unfold hr_days
  by_cases z : ¬ nI c - 48 < 0 ∧ nI c - 48 ≤ 9
  · rw [if_pos z, if_pos z]
    exact hr_e_0 9 ((hr_put_n _ _ (by decide)).trans (h5.trans (hr_put_n _ _ (by decide)).symm)) ((hr_put_n _ _ (by decide)).trans (h6.trans (hr_put_n _ _ (by decide)).symm))
  · rw [if_neg z, if_neg z]
    trivial
theorem hr_eo_rm {r q : Nat → Int32} (c : Nat) (h5 : r 5 = q 5) (h6 : r 6 = q 6) : hr_eo (hr_rm r c) (hr_rm q c) := by
  unfold hr_rm
  by_cases z : hr_room c = true
  · rw [if_pos z, if_pos z]
    exact hr_e_0 9 ((hr_put_n _ _ (by decide)).trans (h5.trans (hr_put_n _ _ (by decide)).symm)) ((hr_put_n _ _ (by decide)).trans (h6.trans (hr_put_n _ _ (by decide)).symm))
  · rw [if_neg z, if_neg z]
    trivial
theorem hr_eo_end {r q : Nat → Int32} (c : Nat) (h5 : r 5 = q 5) (h6 : r 6 = q 6) : hr_eo (hr_end r c) (hr_end q c) := by
  unfold hr_end
  by_cases z : c = 59
  · rw [if_pos z, if_pos z]
    exact hr_e_0 0 h5 h6
  · rw [if_neg z, if_neg z]
    trivial
theorem hr_eo_emp {r q : Nat → Int32} (c : Nat) (h5 : r 5 = q 5) (h6 : r 6 = q 6) : hr_eo (hr_emp r c) (hr_emp q c) := by
  unfold hr_emp
  rw [hr_un_e c h5 h6]
  by_cases z : hr_un q c = true
  · rw [if_pos z, if_pos z]
    refine hr_e_0 3 ((hr_put_n _ _ (by decide)).trans (h5.trans (hr_put_n _ _ (by decide)).symm)) ?_
    rw [hr_put_e, hr_put_e, h6]
  · rw [if_neg z, if_neg z]
    trivial
theorem hr_eo_sign {r q : Nat → Int32} (c : Nat) (h5 : r 5 = q 5) (h6 : r 6 = q 6) : hr_eo (hr_sign r c) (hr_sign q c) := by
  unfold hr_sign
  rw [hr_un_e c h5 h6, h5, h6]
  by_cases y : c = 33 ∧ ¬ (q 5 ||| q 6) = 63
  · rw [if_pos y, if_pos y]
    exact hr_e_0 4 h5 h6
  · rw [if_neg y, if_neg y]
    by_cases z : hr_un q c = true
    · rw [if_pos z, if_pos z]
      refine hr_e_0 3 ?_ ((hr_put_n _ _ (by decide)).trans (h6.trans (hr_put_n _ _ (by decide)).symm))
      rw [hr_put_e, hr_put_e]
    · rw [if_neg z, if_neg z]
      trivial
theorem hr_eo_kind {r q : Nat → Int32} (c : Nat) : hr_eo (hr_kind r c) (hr_kind q c) := by
  unfold hr_kind
  by_cases z : hr_bh c = 0
  · rw [if_pos z, if_pos z]
    trivial
  · rw [if_neg z, if_neg z]
    refine hr_e_0 _ ?_ ?_
    · rw [hr_put_n _ _ (by decide), hr_put_e, hr_put_n _ _ (by decide), hr_put_e]
    · rw [hr_put_e, hr_put_e]
theorem hr_eo_take {r q : Nat → Int32} (c : Nat) (h : hr_e r q) : hr_eo (hr_take r c) (hr_take q c) := by
  obtain ⟨h0, h56⟩ := h
  by_cases c0 : r 0 = 0
  · rw [hr_take_0 c c0, hr_take_0 c (h0.symm.trans c0)]
    exact hr_eo_kind c
  · obtain ⟨h5, h6⟩ := h56.resolve_left c0
    unfold hr_take
    rw [← h0, if_neg c0, if_neg c0]
    by_cases c1 : r 0 = 1
    · rw [if_pos c1, if_pos c1]; exact hr_eo_num c _ _ h5 h6
    rw [if_neg c1, if_neg c1]
    by_cases c2 : r 0 = 2
    · rw [if_pos c2, if_pos c2]; exact hr_eo_sign c h5 h6
    rw [if_neg c2, if_neg c2]
    by_cases c3 : r 0 = 3
    · rw [if_pos c3, if_pos c3]
      have e1 : (hr_end r c).isSome = (hr_end q c).isSome := by
        unfold hr_end
        by_cases z : c = 59
        · rw [if_pos z, if_pos z]; rfl
        · rw [if_neg z, if_neg z]
      rw [e1]
      by_cases z : (hr_end q c).isSome = true
      · rw [if_pos z, if_pos z]; exact hr_eo_end c h5 h6
      · rw [if_neg z, if_neg z]; exact hr_eo_sign c h5 h6
    rw [if_neg c3, if_neg c3]
    by_cases c4 : r 0 = 4
    · rw [if_pos c4, if_pos c4]; exact hr_eo_emp c h5 h6
    rw [if_neg c4, if_neg c4]
    by_cases c5 : r 0 = 5
    · rw [if_pos c5, if_pos c5]; exact hr_eo_rm c h5 h6
    rw [if_neg c5, if_neg c5]
    by_cases c6 : r 0 = 6
    · rw [if_pos c6, if_pos c6]; exact hr_eo_num c _ _ h5 h6
    rw [if_neg c6, if_neg c6]
    by_cases c7 : r 0 = 7
    · rw [if_pos c7, if_pos c7]; exact hr_eo_num c _ _ h5 h6
    rw [if_neg c7, if_neg c7]
    by_cases c8 : r 0 = 8
    · rw [if_pos c8, if_pos c8]; exact hr_eo_days c h5 h6
    rw [if_neg c8, if_neg c8]
    exact hr_eo_end c h5 h6
theorem hr_go_e (b : Nat → Nat) : ∀ m i (r q : Nat → Int32), hr_e r q → (hr_go b m i r).1 = (hr_go b m i q).1 ∧ hr_e (hr_go b m i r).2 (hr_go b m i q).2
  | 0, _, _, _, h => ⟨rfl, h⟩
  | m + 1, i, r, q, h => by
    have t := hr_eo_take (b i) h
    rw [hr_go_s, hr_go_s]
    cases e1 : hr_take r (b i) with
    | none =>
      cases e2 : hr_take q (b i) with
      | none => exact ⟨rfl, h⟩
      | some y => rw [e1, e2] at t; exact t.elim
    | some x =>
      cases e2 : hr_take q (b i) with
      | none => rw [e1, e2] at t; exact t.elim
      | some y =>
        rw [e1, e2] at t
        exact hr_go_e b m (i + 1) x y t
theorem hr_ae_e {r q : Nat → Int32} (h : hr_e r q) : hr_atEnd r = hr_atEnd q := by
  unfold hr_atEnd
  rw [h.1]
def hl_log (b : Nat → Nat) (n : Nat) : Nat → Nat → (Nat → Int32) → hr_Q
  | 0, i, r => (false, i, r)
  | f + 1, i, r => if (hl_part b n i r).1 = true then (if (hl_part b n i r).2.1 < n ∧ b (hl_part b n i r).2.1 = 59 then hl_log b n f ((hl_part b n i r).2.1 + 1) (hr_put (hl_part b n i r).2.2 0 0) else (true, (hl_part b n i r).2)) else (false, (hl_part b n i r).2)
theorem hr_take_59 {r : Nat → Int32} (h : r 0 = 9 ∨ r 0 = 3) : hr_take r 59 = some (hr_put r 0 0) := by
  rcases h with h | h
  · rw [hr_take_9 _ h]; rfl
  · rw [hr_take_3 _ h]; rfl
theorem hr_ae_y {r : Nat → Int32} (h : r 0 = 9 ∨ r 0 = 3) : hr_atEnd r = true := by
  unfold hr_atEnd
  rcases h with h | h
  · rw [h]; rfl
  · rw [h]; rfl
theorem hl_log_is {b : Nat → Nat} {n : Nat} (hb : ∀ i, i < n → b i ≤ 126) : ∀ f i (r : Nat → Int32), n - i < f → i ≤ n → r 0 = 0 → hr_go b (n - i) i r = (hl_log b n f i r).2 ∧ (hl_log b n f i r).2.1 ≤ n ∧ ((hl_log b n f i r).1 = false → (hl_log b n f i r).2.1 = n → hr_atEnd (hl_log b n f i r).2.2 = false) ∧ ((hl_log b n f i r).1 = true → hr_atEnd (hl_log b n f i r).2.2 = true)
  | 0, i, r, hf, _, _ => absurd hf (Nat.not_lt_zero _)
  | f + 1, i, r, hf, hi, h0 => by
    have G := hl_part_is hb hi h0
    have l := hl_part_lt hb hi h0
    unfold hl_log
    obtain ⟨g1, g2, g3, g4, g5⟩ := G
    generalize hl_part b n i r = P at *
    by_cases ok : P.1 = true
    · rw [if_pos ok] at g3 ⊢
      obtain ⟨d0, d1, d2⟩ := g4 ok
      by_cases c : P.2.1 < n ∧ b P.2.1 = 59
      · rw [if_pos c, g3]
        have t : hr_take P.2.2 (b P.2.1) = some (hr_put P.2.2 0 0) := by rw [c.2]; exact hr_take_59 d0
        rw [hl_go_y c.1 t]
        exact hl_log_is hb f (P.2.1 + 1) _ (by have := (l ok).2; omega) (by omega) (hr_put_e _ _ _)
      · rw [if_neg c]
        refine ⟨g3.trans ?_, g2, fun z => (by cases z), fun _ => hr_ae_y d0⟩
        by_cases z : P.2.1 < n
        · exact hl_go_n z (d2 z (fun y => c ⟨z, y⟩))
        · have e : P.2.1 = n := by omega
          rw [e, hl_go_e]
          show (n, P.2.2) = P.2
          rw [← e]
    · rw [if_neg ok] at g3 ⊢
      exact ⟨g3, g2, fun _ => g5 (ts_nt ok), fun z => (by cases z)⟩
/-- the buffer holds a complete log -/
def hl_acc (b : Nat → Nat) (n : Nat) (r : Nat → Int32) : Bool := (hl_log b n (n + 1) 0 r).1 && decide ((hl_log b n (n + 1) 0 r).2.1 = n)
theorem hl_acc_go {b : Nat → Nat} {n : Nat} (hb : ∀ i, i < n → b i ≤ 126) {r : Nat → Int32} (h0 : r 0 = 0) : hl_acc b n r = true ↔ (hr_go b n 0 r).1 = n ∧ hr_atEnd (hr_go b n 0 r).2 = true := by
  obtain ⟨g1, g2, g3, g4⟩ := hl_log_is hb (n + 1) 0 r (by omega) (Nat.zero_le _) h0
  have g1 : hr_go b n 0 r = (hl_log b n (n + 1) 0 r).2 := g1
  unfold hl_acc
  rw [Bool.and_eq_true, decide_eq_true_iff, g1]
  constructor
  · intro ⟨h1, h2⟩
    exact ⟨h2, g4 h1⟩
  · intro ⟨h1, h2⟩
    refine ⟨ts_nf (fun z => ?_), h1⟩
    rw [g3 z h1] at h2
    cases h2
theorem hl_acc_any {b : Nat → Nat} {n : Nat} (hb : ∀ i, i < n → b i ≤ 126) {r q : Nat → Int32} (h0 : r 0 = 0) (hq : q 0 = 0) : hl_acc b n r = hl_acc b n q := by
  have e := hr_go_e b n 0 r q ⟨h0.trans hq.symm, Or.inl h0⟩
  apply Bool.eq_iff_iff.mpr
  rw [hl_acc_go hb h0, hl_acc_go hb hq, e.1, hr_ae_e e.2]
theorem hl_pos_any {b : Nat → Nat} {n : Nat} (hb : ∀ i, i < n → b i ≤ 126) {r q : Nat → Int32} (h0 : r 0 = 0) (hq : q 0 = 0) : (hl_log b n (n + 1) 0 r).2.1 = (hl_log b n (n + 1) 0 q).2.1 := by
  have e := hr_go_e b n 0 r q ⟨h0.trans hq.symm, Or.inl h0⟩
  have g1 : hr_go b n 0 r = (hl_log b n (n + 1) 0 r).2 := (hl_log_is hb (n + 1) 0 r (by omega) (Nat.zero_le _) h0).1
  have g2 : hr_go b n 0 q = (hl_log b n (n + 1) 0 q).2 := (hl_log_is hb (n + 1) 0 q (by omega) (Nat.zero_le _) hq).1
  rw [← g1, ← g2]
  exact e.1
def hr_z : Nat → Int32 := fun _ => 0
def sp_first (w : hz_W) : hz_X := (hz_o (nI (hl_log w.2.2.2.2 w.2.2.2.1 (w.2.2.2.1 + 1) 0 hr_z).2.1), w)
theorem t_firstError (d : Nat) (h : hq_H) (w : hz_W) (H : hz_RC h w) : hz_Ans MX6_firstError (d + 6) [.inr (3, 0)] h (sp_first w) := by
  have B := H.2.2.2.2
  have m := x_readLog d h w.2.2.2 B (h.1 7 0)
  rw [hw_rd_0] at m
  have hb : ∀ i, i < w.2.2.2.1 → w.2.2.2.2 i ≤ 126 := fun i hi => (B.1.2 i hi).2
  have g1 : hr_go w.2.2.2.2 w.2.2.2.1 0 (hr_beg (h.1 7 0)) = (hl_log w.2.2.2.2 w.2.2.2.1 (w.2.2.2.1 + 1) 0 (hr_beg (h.1 7 0))).2 := (hl_log_is hb (w.2.2.2.1 + 1) 0 (hr_beg (h.1 7 0)) (by omega) (Nat.zero_le _) rfl).1
  have e : (hr_go w.2.2.2.2 w.2.2.2.1 0 (hr_beg (h.1 7 0))).1 = (hl_log w.2.2.2.2 w.2.2.2.1 (w.2.2.2.1 + 1) 0 hr_z).2.1 := by
    rw [g1]
    exact hl_pos_any hb rfl rfl
  rw [e] at m
  refine hz_free H (h1 := hw_rd h (hr_go w.2.2.2.2 w.2.2.2.1 0 (hr_beg (h.1 7 0))).2) (fun k i hn => ⟨?_, rfl⟩) (inX6_firstError (d + 5) 0 h _ _ (fun _ => trivial) (fun J b0 => b0 _ _ _ ⟨_, _, m, rfl, rfl⟩))
  funext s
  exact if_neg (fun z => hn ⟨by omega, by omega⟩)
