/-- what a call answers, and the state behind it -/
abbrev hz_X : Type := hq_R × hz_W
theorem hz_andN (a b : Nat) : nI a &&& nI b = nI (a &&& b) := by
  apply Int32.toBitVec_inj.mp
  rw [Int32.toBitVec_and]
  show BitVec.ofNat 32 a &&& BitVec.ofNat 32 b = BitVec.ofNat 32 (a &&& b)
  apply BitVec.eq_of_toNat_eq
  rw [BitVec.toNat_and, BitVec.toNat_ofNat, BitVec.toNat_ofNat, BitVec.toNat_ofNat]
  apply Nat.eq_of_testBit_eq
  intro i
  simp only [Nat.testBit_and, Nat.testBit_mod_two_pow]
  cases decide (i < 32) <;> simp
theorem hz_le_of {a b : Nat} (ha : a < 2 ^ 31) (hb : b < 2 ^ 31) (h : nI a ≤ nI b) : a ≤ b := (nI_leI ha hb).mp h
def hz_mkc (f l e : Int32) : Prop := (1 ≤ f ∧ f ≤ 9) ∧ (0 ≤ l ∧ l ≤ 63) ∧ (0 ≤ e ∧ e ≤ 63) ∧ l &&& e = 0 ∧ ¬ (l ||| e = 0)
theorem hz_mkc_s {f l e : Int32} (c : hz_mkc f l e) : ∃ p L E : Nat, f = nI p ∧ l = nI L ∧ e = nI E ∧ 1 ≤ p ∧ p ≤ 9 ∧ L < 64 ∧ E < 64 ∧ L &&& E = 0 ∧ L ||| E ≠ 0 := by
  obtain ⟨⟨f1, f9⟩, ⟨l0, l63⟩, ⟨e0, e63⟩, c1, c2⟩ := c
  obtain ⟨p, hp, rfl⟩ := nI_of2 (M := 9) (n := 9) (by decide) (fun z => absurd (Int32.lt_of_lt_of_le z (by decide : (0 : Int32) ≤ 1)) (Int32.not_lt.mpr f1)) f9
  obtain ⟨L, hL, rfl⟩ := nI_of2 (M := 63) (n := 63) (by decide) (Int32.not_lt.mpr l0) l63
  obtain ⟨E, hE, rfl⟩ := nI_of2 (M := 63) (n := 63) (by decide) (Int32.not_lt.mpr e0) e63
  have a1 : L &&& E < 2 ^ 6 := Nat.and_lt_two_pow L (by omega)
  have o1 : L ||| E < 2 ^ 6 := Nat.or_lt_two_pow (by omega) (by omega)
  refine ⟨p, L, E, rfl, rfl, rfl, hz_le_of (a := 1) (by omega) (by omega) f1, hp, by omega, by omega, ?_, fun z => c2 ?_⟩
  · rw [hz_andN] at c1
    exact (nI_eq (a := L &&& E) (b := 0) (by omega) (by omega)).mp c1
  · rw [hz_orN, z]
    rfl
def sp_saved (w : hz_W) (st : hz_St) : hz_W := (st, w.2.1, hs_save w.2.2.1 w.1, w.2.2.2)
noncomputable def sp_make (w : hz_W) (f l e : Int32) : hz_X := by
  classical
  exact if hz_mkc f l e then (if w.1.1 < 10 then (hz_o (nI w.1.1), sp_saved w (hs_add w.1 f l e)) else (.inr hz_ISE, w)) else (.inr hz_IAE, w)
theorem sp_make_n {w : hz_W} {f l e : Int32} (c : ¬ hz_mkc f l e) : sp_make w f l e = (.inr hz_IAE, w) := by unfold sp_make; exact if_neg c
theorem sp_make_f {w : hz_W} {f l e : Int32} (c : hz_mkc f l e) (n : ¬ w.1.1 < 10) : sp_make w f l e = (.inr hz_ISE, w) := by unfold sp_make; rw [if_pos c]; exact if_neg n
theorem sp_make_y {w : hz_W} {f l e : Int32} (c : hz_mkc f l e) (n : w.1.1 < 10) : sp_make w f l e = (hz_o (nI w.1.1), sp_saved w (hs_add w.1 f l e)) := by unfold sp_make; rw [if_pos c]; exact if_pos n
/-- a call's contract over the class: its answer and state as told, the reference's cells stay -/
def hz_Ans (M : hq_M) (d : Nat) (args : List hq_V) (h : hq_H) (X : hz_X) : Prop := ∃ h', hq_Met d M args h X.1 h' ∧ hz_RC h' X.2 ∧ hw_stay hw_C h h'
theorem t_make (d : Nat) (h : hq_H) (w : hz_W) (H : hz_RC h w) (f l e : Int32) : hz_Ans MX6_make (d + 5) [.inr (3, 0), hz_i f, hz_i l, hz_i e] h (sp_make w f l e) := by
  by_cases c : hz_mkc f l e
  · obtain ⟨p, L, E, rfl, rfl, rfl, p1, p9, l6, e6, le, lo⟩ := hz_mkc_s c
    have pre : ∀ (J : Nat → hq_C) (res : hq_R) (hr : hq_H), True := fun _ _ _ => trivial
    by_cases n : w.1.1 < 10
    · rw [sp_make_y c n]
      obtain ⟨h1, m1, v1, s1⟩ := x_X3_save (d + 1) h w.2.2.1 w.1 H.2.2.2.1 H.2.1 H.1
      have R1 := hz_RC_save H v1 s1
      obtain ⟨a1, a2⟩ := hw_add_is (h := h1) (j := 0) (st := w.1) (nI p) (nI L) (nI E) n R1.1
      refine ⟨hw_add h1 0 w.1.1 (nI p) (nI L) (nI E), ?_, hz_RC_now R1 a1 (hz_ok_add H.2.1 n l6 e6 le lo p1 p9) a2, (s1.weak hw_past_C).trans (a2.weak hw_own_C)⟩
      refine inX6_make (d + 4) 0 _ _ _ h _ _ (fun _ => trivial) (fun J b0 b11 b41 b63 => b0 _ _ _ ?_)
      refine hq_bf (hz_nlt (b := 1) rfl rfl p1 (by omega)) (hq_bt (hz_le (b := 9) rfl rfl p9 (by omega)) ?_)
      refine hq_bf (nI_pos (by omega)) (hq_bf (hz_nlt (a := 63) rfl rfl (by omega) (by omega)) ?_)
      refine hq_bf (nI_pos (by omega)) (hq_bt (hz_le (b := 63) rfl rfl (by omega) (by omega)) ?_)
      refine hq_nf c.2.2.2.1 (hq_nt c.2.2.2.2 ?_)
      refine hq_bt (hz_lt (b := 10) H.1.1 rfl n (by omega)) ?_
      exact ⟨_, m1, _, _, x_X0_addRule (d + 1) 0 _ _ _ h1 w.1.1 n R1.1.1, rfl, rfl⟩
    · rw [sp_make_f c n]
      refine ⟨h, ?_, H, hw_stay_rf⟩
      refine inX6_make (d + 4) 0 _ _ _ h _ _ (fun _ => trivial) (fun J b0 b11 b41 b63 => b0 _ _ _ ?_)
      refine hq_bf (hz_nlt (b := 1) rfl rfl p1 (by omega)) (hq_bt (hz_le (b := 9) rfl rfl p9 (by omega)) ?_)
      refine hq_bf (nI_pos (by omega)) (hq_bf (hz_nlt (a := 63) rfl rfl (by omega) (by omega)) ?_)
      refine hq_bf (nI_pos (by omega)) (hq_bt (hz_le (b := 63) rfl rfl (by omega) (by omega)) ?_)
      refine hq_nf c.2.2.2.1 (hq_nt c.2.2.2.2 ?_)
      have := H.2.1.1
      exact hq_bf (hz_nlt (b := 10) H.1.1 rfl (by omega) (by omega)) ⟨rfl, rfl⟩
  · rw [sp_make_n c]
    refine ⟨h, ?_, H, hw_stay_rf⟩
    refine inX6_make (d + 4) 0 _ _ _ h _ _ (fun _ => trivial) (fun J b0 b11 b41 b63 => b0 _ _ _ ?_)
    have t11 : J 11 [some (.inr (3, 0)), some (hz_i f), some (hz_i l), some (hz_i e)] [] h := b11 _ _ _ ⟨rfl, rfl⟩
    have t41 : J 41 [some (.inr (3, 0)), some (hz_i f), some (hz_i l), some (hz_i e)] [] h := b41 _ _ _ ⟨rfl, rfl⟩
    have t63 : J 63 [some (.inr (3, 0)), some (hz_i f), some (hz_i l), some (hz_i e)] [] h := b63 _ _ _ ⟨rfl, rfl⟩
    refine hq_bc (fun _ => t11) (fun c1 => hq_bc (fun c2 => ?_) (fun _ => t11))
    refine hq_bc (fun _ => t41) (fun c3 => hq_bc (fun _ => t41) (fun c4 => ?_))
    refine hq_bc (fun _ => t41) (fun c5 => hq_bc (fun c6 => ?_) (fun _ => t41))
    refine hq_nc (fun _ => t63) (fun c7 => hq_nc (fun c8 => ?_) (fun _ => t63))
    exact absurd ⟨⟨Int32.not_lt.mp c1, c2⟩, ⟨Int32.not_lt.mp c3, Int32.not_lt.mp c4⟩, ⟨Int32.not_lt.mp c5, c6⟩, c7, c8⟩ c
def sp_withdraw (w : hz_W) (x : Int32) : hz_X := match hz_ix x w.1.1 with
  | none => (.inr hz_IOB, w)
  | some k => (hz_o (nI (w.1.1 - 1)), sp_saved w (hs_drop w.1 k))
theorem t_withdraw (d : Nat) (h : hq_H) (w : hz_W) (H : hz_RC h w) (x : Int32) : hz_Ans MX6_withdraw (d + 5) [.inr (3, 0), hz_i x] h (sp_withdraw w x) := by
  have n10 := H.2.1.1
  unfold sp_withdraw
  cases hx : hz_ix x w.1.1 with
  | none =>
    refine ⟨h, ?_, H, hw_stay_rf⟩
    refine inX6_withdraw (d + 4) 0 x h _ _ (fun _ => trivial) (fun J b0 => b0 _ _ _ ?_)
    exact Or.inr ⟨_, x_X6_requireRule_n (d + 3) w.1.1 x h hx H.1.1, rfl⟩
  | some k =>
    obtain ⟨rfl, hk⟩ := hz_ix_s (by omega) hx
    obtain ⟨h1, m1, v1, s1⟩ := x_X3_save (d + 1) h w.2.2.1 w.1 H.2.2.2.1 H.2.1 H.1
    have R1 := hz_RC_save H v1 s1
    obtain ⟨a1, a2⟩ := hw_drop_is (h := h1) (j := 0) (r := k) (st := w.1) n10 hk R1.1
    refine ⟨hw_drop h1 0 k w.1.1, ?_, hz_RC_now R1 a1 (hz_ok_drop H.2.1 hk) a2, (s1.weak hw_past_C).trans (a2.weak hw_own_C)⟩
    refine inX6_withdraw (d + 4) 0 _ h _ _ (fun _ => trivial) (fun J b0 => b0 _ _ _ ?_)
    refine Or.inl ⟨_, x_X6_requireRule_y (d + 3) k w.1.1 h hk n10 H.1.1, ?_⟩
    refine ⟨_, m1, _, x_X0_dropRule (d + 2) 0 k h1 w.1 n10 hk R1.1 H.2.1.s, ?_⟩
    exact ⟨hz_ri a1.1.symm, rfl⟩
def sp_setStrict (w : hz_W) (x : Int32) (b : Bool) : hz_X := match hz_ix x w.1.1 with
  | none => (.inr hz_IOB, w)
  | some k => (hz_o (w.1.2.1 k 3), sp_saved w (hs_attr w.1 k 3 (hz_b b)))
theorem t_setStrict (d : Nat) (h : hq_H) (w : hz_W) (H : hz_RC h w) (x : Int32) (b : Bool) : hz_Ans MX6_setStrict (d + 5) [.inr (3, 0), hz_i x, hz_i (hz_b b)] h (sp_setStrict w x b) := by
  have n10 := H.2.1.1
  unfold sp_setStrict
  cases hx : hz_ix x w.1.1 with
  | none =>
    refine ⟨h, ?_, H, hw_stay_rf⟩
    refine inX6_setStrict (d + 4) 0 x _ h _ _ (fun _ => trivial) (fun J b0 => b0 _ _ _ ?_)
    exact Or.inr ⟨_, x_X6_requireRule_n (d + 3) w.1.1 x h hx H.1.1, rfl⟩
  | some k =>
    obtain ⟨rfl, hk⟩ := hz_ix_s (by omega) hx
    obtain ⟨h1, m1, v1, s1⟩ := x_X3_save (d + 1) h w.2.2.1 w.1 H.2.2.2.1 H.2.1 H.1
    have R1 := hz_RC_save H v1 s1
    obtain ⟨a1, a2⟩ := hw_attr_is (h := h1) (j := 0) (r := k) (a := 3) (x := hz_b b) (st := w.1) n10 hk (Or.inl rfl) R1.1
    refine ⟨hq_si h1 1 (11 * 0 + k) 3 (hz_b b), ?_, hz_RC_now R1 a1 (hz_ok_attr3 H.2.1) a2, (s1.weak hw_past_C).trans (a2.weak hw_own_C)⟩
    refine inX6_setStrict (d + 4) 0 _ _ h _ _ (fun _ => trivial) (fun J b0 => b0 _ _ _ ?_)
    refine Or.inl ⟨_, x_X6_requireRule_y (d + 3) k w.1.1 h hk n10 H.1.1, ?_⟩
    refine ⟨_, m1, _, _, x_X0_at (d + 3) 0 (show k < 10 by omega) h1, ?_⟩
    refine ⟨_, _, x_X0_at (d + 3) 0 (show k < 10 by omega) h1, ?_⟩
    have e3 : h1.1 1 (11 * 0 + k) 3 = w.1.2.1 k 3 := (R1.1.2.2.2.2.2 k hk).1 3 (by decide)
    refine ⟨by cases b <;> first | exact Or.inl rfl | exact Or.inr rfl, ?_⟩
    exact ⟨by rw [show (h1.1 1 (1, 11 * 0 + k).2 3) = w.1.2.1 k 3 from e3]; exact H.2.1.s k hk, hz_ri e3.symm, rfl⟩
def sp_waive (w : hz_W) (x days : Int32) : hz_X := match hz_ix x w.1.1 with
  | none => (.inr hz_IOB, w)
  | some k => if 0 ≤ days ∧ days ≤ 30 then (hz_o (w.1.2.2.2.1 + days), sp_saved w (hs_attr w.1 k 4 (w.1.2.2.2.1 + days))) else (.inr hz_IAE, w)
theorem t_waive (d : Nat) (h : hq_H) (w : hz_W) (H : hz_RC h w) (x days : Int32) : hz_Ans MX6_waive (d + 5) [.inr (3, 0), hz_i x, hz_i days] h (sp_waive w x days) := by
  have n10 := H.2.1.1
  unfold sp_waive
  cases hx : hz_ix x w.1.1 with
  | none =>
    refine ⟨h, ?_, H, hw_stay_rf⟩
    refine inX6_waive (d + 4) 0 x _ h _ _ (fun _ => trivial) (fun J b0 b15 => b0 _ _ _ ?_)
    exact Or.inr ⟨_, x_X6_requireRule_n (d + 3) w.1.1 x h hx H.1.1, rfl⟩
  | some k =>
    obtain ⟨rfl, hk⟩ := hz_ix_s (by omega) hx
    dsimp only
    by_cases c : 0 ≤ days ∧ days ≤ 30
    · rw [if_pos c]
      obtain ⟨h1, m1, v1, s1⟩ := x_X3_save (d + 1) h w.2.2.1 w.1 H.2.2.2.1 H.2.1 H.1
      have R1 := hz_RC_save H v1 s1
      obtain ⟨a1, a2⟩ := hw_attr_is (h := h1) (j := 0) (r := k) (a := 4) (x := w.1.2.2.2.1 + days) (st := w.1) n10 hk (Or.inr rfl) R1.1
      refine ⟨hq_si h1 1 (11 * 0 + k) 4 (w.1.2.2.2.1 + days), ?_, hz_RC_now R1 a1 (hz_ok_attr4 H.2.1) a2, (s1.weak hw_past_C).trans (a2.weak hw_own_C)⟩
      refine inX6_waive (d + 4) 0 _ _ h _ _ (fun _ => trivial) (fun J b0 b15 => b0 _ _ _ ?_)
      refine Or.inl ⟨_, x_X6_requireRule_y (d + 3) k w.1.1 h hk n10 H.1.1, ?_⟩
      refine hq_bf (Int32.not_lt.mpr c.1) (hq_bt c.2 ?_)
      have m2 := x_X0_waiveRule (d + 2) 0 k days h1 (by omega)
      rw [show h1.1 0 0 4 = w.1.2.2.2.1 from R1.1.2.2.1] at m2
      exact ⟨_, m1, _, _, m2, rfl, rfl⟩
    · rw [if_neg c]
      refine ⟨h, ?_, H, hw_stay_rf⟩
      refine inX6_waive (d + 4) 0 _ _ h _ _ (fun _ => trivial) (fun J b0 b15 => b0 _ _ _ ?_)
      refine Or.inl ⟨_, x_X6_requireRule_y (d + 3) k w.1.1 h hk n10 H.1.1, ?_⟩
      refine hq_bc (fun _ => b15 _ _ _ ⟨rfl, rfl⟩) (fun c1 => hq_bf (fun c2 => c ⟨Int32.not_lt.mp c1, c2⟩) (b15 _ _ _ ⟨rfl, rfl⟩))
/-- which rule refuses that a room is turned -/
def hz_rfs (st : hz_St) (room : Int32) : Int32 := hz_lo (hz_ref st.2.1 st.2.2.2.1 st.2.2.1 (st.2.2.1 ^^^ ((1 : Int32) <<< (room &&& 31)))) st.1 0
def sp_move (w : hz_W) (x : Int32) (fl : Bool) : hz_X := match hz_ix x 6 with
  | none => (.inr hz_IOB, w)
  | some k => if (hz_tst w.1.2.2.1 (nI k) == fl) && decide (hz_rfs w.1 (nI k) = -1) then (hz_o (hs_turn w.1 (nI k)).2.2.1, sp_saved w (hs_turn w.1 (nI k))) else (.inr hz_ISE, w)
theorem x_can (d : Nat) (h : hq_H) (st : hz_St) (H : hz_HC h 0 st) (hok : hz_okS st) (room : Int32) (fl : Bool) : hq_Met (d + 3) MX0_canTurn [.inr (0, 0), hz_i room, hz_i (hz_b fl)] h (hz_o (hz_b ((hz_tst st.2.2.1 room == fl) && decide (hz_rfs st room = -1)))) h := by
  have m := x_X0_canTurn d 0 room fl h st.1 st.2.1 hok.1 H.1 (fun k hk => (H.2.2.2.2.2 k hk).1) hok.s
  rw [H.2.1, H.2.2.1] at m
  exact m
theorem t_come (d : Nat) (h : hq_H) (w : hz_W) (H : hz_RC h w) (x : Int32) : hz_Ans MX6_come (d + 5) [.inr (3, 0), hz_i x] h (sp_move w x false) := by
  have n10 := H.2.1.1
  unfold sp_move
  cases hx : hz_ix x 6 with
  | none =>
    refine ⟨h, ?_, H, hw_stay_rf⟩
    refine inX6_come (d + 4) 0 x h _ _ (fun _ => trivial) (fun J b0 => b0 _ _ _ ?_)
    exact Or.inr ⟨_, x_X6_requireRoom_n (d + 3) x h hx, rfl⟩
  | some k =>
    obtain ⟨rfl, hk⟩ := hz_ix_s (by omega) hx
    dsimp only
    have mc := x_can (d + 1) h w.1 H.1 H.2.1 (nI k) false
    by_cases c : ((hz_tst w.1.2.2.1 (nI k) == false) && decide (hz_rfs w.1 (nI k) = -1)) = true
    · rw [if_pos c]
      rw [c] at mc
      obtain ⟨h1, m1, v1, s1⟩ := x_X3_save (d + 1) h w.2.2.1 w.1 H.2.2.2.1 H.2.1 H.1
      have R1 := hz_RC_save H v1 s1
      obtain ⟨a1, a2⟩ := hw_turn_is (h := h1) (j := 0) (st := w.1) (nI k) n10 R1.1
      refine ⟨_, ?_, hz_RC_now R1 a1 (hz_ok_turn H.2.1 hk) a2, (s1.weak hw_past_C).trans (a2.weak hw_own_C)⟩
      refine inX6_come (d + 4) 0 _ h _ _ (fun _ => trivial) (fun J b0 => b0 _ _ _ ?_)
      refine Or.inl ⟨_, x_X6_requireRoom_y (d + 3) k h hk, ?_⟩
      refine ⟨_, _, mc, hq_nt (by decide) ?_⟩
      refine ⟨_, m1, _, _, x_X0_turn (d + 3) 0 (nI k) h1, ?_⟩
      exact ⟨hz_ri (by rw [R1.1.2.1]; rfl), rfl⟩
    · rw [if_neg c]
      rw [(Bool.not_eq_true _).mp c] at mc
      refine ⟨h, ?_, H, hw_stay_rf⟩
      refine inX6_come (d + 4) 0 _ h _ _ (fun _ => trivial) (fun J b0 => b0 _ _ _ ?_)
      refine Or.inl ⟨_, x_X6_requireRoom_y (d + 3) k h hk, ?_⟩
      exact ⟨_, _, mc, hq_nf rfl ⟨rfl, rfl⟩⟩
theorem t_go (d : Nat) (h : hq_H) (w : hz_W) (H : hz_RC h w) (x : Int32) : hz_Ans MX6_go (d + 5) [.inr (3, 0), hz_i x] h (sp_move w x true) := by
  have n10 := H.2.1.1
  unfold sp_move
  cases hx : hz_ix x 6 with
  | none =>
    refine ⟨h, ?_, H, hw_stay_rf⟩
    refine inX6_go (d + 4) 0 x h _ _ (fun _ => trivial) (fun J b0 => b0 _ _ _ ?_)
    exact Or.inr ⟨_, x_X6_requireRoom_n (d + 3) x h hx, rfl⟩
  | some k =>
    obtain ⟨rfl, hk⟩ := hz_ix_s (by omega) hx
    dsimp only
    have mc := x_can (d + 1) h w.1 H.1 H.2.1 (nI k) true
    by_cases c : ((hz_tst w.1.2.2.1 (nI k) == true) && decide (hz_rfs w.1 (nI k) = -1)) = true
    · rw [if_pos c]
      rw [c] at mc
      obtain ⟨h1, m1, v1, s1⟩ := x_X3_save (d + 1) h w.2.2.1 w.1 H.2.2.2.1 H.2.1 H.1
      have R1 := hz_RC_save H v1 s1
      obtain ⟨a1, a2⟩ := hw_turn_is (h := h1) (j := 0) (st := w.1) (nI k) n10 R1.1
      refine ⟨_, ?_, hz_RC_now R1 a1 (hz_ok_turn H.2.1 hk) a2, (s1.weak hw_past_C).trans (a2.weak hw_own_C)⟩
      refine inX6_go (d + 4) 0 _ h _ _ (fun _ => trivial) (fun J b0 => b0 _ _ _ ?_)
      refine Or.inl ⟨_, x_X6_requireRoom_y (d + 3) k h hk, ?_⟩
      refine ⟨_, _, mc, hq_nt (by decide) ?_⟩
      refine ⟨_, m1, _, _, x_X0_turn (d + 3) 0 (nI k) h1, ?_⟩
      exact ⟨hz_ri (by rw [R1.1.2.1]; rfl), rfl⟩
    · rw [if_neg c]
      rw [(Bool.not_eq_true _).mp c] at mc
      refine ⟨h, ?_, H, hw_stay_rf⟩
      refine inX6_go (d + 4) 0 _ h _ _ (fun _ => trivial) (fun J b0 => b0 _ _ _ ?_)
      refine Or.inl ⟨_, x_X6_requireRoom_y (d + 3) k h hk, ?_⟩
      exact ⟨_, _, mc, hq_nf rfl ⟨rfl, rfl⟩⟩
def sp_pass (w : hz_W) (x : Int32) : hz_X := match hz_nn x with
  | none => (.inr hz_IAE, w)
  | some k => (hz_o (hz_tot w.1 k), sp_saved w (hs_nights w.1 k))
theorem t_pass (d : Nat) (h : hq_H) (w : hz_W) (H : hz_RC h w) (x : Int32) : hz_Ans MX6_pass (d + 5) [.inr (3, 0), hz_i x] h (sp_pass w x) := by
  have n10 := H.2.1.1
  unfold sp_pass
  cases hx : hz_nn x with
  | none =>
    refine ⟨h, ?_, H, hw_stay_rf⟩
    refine inX6_pass (d + 4) 0 x h _ _ (fun _ => trivial) (fun J b0 => b0 _ _ _ ?_)
    exact Or.inr ⟨_, x_X6_requireNights_n (d + 3) x h hx, rfl⟩
  | some k =>
    obtain ⟨rfl, k1, k30⟩ := hz_nn_s hx
    obtain ⟨h1, m1, v1, s1⟩ := x_X3_save (d + 1) h w.2.2.1 w.1 H.2.2.2.1 H.2.1 H.1
    have R1 := hz_RC_save H v1 s1
    obtain ⟨a1, a2⟩ := hw_nts_is (h := h1) (j := 0) (st := w.1) n10 R1.1 k
    refine ⟨_, ?_, hz_RC_now R1 a1 (hz_ok_nights H.2.1 k) a2, (s1.weak hw_past_C).trans (a2.weak hw_own_C)⟩
    refine inX6_pass (d + 4) 0 _ h _ _ (fun _ => trivial) (fun J b0 => b0 _ _ _ ?_)
    refine Or.inl ⟨_, x_X6_requireNights_y (d + 3) k h k1 k30, ?_⟩
    exact ⟨_, m1, _, _, x_X0_passNights d 0 k h1 w.1 n10 k30 R1.1, rfl, rfl⟩
def sp_append (w : hz_W) (x : Int32) : hz_X := if 33 ≤ x ∧ x ≤ 126 then (if w.2.2.2.1 < 60 then (hz_o (nI (w.2.2.2.1 + 1)), (w.1, w.2.1, w.2.2.1, (w.2.2.2.1 + 1, fun i => if i = w.2.2.2.1 then x.toNatClampNeg else w.2.2.2.2 i))) else (.inr hz_ISE, w)) else (.inr hz_IAE, w)
theorem hz_RC_buf {h h1 : hq_H} {w : hz_W} {b : Nat × (Nat → Nat)} (H : hz_RC h w) (hs : hw_stay (fun k _ => k = 3 ∨ k = 6) h h1) (hsn : h1.1 3 0 2 = h.1 3 0 2) (hb : hz_BF h1 b) : hz_RC h1 (w.1, w.2.1, w.2.2.1, b) := by
  obtain ⟨a, b', c, d, e⟩ := H
  have no : ∀ j k i, hw_own j k i → ¬ (k = 3 ∨ k = 6) := fun j k i z => by have := hw_own_k z; omega
  refine ⟨hz_HC_stay hs b'.1 (no 0) a, b', ?_, hz_SV_stay hs (by decide) (fun j k i _ _ z => no j k i z) d, hb⟩
  obtain ⟨w1, w2, w3⟩ := w
  match w2, c with
  | none, c => exact hsn.trans c
  | some s, c => exact ⟨hsn.trans c.1, hz_HC_stay hs c.2.2.1 (no 1) c.2.1, c.2.2⟩
def sp_clear (w : hz_W) : hz_X := (hz_o (nI w.2.2.2.1), (w.1, w.2.1, w.2.2.1, (0, w.2.2.2.2)))
theorem hz_RC_clear {h : hq_H} {w : hz_W} (H : hz_RC h w) : hz_RC (hq_si h 3 0 5 0) (w.1, w.2.1, w.2.2.1, (0, w.2.2.2.2)) ∧ hw_stay hw_C h (hq_si h 3 0 5 0) := by
  have s : hw_stay (fun k _ => k = 3 ∨ k = 6) h (hq_si h 3 0 5 0) := fun k' i hn => hq_si_both _ _ _ _ _ (fun z => hn (Or.inl z.1))
  refine ⟨hz_RC_buf H s (by rw [hq_si_at, if_neg (fun z => absurd z.2.1 (by decide))]) ⟨⟨by show 0 ≤ 60; omega, fun i hi => absurd hi (Nat.not_lt_zero i)⟩, ?_, fun i hi => absurd hi (Nat.not_lt_zero i)⟩, s.weak (fun k _ z => by show k < 13; omega)⟩
  rw [hq_si_at, if_pos ⟨rfl, rfl, rfl⟩]
  rfl
def sp_keep (w : hz_W) : hz_X := (hz_o w.1.2.2.2.1, (w.1, some w.1, w.2.2))
theorem t_keep (d : Nat) (h : hq_H) (w : hz_W) (H : hz_RC h w) : hz_Ans MX6_keep (d + 5) [.inr (3, 0)] h (sp_keep w) := by
  obtain ⟨b1, b2⟩ := hw_hb_is (h := h) (j := 1) (q := 0) (by decide) H.2.1.1 H.1
  have s3 : hw_stay (fun k i => k = 3 ∧ i = 0) (hw_hb h 1 0 w.1.1) (hq_si (hw_hb h 1 0 w.1.1) 3 0 2 1) := fun k i hn => hq_si_both _ _ _ _ _ hn
  have no3 : ∀ j k i, hw_own j k i → ¬ (k = 3 ∧ i = 0) := fun j k i z => by have := hw_own_k z; omega
  have nk : ∀ k, 2 ≤ k → ∀ i, ¬ hw_own 1 k i := fun k hk i z => by have := hw_own_k z; omega
  refine ⟨hq_si (hw_hb h 1 0 w.1.1) 3 0 2 1, ?_, ?_, ?_⟩
  · refine inX6_keep (d + 4) 0 h _ _ (fun _ => trivial) (fun J b0 => b0 _ _ _ ?_)
    refine ⟨_, x_X0_become (d + 2) 1 0 h w.1 H.2.1.1 (by decide) H.1 H.2.1.s, ?_⟩
    refine ⟨Or.inr rfl, hz_ri ?_, rfl⟩
    show w.1.2.2.2.1 = (hw_hb h 1 0 w.1.1).1 0 0 4
    rw [(b2 0 0 (fun z => by rcases z with ⟨-, z⟩ | ⟨z, -⟩ <;> omega)).1]
    exact H.1.2.2.1.symm
  · obtain ⟨a, b, c, e, f⟩ := H
    refine ⟨hz_HC_stay s3 b.1 (no3 0) (hz_HC_stay b2 b.1 (fun k i z => hw_own_apart (by decide) z) a), b, ⟨?_, hz_HC_stay s3 b.1 (no3 1) b1, b⟩, ?_, ?_⟩
    · rw [hq_si_at, if_pos ⟨rfl, rfl, rfl⟩]
    · exact hz_SV_stay s3 (by decide) (fun j k i _ _ z => no3 j k i z) (hz_SV_stay b2 (nk 4 (by decide) 0) (fun j k i _ _ z => hw_own_apart (by omega) z) e)
    · have f1 := hz_BF_stay b2 (nk 3 (by decide) 0) (nk 6 (by decide) 0) f
      exact ⟨f1.1, by rw [hq_si_at, if_neg (fun z => absurd z.2.1 (by decide))]; exact f1.2.1, fun i hi => by rw [hq_si_at, if_neg (fun z => absurd z.1 (by decide))]; exact f1.2.2 i hi⟩
  · exact (b2.weak hw_own_C).trans (s3.weak (fun k i z => by show k < 13; omega))
def sp_goBack (w : hz_W) : hz_X := match w.2.1 with
  | none => (.inr hz_ISE, w)
  | some s => (hz_o s.2.2.2.1, sp_saved w s)
theorem t_goBack (d : Nat) (h : hq_H) (w : hz_W) (H : hz_RC h w) : hz_Ans MX6_goBack (d + 5) [.inr (3, 0)] h (sp_goBack w) := by
  have S := H.2.2.1
  unfold sp_goBack
  cases hw : w.2.1 with
  | none =>
    rw [hw] at S
    refine ⟨h, ?_, H, hw_stay_rf⟩
    refine inX6_goBack (d + 4) 0 h _ _ (fun _ => trivial) (fun J b0 => b0 _ _ _ ?_)
    exact hq_nf S ⟨rfl, rfl⟩
  | some s =>
    rw [hw] at S
    obtain ⟨h1, m1, v1, s1⟩ := x_X3_save (d + 1) h w.2.2.1 w.1 H.2.2.2.1 H.2.1 H.1
    have R1 := hz_RC_save H v1 s1
    have S1 := R1.2.2.1
    have S1 : hz_SN h1 (some s) := by rw [← hw]; exact S1
    obtain ⟨b1, b2⟩ := hw_hb_is (h := h1) (j := 0) (q := 1) (by decide) S.2.2.1 S1.2.1
    refine ⟨_, ?_, hz_RC_now R1 b1 S.2.2 b2, (s1.weak hw_past_C).trans (b2.weak hw_own_C)⟩
    refine inX6_goBack (d + 4) 0 h _ _ (fun _ => trivial) (fun J b0 => b0 _ _ _ ?_)
    refine hq_nt (by rw [show h.1 3 (3, 0).2 2 = 1 from S.1]; decide) ?_
    refine ⟨_, m1, _, x_X0_become (d + 2) 0 1 h1 s S.2.2.1 (by decide) S1.2.1 S.2.2.s, ?_⟩
    exact ⟨hz_ri b1.2.2.1.symm, rfl⟩
def sp_undo (w : hz_W) : hz_X := if 0 < w.2.2.1.1 then (hz_o (nI (w.2.2.1.1 - 1)), (w.2.2.1.2 (w.2.2.1.1 - 1), w.2.1, (w.2.2.1.1 - 1, w.2.2.1.2), w.2.2.2)) else (.inr hz_ISE, w)
theorem t_undo (d : Nat) (h : hq_H) (w : hz_W) (H : hz_RC h w) : hz_Ans MX6_undo (d + 5) [.inr (3, 0)] h (sp_undo w) := by
  have V := H.2.2.2.1
  unfold sp_undo
  by_cases c : 0 < w.2.2.1.1
  · rw [if_pos c]
    obtain ⟨h1, m1, v1, c1, s1⟩ := x_X3_restore (d + 1) h w.2.2.1 V c
    have hok : hz_okS (w.2.2.1.2 (w.2.2.1.1 - 1)) := by
      obtain ⟨-, -, o, -, -, e⟩ := V
      exact (e (w.2.2.1.1 - 1) (by omega)).2
    refine ⟨h1, ?_, ?_, s1.weak (fun k i z => by rcases z with z | z; (show k < 13; omega); (exact hw_own_C k i z))⟩
    · refine inX6_undo (d + 4) 0 h _ _ (fun _ => trivial) (fun J b0 => b0 _ _ _ ?_)
      refine hq_bt (hz_lt (a := 0) rfl V.2.1 c (by have := V.1; omega)) ?_
      refine ⟨_, m1, ?_⟩
      exact ⟨hz_ri v1.2.1.symm, rfl⟩
    · obtain ⟨a, b, c', e, f⟩ := H
      have nk : ∀ k i, k = 3 ∨ k = 6 → ¬ hw_back k i := fun k i hk z => by
        rcases z with z | z
        · omega
        · have := hw_own_k z; omega
      refine ⟨c1, hok, hz_SN_stay s1 (nk 3 0 (Or.inl rfl)) (fun k i z z2 => ?_) c', v1, hz_BF_stay s1 (nk 3 0 (Or.inl rfl)) (nk 6 0 (Or.inr rfl)) f⟩
      rcases z2 with z2 | z2
      · exact hw_own_4 z z2
      · exact hw_own_apart (by decide) z z2
  · rw [if_neg c]
    refine ⟨h, ?_, H, hw_stay_rf⟩
    refine inX6_undo (d + 4) 0 h _ _ (fun _ => trivial) (fun J b0 => b0 _ _ _ ?_)
    exact hq_bf (hz_nlt (a := 0) rfl V.2.1 (by omega) (by decide)) ⟨rfl, rfl⟩
