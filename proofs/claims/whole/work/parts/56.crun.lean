-- ===== the class: a log is done =====
def hr_do (st : hz_St) (r : Nat → Int32) : Bool × hz_St :=
  if r 1 = 114 then (if st.1 < 10 then (true, hs_add st (r 2) (r 5) (r 6)) else (false, st))
  else if r 1 = 99 ∨ r 1 = 103 then (if ((hz_tst st.2.2.1 (r 4) == decide (r 1 = 103)) && decide (hz_rfs st (r 4) = -1)) = true then (true, hs_turn st (r 4)) else (false, st))
  else if r 1 = 110 then (true, hs_nights st (r 2).toNatClampNeg)
  else match hz_ix (r 2) st.1 with
    | some k => (true, hs_attr st k 4 (st.2.2.2.1 + r 3))
    | none => (false, st)
theorem hr_do_ok {st : hz_St} {r : Nat → Int32} (ok : hz_okS st) (D : hr_done r) : hz_okS (hr_do st r).2 := by
  unfold hr_do
  rcases D with ⟨h1, ⟨p, p1, p9, hp⟩, l, e, hl, he, h5, h6, hle, hne⟩ | ⟨h1, q, hq, h4⟩ | ⟨h1, p, p1, p9, hp⟩ | ⟨h1, ⟨p, p9, hp⟩, q, q9, h3⟩
  · rw [if_pos h1]
    by_cases c : st.1 < 10
    · rw [if_pos c, hp, h5, h6]
      exact hz_ok_add ok c hl he hle hne p1 p9
    · rw [if_neg c]
      exact ok
  · rw [if_neg (by rcases h1 with h1 | h1 <;> rw [h1] <;> decide), if_pos h1]
    split
    · rw [h4]
      exact hz_ok_turn ok hq
    · exact ok
  · rw [if_neg (by rw [h1]; decide), if_neg (by rw [h1]; decide), if_pos h1]
    exact hz_ok_nights ok _
  · rw [if_neg (by rw [h1]; decide), if_neg (by rw [h1]; decide), if_neg (by rw [h1]; decide)]
    cases hz_ix (r 2) st.1 with
    | none => exact ok
    | some k => exact hz_ok_attr4 ok
def hl_run (b : Nat → Nat) (n : Nat) : Nat → Nat → (Nat → Int32) → hz_St → Nat × hz_St
  | 0, _, _, st => (0, st)
  | f + 1, i, r, st => if (hr_do st (hl_part b n i r).2.2).1 = true then (if (hl_part b n i r).2.1 < n then ((hl_run b n f ((hl_part b n i r).2.1 + 1) (hr_put (hl_part b n i r).2.2 0 0) (hr_do st (hl_part b n i r).2.2).2).1 + 1, (hl_run b n f ((hl_part b n i r).2.1 + 1) (hr_put (hl_part b n i r).2.2 0 0) (hr_do st (hl_part b n i r).2.2).2).2) else (1, (hr_do st (hl_part b n i r).2.2).2)) else (0, st)
def sp_runLog (w : hz_W) (r : Nat → Int32) : hz_X := if hl_acc w.2.2.2.2 w.2.2.2.1 r = true then (hz_o (nI (hl_run w.2.2.2.2 w.2.2.2.1 (w.2.2.2.1 + 1) 0 r w.1).1), ((hl_run w.2.2.2.2 w.2.2.2.1 (w.2.2.2.1 + 1) 0 r w.1).2, w.2.1, hs_save w.2.2.1 w.1, (0, w.2.2.2.2))) else (.inr hz_IAE, w)
-- ===== the characters of a part =====
def hl_path (b : Nat → Nat) : Nat → Nat → (Nat → Int32) → (Nat → Int32) → Prop
  | 0, _, r, r' => r = r'
  | m + 1, i, r, r' => b i ≠ 59 ∧ ∃ r1, hr_take r (b i) = some r1 ∧ hl_path b m (i + 1) r1 r'
def hl_gp (b : Nat → Nat) (n j : Nat) (r : Nat → Int32) (Q : hr_Q) : Prop := Q.1 = true → j ≤ Q.2.1 ∧ Q.2.1 ≤ n ∧ hl_path b (Q.2.1 - j) j r Q.2.2
theorem hl_gp_no {b : Nat → Nat} {n j : Nat} {r r' : Nat → Int32} {i : Nat} : hl_gp b n j r (false, i, r') := fun z => (by cases z)
theorem hl_gp_end {b : Nat → Nat} {n j : Nat} {r : Nat → Int32} {x : Bool} (hj : j ≤ n) : hl_gp b n j r (x, j, r) := fun _ => ⟨Nat.le_refl _, hj, by
  show hl_path b (j - j) j r r
  rw [Nat.sub_self]
  rfl⟩
theorem hl_gp_next {b : Nat → Nat} {n j : Nat} {r r' : Nat → Int32} {Q : hr_Q} (hc : b j ≠ 59) (e : hr_take r (b j) = some r') (h : hl_gp b n (j + 1) r' Q) : hl_gp b n j r Q := fun ok => by
  obtain ⟨a1, a2, a3⟩ := h ok
  refine ⟨by omega, a2, ?_⟩
  rw [show Q.2.1 - j = (Q.2.1 - (j + 1)) + 1 by omega]
  exact ⟨hc, r', e, a3⟩
theorem hl_gp_S {b : Nat → Nat} {n j : Nat} {r : Nat → Int32} {K : (Nat → Int32) → hr_Q} (h59 : hr_take r 59 = none) (h : ∀ r', j < n → hr_take r (b j) = some r' → hl_gp b n (j + 1) r' (K r')) : hl_gp b n j r (hl_S b n j r K) := by
  unfold hl_S
  by_cases c : j < n
  · rw [if_pos c]
    cases e : hr_take r (b j) with
    | none => exact hl_gp_no
    | some r' => exact hl_gp_next (fun z => by rw [z, h59] at e; cases e) e (h r' c e)
  · rw [if_neg c]
    exact hl_gp_no
theorem hr_59_num (r : Nat → Int32) (a x : Int32) : hr_num r 59 a x = none := if_neg (fun z => absurd z.2 (by decide))
theorem hr_59_0 {r : Nat → Int32} (h : r 0 = 0) : hr_take r 59 = none := by rw [hr_take_0 _ h]; exact if_pos (by decide)
theorem hr_59_1 {r : Nat → Int32} (h : r 0 = 1) : hr_take r 59 = none := by rw [hr_take_1 _ h]; exact hr_59_num _ _ _
theorem hr_59_6 {r : Nat → Int32} (h : r 0 = 6) : hr_take r 59 = none := by rw [hr_take_6 _ h]; exact hr_59_num _ _ _
theorem hr_59_7 {r : Nat → Int32} (h : r 0 = 7) : hr_take r 59 = none := by rw [hr_take_7 _ h]; exact hr_59_num _ _ _
theorem hr_59_8 {r : Nat → Int32} (h : r 0 = 8) : hr_take r 59 = none := by rw [hr_take_8 _ h]; exact if_neg (fun z => absurd z.2 (by decide))
theorem hr_59_5 {r : Nat → Int32} (h : r 0 = 5) : hr_take r 59 = none := by rw [hr_take_5 _ h]; exact if_neg (by decide)
theorem hr_59_4 {r : Nat → Int32} (h : r 0 = 4) : hr_take r 59 = none := by
  rw [hr_take_4 _ h]
  refine if_neg (fun z => ?_)
  unfold hr_un at z
  rw [Bool.and_eq_true] at z
  exact absurd z.1 (by decide)
theorem hl_gp_sg {b : Nat → Nat} {n : Nat} : ∀ f j r, j ≤ n → hr_sgok r → hl_gp b n j r (hl_sg b n f j r) := by
  intro f
  induction f with
  | zero => intro j r _ _; exact hl_gp_no
  | succ f ih =>
    intro j r hj h
    unfold hl_sg
    by_cases c : j < n ∧ ¬ b j = 59
    · rw [if_pos c]
      cases e : hr_take r (b j) with
      | none => exact hl_gp_end hj
      | some r' =>
        have e2 := e
        rw [hr_sg_take h c.2] at e2
        unfold hr_sign at e2
        show hl_gp b n j r (if r' 0 = 4 then hl_S b n (j + 1) r' (fun r2 => hl_sg b n f (j + 2) r2) else hl_sg b n f (j + 1) r')
        by_cases c3 : b j = 33 ∧ ¬ (r 5 ||| r 6) = 63
        · rw [if_pos c3] at e2
          have e3 : hr_put r 0 4 = r' := Option.some.inj e2
          subst e3
          rw [if_pos (hr_put_e r 0 4)]
          refine hl_gp_next c.2 e (hl_gp_S (hr_59_4 (hr_put_e r 0 4)) (fun r2 h2 e4 => ?_))
          rw [hr_take_4 _ (hr_put_e r 0 4)] at e4
          unfold hr_emp at e4
          by_cases u : hr_un (hr_put r 0 4) (b (j + 1)) = true
          · rw [if_pos u] at e4
            have e5 := Option.some.inj e4
            rw [← e5]
            exact ih (j + 2) _ (by omega) (hr_sg_emp h u)
          · rw [if_neg u] at e4
            cases e4
        · rw [if_neg c3] at e2
          by_cases u : hr_un r (b j) = true
          · rw [if_pos u] at e2
            have e3 := Option.some.inj e2
            have s := hr_sg_let h u
            rw [e3] at s
            rw [if_neg (fun z => by
              have e0 : r' 0 = 3 := by rw [← e3]; exact hr_put_e _ _ _
              rw [e0] at z
              exact absurd z (by decide))]
            exact hl_gp_next c.2 e (ih (j + 1) _ (by omega) s)
          · rw [if_neg u] at e2
            cases e2
    · rw [if_neg c]
      exact hl_gp_end hj
theorem hl_gp_part {b : Nat → Nat} {n : Nat} (hb : ∀ i, i < n → b i ≤ 126) {i : Nat} {r : Nat → Int32} (h0 : r 0 = 0) : hl_gp b n i r (hl_part b n i r) := by
  unfold hl_part
  refine hl_gp_S (hr_59_0 h0) (fun r1 l1 e1 => ?_)
  rw [hr_take_0 _ h0] at e1
  obtain ⟨k5, k6, k1, k0⟩ := hr_kind_is e1
  rcases k0 with ⟨c, k0⟩ | ⟨c, k0⟩ | ⟨c, k0⟩ | ⟨c, k0⟩
  · rw [if_pos k0]
    refine hl_gp_S (hr_59_1 k0) (fun r2 l2 e2 => ?_)
    rw [hr_take_1 _ k0] at e2
    obtain ⟨p, p1, p9, -, e⟩ := hr_num_is (a := 1) (hb _ l2) (by decide) rfl e2
    refine hl_gp_sg (n + 1) (i + 2) r2 (by omega) ⟨0, 0, by decide, by decide, ?_, ?_, rfl, Or.inl ⟨?_, rfl⟩, ?_, p, p1, p9, ?_⟩
    · rw [e, hr_put_n _ _ (by decide), hr_put_n _ _ (by decide)]
      exact k5
    · rw [e, hr_put_n _ _ (by decide), hr_put_n _ _ (by decide)]
      exact k6
    · rw [e, hr_put_e]
    · rw [e, hr_put_n _ _ (by decide), hr_put_n _ _ (by decide), k1, c]
      rfl
    · rw [e, hr_put_n _ _ (by decide), hr_put_e]
  · rw [if_neg (by rw [k0]; decide), if_neg (by rw [k0]; decide)]
    exact hl_gp_S (hr_59_5 k0) (fun r2 l2 e2 => hl_gp_end (by omega))
  · rw [if_neg (by rw [k0]; decide), if_neg (by rw [k0]; decide)]
    exact hl_gp_S (hr_59_6 k0) (fun r2 l2 e2 => hl_gp_end (by omega))
  · rw [if_neg (by rw [k0]; decide), if_pos k0]
    refine hl_gp_S (hr_59_7 k0) (fun r2 l2 e2 => ?_)
    rw [hr_take_7 _ k0] at e2
    obtain ⟨p, p1, p9, -, e⟩ := hr_num_is (a := 0) (hb _ l2) (by decide) rfl e2
    exact hl_gp_S (hr_59_8 (by rw [e, hr_put_e])) (fun r3 l3 e3 => hl_gp_end (by omega))
-- ===== a part is done =====
def hr_at (g : hq_H) (r : Nat → Int32) : Prop := ∀ s, s < 7 → g.1 7 0 s = r s
theorem hw_rd_at {g : hq_H} {r : Nat → Int32} (A : hr_at g r) : hw_rd g r = g := by
  refine hq_ext (fun k i s => ?_) (fun _ _ _ => rfl)
  show (if k = 7 ∧ i = 0 ∧ s < 7 then r s else g.1 k i s) = g.1 k i s
  by_cases c : k = 7 ∧ i = 0 ∧ s < 7
  · rw [if_pos c, c.1, c.2.1, A s c.2.2]
  · rw [if_neg c]
theorem hr_at_rd (g : hq_H) (r : Nat → Int32) : hr_at (hw_rd g r) r := fun s hs => hw_rd_g g r hs
theorem hw_rd_rd (g : hq_H) (r q : Nat → Int32) : hw_rd (hw_rd g r) q = hw_rd g q := by
  refine hq_ext (fun k i s => ?_) (fun _ _ _ => rfl)
  show (if k = 7 ∧ i = 0 ∧ s < 7 then q s else if k = 7 ∧ i = 0 ∧ s < 7 then r s else g.1 k i s) = if k = 7 ∧ i = 0 ∧ s < 7 then q s else g.1 k i s
  by_cases c : k = 7 ∧ i = 0 ∧ s < 7
  · rw [if_pos c, if_pos c]
  · rw [if_neg c, if_neg c, if_neg c]
theorem hw_rd_st (g : hq_H) (r : Nat → Int32) : hw_stay (fun k _ => k = 7) g (hw_rd g r) := fun k i hn => ⟨by
  funext s
  exact if_neg (fun z => hn z.1), rfl⟩
theorem hr_at_stay {g g' : hq_H} {r : Nat → Int32} (A : hr_at g r) (s : hw_stay (hw_own 0) g g') : hr_at g' r := fun t ht => by
  rw [(s 7 0 (fun z => by have := hw_own_k z; omega)).1]
  exact A t ht
theorem x_addE (d : Nat) {p l e p' l' e' : Int32} (hp : p' = p) (hl : l' = l) (he : e' = e) (h : hq_H) (n : Nat) (hn : n < 10) (hc : h.1 0 0 2 = nI n) : hq_Met (d + 3) MX0_addRule [.inr (0, 0), hz_i p', hz_i l', hz_i e'] h (hz_o (nI n)) (hw_add h 0 n p l e) := by
  subst hp
  subst hl
  subst he
  exact x_X0_addRule d 0 _ _ _ h n hn hc
theorem x_nightsE (d q : Nat) {x : Int32} (hx : x = nI q) (h : hq_H) (st : hz_St) (hn : st.1 ≤ 10) (hq : q ≤ 30) (H : hz_HC h 0 st) : hq_Met (d + 4) MX0_passNights [.inr (0, 0), hz_i x] h (hz_o (hz_tot st q)) (hw_nts h 0 st q) := by
  subst hx
  exact x_X0_passNights d 0 q h st hn hq H
theorem x_waiveE (d k : Nat) {x y days day : Int32} (hx : x = nI k) (hy : y = days) (h : hq_H) (hr : k < 10) (hd : h.1 0 0 4 = day) : hq_Met (d + 2) MX0_waiveRule [.inr (0, 0), hz_i x, hz_i y] h (hz_o (day + days)) (hq_si h 1 (11 * 0 + k) 4 (day + days)) := by
  subst hx
  subst hy
  subst hd
  exact x_X0_waiveRule d 0 k _ h hr
theorem x_canE (d : Nat) (h : hq_H) (st : hz_St) (H : hz_HC h 0 st) (hok : hz_okS st) {x room : Int32} (hx : x = room) (fl : Bool) : hq_Met (d + 3) MX0_canTurn [.inr (0, 0), hz_i x, hz_i (hz_b fl)] h (hz_o (hz_b ((hz_tst st.2.2.1 room == fl) && decide (hz_rfs st room = -1)))) h := by
  subst hx
  exact x_can d h st H hok _ fl
theorem x_doPart (d : Nat) (g : hq_H) (st : hz_St) (r : Nat → Int32) (A : hr_at g r) (H : hz_HC g 0 st) (ok : hz_okS st) (D : hr_done r) : ∃ g', hq_Met (d + 5) MX6_doPart [.inr (3, 0)] g (hz_o (hz_b (hr_do st r).1)) g' ∧ hz_HC g' 0 (hr_do st r).2 ∧ hw_stay (hw_own 0) g g' := by
  have n10 := ok.1
  have ne : ∀ v u : Int32, r 1 = v → ¬ v = u → ¬ g.1 7 0 1 = u := fun v u h1 h2 z => h2 (h1.symm.trans ((A 1 (by decide)).symm.trans z))
  rcases D with ⟨h1, ⟨p, p1, p9, hp⟩, l, e, hl, he, h5, h6, hle, hne⟩ | ⟨h1, q, hq, h4⟩ | ⟨h1, p, p1, p9, hp⟩ | ⟨h1, ⟨p, p9, hp⟩, q, q9, h3⟩
  · unfold hr_do
    rw [if_pos h1]
    have e1 : g.1 7 0 1 = 114 := (A 1 (by decide)).trans h1
    by_cases c : st.1 < 10
    · rw [if_pos c]
      obtain ⟨q1, q2⟩ := hw_add_is (h := g) (j := 0) (st := st) (r 2) (r 5) (r 6) c H
      refine ⟨_, ?_, q1, q2⟩
      refine inX6_doPart (d + 4) 0 g _ _ (fun _ => trivial) (fun J b0 b101 b129 => b0 _ _ _ ?_)
      refine hq_bf (ne 114 99 h1 (by decide)) (hq_bf (ne 114 103 h1 (by decide)) (hq_bf (ne 114 110 h1 (by decide)) (hq_bt e1 ?_)))
      refine hq_bt (hz_lt (a := st.1) (b := 10) H.1 rfl c (by decide)) ?_
      exact ⟨_, _, x_addE (d + 1) (A 2 (by decide)) (A 5 (by decide)) (A 6 (by decide)) g st.1 c H.1, Or.inr rfl, rfl, rfl⟩
    · rw [if_neg c]
      refine ⟨g, ?_, H, hw_stay_rf⟩
      refine inX6_doPart (d + 4) 0 g _ _ (fun _ => trivial) (fun J b0 b101 b129 => b0 _ _ _ ?_)
      refine hq_bf (ne 114 99 h1 (by decide)) (hq_bf (ne 114 103 h1 (by decide)) (hq_bf (ne 114 110 h1 (by decide)) (hq_bt e1 ?_)))
      exact hq_bf (hz_nlt (a := st.1) (b := 10) H.1 rfl (by omega) (by omega)) ⟨Or.inl rfl, rfl, rfl⟩
  · unfold hr_do
    rw [if_neg (by rcases h1 with h1 | h1 <;> rw [h1] <;> decide), if_pos h1]
    have mc := x_canE (d + 1) g st H ok (A 4 (by decide)) (decide (r 1 = 103))
    have walk : ∀ (res : hq_R) (hr : hq_H), (∀ J : Nat → hq_C, (∀ (ls_ : hq_L) (st_ : List hq_V) (h_ : hq_H), (hk_v3r 0 (d + 4) MX0_canTurn (hk_if_ne (hk_aload 0 (hk_getf 3 0 (hk_aload 0 (hk_getf 3 6 (hk_getf 7 4 (hk_v2r 0 (d + 4) MX0_turn (hk_pop (hk_iconst 1 (hk_zret res hr))))))))) (hk_iconst 0 (hk_zret res hr)))) ls_ st_ h_ → J 129 ls_ st_ h_) → J 129 [some (.inr (3, 0))] [hz_i (hz_b (decide (r 1 = 103))), hz_i (g.1 7 0 4), .inr (0, 0)] g) → (hq_okS [.inr (3, 0)] → hq_okR res) → hq_Met (d + 5) MX6_doPart [.inr (3, 0)] g res hr := by
      intro res hr k129 hres
      refine inX6_doPart (d + 4) 0 g _ _ hres (fun J b0 b101 b129 => b0 _ _ _ ?_)
      have k129 := k129 J b129
      have t101 : J 101 [some (.inr (3, 0))] [] g := by
        refine b101 _ _ _ ?_
        refine hq_nc (fun c => ?_) (fun c => ?_)
        · have c : ¬ g.1 7 0 1 = 103 := c
          rw [A 1 (by decide)] at c
          rw [decide_eq_false c] at k129
          exact k129
        · have c : g.1 7 0 1 = 103 := c
          rw [A 1 (by decide)] at c
          rw [decide_eq_true c] at k129
          exact k129
      rcases h1 with h1 | h1
      · exact hq_bt ((A 1 (by decide)).trans h1) t101
      · exact hq_bf (ne 103 99 h1 (by decide)) (hq_bt ((A 1 (by decide)).trans h1) t101)
    by_cases c : ((hz_tst st.2.2.1 (r 4) == decide (r 1 = 103)) && decide (hz_rfs st (r 4) = -1)) = true
    · rw [if_pos c]
      rw [c] at mc
      obtain ⟨q1, q2⟩ := hw_turn_is (h := g) (j := 0) (st := st) (r 4) n10 H
      refine ⟨_, ?_, q1, q2⟩
      refine walk _ _ (fun J b129 => b129 _ _ _ ?_) (fun _ => trivial)
      refine ⟨_, _, mc, hq_nt hz_one0 ?_⟩
      have mt := x_X0_turn (d + 3) 0 (r 4) g
      rw [← A 4 (by decide)] at mt ⊢
      exact ⟨_, _, mt, Or.inr rfl, rfl, rfl⟩
    · rw [if_neg c]
      rw [ts_nt c] at mc
      refine ⟨g, ?_, H, hw_stay_rf⟩
      refine walk _ _ (fun J b129 => b129 _ _ _ ?_) (fun _ => trivial)
      exact ⟨_, _, mc, hq_nf rfl ⟨Or.inl rfl, rfl, rfl⟩⟩
  · unfold hr_do
    rw [if_neg (by rw [h1]; decide), if_neg (by rw [h1]; decide), if_pos h1, hp, nI_clamp (by omega)]
    obtain ⟨q1, q2⟩ := hw_nts_is n10 H p
    refine ⟨_, ?_, q1, q2⟩
    refine inX6_doPart (d + 4) 0 g _ _ (fun _ => trivial) (fun J b0 b101 b129 => b0 _ _ _ ?_)
    refine hq_bf (ne 110 99 h1 (by decide)) (hq_bf (ne 110 103 h1 (by decide)) (hq_bt ((A 1 (by decide)).trans h1) ?_))
    exact ⟨_, _, x_nightsE d p ((A 2 (by decide)).trans hp) g st n10 (by omega) H, Or.inr rfl, rfl, rfl⟩
  · unfold hr_do
    rw [if_neg (by rw [h1]; decide), if_neg (by rw [h1]; decide), if_neg (by rw [h1]; decide)]
    cases hx : hz_ix (r 2) st.1 with
    | none =>
      refine ⟨g, ?_, H, hw_stay_rf⟩
      refine inX6_doPart (d + 4) 0 g _ _ (fun _ => trivial) (fun J b0 b101 b129 => b0 _ _ _ ?_)
      refine hq_bf (ne 118 99 h1 (by decide)) (hq_bf (ne 118 103 h1 (by decide)) (hq_bf (ne 118 110 h1 (by decide)) (hq_bf (ne 118 114 h1 (by decide)) (hq_bt ((A 1 (by decide)).trans h1) ?_))))
      refine hq_bf (fun z => ?_) ⟨Or.inl rfl, rfl, rfl⟩
      have z : g.1 7 0 2 < g.1 0 0 2 := z
      rw [A 2 (by decide), H.1] at z
      refine hz_ix_n hx ⟨?_, z⟩
      rw [hp]
      exact nI_pos' (by omega)
    | some k =>
      obtain ⟨ek, hk⟩ := hz_ix_s (by omega) hx
      obtain ⟨q1, q2⟩ := hw_attr_is (h := g) (j := 0) (r := k) (a := 4) (x := st.2.2.2.1 + r 3) (st := st) n10 hk (Or.inr rfl) H
      refine ⟨_, ?_, q1, q2⟩
      refine inX6_doPart (d + 4) 0 g _ _ (fun _ => trivial) (fun J b0 b101 b129 => b0 _ _ _ ?_)
      refine hq_bf (ne 118 99 h1 (by decide)) (hq_bf (ne 118 103 h1 (by decide)) (hq_bf (ne 118 110 h1 (by decide)) (hq_bf (ne 118 114 h1 (by decide)) (hq_bt ((A 1 (by decide)).trans h1) ?_))))
      refine hq_bt (hz_lt ((A 2 (by decide)).trans ek) H.1 hk (by omega)) ?_
      exact ⟨_, _, x_waiveE (d + 2) k ((A 2 (by decide)).trans ek) (A 3 (by decide)) g (by omega) H.2.2.1, Or.inr rfl, rfl, rfl⟩
-- ===== a whole log is done =====
def hw_lg (k i : Nat) : Prop := hw_own 0 k i ∨ k = 7
theorem hz_BF_lg {h h' : hq_H} {b : Nat × (Nat → Nat)} (s : hw_stay hw_lg h h') (B : hz_BF h b) : hz_BF h' b := by
  have no : ∀ k i, k = 3 ∨ k = 6 → ¬ hw_lg k i := fun k i hk z => by
    rcases z with z | z
    · have := hw_own_k z
      omega
    · omega
  exact hz_BF_stay s (no 3 0 (Or.inl rfl)) (no 6 0 (Or.inr rfl)) B
theorem x_doLog_loop (d : Nat) {b : Nat → Nat} {n : Nat} (hb : ∀ i, i < n → b i ≤ 126) : ∀ f i (r : Nat → Int32) (g : hq_H) (st : hz_St) (dn : Nat), n - i < f → i ≤ n → r 0 = 0 → hr_at g r → hz_HC g 0 st → hz_okS st → hz_BF g (n, b) → (hl_log b n f i r).1 = true → (hl_log b n f i r).2.1 = n →
    ∃ g', hz_HC g' 0 (hl_run b n f i r st).2 ∧ hz_okS (hl_run b n f i r st).2 ∧ hw_stay hw_lg g g' ∧ ∀ J : Nat → hq_C, (∀ (ls_ : hq_L) (st_ : List hq_V) (h_ : hq_H), (hk_iload 2 (hk_aload 0 (hk_getf 3 5 (hk_icmp_ge (J 71) (hk_iload 2 (hk_aload 0 (hk_getf 3 4 (hk_alen 6 60 (hk_icmp_ge (J 71) (hk_aload 0 (hk_getf 3 4 (hk_iload 2 (hk_iald 6 60 (hk_bipush 59 (hk_icmp_ne (J 51) (hk_aload 0 (hk_v1r 3 (d + 5) MX6_doPart (hk_if_ne (hk_iinc 1 1 (J 51)) (hk_iload 1 (hk_iret (hz_o (nI (dn + (hl_run b n f i r st).1))) g')))))))))))))))))))) ls_ st_ h_ → J 11 ls_ st_ h_) → (∀ (ls_ : hq_L) (st_ : List hq_V) (h_ : hq_H), (hk_aload 0 (hk_getf 3 6 (hk_aload 0 (hk_getf 3 4 (hk_iload 2 (hk_iald 6 60 (hk_v2r 7 (d + 5) MX2_take (hk_pop (hk_iinc 2 1 (hk_goto (J 11))))))))))) ls_ st_ h_ → J 51 ls_ st_ h_) → (∀ (ls_ : hq_L) (st_ : List hq_V) (h_ : hq_H), (hk_aload 0 (hk_v1r 3 (d + 5) MX6_doPart (hk_if_eq (hk_iload 1 (hk_iret (hz_o (nI (dn + (hl_run b n f i r st).1))) g')) (hk_iload 1 (hk_iconst 1 (hk_iadd (hk_goto (hk_iret (hz_o (nI (dn + (hl_run b n f i r st).1))) g')))))))) ls_ st_ h_ → J 71 ls_ st_ h_) → J 11 [some (.inr (3, 0)), some (hz_i (nI dn)), some (hz_i (nI i))] [] g := by
  intro f
  induction f with
  | zero => intro i r g st dn hf; exact absurd hf (Nat.not_lt_zero _)
  | succ f ih =>
    intro i r g st dn hf hi h0 A H ok B acc1 acc2
    have n60 : n ≤ 60 := B.1.1
    have l1 := hl_part_lt hb hi h0
    obtain ⟨g1, g2, g3, g4, g5⟩ := hl_part_is hb hi h0
    have gp := hl_gp_part hb (n := n) (i := i) h0
    have eL : hl_log b n (f + 1) i r = if (hl_part b n i r).1 = true then (if (hl_part b n i r).2.1 < n ∧ b (hl_part b n i r).2.1 = 59 then hl_log b n f ((hl_part b n i r).2.1 + 1) (hr_put (hl_part b n i r).2.2 0 0) else (true, (hl_part b n i r).2)) else (false, (hl_part b n i r).2) := rfl
    have eR : hl_run b n (f + 1) i r st = if (hr_do st (hl_part b n i r).2.2).1 = true then (if (hl_part b n i r).2.1 < n then ((hl_run b n f ((hl_part b n i r).2.1 + 1) (hr_put (hl_part b n i r).2.2 0 0) (hr_do st (hl_part b n i r).2.2).2).1 + 1, (hl_run b n f ((hl_part b n i r).2.1 + 1) (hr_put (hl_part b n i r).2.2 0 0) (hr_do st (hl_part b n i r).2.2).2).2) else (1, (hr_do st (hl_part b n i r).2.2).2)) else (0, st) := rfl
    rw [eL] at acc1 acc2
    rw [eR]
    generalize hl_part b n i r = P at *
    have okP : P.1 = true := ts_nf (fun z => by rw [if_neg (by rw [z]; decide)] at acc1; cases acc1)
    obtain ⟨d0, dd, d2⟩ := g4 okP
    obtain ⟨-, lj⟩ := l1 okP
    obtain ⟨-, -, path⟩ := gp okP
    rw [if_pos okP] at acc1 acc2
    -- the characters of the part
    have AP := hr_at_rd g P.2.2
    have sP : hw_stay hw_lg g (hw_rd g P.2.2) := (hw_rd_st g P.2.2).weak (fun k i z => Or.inr z)
    have HP : hz_HC (hw_rd g P.2.2) 0 st := hz_HC_stay (hw_rd_st g P.2.2) ok.1 (fun k i z y => by have := hw_own_k z; omega) H
    obtain ⟨g6, mD, HD, sD⟩ := x_doPart d (hw_rd g P.2.2) st P.2.2 AP HP ok dd
    have okD := hr_do_ok ok dd
    have AD := hr_at_stay AP sD
    have sD' : hw_stay hw_lg g g6 := sP.trans (sD.weak (fun k i z => Or.inl z))
    have walk : ∀ (J : Nat → hq_C) (res : hq_R) (hr : hq_H), (∀ (ls_ : hq_L) (st_ : List hq_V) (h_ : hq_H), (hk_iload 2 (hk_aload 0 (hk_getf 3 5 (hk_icmp_ge (J 71) (hk_iload 2 (hk_aload 0 (hk_getf 3 4 (hk_alen 6 60 (hk_icmp_ge (J 71) (hk_aload 0 (hk_getf 3 4 (hk_iload 2 (hk_iald 6 60 (hk_bipush 59 (hk_icmp_ne (J 51) (hk_aload 0 (hk_v1r 3 (d + 5) MX6_doPart (hk_if_ne (hk_iinc 1 1 (J 51)) (hk_iload 1 (hk_iret res hr)))))))))))))))))))) ls_ st_ h_ → J 11 ls_ st_ h_) → (∀ (ls_ : hq_L) (st_ : List hq_V) (h_ : hq_H), (hk_aload 0 (hk_getf 3 6 (hk_aload 0 (hk_getf 3 4 (hk_iload 2 (hk_iald 6 60 (hk_v2r 7 (d + 5) MX2_take (hk_pop (hk_iinc 2 1 (hk_goto (J 11))))))))))) ls_ st_ h_ → J 51 ls_ st_ h_) → J 11 [some (.inr (3, 0)), some (hz_i (nI dn)), some (hz_i (nI P.2.1))] [] (hw_rd g P.2.2) → J 11 [some (.inr (3, 0)), some (hz_i (nI dn)), some (hz_i (nI i))] [] g := by
      intro J res hr b11 b51 kend
      have key : ∀ m j (q : Nat → Int32), j + m = P.2.1 → hl_path b m j q P.2.2 → J 11 [some (.inr (3, 0)), some (hz_i (nI dn)), some (hz_i (nI j))] [] (hw_rd g q) := by
        intro m
        induction m with
        | zero =>
          intro j q hj hp
          have hp : q = P.2.2 := hp
          rw [hp, show j = P.2.1 by omega]
          exact kend
        | succ m ihm =>
          intro j q hj hp
          obtain ⟨c59, q1, t1, p1⟩ := hp
          have Bq : hz_BF (hw_rd g q) (n, b) := hz_BF_lg ((hw_rd_st g q).weak (fun k i z => Or.inr z)) B
          refine b11 _ _ _ (hq_bf (hz_nle (a := n) (b := j) Bq.2.1 rfl (by omega) (by omega)) ?_)
          refine hq_bf (hz_nle (a := 60) (b := j) rfl rfl (by omega) (by decide)) ?_
          refine ⟨j, by omega, rfl, ?_⟩
          have cj : b j ≤ 126 := hb j (by omega)
          refine hq_nt (hz_ne (a := b j) (b := 59) (Bq.2.2 j (show j < n by omega)) rfl c59 (by omega) (by decide)) (b51 _ _ _ ?_)
          refine ⟨j, by omega, rfl, ?_⟩
          have m1 := x_take (d + 1) (b j) g q cj
          rw [t1] at m1
          rw [show nI (b j) = (hw_rd g q).1 6 0 j from (Bq.2.2 j (show j < n by omega)).symm] at m1
          have k := ihm (j + 1) q1 (by omega) p1
          rw [nI_succ j] at k
          exact ⟨_, _, m1, k⟩
      have k := key (P.2.1 - i) i r (by omega) path
      rw [hw_rd_at A] at k
      exact k
    have BP : hz_BF (hw_rd g P.2.2) (n, b) := hz_BF_lg sP B
    by_cases cD : (hr_do st P.2.2).1 = true
    · rw [if_pos cD]
      rw [cD] at mD
      by_cases cn : P.2.1 < n
      · have c59 : b P.2.1 = 59 := by
          by_cases z : b P.2.1 = 59
          · exact z
          · rw [if_neg (fun y => z y.2)] at acc2
            have acc2 : P.2.1 = n := acc2
            omega
        rw [if_pos ⟨cn, c59⟩] at acc1 acc2
        rw [if_pos cn]
        have A6 : hr_at (hw_rd g6 (hr_put P.2.2 0 0)) (hr_put P.2.2 0 0) := hr_at_rd _ _
        have s7 : hw_stay hw_lg g6 (hw_rd g6 (hr_put P.2.2 0 0)) := (hw_rd_st _ _).weak (fun k i z => Or.inr z)
        have H7 : hz_HC (hw_rd g6 (hr_put P.2.2 0 0)) 0 (hr_do st P.2.2).2 := hz_HC_stay (hw_rd_st _ _) okD.1 (fun k i z y => by have := hw_own_k z; omega) HD
        have B6 : hz_BF g6 (n, b) := hz_BF_lg sD' B
        obtain ⟨g8, r1, r2, r3, r4⟩ := ih (P.2.1 + 1) (hr_put P.2.2 0 0) (hw_rd g6 (hr_put P.2.2 0 0)) (hr_do st P.2.2).2 (dn + 1) (by omega) (by omega) (hr_put_e _ _ _) A6 H7 okD (hz_BF_lg s7 B6) acc1 acc2
        refine ⟨g8, r1, r2, sD'.trans (s7.trans r3), fun J b11 b51 b71 => walk J _ _ b11 b51 ?_⟩
        have er : dn + ((hl_run b n f (P.2.1 + 1) (hr_put P.2.2 0 0) (hr_do st P.2.2).2).1 + 1) = dn + 1 + (hl_run b n f (P.2.1 + 1) (hr_put P.2.2 0 0) (hr_do st P.2.2).2).1 := by omega
        rw [← er] at r4
        have r4 := r4 J b11 b51 b71
        rw [nI_succ P.2.1, nI_succ dn] at r4
        refine b11 _ _ _ (hq_bf (hz_nle (a := n) (b := P.2.1) BP.2.1 rfl cn (by omega)) ?_)
        refine hq_bf (hz_nle (a := 60) (b := P.2.1) rfl rfl (by omega) (by decide)) ?_
        refine ⟨P.2.1, by omega, rfl, ?_⟩
        refine hq_nf ((BP.2.2 P.2.1 cn).trans (by rw [show (n, b).2 P.2.1 = 59 from c59]; rfl)) ?_
        refine ⟨_, _, mD, hq_nt hz_one0 (b51 _ _ _ ?_)⟩
        refine ⟨P.2.1, by omega, rfl, ?_⟩
        have m1 := x_take (d + 1) (b P.2.1) g6 P.2.2 (hb P.2.1 cn)
        rw [hw_rd_at AD, show hr_take P.2.2 (b P.2.1) = some (hr_put P.2.2 0 0) from by rw [c59]; exact hr_take_59 d0] at m1
        rw [show nI (b P.2.1) = g6.1 6 0 P.2.1 from (B6.2.2 P.2.1 cn).symm] at m1
        exact ⟨_, _, m1, r4⟩
      · rw [if_neg cn]
        refine ⟨g6, HD, okD, sD', fun J b11 b51 b71 => walk J _ _ b11 b51 ?_⟩
        refine b11 _ _ _ (hq_bt (hz_le (a := n) (b := P.2.1) BP.2.1 rfl (by omega) (by omega)) (b71 _ _ _ ?_))
        exact ⟨_, _, mD, hq_bf hz_one0 ⟨hz_ri (nI_succ dn), rfl⟩⟩
    · rw [if_neg cD]
      rw [ts_nt cD] at mD
      have e2 : (hr_do st P.2.2).2 = st := by
        revert cD
        unfold hr_do
        split
        · split
          · exact fun z => absurd rfl z
          · exact fun _ => rfl
        · split
          · split
            · exact fun z => absurd rfl z
            · exact fun _ => rfl
          · split
            · exact fun z => absurd rfl z
            · split
              · exact fun z => absurd rfl z
              · exact fun _ => rfl
      rw [e2] at HD
      refine ⟨g6, HD, ok, sD', fun J b11 b51 b71 => walk J _ _ b11 b51 ?_⟩
      by_cases cn : P.2.1 < n
      · have c59 : b P.2.1 = 59 := by
          by_cases z : b P.2.1 = 59
          · exact z
          · rw [if_neg (fun y => z y.2)] at acc2
            have acc2 : P.2.1 = n := acc2
            omega
        refine b11 _ _ _ (hq_bf (hz_nle (a := n) (b := P.2.1) BP.2.1 rfl cn (by omega)) ?_)
        refine hq_bf (hz_nle (a := 60) (b := P.2.1) rfl rfl (by omega) (by decide)) ?_
        refine ⟨P.2.1, by omega, rfl, ?_⟩
        refine hq_nf ((BP.2.2 P.2.1 cn).trans (by rw [show (n, b).2 P.2.1 = 59 from c59]; rfl)) ?_
        exact ⟨_, _, mD, hq_nf rfl ⟨rfl, rfl⟩⟩
      · refine b11 _ _ _ (hq_bt (hz_le (a := n) (b := P.2.1) BP.2.1 rfl (by omega) (by omega)) (b71 _ _ _ ?_))
        exact ⟨_, _, mD, hq_bt rfl ⟨rfl, rfl⟩⟩
theorem t_runLog (d : Nat) (h : hq_H) (w : hz_W) (R : hz_RC h w) : ∃ r, r 0 = 0 ∧ hz_Ans MX6_runLog (d + 7) [.inr (3, 0)] h (sp_runLog w r) := by
  have B := R.2.2.2.2
  have n60 := B.1.1
  have hb : ∀ i, i < w.2.2.2.1 → w.2.2.2.2 i ≤ 126 := fun i hi => (B.1.2 i hi).2
  have m := x_readLog (d + 1) h w.2.2.2 B (h.1 7 0)
  rw [hw_rd_0] at m
  generalize hq : hr_go w.2.2.2.2 w.2.2.2.1 0 (hr_beg (h.1 7 0)) = Q at m
  have acq := hl_acc_go hb (r := hr_beg (h.1 7 0)) rfl
  rw [hq] at acq
  have sr : hw_stay (fun k _ => 7 ≤ k ∧ k < 13) h (hw_rd h Q.2) := (hw_rd_st h Q.2).weak (fun k i z => by omega)
  have R1 := hz_RC_free R sr
  have l1 : Q.1 ≤ w.2.2.2.1 := by
    have g := hl_log_is hb (w.2.2.2.1 + 1) 0 (hr_beg (h.1 7 0)) (by omega) (Nat.zero_le _) rfl
    have g1 : hr_go w.2.2.2.2 w.2.2.2.1 0 (hr_beg (h.1 7 0)) = _ := g.1
    rw [← hq, g1]
    exact g.2.1
  refine ⟨hr_beg Q.2, rfl, ?_⟩
  unfold sp_runLog
  have ea : hl_acc w.2.2.2.2 w.2.2.2.1 (hr_beg Q.2) = hl_acc w.2.2.2.2 w.2.2.2.1 (hr_beg (h.1 7 0)) := hl_acc_any hb rfl rfl
  by_cases c : hl_acc w.2.2.2.2 w.2.2.2.1 (hr_beg Q.2) = true
  · rw [if_pos c]
    have c' := acq.mp (ea ▸ c)
    obtain ⟨h1, m1, v1, s1⟩ := x_X3_save (d + 3) (hw_rd h Q.2) w.2.2.1 w.1 R1.2.2.2.1 R1.2.1 R1.1
    have R2 := hz_RC_save R1 v1 s1
    have A1 : hr_at h1 Q.2 := fun t ht => by
      rw [(s1 7 0 (fun z => by have := hw_past_k z; omega)).1]
      exact hr_at_rd h Q.2 t ht
    have A2 : hr_at (hw_rd h1 (hr_beg Q.2)) (hr_beg Q.2) := hr_at_rd _ _
    have s2 : hw_stay (fun k _ => 7 ≤ k ∧ k < 13) h1 (hw_rd h1 (hr_beg Q.2)) := (hw_rd_st h1 (hr_beg Q.2)).weak (fun k i z => by omega)
    have R3 := hz_RC_free R2 s2
    have acc := c
    unfold hl_acc at acc
    rw [Bool.and_eq_true, decide_eq_true_iff] at acc
    obtain ⟨g', q1, q2, q3, q4⟩ := x_doLog_loop d hb (w.2.2.2.1 + 1) 0 (hr_beg Q.2) (hw_rd h1 (hr_beg Q.2)) w.1 0 (by omega) (Nat.zero_le _) rfl A2 R3.1 R3.2.1 R3.2.2.2.2 acc.1 acc.2
    have nk : ∀ k i, 2 ≤ k → k ≠ 7 → ¬ hw_lg k i := fun k i h2 h7 z => by
      rcases z with z | z
      · have := hw_own_k z; omega
      · omega
    have R4 : hz_RC g' ((hl_run w.2.2.2.2 w.2.2.2.1 (w.2.2.2.1 + 1) 0 (hr_beg Q.2) w.1).2, w.2.1, hs_save w.2.2.1 w.1, w.2.2.2) := by
      obtain ⟨a, b, e1, e2, e3⟩ := R3
      exact ⟨q1, q2, hz_SN_stay q3 (nk 3 0 (by decide) (by decide)) (fun k i z y => by
        rcases y with y | y
        · exact hw_own_apart (by decide) z y
        · have := hw_own_k z; omega) e1, hz_SV_stay q3 (nk 4 0 (by decide) (by decide)) (fun j k i _ _ z y => by
        rcases y with y | y
        · exact hw_own_apart (by omega) z y
        · have := hw_own_k z; omega) e2, hz_BF_lg q3 e3⟩
    obtain ⟨r5, s5⟩ := hz_RC_clear R4
    refine ⟨_, ?_, r5, (sr.weak (fun k i z => z.2)).trans ((s1.weak hw_past_C).trans ((s2.weak (fun k i z => z.2)).trans ((q3.weak (fun k i z => by
      rcases z with z | z
      · exact hw_own_C k i z
      · show k < 13; omega)).trans s5)))⟩
    have md : hq_Met (d + 6) MX6_doLog [.inr (3, 0)] h1 (hz_o (nI (0 + (hl_run w.2.2.2.2 w.2.2.2.1 (w.2.2.2.1 + 1) 0 (hr_beg Q.2) w.1).1))) g' := by
      refine inX6_doLog (d + 5) 0 h1 _ _ (fun _ => trivial) (fun J b0 b11 b51 b71 => b0 _ _ _ ?_)
      have mb := x_begin (d + 4) h1 Q.2
      rw [hw_rd_at A1] at mb
      refine ⟨_, mb, ?_⟩
      exact q4 J b11 b51 b71
    rw [Nat.zero_add] at md
    refine inX6_runLog (d + 6) 0 h _ _ (fun _ => trivial) (fun J b0 b21 => b0 _ _ _ ?_)
    refine ⟨_, _, m, ?_⟩
    refine hq_bf (hz_nlt (a := Q.1) (b := w.2.2.2.1) rfl R1.2.2.2.2.2.1 (by omega) (by omega)) ?_
    have mE := x_atEnd (d + 5) h Q.2
    rw [c'.2] at mE
    refine ⟨_, _, mE, hq_nt hz_one0 ?_⟩
    exact ⟨_, m1, _, _, md, rfl, rfl⟩
  · rw [if_neg c]
    refine ⟨hw_rd h Q.2, ?_, R1, sr.weak (fun k i z => z.2)⟩
    refine inX6_runLog (d + 6) 0 h _ _ (fun _ => trivial) (fun J b0 b21 => b0 _ _ _ ?_)
    refine ⟨_, _, m, ?_⟩
    by_cases l : Q.1 < w.2.2.2.1
    · exact hq_bt (hz_lt (a := Q.1) (b := w.2.2.2.1) rfl R1.2.2.2.2.2.1 l (by omega)) (b21 _ _ _ ⟨rfl, rfl⟩)
    · refine hq_bf (hz_nlt (a := Q.1) (b := w.2.2.2.1) rfl R1.2.2.2.2.2.1 (by omega) (by omega)) ?_
      have mE := x_atEnd (d + 5) h Q.2
      rw [show hr_atEnd Q.2 = false from ts_nt (fun z => c (ea ▸ acq.mpr ⟨by omega, z⟩))] at mE
      exact ⟨_, _, mE, hq_nf rfl (b21 _ _ _ ⟨rfl, rfl⟩)⟩
