theorem x_at (d j : Nat) {x : Int32} {k : Nat} (hx : x = nI k) (hk : k < 10) (h : hq_H) : hq_Met (d + 1) MX0_at [.inr (0, j), hz_i x] h (.inl (some (.inr (1, 11 * j + k)))) h := by
  subst hx
  exact x_X0_at d j hk h
/-- two rules' cells hold the same -/
def hw_eqr (h : hq_H) (r : Nat) (h' : hq_H) (r' : Nat) : Prop := (∀ a, a < 6 → h.1 1 r a = h'.1 1 r' a) ∧ h.2 1 r 6 = h'.2 1 r' 6
theorem hw_eqr.trans {a b c : hq_H} {r s t : Nat} (h1 : hw_eqr a r b s) (h2 : hw_eqr b s c t) : hw_eqr a r c t := ⟨fun x hx => (h1.1 x hx).trans (h2.1 x hx), h1.2.trans h2.2⟩
theorem hw_rb_s (h : hq_H) (r q : Nat) : hw_eqr (hw_rb h r q) r h q := by
  obtain ⟨g0, g1, g2, g3, g4, g5, g6⟩ := hw_r7_s h r (h.1 1 q 0) (h.1 1 q 1) (h.1 1 q 2) (h.1 1 q 3) (h.1 1 q 4) (h.1 1 q 5) (h.2 1 q 6)
  refine ⟨fun a ha => ?_, g6⟩
  match a, ha with
  | 0, _ => exact g0
  | 1, _ => exact g1
  | 2, _ => exact g2
  | 3, _ => exact g3
  | 4, _ => exact g4
  | 5, _ => exact g5
  | a + 6, ha => omega
theorem hw_rb_o {h : hq_H} {r q k i : Nat} (hn : ¬ (k = 1 ∧ i = r)) : (hw_rb h r q).1 k i = h.1 k i ∧ (hw_rb h r q).2 k i = h.2 k i := hw_r7_o hn
-- ===== a rule made =====
def hs_row (p l e : Int32) (a : Nat) : Int32 := match a with
  | 0 => l
  | 1 => e
  | 2 => p
  | _ => 0
def hs_add (st : hz_St) (p l e : Int32) : hz_St := (st.1 + 1, fun k a => if k = st.1 then hs_row p l e a else st.2.1 k a, st.2.2)
def hw_add (h : hq_H) (j n : Nat) (p l e : Int32) : hq_H := hq_si (hw_r7 h (11 * j + n) l e p 0 0 0 (hz_hw l e)) 0 j 2 (h.1 0 j 2 + 1)
theorem hw_add_is {h : hq_H} {j : Nat} {st : hz_St} (p l e : Int32) (hn : st.1 < 10) (H : hz_HC h j st) : hz_HC (hw_add h j st.1 p l e) j (hs_add st p l e) ∧ hw_stay (hw_own j) h (hw_add h j st.1 p l e) := by
  obtain ⟨a1, a2, a3, a4, a5, a6⟩ := H
  have o : ∀ k i, ¬ (k = 1 ∧ i = 11 * j + st.1) → (hw_r7 h (11 * j + st.1) l e p 0 0 0 (hz_hw l e)).1 k i = h.1 k i ∧ (hw_r7 h (11 * j + st.1) l e p 0 0 0 (hz_hw l e)).2 k i = h.2 k i := fun k i z => hw_r7_o z
  obtain ⟨g0, g1, g2, g3, g4, g5, g6⟩ := hw_r7_s h (11 * j + st.1) l e p 0 0 0 (hz_hw l e)
  have o0 := (o 0 j (fun z => absurd z.1 (by decide))).1
  refine ⟨⟨?_, ?_, ?_, ?_, ?_, fun k hk => ?_⟩, fun k i hn2 => ?_⟩
  · unfold hw_add
    rw [hq_si_at, if_pos ⟨rfl, rfl, rfl⟩, a1]
    exact (nI_succ _).symm
  · unfold hw_add
    rw [hq_si_at, if_neg (fun z => absurd z.2.1 (by decide)), o0]
    exact a2
  · unfold hw_add
    rw [hq_si_at, if_neg (fun z => absurd z.2.1 (by decide)), o0]
    exact a3
  · unfold hw_add
    rw [hq_si_at, if_neg (fun z => absurd z.2.1 (by decide)), o0]
    exact a4
  · unfold hw_add
    rw [hq_si_at, if_neg (fun z => absurd z.2.1 (by decide)), o0]
    exact a5
  · have hk : k < st.1 + 1 := hk
    have e1 : ∀ i, (hw_add h j st.1 p l e).1 1 i = (hw_r7 h (11 * j + st.1) l e p 0 0 0 (hz_hw l e)).1 1 i := fun i => hq_si_o _ _ _ (fun z => absurd z.1 (by decide))
    have e2 : ∀ i, (hw_add h j st.1 p l e).2 1 i = (hw_r7 h (11 * j + st.1) l e p 0 0 0 (hz_hw l e)).2 1 i := fun i => rfl
    rw [e1, e2]
    by_cases hkn : k = st.1
    · subst hkn
      refine ⟨fun a ha => ?_, ?_⟩
      · show _ = (if st.1 = st.1 then hs_row p l e a else st.2.1 st.1 a)
        rw [if_pos rfl]
        match a, ha with
        | 0, _ => exact g0
        | 1, _ => exact g1
        | 2, _ => exact g2
        | 3, _ => exact g3
        | 4, _ => exact g4
        | 5, _ => exact g5
        | a + 6, ha => omega
      · rw [g6]
        show _ = hz_hw (if st.1 = st.1 then hs_row p l e 0 else st.2.1 st.1 0) (if st.1 = st.1 then hs_row p l e 1 else st.2.1 st.1 1)
        rw [if_pos rfl, if_pos rfl]
        rfl
    · have q := o 1 (11 * j + k) (fun z => hkn (by omega))
      rw [q.1, q.2]
      have b := a6 k (by omega)
      refine ⟨fun a ha => ?_, ?_⟩
      · show _ = (if k = st.1 then hs_row p l e a else st.2.1 k a)
        rw [if_neg hkn]
        exact b.1 a ha
      · rw [b.2]
        show _ = hz_hw (if k = st.1 then hs_row p l e 0 else st.2.1 k 0) (if k = st.1 then hs_row p l e 1 else st.2.1 k 1)
        rw [if_neg hkn, if_neg hkn]
        rfl
  · have n1 : ¬ (k = 0 ∧ i = j) := fun z => hn2 (Or.inl z)
    have q := o k i (fun z => hn2 (Or.inr ⟨z.1, by omega, by omega⟩))
    exact ⟨(hq_si_o _ _ _ n1).trans q.1, q.2⟩
theorem x_X0_addRule (d j : Nat) (p l e : Int32) (h : hq_H) (n : Nat) (hn : n < 10) (hc : h.1 0 j 2 = nI n) : hq_Met (d + 3) MX0_addRule [.inr (0, j), hz_i p, hz_i l, hz_i e] h (hz_o (nI n)) (hw_add h j n p l e) := by
  refine inX0_addRule (d + 2) j p l e h _ _ (fun _ => trivial) (fun J b0 => b0 _ _ _ ?_)
  refine ⟨_, _, x_at (d + 1) j hc hn h, ?_⟩
  refine ⟨_, x_X4_begin d _ p l e h, ?_⟩
  exact ⟨hz_ri hc.symm, rfl⟩
-- ===== a rule withdrawn =====
def hs_drop (st : hz_St) (r : Nat) : hz_St := (st.1 - 1, fun k a => if k < r then st.2.1 k a else st.2.1 (k + 1) a, st.2.2.1, st.2.2.2.1, st.2.2.2.2.1, st.2.2.2.2.2 + st.2.1 r 5)
def hw_dk (h : hq_H) (j r : Nat) : Nat → hq_H
  | 0 => h
  | m + 1 => hw_rb (hw_dk h j r m) (11 * j + (r + m)) (11 * j + (r + m + 1))
theorem hw_dk_o {h : hq_H} {j r k i : Nat} : ∀ {m : Nat}, ¬ (k = 1 ∧ 11 * j + r ≤ i ∧ i < 11 * j + (r + m)) → (hw_dk h j r m).1 k i = h.1 k i ∧ (hw_dk h j r m).2 k i = h.2 k i
  | 0, _ => ⟨rfl, rfl⟩
  | m + 1, hn => by
    have ih := hw_dk_o (h := h) (j := j) (r := r) (k := k) (i := i) (m := m) (fun z => hn ⟨z.1, z.2.1, by omega⟩)
    have h1 := hw_rb_o (h := hw_dk h j r m) (r := 11 * j + (r + m)) (q := 11 * j + (r + m + 1)) (k := k) (i := i) (fun z => hn ⟨z.1, by omega, by omega⟩)
    exact ⟨h1.1.trans ih.1, h1.2.trans ih.2⟩
theorem hw_dk_r {h : hq_H} {j r : Nat} : ∀ {m k : Nat}, r ≤ k → k < r + m → hw_eqr (hw_dk h j r m) (11 * j + k) h (11 * j + (k + 1))
  | 0, k, h1, h2 => by omega
  | m + 1, k, h1, h2 => by
    by_cases e : k = r + m
    · subst e
      have s := hw_rb_s (hw_dk h j r m) (11 * j + (r + m)) (11 * j + (r + m + 1))
      have o := hw_dk_o (h := h) (j := j) (r := r) (k := 1) (i := 11 * j + (r + m + 1)) (m := m) (fun z => by omega)
      exact s.trans ⟨fun a _ => by rw [o.1], by rw [o.2]⟩
    · have ih := hw_dk_r (h := h) (j := j) (r := r) (m := m) (k := k) h1 (by omega)
      have o := hw_rb_o (h := hw_dk h j r m) (r := 11 * j + (r + m)) (q := 11 * j + (r + m + 1)) (k := 1) (i := 11 * j + k) (fun z => by omega)
      exact ⟨fun a ha => by show (hw_rb _ _ _).1 _ _ _ = _; rw [o.1]; exact ih.1 a ha, by show (hw_rb _ _ _).2 _ _ _ = _; rw [o.2]; exact ih.2⟩
def hw_drop (h : hq_H) (j r n : Nat) : hq_H := hq_si (hw_dk (hq_si h 0 j 6 (h.1 0 j 6 + h.1 1 (11 * j + r) 5)) j r (n - 1 - r)) 0 j 2 (h.1 0 j 2 - 1)
theorem hw_drop_is {h : hq_H} {j r : Nat} {st : hz_St} (hn : st.1 ≤ 10) (hr : r < st.1) (H : hz_HC h j st) : hz_HC (hw_drop h j r st.1) j (hs_drop st r) ∧ hw_stay (hw_own j) h (hw_drop h j r st.1) := by
  obtain ⟨a1, a2, a3, a4, a5, a6⟩ := H
  have o0 := hw_dk_o (h := hq_si h 0 j 6 (h.1 0 j 6 + h.1 1 (11 * j + r) 5)) (j := j) (r := r) (k := 0) (i := j) (m := st.1 - 1 - r) (fun z => absurd z.1 (by decide))
  have rd : ∀ s, s ≠ 2 → s ≠ 6 → (hw_drop h j r st.1).1 0 j s = h.1 0 j s := fun s h2 h6 => by
    unfold hw_drop
    rw [hq_si_at, if_neg (fun z => h2 z.2.1), o0.1, hq_si_at, if_neg (fun z => h6 z.2.1)]
  refine ⟨⟨?_, ?_, ?_, ?_, ?_, fun k hk => ?_⟩, fun k i hn2 => ?_⟩
  · unfold hw_drop
    rw [hq_si_at, if_pos ⟨rfl, rfl, rfl⟩, a1]
    obtain ⟨m, hm⟩ : ∃ m, st.1 = m + 1 := ⟨st.1 - 1, by omega⟩
    show nI st.1 - 1 = nI (st.1 - 1)
    rw [hm]
    exact nI_pred m
  · rw [rd 3 (by decide) (by decide)]; exact a2
  · rw [rd 4 (by decide) (by decide)]; exact a3
  · rw [rd 5 (by decide) (by decide)]; exact a4
  · unfold hw_drop
    rw [hq_si_at, if_neg (fun z => absurd z.2.1 (by decide)), o0.1, hq_si_at, if_pos ⟨rfl, rfl, rfl⟩, a5, (a6 r hr).1 5 (by decide)]
    rfl
  · have hk : k < st.1 - 1 := hk
    have e1 : ∀ i, (hw_drop h j r st.1).1 1 i = (hw_dk (hq_si h 0 j 6 (h.1 0 j 6 + h.1 1 (11 * j + r) 5)) j r (st.1 - 1 - r)).1 1 i := fun i => hq_si_o _ _ _ (fun z => absurd z.1 (by decide))
    have e2 : ∀ i, (hw_drop h j r st.1).2 1 i = (hw_dk (hq_si h 0 j 6 (h.1 0 j 6 + h.1 1 (11 * j + r) 5)) j r (st.1 - 1 - r)).2 1 i := fun i => rfl
    have e3 : ∀ i, (hq_si h 0 j 6 (h.1 0 j 6 + h.1 1 (11 * j + r) 5)).1 1 i = h.1 1 i := fun i => hq_si_o _ _ _ (fun z => absurd z.1 (by decide))
    rw [e1, e2]
    by_cases hkr : k < r
    · have o := hw_dk_o (h := hq_si h 0 j 6 (h.1 0 j 6 + h.1 1 (11 * j + r) 5)) (j := j) (r := r) (k := 1) (i := 11 * j + k) (m := st.1 - 1 - r) (fun z => by omega)
      rw [o.1, o.2, e3]
      have b := a6 k (by omega)
      refine ⟨fun a ha => ?_, ?_⟩
      · show _ = (if k < r then st.2.1 k a else st.2.1 (k + 1) a)
        rw [if_pos hkr]
        exact b.1 a ha
      · refine b.2.trans ?_
        show _ = hz_hw (if k < r then st.2.1 k 0 else st.2.1 (k + 1) 0) (if k < r then st.2.1 k 1 else st.2.1 (k + 1) 1)
        rw [if_pos hkr, if_pos hkr]
        rfl
    · have s := hw_dk_r (h := hq_si h 0 j 6 (h.1 0 j 6 + h.1 1 (11 * j + r) 5)) (j := j) (r := r) (m := st.1 - 1 - r) (k := k) (by omega) (by omega)
      have b := a6 (k + 1) (by omega)
      refine ⟨fun a ha => ?_, ?_⟩
      · rw [s.1 a ha, e3]
        show _ = (if k < r then st.2.1 k a else st.2.1 (k + 1) a)
        rw [if_neg hkr]
        exact b.1 a ha
      · rw [s.2]
        refine b.2.trans ?_
        show _ = hz_hw (if k < r then st.2.1 k 0 else st.2.1 (k + 1) 0) (if k < r then st.2.1 k 1 else st.2.1 (k + 1) 1)
        rw [if_neg hkr, if_neg hkr]
        rfl
  · have n1 : ¬ (k = 0 ∧ i = j) := fun z => hn2 (Or.inl z)
    have o := hw_dk_o (h := hq_si h 0 j 6 (h.1 0 j 6 + h.1 1 (11 * j + r) 5)) (j := j) (r := r) (k := k) (i := i) (m := st.1 - 1 - r) (fun z => hn2 (Or.inr ⟨z.1, by omega, by omega⟩))
    exact ⟨(hq_si_o _ _ _ n1).trans (o.1.trans (hq_si_o _ _ _ n1)), o.2⟩
theorem x_X0_dropRule (d j r : Nat) (h : hq_H) (st : hz_St) (hn : st.1 ≤ 10) (hr : r < st.1) (H : hz_HC h j st) (hs : ∀ k, k < st.1 → st.2.1 k 3 = 0 ∨ st.2.1 k 3 = 1) : hq_Met (d + 2) MX0_dropRule [.inr (0, j), hz_i (nI r)] h hz_v (hw_drop h j r st.1) := by
  refine inX0_dropRule (d + 1) j (nI r) h _ _ (fun _ => trivial) (fun J b0 b19 => b0 _ _ _ ?_)
  obtain ⟨a1, -, -, -, -, a6⟩ := H
  refine ⟨_, _, x_X0_at d j (show r < 10 by omega) h, ?_⟩
  show J 19 [some (.inr (0, j)), some (hz_i (nI r)), some (hz_i (nI r))] [] (hq_si h 0 j 6 (h.1 0 j 6 + h.1 1 (11 * j + r) 5))
  generalize hg : hq_si h 0 j 6 (h.1 0 j 6 + h.1 1 (11 * j + r) 5) = h5
  have c5 : h5.1 0 j 2 = h.1 0 j 2 := by rw [← hg, hq_si_at, if_neg (fun z => absurd z.2.1 (by decide))]
  have cnt : ∀ m, (hw_dk h5 j r m).1 0 j 2 = nI st.1 := fun m => by
    rw [(hw_dk_o (h := h5) (j := j) (r := r) (k := 0) (i := j) (m := m) (fun z => absurd z.1 (by decide))).1, c5]
    exact a1
  have src : ∀ m, r + m + 1 < st.1 → (hw_dk h5 j r m).1 1 (11 * j + (r + m + 1)) 3 = 0 ∨ (hw_dk h5 j r m).1 1 (11 * j + (r + m + 1)) 3 = 1 := fun m hm => by
    rw [(hw_dk_o (h := h5) (j := j) (r := r) (k := 1) (i := 11 * j + (r + m + 1)) (m := m) (fun z => by omega)).1, ← hg, hq_si_o _ _ _ (fun z => absurd z.1 (by decide)), (a6 _ hm).1 3 (by decide)]
    exact hs _ hm
  have fin : hw_drop h j r st.1 = hq_si (hw_dk h5 j r (st.1 - 1 - r)) 0 j 2 ((hw_dk h5 j r (st.1 - 1 - r)).1 0 j 2 - 1) := by unfold hw_drop; rw [hg, cnt, a1]
  rw [fin] at b19
  refine hq_up (P := fun k => J 19 [some (.inr (0, j)), some (hz_i (nI r)), some (hz_i (nI (r + k)))] [] (hw_dk h5 j r k)) (st.1 - 1 - r) (b19 _ _ _ ?_) (fun k hk ih => b19 _ _ _ ?_) 0 (Nat.zero_le _)
  · exact hq_bt (hz_le (cnt _) (nI_succ _).symm (by omega) (by omega)) ⟨rfl, rfl⟩
  · refine hq_bf (hz_nle (cnt _) (nI_succ _).symm (by omega) (by omega)) ?_
    refine ⟨_, _, x_X0_at d j (show r + k < 10 by omega) _, ?_⟩
    refine ⟨_, _, x_at d j (nI_succ (r + k)).symm (show r + k + 1 < 10 by omega) _, ?_⟩
    refine ⟨_, x_X4_become d (11 * j + (r + k)) (11 * j + (r + k + 1)) _ (src k (by omega)), ?_⟩
    rw [show r + (k + 1) = r + k + 1 from rfl, nI_succ] at ih
    exact ih
-- ===== waivers, turns =====
theorem x_X0_waiveRule (d j r : Nat) (days : Int32) (h : hq_H) (hr : r < 10) : hq_Met (d + 2) MX0_waiveRule [.inr (0, j), hz_i (nI r), hz_i days] h (hz_o (h.1 0 j 4 + days)) (hq_si h 1 (11 * j + r) 4 (h.1 0 j 4 + days)) := by
  refine inX0_waiveRule (d + 1) j (nI r) days h _ _ (fun _ => trivial) (fun J b0 => b0 _ _ _ ?_)
  refine ⟨_, _, x_X0_at d j hr h, ?_⟩
  exact ⟨rfl, rfl⟩
def hz_wd (x : Int32) : Int32 := if 0 < x then x else 0
theorem x_X0_daysWaived (d j r : Nat) (h : hq_H) (hr : r < 10) : hq_Met (d + 2) MX0_daysWaived [.inr (0, j), hz_i (nI r)] h (hz_o (hz_wd (h.1 1 (11 * j + r) 4 - h.1 0 j 4))) h := by
  refine inX0_daysWaived (d + 1) j (nI r) h _ _ (fun _ => trivial) (fun J b0 => b0 _ _ _ ?_)
  refine ⟨_, _, x_X0_at d j hr h, ?_⟩
  exact ⟨rfl, rfl⟩
def hz_tst (m x : Int32) : Bool := !decide ((m >>> (x &&& 31)) &&& 1 = 0)
theorem x_X0_canTurn (d j : Nat) (room : Int32) (fl : Bool) (h : hq_H) (n : Nat) (R : hz_R) (hn : n ≤ 10) (hc : h.1 0 j 2 = nI n) (hR : ∀ k, k < n → ∀ a, a < 6 → h.1 1 (11 * j + k) a = R k a) (hs : ∀ k, k < n → R k 3 = 0 ∨ R k 3 = 1) :
    hq_Met (d + 3) MX0_canTurn [.inr (0, j), hz_i room, hz_i (hz_b fl)] h (hz_o (hz_b ((hz_tst (h.1 0 j 3) room == fl) && decide (hz_lo (hz_ref R (h.1 0 j 4) (h.1 0 j 3) (h.1 0 j 3 ^^^ ((1 : Int32) <<< (room &&& 31)))) n 0 = -1)))) h := by
  refine inX0_canTurn (d + 2) j room (hz_b fl) h _ _ (fun _ => trivial) (fun J b0 b16 => b0 _ _ _ ?_)
  have main : ∀ x : Bool, hz_tst (h.1 0 j 3) room = x → J 16 [some (.inr (0, j)), some (hz_i room), some (hz_i (hz_b fl)), none] [hz_i (hz_b x)] h := by
    intro x hx
    refine b16 _ _ _ ?_
    rw [hx]
    by_cases hxf : x = fl
    · subst hxf
      refine hq_nf rfl ?_
      refine ⟨_, _, x_X0_refuser d j room h n R hn hc hR hs, ?_⟩
      refine hq_nc (fun c => ?_) (fun c => ?_)
      · refine ⟨Or.inl rfl, hz_rf ?_, rfl⟩
        exact hz_andR (decide_eq_false c)
      · refine ⟨Or.inr rfl, hz_rb ?_, rfl⟩
        exact hz_andT (by cases x <;> rfl) (decide_eq_true c)
    · refine hq_nt (by cases x <;> cases fl <;> first | exact absurd rfl hxf | decide) ?_
      refine ⟨Or.inl rfl, hz_rf ?_, rfl⟩
      exact hz_andL (by cases x <;> cases fl <;> first | exact absurd rfl hxf | rfl)
  refine hq_bc (fun c => ?_) (fun c => ?_)
  · exact main false (by unfold hz_tst; rw [decide_eq_true (show (h.1 0 j 3 >>> (room &&& 31)) &&& 1 = 0 from c)]; rfl)
  · exact main true (by unfold hz_tst; rw [decide_eq_false (show ¬ (h.1 0 j 3 >>> (room &&& 31)) &&& 1 = 0 from c)]; rfl)
theorem x_X0_turn (d j : Nat) (room : Int32) (h : hq_H) : hq_Met (d + 1) MX0_turn [.inr (0, j), hz_i room] h (hz_o (h.1 0 j 3 ^^^ ((1 : Int32) <<< (room &&& 31)))) (hq_si h 0 j 3 (h.1 0 j 3 ^^^ ((1 : Int32) <<< (room &&& 31)))) := by
  refine inX0_turn d j room h _ _ (fun _ => trivial) (fun J b0 => b0 _ _ _ ?_)
  refine ⟨hz_ri ?_, rfl⟩
  exact (if_pos rfl).symm
/-- the account of all -/
def hz_acc (R : hz_R) (w : Int32) : Nat → Int32
  | 0 => w
  | k + 1 => hz_acc R w k + R k 5
theorem x_X0_accounts (d j : Nat) (h : hq_H) (n : Nat) (R : hz_R) (hn : n ≤ 10) (hc : h.1 0 j 2 = nI n) (hR : ∀ k, k < n → ∀ a, a < 6 → h.1 1 (11 * j + k) a = R k a) : hq_Met (d + 2) MX0_accounts [.inr (0, j)] h (hz_o (hz_acc R (h.1 0 j 6) n)) h := by
  refine inX0_accounts (d + 1) j h _ _ (fun _ => trivial) (fun J b0 b7 => b0 _ _ _ ?_)
  refine hq_up (P := fun k => J 7 [some (.inr (0, j)), some (hz_i (hz_acc R (h.1 0 j 6) k)), some (hz_i (nI k))] [] h) n (b7 _ _ _ ?_) (fun k hk ih => b7 _ _ _ ?_) 0 (Nat.zero_le _)
  · exact hq_bt (hz_le hc rfl (Nat.le_refl _) (by omega)) ⟨rfl, rfl⟩
  · refine hq_bf (hz_nle hc rfl hk (by omega)) ?_
    refine ⟨_, _, x_X0_at d j (show k < 10 by omega) h, ?_⟩
    rw [nI_succ, show hz_acc R (h.1 0 j 6) (k + 1) = hz_acc R (h.1 0 j 6) k + R k 5 from rfl, ← hR k hk 5 (by decide)] at ih
    exact ih
-- ===== nights =====
def hs_night (st : hz_St) : hz_St := (st.1, fun k a => if a = 5 then (if hz_brk st.2.1 st.2.2.2.1 st.2.2.1 k = true then st.2.1 k 5 + st.2.1 k 2 else st.2.1 k 5) else st.2.1 k a, st.2.2.1, st.2.2.2.1 + 1, st.2.2.2.2.1 + hz_night st.2.1 st.1 st.2.2.2.1 st.2.2.1, st.2.2.2.2.2)
def hw_br (h : hq_H) (j : Nat) (p : Nat → Bool) : Nat → hq_H
  | 0 => h
  | k + 1 => if p k = true then hq_si (hw_br h j p k) 1 (11 * j + k) 5 ((hw_br h j p k).1 1 (11 * j + k) 5 + (hw_br h j p k).1 1 (11 * j + k) 2) else hw_br h j p k
theorem hw_br_y {h : hq_H} {j : Nat} {p : Nat → Bool} {k : Nat} (hp : p k = true) : hw_br h j p (k + 1) = hq_si (hw_br h j p k) 1 (11 * j + k) 5 ((hw_br h j p k).1 1 (11 * j + k) 5 + (hw_br h j p k).1 1 (11 * j + k) 2) := if_pos hp
theorem hw_br_n {h : hq_H} {j : Nat} {p : Nat → Bool} {k : Nat} (hp : p k = false) : hw_br h j p (k + 1) = hw_br h j p k := if_neg (by rw [hp]; decide)
theorem hw_br_2 (h : hq_H) (j : Nat) (p : Nat → Bool) : ∀ m, (hw_br h j p m).2 = h.2
  | 0 => rfl
  | m + 1 => by
    cases hp : p m with
    | true => rw [hw_br_y hp]; exact hw_br_2 h j p m
    | false => rw [hw_br_n hp]; exact hw_br_2 h j p m
theorem hw_br_1 (h : hq_H) (j : Nat) (p : Nat → Bool) (k i s : Nat) : ∀ m, (hw_br h j p m).1 k i s = if k = 1 ∧ s = 5 ∧ 11 * j ≤ i ∧ i < 11 * j + m ∧ p (i - 11 * j) = true then h.1 k i s + h.1 k i 2 else h.1 k i s
  | 0 => by rw [if_neg (fun z => by omega)]; rfl
  | m + 1 => by
    have ih5 := hw_br_1 h j p 1 (11 * j + m) 5 m
    have ih2 := hw_br_1 h j p 1 (11 * j + m) 2 m
    have ih := hw_br_1 h j p k i s m
    rw [if_neg (fun z => by omega)] at ih5
    rw [if_neg (fun z => absurd z.2.1 (by decide))] at ih2
    cases hp : p m with
    | true =>
      rw [hw_br_y hp, hq_si_at, ih5, ih2, ih]
      by_cases e : k = 1 ∧ s = 5 ∧ i = 11 * j + m
      · obtain ⟨rfl, rfl, rfl⟩ := e
        rw [if_pos ⟨rfl, rfl, rfl⟩, if_pos ⟨rfl, rfl, by omega, by omega, by rw [show 11 * j + m - 11 * j = m by omega]; exact hp⟩]
      · rw [if_neg e]
        by_cases e2 : k = 1 ∧ s = 5 ∧ 11 * j ≤ i ∧ i < 11 * j + m ∧ p (i - 11 * j) = true
        · rw [if_pos e2, if_pos ⟨e2.1, e2.2.1, e2.2.2.1, by omega, e2.2.2.2.2⟩]
        · rw [if_neg e2, if_neg]
          intro z
          by_cases e3 : i = 11 * j + m
          · exact e ⟨z.1, z.2.1, e3⟩
          · exact e2 ⟨z.1, z.2.1, z.2.2.1, by omega, z.2.2.2.2⟩
    | false =>
      rw [hw_br_n hp, ih]
      by_cases e2 : k = 1 ∧ s = 5 ∧ 11 * j ≤ i ∧ i < 11 * j + m ∧ p (i - 11 * j) = true
      · rw [if_pos e2, if_pos ⟨e2.1, e2.2.1, e2.2.2.1, by omega, e2.2.2.2.2⟩]
      · rw [if_neg e2, if_neg]
        intro z
        by_cases e3 : i = 11 * j + m
        · have z5 := z.2.2.2.2
          rw [e3, show 11 * j + m - 11 * j = m by omega, hp] at z5
          cases z5
        · exact e2 ⟨z.1, z.2.1, z.2.2.1, by omega, z.2.2.2.2⟩
def hw_nt (h : hq_H) (j : Nat) (st : hz_St) : hq_H := hq_si (hq_si (hw_br h j (hz_brk st.2.1 st.2.2.2.1 st.2.2.1) st.1) 0 j 5 (h.1 0 j 5 + hz_night st.2.1 st.1 st.2.2.2.1 st.2.2.1)) 0 j 4 (h.1 0 j 4 + 1)
theorem hw_nt_is {h : hq_H} {j : Nat} {st : hz_St} (hn : st.1 ≤ 10) (H : hz_HC h j st) : hz_HC (hw_nt h j st) j (hs_night st) ∧ hw_stay (hw_own j) h (hw_nt h j st) := by
  obtain ⟨a1, a2, a3, a4, a5, a6⟩ := H
  have r0 : ∀ s, (hw_br h j (hz_brk st.2.1 st.2.2.2.1 st.2.2.1) st.1).1 0 j s = h.1 0 j s := fun s => by rw [hw_br_1, if_neg (fun z => absurd z.1 (by decide))]
  have rd : ∀ s, s ≠ 5 → s ≠ 4 → (hw_nt h j st).1 0 j s = h.1 0 j s := fun s h5 h4 => by
    unfold hw_nt
    rw [hq_si_at, if_neg (fun z => h4 z.2.1), hq_si_at, if_neg (fun z => h5 z.2.1), r0]
  refine ⟨⟨?_, ?_, ?_, ?_, ?_, fun k hk => ?_⟩, fun k i hn2 => ?_⟩
  · rw [rd 2 (by decide) (by decide)]; exact a1
  · rw [rd 3 (by decide) (by decide)]; exact a2
  · unfold hw_nt
    rw [hq_si_at, if_pos ⟨rfl, rfl, rfl⟩, a3]
    rfl
  · unfold hw_nt
    rw [hq_si_at, if_neg (fun z => absurd z.2.1 (by decide)), hq_si_at, if_pos ⟨rfl, rfl, rfl⟩, a4]
    rfl
  · rw [rd 6 (by decide) (by decide)]; exact a5
  · have hk : k < st.1 := hk
    have e1 : ∀ i s, (hw_nt h j st).1 1 i s = (hw_br h j (hz_brk st.2.1 st.2.2.2.1 st.2.2.1) st.1).1 1 i s := fun i s => by
      unfold hw_nt
      rw [hq_si_at, if_neg (fun z => absurd z.1 (by decide)), hq_si_at, if_neg (fun z => absurd z.1 (by decide))]
    have e2 : (hw_nt h j st).2 = h.2 := hw_br_2 h j _ _
    have b := a6 k hk
    refine ⟨fun a ha => ?_, ?_⟩
    · rw [e1, hw_br_1]
      show _ = (if a = 5 then (if hz_brk st.2.1 st.2.2.2.1 st.2.2.1 k = true then st.2.1 k 5 + st.2.1 k 2 else st.2.1 k 5) else st.2.1 k a)
      by_cases ea : a = 5
      · subst ea
        rw [if_pos rfl]
        by_cases eb : hz_brk st.2.1 st.2.2.2.1 st.2.2.1 k = true
        · rw [if_pos eb, if_pos ⟨rfl, rfl, by omega, by omega, by rw [show 11 * j + k - 11 * j = k by omega]; exact eb⟩, b.1 5 (by decide), b.1 2 (by decide)]
        · rw [if_neg eb, if_neg (fun z => eb (by have := z.2.2.2.2; rwa [show 11 * j + k - 11 * j = k by omega] at this)), b.1 5 (by decide)]
      · rw [if_neg ea, if_neg (fun z => ea z.2.1)]
        exact b.1 a ha
    · rw [e2, b.2]
      rfl
  · have n1 : ¬ (k = 0 ∧ i = j) := fun z => hn2 (Or.inl z)
    refine ⟨?_, ?_⟩
    · unfold hw_nt
      rw [hq_si_o _ _ _ n1, hq_si_o _ _ _ n1]
      funext s
      rw [hw_br_1, if_neg (fun z => hn2 (Or.inr ⟨z.1, by omega, by omega⟩))]
    · show (hw_br h j _ _).2 k i = _
      rw [hw_br_2]
theorem x_X0_passNight (d j : Nat) (h : hq_H) (st : hz_St) (hn : st.1 ≤ 10) (H : hz_HC h j st) : hq_Met (d + 3) MX0_passNight [.inr (0, j)] h (hz_o (hz_night st.2.1 st.1 st.2.2.2.1 st.2.2.1)) (hw_nt h j st) := by
  refine inX0_passNight (d + 2) j h _ _ (fun _ => trivial) (fun J b0 b15 => b0 _ _ _ ?_)
  obtain ⟨a1, a2, a3, a4, a5, a6⟩ := H
  refine ⟨_, _, x_X0_rulesBroken d j _ _ h st.1 st.2.1 hn a1 (fun k hk => (a6 k hk).1), ?_⟩
  rw [a2, a3]
  generalize hp : hz_brk st.2.1 st.2.2.2.1 st.2.2.1 = p
  have hm : hz_mk p st.1 < 2 ^ 31 := hz_mk31 p hn
  have cnt : ∀ m, (hw_br h j p m).1 0 j 2 = nI st.1 := fun m => by rw [hw_br_1, if_neg (fun z => absurd z.1 (by decide))]; exact a1
  refine hq_up (P := fun k => J 15 [some (.inr (0, j)), some (hz_i (nI (hz_mk p st.1))), some (hz_i (nI k))] [] (hw_br h j p k)) st.1 (b15 _ _ _ ?_) (fun k hk ih => b15 _ _ _ ?_) 0 (Nat.zero_le _)
  · refine hq_bt (hz_le (cnt _) rfl (Nat.le_refl _) (by omega)) ?_
    refine ⟨_, _, x_X0_pricesOf d j (hz_mk p st.1) _ st.1 st.2.1 hn hm (cnt _) (fun k hk => ?_), ?_⟩
    · rw [hw_br_1, if_neg (fun z => absurd z.2.1 (by decide))]
      exact (a6 k hk).1 2 (by decide)
    · have r5 : (hw_br h j p st.1).1 0 j 5 = h.1 0 j 5 := by rw [hw_br_1, if_neg (fun z => absurd z.1 (by decide))]
      have r4 : (hw_br h j p st.1).1 0 j 4 = h.1 0 j 4 := by rw [hw_br_1, if_neg (fun z => absurd z.1 (by decide))]
      have sm : hz_sum (fun k => (hz_mk p st.1).testBit k) (hz_price st.2.1) st.1 = hz_night st.2.1 st.1 st.2.2.2.1 st.2.2.1 := by
        rw [hz_sum_mk, ← hp]; rfl
      refine ⟨hz_ri sm.symm, ?_⟩
      show hq_si (hq_si (hw_br h j p st.1) 0 j 5 ((hw_br h j p st.1).1 0 j 5 + hz_sum (fun k => (hz_mk p st.1).testBit k) (hz_price st.2.1) st.1)) 0 j 4 ((hw_br h j p st.1).1 0 j 4 + 1) = hw_nt h j st
      rw [r5, r4, sm, ← hp]
      rfl
  · refine hq_bf (hz_nle (cnt _) rfl hk (by omega)) ?_
    rw [nI_succ] at ih
    have hb : (hz_mk p st.1).testBit k = p k := by rw [hz_mk_bit, decide_eq_true hk]; rfl
    cases hpk : p k with
    | false =>
      refine hq_bt (hz_bit0 hm (by omega) (hb.trans hpk)) ?_
      rw [hw_br_n hpk] at ih
      exact ih
    | true =>
      refine hq_bf (hz_bitn hm (by omega) (hb.trans hpk)) ?_
      refine ⟨_, _, x_X0_at (d + 1) j (show k < 10 by omega) _, ?_⟩
      refine ⟨_, _, x_X0_at (d + 1) j (show k < 10 by omega) _, ?_⟩
      rw [hw_br_y hpk] at ih
      exact ih
/-- the state, and the fines, after so many nights -/
def hs_nights (st : hz_St) : Nat → hz_St
  | 0 => st
  | k + 1 => hs_night (hs_nights st k)
def hz_tot (st : hz_St) : Nat → Int32
  | 0 => 0
  | k + 1 => hz_tot st k + hz_night (hs_nights st k).2.1 (hs_nights st k).1 (hs_nights st k).2.2.2.1 (hs_nights st k).2.2.1
def hw_nts (h : hq_H) (j : Nat) (st : hz_St) : Nat → hq_H
  | 0 => h
  | k + 1 => hw_nt (hw_nts h j st k) j (hs_nights st k)
theorem hs_nights_n (st : hz_St) : ∀ m, (hs_nights st m).1 = st.1
  | 0 => rfl
  | m + 1 => hs_nights_n st m
theorem hw_stay_rf {P : Nat → Nat → Prop} {h : hq_H} : hw_stay P h h := fun _ _ _ => ⟨rfl, rfl⟩
theorem hw_stay.trans {P : Nat → Nat → Prop} {a b c : hq_H} (h1 : hw_stay P a b) (h2 : hw_stay P b c) : hw_stay P a c := fun k i hn => ⟨(h2 k i hn).1.trans (h1 k i hn).1, (h2 k i hn).2.trans (h1 k i hn).2⟩
theorem hw_nts_is {h : hq_H} {j : Nat} {st : hz_St} (hn : st.1 ≤ 10) (H : hz_HC h j st) : ∀ m, hz_HC (hw_nts h j st m) j (hs_nights st m) ∧ hw_stay (hw_own j) h (hw_nts h j st m)
  | 0 => ⟨H, hw_stay_rf⟩
  | m + 1 => by
    have ih := hw_nts_is hn H m
    have s := hw_nt_is (h := hw_nts h j st m) (j := j) (st := hs_nights st m) (by rw [hs_nights_n]; exact hn) ih.1
    exact ⟨s.1, ih.2.trans s.2⟩
theorem x_X0_passNights (d j q : Nat) (h : hq_H) (st : hz_St) (hn : st.1 ≤ 10) (hq : q ≤ 30) (H : hz_HC h j st) : hq_Met (d + 4) MX0_passNights [.inr (0, j), hz_i (nI q)] h (hz_o (hz_tot st q)) (hw_nts h j st q) := by
  refine inX0_passNights (d + 3) j (nI q) h _ _ (fun _ => trivial) (fun J b0 b4 => b0 _ _ _ ?_)
  refine hq_up (P := fun k => J 4 [some (.inr (0, j)), some (hz_i (nI q)), some (hz_i (hz_tot st k)), some (hz_i (nI k))] [] (hw_nts h j st k)) q (b4 _ _ _ ?_) (fun k hk ih => b4 _ _ _ ?_) 0 (Nat.zero_le _)
  · exact hq_bt (hz_le rfl rfl (Nat.le_refl _) (by omega)) ⟨rfl, rfl⟩
  · refine hq_bf (hz_nle rfl rfl hk (by omega)) ?_
    rw [nI_succ] at ih
    exact ⟨_, _, x_X0_passNight d j _ _ (by rw [hs_nights_n]; exact hn) (hw_nts_is hn H k).1, ih⟩
