-- ===== writing: the heap's functions =====
theorem hq_si_at (h : hq_H) (k i s : Nat) (x : Int32) (k' i' s' : Nat) : (hq_si h k i s x).1 k' i' s' = if k' = k ∧ s' = s ∧ i' = i then x else h.1 k' i' s' := by
  show (if k' = k then if s' = s then if i' = i then x else h.1 k' i' s' else h.1 k' i' s' else h.1 k' i' s') = _
  by_cases h1 : k' = k
  · by_cases h2 : s' = s
    · by_cases h3 : i' = i
      · rw [if_pos h1, if_pos h2, if_pos h3, if_pos ⟨h1, h2, h3⟩]
      · rw [if_pos h1, if_pos h2, if_neg h3, if_neg (fun z => h3 z.2.2)]
    · rw [if_pos h1, if_neg h2, if_neg (fun z => h2 z.2.1)]
  · rw [if_neg h1, if_neg (fun z => h1 z.1)]
theorem hq_sl_at (h : hq_H) (k i s : Nat) (x : Int64) (k' i' s' : Nat) : (hq_sl h k i s x).2 k' i' s' = if k' = k ∧ s' = s ∧ i' = i then x else h.2 k' i' s' := by
  show (if k' = k then if s' = s then if i' = i then x else h.2 k' i' s' else h.2 k' i' s' else h.2 k' i' s') = _
  by_cases h1 : k' = k
  · by_cases h2 : s' = s
    · by_cases h3 : i' = i
      · rw [if_pos h1, if_pos h2, if_pos h3, if_pos ⟨h1, h2, h3⟩]
      · rw [if_pos h1, if_pos h2, if_neg h3, if_neg (fun z => h3 z.2.2)]
    · rw [if_pos h1, if_neg h2, if_neg (fun z => h2 z.2.1)]
  · rw [if_neg h1, if_neg (fun z => h1 z.1)]
theorem hq_ext {a b : hq_H} (h1 : ∀ k i s, a.1 k i s = b.1 k i s) (h2 : ∀ k i s, a.2 k i s = b.2 k i s) : a = b := by
  obtain ⟨a1, a2⟩ := a
  obtain ⟨b1, b2⟩ := b
  have e1 : a1 = b1 := by funext k i s; exact h1 k i s
  have e2 : a2 = b2 := by funext k i s; exact h2 k i s
  rw [e1, e2]
theorem hq_sl_sl (h : hq_H) (k i s : Nat) (x y : Int64) : hq_sl (hq_sl h k i s x) k i s y = hq_sl h k i s y := by
  refine hq_ext (fun _ _ _ => rfl) (fun k' i' s' => ?_)
  rw [hq_sl_at, hq_sl_at, hq_sl_at]
  split
  · rfl
  · rfl
theorem hq_si_si (h : hq_H) (k i s : Nat) (x y : Int32) : hq_si (hq_si h k i s x) k i s y = hq_si h k i s y := by
  refine hq_ext (fun k' i' s' => ?_) (fun _ _ _ => rfl)
  rw [hq_si_at, hq_si_at, hq_si_at]
  split
  · rfl
  · rfl
/-- a rule's seven fields -/
def hw_r7 (h : hq_H) (r : Nat) (l e p s f b : Int32) (w : Int64) : hq_H := hq_sl (hq_si (hq_si (hq_si (hq_si (hq_si (hq_si h 1 r 0 l) 1 r 1 e) 1 r 2 p) 1 r 3 s) 1 r 4 f) 1 r 5 b) 1 r 6 w
theorem hw_r7_o {h : hq_H} {r : Nat} {l e p s f b : Int32} {w : Int64} {k i : Nat} (hn : ¬ (k = 1 ∧ i = r)) : (hw_r7 h r l e p s f b w).1 k i = h.1 k i ∧ (hw_r7 h r l e p s f b w).2 k i = h.2 k i := by
  unfold hw_r7
  refine ⟨?_, ?_⟩
  · show (hq_si (hq_si (hq_si (hq_si (hq_si (hq_si h 1 r 0 l) 1 r 1 e) 1 r 2 p) 1 r 3 s) 1 r 4 f) 1 r 5 b).1 k i = _
    rw [hq_si_o _ _ _ hn, hq_si_o _ _ _ hn, hq_si_o _ _ _ hn, hq_si_o _ _ _ hn, hq_si_o _ _ _ hn, hq_si_o _ _ _ hn]
  · rw [hq_sl_o _ _ _ hn]
    rfl
theorem hw_r7_s (h : hq_H) (r : Nat) (l e p s f b : Int32) (w : Int64) : (hw_r7 h r l e p s f b w).1 1 r 0 = l ∧ (hw_r7 h r l e p s f b w).1 1 r 1 = e ∧ (hw_r7 h r l e p s f b w).1 1 r 2 = p ∧ (hw_r7 h r l e p s f b w).1 1 r 3 = s ∧ (hw_r7 h r l e p s f b w).1 1 r 4 = f ∧ (hw_r7 h r l e p s f b w).1 1 r 5 = b ∧ (hw_r7 h r l e p s f b w).2 1 r 6 = w := by
  have pos : ∀ {α : Type} {x y : α}, (if r = r then x else y) = x := fun {_} {_} {_} => if_pos rfl
  refine ⟨pos, pos, pos, pos, pos, pos, pos⟩
theorem hw_r7_w (h : hq_H) (r : Nat) (l e p s f b : Int32) (v w : Int64) : hq_sl (hw_r7 h r l e p s f b v) 1 r 6 w = hw_r7 h r l e p s f b w := hq_sl_sl _ _ _ _ _ _
def hw_rb (h : hq_H) (r q : Nat) : hq_H := hw_r7 h r (h.1 1 q 0) (h.1 1 q 1) (h.1 1 q 2) (h.1 1 q 3) (h.1 1 q 4) (h.1 1 q 5) (h.2 1 q 6)
theorem x_X4_become (d r q : Nat) (h : hq_H) (hs : h.1 1 q 3 = 0 ∨ h.1 1 q 3 = 1) : hq_Met (d + 1) MX4_become [.inr (1, r), .inr (1, q)] h hz_v (hw_rb h r q) := by
  refine inX4_become d r q h _ _ (fun _ => trivial) (fun J b0 => b0 _ _ _ ?_)
  exact ⟨hs, rfl, rfl⟩
theorem x_X4_begin (d r : Nat) (p l e : Int32) (h : hq_H) : hq_Met (d + 2) MX4_begin [.inr (1, r), hz_i p, hz_i l, hz_i e] h hz_v (hw_r7 h r l e p 0 0 0 (hz_hw l e)) := by
  refine inX4_begin (d + 1) r p l e h _ _ (fun _ => trivial) (fun J b0 b38 => b0 _ _ _ ?_)
  refine ⟨Or.inl rfl, ?_⟩
  refine hq_up (P := fun k => J 38 [some (.inr (1, r)), some (hz_i p), some (hz_i l), some (hz_i e), some (hz_i (nI k))] [] (hw_r7 h r l e p 0 0 0 (hz_hwk l e k))) 64 (b38 _ _ _ ?_) (fun k hk ih => b38 _ _ _ ?_) 0 (Nat.zero_le _)
  · exact hq_bt (hz_le rfl rfl (Nat.le_refl 64) (by decide)) ⟨rfl, rfl⟩
  · refine hq_bf (hz_nle (b := k) rfl rfl hk (by decide)) ?_
    obtain ⟨h0, h1, -, -, -, -, h6⟩ := hw_r7_s h r l e p 0 0 0 (hz_hwk l e k)
    refine ⟨_, _, x_hold d r (nI k) l e _ h0 h1, ?_⟩
    rw [nI_succ] at ih
    cases hh : hz_hold l e (nI k) with
    | false =>
      refine hq_bt rfl ?_
      rw [show hz_hwk l e (k + 1) = hz_hwk l e k from if_neg (by rw [hh]; decide)] at ih
      exact ih
    | true =>
      refine hq_bf (by decide) ?_
      rw [show hz_hwk l e (k + 1) = hz_hwk l e k ||| ((1 : Int64) <<< ((nI k).toInt64 &&& 63)) from if_pos hh, ← hw_r7_w h r l e p 0 0 0 (hz_hwk l e k)] at ih
      show J 38 _ [] (hq_sl (hw_r7 h r l e p 0 0 0 (hz_hwk l e k)) 1 r 6 ((hw_r7 h r l e p 0 0 0 (hz_hwk l e k)).2 1 r 6 ||| ((1 : Int64) <<< ((nI k).toInt64 &&& 63))))
      rw [h6]
      exact ih
/-- a house's five numbers; its rules one by one -/
def hw_h5 (h : hq_H) (j : Nat) (n g t f w : Int32) : hq_H := hq_si (hq_si (hq_si (hq_si (hq_si h 0 j 2 n) 0 j 3 g) 0 j 4 t) 0 j 5 f) 0 j 6 w
def hw_bk (h : hq_H) (j q : Nat) : Nat → hq_H
  | 0 => h
  | k + 1 => hw_rb (hw_bk h j q k) (11 * j + k) (11 * q + k)
theorem hw_bk_o {h : hq_H} {j q k i : Nat} : ∀ {m : Nat}, ¬ (k = 1 ∧ 11 * j ≤ i ∧ i < 11 * j + m) → (hw_bk h j q m).1 k i = h.1 k i ∧ (hw_bk h j q m).2 k i = h.2 k i
  | 0, _ => ⟨rfl, rfl⟩
  | m + 1, hn => by
    have ih := hw_bk_o (h := h) (j := j) (q := q) (k := k) (i := i) (m := m) (fun z => hn ⟨z.1, z.2.1, by omega⟩)
    have h1 := hw_r7_o (h := hw_bk h j q m) (r := 11 * j + m) (l := (hw_bk h j q m).1 1 (11 * q + m) 0) (e := (hw_bk h j q m).1 1 (11 * q + m) 1) (p := (hw_bk h j q m).1 1 (11 * q + m) 2) (s := (hw_bk h j q m).1 1 (11 * q + m) 3) (f := (hw_bk h j q m).1 1 (11 * q + m) 4) (b := (hw_bk h j q m).1 1 (11 * q + m) 5) (w := (hw_bk h j q m).2 1 (11 * q + m) 6) (k := k) (i := i) (fun z => hn ⟨z.1, by omega, by omega⟩)
    exact ⟨h1.1.trans ih.1, h1.2.trans ih.2⟩
theorem hw_bk_r {h : hq_H} {j q : Nat} (hjq : j ≠ q) : ∀ {m k : Nat}, m ≤ 10 → k < m → (∀ a, a < 6 → (hw_bk h j q m).1 1 (11 * j + k) a = h.1 1 (11 * q + k) a) ∧ (hw_bk h j q m).2 1 (11 * j + k) 6 = h.2 1 (11 * q + k) 6
  | 0, k, _, hk => absurd hk (Nat.not_lt_zero k)
  | m + 1, k, hm, hk => by
    have src := hw_bk_o (h := h) (j := j) (q := q) (k := 1) (i := 11 * q + k) (m := m) (fun z => by omega)
    by_cases e : k = m
    · subst e
      obtain ⟨g0, g1, g2, g3, g4, g5, g6⟩ := hw_r7_s (hw_bk h j q k) (11 * j + k) ((hw_bk h j q k).1 1 (11 * q + k) 0) ((hw_bk h j q k).1 1 (11 * q + k) 1) ((hw_bk h j q k).1 1 (11 * q + k) 2) ((hw_bk h j q k).1 1 (11 * q + k) 3) ((hw_bk h j q k).1 1 (11 * q + k) 4) ((hw_bk h j q k).1 1 (11 * q + k) 5) ((hw_bk h j q k).2 1 (11 * q + k) 6)
      rw [src.1] at g0 g1 g2 g3 g4 g5
      rw [src.2] at g6
      refine ⟨fun a ha => ?_, ?_⟩
      · match a, ha with
        | 0, _ => show (hw_rb (hw_bk h j q k) (11 * j + k) (11 * q + k)).1 1 (11 * j + k) 0 = _; unfold hw_rb; rw [src.1, src.2]; exact g0
        | 1, _ => show (hw_rb (hw_bk h j q k) (11 * j + k) (11 * q + k)).1 1 (11 * j + k) 1 = _; unfold hw_rb; rw [src.1, src.2]; exact g1
        | 2, _ => show (hw_rb (hw_bk h j q k) (11 * j + k) (11 * q + k)).1 1 (11 * j + k) 2 = _; unfold hw_rb; rw [src.1, src.2]; exact g2
        | 3, _ => show (hw_rb (hw_bk h j q k) (11 * j + k) (11 * q + k)).1 1 (11 * j + k) 3 = _; unfold hw_rb; rw [src.1, src.2]; exact g3
        | 4, _ => show (hw_rb (hw_bk h j q k) (11 * j + k) (11 * q + k)).1 1 (11 * j + k) 4 = _; unfold hw_rb; rw [src.1, src.2]; exact g4
        | 5, _ => show (hw_rb (hw_bk h j q k) (11 * j + k) (11 * q + k)).1 1 (11 * j + k) 5 = _; unfold hw_rb; rw [src.1, src.2]; exact g5
        | a + 6, ha => omega
      · show (hw_rb (hw_bk h j q k) (11 * j + k) (11 * q + k)).2 1 (11 * j + k) 6 = _
        unfold hw_rb
        rw [src.1, src.2]
        exact g6
    · have ih := hw_bk_r (h := h) hjq (m := m) (k := k) (by omega) (by omega)
      have h1 := hw_r7_o (h := hw_bk h j q m) (r := 11 * j + m) (l := (hw_bk h j q m).1 1 (11 * q + m) 0) (e := (hw_bk h j q m).1 1 (11 * q + m) 1) (p := (hw_bk h j q m).1 1 (11 * q + m) 2) (s := (hw_bk h j q m).1 1 (11 * q + m) 3) (f := (hw_bk h j q m).1 1 (11 * q + m) 4) (b := (hw_bk h j q m).1 1 (11 * q + m) 5) (w := (hw_bk h j q m).2 1 (11 * q + m) 6) (k := 1) (i := 11 * j + k) (fun z => by omega)
      refine ⟨fun a ha => ?_, ?_⟩
      · show (hw_r7 _ _ _ _ _ _ _ _ _).1 1 (11 * j + k) a = _
        rw [h1.1]
        exact ih.1 a ha
      · show (hw_r7 _ _ _ _ _ _ _ _ _).2 1 (11 * j + k) 6 = _
        rw [h1.2]
        exact ih.2
def hw_hb (h : hq_H) (j q n : Nat) : hq_H := hw_bk (hw_h5 h j (h.1 0 q 2) (h.1 0 q 3) (h.1 0 q 4) (h.1 0 q 5) (h.1 0 q 6)) j q n
theorem hw_h5_o {h : hq_H} {j : Nat} {n g t f w : Int32} {k i : Nat} (hn : ¬ (k = 0 ∧ i = j)) : (hw_h5 h j n g t f w).1 k i = h.1 k i := by
  unfold hw_h5
  rw [hq_si_o _ _ _ hn, hq_si_o _ _ _ hn, hq_si_o _ _ _ hn, hq_si_o _ _ _ hn, hq_si_o _ _ _ hn]
theorem hw_h5_s (h : hq_H) (j : Nat) (n g t f w : Int32) : (hw_h5 h j n g t f w).1 0 j 2 = n ∧ (hw_h5 h j n g t f w).1 0 j 3 = g ∧ (hw_h5 h j n g t f w).1 0 j 4 = t ∧ (hw_h5 h j n g t f w).1 0 j 5 = f ∧ (hw_h5 h j n g t f w).1 0 j 6 = w := by
  have pos : ∀ {α : Type} {x y : α}, (if j = j then x else y) = x := fun {_} {_} {_} => if_pos rfl
  refine ⟨pos, pos, pos, pos, pos⟩
/-- what a house's cells are: other houses' and other kinds stay -/
def hw_own (j : Nat) (k i : Nat) : Prop := (k = 0 ∧ i = j) ∨ (k = 1 ∧ 11 * j ≤ i ∧ i < 11 * j + 10)
def hw_stay (P : Nat → Nat → Prop) (h h' : hq_H) : Prop := ∀ k i, ¬ P k i → h'.1 k i = h.1 k i ∧ h'.2 k i = h.2 k i
theorem hz_HC_stay {h h' : hq_H} {P : Nat → Nat → Prop} (hst : hw_stay P h h') {j : Nat} {st : hz_St} (hn : st.1 ≤ 10) (hP : ∀ k i, hw_own j k i → ¬ P k i) (H : hz_HC h j st) : hz_HC h' j st := by
  have e0 := (hst 0 j (hP 0 j (Or.inl ⟨rfl, rfl⟩))).1
  obtain ⟨a1, a2, a3, a4, a5, a6⟩ := H
  refine ⟨by rw [e0]; exact a1, by rw [e0]; exact a2, by rw [e0]; exact a3, by rw [e0]; exact a4, by rw [e0]; exact a5, fun k hk => ?_⟩
  have e1 := hst 1 (11 * j + k) (hP 1 (11 * j + k) (Or.inr ⟨rfl, by omega, by omega⟩))
  rw [e1.1, e1.2]
  exact a6 k hk
theorem hw_hb_is {h : hq_H} {j q : Nat} (hjq : j ≠ q) {st : hz_St} (hn : st.1 ≤ 10) (H : hz_HC h q st) : hz_HC (hw_hb h j q st.1) j st ∧ hw_stay (hw_own j) h (hw_hb h j q st.1) := by
  obtain ⟨a1, a2, a3, a4, a5, a6⟩ := H
  obtain ⟨s1, s2, s3, s4, s5⟩ := hw_h5_s h j (h.1 0 q 2) (h.1 0 q 3) (h.1 0 q 4) (h.1 0 q 5) (h.1 0 q 6)
  have e0 := (hw_bk_o (h := hw_h5 h j (h.1 0 q 2) (h.1 0 q 3) (h.1 0 q 4) (h.1 0 q 5) (h.1 0 q 6)) (j := j) (q := q) (k := 0) (i := j) (m := st.1) (fun z => absurd z.1 (by decide))).1
  refine ⟨⟨?_, ?_, ?_, ?_, ?_, fun k hk => ?_⟩, fun k i hn2 => ?_⟩
  · unfold hw_hb; rw [e0]; exact s1.trans a1
  · unfold hw_hb; rw [e0]; exact s2.trans a2
  · unfold hw_hb; rw [e0]; exact s3.trans a3
  · unfold hw_hb; rw [e0]; exact s4.trans a4
  · unfold hw_hb; rw [e0]; exact s5.trans a5
  · have r := hw_bk_r (h := hw_h5 h j (h.1 0 q 2) (h.1 0 q 3) (h.1 0 q 4) (h.1 0 q 5) (h.1 0 q 6)) hjq (m := st.1) (k := k) hn hk
    have o := hw_h5_o (h := h) (j := j) (n := h.1 0 q 2) (g := h.1 0 q 3) (t := h.1 0 q 4) (f := h.1 0 q 5) (w := h.1 0 q 6) (k := 1) (i := 11 * q + k) (fun z => absurd z.1 (by decide))
    refine ⟨fun a ha => ?_, ?_⟩
    · refine (r.1 a ha).trans ?_
      rw [o]
      exact (a6 k hk).1 a ha
    · exact r.2.trans (a6 k hk).2
  · have n1 : ¬ (k = 0 ∧ i = j) := fun z => hn2 (Or.inl z)
    have n2 : ¬ (k = 1 ∧ 11 * j ≤ i ∧ i < 11 * j + st.1) := fun z => hn2 (Or.inr ⟨z.1, z.2.1, by omega⟩)
    have b := hw_bk_o (h := hw_h5 h j (h.1 0 q 2) (h.1 0 q 3) (h.1 0 q 4) (h.1 0 q 5) (h.1 0 q 6)) (j := j) (q := q) (k := k) (i := i) (m := st.1) n2
    exact ⟨b.1.trans (hw_h5_o n1), b.2⟩
theorem x_X0_become (d j q : Nat) (h : hq_H) (st : hz_St) (hn : st.1 ≤ 10) (hjq : j ≠ q) (H : hz_HC h q st) (hs : ∀ k, k < st.1 → st.2.1 k 3 = 0 ∨ st.2.1 k 3 = 1) : hq_Met (d + 2) MX0_become [.inr (0, j), .inr (0, q)] h hz_v (hw_hb h j q st.1) := by
  refine inX0_become (d + 1) j q h _ _ (fun _ => trivial) (fun J b0 b42 => b0 _ _ _ ?_)
  obtain ⟨a1, -, -, -, -, a6⟩ := H
  show J 42 [some (.inr (0, j)), some (.inr (0, q)), some (hz_i 0)] [] (hw_h5 h j (h.1 0 q 2) (h.1 0 q 3) (h.1 0 q 4) (h.1 0 q 5) (h.1 0 q 6))
  generalize hg : hw_h5 h j (h.1 0 q 2) (h.1 0 q 3) (h.1 0 q 4) (h.1 0 q 5) (h.1 0 q 6) = h5 at *
  have hg' : hw_h5 h j (h.1 0 q 2) (h.1 0 q 3) (h.1 0 q 4) (h.1 0 q 5) (h.1 0 q 6) = h5 := hg
  have cnt : ∀ m, (hw_bk h5 j q m).1 0 j 2 = nI st.1 := fun m => by
    rw [(hw_bk_o (h := h5) (j := j) (q := q) (k := 0) (i := j) (m := m) (fun z => absurd z.1 (by decide))).1, ← hg']
    exact (hw_h5_s h j _ _ _ _ _).1.trans a1
  have src : ∀ m, m < st.1 → (hw_bk h5 j q m).1 1 (11 * q + m) 3 = 0 ∨ (hw_bk h5 j q m).1 1 (11 * q + m) 3 = 1 := fun m hm => by
    rw [(hw_bk_o (h := h5) (j := j) (q := q) (k := 1) (i := 11 * q + m) (m := m) (fun z => by omega)).1, ← hg', hw_h5_o (fun z => absurd z.1 (by decide)), (a6 m hm).1 3 (by decide)]
    exact hs m hm
  have fin : hw_hb h j q st.1 = hw_bk h5 j q st.1 := by unfold hw_hb; rw [hg']
  rw [fin] at b42
  refine hq_up (P := fun k => J 42 [some (.inr (0, j)), some (.inr (0, q)), some (hz_i (nI k))] [] (hw_bk h5 j q k)) st.1 (b42 _ _ _ ?_) (fun k hk ih => b42 _ _ _ ?_) 0 (Nat.zero_le _)
  · exact hq_bt (hz_le (cnt _) rfl (Nat.le_refl _) (by omega)) ⟨rfl, rfl⟩
  · refine hq_bf (hz_nle (cnt _) rfl hk (by omega)) ?_
    refine ⟨_, _, x_X0_at d j (show k < 10 by omega) _, ?_⟩
    refine ⟨_, _, x_X0_at d q (show k < 10 by omega) _, ?_⟩
    refine ⟨_, x_X4_become d (11 * j + k) (11 * q + k) _ (src k hk), ?_⟩
    rw [nI_succ] at ih
    exact ih
