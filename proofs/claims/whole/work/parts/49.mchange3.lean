-- ===== the reference: nights =====
def hm_nx (st : hz_St) : hz_St := (st.1, (hs_night st).2.1, st.2.2.1, st.2.2.2.1 + 1, st.2.2.2.2)
def hm_nxs (st : hz_St) : Nat → hz_St
  | 0 => st
  | k + 1 => hm_nx (hm_nxs st k)
def hm_fx (st : hz_St) (x : Int32) : hz_St := (st.1, st.2.1, st.2.2.1, st.2.2.2.1, x, st.2.2.2.2.2)
theorem hm_nxs_is (st : hz_St) : ∀ k, hs_nights st k = hm_fx (hm_nxs st k) (st.2.2.2.2.1 + hz_tot st k)
  | 0 => by
    show st = hm_fx st (st.2.2.2.2.1 + 0)
    rw [hz_add0]
    rfl
  | k + 1 => by
    have ih := hm_nxs_is st k
    have e : hz_tot st (k + 1) = hz_tot st k + hz_night (hs_nights st k).2.1 (hs_nights st k).1 (hs_nights st k).2.2.2.1 (hs_nights st k).2.2.1 := rfl
    rw [e, ← Int32.add_assoc]
    show hs_night (hs_nights st k) = _
    rw [ih]
    rfl
theorem hm_nxs_n (st : hz_St) : ∀ k, (hm_nxs st k).1 = st.1 ∧ (hm_nxs st k).2.2.1 = st.2.2.1 ∧ (hm_nxs st k).2.2.2.2 = st.2.2.2.2
  | 0 => ⟨rfl, rfl, rfl⟩
  | k + 1 => hm_nxs_n st k
def hw_nb (h : hq_H) (p : Nat → Bool) : Nat → hq_H
  | 0 => h
  | m + 1 => hq_si (hw_nb h p m) 14 0 (5 + 6 * m + 5) ((hw_nb h p m).1 14 0 (5 + 6 * m + 5) + (if p m = true then (hw_nb h p m).1 14 0 (5 + 6 * m + 2) else 0))
theorem hw_nb_row (h : hq_H) (p : Nat → Bool) (m : Nat) : (hw_nb h p (m + 1)).1 14 0 = hm_up ((hw_nb h p m).1 14 0) (5 + 6 * m + 5) ((hw_nb h p m).1 14 0 (5 + 6 * m + 5) + (if p m = true then (hw_nb h p m).1 14 0 (5 + 6 * m + 2) else 0)) := hm_row _ _ _
theorem hw_nb_n (h : hq_H) (p : Nat → Bool) {s : Nat} : ∀ {m : Nat}, (∀ j, j < m → s ≠ 5 + 6 * j + 5) → (hw_nb h p m).1 14 0 s = h.1 14 0 s
  | 0, _ => rfl
  | m + 1, hs => by
    rw [hw_nb_row, hm_up_n (hs m (by omega))]
    exact hw_nb_n h p (fun j hj => hs j (by omega))
theorem hw_nb_y (h : hq_H) (p : Nat → Bool) {j : Nat} : ∀ {m : Nat}, j < m → (hw_nb h p m).1 14 0 (5 + 6 * j + 5) = h.1 14 0 (5 + 6 * j + 5) + (if p j = true then h.1 14 0 (5 + 6 * j + 2) else 0)
  | 0, hj => absurd hj (Nat.not_lt_zero j)
  | m + 1, hj => by
    rw [hw_nb_row]
    by_cases e : j = m
    · subst e
      rw [hm_up_s, hw_nb_n h p (fun i hi => by omega), hw_nb_n h p (fun i hi => by omega)]
    · rw [hm_up_n (by omega)]
      exact hw_nb_y h p (by omega)
theorem hw_nb_rest (h : hq_H) (p : Nat → Bool) : ∀ m, hm_rest h (hw_nb h p m) ∧ hw_stay hw_Mo h (hw_nb h p m) ∧ (hw_nb h p m).1 13 0 = h.1 13 0
  | 0 => ⟨hm_rest_rf h, hw_stay_rf, rfl⟩
  | m + 1 => by
    obtain ⟨x, y, z⟩ := hw_nb_rest h p m
    exact ⟨x.trans (hm_rest_14 _ _ _), y.trans (hw_Mo_14 _ _ _), (hm_14_13 _ _ _).trans z⟩
def hm_mid (st : hz_St) : hz_St := (st.1, (hs_night st).2.1, st.2.2)
theorem hm_nb_S {h : hq_H} {st : hz_St} (hn : st.1 ≤ 10) (H : hm_S (h.1 14 0) st) : hm_S ((hw_nb h (fun j => (hz_broke st st.2.2.1).testBit j) st.1).1 14 0) (hm_mid st) := by
  obtain ⟨a0, a1, a2, a3, a4, a5⟩ := H
  refine ⟨?_, ?_, ?_, ?_, ?_, fun k hk a ha => ?_⟩
  · rw [hw_nb_n h _ (fun j hj => by omega)]; exact a0
  · rw [hw_nb_n h _ (fun j hj => by omega)]; exact a1
  · rw [hw_nb_n h _ (fun j hj => by omega)]; exact a2
  · rw [hw_nb_n h _ (fun j hj => by omega)]; exact a3
  · rw [hw_nb_n h _ (fun j hj => by omega)]; exact a4
  · have hk : k < st.1 := hk
    show _ = (if a = 5 then (if hz_brk st.2.1 st.2.2.2.1 st.2.2.1 k = true then st.2.1 k 5 + st.2.1 k 2 else st.2.1 k 5) else st.2.1 k a)
    by_cases e : a = 5
    · subst e
      have b1 : (hz_broke st st.2.2.1).testBit k = hz_brk st.2.1 st.2.2.2.1 st.2.2.1 k := by
        unfold hz_broke
        rw [hz_mk_bit, decide_eq_true hk]
        rfl
      rw [if_pos rfl, hw_nb_y h _ hk, b1, a5 k hk 5 (by decide), a5 k hk 2 (by decide)]
      split
      · rfl
      · exact hz_add0 _
    · rw [if_neg e, hw_nb_n h _ (fun j hj => by omega)]
      exact a5 k hk a ha
def hm_ng (h : hq_H) (st : hz_St) : Nat → hq_H
  | 0 => h
  | k + 1 => hq_si (hw_nb (hm_ng h st k) (fun j => (hz_broke (hm_nxs st k) (hm_nxs st k).2.2.1).testBit j) (hm_nxs st k).1) 14 0 2 ((hw_nb (hm_ng h st k) (fun j => (hz_broke (hm_nxs st k) (hm_nxs st k).2.2.1).testBit j) (hm_nxs st k).1).1 14 0 2 + 1)
theorem hm_ng_S {h : hq_H} {st : hz_St} (hn : st.1 ≤ 10) (H : hm_S (h.1 14 0) st) : ∀ k, hm_S ((hm_ng h st k).1 14 0) (hm_nxs st k) ∧ (hm_rest h (hm_ng h st k) ∧ hw_stay hw_Mo h (hm_ng h st k) ∧ (hm_ng h st k).1 13 0 = h.1 13 0) ∧ ∀ i, 65 ≤ i → (hm_ng h st k).1 14 0 i = h.1 14 0 i
  | 0 => ⟨H, ⟨hm_rest_rf h, hw_stay_rf, rfl⟩, fun _ _ => rfl⟩
  | k + 1 => by
    obtain ⟨i1, ⟨i2, i3, i4⟩, i5⟩ := hm_ng_S hn H k
    have n1 : (hm_nxs st k).1 ≤ 10 := by rw [(hm_nxs_n st k).1]; exact hn
    have q := hm_nb_S n1 i1
    obtain ⟨r1, r2, r3⟩ := hw_nb_rest (hm_ng h st k) (fun j => (hz_broke (hm_nxs st k) (hm_nxs st k).2.2.1).testBit j) (hm_nxs st k).1
    have s65 : ∀ i, 65 ≤ i → (hw_nb (hm_ng h st k) (fun j => (hz_broke (hm_nxs st k) (hm_nxs st k).2.2.1).testBit j) (hm_nxs st k).1).1 14 0 i = h.1 14 0 i := fun i hi => (hw_nb_n _ _ (fun j hj => by omega)).trans (i5 i hi)
    have e : hm_ng h st (k + 1) = hq_si (hw_nb (hm_ng h st k) (fun j => (hz_broke (hm_nxs st k) (hm_nxs st k).2.2.1).testBit j) (hm_nxs st k).1) 14 0 2 ((hw_nb (hm_ng h st k) (fun j => (hz_broke (hm_nxs st k) (hm_nxs st k).2.2.1).testBit j) (hm_nxs st k).1).1 14 0 2 + 1) := rfl
    rw [e]
    generalize hw_nb (hm_ng h st k) (fun j => (hz_broke (hm_nxs st k) (hm_nxs st k).2.2.1).testBit j) (hm_nxs st k).1 = g at *
    obtain ⟨a0, a1, a2, a3, a4, a5⟩ := q
    refine ⟨?_, ⟨i2.trans (r1.trans (hm_rest_14 _ _ _)), i3.trans (r2.trans (hw_Mo_14 _ _ _)), (hm_14_13 _ _ _).trans (r3.trans i4)⟩, fun i hi => by rw [hm_row, hm_up_n (by omega)]; exact s65 i hi⟩
    rw [hm_row]
    refine ⟨?_, ?_, ?_, ?_, ?_, fun j hj a ha => ?_⟩
    · rw [hm_up_n (by omega)]; exact a0
    · rw [hm_up_n (by omega)]; exact a1
    · rw [hm_up_s, a2]; rfl
    · rw [hm_up_n (by omega)]; exact a3
    · rw [hm_up_n (by omega)]; exact a4
    · rw [hm_up_n (by omega)]; exact a5 j hj a ha
theorem hm_tot_is (st : hz_St) (k : Nat) : hz_tot st (k + 1) = hz_tot st k + hz_night (hm_nxs st k).2.1 (hm_nxs st k).1 (hm_nxs st k).2.2.2.1 (hm_nxs st k).2.2.1 := by
  show hz_tot st k + hz_night (hs_nights st k).2.1 (hs_nights st k).1 (hs_nights st k).2.2.2.1 (hs_nights st k).2.2.1 = _
  rw [hm_nxs_is st k]
  rfl
theorem m_nights (d q : Nat) (h : hq_H) (st : hz_St) (H : hm_S (h.1 14 0) st) (hn : st.1 ≤ 10) (hq : q ≤ 30) : hq_Met (d + 4) MX7_nights [.inr (13, 0), hz_i (nI q)] h (hz_o (hz_tot st q)) (hq_si (hm_ng h st q) 14 0 3 (st.2.2.2.2.1 + hz_tot st q)) := by
  refine inX7_nights (d + 3) 0 (nI q) h _ _ (fun _ => trivial) (fun J b0 b4 b24 => b0 _ _ _ ?_)
  refine hq_up (P := fun k => ∀ v4 v5, J 4 [some (.inr (13, 0)), some (hz_i (nI q)), some (hz_i (hz_tot st k)), some (hz_i (nI k)), v4, v5] [] (hm_ng h st k)) q (fun v4 v5 => b4 _ _ _ ?_) (fun k hk ih v4 v5 => b4 _ _ _ ?_) 0 (Nat.zero_le _) none none
  · refine hq_bt (hz_le (a := q) (b := q) rfl rfl (Nat.le_refl _) (by omega)) ?_
    have e3 : (hm_ng h st q).1 14 0 3 = st.2.2.2.2.1 := ((hm_ng_S hn H q).1.2.2.2.1).trans (by rw [(hm_nxs_n st q).2.2])
    refine ⟨3, by decide, rfl, 3, by decide, rfl, rfl, ?_⟩
    show hq_si (hm_ng h st q) 14 0 3 ((hm_ng h st q).1 14 0 3 + hz_tot st q) = _
    rw [e3]
  · refine hq_bf (hz_nle (a := q) (b := k) rfl rfl hk (by omega)) ?_
    have S := (hm_ng_S hn H k).1
    have n1 : (hm_nxs st k).1 ≤ 10 := by rw [(hm_nxs_n st k).1]; exact hn
    have eg : hm_ng h st (k + 1) = hq_si (hw_nb (hm_ng h st k) (fun j => (hz_broke (hm_nxs st k) (hm_nxs st k).2.2.1).testBit j) (hm_nxs st k).1) 14 0 2 ((hw_nb (hm_ng h st k) (fun j => (hz_broke (hm_nxs st k) (hm_nxs st k).2.2.1).testBit j) (hm_nxs st k).1).1 14 0 2 + 1) := rfl
    rw [eg, hm_tot_is, nI_succ k] at ih
    generalize hz_tot st k = acc at *
    generalize hm_ng h st k = g at *
    generalize hm_nxs st k = sk at *
    refine ⟨1, by decide, rfl, ?_⟩
    have mb := m_broke d (g.1 14 0 1) g sk S n1
    have ew : hz_broke sk (g.1 14 0 1) = hz_broke sk sk.2.2.1 := by rw [S.2.1]
    rw [ew] at mb
    refine ⟨_, _, mb, ?_⟩
    have q1 := hm_nb_S n1 S
    have B := hz_broke31 sk n1 sk.2.2.1
    refine hq_up (P := fun m => J 24 [some (.inr (13, 0)), some (hz_i (nI q)), some (hz_i acc), some (hz_i (nI k)), some (hz_i (nI (hz_broke sk sk.2.2.1))), some (hz_i (nI m))] [] (hw_nb g (fun j => (hz_broke sk sk.2.2.1).testBit j) m)) sk.1 (b24 _ _ _ ?_) (fun m hm ih2 => b24 _ _ _ ?_) 0 (Nat.zero_le _)
    · refine ⟨0, by decide, rfl, ?_⟩
      refine hq_bt (hz_le (a := sk.1) (b := sk.1) q1.1 rfl (Nat.le_refl _) (by omega)) ?_
      have mf := m_fos (d + 1) (hw_nb g (fun j => (hz_broke sk sk.2.2.1).testBit j) sk.1) (hm_mid sk) q1 n1 (S := hz_broke sk sk.2.2.1) rfl B
      have es : hz_sum (fun k => (hz_broke sk sk.2.2.1).testBit k) (hz_price (hm_mid sk).2.1) (hm_mid sk).1 = hz_night sk.2.1 sk.1 sk.2.2.2.1 sk.2.2.1 := by
        show hz_sum (fun k => (hz_mk (hz_brk sk.2.1 sk.2.2.2.1 sk.2.2.1) sk.1).testBit k) (hz_price sk.2.1) sk.1 = _
        exact hz_sum_mk
      rw [es] at mf
      exact ⟨_, _, mf, 2, by decide, rfl, 2, by decide, rfl, ih _ _⟩
    · have c0 : (hw_nb g (fun j => (hz_broke sk sk.2.2.1).testBit j) m).1 14 0 0 = nI sk.1 := (hw_nb_n _ _ (fun j hj => by omega)).trans S.1
      refine ⟨0, by decide, rfl, ?_⟩
      refine hq_bf (hz_nle c0 rfl hm (by omega)) ?_
      refine ⟨_, _, m_at (d + 2) m _, ?_⟩
      refine ⟨5 + 6 * m + 5, by omega, nI_add (5 + 6 * m) 5, ?_⟩
      refine ⟨_, _, m_isIn (d + 2) _ rfl rfl B (show m < 31 by omega), ?_⟩
      have s : hw_nb g (fun j => (hz_broke sk sk.2.2.1).testBit j) (m + 1) = hq_si (hw_nb g (fun j => (hz_broke sk sk.2.2.1).testBit j) m) 14 0 (5 + 6 * m + 5) ((hw_nb g (fun j => (hz_broke sk sk.2.2.1).testBit j) m).1 14 0 (5 + 6 * m + 5) + (if (hz_broke sk sk.2.2.1).testBit m = true then (hw_nb g (fun j => (hz_broke sk sk.2.2.1).testBit j) m).1 14 0 (5 + 6 * m + 2) else 0)) := rfl
      rw [s, nI_succ m] at ih2
      cases t : (hz_broke sk sk.2.2.1).testBit m with
      | false =>
        rw [t] at ih2
        exact hq_bt rfl ⟨5 + 6 * m + 5, by omega, nI_add (5 + 6 * m) 5, ih2⟩
      | true =>
        rw [t] at ih2
        refine hq_bf hz_one0 ?_
        refine ⟨_, _, m_at (d + 2) m _, ?_⟩
        refine ⟨5 + 6 * m + 2, by omega, nI_add (5 + 6 * m) 2, ?_⟩
        exact ⟨5 + 6 * m + 5, by omega, nI_add (5 + 6 * m) 5, ih2⟩
theorem hm_nights_S {h : hq_H} {st : hz_St} (hn : st.1 ≤ 10) (H : hm_S (h.1 14 0) st) (q : Nat) : hm_S ((hq_si (hm_ng h st q) 14 0 3 (st.2.2.2.2.1 + hz_tot st q)).1 14 0) (hs_nights st q) ∧ (hm_rest h (hq_si (hm_ng h st q) 14 0 3 (st.2.2.2.2.1 + hz_tot st q)) ∧ hw_stay hw_Mo h (hq_si (hm_ng h st q) 14 0 3 (st.2.2.2.2.1 + hz_tot st q)) ∧ (hq_si (hm_ng h st q) 14 0 3 (st.2.2.2.2.1 + hz_tot st q)).1 13 0 = h.1 13 0) ∧ ∀ i, 65 ≤ i → (hq_si (hm_ng h st q) 14 0 3 (st.2.2.2.2.1 + hz_tot st q)).1 14 0 i = h.1 14 0 i := by
  obtain ⟨⟨a0, a1, a2, a3, a4, a5⟩, ⟨i2, i3, i4⟩, i5⟩ := hm_ng_S hn H q
  refine ⟨?_, ⟨i2.trans (hm_rest_14 _ _ _), i3.trans (hw_Mo_14 _ _ _), (hm_14_13 _ _ _).trans i4⟩, fun i hi => by rw [hm_row, hm_up_n (by omega)]; exact i5 i hi⟩
  rw [hm_row, hm_nxs_is]
  refine ⟨?_, ?_, ?_, hm_up_s _ _ _, ?_, fun j hj a ha => ?_⟩
  · rw [hm_up_n (by omega)]; exact a0
  · rw [hm_up_n (by omega)]; exact a1
  · rw [hm_up_n (by omega)]; exact a2
  · rw [hm_up_n (by omega)]; exact a4
  · rw [hm_up_n (by omega)]; exact a5 j hj a ha
theorem r_pass (d : Nat) (h : hq_H) (w : hz_W) (R : hm_RM h w) (ok : hz_okW w) (x : Int32) : hm_Ans MX7_pass (d + 5) [.inr (13, 0), hz_i x] h hz_IAE (sp_pass w x) := by
  have n10 := ok.1.1
  have mi := m_in (d + 3) x 1 30 h
  rw [hm_nn_in] at mi
  unfold sp_pass
  cases hx : hz_nn x with
  | none =>
    rw [hx] at mi
    refine hm_no (v := .int 0) R ok (x := 1) (by decide) ?_
    refine inX7_pass (d + 4) 0 x h _ _ (fun _ => trivial) (fun J b0 => b0 _ _ _ ?_)
    exact ⟨_, _, mi, _, _, m_goes (d + 3) false true true h, hq_nf rfl ⟨rfl, rfl⟩⟩
  | some k =>
    rw [hx] at mi
    obtain ⟨rfl, k1, k30⟩ := hz_nn_s hx
    obtain ⟨h1, m1, R1, s1, t1⟩ := m_saves (d + 2) (hq_si h 13 0 3 0) w (hm_RM_th 0 R ok) ok
    obtain ⟨q1, ⟨r1, r2, r3⟩, q2⟩ := hm_nights_S n10 R1.1.1 k
    refine hm_yes R1 s1 t1 (hz_okW_save ok) r1 r2 r3 q1 q2 ?_
    refine inX7_pass (d + 4) 0 (nI k) h _ _ (fun _ => trivial) (fun J b0 => b0 _ _ _ ?_)
    refine ⟨_, _, mi, _, _, m_goes (d + 3) true true true h, hq_nt hz_one0 ?_⟩
    exact ⟨_, m1, _, _, m_nights d k h1 w.1 R1.1.1 n10 k30, rfl, rfl⟩
-- ===== the reference: the buffer, the snapshot, undo =====
theorem hm_RM_buf {h h' : hq_H} {w : hz_W} {b : Nat × (Nat → Nat)} (R : hm_RM h w) (h14 : h'.1 14 0 = h.1 14 0) (hf : ∀ s, s ≠ 3 → s ≠ 5 → h'.1 13 0 s = h.1 13 0 s) (h18 : h'.1 18 0 = h.1 18 0) (h19 : h'.1 19 0 = h.1 19 0) (h16 : h'.2 16 0 = h.2 16 0) (hB : hm_BF h' b) : hm_RM h' (w.1, w.2.1, w.2.2.1, b) := by
  obtain ⟨⟨a1, a2⟩, s, ⟨v1, v2, v3⟩, _, L, f1, f2, f3, f4⟩ := R
  have sl : ∀ q, hm_slot h' q = hm_slot h q := fun q => by
    unfold hm_slot
    rw [h14]
  refine ⟨⟨by rw [h14]; exact a1, fun r hr k hk => by rw [h16]; exact a2 r hr k hk⟩, ?_, ⟨v1, (hf 1 (by decide) (by decide)).trans v2, fun i hi => by rw [sl]; exact v3 i hi⟩, hB, L, (hf 15 (by decide) (by decide)).trans f1, fun i hi => by rw [h19]; exact f2 i hi, fun i hi => by rw [h18]; exact f3 i hi, f4⟩
  show hm_SN h' w.2.1
  cases hw : w.2.1 with
  | none =>
    rw [hw] at s
    exact (hf 2 (by decide) (by decide)).trans s
  | some x =>
    rw [hw] at s
    exact ⟨(hf 2 (by decide) (by decide)).trans s.1, by rw [sl]; exact s.2⟩
theorem hm_13_5 (h : hq_H) {s : Nat} (hs : s = 3 ∨ s = 5) (x : Int32) : ∀ s', s' ≠ 3 → s' ≠ 5 → (hq_si h 13 0 s x).1 13 0 s' = h.1 13 0 s' := fun s' h3 h5 => by rw [hq_si_at, if_neg (fun z => by omega)]
theorem hm_13_k (h : hq_H) (s : Nat) (x : Int32) {k : Nat} (hk : k ≠ 13) (i : Nat) : (hq_si h 13 0 s x).1 k i = h.1 k i := hq_si_o _ _ _ (fun z => hk z.1)
theorem hm_15_k (h : hq_H) (s : Nat) (x : Int32) {k : Nat} (hk : k ≠ 15) (i : Nat) : (hq_si h 15 0 s x).1 k i = h.1 k i := hq_si_o _ _ _ (fun z => hk z.1)
theorem r_append (d : Nat) (h : hq_H) (w : hz_W) (R : hm_RM h w) (ok : hz_okW w) (x : Int32) : hm_Ans MX7_append (d + 5) [.inr (13, 0), hz_i x] h hz_IAE (sp_append w x) := by
  have B := R.2.2.2.1
  have l60 := ok.2.2.2.1
  have walk : ∀ (a y : Bool) (v : Value) (hr : hq_H), (decide (33 ≤ x) && decide (x ≤ 126)) = a → decide (w.2.2.2.1 < 60) = y → (∀ J : Nat → hq_C, (∀ (ls : hq_L) (st : List hq_V) (h : hq_H), (hk_iconst 1 (hk_v4r 13 (d + 4) MX7_goes (hk_if_ne (hk_aload 0 (hk_getf 13 4 (hk_aload 0 (hk_getf 13 5 (hk_iload 1 (hk_i2c (hk_cast 15 60 (hk_aload 0 (hk_dup (hk_getf 13 5 (hk_iconst 1 (hk_iadd (hk_putI 13 5 (hk_aload 0 (hk_getf 13 5 (hk_iret (.inl (some (.inl v))) hr)))))))))))))))) (hk_iconst 0 (hk_iret (.inl (some (.inl v))) hr))))) ls st h → J 23 ls st h) → J 23 [some (.inr (13, 0)), some (hz_i x)] [hz_i (hz_b y), hz_i (hz_b a), .inr (13, 0)] h) → hq_Met (d + 5) MX7_append [.inr (13, 0), hz_i x] h (.inl (some (.inl v))) hr := by
    intro a y v hr ha hy k23
    refine inX7_append (d + 4) 0 x h _ _ (fun _ => trivial) (fun J b0 b23 => b0 _ _ _ ?_)
    have k23 := k23 J b23
    have mi := m_in (d + 3) x 33 126 h
    rw [ha] at mi
    refine ⟨_, _, mi, ?_⟩
    cases y with
    | false => exact hq_bt (hz_le (a := 60) (b := w.2.2.2.1) rfl B.1 (Nat.le_of_not_lt (of_decide_eq_false hy)) (by omega)) k23
    | true => exact hq_bf (hz_nle (a := 60) (b := w.2.2.2.1) rfl B.1 (of_decide_eq_true hy) (by decide)) k23
  unfold sp_append
  by_cases c : 33 ≤ x ∧ x ≤ 126
  · rw [if_pos c]
    have ca : (decide (33 ≤ x) && decide (x ≤ 126)) = true := by rw [decide_eq_true c.1, decide_eq_true c.2]; rfl
    obtain ⟨k, hk, rfl⟩ := nI_of2 (M := 126) (n := 126) (by decide) (fun z => absurd (Int32.lt_of_lt_of_le z (by decide : (0 : Int32) ≤ 33)) (Int32.not_lt.mpr c.1)) c.2
    by_cases n : w.2.2.2.1 < 60
    · rw [if_pos n]
      have ev : vp_nar .char ((nI k).toUInt32 % 65536).toInt32 = nI k := by
        rw [pk_vc, pk_char, pk_tn (by omega), Nat.mod_eq_of_lt (by omega)]
      have t5 : (hq_si (hq_si h 13 0 3 0) 15 0 w.2.2.2.1 (nI k)).1 13 0 5 = nI w.2.2.2.1 := by
        rw [hm_15_k _ _ _ (by decide), hq_si_at, if_neg (fun z => absurd z.2.1 (by decide))]
        exact B.1
      refine ⟨hq_si (hq_si (hq_si h 13 0 3 0) 15 0 w.2.2.2.1 (nI k)) 13 0 5 (nI (w.2.2.2.1 + 1)), .int (nI (w.2.2.2.1 + 1)), ?_, ?_, ?_, ?_, rfl⟩
      · refine walk true true _ _ ca (decide_eq_true n) (fun J b23 => b23 _ _ _ ?_)
        refine ⟨_, _, m_goes (d + 3) true true true h, hq_nt hz_one0 ?_⟩
        refine ⟨w.2.2.2.1, n, ?_, ?_⟩
        · show (hq_si h 13 0 3 0).1 13 0 5 = _
          rw [hq_si_at, if_neg (fun z => absurd z.2.1 (by decide))]
          exact B.1
        · have e5 : (hq_si (hq_si h 13 0 3 0) 15 0 w.2.2.2.1 (nI k)).1 13 0 5 + 1 = nI (w.2.2.2.1 + 1) := by rw [t5]; exact (nI_succ _).symm
          have e6 : hq_si (hq_si (hq_si h 13 0 3 0) 15 0 w.2.2.2.1 (vp_nar .char ((nI k).toUInt32 % 65536).toInt32)) 13 0 5 ((hq_si (hq_si h 13 0 3 0) 15 0 w.2.2.2.1 (vp_nar .char ((nI k).toUInt32 % 65536).toInt32)).1 13 0 5 + 1) = hq_si (hq_si (hq_si h 13 0 3 0) 15 0 w.2.2.2.1 (nI k)) 13 0 5 (nI (w.2.2.2.1 + 1)) := by
            rw [ev, e5]
          refine ⟨hz_ri ?_, e6⟩
          show _ = (hq_si (hq_si (hq_si h 13 0 3 0) 15 0 w.2.2.2.1 (vp_nar .char ((nI k).toUInt32 % 65536).toInt32)) 13 0 5 ((hq_si (hq_si h 13 0 3 0) 15 0 w.2.2.2.1 (vp_nar .char ((nI k).toUInt32 % 65536).toInt32)).1 13 0 5 + 1)).1 13 0 5
          rw [e6, hq_si_at, if_pos ⟨rfl, rfl, rfl⟩]
      · refine hm_RM_buf R ?_ (fun s h3 h5 => ?_) ?_ ?_ rfl ⟨?_, fun i hi => ?_⟩
        · rw [hm_13_k _ _ _ (by decide), hm_15_k _ _ _ (by decide), hm_13_k _ _ _ (by decide)]
        · rw [hm_13_5 _ (Or.inr rfl) _ s h3 h5, hm_15_k _ _ _ (by decide), hm_13_5 _ (Or.inl rfl) _ s h3 h5]
        · rw [hm_13_k _ _ _ (by decide), hm_15_k _ _ _ (by decide), hm_13_k _ _ _ (by decide)]
        · rw [hm_13_k _ _ _ (by decide), hm_15_k _ _ _ (by decide), hm_13_k _ _ _ (by decide)]
        · rw [hq_si_at, if_pos ⟨rfl, rfl, rfl⟩]
        · have hi : i < w.2.2.2.1 + 1 := hi
          rw [hm_13_k _ _ _ (by decide), hq_si_at]
          show _ = nI (if i = w.2.2.2.1 then (nI k).toNatClampNeg else w.2.2.2.2 i)
          by_cases e : i = w.2.2.2.1
          · rw [if_pos ⟨rfl, e, rfl⟩, if_pos e, nI_clamp (by omega)]
          · rw [if_neg (fun z => e z.2.1), if_neg e, hm_13_k _ _ _ (by decide)]
            exact B.2 i (by omega)
      · exact (hw_Mo_13 _ _ _).trans ((show hw_stay hw_Mo _ _ from fun k' i hn => hq_si_both _ _ _ _ _ (fun z => hn ⟨by omega, by omega⟩)).trans (hw_Mo_13 _ _ _))
      · rw [hq_si_at, if_neg (fun z => absurd z.2.1 (by decide)), hm_15_k _ _ _ (by decide), hm_th1]
    · rw [if_neg n]
      refine hm_no (v := .int 0) R ok (x := 2) (by decide) ?_
      refine walk true false _ _ ca (decide_eq_false n) (fun J b23 => b23 _ _ _ ?_)
      exact ⟨_, _, m_goes (d + 3) true false true h, hq_nf rfl ⟨rfl, rfl⟩⟩
  · rw [if_neg c]
    refine hm_no (v := .int 0) R ok (x := 1) (by decide) ?_
    refine walk false (decide (w.2.2.2.1 < 60)) _ _ (ts_nt (fun z => c (by
      rw [Bool.and_eq_true, decide_eq_true_iff, decide_eq_true_iff] at z
      exact z))) rfl (fun J b23 => b23 _ _ _ ?_)
    exact ⟨_, _, m_goes (d + 3) false (decide (w.2.2.2.1 < 60)) true h, hq_nf rfl ⟨rfl, rfl⟩⟩
theorem r_clearBuffer (d : Nat) (h : hq_H) (w : hz_W) (R : hm_RM h w) (ok : hz_okW w) : hm_Ans MX7_clearBuffer (d + 5) [.inr (13, 0)] h hz_IAE (sp_clear w) := by
  have B := R.2.2.2.1
  refine ⟨hq_si (hq_si h 13 0 3 0) 13 0 5 0, .int (nI w.2.2.2.1), ?_, ?_, (hw_Mo_13 _ _ _).trans (hw_Mo_13 _ _ _), ?_, rfl⟩
  · refine inX7_clearBuffer (d + 4) 0 h _ _ (fun _ => trivial) (fun J b0 => b0 _ _ _ ?_)
    refine ⟨hz_ri ?_, rfl⟩
    show nI w.2.2.2.1 = (hq_si h 13 0 3 0).1 13 0 5
    rw [hq_si_at, if_neg (fun z => absurd z.2.1 (by decide))]
    exact B.1.symm
  · refine hm_RM_buf R ?_ (fun s h3 h5 => ?_) ?_ ?_ rfl ⟨?_, fun i hi => absurd hi (Nat.not_lt_zero i)⟩
    · rw [hm_13_k _ _ _ (by decide), hm_13_k _ _ _ (by decide)]
    · rw [hm_13_5 _ (Or.inr rfl) _ s h3 h5, hm_13_5 _ (Or.inl rfl) _ s h3 h5]
    · rw [hm_13_k _ _ _ (by decide), hm_13_k _ _ _ (by decide)]
    · rw [hm_13_k _ _ _ (by decide), hm_13_k _ _ _ (by decide)]
    · rw [hq_si_at, if_pos ⟨rfl, rfl, rfl⟩]
      rfl
  · rw [hq_si_at, if_neg (fun z => absurd z.2.1 (by decide)), hm_th1]
theorem r_keep (d : Nat) (h : hq_H) (w : hz_W) (R : hm_RM h w) (ok : hz_okW w) : hm_Ans MX7_keep (d + 5) [.inr (13, 0)] h hz_IAE (sp_keep w) := by
  have n10 := ok.1.1
  have S0 : hm_S (hm_slot h 0) w.1 := by rw [hm_slot_0]; exact R.1.1
  have R0 := hm_RM_th 0 R ok
  have sl : ∀ q, hm_slot (hq_si (hw_cp (hq_si h 13 0 3 0) 0 7 65) 13 0 2 1) q = hm_slot (hw_cp (hq_si h 13 0 3 0) 0 7 65) q := fun q => by
    unfold hm_slot
    rw [hm_13_k _ _ _ (by decide)]
  have sl0 : ∀ q, hm_slot (hq_si h 13 0 3 0) q = hm_slot h q := fun q => by
    unfold hm_slot
    rw [hm_13_k _ _ _ (by decide)]
  have f13 : ∀ s, s ≠ 2 → (hq_si (hw_cp (hq_si h 13 0 3 0) 0 7 65) 13 0 2 1).1 13 0 s = (hq_si h 13 0 3 0).1 13 0 s := fun s hs => by
    rw [hq_si_at, if_neg (fun z => hs z.2.1), hw_cp_k _ _ _ _ (by decide)]
  have kk : ∀ k, k ≠ 13 → k ≠ 14 → (hq_si (hw_cp (hq_si h 13 0 3 0) 0 7 65) 13 0 2 1).1 k 0 = (hq_si h 13 0 3 0).1 k 0 := fun k h1 h2 => by
    rw [hm_13_k _ _ _ h1, hw_cp_k _ _ _ _ h2]
  refine ⟨hq_si (hw_cp (hq_si h 13 0 3 0) 0 7 65) 13 0 2 1, .int w.1.2.2.2.1, ?_, ?_, (hw_Mo_13 _ _ _).trans ((hw_Mo_cp _ _ _ _).trans (hw_Mo_13 _ _ _)), ?_, rfl⟩
  · refine inX7_keep (d + 4) 0 h _ _ (fun _ => trivial) (fun J b0 => b0 _ _ _ ?_)
    refine ⟨_, m_copies (d + 3) 0 7 _ (by decide) (by decide) (by decide) rfl rfl, ?_⟩
    refine ⟨Or.inr rfl, 2, by decide, rfl, hz_ri ?_, rfl⟩
    show w.1.2.2.2.1 = (hq_si (hw_cp (hq_si h 13 0 3 0) 0 7 65) 13 0 2 1).1 14 0 2
    have e2 : hm_slot (hq_si (hw_cp (hq_si h 13 0 3 0) 0 7 65) 13 0 2 1) 0 2 = h.1 14 0 2 := by
      rw [sl, hw_cp_no _ 0 (by decide) (by decide), sl0, hm_slot_0]
    rw [hm_slot_0] at e2
    rw [e2]
    exact R.1.1.2.2.1.symm
  · obtain ⟨⟨a1, a2⟩, s, ⟨v1, v2, v3⟩, b, L, f1, f2, f3, f4⟩ := R0
    refine ⟨⟨?_, fun r hr k hk => a2 r hr k hk⟩, ⟨?_, ?_⟩, ⟨v1, (f13 1 (by decide)).trans v2, fun i hi => ?_⟩, ⟨(f13 5 (by decide)).trans b.1, fun i hi => by rw [kk 15 (by decide) (by decide)]; exact b.2 i hi⟩, L, (f13 15 (by decide)).trans f1, fun i hi => by rw [kk 19 (by decide) (by decide)]; exact f2 i hi, fun i hi => by rw [kk 18 (by decide) (by decide)]; exact f3 i hi, f4⟩
    · rw [← hm_slot_0]
      refine hm_S_cong n10 (fun i hi => ?_) S0
      rw [sl, hw_cp_no _ 0 (by decide) hi, sl0]
    · rw [hq_si_at, if_pos ⟨rfl, rfl, rfl⟩]
    · refine hm_S_cong n10 (fun i hi => ?_) S0
      rw [sl, hw_cp_to _ 0 7 hi, sl0]
    · have hi : i < w.2.2.1.1 := hi
      have v1 : w.2.2.1.1 ≤ 6 := v1
      refine hm_S_cong (ok.2.2.1.2 i hi).1 (fun j hj => ?_) (v3 i hi)
      rw [sl, hw_cp_no _ 0 (by omega) hj]
  · rw [f13 3 (by decide), hm_th1]
theorem m_goesx (d : Nat) {p q r : Bool} {x y z : Int32} (hx : x = hz_b p) (hy : y = hz_b q) (hz : z = hz_b r) (h : hq_H) : hq_Met (d + 1) MX7_goes [.inr (13, 0), hz_i x, hz_i y, hz_i z] h (hz_o (hz_b (p && (q && r)))) (hq_si h 13 0 3 (hm_th p q r)) := by
  subst hx
  subst hy
  subst hz
  exact m_goes d p q r h
theorem r_goBack (d : Nat) (h : hq_H) (w : hz_W) (R : hm_RM h w) (ok : hz_okW w) : hm_Ans MX7_goBack (d + 5) [.inr (13, 0)] h hz_ISE (sp_goBack w) := by
  have s := R.2.1
  unfold sp_goBack
  cases hw : w.2.1 with
  | none =>
    rw [hw] at s
    have s : h.1 13 0 2 = 0 := s
    refine hm_no (v := .int 0) R ok (x := 1) (by decide) ?_
    refine inX7_goBack (d + 4) 0 h _ _ (fun _ => trivial) (fun J b0 => b0 _ _ _ ?_)
    exact ⟨_, _, m_goesx (d + 3) (p := false) (q := true) (r := true) s rfl rfl h, hq_nf rfl ⟨rfl, rfl⟩⟩
  | some x =>
    rw [hw] at s
    obtain ⟨s1', s2'⟩ := s
    obtain ⟨h1, m1, R1, s1, t1⟩ := m_saves (d + 2) (hq_si h 13 0 3 0) w (hm_RM_th 0 R ok) ok
    have S1 : hm_SN h1 w.2.1 := R1.2.1
    rw [hw] at S1
    have okx := ok.2.1 x hw
    have q1 : hm_S ((hw_cp h1 7 0 65).1 14 0) x := by
      rw [← hm_slot_0]
      exact hm_S_cong okx.1 (fun i hi => hw_cp_to h1 7 0 hi) S1.2
    refine hm_yes R1 s1 t1 (hz_okW_save ok) (hm_rest_cp _ _ _ _) (hw_Mo_cp _ _ _ _) (hw_cp_k _ _ _ _ (by decide) _) q1 (fun i hi => by rw [hw_cp_at, if_neg (fun z => by omega)]) ?_
    refine inX7_goBack (d + 4) 0 h _ _ (fun _ => trivial) (fun J b0 => b0 _ _ _ ?_)
    refine ⟨_, _, m_goesx (d + 3) (p := true) (q := true) (r := true) s1' rfl rfl h, hq_nt hz_one0 ?_⟩
    refine ⟨_, m1, _, m_copies (d + 3) 7 0 _ (by decide) (by decide) (by decide) rfl rfl, ?_⟩
    exact ⟨2, by decide, rfl, hz_ri q1.2.2.1.symm, rfl⟩
theorem r_undo (d : Nat) (h : hq_H) (w : hz_W) (R : hm_RM h w) (ok : hz_okW w) : hm_Ans MX7_undo (d + 5) [.inr (13, 0)] h hz_ISE (sp_undo w) := by
  obtain ⟨v6, vc, vs⟩ := R.2.2.1
  unfold sp_undo
  by_cases c : 0 < w.2.2.1.1
  · rw [if_pos c]
    have R0 := hm_RM_th 0 R ok
    have e0 : (hq_si h 13 0 3 0).1 13 0 1 = nI w.2.2.1.1 := by
      rw [hq_si_at, if_neg (fun z => absurd z.2.1 (by decide))]
      exact vc
    have e1 : (hw_cp (hq_si h 13 0 3 0) w.2.2.1.1 0 65).1 13 0 1 - 1 = nI (w.2.2.1.1 - 1) := by
      rw [hw_cp_k _ _ _ _ (by decide), e0]
      obtain ⟨m, hm⟩ : ∃ m, w.2.2.1.1 = m + 1 := ⟨w.2.2.1.1 - 1, by omega⟩
      rw [hm]
      exact nI_pred m
    have sl : ∀ q i, i < 65 → q ≠ 0 → hm_slot (hq_si (hw_cp (hq_si h 13 0 3 0) w.2.2.1.1 0 65) 13 0 1 (nI (w.2.2.1.1 - 1))) q i = hm_slot h q i := fun q i hi hq => by
      show (hq_si (hw_cp (hq_si h 13 0 3 0) w.2.2.1.1 0 65) 13 0 1 (nI (w.2.2.1.1 - 1))).1 14 0 (65 * q + i) = _
      rw [hm_13_k _ _ _ (by decide)]
      refine (hw_cp_no _ w.2.2.1.1 hq hi).trans ?_
      unfold hm_slot
      rw [hm_13_k _ _ _ (by decide)]
    have okv := ok.2.2.1.2 (w.2.2.1.1 - 1) (by omega)
    refine ⟨hq_si (hw_cp (hq_si h 13 0 3 0) w.2.2.1.1 0 65) 13 0 1 (nI (w.2.2.1.1 - 1)), .int (nI (w.2.2.1.1 - 1)), ?_, ?_, (hw_Mo_13 _ _ _).trans ((hw_Mo_cp _ _ _ _).trans (hw_Mo_13 _ _ _)), ?_, rfl⟩
    · refine inX7_undo (d + 4) 0 h _ _ (fun _ => trivial) (fun J b0 b13 => b0 _ _ _ ?_)
      refine hq_bf (by rw [show h.1 13 (13, 0).2 1 = nI w.2.2.1.1 from vc]; exact nI_nle c (by omega)) (b13 _ _ _ ?_)
      refine ⟨_, _, m_goes (d + 3) true true true h, hq_nt hz_one0 ?_⟩
      refine ⟨_, m_copies (d + 3) w.2.2.1.1 0 _ (by omega) (by decide) (by omega) e0 rfl, ?_⟩
      rw [← e1]
      refine ⟨hz_ri ?_, rfl⟩
      show _ = (hq_si (hw_cp (hq_si h 13 0 3 0) w.2.2.1.1 0 65) 13 0 1 ((hw_cp (hq_si h 13 0 3 0) w.2.2.1.1 0 65).1 13 0 1 - 1)).1 13 0 1
      rw [hq_si_at, if_pos ⟨rfl, rfl, rfl⟩]
    · refine hm_RM_rest (v := (w.2.2.1.1 - 1, w.2.2.1.2)) R ((hm_rest_f _ (Or.inr rfl) _).trans ((hm_rest_cp _ _ _ _).trans (hm_rest_f _ (Or.inl rfl) _))) ?_ (Or.inr (fun i hi => sl 7 i hi (by decide))) ok ⟨show w.2.2.1.1 - 1 ≤ 6 by omega, ?_, fun i hi => ?_⟩
      · rw [← hm_slot_0]
        have q := vs (w.2.2.1.1 - 1) (by omega)
        rw [show w.2.2.1.1 - 1 + 1 = w.2.2.1.1 by omega] at q
        refine hm_S_cong okv.1 (fun i hi => ?_) q
        show (hq_si (hw_cp (hq_si h 13 0 3 0) w.2.2.1.1 0 65) 13 0 1 (nI (w.2.2.1.1 - 1))).1 14 0 (65 * 0 + i) = _
        rw [hm_13_k _ _ _ (by decide)]
        refine (hw_cp_to _ w.2.2.1.1 0 hi).trans ?_
        unfold hm_slot
        rw [hm_13_k _ _ _ (by decide)]
      · rw [hq_si_at, if_pos ⟨rfl, rfl, rfl⟩]
      · have hi : i < w.2.2.1.1 - 1 := hi
        exact hm_S_cong (ok.2.2.1.2 i (by omega)).1 (fun j hj => sl _ j hj (by omega)) (vs i (by omega))
    · rw [hq_si_at, if_neg (fun z => absurd z.2.1 (by decide)), hw_cp_k _ _ _ _ (by decide), hm_th1]
  · rw [if_neg c]
    have v0 : w.2.2.1.1 = 0 := by omega
    refine hm_no (v := .int 0) R ok (x := 1) (by decide) ?_
    refine inX7_undo (d + 4) 0 h _ _ (fun _ => trivial) (fun J b0 b13 => b0 _ _ _ ?_)
    refine hq_bt (by rw [show h.1 13 (13, 0).2 1 = nI w.2.2.1.1 from vc, v0]; decide) (b13 _ _ _ ?_)
    exact ⟨_, _, m_goes (d + 3) false true true h, hq_nf rfl ⟨rfl, rfl⟩⟩
