-- ===== the reference: a part is done, a log is run =====
theorem hr_do_no {st : hz_St} {r : Nat → Int32} (h : (hr_do st r).1 = false) : (hr_do st r).2 = st := by
  unfold hr_do at h ⊢
  by_cases c1 : r 1 = 114
  · rw [if_pos c1] at h ⊢
    by_cases c : st.1 < 10
    · rw [if_pos c] at h; cases h
    · rw [if_neg c]
  · rw [if_neg c1] at h ⊢
    by_cases c2 : r 1 = 99 ∨ r 1 = 103
    · rw [if_pos c2] at h ⊢
      by_cases c : ((hz_tst st.2.2.1 (r 4) == decide (r 1 = 103)) && decide (hz_rfs st (r 4) = -1)) = true
      · rw [if_pos c] at h; cases h
      · rw [if_neg c]
    · rw [if_neg c2] at h ⊢
      by_cases c3 : r 1 = 110
      · rw [if_pos c3] at h; cases h
      · rw [if_neg c3] at h ⊢
        cases e : hz_ix (r 2) st.1 with
        | none => rfl
        | some k => rw [e] at h; cases h
theorem m_does (d : Nat) (h : hq_H) (st : hz_St) (r : Nat → Int32) (H : hm_S (h.1 14 0) st) (ok : hz_okS st) (D : hr_done r) (fs : hm_fs (h.1 13 0) r) : ∃ h', hq_Met (d + 5) MX7_does [.inr (13, 0)] h (hz_o (hz_b (hr_do st r).1)) h' ∧ hm_S (h'.1 14 0) (hr_do st r).2 ∧ (hm_rest h h' ∧ hw_stay hw_Mo h h' ∧ h'.1 13 0 = h.1 13 0) ∧ ∀ i, 65 ≤ i → h'.1 14 0 i = h.1 14 0 i := by
  have n10 := ok.1
  have same : (hm_rest h h ∧ hw_stay hw_Mo h h ∧ h.1 13 0 = h.1 13 0) ∧ ∀ i, 65 ≤ i → h.1 14 0 i = h.1 14 0 i := ⟨⟨hm_rest_rf h, hw_stay_rf, rfl⟩, fun _ _ => rfl⟩
  obtain ⟨f7, fr, fc, fn, fv⟩ := fs
  rcases D with ⟨h1, ⟨p, p1, p9, hp⟩, l, e, hl, he, h5, h6, hle, hne⟩ | ⟨h1, q, hq, h4⟩ | ⟨h1, p, p1, p9, hp⟩ | ⟨h1, ⟨p, p9, hp⟩, q, q9, h3⟩
  · obtain ⟨e8, e9, e10⟩ := fr h1
    have e7 : h.1 13 0 7 = 114 := f7.trans h1
    unfold hr_do
    rw [if_pos h1, ← e8, ← e9, ← e10]
    by_cases c : st.1 < 10
    · rw [if_pos c]
      obtain ⟨r1, r2, r3⟩ := hm_mkh_rest h (5 + 6 * st.1) (h.1 13 0 8) (h.1 13 0 9) (h.1 13 0 10)
      obtain ⟨q1, q2⟩ := hm_mkh_S (h.1 13 0 8) (h.1 13 0 9) (h.1 13 0 10) H c
      refine ⟨_, ?_, q1, ⟨r1, r2, r3⟩, q2⟩
      refine inX7_does (d + 4) 0 h _ _ (fun _ => trivial) (fun J b0 b25 b67 b89 b108 => b0 _ _ _ ?_)
      refine hq_nf e7 ?_
      refine ⟨0, by decide, rfl, ?_⟩
      refine hq_bf (hz_nle (a := 10) (b := st.1) rfl H.1 c (by decide)) ?_
      refine b25 _ _ _ (hq_bf hz_one0 ?_)
      exact ⟨_, _, m_makes (d + 2) (h.1 13 0 8) (h.1 13 0 9) (h.1 13 0 10) h st.1 H.1 c, Or.inr rfl, rfl, rfl⟩
    · rw [if_neg c]
      refine ⟨h, ?_, H, same⟩
      refine inX7_does (d + 4) 0 h _ _ (fun _ => trivial) (fun J b0 b25 b67 b89 b108 => b0 _ _ _ ?_)
      refine hq_nf e7 ?_
      refine ⟨0, by decide, rfl, ?_⟩
      refine hq_bt (hz_le (a := 10) (b := st.1) rfl H.1 (by omega) (by omega)) ?_
      exact b25 _ _ _ (hq_bt rfl ⟨Or.inl rfl, rfl, rfl⟩)
  · have e8 := fc h1
    have e7 : h.1 13 0 7 = 99 ∨ h.1 13 0 7 = 103 := by rw [f7]; exact h1
    have ml := m_isLet (d + 2) q h st H ok hq
    have e8' : h.1 13 0 8 = nI q := e8.trans h4
    rw [← e8'] at ml
    have mf := m_ref (d + 1) (h.1 13 0 8) h st H n10
    have ng : hz_rfs st (h.1 13 0 8) < 0 ↔ hz_rfs st (h.1 13 0 8) = -1 := hz_lo_neg (by omega)
    have mt := m_turns (d + 3) (h.1 13 0 8) h st H
    unfold hr_do
    rw [if_neg (by rcases h1 with h1 | h1 <;> rw [h1] <;> decide), if_pos h1, ← e8, ← f7]
    have walk : ∀ (x : Bool) (hr : hq_H), ((hz_tst st.2.2.1 (h.1 13 0 8) == decide (h.1 13 0 7 = 103)) && decide (hz_rfs st (h.1 13 0 8) = -1)) = x → (∀ J : Nat → hq_C, (∀ (ls_ : hq_L) (st_ : List hq_V) (h_ : hq_H), (hk_istore 1 (hk_iload 1 (hk_if_eq (hk_iload 1 (hk_zret (hz_o (hz_b x)) hr)) (hk_aload 0 (hk_aload 0 (hk_getf 13 8 (hk_v2r 13 (d + 4) MX7_turns (hk_pop (hk_iload 1 (hk_zret (hz_o (hz_b x)) hr)))))))))) ls_ st_ h_ → J 108 ls_ st_ h_) → J 108 [some (.inr (13, 0)), none] [hz_i (hz_b x)] h) → hq_Met (d + 5) MX7_does [.inr (13, 0)] h (hz_o (hz_b x)) hr := by
      intro x hr hx k
      refine inX7_does (d + 4) 0 h _ _ (fun _ => trivial) (fun J b0 b25 b67 b89 b108 => b0 _ _ _ ?_)
      have k := k J b108
      have k89 : J 89 [some (.inr (13, 0)), none] [hz_i (hz_b (decide (h.1 13 0 7 = 103))), hz_i (hz_b (hz_tst st.2.2.1 (h.1 13 0 8)))] h := by
        refine b89 _ _ _ ?_
        by_cases c : hz_tst st.2.2.1 (h.1 13 0 8) = decide (h.1 13 0 7 = 103)
        · rw [beq_iff_eq.mpr c, Bool.true_and] at hx
          rw [c]
          refine hq_nf rfl ?_
          refine ⟨_, _, mf, ?_⟩
          refine hq_bc (fun z => ?_) (fun z => ?_)
          · rw [decide_eq_false (fun w => Int32.not_lt.mpr z (ng.mpr w))] at hx
            subst hx
            exact k
          · rw [decide_eq_true (ng.mp (Int32.not_le.mp z))] at hx
            subst hx
            exact k
        · have cf : (hz_tst st.2.2.1 (h.1 13 0 8) == decide (h.1 13 0 7 = 103)) = false := ts_nt (fun z => c (beq_iff_eq.mp z))
          rw [cf, Bool.false_and] at hx
          subst hx
          refine hq_nt (fun z => c ?_) k
          have z : hz_b (hz_tst st.2.2.1 (h.1 13 0 8)) = hz_b (decide (h.1 13 0 7 = 103)) := z
          revert z
          cases hz_tst st.2.2.1 (h.1 13 0 8) <;> cases decide (h.1 13 0 7 = 103) <;> decide
      have k67 : J 67 [some (.inr (13, 0)), none] [] h := by
        refine b67 _ _ _ ⟨_, _, ml, ?_⟩
        by_cases c : h.1 13 0 7 = 103
        · rw [decide_eq_true c] at k89
          exact hq_nf c k89
        · rw [decide_eq_false c] at k89
          exact hq_nt c k89
      refine hq_nt (fun z => ?_) ?_
      · have z : h.1 13 0 7 = 114 := z
        rcases e7 with e7 | e7 <;> (rw [e7] at z; exact absurd z (by decide))
      · by_cases c : h.1 13 0 7 = 99
        · exact hq_bt c k67
        · refine hq_bf c (hq_nf ?_ k67)
          exact e7.resolve_left c
    by_cases c : ((hz_tst st.2.2.1 (h.1 13 0 8) == decide (h.1 13 0 7 = 103)) && decide (hz_rfs st (h.1 13 0 8) = -1)) = true
    · rw [if_pos c]
      have q1 := hm_turn_S (h.1 13 0 8) H
      rw [← hm_row] at q1
      refine ⟨_, ?_, q1, ⟨hm_rest_14 _ _ _, hw_Mo_14 _ _ _, hm_14_13 _ _ _⟩, fun i hi => by rw [hm_row, hm_up_n (by omega)]⟩
      refine walk true _ c (fun J b108 => b108 _ _ _ (hq_bf hz_one0 ?_))
      exact ⟨_, _, mt, Or.inr rfl, rfl, rfl⟩
    · rw [if_neg c]
      refine ⟨h, ?_, H, same⟩
      refine walk false _ (ts_nt c) (fun J b108 => b108 _ _ _ (hq_bt rfl ?_))
      exact ⟨Or.inl rfl, rfl, rfl⟩
  · have e8 := fn h1
    have e7 : h.1 13 0 7 = 110 := f7.trans h1
    unfold hr_do
    rw [if_neg (by rw [h1]; decide), if_neg (by rw [h1]; decide), if_pos h1, hp, nI_clamp (by omega)]
    have mn := m_nights d p h st H n10 (by omega)
    rw [← hp, ← e8] at mn
    obtain ⟨q1, q2, q3⟩ := hm_nights_S n10 H p
    refine ⟨_, ?_, q1, q2, q3⟩
    refine inX7_does (d + 4) 0 h _ _ (fun _ => trivial) (fun J b0 b25 b67 b89 b108 => b0 _ _ _ ?_)
    refine hq_nt (by rw [e7]; decide) ?_
    refine hq_bf (by rw [e7]; decide) ?_
    refine hq_nt (by rw [e7]; decide) ?_
    refine hq_nf e7 ?_
    exact ⟨_, _, mn, Or.inr rfl, rfl, rfl⟩
  · obtain ⟨e8, e9⟩ := fv h1
    have e7 : h.1 13 0 7 = 118 := f7.trans h1
    unfold hr_do
    rw [if_neg (by rw [h1]; decide), if_neg (by rw [h1]; decide), if_neg (by rw [h1]; decide), ← e8, ← e9]
    have mr := m_isRule (d + 2) st.1 (h.1 13 0 8) h H.1 n10
    cases hx : hz_ix (h.1 13 0 8) st.1 with
    | none =>
      rw [hx] at mr
      refine ⟨h, ?_, H, same⟩
      refine inX7_does (d + 4) 0 h _ _ (fun _ => trivial) (fun J b0 b25 b67 b89 b108 => b0 _ _ _ ?_)
      refine hq_nt (by rw [e7]; decide) ?_
      refine hq_bf (by rw [e7]; decide) ?_
      refine hq_nt (by rw [e7]; decide) ?_
      refine hq_nt (by rw [e7]; decide) ?_
      exact ⟨_, _, mr, hq_bt rfl ⟨Or.inl rfl, rfl, rfl⟩⟩
    | some k =>
      rw [hx] at mr
      obtain ⟨ek, hk⟩ := hz_ix_s (by omega) hx
      have mw := m_waives (d + 2) k (h.1 13 0 9) h st H n10 hk
      rw [← ek] at mw
      have q1 := hm_attr_S (a := 4) (st.2.2.2.1 + h.1 13 0 9) H hk (by decide)
      rw [← hm_row] at q1
      refine ⟨_, ?_, q1, ⟨hm_rest_14 _ _ _, hw_Mo_14 _ _ _, hm_14_13 _ _ _⟩, fun i hi => by rw [hm_row, hm_up_n (by omega)]⟩
      refine inX7_does (d + 4) 0 h _ _ (fun _ => trivial) (fun J b0 b25 b67 b89 b108 => b0 _ _ _ ?_)
      refine hq_nt (by rw [e7]; decide) ?_
      refine hq_bf (by rw [e7]; decide) ?_
      refine hq_nt (by rw [e7]; decide) ?_
      refine hq_nt (by rw [e7]; decide) ?_
      refine ⟨_, _, mr, hq_bf hz_one0 ?_⟩
      exact ⟨_, _, mw, Or.inr rfl, rfl, rfl⟩
