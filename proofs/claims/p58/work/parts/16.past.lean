/-- what any state keeps to -/
def hz_okS (st : hz_St) : Prop := st.1 ≤ 10 ∧ (∃ g, g < 64 ∧ st.2.2.1 = nI g) ∧ ∀ k, k < st.1 → (∃ l e, l < 64 ∧ e < 64 ∧ st.2.1 k 0 = nI l ∧ st.2.1 k 1 = nI e ∧ l &&& e = 0 ∧ l ||| e ≠ 0) ∧ (∃ p, 1 ≤ p ∧ p ≤ 9 ∧ st.2.1 k 2 = nI p) ∧ (st.2.1 k 3 = 0 ∨ st.2.1 k 3 = 1)
theorem hz_okS.s {st : hz_St} (h : hz_okS st) : ∀ k, k < st.1 → st.2.1 k 3 = 0 ∨ st.2.1 k 3 = 1 := fun k hk => (h.2.2 k hk).2.2
/-- the saved states: how many, and each, the oldest first -/
abbrev hz_Sv : Type := Nat × (Nat → hz_St)
def hz_SV (h : hq_H) (v : hz_Sv) : Prop := v.1 ≤ 6 ∧ h.1 4 0 3 = nI v.1 ∧ ∃ o, o < 6 ∧ h.1 4 0 2 = nI o ∧ ∀ i, i < v.1 → hz_HC h (2 + (o + i) % 6) (v.2 i) ∧ hz_okS (v.2 i)
def hs_save (v : hz_Sv) (st : hz_St) : hz_Sv := if v.1 < 6 then (v.1 + 1, fun i => if i = v.1 then st else v.2 i) else (v.1, fun i => if i = 5 then st else v.2 (i + 1))
def hw_past (k i : Nat) : Prop := k = 4 ∨ ∃ j, 2 ≤ j ∧ j < 8 ∧ hw_own j k i
theorem hw_own_apart {j q k i : Nat} (hjq : j ≠ q) (h1 : hw_own j k i) : ¬ hw_own q k i := by
  rintro (⟨a, b⟩ | ⟨a, b, c⟩)
  · rcases h1 with ⟨a', b'⟩ | ⟨a', b', c'⟩
    · omega
    · omega
  · rcases h1 with ⟨a', b'⟩ | ⟨a', b', c'⟩
    · omega
    · omega
theorem hw_own_4 {j k i : Nat} (h : hw_own j k i) : k ≠ 4 := by rcases h with ⟨a, -⟩ | ⟨a, -⟩ <;> omega
theorem hw_stay.weak {P Q : Nat → Nat → Prop} {h h' : hq_H} (hs : hw_stay P h h') (hPQ : ∀ k i, P k i → Q k i) : hw_stay Q h h' := fun k i hn => hs k i (fun z => hn (hPQ k i z))
theorem x_X3_place (d : Nat) (h : hq_H) (o i : Nat) (ho : o < 6) (hi : i ≤ 6) (hc : h.1 4 0 2 = nI o) {x : Int32} (hx : x = nI i) : hq_Met (d + 1) MX3_place [.inr (4, 0), hz_i x] h (.inl (some (.inr (0, 2 + (o + i) % 6)))) h := by
  subst hx
  refine inX3_place d 0 (nI i) h _ _ (fun _ => ?_) (fun J b0 => b0 _ _ _ ?_)
  · show 2 + (o + i) % 6 < 9
    omega
  · refine ⟨by decide, ?_⟩
    have e : h.1 4 0 2 + nI i - (h.1 4 0 2 + nI i) / 6 * 6 = nI ((o + i) % 6) := by
      rw [hc, nI_add]
      exact pk_rem (by omega) (by decide) (by decide)
    refine hq_bf (by rw [show (h.1 4 0 2 + nI i - (h.1 4 0 2 + nI i) / 6 * 6) = nI ((o + i) % 6) from e]; exact nI_pos (by omega)) ?_
    refine hq_bt (hz_lt (b := 6) e rfl (by omega) (by decide)) ?_
    exact ⟨(o + i) % 6, by omega, e, rfl, rfl⟩
theorem x_X3_save (d : Nat) (h : hq_H) (v : hz_Sv) (st : hz_St) (hv : hz_SV h v) (hok : hz_okS st) (H : hz_HC h 0 st) : ∃ h', hq_Met (d + 3) MX3_save [.inr (4, 0), .inr (0, 0)] h hz_v h' ∧ hz_SV h' (hs_save v st) ∧ hw_stay hw_past h h' := by
  obtain ⟨v6, vc, o, ho, hoo, hsv⟩ := hv
  obtain ⟨b1, b2⟩ := hw_hb_is (h := h) (j := 2 + (o + v.1) % 6) (q := 0) (by omega) hok.1 H
  have own : ∀ k i, hw_own (2 + (o + v.1) % 6) k i → hw_past k i := fun k i z => Or.inr ⟨2 + (o + v.1) % 6, by omega, by omega, z⟩
  have b3 : hw_stay hw_past h (hw_hb h (2 + (o + v.1) % 6) 0 st.1) := b2.weak own
  have r4 : ∀ s, (hw_hb h (2 + (o + v.1) % 6) 0 st.1).1 4 0 s = h.1 4 0 s := fun s => by rw [(b2 4 0 (fun z => hw_own_4 z rfl)).1]
  have old : ∀ i, i < v.1 → (o + i) % 6 ≠ (o + v.1) % 6 → hz_HC (hw_hb h (2 + (o + v.1) % 6) 0 st.1) (2 + (o + i) % 6) (v.2 i) := fun i hi hne =>
    hz_HC_stay b2 (hsv i hi).2.1 (fun k q z => hw_own_apart (by omega) z) (hsv i hi).1
  have keep4 : ∀ (s : Nat) (x : Int32) (j : Nat) (w : hz_St), w.1 ≤ 10 → hz_HC (hw_hb h (2 + (o + v.1) % 6) 0 st.1) j w → hz_HC (hq_si (hw_hb h (2 + (o + v.1) % 6) 0 st.1) 4 0 s x) j w := fun s x j w hw Hw =>
    hz_HC_stay (P := fun k i => k = 4 ∧ i = 0) (fun k i hn => hq_si_both _ _ _ _ _ hn) hw (fun k i z z2 => hw_own_4 z z2.1) Hw
  by_cases hc6 : v.1 < 6
  · refine ⟨hq_si (hw_hb h (2 + (o + v.1) % 6) 0 st.1) 4 0 3 (h.1 4 0 3 + 1), ?_, ?_, ?_⟩
    · refine inX3_save (d + 2) 0 0 h _ _ (fun _ => trivial) (fun J b0 => b0 _ _ _ ?_)
      refine ⟨_, _, x_X3_place (d + 1) h o v.1 ho v6 hoo vc, ?_⟩
      refine ⟨_, x_X0_become d (2 + (o + v.1) % 6) 0 h st hok.1 (by omega) H hok.s, ?_⟩
      refine hq_bf (by rw [show (hw_hb h (2 + (o + v.1) % 6) 0 st.1).1 4 0 3 = nI v.1 from (r4 3).trans vc]; exact nI_ge hc6 (by decide)) ?_
      refine ⟨rfl, ?_⟩
      show hq_si _ 4 0 3 ((hw_hb h (2 + (o + v.1) % 6) 0 st.1).1 4 0 3 + 1) = _
      rw [r4]
    · unfold hs_save
      rw [if_pos hc6]
      refine ⟨show v.1 + 1 ≤ 6 by omega, ?_, o, ho, ?_, fun i hi => ?_⟩
      · rw [hq_si_at, if_pos ⟨rfl, rfl, rfl⟩, vc]
        exact (nI_succ _).symm
      · rw [hq_si_at, if_neg (fun z => absurd z.2.1 (by decide)), r4]
        exact hoo
      · have hi : i < v.1 + 1 := hi
        show hz_HC _ _ (if i = v.1 then st else v.2 i) ∧ hz_okS (if i = v.1 then st else v.2 i)
        by_cases e : i = v.1
        · rw [if_pos e, e]
          exact ⟨keep4 _ _ _ _ hok.1 b1, hok⟩
        · rw [if_neg e]
          exact ⟨keep4 _ _ _ _ (hsv i (by omega)).2.1 (old i (by omega) (by omega)), (hsv i (by omega)).2⟩
    · exact b3.trans (fun k i hn => hq_si_both _ _ _ _ _ (fun z => hn (Or.inl z.1)))
  · have e6 : v.1 = 6 := by omega
    have eo : (h.1 4 0 2 + 1) - (h.1 4 0 2 + 1) / 6 * 6 = nI ((o + 1) % 6) := by
      rw [hoo, nI_1]
      exact pk_rem (by omega) (by decide) (by decide)
    refine ⟨hq_si (hw_hb h (2 + (o + v.1) % 6) 0 st.1) 4 0 2 (nI ((o + 1) % 6)), ?_, ?_, ?_⟩
    · refine inX3_save (d + 2) 0 0 h _ _ (fun _ => trivial) (fun J b0 => b0 _ _ _ ?_)
      refine ⟨_, _, x_X3_place (d + 1) h o v.1 ho v6 hoo vc, ?_⟩
      refine ⟨_, x_X0_become d (2 + (o + v.1) % 6) 0 h st hok.1 (by omega) H hok.s, ?_⟩
      refine hq_bt (by rw [show (hw_hb h (2 + (o + v.1) % 6) 0 st.1).1 4 0 3 = nI v.1 from (r4 3).trans vc]; exact hz_le rfl rfl (show 6 ≤ v.1 by omega) (by omega)) ?_
      refine ⟨by decide, rfl, ?_⟩
      show hq_si _ 4 0 2 (((hw_hb h (2 + (o + v.1) % 6) 0 st.1).1 4 0 2 + 1) - ((hw_hb h (2 + (o + v.1) % 6) 0 st.1).1 4 0 2 + 1) / 6 * 6) = _
      rw [r4, eo]
    · unfold hs_save
      rw [if_neg hc6]
      refine ⟨v6, ?_, (o + 1) % 6, by omega, ?_, fun i hi => ?_⟩
      · rw [hq_si_at, if_neg (fun z => absurd z.2.1 (by decide)), r4]
        exact vc
      · rw [hq_si_at, if_pos ⟨rfl, rfl, rfl⟩]
      · have hi : i < v.1 := hi
        show hz_HC _ _ (if i = 5 then st else v.2 (i + 1)) ∧ hz_okS (if i = 5 then st else v.2 (i + 1))
        by_cases e : i = 5
        · rw [if_pos e, show 2 + ((o + 1) % 6 + i) % 6 = 2 + (o + v.1) % 6 by omega]
          exact ⟨keep4 _ _ _ _ hok.1 b1, hok⟩
        · rw [if_neg e, show 2 + ((o + 1) % 6 + i) % 6 = 2 + (o + (i + 1)) % 6 by omega]
          exact ⟨keep4 _ _ _ _ (hsv (i + 1) (by omega)).2.1 (old (i + 1) (by omega) (by omega)), (hsv (i + 1) (by omega)).2⟩
    · exact b3.trans (fun k i hn => hq_si_both _ _ _ _ _ (fun z => hn (Or.inl z.1)))
def hw_back (k i : Nat) : Prop := k = 4 ∨ hw_own 0 k i
theorem x_X3_restore (d : Nat) (h : hq_H) (v : hz_Sv) (hv : hz_SV h v) (h0 : 0 < v.1) : ∃ h', hq_Met (d + 3) MX3_restore [.inr (4, 0), .inr (0, 0)] h hz_v h' ∧ hz_SV h' (v.1 - 1, v.2) ∧ hz_HC h' 0 (v.2 (v.1 - 1)) ∧ hw_stay hw_back h h' := by
  obtain ⟨v6, vc, o, ho, hoo, hsv⟩ := hv
  have em : h.1 4 0 3 - 1 = nI (v.1 - 1) := by
    obtain ⟨m, hm⟩ : ∃ m, v.1 = m + 1 := ⟨v.1 - 1, by omega⟩
    rw [vc, hm]
    exact nI_pred m
  have s1 : hw_stay (fun k i => k = 4 ∧ i = 0) h (hq_si h 4 0 3 (h.1 4 0 3 - 1)) := fun k i hn => hq_si_both _ _ _ _ _ hn
  have k1 : ∀ (j : Nat) (w : hz_St), w.1 ≤ 10 → hz_HC h j w → hz_HC (hq_si h 4 0 3 (h.1 4 0 3 - 1)) j w := fun j w hw Hw => hz_HC_stay s1 hw (fun k i z z2 => hw_own_4 z z2.1) Hw
  have last := hsv (v.1 - 1) (by omega)
  obtain ⟨b1, b2⟩ := hw_hb_is (h := hq_si h 4 0 3 (h.1 4 0 3 - 1)) (j := 0) (q := 2 + (o + (v.1 - 1)) % 6) (by omega) last.2.1 (k1 _ _ last.2.1 last.1)
  refine ⟨hw_hb (hq_si h 4 0 3 (h.1 4 0 3 - 1)) 0 (2 + (o + (v.1 - 1)) % 6) (v.2 (v.1 - 1)).1, ?_, ?_, b1, ?_⟩
  · refine inX3_restore (d + 2) 0 0 h _ _ (fun _ => trivial) (fun J b0 => b0 _ _ _ ?_)
    refine ⟨_, _, x_X3_place (d + 1) _ o (v.1 - 1) ho (by omega) ?_ ?_, ?_⟩
    · show (hq_si h 4 0 3 (h.1 4 0 3 - 1)).1 4 0 2 = nI o
      rw [hq_si_at, if_neg (fun z => absurd z.2.1 (by decide))]
      exact hoo
    · show (hq_si h 4 0 3 (h.1 4 0 3 - 1)).1 4 0 3 = _
      rw [hq_si_at, if_pos ⟨rfl, rfl, rfl⟩]
      exact em
    · refine ⟨_, x_X0_become d 0 (2 + (o + (v.1 - 1)) % 6) _ _ last.2.1 (by omega) (k1 _ _ last.2.1 last.1) last.2.s, ?_⟩
      exact ⟨rfl, rfl⟩
  · refine ⟨show v.1 - 1 ≤ 6 by omega, ?_, o, ho, ?_, fun i hi => ?_⟩
    · rw [(b2 4 0 (fun z => hw_own_4 z rfl)).1, hq_si_at, if_pos ⟨rfl, rfl, rfl⟩]
      exact em
    · rw [(b2 4 0 (fun z => hw_own_4 z rfl)).1, hq_si_at, if_neg (fun z => absurd z.2.1 (by decide))]
      exact hoo
    · have hi : i < v.1 - 1 := hi
      exact ⟨hz_HC_stay b2 (hsv i (by omega)).2.1 (fun k q z => hw_own_apart (by omega) z) (k1 _ _ (hsv i (by omega)).2.1 (hsv i (by omega)).1), (hsv i (by omega)).2⟩
  · exact (s1.weak (fun k i z => Or.inl z.1)).trans (b2.weak (fun k i z => Or.inr z))
