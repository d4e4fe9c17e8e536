-- ===== the reference: its state =====
def hm_up (f : Nat → Int32) (j : Nat) (v : Int32) : Nat → Int32 := fun s => if s = j then v else f s
theorem hm_up_s (f : Nat → Int32) (j : Nat) (v : Int32) : hm_up f j v j = v := if_pos rfl
theorem hm_up_e {f : Nat → Int32} {j s : Nat} {v : Int32} (h : s = j) : hm_up f j v s = v := if_pos h
theorem hm_up_n {f : Nat → Int32} {j s : Nat} {v : Int32} (h : s ≠ j) : hm_up f j v s = f s := if_neg h
theorem hm_row (h : hq_H) (j : Nat) (v : Int32) : (hq_si h 14 0 j v).1 14 0 = hm_up (h.1 14 0) j v := by
  funext s
  rw [hq_si_at]
  unfold hm_up
  by_cases c : s = j
  · rw [if_pos ⟨rfl, c, rfl⟩, if_pos c]
  · rw [if_neg (fun z => c z.2.1), if_neg c]
def hm_slot (h : hq_H) (q : Nat) : Nat → Int32 := fun i => h.1 14 0 (65 * q + i)
theorem hm_slot_0 (h : hq_H) : hm_slot h 0 = h.1 14 0 := by
  funext i
  show h.1 14 0 (65 * 0 + i) = _
  rw [Nat.mul_zero, Nat.zero_add]
theorem hm_S_cong {f g : Nat → Int32} {st : hz_St} (hn : st.1 ≤ 10) (e : ∀ i, i < 65 → g i = f i) (H : hm_S f st) : hm_S g st := by
  obtain ⟨a0, a1, a2, a3, a4, a5⟩ := H
  exact ⟨(e 0 (by omega)).trans a0, (e 1 (by omega)).trans a1, (e 2 (by omega)).trans a2, (e 3 (by omega)).trans a3, (e 4 (by omega)).trans a4, fun k hk a ha => (e _ (by omega)).trans (a5 k hk a ha)⟩
def hm_SV (h : hq_H) (v : hz_Sv) : Prop := v.1 ≤ 6 ∧ h.1 13 0 1 = nI v.1 ∧ ∀ i, i < v.1 → hm_S (hm_slot h (i + 1)) (v.2 i)
def hm_SN (h : hq_H) (s : Option hz_St) : Prop := match s with
  | none => h.1 13 0 2 = 0
  | some s => h.1 13 0 2 = 1 ∧ hm_S (hm_slot h 7) s
def hm_BF (h : hq_H) (b : Nat × (Nat → Nat)) : Prop := h.1 13 0 5 = nI b.1 ∧ ∀ i, i < b.1 → h.1 15 0 i = nI (b.2 i)
def hm_J (h : hq_H) (L : hz_J) : Prop := h.1 13 0 15 = nI L.1 ∧ (∀ i, i < L.1 → h.1 19 0 i = nI (L.2 i)) ∧ (∀ c, c < 4096 → h.1 18 0 c = hz_b (hj_in L c)) ∧ hj_ok L
def hm_RM (h : hq_H) (w : hz_W) : Prop := hm_Q h w.1 ∧ hm_SN h w.2.1 ∧ hm_SV h w.2.2.1 ∧ hm_BF h w.2.2.2 ∧ ∃ L, hm_J h L
/-- all states of a world are such states -/
def hz_okW (w : hz_W) : Prop := hz_okS w.1 ∧ (∀ s, w.2.1 = some s → hz_okS s) ∧ (w.2.2.1.1 ≤ 6 ∧ ∀ i, i < w.2.2.1.1 → hz_okS (w.2.2.1.2 i)) ∧ hz_bok w.2.2.2
theorem hz_RC_ok {h : hq_H} {w : hz_W} (R : hz_RC h w) : hz_okW w := by
  obtain ⟨_, a, b, c, e⟩ := R
  refine ⟨a, fun s hs => ?_, ⟨c.1, fun i hi => ?_⟩, e.1⟩
  · rw [hs] at b
    exact b.2.2
  · obtain ⟨_, _, o, _, _, f⟩ := c
    exact (f i hi).2
def hw_Mo (k _ : Nat) : Prop := 13 ≤ k ∧ k < 20
/-- what stays besides the row of states, the number of those saved, and what was thrown -/
def hm_rest (h h' : hq_H) : Prop := (∀ s, s ≠ 1 → s ≠ 3 → h'.1 13 0 s = h.1 13 0 s) ∧ h'.1 15 0 = h.1 15 0 ∧ h'.1 18 0 = h.1 18 0 ∧ h'.1 19 0 = h.1 19 0 ∧ h'.2 16 0 = h.2 16 0
theorem hm_rest_rf (h : hq_H) : hm_rest h h := ⟨fun _ _ _ => rfl, rfl, rfl, rfl, rfl⟩
theorem hm_rest.trans {a b c : hq_H} (h1 : hm_rest a b) (h2 : hm_rest b c) : hm_rest a c := ⟨fun s h3 h4 => (h2.1 s h3 h4).trans (h1.1 s h3 h4), h2.2.1.trans h1.2.1, h2.2.2.1.trans h1.2.2.1, h2.2.2.2.1.trans h1.2.2.2.1, h2.2.2.2.2.trans h1.2.2.2.2⟩
theorem hm_rest_14 (h : hq_H) (j : Nat) (v : Int32) : hm_rest h (hq_si h 14 0 j v) := ⟨fun s _ _ => by rw [hq_si_o _ _ _ (fun z => absurd z.1 (by decide))], hq_si_o _ _ _ (fun z => absurd z.1 (by decide)), hq_si_o _ _ _ (fun z => absurd z.1 (by decide)), hq_si_o _ _ _ (fun z => absurd z.1 (by decide)), rfl⟩
theorem hm_rest_f (h : hq_H) {s : Nat} (hs : s = 1 ∨ s = 3) (v : Int32) : hm_rest h (hq_si h 13 0 s v) := ⟨fun s' h1 h3 => by rw [hq_si_at, if_neg (fun z => by omega)], hq_si_o _ _ _ (fun z => absurd z.1 (by decide)), hq_si_o _ _ _ (fun z => absurd z.1 (by decide)), hq_si_o _ _ _ (fun z => absurd z.1 (by decide)), rfl⟩
theorem hm_L_rest {h h' : hq_H} (r : hm_rest h h') (L : hm_L h) : hm_L h' := fun q hq k hk => by
  rw [r.2.2.2.2]
  exact L q hq k hk
theorem hm_RM_rest {h h' : hq_H} {w : hz_W} {st : hz_St} {v : hz_Sv} (R : hm_RM h w) (r : hm_rest h h') (hS : hm_S (h'.1 14 0) st) (h7 : w.2.1 = none ∨ (∀ i, i < 65 → hm_slot h' 7 i = hm_slot h 7 i)) (ok : hz_okW w) (hV : hm_SV h' v) : hm_RM h' (st, w.2.1, v, w.2.2.2) := by
  obtain ⟨a, b, c, e, L, f⟩ := R
  refine ⟨⟨hS, hm_L_rest r a.2⟩, ?_, hV, ⟨(r.1 5 (by decide) (by decide)).trans e.1, fun i hi => by rw [r.2.1]; exact e.2 i hi⟩, L, (r.1 15 (by decide) (by decide)).trans f.1, fun i hi => by rw [r.2.2.2.1]; exact f.2.1 i hi, fun i hi => by rw [r.2.2.1]; exact f.2.2.1 i hi, f.2.2.2⟩
  show hm_SN h' w.2.1
  cases hw : w.2.1 with
  | none =>
    rw [hw] at b
    exact (r.1 2 (by decide) (by decide)).trans b
  | some s =>
    rw [hw] at b
    refine ⟨(r.1 2 (by decide) (by decide)).trans b.1, ?_⟩
    rcases h7 with h7 | h7
    · rw [hw] at h7
      cases h7
    · exact hm_S_cong (ok.2.1 s hw).1 h7 b.2
theorem hw_Mo_14 (h : hq_H) (j : Nat) (v : Int32) : hw_stay hw_Mo h (hq_si h 14 0 j v) := fun k i hn => hq_si_both _ _ _ _ _ (fun z => hn ⟨by omega, by omega⟩)
theorem hw_Mo_13 (h : hq_H) (j : Nat) (v : Int32) : hw_stay hw_Mo h (hq_si h 13 0 j v) := fun k i hn => hq_si_both _ _ _ _ _ (fun z => hn ⟨by omega, by omega⟩)
-- ===== copies of slots =====
def hw_cp (h : hq_H) (a b m : Nat) : hq_H := (fun k i s => if k = 14 ∧ i = 0 ∧ 65 * b ≤ s ∧ s < 65 * b + m then h.1 14 0 (65 * a + (s - 65 * b)) else h.1 k i s, h.2)
theorem hw_cp_at (h : hq_H) (a b m k i s : Nat) : (hw_cp h a b m).1 k i s = if k = 14 ∧ i = 0 ∧ 65 * b ≤ s ∧ s < 65 * b + m then h.1 14 0 (65 * a + (s - 65 * b)) else h.1 k i s := rfl
theorem hw_cp_0 (h : hq_H) (a b : Nat) : hw_cp h a b 0 = h := hq_ext (fun k i s => if_neg (fun z => by omega)) (fun _ _ _ => rfl)
theorem hw_cp_s (h : hq_H) {a b m : Nat} (hab : a ≠ b) (hm : m < 65) : hq_si (hw_cp h a b m) 14 0 (65 * b + m) ((hw_cp h a b m).1 14 0 (65 * a + m)) = hw_cp h a b (m + 1) := by
  have src : (hw_cp h a b m).1 14 0 (65 * a + m) = h.1 14 0 (65 * a + m) := by rw [hw_cp_at, if_neg (fun z => by omega)]
  rw [src]
  refine hq_ext (fun k i s => ?_) (fun _ _ _ => rfl)
  rw [hq_si_at, hw_cp_at, hw_cp_at]
  by_cases c : k = 14 ∧ i = 0
  · by_cases e : s = 65 * b + m
    · rw [if_pos ⟨c.1, e, c.2⟩, if_pos ⟨c.1, c.2, by omega, by omega⟩, e, show 65 * b + m - 65 * b = m by omega]
    · rw [if_neg (fun z => e z.2.1)]
      by_cases l : 65 * b ≤ s ∧ s < 65 * b + m
      · rw [if_pos ⟨c.1, c.2, l.1, l.2⟩, if_pos ⟨c.1, c.2, l.1, by omega⟩]
      · rw [if_neg (fun z => l z.2.2), if_neg (fun z => l ⟨z.2.2.1, by omega⟩)]
  · rw [if_neg (fun z => c ⟨z.1, z.2.2⟩), if_neg (fun z => c ⟨z.1, z.2.1⟩), if_neg (fun z => c ⟨z.1, z.2.1⟩)]
theorem hw_cp_to (h : hq_H) (a b : Nat) {i : Nat} (hi : i < 65) : hm_slot (hw_cp h a b 65) b i = hm_slot h a i := by
  show (hw_cp h a b 65).1 14 0 (65 * b + i) = h.1 14 0 (65 * a + i)
  rw [hw_cp_at, if_pos ⟨rfl, rfl, by omega, by omega⟩, show 65 * b + i - 65 * b = i by omega]
theorem hw_cp_no (h : hq_H) (a : Nat) {b q i : Nat} (hq : q ≠ b) (hi : i < 65) : hm_slot (hw_cp h a b 65) q i = hm_slot h q i := by
  show (hw_cp h a b 65).1 14 0 (65 * q + i) = h.1 14 0 (65 * q + i)
  rw [hw_cp_at, if_neg (fun z => by omega)]
theorem hw_cp_k (h : hq_H) (a b m : Nat) {k : Nat} (hk : k ≠ 14) (i : Nat) : (hw_cp h a b m).1 k i = h.1 k i := by
  funext s
  rw [hw_cp_at, if_neg (fun z => hk z.1)]
theorem hm_rest_cp (h : hq_H) (a b m : Nat) : hm_rest h (hw_cp h a b m) := ⟨fun s _ _ => by rw [hw_cp_k _ _ _ _ (by decide)], hw_cp_k _ _ _ _ (by decide) _, hw_cp_k _ _ _ _ (by decide) _, hw_cp_k _ _ _ _ (by decide) _, rfl⟩
theorem hw_Mo_cp (h : hq_H) (a b m : Nat) : hw_stay hw_Mo h (hw_cp h a b m) := fun k i hn => ⟨hw_cp_k _ _ _ _ (fun z => hn ⟨by omega, by omega⟩) _, rfl⟩
theorem hm_ix65 (b k : Nat) : (65 : Int32) * nI b + nI k = nI (65 * b + k) := by
  show nI 65 * nI b + nI k = _
  rw [pk_mul, nI_add]
theorem m_copies (d a b : Nat) (h : hq_H) (ha : a ≤ 7) (hb : b ≤ 7) (hab : a ≠ b) {x y : Int32} (hx : x = nI a) (hy : y = nI b) : hq_Met (d + 1) MX7_copies [.inr (13, 0), hz_i x, hz_i y] h hz_v (hw_cp h a b 65) := by
  subst hx
  subst hy
  refine inX7_copies d 0 (nI a) (nI b) h _ _ (fun _ => trivial) (fun J b0 b2 => b0 _ _ _ ?_)
  have key := hq_up (P := fun k => J 2 [some (.inr (13, 0)), some (hz_i (nI a)), some (hz_i (nI b)), some (hz_i (nI k))] [] (hw_cp h a b k)) 65 (b2 _ _ _ (hq_bt (hz_le (a := 65) (b := 65) rfl rfl (Nat.le_refl _) (by decide)) ⟨rfl, rfl⟩)) (fun k hk ih => b2 _ _ _ ?_) 0 (Nat.zero_le _)
  · rw [hw_cp_0] at key
    exact key
  · refine hq_bf (hz_nle (a := 65) (b := k) rfl rfl hk (by decide)) ?_
    refine ⟨65 * a + k, by omega, hm_ix65 a k, ?_⟩
    refine ⟨65 * b + k, by omega, hm_ix65 b k, ?_⟩
    rw [nI_succ k, ← hw_cp_s h hab hk] at ih
    exact ih
-- ===== saving =====
def hw_sh (h : hq_H) : Nat → hq_H
  | 0 => h
  | m + 1 => hw_cp (hw_sh h m) (m + 2) (m + 1) 65
theorem hw_sh_is (h : hq_H) {q i : Nat} (hi : i < 65) : ∀ m, hm_slot (hw_sh h m) q i = if 1 ≤ q ∧ q ≤ m then hm_slot h (q + 1) i else hm_slot h q i
  | 0 => (if_neg (fun z => by omega)).symm
  | m + 1 => by
    have ih1 := hw_sh_is h (q := q) hi m
    by_cases e : q = m + 1
    · subst e
      rw [if_pos ⟨by omega, Nat.le_refl _⟩]
      refine (hw_cp_to (hw_sh h m) (m + 2) (m + 1) hi).trans ?_
      have ih2 := hw_sh_is h (q := m + 2) hi m
      rw [if_neg (fun z => by omega)] at ih2
      exact ih2
    · refine (hw_cp_no (hw_sh h m) (m + 2) e hi).trans (ih1.trans ?_)
      by_cases c : 1 ≤ q ∧ q ≤ m
      · rw [if_pos c, if_pos ⟨c.1, by omega⟩]
      · rw [if_neg c, if_neg (fun z => c ⟨z.1, by omega⟩)]
theorem hw_sh_rest (h : hq_H) : ∀ m, hm_rest h (hw_sh h m) ∧ hw_stay hw_Mo h (hw_sh h m) ∧ (hw_sh h m).1 13 0 = h.1 13 0
  | 0 => ⟨hm_rest_rf h, hw_stay_rf, rfl⟩
  | m + 1 => by
    obtain ⟨a, b, c⟩ := hw_sh_rest h m
    exact ⟨a.trans (hm_rest_cp _ _ _ _), b.trans (hw_Mo_cp _ _ _ _), (hw_cp_k _ _ _ _ (by decide) _).trans c⟩
theorem m_saves (d : Nat) (h : hq_H) (w : hz_W) (R : hm_RM h w) (ok : hz_okW w) : ∃ h', hq_Met (d + 2) MX7_saves [.inr (13, 0)] h hz_v h' ∧ hm_RM h' (w.1, w.2.1, hs_save w.2.2.1 w.1, w.2.2.2) ∧ hw_stay hw_Mo h h' ∧ h'.1 13 0 3 = h.1 13 0 3 := by
  obtain ⟨v6, vc, vs⟩ := R.2.2.1
  have n10 := ok.1.1
  have S0 : hm_S (hm_slot h 0) w.1 := by rw [hm_slot_0]; exact R.1.1
  by_cases c6 : w.2.2.1.1 < 6
  · have e1 : h.1 13 0 1 + 1 = nI (w.2.2.1.1 + 1) := by rw [vc]; exact (nI_succ _).symm
    have sl : ∀ q i, hm_slot (hq_si h 13 0 1 (h.1 13 0 1 + 1)) q i = hm_slot h q i := fun q i => by
      show (hq_si h 13 0 1 (h.1 13 0 1 + 1)).1 14 0 _ = _
      rw [hq_si_o _ _ _ (fun z => absurd z.1 (by decide))]
      rfl
    refine ⟨hw_cp (hq_si h 13 0 1 (h.1 13 0 1 + 1)) 0 (w.2.2.1.1 + 1) 65, ?_, ?_, (hw_Mo_13 h 1 _).trans (hw_Mo_cp _ _ _ _), ?_⟩
    · refine inX7_saves (d + 1) 0 h _ _ (fun _ => trivial) (fun J b0 b11 b41 => b0 _ _ _ ?_)
      refine hq_nt (by rw [show h.1 13 (13, 0).2 1 = nI w.2.2.1.1 from vc]; exact hz_ne (a := w.2.2.1.1) (b := 6) rfl rfl (by omega) (by omega) (by decide)) (b41 _ _ _ ?_)
      refine ⟨_, m_copies d 0 (w.2.2.1.1 + 1) _ (by decide) (by omega) (by omega) rfl ?_, rfl, rfl⟩
      show (hq_si h 13 0 1 (h.1 13 0 1 + 1)).1 13 0 1 = _
      rw [hq_si_at, if_pos ⟨rfl, rfl, rfl⟩]
      exact e1
    · refine hm_RM_rest R ((hm_rest_f h (Or.inl rfl) _).trans (hm_rest_cp _ _ _ _)) ?_ (Or.inr (fun i hi => (hw_cp_no _ 0 (by omega) hi).trans (sl 7 i))) ok ?_
      · rw [← hm_slot_0]
        exact hm_S_cong n10 (fun i hi => (hw_cp_no _ 0 (by omega) hi).trans (sl 0 i)) S0
      · unfold hs_save
        rw [if_pos c6]
        refine ⟨show w.2.2.1.1 + 1 ≤ 6 by omega, ?_, fun i hi => ?_⟩
        · rw [hw_cp_k _ _ _ _ (by decide), hq_si_at, if_pos ⟨rfl, rfl, rfl⟩]
          exact e1
        · have hi : i < w.2.2.1.1 + 1 := hi
          show hm_S _ (if i = w.2.2.1.1 then w.1 else w.2.2.1.2 i)
          by_cases e : i = w.2.2.1.1
          · rw [if_pos e, e]
            exact hm_S_cong n10 (fun j hj => (hw_cp_to _ 0 _ hj).trans (sl 0 j)) S0
          · rw [if_neg e]
            exact hm_S_cong (ok.2.2.1.2 i (by omega)).1 (fun j hj => (hw_cp_no _ 0 (by omega) hj).trans (sl _ j)) (vs i (by omega))
    · rw [hw_cp_k _ _ _ _ (by decide), hq_si_at, if_neg (fun z => absurd z.2.1 (by decide))]
  · have e6 : w.2.2.1.1 = 6 := by omega
    obtain ⟨r1, r2, r3⟩ := hw_sh_rest h 5
    generalize hg : hw_sh h 5 = g at r1 r2 r3
    have e5 : g.1 13 0 1 - 1 = nI 5 := by
      rw [r3, vc, e6]
      exact nI_pred 5
    have sl : ∀ (x y : Int32) q i, i < 65 → hm_slot (hq_si (hq_si g 13 0 1 x) 13 0 1 y) q i = if 1 ≤ q ∧ q ≤ 5 then hm_slot h (q + 1) i else hm_slot h q i := fun x y q i hi => by
      show (hq_si (hq_si g 13 0 1 x) 13 0 1 y).1 14 0 (65 * q + i) = _
      rw [hq_si_o _ _ _ (fun z => absurd z.1 (by decide)), hq_si_o _ _ _ (fun z => absurd z.1 (by decide)), ← hg]
      exact hw_sh_is h hi 5
    have e1 : (hq_si g 13 0 1 (g.1 13 0 1 - 1)).1 13 0 1 + 1 = nI 6 := by
      rw [hq_si_at, if_pos ⟨rfl, rfl, rfl⟩, e5]
      exact (nI_succ 5).symm
    refine ⟨hw_cp (hq_si (hq_si g 13 0 1 (g.1 13 0 1 - 1)) 13 0 1 ((hq_si g 13 0 1 (g.1 13 0 1 - 1)).1 13 0 1 + 1)) 0 6 65, ?_, ?_, r2.trans ((hw_Mo_13 _ 1 _).trans ((hw_Mo_13 _ 1 _).trans (hw_Mo_cp _ _ _ _))), ?_⟩
    · refine inX7_saves (d + 1) 0 h _ _ (fun _ => trivial) (fun J b0 b11 b41 => b0 _ _ _ ?_)
      refine hq_nf (by rw [show h.1 13 (13, 0).2 1 = nI w.2.2.1.1 from vc, e6]; rfl) ?_
      have end41 : J 41 [some (.inr (13, 0)), some (hz_i (nI 6))] [] (hq_si g 13 0 1 (g.1 13 0 1 - 1)) := by
        refine b41 _ _ _ ?_
        refine ⟨_, m_copies d 0 6 _ (by decide) (by decide) (by decide) rfl ?_, rfl, rfl⟩
        show (hq_si (hq_si g 13 0 1 (g.1 13 0 1 - 1)) 13 0 1 ((hq_si g 13 0 1 (g.1 13 0 1 - 1)).1 13 0 1 + 1)).1 13 0 1 = _
        rw [hq_si_at, if_pos ⟨rfl, rfl, rfl⟩]
        exact e1
      refine hq_up (P := fun k => J 11 [some (.inr (13, 0)), some (hz_i (nI (k + 1)))] [] (hw_sh h k)) 5 (b11 _ _ _ (hq_bt (hz_le (a := 6) (b := 6) rfl rfl (Nat.le_refl _) (by decide)) ?_)) (fun k hk ih => b11 _ _ _ ?_) 0 (Nat.zero_le _)
      · rw [hg]
        exact end41
      · refine hq_bf (hz_nle (a := 6) (b := k + 1) rfl rfl (by omega) (by decide)) ?_
        rw [nI_succ (k + 1)] at ih
        exact ⟨_, m_copies d (k + 2) (k + 1) _ (by omega) (by omega) (by omega) (nI_succ (k + 1)).symm rfl, ih⟩
    · refine hm_RM_rest R (r1.trans ((hm_rest_f _ (Or.inl rfl) _).trans ((hm_rest_f _ (Or.inl rfl) _).trans (hm_rest_cp _ _ _ _)))) ?_ (Or.inr (fun i hi => (hw_cp_no _ 0 (by decide) hi).trans ((sl _ _ 7 i hi).trans (if_neg (by omega))))) ok ?_
      · rw [← hm_slot_0]
        exact hm_S_cong n10 (fun i hi => (hw_cp_no _ 0 (by decide) hi).trans ((sl _ _ 0 i hi).trans (if_neg (by omega)))) S0
      · unfold hs_save
        rw [if_neg c6]
        refine ⟨v6, ?_, fun i hi => ?_⟩
        · rw [hw_cp_k _ _ _ _ (by decide), hq_si_at, if_pos ⟨rfl, rfl, rfl⟩, e1, e6]
        · have hi : i < w.2.2.1.1 := hi
          show hm_S _ (if i = 5 then w.1 else w.2.2.1.2 (i + 1))
          by_cases e : i = 5
          · rw [if_pos e, e]
            exact hm_S_cong n10 (fun j hj => (hw_cp_to _ 0 6 hj).trans ((sl _ _ 0 j hj).trans (if_neg (by omega)))) S0
          · rw [if_neg e]
            exact hm_S_cong (ok.2.2.1.2 (i + 1) (by omega)).1 (fun j hj => (hw_cp_no _ 0 (by omega) hj).trans ((sl _ _ (i + 1) j hj).trans (if_pos ⟨by omega, by omega⟩))) (vs (i + 1) (by omega))
    · rw [hw_cp_k _ _ _ _ (by decide), hq_si_at, if_neg (fun z => absurd z.2.1 (by decide)), hq_si_at, if_neg (fun z => absurd z.2.1 (by decide)), r3]
