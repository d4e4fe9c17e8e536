/-- the class's state: the house of now, the snapshot, the saved states, the buffer -/
abbrev hz_W : Type := hz_St × Option hz_St × hz_Sv × (Nat × (Nat → Nat))
def hz_SN (h : hq_H) (s : Option hz_St) : Prop := match s with
  | none => h.1 3 0 2 = 0
  | some s => h.1 3 0 2 = 1 ∧ hz_HC h 1 s ∧ hz_okS s
def hz_bok (b : Nat × (Nat → Nat)) : Prop := b.1 ≤ 60 ∧ ∀ i, i < b.1 → 33 ≤ b.2 i ∧ b.2 i ≤ 126
def hz_BF (h : hq_H) (b : Nat × (Nat → Nat)) : Prop := hz_bok b ∧ h.1 3 0 5 = nI b.1 ∧ ∀ i, i < b.1 → h.1 6 0 i = nI (b.2 i)
def hz_RC (h : hq_H) (w : hz_W) : Prop := hz_HC h 0 w.1 ∧ hz_okS w.1 ∧ hz_SN h w.2.1 ∧ hz_SV h w.2.2.1 ∧ hz_BF h w.2.2.2
def hw_C (k _ : Nat) : Prop := k < 13
theorem hz_SN_stay {h h' : hq_H} {P : Nat → Nat → Prop} (hst : hw_stay P h h') (h3 : ¬ P 3 0) (h1 : ∀ k i, hw_own 1 k i → ¬ P k i) {s : Option hz_St} (H : hz_SN h s) : hz_SN h' s := by
  match s, H with
  | none, H => exact (congrFun (hst 3 0 h3).1 2).trans H
  | some s, H => exact ⟨(congrFun (hst 3 0 h3).1 2).trans H.1, hz_HC_stay hst H.2.2.1 h1 H.2.1, H.2.2⟩
theorem hz_SV_stay {h h' : hq_H} {P : Nat → Nat → Prop} (hst : hw_stay P h h') (h4 : ¬ P 4 0) (hp : ∀ j k i, 2 ≤ j → j < 8 → hw_own j k i → ¬ P k i) {v : hz_Sv} (H : hz_SV h v) : hz_SV h' v := by
  obtain ⟨a, b, o, ho, c, e⟩ := H
  exact ⟨a, (congrFun (hst 4 0 h4).1 3).trans b, o, ho, (congrFun (hst 4 0 h4).1 2).trans c, fun i hi => ⟨hz_HC_stay hst (e i hi).2.1 (fun k q z => hp _ k q (by omega) (by omega) z) (e i hi).1, (e i hi).2⟩⟩
theorem hz_BF_stay {h h' : hq_H} {P : Nat → Nat → Prop} (hst : hw_stay P h h') (h3 : ¬ P 3 0) (h6 : ¬ P 6 0) {b : Nat × (Nat → Nat)} (H : hz_BF h b) : hz_BF h' b :=
  ⟨H.1, (congrFun (hst 3 0 h3).1 5).trans H.2.1, fun i hi => (congrFun (hst 6 0 h6).1 i).trans (H.2.2 i hi)⟩
theorem hw_own_k {j k i : Nat} (h : hw_own j k i) : k < 2 := by rcases h with ⟨a, -⟩ | ⟨a, -⟩ <;> omega
theorem hw_past_k {k i : Nat} (h : hw_past k i) : k < 2 ∨ k = 4 := by
  rcases h with h | ⟨j, -, -, h⟩
  · exact Or.inr h
  · exact Or.inl (hw_own_k h)
/-- what stays when a house's cells alone are written; when states are saved -/
theorem hz_RC_save {h h1 : hq_H} {w : hz_W} {v' : hz_Sv} (H : hz_RC h w) (hv : hz_SV h1 v') (hs : hw_stay hw_past h h1) : hz_RC h1 (w.1, w.2.1, v', w.2.2.2) := by
  obtain ⟨a, b, c, d, e⟩ := H
  have no : ∀ j, j < 2 → ∀ k i, hw_own j k i → ¬ hw_past k i := fun j hj k i z => by
    rintro (z2 | ⟨q, q1, q2, z2⟩)
    · exact hw_own_4 z z2
    · exact hw_own_apart (by omega) z z2
  exact ⟨hz_HC_stay hs b.1 (no 0 (by decide)) a, b, hz_SN_stay hs (fun z => by have := hw_past_k z; omega) (no 1 (by decide)) c, hv, hz_BF_stay hs (fun z => by have := hw_past_k z; omega) (fun z => by have := hw_past_k z; omega) e⟩
theorem hz_RC_now {h h1 : hq_H} {w : hz_W} {st : hz_St} (H : hz_RC h w) (hn : hz_HC h1 0 st) (hok : hz_okS st) (hs : hw_stay (hw_own 0) h h1) : hz_RC h1 (st, w.2) := by
  obtain ⟨a, b, c, d, e⟩ := H
  have nk : ∀ k, 2 ≤ k → ∀ i, ¬ hw_own 0 k i := fun k hk i z => by have := hw_own_k z; omega
  exact ⟨hn, hok, hz_SN_stay hs (nk 3 (by decide) 0) (fun k i z => hw_own_apart (by decide) z) c, hz_SV_stay hs (nk 4 (by decide) 0) (fun j k i _ _ z => hw_own_apart (by omega) z) d, hz_BF_stay hs (nk 3 (by decide) 0) (nk 6 (by decide) 0) e⟩
theorem hw_past_C : ∀ k i, hw_past k i → hw_C k i := fun k i z => by have := hw_past_k z; show k < 13; omega
theorem hw_own_C {j : Nat} : ∀ k i, hw_own j k i → hw_C k i := fun k i z => by have := hw_own_k z; show k < 13; omega
-- ===== the states that come next are such states =====
theorem hz_ok_add {st : hz_St} {l e p : Nat} (h : hz_okS st) (hn : st.1 < 10) (hl : l < 64) (he : e < 64) (hle : l &&& e = 0) (hlo : l ||| e ≠ 0) (hp : 1 ≤ p) (hp9 : p ≤ 9) : hz_okS (hs_add st (nI p) (nI l) (nI e)) := by
  refine ⟨show st.1 + 1 ≤ 10 by omega, h.2.1, fun k hk => ?_⟩
  have hk : k < st.1 + 1 := hk
  show (∃ l' e', l' < 64 ∧ e' < 64 ∧ (if k = st.1 then hs_row (nI p) (nI l) (nI e) 0 else st.2.1 k 0) = nI l' ∧ (if k = st.1 then hs_row (nI p) (nI l) (nI e) 1 else st.2.1 k 1) = nI e' ∧ l' &&& e' = 0 ∧ l' ||| e' ≠ 0) ∧ (∃ q, 1 ≤ q ∧ q ≤ 9 ∧ (if k = st.1 then hs_row (nI p) (nI l) (nI e) 2 else st.2.1 k 2) = nI q) ∧ ((if k = st.1 then hs_row (nI p) (nI l) (nI e) 3 else st.2.1 k 3) = 0 ∨ (if k = st.1 then hs_row (nI p) (nI l) (nI e) 3 else st.2.1 k 3) = 1)
  by_cases e1 : k = st.1
  · simp only [if_pos e1]
    exact ⟨⟨l, e, hl, he, rfl, rfl, hle, hlo⟩, ⟨p, hp, hp9, rfl⟩, Or.inl rfl⟩
  · simp only [if_neg e1]
    exact h.2.2 k (by omega)
theorem hz_ok_drop {st : hz_St} {r : Nat} (h : hz_okS st) (hr : r < st.1) : hz_okS (hs_drop st r) := by
  refine ⟨show st.1 - 1 ≤ 10 by have := h.1; omega, h.2.1, fun k hk => ?_⟩
  have hk : k < st.1 - 1 := hk
  by_cases e1 : k < r
  · have q := h.2.2 k (by omega)
    have e : ∀ a, (hs_drop st r).2.1 k a = st.2.1 k a := fun a => if_pos e1
    simp only [e]
    exact q
  · have q := h.2.2 (k + 1) (by omega)
    have e : ∀ a, (hs_drop st r).2.1 k a = st.2.1 (k + 1) a := fun a => if_neg e1
    simp only [e]
    exact q
/-- one attribute of one rule -/
def hs_attr (st : hz_St) (r a : Nat) (x : Int32) : hz_St := (st.1, fun k a' => if k = r ∧ a' = a then x else st.2.1 k a', st.2.2)
theorem hs_attr_ne {st : hz_St} {r a : Nat} {x : Int32} {k a' : Nat} (h : a' ≠ a) : (hs_attr st r a x).2.1 k a' = st.2.1 k a' := if_neg (fun z => h z.2)
theorem hz_ok_attr3 {st : hz_St} {r : Nat} {b : Bool} (h : hz_okS st) : hz_okS (hs_attr st r 3 (hz_b b)) := by
  refine ⟨h.1, h.2.1, fun k hk => ?_⟩
  have q := h.2.2 k hk
  rw [hs_attr_ne (by decide), hs_attr_ne (by decide), hs_attr_ne (by decide)]
  refine ⟨q.1, q.2.1, ?_⟩
  show (if k = r ∧ 3 = 3 then hz_b b else st.2.1 k 3) = 0 ∨ (if k = r ∧ 3 = 3 then hz_b b else st.2.1 k 3) = 1
  by_cases e : k = r ∧ 3 = 3
  · rw [if_pos e]
    cases b
    · exact Or.inl rfl
    · exact Or.inr rfl
  · rw [if_neg e]
    exact q.2.2
theorem hz_ok_attr4 {st : hz_St} {r : Nat} {x : Int32} (h : hz_okS st) : hz_okS (hs_attr st r 4 x) := by
  refine ⟨h.1, h.2.1, fun k hk => ?_⟩
  have q := h.2.2 k hk
  rw [hs_attr_ne (by decide), hs_attr_ne (by decide), hs_attr_ne (by decide), hs_attr_ne (by decide)]
  exact q
theorem hw_attr_is {h : hq_H} {j r a : Nat} {x : Int32} {st : hz_St} (hn : st.1 ≤ 10) (hr : r < st.1) (ha : a = 3 ∨ a = 4) (H : hz_HC h j st) : hz_HC (hq_si h 1 (11 * j + r) a x) j (hs_attr st r a x) ∧ hw_stay (hw_own j) h (hq_si h 1 (11 * j + r) a x) := by
  obtain ⟨a1, a2, a3, a4, a5, a6⟩ := H
  have r0 : ∀ s, (hq_si h 1 (11 * j + r) a x).1 0 j s = h.1 0 j s := fun s => by rw [hq_si_at, if_neg (fun z => absurd z.1 (by decide))]
  refine ⟨⟨?_, ?_, ?_, ?_, ?_, fun k hk => ?_⟩, fun k i hn2 => hq_si_both _ _ _ _ _ (fun z => hn2 (Or.inr ⟨z.1, by omega, by omega⟩))⟩
  · rw [r0]; exact a1
  · rw [r0]; exact a2
  · rw [r0]; exact a3
  · rw [r0]; exact a4
  · rw [r0]; exact a5
  · have b := a6 k hk
    refine ⟨fun a' ha' => ?_, ?_⟩
    · rw [hq_si_at]
      show _ = (if k = r ∧ a' = a then x else st.2.1 k a')
      by_cases e : k = r ∧ a' = a
      · rw [if_pos e, if_pos ⟨rfl, e.2, by omega⟩]
      · rw [if_neg e, if_neg (fun z => e ⟨by omega, z.2.1⟩)]
        exact b.1 a' ha'
    · refine b.2.trans ?_
      show hz_hw (st.2.1 k 0) (st.2.1 k 1) = hz_hw (if k = r ∧ 0 = a then x else st.2.1 k 0) (if k = r ∧ 1 = a then x else st.2.1 k 1)
      rw [if_neg (fun z => by omega), if_neg (fun z => by omega)]
def hs_turn (st : hz_St) (room : Int32) : hz_St := (st.1, st.2.1, st.2.2.1 ^^^ ((1 : Int32) <<< (room &&& 31)), st.2.2.2)
theorem hz_xor6 : ∀ g, g < 64 → ∀ q, q < 6 → ∃ g', g' < 64 ∧ nI g ^^^ ((1 : Int32) <<< (nI q &&& 31)) = nI g' := by decide +kernel
theorem hz_ok_turn {st : hz_St} {q : Nat} (h : hz_okS st) (hq : q < 6) : hz_okS (hs_turn st (nI q)) := by
  obtain ⟨g, hg, e⟩ := h.2.1
  obtain ⟨g', hg', e'⟩ := hz_xor6 g hg q hq
  exact ⟨h.1, ⟨g', hg', by show st.2.2.1 ^^^ _ = _; rw [e]; exact e'⟩, h.2.2⟩
theorem hw_turn_is {h : hq_H} {j : Nat} {st : hz_St} (room : Int32) (hn : st.1 ≤ 10) (H : hz_HC h j st) : hz_HC (hq_si h 0 j 3 (h.1 0 j 3 ^^^ ((1 : Int32) <<< (room &&& 31)))) j (hs_turn st room) ∧ hw_stay (hw_own j) h (hq_si h 0 j 3 (h.1 0 j 3 ^^^ ((1 : Int32) <<< (room &&& 31)))) := by
  obtain ⟨a1, a2, a3, a4, a5, a6⟩ := H
  have r0 : ∀ s, s ≠ 3 → (hq_si h 0 j 3 (h.1 0 j 3 ^^^ ((1 : Int32) <<< (room &&& 31)))).1 0 j s = h.1 0 j s := fun s hs => by rw [hq_si_at, if_neg (fun z => hs z.2.1)]
  refine ⟨⟨?_, ?_, ?_, ?_, ?_, fun k hk => ?_⟩, fun k i hn2 => hq_si_both _ _ _ _ _ (fun z => hn2 (Or.inl z))⟩
  · rw [r0 _ (by decide)]; exact a1
  · rw [hq_si_at, if_pos ⟨rfl, rfl, rfl⟩, a2]; rfl
  · rw [r0 _ (by decide)]; exact a3
  · rw [r0 _ (by decide)]; exact a4
  · rw [r0 _ (by decide)]; exact a5
  · rw [hq_si_o _ _ _ (fun z => absurd z.1 (by decide))]
    exact a6 k hk
theorem hz_ok_night {st : hz_St} (h : hz_okS st) : hz_okS (hs_night st) := by
  refine ⟨h.1, h.2.1, fun k hk => ?_⟩
  have q := h.2.2 k hk
  have e : ∀ a, a ≠ 5 → (hs_night st).2.1 k a = st.2.1 k a := fun a ha => if_neg ha
  rw [e 0 (by decide), e 1 (by decide), e 2 (by decide), e 3 (by decide)]
  exact q
theorem hz_ok_nights {st : hz_St} (h : hz_okS st) : ∀ m, hz_okS (hs_nights st m)
  | 0 => h
  | m + 1 => hz_ok_night (hz_ok_nights h m)
-- ===== numbers in range =====
def hz_ix (x : Int32) (n : Nat) : Option Nat := if 0 ≤ x ∧ x < nI n then some x.toNatClampNeg else none
theorem hz_ix_s {x : Int32} {n k : Nat} (hn : n < 2 ^ 31) (h : hz_ix x n = some k) : x = nI k ∧ k < n := by
  unfold hz_ix at h
  split at h
  next c =>
    cases h
    rcases pk_ix x hn with c1 | c1 | ⟨j, hj, e⟩
    · exact absurd c.1 (Int32.not_le.mpr c1)
    · exact absurd c.2 (Int32.not_lt.mpr c1)
    · rw [e, nI_clamp (Nat.lt_trans hj hn)]
      exact ⟨rfl, hj⟩
  next => cases h
theorem hz_ix_n {x : Int32} {n : Nat} (h : hz_ix x n = none) : ¬ (0 ≤ x ∧ x < nI n) := by
  unfold hz_ix at h
  split at h
  next => cases h
  next c => exact c
theorem hz_ix_of {k n : Nat} (hk : k < n) (hn : n < 2 ^ 31) : hz_ix (nI k) n = some k := by
  unfold hz_ix
  rw [if_pos ⟨nI_pos' (by omega), nI_lt hk hn⟩, nI_clamp (by omega)]
abbrev hz_IAE : String := "java/lang/IllegalArgumentException"
abbrev hz_ISE : String := "java/lang/IllegalStateException"
abbrev hz_IOB : String := "java/lang/IndexOutOfBoundsException"
theorem x_X6_requireRule_y (d k n : Nat) (h : hq_H) (hk : k < n) (hn : n ≤ 10) (hc : h.1 0 0 2 = nI n) : hq_Met (d + 1) MX6_requireRule [.inr (3, 0), hz_i (nI k)] h hz_v h := by
  refine inX6_requireRule d 0 (nI k) h _ _ (fun _ => trivial) (fun J b0 b15 => b0 _ _ _ ?_)
  exact hq_bf (nI_pos (by omega)) (hq_bt (hz_lt rfl hc hk (by omega)) ⟨rfl, rfl⟩)
theorem x_X6_requireRule_n (d n : Nat) (x : Int32) (h : hq_H) (hx : hz_ix x n = none) (hc : h.1 0 0 2 = nI n) : hq_Met (d + 1) MX6_requireRule [.inr (3, 0), hz_i x] h (.inr hz_IOB) h := by
  refine inX6_requireRule d 0 x h _ _ (fun _ => trivial) (fun J b0 b15 => b0 _ _ _ ?_)
  refine hq_bc (fun _ => b15 _ _ _ ⟨rfl, rfl⟩) (fun c1 => ?_)
  refine hq_bf (fun c2 => hz_ix_n hx ⟨Int32.not_lt.mp c1, ?_⟩) (b15 _ _ _ ⟨rfl, rfl⟩)
  rw [← hc]
  exact c2
theorem x_X6_requireRoom_y (d k : Nat) (h : hq_H) (hk : k < 6) : hq_Met (d + 1) MX6_requireRoom [hz_i (nI k)] h hz_v h := by
  refine inX6_requireRoom d (nI k) h _ _ (fun _ => trivial) (fun J b0 b10 => b0 _ _ _ ?_)
  exact hq_bf (nI_pos (by omega)) (hq_bt (hz_lt (b := 6) rfl rfl hk (by omega)) ⟨rfl, rfl⟩)
theorem x_X6_requireRoom_n (d : Nat) (x : Int32) (h : hq_H) (hx : hz_ix x 6 = none) : hq_Met (d + 1) MX6_requireRoom [hz_i x] h (.inr hz_IOB) h := by
  refine inX6_requireRoom d x h _ _ (fun _ => trivial) (fun J b0 b10 => b0 _ _ _ ?_)
  refine hq_bc (fun _ => b10 _ _ _ ⟨rfl, rfl⟩) (fun c1 => ?_)
  exact hq_bf (fun c2 => hz_ix_n hx ⟨Int32.not_lt.mp c1, c2⟩) (b10 _ _ _ ⟨rfl, rfl⟩)
def hz_nn (x : Int32) : Option Nat := if 1 ≤ x ∧ x ≤ 30 then some x.toNatClampNeg else none
theorem hz_nn_s {x : Int32} {k : Nat} (h : hz_nn x = some k) : x = nI k ∧ 1 ≤ k ∧ k ≤ 30 := by
  unfold hz_nn at h
  split at h
  next c =>
    cases h
    have c0 : ¬ x < 0 := fun z => absurd (Int32.lt_of_lt_of_le z (by decide : (0 : Int32) ≤ 1)) (Int32.not_lt.mpr c.1)
    obtain ⟨j, hj, e⟩ := nI_of2 (M := 30) (n := 30) (by decide) c0 c.2
    subst e
    rw [nI_clamp (by omega)]
    refine ⟨rfl, ?_, hj⟩
    have c1 := c.1
    rcases Nat.lt_or_ge j 1 with q | q
    · exact absurd c1 (nI_ge q (by decide))
    · exact q
  next => cases h
theorem hz_nn_n {x : Int32} (h : hz_nn x = none) : ¬ (1 ≤ x ∧ x ≤ 30) := by
  unfold hz_nn at h
  split at h
  next => cases h
  next c => exact c
theorem x_X6_requireNights_y (d k : Nat) (h : hq_H) (h1 : 1 ≤ k) (hk : k ≤ 30) : hq_Met (d + 1) MX6_requireNights [hz_i (nI k)] h hz_v h := by
  refine inX6_requireNights d (nI k) h _ _ (fun _ => trivial) (fun J b0 b11 => b0 _ _ _ ?_)
  exact hq_bf (hz_nlt (b := 1) rfl rfl h1 (by omega)) (hq_bt (hz_le (b := 30) rfl rfl hk (by omega)) ⟨rfl, rfl⟩)
theorem x_X6_requireNights_n (d : Nat) (x : Int32) (h : hq_H) (hx : hz_nn x = none) : hq_Met (d + 1) MX6_requireNights [hz_i x] h (.inr hz_IAE) h := by
  refine inX6_requireNights d x h _ _ (fun _ => trivial) (fun J b0 b11 => b0 _ _ _ ?_)
  refine hq_bc (fun _ => b11 _ _ _ ⟨rfl, rfl⟩) (fun c1 => ?_)
  exact hq_bf (fun c2 => hz_nn_n hx ⟨Int32.not_lt.mp c1, c2⟩) (b11 _ _ _ ⟨rfl, rfl⟩)
theorem hz_pwn {n : Nat} (hn : n ≤ 10) : (1 : Int32) <<< (nI n &&& 31) = nI (2 ^ n) := hz_pw (by omega)
theorem hz_p10 {n : Nat} (hn : n ≤ 10) : 2 ^ n ≤ 1024 := Nat.pow_le_pow_right (by decide) hn
theorem x_X6_requireSet_y (d k n : Nat) (h : hq_H) (hk : k < 2 ^ n) (hn : n ≤ 10) (hc : h.1 0 0 2 = nI n) : hq_Met (d + 1) MX6_requireSet [.inr (3, 0), hz_i (nI k)] h hz_v h := by
  have := hz_p10 hn
  refine inX6_requireSet d 0 (nI k) h _ _ (fun _ => trivial) (fun J b0 b17 => b0 _ _ _ ?_)
  refine hq_bf (nI_pos (by omega)) (hq_bt ?_ ⟨rfl, rfl⟩)
  show nI k < (1 : Int32) <<< (h.1 0 0 2 &&& 31)
  rw [hc, hz_pwn hn]
  exact nI_lt hk (by omega)
theorem x_X6_requireSet_n (d n : Nat) (x : Int32) (h : hq_H) (hx : hz_ix x (2 ^ n) = none) (hn : n ≤ 10) (hc : h.1 0 0 2 = nI n) : hq_Met (d + 1) MX6_requireSet [.inr (3, 0), hz_i x] h (.inr hz_IAE) h := by
  refine inX6_requireSet d 0 x h _ _ (fun _ => trivial) (fun J b0 b17 => b0 _ _ _ ?_)
  refine hq_bc (fun _ => b17 _ _ _ ⟨rfl, rfl⟩) (fun c1 => ?_)
  refine hq_bf (fun c2 => hz_ix_n hx ⟨Int32.not_lt.mp c1, ?_⟩) (b17 _ _ _ ⟨rfl, rfl⟩)
  have c2 : x < (1 : Int32) <<< (h.1 0 0 2 &&& 31) := c2
  rw [hc, hz_pwn hn] at c2
  exact c2
