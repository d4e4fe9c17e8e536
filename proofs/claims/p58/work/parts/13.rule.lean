theorem x_X4_holdsOn (d r : Nat) (w : Int32) (h : hq_H) : hq_Met (d + 1) MX4_holdsOn [.inr (1, r), hz_i w] h (hz_o (hz_b (hz_hold (h.1 1 r 0) (h.1 1 r 1) w))) h := by
  refine inX4_holdsOn d r w h _ _ (fun _ => trivial) (fun J b0 => b0 _ _ _ ?_)
  refine hq_nc (fun c1 => ?_) (fun c1 => ?_)
  · refine ⟨Or.inr rfl, hz_rb ?_, rfl⟩
    have c1 : ¬ h.1 1 r 0 &&& w = 0 := c1
    unfold hz_hold
    rw [decide_eq_false c1]; rfl
  · have c1 : h.1 1 r 0 &&& w = 0 := c1
    refine hq_bc (fun c2 => ?_) (fun c2 => ?_)
    · refine ⟨Or.inl rfl, hz_rf ?_, rfl⟩
      have c2 : h.1 1 r 1 &&& (w ^^^ -1) = 0 := c2
      unfold hz_hold
      rw [decide_eq_true c1, decide_eq_true c2]; rfl
    · refine ⟨Or.inr rfl, hz_rb ?_, rfl⟩
      have c2 : ¬ h.1 1 r 1 &&& (w ^^^ -1) = 0 := c2
      unfold hz_hold
      rw [decide_eq_true c1, decide_eq_false c2]; rfl
theorem x_X4_hasLostAll (d r : Nat) (L E : Int32) (h : hq_H) : hq_Met (d + 1) MX4_hasLostAll [.inr (1, r), hz_i L, hz_i E] h (hz_o (hz_b (hz_lostAll (h.1 1 r 0) (h.1 1 r 1) L E))) h := by
  refine inX4_hasLostAll d r L E h _ _ (fun _ => trivial) (fun J b0 => b0 _ _ _ ?_)
  refine hq_nc (fun c1 => ?_) (fun c1 => ?_)
  · refine ⟨Or.inl rfl, hz_rf ?_, rfl⟩
    have c1 : ¬ h.1 1 r 0 &&& (E ^^^ -1) = 0 := c1
    unfold hz_lostAll
    rw [decide_eq_false c1]; rfl
  · have c1 : h.1 1 r 0 &&& (E ^^^ -1) = 0 := c1
    refine hq_nc (fun c2 => ?_) (fun c2 => ?_)
    · refine ⟨Or.inl rfl, hz_rf ?_, rfl⟩
      have c2 : ¬ h.1 1 r 1 &&& (L ^^^ -1) = 0 := c2
      unfold hz_lostAll
      rw [decide_eq_true c1, decide_eq_false c2]; rfl
    · refine ⟨Or.inr rfl, hz_rb ?_, rfl⟩
      have c2 : h.1 1 r 1 &&& (L ^^^ -1) = 0 := c2
      unfold hz_lostAll
      rw [decide_eq_true c1, decide_eq_true c2]; rfl
theorem x_X0_at (d j : Nat) {k : Nat} (hk : k < 10) (h : hq_H) : hq_Met (d + 1) MX0_at [.inr (0, j), hz_i (nI k)] h (.inl (some (.inr (1, 11 * j + k)))) h := by
  refine inX0_at d j (nI k) h _ _ (fun z => ?_) (fun J b0 => b0 _ _ _ ?_)
  · have z1 : j < 9 := z.1
    show 11 * j + k < 99
    omega
  · refine hq_bf (nI_pos (by omega)) ?_
    refine hq_bt (nI_lt hk (by decide)) ?_
    exact ⟨k, hk, rfl, rfl, rfl⟩
theorem x_X0_rulesInForce (d j : Nat) (day : Int32) (h : hq_H) (n : Nat) (R : hz_R) (hn : n ≤ 10) (hc : h.1 0 j 2 = nI n) (hR : ∀ k, k < n → ∀ a, a < 6 → h.1 1 (11 * j + k) a = R k a) :
    hq_Met (d + 2) MX0_rulesInForce [.inr (0, j), hz_i day] h (hz_o (nI (hz_mk (hz_inF R day) n))) h := by
  refine inX0_rulesInForce (d + 1) j day h _ _ (fun _ => trivial) (fun J b0 b4 => b0 _ _ _ ?_)
  refine hq_up (P := fun k => J 4 [some (.inr (0, j)), some (hz_i day), some (hz_i (nI (hz_mk (hz_inF R day) k))), some (hz_i (nI k))] [] h) n (b4 _ _ _ ?_) (fun k hk ih => b4 _ _ _ ?_) 0 (Nat.zero_le _)
  · exact hq_bt (hz_le hc rfl (Nat.le_refl _) (by omega)) ⟨rfl, rfl⟩
  · refine hq_bf (hz_nle hc rfl hk (by omega)) ?_
    refine ⟨_, _, x_X0_at d j (show k < 10 by omega) h, ?_⟩
    rw [nI_succ] at ih
    refine hq_bc (fun c => ?_) (fun c => ?_)
    · have c : day < h.1 1 (11 * j + k) 4 := c
      rw [hR k hk 4 (by decide)] at c
      rw [hz_mk_no (decide_eq_false (Int32.not_le.mpr c))] at ih
      exact ih
    · have c : ¬ day < h.1 1 (11 * j + k) 4 := c
      rw [hR k hk 4 (by decide)] at c
      rw [← hz_mk_or (by omega) (decide_eq_true (Int32.not_lt.mp c))] at ih
      exact ih
theorem x_hold (d r : Nat) (w l e : Int32) (h : hq_H) (h0 : h.1 1 r 0 = l) (h1 : h.1 1 r 1 = e) : hq_Met (d + 1) MX4_holdsOn [.inr (1, r), hz_i w] h (hz_o (hz_b (hz_hold l e w))) h := by
  subst h0; subst h1
  exact x_X4_holdsOn d r w h
theorem x_lost (d r : Nat) (L E l e : Int32) (h : hq_H) (h0 : h.1 1 r 0 = l) (h1 : h.1 1 r 1 = e) : hq_Met (d + 1) MX4_hasLostAll [.inr (1, r), hz_i L, hz_i E] h (hz_o (hz_b (hz_lostAll l e L E))) h := by
  subst h0; subst h1
  exact x_X4_hasLostAll d r L E h
theorem hz_andT {a b : Bool} (ha : a = true) (hb : b = true) : (a && b) = true := by rw [ha, hb]; rfl
theorem hz_andL {a b : Bool} (ha : a = false) : (a && b) = false := by rw [ha]; rfl
theorem hz_andR {a b : Bool} (hb : b = false) : (a && b) = false := by rw [hb]; cases a <;> rfl
theorem x_X0_rulesBroken (d j : Nat) (way day : Int32) (h : hq_H) (n : Nat) (R : hz_R) (hn : n ≤ 10) (hc : h.1 0 j 2 = nI n) (hR : ∀ k, k < n → ∀ a, a < 6 → h.1 1 (11 * j + k) a = R k a) :
    hq_Met (d + 2) MX0_rulesBroken [.inr (0, j), hz_i way, hz_i day] h (hz_o (nI (hz_mk (hz_brk R day way) n))) h := by
  refine inX0_rulesBroken (d + 1) j way day h _ _ (fun _ => trivial) (fun J b0 b5 => b0 _ _ _ ?_)
  refine hq_up (P := fun k => ∀ v, J 5 [some (.inr (0, j)), some (hz_i way), some (hz_i day), some (hz_i (nI (hz_mk (hz_brk R day way) k))), some (hz_i (nI k)), v] [] h) n (fun v => b5 _ _ _ ?_) (fun k hk ih v => b5 _ _ _ ?_) 0 (Nat.zero_le _) _
  · exact hq_bt (hz_le hc rfl (Nat.le_refl _) (by omega)) ⟨rfl, rfl⟩
  · refine hq_bf (hz_nle hc rfl hk (by omega)) ?_
    refine ⟨_, _, x_X0_at d j (show k < 10 by omega) h, ?_⟩
    have ih := ih (some (.inr (1, 11 * j + k)))
    rw [nI_succ] at ih
    refine hq_bc (fun c => ?_) (fun c => ?_)
    · have c : day < h.1 1 (11 * j + k) 4 := c
      rw [hR k hk 4 (by decide)] at c
      rw [hz_mk_no (hz_andL (decide_eq_false (Int32.not_le.mpr c)))] at ih
      exact ih
    · have c : ¬ day < h.1 1 (11 * j + k) 4 := c
      rw [hR k hk 4 (by decide)] at c
      refine ⟨_, _, x_hold d (11 * j + k) way _ _ h (hR k hk 0 (by decide)) (hR k hk 1 (by decide)), ?_⟩
      cases hh : hz_hold (R k 0) (R k 1) way with
      | true =>
        refine hq_nt (by decide) ?_
        rw [hz_mk_no (hz_andR (by rw [hh]; rfl))] at ih
        exact ih
      | false =>
        refine hq_nf rfl ?_
        rw [← hz_mk_or (by omega) (hz_andT (decide_eq_true (Int32.not_lt.mp c)) (by rw [hh]; rfl))] at ih
        exact ih
theorem x_X0_rulesLost (d j S : Nat) (L E : Int32) (h : hq_H) (n : Nat) (R : hz_R) (hn : n ≤ 10) (hS : S < 2 ^ 31) (hc : h.1 0 j 2 = nI n) (hR : ∀ k, k < n → ∀ a, a < 6 → h.1 1 (11 * j + k) a = R k a) :
    hq_Met (d + 2) MX0_rulesLost [.inr (0, j), hz_i (nI S), hz_i L, hz_i E] h (hz_o (nI (hz_mk (hz_lost R S L E) n))) h := by
  refine inX0_rulesLost (d + 1) j (nI S) L E h _ _ (fun _ => trivial) (fun J b0 b6 => b0 _ _ _ ?_)
  refine hq_up (P := fun k => J 6 [some (.inr (0, j)), some (hz_i (nI S)), some (hz_i L), some (hz_i E), some (hz_i (nI (hz_mk (hz_lost R S L E) k))), some (hz_i (nI k))] [] h) n (b6 _ _ _ ?_) (fun k hk ih => b6 _ _ _ ?_) 0 (Nat.zero_le _)
  · exact hq_bt (hz_le hc rfl (Nat.le_refl _) (by omega)) ⟨rfl, rfl⟩
  · refine hq_bf (hz_nle hc rfl hk (by omega)) ?_
    rw [nI_succ] at ih
    cases hb : S.testBit k with
    | false =>
      refine hq_bt (hz_bit0 hS (by omega) hb) ?_
      rw [hz_mk_no (hz_andL hb)] at ih
      exact ih
    | true =>
      refine hq_bf (hz_bitn hS (by omega) hb) ?_
      refine ⟨_, _, x_X0_at d j (show k < 10 by omega) h, ?_⟩
      refine ⟨_, _, x_lost d (11 * j + k) L E _ _ h (hR k hk 0 (by decide)) (hR k hk 1 (by decide)), ?_⟩
      cases hh : hz_lostAll (R k 0) (R k 1) L E with
      | false =>
        refine hq_bt rfl ?_
        rw [hz_mk_no (hz_andR hh)] at ih
        exact ih
      | true =>
        refine hq_bf (by decide) ?_
        rw [← hz_mk_or (by omega) (hz_andT hb hh)] at ih
        exact ih
theorem x_X0_pricesOf (d j S : Nat) (h : hq_H) (n : Nat) (R : hz_R) (hn : n ≤ 10) (hS : S < 2 ^ 31) (hc : h.1 0 j 2 = nI n) (hR : ∀ k, k < n → h.1 1 (11 * j + k) 2 = R k 2) :
    hq_Met (d + 2) MX0_pricesOf [.inr (0, j), hz_i (nI S)] h (hz_o (hz_sum (fun k => S.testBit k) (hz_price R) n)) h := by
  refine inX0_pricesOf (d + 1) j (nI S) h _ _ (fun _ => trivial) (fun J b0 b4 => b0 _ _ _ ?_)
  refine hq_up (P := fun k => J 4 [some (.inr (0, j)), some (hz_i (nI S)), some (hz_i (hz_sum (fun k => S.testBit k) (hz_price R) k)), some (hz_i (nI k))] [] h) n (b4 _ _ _ ?_) (fun k hk ih => b4 _ _ _ ?_) 0 (Nat.zero_le _)
  · exact hq_bt (hz_le hc rfl (Nat.le_refl _) (by omega)) ⟨rfl, rfl⟩
  · refine hq_bf (hz_nle hc rfl hk (by omega)) ?_
    rw [nI_succ] at ih
    cases hb : S.testBit k with
    | false =>
      refine hq_bt (hz_bit0 hS (by omega) hb) ?_
      rw [hz_sum_n hb] at ih
      exact ih
    | true =>
      refine hq_bf (hz_bitn hS (by omega) hb) ?_
      refine ⟨_, _, x_X0_at d j (show k < 10 by omega) h, ?_⟩
      rw [hz_sum_y hb, show hz_price R k = h.1 1 (11 * j + k) 2 from (hR k hk).symm] at ih
      exact ih
/-- the fines of a night -/
def hz_night (R : hz_R) (n : Nat) (day way : Int32) : Int32 := hz_sum (hz_brk R day way) (hz_price R) n
theorem hz_sum_mk {p : Nat → Bool} {v : Nat → Int32} {n : Nat} : hz_sum (fun k => (hz_mk p n).testBit k) v n = hz_sum p v n := hz_sum_cong (fun k hk => ⟨by rw [hz_mk_bit, decide_eq_true hk]; rfl, rfl⟩)
theorem hz_mk31 (p : Nat → Bool) {n : Nat} (hn : n ≤ 10) : hz_mk p n < 2 ^ 31 := Nat.lt_of_lt_of_le (hz_mk_lt p n) (Nat.pow_le_pow_right (by decide) (by omega))
theorem x_X0_nightIn (d j : Nat) (way day : Int32) (h : hq_H) (n : Nat) (R : hz_R) (hn : n ≤ 10) (hc : h.1 0 j 2 = nI n) (hR : ∀ k, k < n → ∀ a, a < 6 → h.1 1 (11 * j + k) a = R k a) :
    hq_Met (d + 3) MX0_nightIn [.inr (0, j), hz_i way, hz_i day] h (hz_o (hz_night R n day way)) h := by
  refine inX0_nightIn (d + 2) j way day h _ _ (fun _ => trivial) (fun J b0 => b0 _ _ _ ?_)
  refine ⟨_, _, x_X0_rulesBroken d j way day h n R hn hc hR, ?_⟩
  refine ⟨_, _, x_X0_pricesOf d j _ h n R hn (hz_mk31 _ hn) hc (fun k hk => hR k hk 2 (by decide)), ?_⟩
  exact ⟨hz_ri hz_sum_mk.symm, rfl⟩
/-- the fines of so many nights from a day on -/
def hz_ahead (R : hz_R) (n : Nat) (day way : Int32) : Nat → Int32
  | 0 => 0
  | k + 1 => hz_ahead R n day way k + hz_night R n (day + nI k) way
theorem x_X0_nightsAhead (d j q : Nat) (h : hq_H) (n : Nat) (R : hz_R) (hn : n ≤ 10) (hq : q ≤ 30) (hc : h.1 0 j 2 = nI n) (hR : ∀ k, k < n → ∀ a, a < 6 → h.1 1 (11 * j + k) a = R k a) :
    hq_Met (d + 4) MX0_nightsAhead [.inr (0, j), hz_i (nI q)] h (hz_o (hz_ahead R n (h.1 0 j 4) (h.1 0 j 3) q)) h := by
  refine inX0_nightsAhead (d + 3) j (nI q) h _ _ (fun _ => trivial) (fun J b0 b4 => b0 _ _ _ ?_)
  refine hq_up (P := fun k => J 4 [some (.inr (0, j)), some (hz_i (nI q)), some (hz_i (hz_ahead R n (h.1 0 j 4) (h.1 0 j 3) k)), some (hz_i (nI k))] [] h) q (b4 _ _ _ ?_) (fun k hk ih => b4 _ _ _ ?_) 0 (Nat.zero_le _)
  · exact hq_bt (hz_le rfl rfl (Nat.le_refl _) (by omega)) ⟨rfl, rfl⟩
  · refine hq_bf (hz_nle rfl rfl hk (by omega)) ?_
    rw [nI_succ] at ih
    exact ⟨_, _, x_X0_nightIn d j _ _ h n R hn hc hR, ih⟩
theorem x_X0_waysOf (d j S : Nat) (h : hq_H) (n : Nat) (R : hz_R) (hn : n ≤ 10) (hS : S < 2 ^ 31) (hc : h.1 0 j 2 = nI n) (hW : ∀ k, k < n → h.2 1 (11 * j + k) 6 = hz_held R k) :
    hq_Met (d + 2) MX0_waysOf [.inr (0, j), hz_i (nI S)] h (hz_ol (hz_and (fun k => S.testBit k) (hz_held R) n)) h := by
  refine inX0_waysOf (d + 1) j (nI S) h _ _ (fun _ => trivial) (fun J b0 b7 => b0 _ _ _ ?_)
  refine hq_up (P := fun k => J 7 [some (.inr (0, j)), some (hz_i (nI S)), some (hz_l (hz_and (fun k => S.testBit k) (hz_held R) k)), none, some (hz_i (nI k))] [] h) n (b7 _ _ _ ?_) (fun k hk ih => b7 _ _ _ ?_) 0 (Nat.zero_le _)
  · exact hq_bt (hz_le hc rfl (Nat.le_refl _) (by omega)) ⟨rfl, rfl⟩
  · refine hq_bf (hz_nle hc rfl hk (by omega)) ?_
    rw [nI_succ] at ih
    cases hb : S.testBit k with
    | false =>
      refine hq_bt (hz_bit0 hS (by omega) hb) ?_
      rw [hz_and_n hb] at ih
      exact ih
    | true =>
      refine hq_bf (hz_bitn hS (by omega) hb) ?_
      refine ⟨_, _, x_X0_at d j (show k < 10 by omega) h, ?_⟩
      rw [hz_and_y hb, show hz_held R k = h.2 1 (11 * j + k) 6 from (hW k hk).symm] at ih
      exact ih
/-- the ways in which all in force hold -/
def hz_peace (R : hz_R) (n : Nat) (day : Int32) : Int64 := hz_and (hz_inF R day) (hz_held R) n
theorem hz_and_mk {p : Nat → Bool} {v : Nat → Int64} {n : Nat} : hz_and (fun k => (hz_mk p n).testBit k) v n = hz_and p v n := hz_and_cong (fun k hk => ⟨by rw [hz_mk_bit, decide_eq_true hk]; rfl, rfl⟩)
theorem x_X0_peacefulWays (d j : Nat) (h : hq_H) (n : Nat) (R : hz_R) (hn : n ≤ 10) (hc : h.1 0 j 2 = nI n) (hR : ∀ k, k < n → (∀ a, a < 6 → h.1 1 (11 * j + k) a = R k a) ∧ h.2 1 (11 * j + k) 6 = hz_held R k) :
    hq_Met (d + 3) MX0_peacefulWays [.inr (0, j)] h (hz_ol (hz_peace R n (h.1 0 j 4))) h := by
  refine inX0_peacefulWays (d + 2) j h _ _ (fun _ => trivial) (fun J b0 => b0 _ _ _ ?_)
  refine ⟨_, _, x_X0_rulesInForce d j _ h n R hn hc (fun k hk => (hR k hk).1), ?_⟩
  refine ⟨_, _, x_X0_waysOf d j _ h n R hn (hz_mk31 _ hn) hc (fun k hk => (hR k hk).2), ?_⟩
  exact ⟨hz_rl hz_and_mk.symm, rfl⟩
/-- the lowest of m from s on for which p says yes; -1 -/
def hz_lo (p : Nat → Bool) : Nat → Nat → Int32
  | 0, _ => -1
  | m + 1, s => if p s = true then nI s else hz_lo p m (s + 1)
theorem hz_lo_y {p : Nat → Bool} {m s : Nat} (h : p s = true) : hz_lo p (m + 1) s = nI s := if_pos h
theorem hz_lo_n {p : Nat → Bool} {m s : Nat} (h : p s = false) : hz_lo p (m + 1) s = hz_lo p m (s + 1) := if_neg (by rw [h]; decide)
def hz_ref (R : hz_R) (day g after : Int32) : Nat → Bool := fun k => decide (R k 3 = 1) && (decide (R k 4 ≤ day) && (hz_hold (R k 0) (R k 1) g && !hz_hold (R k 0) (R k 1) after))
theorem x_X0_refuser (d j : Nat) (room : Int32) (h : hq_H) (n : Nat) (R : hz_R) (hn : n ≤ 10) (hc : h.1 0 j 2 = nI n) (hR : ∀ k, k < n → ∀ a, a < 6 → h.1 1 (11 * j + k) a = R k a) (hs : ∀ k, k < n → R k 3 = 0 ∨ R k 3 = 1) :
    hq_Met (d + 2) MX0_refuser [.inr (0, j), hz_i room] h (hz_o (hz_lo (hz_ref R (h.1 0 j 4) (h.1 0 j 3) (h.1 0 j 3 ^^^ ((1 : Int32) <<< (room &&& 31)))) n 0)) h := by
  refine inX0_refuser (d + 1) j room h _ _ (fun _ => trivial) (fun J b0 b11 b51 => b0 _ _ _ ?_)
  generalize hp : hz_ref R (h.1 0 j 4) (h.1 0 j 3) (h.1 0 j 3 ^^^ ((1 : Int32) <<< (room &&& 31))) = p at b11 b51
  refine hq_up (P := fun k => hz_lo p n 0 = hz_lo p (n - k) k → ∀ v4 v5, J 11 [some (.inr (0, j)), some (hz_i room), some (hz_i (h.1 0 j 3 ^^^ ((1 : Int32) <<< (room &&& 31)))), some (hz_i (nI k)), v4, v5] [] h) n (fun e v4 v5 => b11 _ _ _ ?_) (fun k hk ih e v4 v5 => b11 _ _ _ ?_) 0 (Nat.zero_le _) rfl _ _
  · rw [Nat.sub_self] at e
    exact hq_bt (hz_le hc rfl (Nat.le_refl _) (by omega)) ⟨hz_ri e, rfl⟩
  · refine hq_bf (hz_nle hc rfl hk (by omega)) ?_
    refine ⟨_, _, x_X0_at d j (show k < 10 by omega) h, ?_⟩
    rw [show n - k = (n - (k + 1)) + 1 by omega] at e
    have no : p k = false → J 11 [some (.inr (0, j)), some (hz_i room), some (hz_i (h.1 0 j 3 ^^^ ((1 : Int32) <<< (room &&& 31)))), some (hz_i (nI k + 1)), some (.inr (1, 11 * j + k)), some (hz_i 0)] [] h := by
      intro hpk
      rw [hz_lo_n hpk] at e
      have ih := ih e (some (.inr (1, 11 * j + k))) (some (hz_i 0))
      rw [nI_succ] at ih
      exact ih
    have no1 : p k = false → J 11 [some (.inr (0, j)), some (hz_i room), some (hz_i (h.1 0 j 3 ^^^ ((1 : Int32) <<< (room &&& 31)))), some (hz_i (nI k + 1)), some (.inr (1, 11 * j + k)), some (hz_i 1)] [] h := by
      intro hpk
      rw [hz_lo_n hpk] at e
      have ih := ih e (some (.inr (1, 11 * j + k))) (some (hz_i 1))
      rw [nI_succ] at ih
      exact ih
    have pk : p k = (decide (R k 3 = 1) && (decide (R k 4 ≤ h.1 0 j 4) && (hz_hold (R k 0) (R k 1) (h.1 0 j 3) && !hz_hold (R k 0) (R k 1) (h.1 0 j 3 ^^^ ((1 : Int32) <<< (room &&& 31)))))) := by rw [← hp]; rfl
    refine hq_bc (fun c => ?_) (fun c => ?_)
    · have c : h.1 1 (11 * j + k) 3 = 0 := c
      rw [hR k hk 3 (by decide)] at c
      refine b51 _ _ _ (hq_bt rfl (no ?_))
      rw [pk]
      exact hz_andL (decide_eq_false (by rw [c]; decide))
    · have c : ¬ h.1 1 (11 * j + k) 3 = 0 := c
      rw [hR k hk 3 (by decide)] at c
      have c1 : R k 3 = 1 := (hs k hk).resolve_left c
      refine hq_bc (fun c2 => ?_) (fun c2 => ?_)
      · have c2 : h.1 0 j 4 < h.1 1 (11 * j + k) 4 := c2
        rw [hR k hk 4 (by decide)] at c2
        refine b51 _ _ _ (hq_bt rfl (no ?_))
        rw [pk]
        exact hz_andR (hz_andL (decide_eq_false (Int32.not_le.mpr c2)))
      · have c2 : ¬ h.1 0 j 4 < h.1 1 (11 * j + k) 4 := c2
        rw [hR k hk 4 (by decide)] at c2
        refine b51 _ _ _ (hq_bf (by decide) ?_)
        refine ⟨_, _, x_hold d (11 * j + k) _ _ _ h (hR k hk 0 (by decide)) (hR k hk 1 (by decide)), ?_⟩
        cases hh : hz_hold (R k 0) (R k 1) (h.1 0 j 3) with
        | false =>
          refine hq_bt rfl (no1 ?_)
          rw [pk, hh]
          exact hz_andR (hz_andR rfl)
        | true =>
          refine hq_bf (by decide) ?_
          refine ⟨_, _, x_hold d (11 * j + k) _ _ _ h (hR k hk 0 (by decide)) (hR k hk 1 (by decide)), ?_⟩
          cases hh2 : hz_hold (R k 0) (R k 1) (h.1 0 j 3 ^^^ ((1 : Int32) <<< (room &&& 31))) with
          | true =>
            refine hq_nt (by decide) (no1 ?_)
            rw [pk, hh2]
            exact hz_andR (hz_andR (hz_andR rfl))
          | false =>
            refine hq_nf rfl ⟨hz_ri ?_, rfl⟩
            rw [e, hz_lo_y]
            rw [pk, hh, hh2, decide_eq_true c1, decide_eq_true (Int32.not_lt.mp c2)]
            rfl
