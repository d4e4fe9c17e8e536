-- ===== the reference: small helpers =====
/-- a row of numbers holds a state -/
def hm_S (f : Nat → Int32) (st : hz_St) : Prop := f 0 = nI st.1 ∧ f 1 = st.2.2.1 ∧ f 2 = st.2.2.2.1 ∧ f 3 = st.2.2.2.2.1 ∧ f 4 = st.2.2.2.2.2 ∧ ∀ k, k < st.1 → ∀ a, a < 6 → f (5 + 6 * k + a) = st.2.1 k a
/-- the ways in which each room is let -/
def hm_L (h : hq_H) : Prop := ∀ r, r < 6 → ∀ k, k < 64 → hz_bl (h.2 16 0 r) k = k.testBit r
def hm_Q (h : hq_H) (st : hz_St) : Prop := hm_S (h.1 14 0) st ∧ hm_L h
theorem hq_dw {P : Nat → Prop} (n : Nat) (h0 : P 0) (hs : ∀ k, k < n → P k → P (k + 1)) : ∀ k, k ≤ n → P k := by
  intro k
  induction k with
  | zero => exact fun _ => h0
  | succ k ih => exact fun h => hs k (by omega) (ih (by omega))
theorem hz_m1 (x : Int32) : x - 1 = x + (-1) := Int32.sub_eq_add_neg x 1
theorem hz_or0 (x : Int32) : x ||| 0 = x := Int32.or_zero
theorem hz_add0 (x : Int32) : x + 0 = x := Int32.add_zero x
theorem hz_one0 : ¬ (1 : Int32) = 0 := by decide
theorem m_in (d : Nat) (x a b : Int32) (h : hq_H) : hq_Met (d + 1) MX7_in [hz_i x, hz_i a, hz_i b] h (hz_o (hz_b (decide (a ≤ x) && decide (x ≤ b)))) h := by
  refine inX7_in d x a b h _ _ (fun _ => trivial) (fun J b0 => b0 _ _ _ ?_)
  refine hq_bc (fun c => ?_) (fun c => hq_bc (fun c2 => ?_) (fun c2 => ?_))
  · exact ⟨Or.inl rfl, hz_rf (hz_andL (decide_eq_false (Int32.not_le.mpr c))), rfl⟩
  · exact ⟨Or.inl rfl, hz_rf (hz_andR (decide_eq_false (Int32.not_le.mpr c2))), rfl⟩
  · exact ⟨Or.inr rfl, hz_rb (hz_andT (decide_eq_true (Int32.not_lt.mp c)) (decide_eq_true (Int32.not_lt.mp c2))), rfl⟩
def hm_th (p q r : Bool) : Int32 := if p = false then 1 else if q = false then 2 else if r = false then 3 else 0
theorem m_goes (d : Nat) (p q r : Bool) (h : hq_H) : hq_Met (d + 1) MX7_goes [.inr (13, 0), hz_i (hz_b p), hz_i (hz_b q), hz_i (hz_b r)] h (hz_o (hz_b (p && (q && r)))) (hq_si h 13 0 3 (hm_th p q r)) := by
  refine inX7_goes d 0 (hz_b p) (hz_b q) (hz_b r) h _ _ (fun _ => trivial) (fun J b0 b26 => b0 _ _ _ ?_)
  cases p with
  | false => exact hq_nf rfl (b26 _ _ _ (hq_nt (show ¬ (1 : Int32) = 0 by decide) ⟨Or.inl rfl, rfl, rfl⟩))
  | true =>
    refine hq_nt hz_one0 ?_
    cases q with
    | false => exact hq_nf rfl (b26 _ _ _ (hq_nt (show ¬ (2 : Int32) = 0 by decide) ⟨Or.inl rfl, rfl, rfl⟩))
    | true =>
      refine hq_nt hz_one0 ?_
      cases r with
      | false => exact hq_nf rfl (b26 _ _ _ (hq_nt (show ¬ (3 : Int32) = 0 by decide) ⟨Or.inl rfl, rfl, rfl⟩))
      | true => exact hq_nt hz_one0 (b26 _ _ _ (hq_nf (show (0 : Int32) = 0 from rfl) ⟨Or.inr rfl, rfl, rfl⟩))
theorem m_isIn (d : Nat) {x y : Int32} {S k : Nat} (h : hq_H) (hx : x = nI S) (hy : y = nI k) (hS : S < 2 ^ 31) (hk : k < 31) : hq_Met (d + 1) MX7_isIn [hz_i x, hz_i y] h (hz_o (hz_b (S.testBit k))) h := by
  subst hx
  subst hy
  refine inX7_isIn d (nI S) (nI k) h _ _ (fun _ => trivial) (fun J b0 => b0 _ _ _ ?_)
  cases t : S.testBit k with
  | true => exact hq_nf (hz_bit1 hS hk t) ⟨Or.inr rfl, rfl, rfl⟩
  | false => exact hq_nt (fun z => absurd ((hz_bit0 hS hk t).symm.trans z) (by decide)) ⟨Or.inl rfl, rfl, rfl⟩
theorem m_at (d k : Nat) (h : hq_H) : hq_Met (d + 1) MX7_at [hz_i (nI k)] h (hz_o (nI (5 + 6 * k))) h := by
  refine inX7_at d (nI k) h _ _ (fun _ => trivial) (fun J b0 => b0 _ _ _ ?_)
  refine ⟨hz_ri ?_, rfl⟩
  show nI (5 + 6 * k) = nI 5 + nI 6 * nI k
  rw [pk_mul, nI_add]
theorem m_atx (d : Nat) {x : Int32} {k : Nat} (hx : x = nI k) (h : hq_H) : hq_Met (d + 1) MX7_at [hz_i x] h (hz_o (nI (5 + 6 * k))) h := by
  subst hx
  exact m_at d k h
theorem m_frc (d k : Nat) (h : hq_H) (st : hz_St) (H : hm_S (h.1 14 0) st) (hn : st.1 ≤ 10) (hk : k < st.1) {dy day : Int32} (hd : dy = day) : hq_Met (d + 2) MX7_isForce [.inr (13, 0), hz_i (nI k), hz_i dy] h (hz_o (hz_b (hz_inF st.2.1 day k))) h := by
  subst hd
  refine inX7_isForce (d + 1) 0 (nI k) dy h _ _ (fun _ => trivial) (fun J b0 => b0 _ _ _ ?_)
  refine ⟨_, _, m_at d k h, ?_⟩
  refine ⟨5 + 6 * k + 4, by omega, nI_add (5 + 6 * k) 4, ?_⟩
  have e := H.2.2.2.2.2 k hk 4 (by decide)
  refine hq_bc (fun c => ?_) (fun c => ?_)
  · have c : dy < h.1 14 0 (5 + 6 * k + 4) := c
    rw [e] at c
    exact ⟨Or.inl rfl, hz_rf (decide_eq_false (Int32.not_le.mpr c)), rfl⟩
  · have c : ¬ dy < h.1 14 0 (5 + 6 * k + 4) := c
    rw [e] at c
    exact ⟨Or.inr rfl, hz_rb (decide_eq_true (Int32.not_lt.mp c)), rfl⟩
theorem m_hold (d k : Nat) (h : hq_H) (st : hz_St) (H : hm_S (h.1 14 0) st) (hn : st.1 ≤ 10) (hk : k < st.1) {w W : Int32} (hw : w = W) : hq_Met (d + 2) MX7_holdsNow [.inr (13, 0), hz_i (nI k), hz_i w] h (hz_o (hz_b (hz_hold (st.2.1 k 0) (st.2.1 k 1) W))) h := by
  subst hw
  refine inX7_holdsNow (d + 1) 0 (nI k) w h _ _ (fun _ => trivial) (fun J b0 => b0 _ _ _ ?_)
  have e0 : h.1 14 0 (5 + 6 * k) = st.2.1 k 0 := H.2.2.2.2.2 k hk 0 (by decide)
  have e1 : h.1 14 0 (5 + 6 * k + 1) = st.2.1 k 1 := H.2.2.2.2.2 k hk 1 (by decide)
  refine ⟨_, _, m_at d k h, ?_⟩
  refine ⟨5 + 6 * k, by omega, rfl, ?_⟩
  refine ⟨_, _, m_at d k h, ?_⟩
  refine ⟨5 + 6 * k + 1, by omega, nI_add (5 + 6 * k) 1, ?_⟩
  unfold hz_hold
  refine hq_nc (fun c => ?_) (fun c => ?_)
  · have c : ¬ h.1 14 0 (5 + 6 * k) &&& w = 0 := c
    rw [e0] at c
    exact ⟨Or.inr rfl, hz_rb (by rw [decide_eq_false c]; rfl), rfl⟩
  · have c : h.1 14 0 (5 + 6 * k) &&& w = 0 := c
    rw [e0] at c
    refine hq_bc (fun c2 => ?_) (fun c2 => ?_)
    · have c2 : h.1 14 0 (5 + 6 * k + 1) &&& (w ^^^ -1) = 0 := c2
      rw [e1] at c2
      exact ⟨Or.inl rfl, hz_rf (by rw [decide_eq_true c, decide_eq_true c2]; rfl), rfl⟩
    · have c2 : ¬ h.1 14 0 (5 + 6 * k + 1) &&& (w ^^^ -1) = 0 := c2
      rw [e1] at c2
      exact ⟨Or.inr rfl, hz_rb (by rw [decide_eq_true c, decide_eq_false c2]; rfl), rfl⟩
theorem m_force (d : Nat) (h : hq_H) (st : hz_St) (H : hm_S (h.1 14 0) st) (hn : st.1 ≤ 10) : hq_Met (d + 3) MX7_force [.inr (13, 0)] h (hz_o (nI (hz_force st))) h := by
  refine inX7_force (d + 2) 0 h _ _ (fun _ => trivial) (fun J b0 b4 => b0 _ _ _ ?_)
  refine hq_up (P := fun k => J 4 [some (.inr (13, 0)), some (hz_i (nI (hz_mk (hz_inF st.2.1 st.2.2.2.1) k))), some (hz_i (nI k))] [] h) st.1 (b4 _ _ _ ?_) (fun k hk ih => b4 _ _ _ ?_) 0 (Nat.zero_le _)
  · refine ⟨0, by decide, rfl, ?_⟩
    exact hq_bt (hz_le H.1 rfl (Nat.le_refl _) (by omega)) ⟨rfl, rfl⟩
  · refine ⟨0, by decide, rfl, ?_⟩
    refine hq_bf (hz_nle H.1 rfl hk (by omega)) ?_
    refine ⟨2, by decide, rfl, ?_⟩
    refine ⟨_, _, m_frc d k h st H hn hk H.2.2.1, ?_⟩
    rw [nI_succ k] at ih
    cases c : hz_inF st.2.1 st.2.2.2.1 k with
    | false =>
      rw [hz_mk_no c, ← hz_or0 (nI (hz_mk (hz_inF st.2.1 st.2.2.2.1) k))] at ih
      exact hq_bt rfl ih
    | true =>
      rw [← hz_mk_or (by omega) c] at ih
      exact hq_bf hz_one0 ih
theorem m_broke (d : Nat) (way : Int32) (h : hq_H) (st : hz_St) (H : hm_S (h.1 14 0) st) (hn : st.1 ≤ 10) : hq_Met (d + 3) MX7_brokenIn [.inr (13, 0), hz_i way] h (hz_o (nI (hz_broke st way))) h := by
  refine inX7_brokenIn (d + 2) 0 way h _ _ (fun _ => trivial) (fun J b0 b4 => b0 _ _ _ ?_)
  refine hq_up (P := fun k => J 4 [some (.inr (13, 0)), some (hz_i way), some (hz_i (nI (hz_mk (hz_brk st.2.1 st.2.2.2.1 way) k))), some (hz_i (nI k))] [] h) st.1 (b4 _ _ _ ?_) (fun k hk ih => b4 _ _ _ ?_) 0 (Nat.zero_le _)
  · refine ⟨0, by decide, rfl, ?_⟩
    exact hq_bt (hz_le H.1 rfl (Nat.le_refl _) (by omega)) ⟨rfl, rfl⟩
  · refine ⟨0, by decide, rfl, ?_⟩
    refine hq_bf (hz_nle H.1 rfl hk (by omega)) ?_
    refine ⟨2, by decide, rfl, ?_⟩
    refine ⟨_, _, m_frc d k h st H hn hk H.2.2.1, ?_⟩
    rw [nI_succ k] at ih
    cases c : hz_inF st.2.1 st.2.2.2.1 k with
    | false =>
      rw [hz_mk_no (hz_andL c), ← hz_or0 (nI (hz_mk (hz_brk st.2.1 st.2.2.2.1 way) k))] at ih
      exact hq_bt rfl ih
    | true =>
      refine hq_bf hz_one0 ?_
      refine ⟨_, _, m_hold d k h st H hn hk rfl, ?_⟩
      cases c2 : hz_hold (st.2.1 k 0) (st.2.1 k 1) way with
      | true =>
        rw [hz_mk_no (hz_andR (by rw [c2]; rfl)), ← hz_or0 (nI (hz_mk (hz_brk st.2.1 st.2.2.2.1 way) k))] at ih
        exact hq_nt hz_one0 ih
      | false =>
        rw [← hz_mk_or (by omega) (hz_andT c (by rw [c2]; rfl))] at ih
        exact hq_nf rfl ih
theorem m_fos (d : Nat) (h : hq_H) (st : hz_St) (H : hm_S (h.1 14 0) st) (hn : st.1 ≤ 10) {x : Int32} {S : Nat} (hx : x = nI S) (hS : S < 2 ^ 31) : hq_Met (d + 2) MX7_finesOfSet [.inr (13, 0), hz_i x] h (hz_o (hz_sum (fun k => S.testBit k) (hz_price st.2.1) st.1)) h := by
  subst hx
  refine inX7_finesOfSet (d + 1) 0 (nI S) h _ _ (fun _ => trivial) (fun J b0 b4 => b0 _ _ _ ?_)
  refine hq_up (P := fun k => J 4 [some (.inr (13, 0)), some (hz_i (nI S)), some (hz_i (hz_sum (fun k => S.testBit k) (hz_price st.2.1) k)), some (hz_i (nI k))] [] h) st.1 (b4 _ _ _ ?_) (fun k hk ih => b4 _ _ _ ?_) 0 (Nat.zero_le _)
  · refine ⟨0, by decide, rfl, ?_⟩
    exact hq_bt (hz_le H.1 rfl (Nat.le_refl _) (by omega)) ⟨rfl, rfl⟩
  · refine ⟨0, by decide, rfl, ?_⟩
    refine hq_bf (hz_nle H.1 rfl hk (by omega)) ?_
    refine ⟨_, _, m_isIn d h rfl rfl hS (show k < 31 by omega), ?_⟩
    rw [nI_succ k] at ih
    cases c : S.testBit k with
    | false =>
      rw [hz_sum_n c, ← hz_add0 (hz_sum (fun k => S.testBit k) (hz_price st.2.1) k)] at ih
      exact hq_bt rfl ih
    | true =>
      refine hq_bf hz_one0 ?_
      refine ⟨_, _, m_at d k h, ?_⟩
      refine ⟨5 + 6 * k + 2, by omega, nI_add (5 + 6 * k) 2, ?_⟩
      rw [hz_sum_y c, show hz_price st.2.1 k = h.1 14 0 (5 + 6 * k + 2) from (H.2.2.2.2.2 k hk 2 (by decide)).symm] at ih
      exact ih
theorem m_night (d : Nat) (way : Int32) (h : hq_H) (st : hz_St) (H : hm_S (h.1 14 0) st) (hn : st.1 ≤ 10) : hq_Met (d + 4) MX7_nightIn [.inr (13, 0), hz_i way] h (hz_o (hz_night st.2.1 st.1 st.2.2.2.1 way)) h := by
  refine inX7_nightIn (d + 3) 0 way h _ _ (fun _ => trivial) (fun J b0 => b0 _ _ _ ?_)
  refine ⟨_, _, m_broke d way h st H hn, ?_⟩
  refine ⟨_, _, m_fos (d + 1) h st H hn rfl (hz_mk31 _ hn), ?_⟩
  exact ⟨hz_ri hz_sum_mk.symm, rfl⟩
theorem m_ref (d : Nat) (room : Int32) (h : hq_H) (st : hz_St) (H : hm_S (h.1 14 0) st) (hn : st.1 ≤ 10) : hq_Met (d + 3) MX7_refuser [.inr (13, 0), hz_i room] h (hz_o (hz_rfs st room)) h := by
  refine inX7_refuser (d + 2) 0 room h _ _ (fun _ => trivial) (fun J b0 b11 b81 => b0 _ _ _ ?_)
  refine ⟨0, by decide, rfl, ?_⟩
  have pd : ∀ k, hz_ref st.2.1 st.2.2.2.1 st.2.2.1 (st.2.2.1 ^^^ ((1 : Int32) <<< (room &&& 31))) k = (decide (st.2.1 k 3 = 1) && (decide (st.2.1 k 4 ≤ st.2.2.2.1) && (hz_hold (st.2.1 k 0) (st.2.1 k 1) st.2.2.1 && !hz_hold (st.2.1 k 0) (st.2.1 k 1) (st.2.2.1 ^^^ ((1 : Int32) <<< (room &&& 31)))))) := fun _ => rfl
  unfold hz_rfs at b11
  generalize hz_ref st.2.1 st.2.2.2.1 st.2.2.1 (st.2.2.1 ^^^ ((1 : Int32) <<< (room &&& 31))) = p at *
  have key := hq_dw (P := fun k => k ≤ st.1 → ∀ v4, J 11 [some (.inr (13, 0)), some (hz_i room), some (hz_i (hz_lo p (st.1 - k) k)), some (hz_i (nI k + (-1))), v4] [] h) st.1 (fun _ v4 => b11 _ _ _ (hq_bt (show nI 0 + (-1) < 0 by decide) ⟨rfl, rfl⟩)) (fun k hk ih _ v4 => ?_) st.1 (Nat.le_refl _) (Nat.le_refl _) none
  · rw [Nat.sub_self, ← hz_m1, ← H.1] at key
    exact key
  · rw [pk_m1]
    refine b11 _ _ _ (hq_bf (nI_pos (by omega)) ?_)
    refine ⟨_, _, m_at (d + 1) k h, ?_⟩
    refine ⟨5 + 6 * k + 3, by omega, nI_add (5 + 6 * k) 3, ?_⟩
    have e3 := H.2.2.2.2.2 k hk 3 (by decide)
    have ih := ih (by omega)
    rw [show st.1 - k = (st.1 - (k + 1)) + 1 by omega] at ih
    have no : p k = false → J 81 [some (.inr (13, 0)), some (hz_i room), some (hz_i (hz_lo p (st.1 - (k + 1)) (k + 1))), some (hz_i (nI k)), v4] [hz_i 0] h := fun c => b81 _ _ _ (hq_bt rfl (by
      rw [hz_lo_n c] at ih
      exact ih _))
    refine hq_nc (fun c => no ?_) (fun c => ?_)
    · have c : ¬ h.1 14 0 (5 + 6 * k + 3) = 1 := c
      rw [e3] at c
      rw [pd]
      exact hz_andL (decide_eq_false c)
    · have c : h.1 14 0 (5 + 6 * k + 3) = 1 := c
      rw [e3] at c
      refine ⟨2, by decide, rfl, ?_⟩
      refine ⟨_, _, m_frc d k h st H hn hk H.2.2.1, ?_⟩
      have pk := pd k
      rw [decide_eq_true c, Bool.true_and] at pk
      cases c2 : hz_inF st.2.1 st.2.2.2.1 k with
      | false => exact hq_bt rfl (no (by rw [pk]; exact hz_andL c2))
      | true =>
        have c2 : decide (st.2.1 k 4 ≤ st.2.2.2.1) = true := c2
        rw [c2, Bool.true_and] at pk
        refine hq_bf hz_one0 ?_
        refine ⟨1, by decide, rfl, ?_⟩
        refine ⟨_, _, m_hold d k h st H hn hk H.2.1, ?_⟩
        cases c3 : hz_hold (st.2.1 k 0) (st.2.1 k 1) st.2.2.1 with
        | false => exact hq_bt rfl (no (by rw [pk, c3]; rfl))
        | true =>
          refine hq_bf hz_one0 ?_
          refine ⟨1, by decide, rfl, ?_⟩
          refine ⟨_, _, m_hold d k h st H hn hk (congrArg (fun z => z ^^^ ((1 : Int32) <<< (room &&& 31))) H.2.1), ?_⟩
          cases c4 : hz_hold (st.2.1 k 0) (st.2.1 k 1) (st.2.2.1 ^^^ ((1 : Int32) <<< (room &&& 31))) with
          | true => exact hq_nt hz_one0 (no (by rw [pk, c3, c4]; rfl))
          | false =>
            refine hq_nf rfl (b81 _ _ _ (hq_bf hz_one0 ?_))
            rw [hz_lo_y (by rw [pk, c3, c4]; rfl)] at ih
            exact ih _
