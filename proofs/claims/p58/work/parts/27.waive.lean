-- ===== waivers, the least clash, cheapest ways =====
def hz_few (st : hz_St) : Nat → Nat
  | 0 => hz_broke st 0
  | k + 1 => if hz_pc (hz_broke st (nI (k + 1))) < hz_pc (hz_few st k) ∨ (hz_pc (hz_broke st (nI (k + 1))) = hz_pc (hz_few st k) ∧ hz_broke st (nI (k + 1)) < hz_few st k) then hz_broke st (nI (k + 1)) else hz_few st k
theorem hz_few_s (st : hz_St) (k : Nat) : hz_few st (k + 1) = if hz_pc (hz_broke st (nI (k + 1))) < hz_pc (hz_few st k) ∨ (hz_pc (hz_broke st (nI (k + 1))) = hz_pc (hz_few st k) ∧ hz_broke st (nI (k + 1)) < hz_few st k) then hz_broke st (nI (k + 1)) else hz_few st k := rfl
theorem hz_broke_lt (st : hz_St) (w : Int32) : hz_broke st w < 2 ^ st.1 := hz_mk_lt _ _
theorem hz_few_lt (st : hz_St) : ∀ k, hz_few st k < 2 ^ st.1
  | 0 => hz_broke_lt st 0
  | k + 1 => by
    have h := hz_few_lt st k
    have h2 := hz_broke_lt st (nI (k + 1))
    rw [hz_few_s]
    split <;> assumption
theorem hz_cp_lt {a b : Nat} (ha : a < 2 ^ 31) (hb : b < 2 ^ 31) (h : a < b) : hz_cp (nI a) (nI b) = -1 := if_neg (nI_ge h hb)
theorem hz_cp_eq (x : Int32) : hz_cp x x = 0 := (if_pos (Int32.le_refl x)).trans (if_pos rfl)
theorem hz_cp_gt {a b : Nat} (ha : a < 2 ^ 31) (hb : b < 2 ^ 31) (h : b < a) : hz_cp (nI a) (nI b) = 1 := (if_pos (nI_le (by omega) ha)).trans (if_neg (fun z => by have := (nI_eq ha hb).mp z; omega))
theorem x_few (d : Nat) (h : hq_H) (st : hz_St) (H : hz_HC h 0 st) (n10 : st.1 ≤ 10) : hq_Met (d + 4) MX6_fewestWaivers [.inr (3, 0)] h (hz_o (nI (hz_few st 63))) h := by
  have p10 := hz_p10 n10
  refine inX6_fewestWaivers (d + 3) 0 h _ _ (fun _ => trivial) (fun J b0 b18 => b0 _ _ _ ?_)
  refine ⟨_, _, x_broke (d + 1) h st H n10 H.2.2.1, ?_⟩
  refine hq_up (P := fun k => ∀ v3 v4, J 18 [some (.inr (3, 0)), some (hz_i (nI (hz_few st k))), some (hz_i (nI (k + 1))), v3, v4] [] h) 63 (fun v3 v4 => b18 _ _ _ (hq_bt (hz_le (a := 64) (b := 64) rfl rfl (Nat.le_refl _) (by decide)) ⟨rfl, rfl⟩)) (fun k hk ih v3 v4 => b18 _ _ _ ?_) 0 (Nat.zero_le _) _ _
  refine hq_bf (hz_nle (a := 64) (b := k + 1) rfl rfl (by omega) (by decide)) ?_
  have ls := hz_broke_lt st (nI (k + 1))
  have lb := hz_few_lt st k
  refine ⟨_, _, x_broke (d + 1) h st H n10 H.2.2.1, ?_⟩
  rw [hz_few_s, nI_succ (k + 1)] at ih
  generalize hz_broke st (nI (k + 1)) = s at *
  generalize hz_few st k = b at *
  have l1 := hz_pc_le s (by omega)
  have l2 := hz_pc_le b (by omega)
  refine ⟨_, _, x_bitCount (d + 2) s h (by omega), _, _, x_bitCount (d + 2) b h (by omega), ?_⟩
  refine ⟨_, _, x_compare (d + 2) _ _ h, ?_⟩
  rcases Nat.lt_trichotomy (hz_pc s) (hz_pc b) with c | c | c
  · rw [hz_cp_lt (by omega) (by omega) c]
    rw [if_pos (Or.inl c)] at ih
    exact hq_bt (by decide) (ih _ _)
  · rw [c, hz_cp_eq]
    refine hq_bf (by decide) (hq_nf rfl ?_)
    refine hq_bc (fun c2 => ?_) (fun c2 => ?_)
    · rw [if_neg (fun z => by
        rcases z with z | z
        · omega
        · exact nI_ge z.2 (by omega) c2)] at ih
      exact ih _ _
    · rw [if_pos (Or.inr ⟨c, Nat.lt_of_not_le (fun z => c2 (nI_le z (by omega)))⟩)] at ih
      exact ih _ _
  · rw [hz_cp_gt (by omega) (by omega) c]
    rw [if_neg (fun z => by omega)] at ih
    exact hq_bf (by decide) (hq_nt (by decide) (ih _ _))
theorem t_fewestWaivers (d : Nat) (h : hq_H) (w : hz_W) (H : hz_RC h w) : hz_Ans MX6_fewestWaivers (d + 5) [.inr (3, 0)] h (hz_o (nI (hz_few w.1 63)), w) := hz_same H (x_few (d + 1) h w.1 H.1 H.2.1.1)
def hz_scan (p : Nat → Bool) (b : Nat) : Nat → Nat
  | 0 => b
  | k + 1 => if p k = true ∧ hz_pc k < hz_pc (hz_scan p b k) then k else hz_scan p b k
theorem hz_scan_s (p : Nat → Bool) (b k : Nat) : hz_scan p b (k + 1) = if p k = true ∧ hz_pc k < hz_pc (hz_scan p b k) then k else hz_scan p b k := rfl
theorem hz_scan_lt {p : Nat → Bool} {b N : Nat} (hb : b < N) : ∀ k, k ≤ N → hz_scan p b k < N
  | 0, _ => hb
  | k + 1, hk => by
    have h := hz_scan_lt (p := p) hb k (by omega)
    rw [hz_scan_s]
    split
    · omega
    · exact h
def hz_fr (st : hz_St) (S : Nat) : Bool := decide (hz_dif S (hz_force st) = 0) && !decide (hz_stand st (hz_dif (hz_force st) S) = 0)
def hz_fws (st : hz_St) : Nat := hz_scan (hz_fr st) (hz_force st) (hz_force st + 1)
theorem x_fws (d : Nat) (h : hq_H) (st : hz_St) (H : hz_HC h 0 st) (n10 : st.1 ≤ 10) : hq_Met (d + 5) MX6_fewestWaiversBySets [.inr (3, 0)] h (hz_o (nI (hz_fws st))) (hw_tb h (hz_stand st) (2 ^ st.1)) := by
  have p10 := hz_p10 n10
  have F2 := hz_force_lt st
  refine inX6_fewestWaiversBySets (d + 4) 0 h _ _ (fun _ => trivial) (fun J b0 b30 b65 => b0 _ _ _ ?_)
  refine ⟨_, _, x_force (d + 2) h st H n10 H.2.2.1, ?_⟩
  refine ⟨_, x_fill (d + 2) h st H n10, ?_⟩
  have hT : ∀ s, s < 2 ^ st.1 → (hw_tb h (hz_stand st) (2 ^ st.1)).2 12 0 s = hz_stand st s := fun s hs => hw_tb_at hs
  have res : hz_fws st = hz_scan (hz_fr st) (hz_force st) (hz_force st + 1) := rfl
  rw [res] at b30
  clear res
  generalize hw_tb h (hz_stand st) (2 ^ st.1) = h1 at *
  have pd : ∀ k, hz_fr st k = (decide (hz_dif k (hz_force st) = 0) && !decide (hz_stand st (hz_dif (hz_force st) k) = 0)) := fun _ => rfl
  generalize hz_fr st = p at *
  generalize hz_force st = F at *
  refine hq_up (P := fun k => ∀ v4, J 30 [some (.inr (3, 0)), some (hz_i (nI F)), some (hz_i (nI (hz_scan p F k))), some (hz_i (nI k)), v4] [] h1) (F + 1) (fun v4 => b30 _ _ _ (hq_bt (hz_lt (a := F) (b := F + 1) rfl rfl (by omega) (by omega)) ⟨rfl, rfl⟩)) (fun k hk ih v4 => b30 _ _ _ ?_) 0 (Nat.zero_le _) none
  refine hq_bf (hz_nlt (a := F) (b := k) rfl rfl (by omega) (by omega)) ?_
  refine ⟨_, _, x_X6_isPartOf (d + 3) k F h1 (by omega), ?_⟩
  have lb := hz_scan_lt (p := p) F2 k (by omega)
  rw [nI_succ k, hz_scan_s] at ih
  have no : p k = false → J 65 [some (.inr (3, 0)), some (hz_i (nI F)), some (hz_i (nI (hz_scan p F k))), some (hz_i (nI k)), v4] [hz_i 0] h1 := fun c => b65 _ _ _ (hq_bt rfl (by
    rw [if_neg (fun z => by rw [c] at z; exact absurd z.1 (by decide))] at ih
    exact ih _))
  by_cases c : hz_dif k F = 0
  · rw [decide_eq_true c]
    refine hq_bf (by decide) ?_
    have ld : hz_dif F k < 2 ^ st.1 := hz_dif_lt _ F2
    have m := x_of (d + 3) (hz_dif F k) h1 (by omega)
    rw [hT _ ld, ← hz_difN] at m
    refine ⟨_, _, m, ?_⟩
    refine hq_bc (fun c2 => no ?_) (fun c2 => b65 _ _ _ (hq_bf (by decide) ?_))
    · rw [pd, decide_eq_true ((hz_cmp0 _).mp c2)]
      exact Bool.and_false _
    · have pk : p k = true := by rw [pd, decide_eq_true c, decide_eq_false (fun z => c2 ((hz_cmp0 _).mpr z))]; rfl
      have l1 := hz_pc_le k (by omega)
      have l2 := hz_pc_le (hz_scan p F k) (by omega)
      refine ⟨_, _, x_bitCount (d + 3) k h1 (by omega), _, _, x_bitCount (d + 3) (hz_scan p F k) h1 (by omega), ?_⟩
      refine hq_bc (fun c3 => ?_) (fun c3 => ?_)
      · rw [if_neg (fun z => nI_ge z.2 (by omega) c3)] at ih
        exact ih _
      · rw [if_pos ⟨pk, Nat.lt_of_not_le (fun z => c3 (nI_le z (by omega)))⟩] at ih
        exact ih _
  · rw [decide_eq_false c]
    exact hq_bt rfl (no (by rw [pd, decide_eq_false c]; rfl))
theorem t_fewestWaiversBySets (d : Nat) (h : hq_H) (w : hz_W) (H : hz_RC h w) : hz_Ans MX6_fewestWaiversBySets (d + 5) [.inr (3, 0)] h (hz_o (nI (hz_fws w.1)), w) :=
  hz_free H (hw_tb_st h (hz_stand w.1) (2 ^ w.1.1)) (x_fws d h w.1 H.1 H.2.1.1)
/-- the least set of j of the first m rules of F that no way in o keeps -/
def hz_lc (R : hz_R) (F : Nat) : Nat → Nat → Int64 → Option Nat
  | 0, j, o => if j = 0 then (if o = 0 then some 0 else none) else none
  | m + 1, j, o => if j = 0 then (if o = 0 then some 0 else none) else if m + 1 < j then none else (match hz_lc R F m j o with
    | some x => some x
    | none => if F.testBit m = true then (match hz_lc R F m (j - 1) (o &&& hz_held R m) with
      | some y => some (y ||| 2 ^ m)
      | none => none) else none)
theorem hz_lc_lt {R : hz_R} {F : Nat} : ∀ {m j : Nat} {o : Int64} {x : Nat}, hz_lc R F m j o = some x → x < 2 ^ m
  | 0, j, o, x, h => by
    have h : (if j = 0 then (if o = 0 then some 0 else none) else none) = some x := h
    split at h
    · split at h
      · cases h
        decide
      · cases h
    · cases h
  | m + 1, j, o, x, h => by
    have p : 2 ^ m < 2 ^ (m + 1) := Nat.pow_lt_pow_right (by decide) (Nat.lt_succ_self m)
    unfold hz_lc at h
    split at h
    · split at h
      · cases h
        omega
      · cases h
    · split at h
      · cases h
      · split at h
        · rename_i e
          cases h
          exact Nat.lt_trans (hz_lc_lt e) p
        · split at h
          · split at h
            · rename_i e
              cases h
              exact Nat.or_lt_two_pow (Nat.lt_trans (hz_lc_lt e) p) p
            · cases h
          · cases h
theorem x_lc (d : Nat) (h : hq_H) (st : hz_St) (H : hz_HC h 0 st) (n10 : st.1 ≤ 10) (F : Nat) (hF : F < 2 ^ st.1) : ∀ m j (o : Int64), m ≤ 10 → j ≤ 10 → hq_Met (d + m + 2) MX6_leastClash [.inr (0, 0), hz_i (nI F), hz_i (nI m - 1), hz_i (nI j), hz_l o] h (hz_o (hz_on (hz_lc st.2.1 F m j o))) h := by
  have p10 := hz_p10 n10
  have zero : ∀ (d : Nat) (m : Nat) (o : Int64) (x : Int32), x = (if o = 0 then 0 else -1) → hq_Met (d + 1) MX6_leastClash [.inr (0, 0), hz_i (nI F), hz_i (nI m - 1), hz_i (nI 0), hz_l o] h (hz_o x) h := by
    intro d m o x hx
    refine inX6_leastClash d 0 _ _ _ o h _ _ (fun _ => trivial) (fun J b0 => b0 _ _ _ ?_)
    refine hq_bf (by decide) ?_
    refine hq_nc (fun c => ?_) (fun c => ?_)
    · exact ⟨hz_ri (hx.trans (if_neg (fun z => c ((hz_cmp0 _).mpr z)))), rfl⟩
    · exact ⟨hz_ri (hx.trans (if_pos ((hz_cmp0 _).mp c))), rfl⟩
  intro m
  induction m with
  | zero =>
    intro j o _ hj
    cases j with
    | zero =>
      refine zero (d + 1) 0 o _ ?_
      show hz_on (if o = 0 then some 0 else none) = _
      by_cases c : o = 0
      · rw [if_pos c, if_pos c]
        rfl
      · rw [if_neg c, if_neg c]
        rfl
    | succ j =>
      refine inX6_leastClash (d + 1) 0 _ _ _ o h _ _ (fun _ => trivial) (fun J b0 => b0 _ _ _ ?_)
      refine hq_bt (hz_lt (a := 0) (b := j + 1) rfl rfl (by omega) (by omega)) ?_
      refine hq_bf (hz_nle (a := j + 1) (b := 0) rfl (by decide) (by omega) (by omega)) ?_
      exact ⟨rfl, rfl⟩
  | succ m ih =>
    intro j o hm hj
    have e0 : nI (m + 1) - 1 = nI m := nI_pred m
    cases j with
    | zero =>
      refine zero (d + m + 2) (m + 1) o _ ?_
      show hz_on (if o = 0 then some 0 else none) = _
      by_cases c : o = 0
      · rw [if_pos c, if_pos c]
        rfl
      · rw [if_neg c, if_neg c]
        rfl
    | succ j =>
      have e1 : hz_lc st.2.1 F (m + 1) (j + 1) o = (if m + 1 < j + 1 then none else (match hz_lc st.2.1 F m (j + 1) o with
        | some x => some x
        | none => if F.testBit m = true then (match hz_lc st.2.1 F m j (o &&& hz_held st.2.1 m) with
          | some y => some (y ||| 2 ^ m)
          | none => none) else none)) := rfl
      rw [e0, e1]
      show hq_Met (d + m + 2 + 1) MX6_leastClash _ h _ h
      refine inX6_leastClash (d + m + 2) 0 _ _ _ o h _ _ (fun _ => trivial) (fun J b0 => b0 _ _ _ ?_)
      refine hq_bt (hz_lt (a := 0) (b := j + 1) rfl rfl (by omega) (by omega)) ?_
      by_cases c : m + 1 < j + 1
      · rw [if_pos c]
        exact hq_bf (hz_nle (a := j + 1) (b := m + 1) rfl (nI_succ m).symm c (by omega)) ⟨rfl, rfl⟩
      · rw [if_neg c]
        refine hq_bt (hz_le (a := j + 1) (b := m + 1) rfl (nI_succ m).symm (by omega) (by omega)) ?_
        refine ⟨_, _, ih (j + 1) o (by omega) hj, ?_⟩
        cases e : hz_lc st.2.1 F m (j + 1) o with
        | some x =>
          have lx := hz_lc_lt e
          have pm : 2 ^ m ≤ 512 := Nat.pow_le_pow_right (show 0 < 2 by decide) (show m ≤ 9 by omega)
          exact hq_nt (hz_n1 (by omega)) ⟨rfl, rfl⟩
        | none =>
          refine hq_nf rfl ?_
          cases t : F.testBit m with
          | false => exact hq_nf (hz_bit0 (by omega) (by omega) t) ⟨rfl, rfl⟩
          | true =>
            refine hq_nt (hz_bitn (by omega) (by omega) t) ?_
            have hmn : m < st.1 := by
              by_cases z : m < st.1
              · exact z
              · rw [Nat.testBit_lt_two_pow (Nat.lt_of_lt_of_le hF (Nat.pow_le_pow_right (by decide) (by omega)))] at t
                cases t
            refine ⟨_, _, x_X0_at (d + m + 1) 0 (show m < 10 by omega) h, ?_⟩
            have e6 : h.2 1 (11 * 0 + m) 6 = hz_held st.2.1 m := (H.2.2.2.2.2 m hmn).2
            have m2 := ih j (o &&& hz_held st.2.1 m) (by omega) (by omega)
            rw [← nI_pred j, ← e6] at m2
            refine ⟨_, _, m2, ?_⟩
            rw [e6]
            cases e2 : hz_lc st.2.1 F m j (o &&& hz_held st.2.1 m) with
            | none => exact hq_nf rfl ⟨rfl, rfl⟩
            | some y =>
              have ly := hz_lc_lt e2
              have pm : 2 ^ m ≤ 512 := Nat.pow_le_pow_right (show 0 < 2 by decide) (show m ≤ 9 by omega)
              refine hq_nt (hz_n1 (by omega)) ⟨hz_ri ?_, rfl⟩
              show nI (y ||| 2 ^ m) = nI y ||| ((1 : Int32) <<< (nI m &&& 31))
              rw [hz_pw (by omega), hz_orN]
def hz_fj (f : Nat → Option Nat) : Nat → Nat → Int32
  | 0, _ => -1
  | m + 1, j => match f j with
    | some x => nI x
    | none => hz_fj f m (j + 1)
def hz_scw (st : hz_St) : Int32 := hz_fj (fun j => hz_lc st.2.1 (hz_force st) 10 j (-1)) 10 1
theorem x_scw (d : Nat) (h : hq_H) (st : hz_St) (H : hz_HC h 0 st) (n10 : st.1 ≤ 10) : hq_Met (d + 13) MX6_smallestClashByWays [.inr (3, 0)] h (hz_o (hz_scw st)) h := by
  have p10 := hz_p10 n10
  refine inX6_smallestClashByWays (d + 12) 0 h _ _ (fun _ => trivial) (fun J b0 b17 => b0 _ _ _ ?_)
  refine ⟨_, _, x_force (d + 10) h st H n10 H.2.2.1, ?_⟩
  refine hq_up (P := fun k => hz_scw st = hz_fj (fun j => hz_lc st.2.1 (hz_force st) 10 j (-1)) (10 - k) (k + 1) → ∀ v3, J 17 [some (.inr (3, 0)), some (hz_i (nI (hz_force st))), some (hz_i (nI (k + 1))), v3] [] h) 10 (fun e v3 => b17 _ _ _ ?_) (fun k hk ih e v3 => b17 _ _ _ ?_) 0 (Nat.zero_le _) rfl _
  · exact hq_bt (hz_lt (a := 10) (b := 11) rfl rfl (by decide) (by decide)) ⟨hz_ri e, rfl⟩
  · refine hq_bf (hz_nlt (a := 10) (b := k + 1) rfl rfl (by omega) (by decide)) ?_
    have m := x_lc d h st H n10 (hz_force st) (hz_force_lt st) 10 (k + 1) (-1) (Nat.le_refl _) (by omega)
    refine ⟨_, _, m, ?_⟩
    rw [show 10 - k = (10 - (k + 1)) + 1 by omega] at e
    have e : hz_scw st = (match hz_lc st.2.1 (hz_force st) 10 (k + 1) (-1) with
      | some x => nI x
      | none => hz_fj (fun j => hz_lc st.2.1 (hz_force st) 10 j (-1)) (10 - (k + 1)) (k + 1 + 1)) := e
    rw [nI_succ (k + 1)] at ih
    cases c : hz_lc st.2.1 (hz_force st) 10 (k + 1) (-1) with
    | some x =>
      rw [c] at e
      have lx := hz_lc_lt c
      exact hq_bf (hz_n1 (by omega)) ⟨hz_ri e, rfl⟩
    | none =>
      rw [c] at e
      exact hq_bt rfl (ih e _)
theorem t_smallestClashByWays (d : Nat) (h : hq_H) (w : hz_W) (H : hz_RC h w) : hz_Ans MX6_smallestClashByWays (d + 13) [.inr (3, 0)] h (hz_o (hz_scw w.1), w) := hz_same H (x_scw d h w.1 H.1 H.2.1.1)
