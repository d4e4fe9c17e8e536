-- ===== clashes =====
def hz_cl (st : hz_St) (S : Nat) : Bool := decide (hz_dif S (hz_force st) = 0) && decide (hz_stand st S = 0)
/-- of those below n for which p says yes, the first with the fewest bits -/
def hz_asc (p : Nat → Bool) : Nat → Option Nat
  | 0 => none
  | k + 1 => if p k = true then (match hz_asc p k with
    | none => some k
    | some b => if hz_pc k < hz_pc b then some k else some b) else hz_asc p k
def hz_on (o : Option Nat) : Int32 := match o with
  | none => -1
  | some b => nI b
theorem hz_asc_n {p : Nat → Bool} {k : Nat} (h : p k = false) : hz_asc p (k + 1) = hz_asc p k := if_neg (by rw [h]; decide)
theorem hz_asc_y0 {p : Nat → Bool} {k : Nat} (h : p k = true) (e : hz_asc p k = none) : hz_asc p (k + 1) = some k := by
  refine (if_pos h).trans ?_
  rw [e]
theorem hz_asc_y1 {p : Nat → Bool} {k b : Nat} (h : p k = true) (e : hz_asc p k = some b) : hz_asc p (k + 1) = if hz_pc k < hz_pc b then some k else some b := by
  refine (if_pos h).trans ?_
  rw [e]
theorem hz_asc_lt {p : Nat → Bool} : ∀ {n b : Nat}, hz_asc p n = some b → b < n ∧ p b = true
  | 0, b, h => by cases h
  | n + 1, b, h => by
    cases c : p n with
    | false =>
      rw [hz_asc_n c] at h
      have := hz_asc_lt h
      exact ⟨by omega, this.2⟩
    | true =>
      cases e : hz_asc p n with
      | none =>
        rw [hz_asc_y0 c e] at h
        cases h
        exact ⟨Nat.lt_succ_self _, c⟩
      | some a =>
        have q := hz_asc_lt e
        rw [hz_asc_y1 c e] at h
        split at h
        · cases h
          exact ⟨Nat.lt_succ_self _, c⟩
        · cases h
          exact ⟨by omega, q.2⟩
theorem hz_asc_ext {p : Nat → Bool} {a : Nat} : ∀ {m : Nat}, (∀ k, a ≤ k → k < a + m → p k = false) → hz_asc p (a + m) = hz_asc p a
  | 0, _ => rfl
  | m + 1, h => by
    show hz_asc p ((a + m) + 1) = _
    rw [hz_asc_n (h (a + m) (by omega) (by omega))]
    exact hz_asc_ext (fun k h1 h2 => h k h1 (by omega))
theorem hz_cnt_ext {p : Nat → Bool} {a : Nat} : ∀ {m : Nat}, (∀ k, a ≤ k → k < a + m → p k = false) → hz_cnt p (a + m) = hz_cnt p a
  | 0, _ => rfl
  | m + 1, h => by
    show hz_cnt p (a + m) + (if p (a + m) = true then 1 else 0) = _
    rw [h (a + m) (by omega) (by omega)]
    exact hz_cnt_ext (fun k h1 h2 => h k h1 (by omega))
theorem hz_dif_sub {S F : Nat} (h : hz_dif S F = 0) : S ≤ F := by
  have e : S = S &&& F := by
    apply Nat.eq_of_testBit_eq
    intro i
    have q : (hz_dif S F).testBit i = false := by rw [h, Nat.zero_testBit]
    rw [hz_dif_bit] at q
    rw [Nat.testBit_and]
    revert q
    cases S.testBit i <;> cases F.testBit i <;> decide
  rw [e]
  exact Nat.and_le_right
theorem hz_n1 {b : Nat} (hb : b < 2 ^ 31) : ¬ nI b = -1 := fun z => nI_pos hb (by rw [z]; decide)
theorem hz_pc_le : ∀ S, S < 1024 → hz_pc S ≤ 10 := by decide +kernel
theorem hz_force_lt (st : hz_St) : hz_force st < 2 ^ st.1 := hz_mk_lt _ _
theorem hz_stand_n0 (st : hz_St) : ¬ hz_stand st 0 = 0 := by rw [hz_stand_0]; decide
theorem hz_cl_0 (st : hz_St) : hz_cl st 0 = false := hz_andR (decide_eq_false (hz_stand_n0 st))
def hz_small (st : hz_St) : Int32 := hz_on (hz_asc (hz_cl st) (2 ^ st.1))
theorem x_smallest (d : Nat) (h : hq_H) (st : hz_St) (H : hz_HC h 0 st) (n10 : st.1 ≤ 10) : hq_Met (d + 5) MX6_smallestClash [.inr (3, 0)] h (hz_o (hz_small st)) (hw_tb h (hz_stand st) (2 ^ st.1)) := by
  have p10 := hz_p10 n10
  have F2 := hz_force_lt st
  refine inX6_smallestClash (d + 4) 0 h _ _ (fun _ => trivial) (fun J b0 b30 b61 => b0 _ _ _ ?_)
  refine ⟨_, _, x_force (d + 2) h st H n10 H.2.2.1, ?_⟩
  refine ⟨_, x_fill (d + 2) h st H n10, ?_⟩
  have hT : ∀ s, s < 2 ^ st.1 → (hw_tb h (hz_stand st) (2 ^ st.1)).2 12 0 s = hz_stand st s := fun s hs => hw_tb_at hs
  have res : hz_small st = hz_on (hz_asc (hz_cl st) (hz_force st + 1)) := by
    unfold hz_small
    have e := hz_asc_ext (p := hz_cl st) (a := hz_force st + 1) (m := 2 ^ st.1 - (hz_force st + 1)) (fun k h1 _ => hz_andL (decide_eq_false (fun z => by have := hz_dif_sub z; omega)))
    rw [← e, show hz_force st + 1 + (2 ^ st.1 - (hz_force st + 1)) = 2 ^ st.1 by omega]
  rw [res] at b30
  clear res
  generalize hw_tb h (hz_stand st) (2 ^ st.1) = h1 at *
  have pd : ∀ k, hz_cl st k = (decide (hz_dif k (hz_force st) = 0) && decide (hz_stand st k = 0)) := fun _ => rfl
  have c0 := hz_cl_0 st
  generalize hz_cl st = p at *
  generalize hz_force st = F at *
  have key := hq_up (P := fun k => ∀ v4, J 30 [some (.inr (3, 0)), some (hz_i (nI F)), some (hz_i (hz_on (hz_asc p k))), some (hz_i (nI k)), v4] [] h1) (F + 1) (fun v4 => b30 _ _ _ (hq_bt (hz_lt (a := F) (b := F + 1) rfl rfl (by omega) (by omega)) ⟨rfl, rfl⟩)) (fun k hk ih v4 => b30 _ _ _ ?_) 1 (by omega) none
  · rw [hz_asc_n c0] at key
    exact key
  · refine hq_bf (hz_nlt (a := F) (b := k) rfl rfl (by omega) (by omega)) ?_
    refine ⟨_, _, x_X6_isPartOf (d + 3) k F h1 (by omega), ?_⟩
    rw [nI_succ] at ih
    have no : p k = false → J 61 [some (.inr (3, 0)), some (hz_i (nI F)), some (hz_i (hz_on (hz_asc p k))), some (hz_i (nI k)), v4] [hz_i 0] h1 := fun c => b61 _ _ _ (hq_bt rfl (by
      rw [hz_asc_n c] at ih
      exact ih _))
    by_cases c : hz_dif k F = 0
    · rw [decide_eq_true c]
      refine hq_bf (by decide) ?_
      refine ⟨_, _, x_of (d + 3) k h1 (by omega), ?_⟩
      rw [hT k (by omega)]
      refine hq_nc (fun c2 => no ?_) (fun c2 => b61 _ _ _ (hq_bf (by decide) ?_))
      · rw [pd, decide_eq_false (fun z => c2 ((hz_cmp0 _).mpr z)), Bool.and_false]
      · have pk : p k = true := by rw [pd, decide_eq_true c, decide_eq_true ((hz_cmp0 _).mp c2)]; rfl
        cases e : hz_asc p k with
        | none =>
          rw [hz_asc_y0 pk e] at ih
          exact hq_bt rfl (ih _)
        | some b =>
          have lb := hz_asc_lt e
          rw [hz_asc_y1 pk e] at ih
          have l1 := hz_pc_le k (by omega)
          have l2 := hz_pc_le b (by omega)
          refine hq_bf (hz_n1 (by omega)) ?_
          refine ⟨_, _, x_bitCount (d + 3) k h1 (by omega), _, _, x_bitCount (d + 3) b h1 (by omega), ?_⟩
          refine hq_bc (fun c3 => ?_) (fun c3 => ?_)
          · rw [if_neg (fun z => nI_ge z (by omega) c3)] at ih
            exact ih _
          · rw [if_pos (Nat.lt_of_not_le (fun z => c3 (nI_le z (by omega))))] at ih
            exact ih _
    · rw [decide_eq_false c]
      exact hq_bt rfl (no (by rw [pd, decide_eq_false c]; rfl))
theorem t_smallestClash (d : Nat) (h : hq_H) (w : hz_W) (H : hz_RC h w) : hz_Ans MX6_smallestClash (d + 5) [.inr (3, 0)] h (hz_o (hz_small w.1), w) :=
  hz_free H (hw_tb_st h (hz_stand w.1) (2 ^ w.1.1)) (x_smallest d h w.1 H.1 H.2.1.1)
def hz_ncs (st : hz_St) (S : Nat) : Bool := decide (hz_dif S (hz_force st) = 0) && hz_nc1 st S
def hz_narrows (st : hz_St) : Nat := hz_cnt (hz_ncs st) (2 ^ st.1)
theorem x_narrows (d : Nat) (h : hq_H) (st : hz_St) (H : hz_HC h 0 st) (n10 : st.1 ≤ 10) : hq_Met (d + 5) MX6_narrowClashes [.inr (3, 0)] h (hz_o (nI (hz_narrows st))) (hw_tb h (hz_stand st) (2 ^ st.1)) := by
  have p10 := hz_p10 n10
  have F2 := hz_force_lt st
  refine inX6_narrowClashes (d + 4) 0 h _ _ (fun _ => trivial) (fun J b0 b30 => b0 _ _ _ ?_)
  refine ⟨_, _, x_force (d + 2) h st H n10 H.2.2.1, ?_⟩
  refine ⟨_, x_fill (d + 2) h st H n10, ?_⟩
  have hT : ∀ s, s < 2 ^ st.1 → (hw_tb h (hz_stand st) (2 ^ st.1)).2 12 0 s = hz_stand st s := fun s hs => hw_tb_at hs
  have res : hz_narrows st = hz_cnt (hz_ncs st) (hz_force st + 1) := by
    unfold hz_narrows
    have e := hz_cnt_ext (p := hz_ncs st) (a := hz_force st + 1) (m := 2 ^ st.1 - (hz_force st + 1)) (fun k h1 _ => hz_andL (decide_eq_false (fun z => by have := hz_dif_sub z; omega)))
    rw [← e, show hz_force st + 1 + (2 ^ st.1 - (hz_force st + 1)) = 2 ^ st.1 by omega]
  rw [res] at b30
  clear res
  generalize hw_tb h (hz_stand st) (2 ^ st.1) = h1 at *
  have pd : ∀ k, hz_ncs st k = (decide (hz_dif k (hz_force st) = 0) && hz_nc1 st k) := fun _ => rfl
  have c0 : hz_ncs st 0 = false := hz_andR (hz_andL (decide_eq_false (hz_stand_n0 st)))
  generalize hz_ncs st = p at *
  generalize hz_force st = F at *
  have sn : ∀ k, p k = false → hz_cnt p (k + 1) = hz_cnt p k := fun k z => by
    show hz_cnt p k + (if p k = true then 1 else 0) = _
    rw [z]
    rfl
  have sy : ∀ k, p k = true → hz_cnt p (k + 1) = hz_cnt p k + 1 := fun k z => by
    show hz_cnt p k + (if p k = true then 1 else 0) = _
    rw [if_pos z]
  have key := hq_up (P := fun k => J 30 [some (.inr (3, 0)), some (hz_i (nI F)), some (hz_i (nI (hz_cnt p k))), some (hz_i (nI k))] [] h1) (F + 1) (b30 _ _ _ (hq_bt (hz_lt (a := F) (b := F + 1) rfl rfl (by omega) (by omega)) ⟨rfl, rfl⟩)) (fun k hk ih => b30 _ _ _ ?_) 1 (by omega)
  · rw [sn 0 c0] at key
    exact key
  · refine hq_bf (hz_nlt (a := F) (b := k) rfl rfl (by omega) (by omega)) ?_
    refine ⟨_, _, x_X6_isPartOf (d + 3) k F h1 (by omega), ?_⟩
    rw [nI_succ k] at ih
    by_cases c : hz_dif k F = 0
    · rw [decide_eq_true c]
      refine hq_bf (by decide) ?_
      refine ⟨_, _, x_narrow (d + 2) k h1 st n10 (by omega) hT, ?_⟩
      cases c2 : hz_nc1 st k with
      | false =>
        rw [sn k (by rw [pd, c2, Bool.and_false])] at ih
        exact hq_bt rfl ih
      | true =>
        rw [sy k (by rw [pd, c2, decide_eq_true c]; rfl), nI_succ] at ih
        exact hq_bf (by decide) ih
    · rw [decide_eq_false c]
      rw [sn k (by rw [pd, decide_eq_false c]; rfl)] at ih
      exact hq_bt rfl ih
theorem t_narrowClashes (d : Nat) (h : hq_H) (w : hz_W) (H : hz_RC h w) : hz_Ans MX6_narrowClashes (d + 5) [.inr (3, 0)] h (hz_o (nI (hz_narrows w.1)), w) :=
  hz_free H (hw_tb_st h (hz_stand w.1) (2 ^ w.1.1)) (x_narrows d h w.1 H.1 H.2.1.1)
/-- rules left out from the last one on, while there is still a clash -/
def hz_nar (st : hz_St) : Nat → Nat → Nat
  | 0, K => K
  | r + 1, K => hz_nar st r (if hz_stand st (hz_dif K (2 ^ r)) = 0 then hz_dif K (2 ^ r) else K)
def hz_narrowed (st : hz_St) : Int32 := if hz_stand st (hz_force st) = 0 then nI (hz_nar st 10 (hz_force st)) else -1
theorem x_narrowed (d : Nat) (h : hq_H) (st : hz_St) (H : hz_HC h 0 st) (n10 : st.1 ≤ 10) : hq_Met (d + 4) MX6_narrowedClash [.inr (3, 0)] h (hz_o (hz_narrowed st)) h := by
  have p10 := hz_p10 n10
  have F2 := hz_force_lt st
  refine inX6_narrowedClash (d + 3) 0 h _ _ (fun _ => trivial) (fun J b0 b33 => b0 _ _ _ ?_)
  refine ⟨_, _, x_force (d + 1) h st H n10 H.2.2.1, ?_⟩
  refine ⟨_, _, x_ways (d + 1) h st H n10 rfl (by omega), ?_⟩
  refine hq_bc (fun c => ?_) (fun c => ?_)
  · have c := (hz_cmp0 _).mp c
    have er : hz_narrowed st = nI (hz_nar st 10 (hz_force st)) := if_pos c
    rw [er] at b33
    have key : ∀ r K v, r ≤ 10 → K < 2 ^ st.1 → nI (hz_nar st 10 (hz_force st)) = nI (hz_nar st r K) → J 33 [some (.inr (3, 0)), some (hz_i (nI K)), some (hz_i (nI r + -1)), v] [] h := by
      intro r
      induction r with
      | zero =>
        intro K v _ _ e
        exact b33 _ _ _ (hq_bt (by decide) ⟨hz_ri e, rfl⟩)
      | succ r ih =>
        intro K v hr hK e
        have e0 : nI (r + 1) + -1 = nI r := (Int32.sub_eq_add_neg _ _).symm.trans (nI_pred r)
        have e1 := hz_pw (k := r) (by omega)
        rw [e0]
        refine b33 _ _ _ (hq_bf (nI_pos (by omega)) ?_)
        have e2 : nI K &&& (((1 : Int32) <<< (nI r &&& 31)) ^^^ -1) = nI (hz_dif K (2 ^ r)) := by rw [e1]; exact hz_difN _ _
        have ld : hz_dif K (2 ^ r) < 2 ^ st.1 := hz_dif_lt _ hK
        refine ⟨_, _, x_ways (d + 1) h st H n10 e2 (by omega), ?_⟩
        refine hq_nc (fun c2 => ?_) (fun c2 => ?_)
        · refine ih K _ (by omega) hK (e.trans ?_)
          show nI (hz_nar st r (if hz_stand st (hz_dif K (2 ^ r)) = 0 then hz_dif K (2 ^ r) else K)) = _
          rw [if_neg (fun z => c2 ((hz_cmp0 _).mpr z))]
        · have ih := ih (hz_dif K (2 ^ r)) (some (hz_i (nI (hz_dif K (2 ^ r))))) (by omega) ld (e.trans (by
            show nI (hz_nar st r (if hz_stand st (hz_dif K (2 ^ r)) = 0 then hz_dif K (2 ^ r) else K)) = _
            rw [if_pos ((hz_cmp0 _).mp c2)]))
          rw [← e2] at ih
          exact ih
    exact key 10 _ _ (Nat.le_refl _) F2 rfl
  · exact ⟨hz_ri (if_neg (fun z => c ((hz_cmp0 _).mpr z))), rfl⟩
theorem t_narrowedClash (d : Nat) (h : hq_H) (w : hz_W) (H : hz_RC h w) : hz_Ans MX6_narrowedClash (d + 5) [.inr (3, 0)] h (hz_o (hz_narrowed w.1), w) := hz_same H (x_narrowed (d + 1) h w.1 H.1 H.2.1.1)
