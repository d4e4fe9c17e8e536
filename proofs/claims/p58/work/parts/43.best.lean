-- ===== of some sets, the one with the fewest members, and of these the least =====
def hb_le (b j : Nat) : Prop := hz_pc b < hz_pc j ∨ (hz_pc b = hz_pc j ∧ b ≤ j)
def hb_best (p : Nat → Bool) (lo hi : Nat) (o : Option Nat) : Prop := match o with
  | none => ∀ j, lo ≤ j → j < hi → p j = false
  | some b => b < hi ∧ p b = true ∧ ∀ j, lo ≤ j → j < hi → p j = true → hb_le b j
theorem hb_uniq {p : Nat → Bool} {N : Nat} : ∀ {o o' : Option Nat}, hb_best p 0 N o → hb_best p 0 N o' → o = o'
  | none, none, _, _ => rfl
  | none, some b, h, h' => by
    have e := h b (Nat.zero_le _) h'.1
    rw [h'.2.1] at e
    cases e
  | some b, none, h, h' => by
    have e := h' b (Nat.zero_le _) h.1
    rw [h.2.1] at e
    cases e
  | some b, some c, h, h' => by
    have e1 := h.2.2 c (Nat.zero_le _) h'.1 h'.2.1
    have e2 := h'.2.2 b (Nat.zero_le _) h.1 h.2.1
    unfold hb_le at e1 e2
    have e : b = c := by omega
    rw [e]
def hb_d (p : Nat → Bool) (k : Nat) (o : Option Nat) : Option Nat := if p k = true then (match o with
    | none => some k
    | some b => if hz_pc k ≤ hz_pc b then some k else some b) else o
theorem hb_dn {p : Nat → Bool} {k N : Nat} (hk : k < N) {o : Option Nat} (h : hb_best p (k + 1) N o) : hb_best p k N (hb_d p k o) := by
  unfold hb_d
  by_cases c : p k = true
  · rw [if_pos c]
    match o, h with
    | none, h =>
      refine ⟨hk, c, fun j h1 h2 h3 => ?_⟩
      by_cases e : j = k
      · rw [e]; exact Or.inr ⟨rfl, Nat.le_refl _⟩
      · rw [h j (by omega) h2] at h3
        cases h3
    | some b, h =>
      show hb_best p k N (if hz_pc k ≤ hz_pc b then some k else some b)
      by_cases c2 : hz_pc k ≤ hz_pc b
      · rw [if_pos c2]
        refine ⟨hk, c, fun j h1 h2 h3 => ?_⟩
        by_cases e : j = k
        · rw [e]; exact Or.inr ⟨rfl, Nat.le_refl _⟩
        · have q := h.2.2 j (by omega) h2 h3
          unfold hb_le at q ⊢
          omega
      · rw [if_neg c2]
        refine ⟨h.1, h.2.1, fun j h1 h2 h3 => ?_⟩
        by_cases e : j = k
        · rw [e]; exact Or.inl (by omega)
        · exact h.2.2 j (by omega) h2 h3
  · rw [if_neg c]
    match o, h with
    | none, h =>
      intro j h1 h2
      by_cases e : j = k
      · rw [e]; exact ts_nt c
      · exact h j (by omega) h2
    | some b, h =>
      refine ⟨h.1, h.2.1, fun j h1 h2 h3 => ?_⟩
      by_cases e : j = k
      · rw [e] at h3; exact absurd h3 c
      · exact h.2.2 j (by omega) h2 h3
theorem hb_asc (p : Nat → Bool) : ∀ n, hb_best p 0 n (hz_asc p n)
  | 0 => fun j _ h => absurd h (Nat.not_lt_zero j)
  | n + 1 => by
    have ih := hb_asc p n
    cases c : p n with
    | false =>
      rw [hz_asc_n c]
      cases e : hz_asc p n with
      | none =>
        rw [e] at ih
        intro j _ h2
        by_cases z : j = n
        · rw [z]; exact c
        · exact ih j (Nat.zero_le _) (by omega)
      | some b =>
        rw [e] at ih
        refine ⟨by have := ih.1; omega, ih.2.1, fun j _ h2 h3 => ?_⟩
        by_cases z : j = n
        · rw [z, c] at h3; cases h3
        · exact ih.2.2 j (Nat.zero_le _) (by omega) h3
    | true =>
      cases e : hz_asc p n with
      | none =>
        rw [hz_asc_y0 c e]
        rw [e] at ih
        refine ⟨Nat.lt_succ_self n, c, fun j _ h2 h3 => ?_⟩
        by_cases z : j = n
        · rw [z]; exact Or.inr ⟨rfl, Nat.le_refl _⟩
        · rw [ih j (Nat.zero_le _) (by omega)] at h3
          cases h3
      | some b =>
        rw [hz_asc_y1 c e]
        rw [e] at ih
        by_cases c2 : hz_pc n < hz_pc b
        · rw [if_pos c2]
          refine ⟨Nat.lt_succ_self n, c, fun j _ h2 h3 => ?_⟩
          by_cases z : j = n
          · rw [z]; exact Or.inr ⟨rfl, Nat.le_refl _⟩
          · have q := ih.2.2 j (Nat.zero_le _) (by omega) h3
            unfold hb_le at q ⊢
            omega
        · rw [if_neg c2]
          refine ⟨by have := ih.1; omega, ih.2.1, fun j _ h2 h3 => ?_⟩
          by_cases z : j = n
          · have := ih.1
            rw [z]
            unfold hb_le
            omega
          · exact ih.2.2 j (Nat.zero_le _) (by omega) h3
theorem hz_asc_cong {p q : Nat → Bool} : ∀ {n : Nat}, (∀ k, k < n → p k = q k) → hz_asc p n = hz_asc q n
  | 0, _ => rfl
  | n + 1, h => by
    have ih := hz_asc_cong (n := n) (fun k hk => h k (by omega))
    have e := h n (by omega)
    unfold hz_asc
    rw [ih, e]
theorem hb_pf : ∀ f a b, a < 2 ^ f → b < 2 ^ f → (∀ i, a.testBit i = true → b.testBit i = true) → hz_pf f a ≤ hz_pf f b ∧ (hz_pf f a = hz_pf f b → a = b) := by
  intro f
  induction f with
  | zero =>
    intro a b ha hb _
    have ha : a < 1 := ha
    have hb : b < 1 := hb
    exact ⟨Nat.le_refl _, fun _ => by omega⟩
  | succ f ih =>
    intro a b ha hb h
    rw [Nat.pow_succ] at ha hb
    have q := ih (a / 2) (b / 2) (by omega) (by omega) (fun i hi => by
      have := h (i + 1) (by rw [Nat.testBit_succ]; exact hi)
      rw [Nat.testBit_succ] at this
      exact this)
    have h0 : a % 2 = 1 → b % 2 = 1 := fun z => by
      have := h 0 (by rw [Nat.testBit_zero]; exact decide_eq_true z)
      rw [Nat.testBit_zero] at this
      exact of_decide_eq_true this
    have e1 : hz_pf (f + 1) a = a % 2 + hz_pf f (a / 2) := rfl
    have e2 : hz_pf (f + 1) b = b % 2 + hz_pf f (b / 2) := rfl
    rw [e1, e2]
    have l1 : a % 2 ≤ b % 2 := by
      have a2 : a % 2 = 0 ∨ a % 2 = 1 := by omega
      rcases a2 with a2 | a2
      · omega
      · rw [a2, h0 a2]
        exact Nat.le_refl _
    obtain ⟨q1, q2⟩ := q
    refine ⟨by omega, fun z => ?_⟩
    have e3 := q2 (by omega)
    have e4 : a % 2 = b % 2 := by omega
    omega
theorem hb_sub {a b : Nat} (ha : a < 1024) (hb : b < 1024) (h : hz_dif a b = 0) (e : hz_pc a = hz_pc b) : a = b := by
  refine (hb_pf 11 a b (by omega) (by omega) (fun i hi => ?_)).2 e
  have q : (hz_dif a b).testBit i = false := by rw [h, Nat.zero_testBit]
  rw [hz_dif_bit, hi] at q
  revert q
  cases b.testBit i <;> decide
theorem hb_scan {p : Nat → Bool} {F : Nat} (hF : F < 1024) (hp : p F = true) (hs : ∀ k, p k = true → hz_dif k F = 0) : ∀ k, k ≤ F + 1 → p (hz_scan p F k) = true ∧ (hz_scan p F k = F ∨ hz_scan p F k < k) ∧ ∀ j, j < k → p j = true → hb_le (hz_scan p F k) j
  | 0, _ => ⟨hp, Or.inl rfl, fun j hj => absurd hj (Nat.not_lt_zero j)⟩
  | k + 1, hk => by
    obtain ⟨i1, i2, i3⟩ := hb_scan hF hp hs k (by omega)
    rw [hz_scan_s]
    by_cases c : p k = true ∧ hz_pc k < hz_pc (hz_scan p F k)
    · rw [if_pos c]
      refine ⟨c.1, Or.inr (Nat.lt_succ_self k), fun j hj pj => ?_⟩
      by_cases z : j = k
      · rw [z]; exact Or.inr ⟨rfl, Nat.le_refl _⟩
      · have q := i3 j (by omega) pj
        unfold hb_le at q ⊢
        omega
    · rw [if_neg c]
      refine ⟨i1, ?_, fun j hj pj => ?_⟩
      · rcases i2 with i2 | i2
        · exact Or.inl i2
        · exact Or.inr (by omega)
      · by_cases z : j = k
        · rw [z] at pj ⊢
          have l : ¬ hz_pc k < hz_pc (hz_scan p F k) := fun y => c ⟨pj, y⟩
          by_cases e : hz_pc k = hz_pc (hz_scan p F k)
          · rcases i2 with i2 | i2
            · rw [i2] at e ⊢
              rw [hb_sub (by omega) hF (hs k pj) e]
              exact Or.inr ⟨rfl, Nat.le_refl _⟩
            · exact Or.inr ⟨e.symm, by omega⟩
          · exact Or.inl (by omega)
        · exact i3 j (by omega) pj
/-- a set without rules that are not in force -/
theorem hb_fr_F (st : hz_St) : hz_fr st (hz_force st) = true := by
  have e : hz_dif (hz_force st) (hz_force st) = 0 := by
    apply Nat.eq_of_testBit_eq
    intro i
    rw [hz_dif_bit, Nat.zero_testBit]
    cases (hz_force st).testBit i <;> rfl
  unfold hz_fr
  rw [e, decide_eq_true rfl, decide_eq_false (hz_stand_n0 st)]
  rfl
theorem hb_fws (st : hz_St) (hn : st.1 ≤ 10) : hb_best (hz_fr st) 0 (2 ^ st.1) (some (hz_fws st)) := by
  have p10 := hz_p10 hn
  have F2 := hz_force_lt st
  have sub : ∀ k, hz_fr st k = true → hz_dif k (hz_force st) = 0 := fun k h => by
    unfold hz_fr at h
    rw [Bool.and_eq_true] at h
    exact of_decide_eq_true h.1
  obtain ⟨i1, i2, i3⟩ := hb_scan (p := hz_fr st) (F := hz_force st) (by omega) (hb_fr_F st) sub (hz_force st + 1) (Nat.le_refl _)
  refine ⟨?_, i1, fun j _ hj pj => i3 j (by have := hz_dif_sub (sub j pj); omega) pj⟩
  have : hz_fws st = hz_force st ∨ hz_fws st < hz_force st + 1 := i2
  omega
-- ===== the least clash, member by member =====
theorem hb_pc_hi : ∀ m, m < 10 → ∀ s, s < 2 ^ m → hz_pc (2 ^ m + s) = hz_pc s + 1 := by decide +kernel
theorem hb_pc_le : ∀ m, m < 11 → ∀ s, s < 2 ^ m → hz_pc s ≤ m := by decide +kernel
theorem hb_pc_z : ∀ s, s < 1024 → hz_pc s = 0 → s = 0 := by decide +kernel
def hb_A (R : hz_R) (m S : Nat) : Int64 := hz_and (fun k => S.testBit k) (hz_held R) m
theorem hb_A_0 (R : hz_R) (m : Nat) : hb_A R m 0 = -1 := by
  apply hz_bl_ext
  intro k hk
  unfold hb_A
  rw [hz_bl_ands _ _ hk, hz_bl_m1 k hk]
  exact hz_all_iff.mpr (fun i _ => by rw [Nat.zero_testBit]; rfl)
theorem hb_A_lo (R : hz_R) {m S : Nat} (h : S < 2 ^ m) : hb_A R (m + 1) S = hb_A R m S := hz_and_n (Nat.testBit_lt_two_pow h)
theorem hb_A_hi (R : hz_R) {m s : Nat} (h : s < 2 ^ m) : hb_A R (m + 1) (2 ^ m + s) = hb_A R m s &&& hz_held R m := by
  unfold hb_A
  rw [hz_and_y (by rw [hz_tb_or h, decide_eq_true rfl, Bool.or_true])]
  congr 1
  exact hz_and_cong (fun k hk => ⟨by rw [hz_tb_or h, decide_eq_false (by omega), Bool.or_false], rfl⟩)
def hb_P (R : hz_R) (F m j : Nat) (o : Int64) (S : Nat) : Prop := S < 2 ^ m ∧ hz_dif S F = 0 ∧ hz_pc S = j ∧ o &&& hb_A R m S = 0
def hb_L (P : Nat → Prop) (r : Option Nat) : Prop := match r with
  | none => ∀ S, ¬ P S
  | some x => P x ∧ ∀ S, P S → x ≤ S
theorem hb_zero (R : hz_R) (F : Nat) {m : Nat} (hm : m ≤ 10) (o : Int64) : hb_L (hb_P R F m 0 o) (if o = 0 then some 0 else none) := by
  have p : 2 ^ m ≤ 1024 := hz_p10 hm
  have d0 : hz_dif 0 F = 0 := by
    apply Nat.eq_of_testBit_eq
    intro i
    rw [hz_dif_bit, Nat.zero_testBit]
    rfl
  by_cases c : o = 0
  · rw [if_pos c]
    refine ⟨⟨Nat.two_pow_pos m, d0, rfl, ?_⟩, fun S _ => Nat.zero_le S⟩
    rw [c]
    exact Int64.zero_and
  · rw [if_neg c]
    intro S ⟨h1, _, h3, h4⟩
    have e := hb_pc_z S (by omega) h3
    rw [e, hb_A_0, hz_andm1] at h4
    exact c h4
theorem hb_dif_or {m s F : Nat} (hs : s < 2 ^ m) : hz_dif (2 ^ m + s) F = 0 ↔ F.testBit m = true ∧ hz_dif s F = 0 := by
  have z : ∀ a b : Nat, hz_dif a b = 0 ↔ ∀ i, (a.testBit i && !b.testBit i) = false := fun a b => by
    constructor
    · intro h i
      rw [← hz_dif_bit, h, Nat.zero_testBit]
    · intro h
      apply Nat.eq_of_testBit_eq
      intro i
      rw [hz_dif_bit, Nat.zero_testBit]
      exact h i
  rw [z, z]
  constructor
  · intro h
    refine ⟨?_, fun i => ?_⟩
    · have q := h m
      rw [hz_tb_or hs, decide_eq_true rfl, Bool.or_true] at q
      revert q
      cases F.testBit m <;> decide
    · have q := h i
      rw [hz_tb_or hs] at q
      revert q
      cases s.testBit i <;> cases decide (m = i) <;> cases F.testBit i <;> decide
  · intro ⟨h1, h2⟩ i
    rw [hz_tb_or hs]
    by_cases e : m = i
    · subst e
      rw [h1]
      exact Bool.and_false _
    · rw [decide_eq_false e, Bool.or_false]
      exact h2 i
theorem hb_lc (R : hz_R) (F : Nat) : ∀ m j (o : Int64), m ≤ 10 → hb_L (hb_P R F m j o) (hz_lc R F m j o) := by
  intro m
  induction m with
  | zero =>
    intro j o _
    show hb_L (hb_P R F 0 j o) (if j = 0 then (if o = 0 then some 0 else none) else none)
    by_cases c : j = 0
    · rw [if_pos c, c]
      exact hb_zero R F (Nat.zero_le _) o
    · rw [if_neg c]
      intro S ⟨h1, _, h3, _⟩
      have h1 : S < 1 := h1
      have e : S = 0 := by omega
      rw [e] at h3
      exact c h3.symm
  | succ m ih =>
    intro j o hm
    have pm : 2 ^ (m + 1) = 2 ^ m + 2 ^ m := by rw [Nat.pow_succ]; omega
    cases j with
    | zero => exact hb_zero R F hm o
    | succ j =>
      have e1 : hz_lc R F (m + 1) (j + 1) o = (if m + 1 < j + 1 then none else (match hz_lc R F m (j + 1) o with
        | some x => some x
        | none => if F.testBit m = true then (match hz_lc R F m j (o &&& hz_held R m) with
          | some y => some (y ||| 2 ^ m)
          | none => none) else none)) := rfl
      rw [e1]
      by_cases c : m + 1 < j + 1
      · rw [if_pos c]
        intro S ⟨h1, _, h3, _⟩
        have := hb_pc_le (m + 1) (by omega) S h1
        omega
      · rw [if_neg c]
        have i1 := ih (j + 1) o (by omega)
        cases r1 : hz_lc R F m (j + 1) o with
        | some x =>
          rw [r1] at i1
          obtain ⟨⟨a1, a2, a3, a4⟩, a5⟩ := i1
          refine ⟨⟨by omega, a2, a3, by rw [hb_A_lo R a1]; exact a4⟩, fun S hS => ?_⟩
          obtain ⟨b1, b2, b3, b4⟩ := hS
          by_cases l : S < 2 ^ m
          · rw [hb_A_lo R l] at b4
            exact a5 S ⟨l, b2, b3, b4⟩
          · omega
        | none =>
          rw [r1] at i1
          have hi : ∀ S, hb_P R F (m + 1) (j + 1) o S → ∃ s, S = 2 ^ m + s ∧ F.testBit m = true ∧ hb_P R F m j (o &&& hz_held R m) s := by
            intro S ⟨b1, b2, b3, b4⟩
            by_cases l : S < 2 ^ m
            · rw [hb_A_lo R l] at b4
              exact absurd ⟨l, b2, b3, b4⟩ (i1 S)
            · obtain ⟨s, hs⟩ : ∃ s, S = 2 ^ m + s := ⟨S - 2 ^ m, by omega⟩
              have ls : s < 2 ^ m := by omega
              rw [hs] at b2 b3 b4
              obtain ⟨f1, f2⟩ := (hb_dif_or ls).mp b2
              rw [hb_pc_hi m (by omega) s ls] at b3
              rw [hb_A_hi R ls] at b4
              refine ⟨s, hs, f1, ls, f2, by omega, ?_⟩
              rw [Int64.and_assoc, Int64.and_comm (hz_held R m)]
              exact b4
          show hb_L _ (if F.testBit m = true then (match hz_lc R F m j (o &&& hz_held R m) with
            | some y => some (y ||| 2 ^ m)
            | none => none) else none)
          by_cases t : F.testBit m = true
          · rw [if_pos t]
            have i2 := ih j (o &&& hz_held R m) (by omega)
            cases r2 : hz_lc R F m j (o &&& hz_held R m) with
            | none =>
              rw [r2] at i2
              intro S hS
              obtain ⟨s, _, _, q⟩ := hi S hS
              exact i2 s q
            | some y =>
              rw [r2] at i2
              obtain ⟨⟨a1, a2, a3, a4⟩, a5⟩ := i2
              have ey : y ||| 2 ^ m = 2 ^ m + y := by
                have := Nat.two_pow_add_eq_or_of_lt a1 1
                rw [Nat.mul_one] at this
                rw [Nat.or_comm]
                exact this.symm
              show hb_L _ (some (y ||| 2 ^ m))
              rw [ey]
              refine ⟨⟨by omega, (hb_dif_or a1).mpr ⟨t, a2⟩, by rw [hb_pc_hi m (by omega) y a1, a3], ?_⟩, fun S hS => ?_⟩
              · rw [hb_A_hi R a1]
                rw [Int64.and_assoc, Int64.and_comm (hz_held R m)] at a4
                exact a4
              · obtain ⟨s, es, _, q⟩ := hi S hS
                have := a5 s q
                omega
          · rw [if_neg t]
            intro S hS
            obtain ⟨s, _, f, _⟩ := hi S hS
            exact t f
theorem hb_fj {f : Nat → Option Nat} {p : Nat → Bool} {N : Nat} (hf : ∀ j, hb_L (fun S => S < N ∧ p S = true ∧ hz_pc S = j) (f j)) : ∀ m j, (∀ S, S < N → p S = true → j ≤ hz_pc S ∧ hz_pc S < j + m) → hz_fj f m j = hz_on (hz_asc p N) := by
  intro m
  induction m with
  | zero =>
    intro j h
    have e : hz_asc p N = none := hb_uniq (hb_asc p N) (show hb_best p 0 N none from fun S _ hS => ts_nt (fun z => by
      have := h S hS z
      omega))
    rw [e]
    rfl
  | succ m ih =>
    intro j h
    have q := hf j
    show (match f j with
      | some x => nI x
      | none => hz_fj f m (j + 1)) = _
    cases r : f j with
    | some x =>
      rw [r] at q
      obtain ⟨⟨a1, a2, a3⟩, a4⟩ := q
      have e : hz_asc p N = some x := hb_uniq (hb_asc p N) (show hb_best p 0 N (some x) from ⟨a1, a2, fun S _ hS pS => by
        have := h S hS pS
        unfold hb_le
        by_cases z : hz_pc S = j
        · have := a4 S ⟨hS, pS, z⟩
          omega
        · omega⟩)
      rw [e]
      rfl
    | none =>
      rw [r] at q
      refine ih (j + 1) (fun S hS pS => ?_)
      have := h S hS pS
      have : hz_pc S ≠ j := fun z => q S ⟨hS, pS, z⟩
      omega
theorem hb_A_stand (st : hz_St) (hn : st.1 ≤ 10) {S : Nat} (hS : S < 2 ^ st.1) : hb_A st.2.1 10 S = hz_stand st S := by
  have key : ∀ m, hb_A st.2.1 (st.1 + m) S = hz_stand st S := by
    intro m
    induction m with
    | zero => rfl
    | succ m ih => exact (hb_A_lo st.2.1 (m := st.1 + m) (Nat.lt_of_lt_of_le hS (Nat.pow_le_pow_right (by decide) (Nat.le_add_right _ _)))).trans ih
  have := key (10 - st.1)
  rw [show st.1 + (10 - st.1) = 10 by omega] at this
  exact this
theorem hb_scw (st : hz_St) (hn : st.1 ≤ 10) : hz_scw st = hz_small st := by
  have p10 := hz_p10 hn
  have F2 := hz_force_lt st
  have pp : ∀ S j, hb_P st.2.1 (hz_force st) 10 j (-1) S ↔ S < 2 ^ st.1 ∧ hz_cl st S = true ∧ hz_pc S = j := by
    intro S j
    unfold hz_cl
    rw [Bool.and_eq_true, decide_eq_true_iff, decide_eq_true_iff]
    constructor
    · intro ⟨h1, h2, h3, h4⟩
      have l : S < 2 ^ st.1 := Nat.lt_of_le_of_lt (hz_dif_sub h2) F2
      rw [hb_A_stand st hn l, Int64.and_comm, hz_andm1] at h4
      exact ⟨l, ⟨h2, h4⟩, h3⟩
    · intro ⟨h1, ⟨h2, h4⟩, h3⟩
      refine ⟨by omega, h2, h3, ?_⟩
      rw [hb_A_stand st hn h1, Int64.and_comm, hz_andm1]
      exact h4
  refine hb_fj (p := hz_cl st) (N := 2 ^ st.1) (fun j => ?_) 10 1 (fun S hS cS => ?_)
  · have q := hb_lc st.2.1 (hz_force st) 10 j (-1) (Nat.le_refl _)
    have e : hb_P st.2.1 (hz_force st) 10 j (-1) = fun S => S < 2 ^ st.1 ∧ hz_cl st S = true ∧ hz_pc S = j := by
      funext S
      exact propext (pp S j)
    rw [e] at q
    exact q
  · have l := hz_pc_le S (by omega)
    refine ⟨?_, by omega⟩
    by_cases z : hz_pc S = 0
    · rw [hb_pc_z S (by omega) z, hz_cl_0] at cS
      cases cS
    · omega
-- ===== the same by meeting what is broken =====
def hb_mt (st : hz_St) (S : Nat) : Bool := decide (hz_dif S (hz_force st) = 0) && hz_all (fun k => !decide (S &&& hz_broke st (nI k) = 0)) 64
theorem hb_mt_cl (st : hz_St) {S : Nat} : hb_mt st S = hz_cl st S := by
  unfold hb_mt hz_cl
  by_cases c : hz_dif S (hz_force st) = 0
  · rw [decide_eq_true c, Bool.true_and, Bool.true_and]
    have F2 := hz_force_lt st
    have lS : S < 2 ^ st.1 := Nat.lt_of_le_of_lt (hz_dif_sub c) F2
    have inF : ∀ i, S.testBit i = true → i < st.1 ∧ hz_inF st.2.1 st.2.2.2.1 i = true := fun i hi => by
      have il : i < st.1 := by
        by_cases z : i < st.1
        · exact z
        · rw [Nat.testBit_lt_two_pow (Nat.lt_of_lt_of_le lS (Nat.pow_le_pow_right (by decide) (by omega)))] at hi
          cases hi
      refine ⟨il, ?_⟩
      have q : (hz_dif S (hz_force st)).testBit i = false := by rw [c, Nat.zero_testBit]
      rw [hz_dif_bit, hi, hz_force_bit st il] at q
      revert q
      cases hz_inF st.2.1 st.2.2.2.1 i <;> decide
    apply Bool.eq_iff_iff.mpr
    rw [hz_all_iff, decide_eq_true_iff, hz_bl_z]
    refine forall_congr' (fun k => forall_congr' (fun hk => ?_))
    rw [hz_good_bl st S hk]
    have b1 : ∀ j, (hz_broke st (nI k)).testBit j = (decide (j < st.1) && hz_brk st.2.1 st.2.2.2.1 (nI k) j) := fun j => hz_mk_bit _ _ _
    constructor
    · intro h
      refine ts_nt (fun g => ?_)
      have g := hz_all_iff.mp g
      have z : S &&& hz_broke st (nI k) = 0 := by
        apply Nat.eq_of_testBit_eq
        intro i
        rw [Nat.testBit_and, Nat.zero_testBit, b1]
        cases t : S.testBit i with
        | false => rfl
        | true =>
          have q := g i (inF i t).1
          rw [t] at q
          have q : hz_hold (st.2.1 i 0) (st.2.1 i 1) (nI k) = true := q
          unfold hz_brk
          rw [q]
          simp
      rw [decide_eq_true z] at h
      cases h
    · intro g
      have z : ¬ S &&& hz_broke st (nI k) = 0 := by
        intro z
        have gt : hz_good st S k = true := hz_all_iff.mpr (fun i hi => by
          cases t : S.testBit i with
          | false => rfl
          | true =>
            have q : (S &&& hz_broke st (nI k)).testBit i = false := by rw [z, Nat.zero_testBit]
            rw [Nat.testBit_and, t, b1, decide_eq_true hi, Bool.true_and, Bool.true_and] at q
            unfold hz_brk at q
            have f := (inF i t).2
            unfold hz_inF at f
            rw [f, Bool.true_and] at q
            revert q
            cases hz_hold (st.2.1 i 0) (st.2.1 i 1) (nI k) <;> decide)
        rw [gt] at g
        cases g
      rw [decide_eq_false z]
      rfl
  · rw [decide_eq_false c, Bool.false_and, Bool.false_and]
