-- ===== costs of ways =====
def hz_ns (p : Nat → Bool) (v : Nat → Nat) : Nat → Nat
  | 0 => 0
  | k + 1 => hz_ns p v k + (if p k = true then v k else 0)
theorem hz_ns_s (p : Nat → Bool) (v : Nat → Nat) (k : Nat) : hz_ns p v (k + 1) = hz_ns p v k + (if p k = true then v k else 0) := rfl
theorem hz_ns_le {p q : Nat → Bool} {v : Nat → Nat} : ∀ {n : Nat}, (∀ i, i < n → p i = true → q i = true) → hz_ns p v n ≤ hz_ns q v n
  | 0, _ => Nat.le_refl _
  | n + 1, h => by
    have ih := hz_ns_le (v := v) (n := n) (fun i hi => h i (by omega))
    rw [hz_ns_s, hz_ns_s]
    cases c : p n with
    | false => rw [if_neg (by decide)]; omega
    | true => rw [h n (by omega) c]; omega
theorem hz_ns_9 {p : Nat → Bool} {v : Nat → Nat} : ∀ {n : Nat}, (∀ i, i < n → v i ≤ 9) → hz_ns p v n ≤ 9 * n
  | 0, _ => Nat.le_refl _
  | n + 1, h => by
    have ih := hz_ns_9 (p := p) (n := n) (fun i hi => h i (by omega))
    have := h n (by omega)
    rw [hz_ns_s]
    split <;> omega
theorem hz_ns_I {p : Nat → Bool} {v : Nat → Nat} {w : Nat → Int32} : ∀ {n : Nat}, (∀ i, i < n → w i = nI (v i)) → hz_sum p w n = nI (hz_ns p v n)
  | 0, _ => rfl
  | n + 1, h => by
    have ih := hz_ns_I (p := p) (n := n) (fun i hi => h i (by omega))
    rw [hz_ns_s]
    cases c : p n with
    | false => rw [hz_sum_n c, ih]; rfl
    | true => rw [hz_sum_y c, ih, h n (by omega), nI_add]; rfl
def hz_pr (st : hz_St) (i : Nat) : Nat := (st.2.1 i 2).toNatClampNeg
theorem hz_pr_is {st : hz_St} (hok : hz_okS st) {i : Nat} (hi : i < st.1) : hz_price st.2.1 i = nI (hz_pr st i) ∧ hz_pr st i ≤ 9 := by
  obtain ⟨-, ⟨p, -, hp9, hp⟩, -⟩ := hok.2.2 i hi
  unfold hz_price hz_pr
  rw [hp, nI_clamp (by omega)]
  exact ⟨rfl, hp9⟩
def hz_cost (st : hz_St) (k : Nat) : Nat := hz_ns (hz_brk st.2.1 st.2.2.2.1 (nI k)) (hz_pr st) st.1
theorem hz_cost_is {st : hz_St} (hok : hz_okS st) (k : Nat) : hz_night st.2.1 st.1 st.2.2.2.1 (nI k) = nI (hz_cost st k) := hz_ns_I (fun i hi => (hz_pr_is hok hi).1)
theorem hz_cost_90 {st : hz_St} (hok : hz_okS st) (p : Nat → Bool) : hz_ns p (hz_pr st) st.1 ≤ 90 := by
  have := hz_ns_9 (p := p) (v := hz_pr st) (n := st.1) (fun i hi => (hz_pr_is hok hi).2)
  have := hok.1
  omega
def hz_chp (st : hz_St) : Nat → Nat
  | 0 => 0
  | k + 1 => if hz_cost st (k + 1) < hz_cost st (hz_chp st k) then k + 1 else hz_chp st k
theorem hz_chp_s (st : hz_St) (k : Nat) : hz_chp st (k + 1) = if hz_cost st (k + 1) < hz_cost st (hz_chp st k) then k + 1 else hz_chp st k := rfl
theorem t_nightNow (d : Nat) (h : hq_H) (w : hz_W) (H : hz_RC h w) : hz_Ans MX6_nightNow (d + 5) [.inr (3, 0)] h (hz_o (hz_night w.1.2.1 w.1.1 w.1.2.2.2.1 w.1.2.2.1), w) := by
  refine hz_same H (inX6_nightNow (d + 4) 0 h _ _ (fun _ => trivial) (fun J b0 => b0 _ _ _ ?_))
  have m := x_night (d + 1) h w.1 H.1 H.2.1.1 (way := h.1 0 0 3) H.1.2.2.1
  rw [show hz_night w.1.2.1 w.1.1 w.1.2.2.2.1 (h.1 0 0 3) = hz_night w.1.2.1 w.1.1 w.1.2.2.2.1 w.1.2.2.1 by rw [H.1.2.1]] at m
  exact ⟨_, _, m, rfl, rfl⟩
def hz_bt (st : hz_St) : Nat → Int32 × Int32
  | 0 => (-1, hz_night st.2.1 st.1 st.2.2.2.1 st.2.2.1)
  | k + 1 => if hz_night st.2.1 st.1 st.2.2.2.1 (st.2.2.1 ^^^ ((1 : Int32) <<< (nI k &&& 31))) < (hz_bt st k).2 ∧ hz_rfs st (nI k) = -1 then (nI k, hz_night st.2.1 st.1 st.2.2.2.1 (st.2.2.1 ^^^ ((1 : Int32) <<< (nI k &&& 31)))) else hz_bt st k
theorem hz_bt_s (st : hz_St) (k : Nat) : hz_bt st (k + 1) = if hz_night st.2.1 st.1 st.2.2.2.1 (st.2.2.1 ^^^ ((1 : Int32) <<< (nI k &&& 31))) < (hz_bt st k).2 ∧ hz_rfs st (nI k) = -1 then (nI k, hz_night st.2.1 st.1 st.2.2.2.1 (st.2.2.1 ^^^ ((1 : Int32) <<< (nI k &&& 31)))) else hz_bt st k := rfl
theorem x_bt (d : Nat) (h : hq_H) (st : hz_St) (H : hz_HC h 0 st) (hok : hz_okS st) : hq_Met (d + 5) MX6_bestTurn [.inr (3, 0)] h (hz_o (hz_bt st 6).1) h := by
  have n10 := hok.1
  refine inX6_bestTurn (d + 4) 0 h _ _ (fun _ => trivial) (fun J b0 b26 => b0 _ _ _ ?_)
  have m := x_night (d + 1) h st H n10 (way := h.1 0 0 3) H.2.2.1
  rw [show hz_night st.2.1 st.1 st.2.2.2.1 (h.1 0 0 3) = (hz_bt st 0).2 by rw [H.2.1]; rfl] at m
  refine ⟨_, _, m, ?_⟩
  refine hq_up (P := fun k => ∀ v4, J 26 [some (.inr (3, 0)), some (hz_i (hz_bt st k).1), some (hz_i (hz_bt st k).2), some (hz_i (nI k)), v4] [] h) 6 (fun v4 => b26 _ _ _ (hq_bt (hz_le (a := 6) (b := 6) rfl rfl (Nat.le_refl _) (by decide)) ⟨rfl, rfl⟩)) (fun k hk ih v4 => b26 _ _ _ ?_) 0 (Nat.zero_le _) _
  refine hq_bf (hz_nle (a := 6) (b := k) rfl rfl (by omega) (by decide)) ?_
  have m := x_night (d + 1) h st H n10 (way := h.1 0 0 3 ^^^ ((1 : Int32) <<< (nI k &&& 31))) H.2.2.1
  rw [show hz_night st.2.1 st.1 st.2.2.2.1 (h.1 0 0 3 ^^^ ((1 : Int32) <<< (nI k &&& 31))) = hz_night st.2.1 st.1 st.2.2.2.1 (st.2.2.1 ^^^ ((1 : Int32) <<< (nI k &&& 31))) by rw [H.2.1]] at m
  refine ⟨_, _, m, ?_⟩
  rw [hz_bt_s, nI_succ k] at ih
  refine hq_bc (fun c => ?_) (fun c => ?_)
  · rw [if_neg (fun z => Int32.not_lt.mpr c z.1)] at ih
    exact ih _
  · refine ⟨_, _, x_ref (d + 2) h st H hok (nI k), ?_⟩
    refine hq_nc (fun c2 => ?_) (fun c2 => ?_)
    · rw [if_neg (fun z => c2 z.2)] at ih
      exact ih _
    · rw [if_pos ⟨Int32.not_le.mp c, c2⟩] at ih
      exact ih _
theorem t_bestTurn (d : Nat) (h : hq_H) (w : hz_W) (H : hz_RC h w) : hz_Ans MX6_bestTurn (d + 5) [.inr (3, 0)] h (hz_o (hz_bt w.1 6).1, w) := hz_same H (x_bt d h w.1 H.1 H.2.1)
theorem hz_xorN (a b : Nat) : nI a ^^^ nI b = nI (a ^^^ b) := by
  apply Int32.toBitVec_inj.mp
  rw [Int32.toBitVec_xor]
  show BitVec.ofNat 32 a ^^^ BitVec.ofNat 32 b = BitVec.ofNat 32 (a ^^^ b)
  apply BitVec.eq_of_getLsbD_eq
  intro i hi
  rw [BitVec.getLsbD_xor, BitVec.getLsbD_ofNat, BitVec.getLsbD_ofNat, BitVec.getLsbD_ofNat, Nat.testBit_xor, decide_eq_true hi]
  rfl
/-- how the rooms are let now, as a number; how far a way is from it -/
def hz_g (st : hz_St) : Nat := st.2.2.1.toNatClampNeg
theorem hz_g_is {st : hz_St} (hok : hz_okS st) : st.2.2.1 = nI (hz_g st) ∧ hz_g st < 64 := by
  obtain ⟨-, ⟨g, hg, e⟩, -⟩ := hok
  unfold hz_g
  rw [e, nI_clamp (by omega)]
  exact ⟨rfl, hg⟩
def hz_tp (st : hz_St) : Nat → Int32
  | 0 => -1
  | k + 1 => if hz_pk st k = true ∧ (hz_tp st k = -1 ∨ nI (hz_pc (k ^^^ hz_g st)) < hz_tp st k) then nI (hz_pc (k ^^^ hz_g st)) else hz_tp st k
theorem hz_tp_s (st : hz_St) (k : Nat) : hz_tp st (k + 1) = if hz_pk st k = true ∧ (hz_tp st k = -1 ∨ nI (hz_pc (k ^^^ hz_g st)) < hz_tp st k) then nI (hz_pc (k ^^^ hz_g st)) else hz_tp st k := rfl
theorem x_tp (d : Nat) (h : hq_H) (st : hz_St) (H : hz_HC h 0 st) (hok : hz_okS st) : hq_Met (d + 4) MX6_turnsToPeace [.inr (3, 0)] h (hz_o (hz_tp st 64)) h := by
  have n10 := hok.1
  obtain ⟨g1, g2⟩ := hz_g_is hok
  refine inX6_turnsToPeace (d + 3) 0 h _ _ (fun _ => trivial) (fun J b0 b13 => b0 _ _ _ ?_)
  refine ⟨_, _, x_peace d h st H n10, ?_⟩
  refine hq_up (P := fun k => ∀ v5, J 13 [some (.inr (3, 0)), some (hz_l (hz_peace st.2.1 st.1 st.2.2.2.1)), none, some (hz_i (hz_tp st k)), some (hz_i (nI k)), v5] [] h) 64 (fun v5 => b13 _ _ _ (hq_bt (hz_le (a := 64) (b := 64) rfl rfl (Nat.le_refl _) (by decide)) ⟨rfl, rfl⟩)) (fun k hk ih v5 => b13 _ _ _ ?_) 0 (Nat.zero_le _) _
  refine hq_bf (hz_nle (a := 64) (b := k) rfl rfl (by omega) (by decide)) ?_
  have x6 : k ^^^ hz_g st < 64 := Nat.xor_lt_two_pow (n := 6) hk g2
  have e1 : nI k ^^^ h.1 0 0 3 = nI (k ^^^ hz_g st) := by rw [H.2.1, g1, hz_xorN]
  have m := x_bitCount (d + 2) (k ^^^ hz_g st) h (by omega)
  rw [← e1] at m
  refine ⟨_, _, m, ?_⟩
  refine ⟨_, _, x_X6_hasWay (d + 2) k _ h hk, ?_⟩
  have eb := hz_bl_peace st hk
  rw [hz_tp_s, nI_succ k] at ih
  cases c : hz_pk st k with
  | false =>
    have eb2 : hz_bl (hz_peace st.2.1 st.1 st.2.2.2.1) k = false := eb.trans c
    rw [if_neg (fun z => by rw [c] at z; exact absurd z.1 (by decide))] at ih
    rw [eb2]
    exact hq_bt rfl (ih _)
  | true =>
    have eb2 : hz_bl (hz_peace st.2.1 st.1 st.2.2.2.1) k = true := eb.trans c
    rw [eb2]
    refine hq_bf (by decide) ?_
    refine hq_bc (fun c2 => ?_) (fun c2 => ?_)
    · rw [if_pos ⟨c, Or.inl c2⟩] at ih
      exact ih _
    · refine hq_bc (fun c3 => ?_) (fun c3 => ?_)
      · rw [if_neg (fun z => by
          rcases z.2 with z | z
          · exact c2 z
          · exact Int32.not_lt.mpr c3 z)] at ih
        exact ih _
      · rw [if_pos ⟨c, Or.inr (Int32.not_le.mp c3)⟩] at ih
        exact ih _
theorem t_turnsToPeace (d : Nat) (h : hq_H) (w : hz_W) (H : hz_RC h w) : hz_Ans MX6_turnsToPeace (d + 5) [.inr (3, 0)] h (hz_o (hz_tp w.1 64), w) := hz_same H (x_tp (d + 1) h w.1 H.1 H.2.1)
