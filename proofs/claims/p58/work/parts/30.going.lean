-- ===== turn by turn =====
def hz_o1 (x : Int64) (w : Nat) : Nat → Int64
  | 0 => x
  | r + 1 => hz_o1 x w r ||| ((1 : Int64) <<< ((nI w ^^^ ((1 : Int32) <<< (nI r &&& 31))).toInt64 &&& 63))
def hz_o2 (x : Int64) : Nat → Int64
  | 0 => x
  | w + 1 => if hz_bl x w = true then hz_o1 (hz_o2 x w) w 6 else hz_o2 x w
theorem x_otf (d : Nat) (x : Int64) (h : hq_H) : hq_Met (d + 2) MX6_oneTurnFurther [hz_l x] h (hz_ol (hz_o2 x 64)) h := by
  refine inX6_oneTurnFurther (d + 1) x h _ _ (fun _ => trivial) (fun J b0 b5 b15 => b0 _ _ _ ?_)
  refine hq_up (P := fun k => ∀ v5, J 5 [some (hz_l x), none, some (hz_l (hz_o2 x k)), none, some (hz_i (nI k)), v5] [] h) 64 (fun v5 => b5 _ _ _ (hq_bt (hz_le (a := 64) (b := 64) rfl rfl (Nat.le_refl _) (by decide)) ⟨rfl, rfl⟩)) (fun k hk ih v5 => b5 _ _ _ ?_) 0 (Nat.zero_le _) _
  refine hq_bf (hz_nle (a := 64) (b := k) rfl rfl hk (by decide)) ?_
  rw [nI_succ k] at ih
  have s : hz_o2 x (k + 1) = if hz_bl x k = true then hz_o1 (hz_o2 x k) k 6 else hz_o2 x k := rfl
  rw [s] at ih
  cases c : hz_bl x k with
  | false =>
    rw [if_neg (by rw [c]; decide)] at ih
    refine b15 _ _ _ (hq_bf (hz_nle (a := 6) (b := 0) rfl rfl (by decide) (by decide)) ?_)
    refine ⟨_, _, x_X6_hasWay d k x h hk, ?_⟩
    rw [c]
    exact hq_bt rfl (ih _)
  | true =>
    rw [if_pos c] at ih
    refine hq_up (P := fun r => J 15 [some (hz_l x), none, some (hz_l (hz_o1 (hz_o2 x k) k r)), none, some (hz_i (nI k)), some (hz_i (nI r))] [] h) 6 (b15 _ _ _ (hq_bt (hz_le (a := 6) (b := 6) rfl rfl (Nat.le_refl _) (by decide)) (ih _))) (fun r hr ih2 => b15 _ _ _ ?_) 0 (Nat.zero_le _)
    refine hq_bf (hz_nle (a := 6) (b := r) rfl rfl hr (by decide)) ?_
    refine ⟨_, _, x_X6_hasWay d k x h hk, ?_⟩
    rw [c]
    refine hq_bf (by decide) ?_
    rw [nI_succ r] at ih2
    exact ih2
theorem hz_pw64 {r : Nat} (hr : r < 6) : 2 ^ r < 64 := show 2 ^ r < 2 ^ 6 from Nat.pow_lt_pow_right (by decide) hr
theorem hz_o1_bl (x : Int64) {w : Nat} (hw : w < 64) {k : Nat} (hk : k < 64) : ∀ m, m ≤ 6 → hz_bl (hz_o1 x w m) k = (hz_bl x k || hz_any (fun r => decide (k = w ^^^ 2 ^ r)) m)
  | 0, _ => (Bool.or_false _).symm
  | m + 1, hm => by
    have ih := hz_o1_bl x hw hk m (by omega)
    have e : nI w ^^^ ((1 : Int32) <<< (nI m &&& 31)) = nI (w ^^^ 2 ^ m) := by rw [hz_pw (by omega), hz_xorN]
    show hz_bl (hz_o1 x w m ||| ((1 : Int64) <<< ((nI w ^^^ ((1 : Int32) <<< (nI m &&& 31))).toInt64 &&& 63))) k = (hz_bl x k || (hz_any (fun r => decide (k = w ^^^ 2 ^ r)) m || decide (k = w ^^^ 2 ^ m)))
    rw [e, hz_bl_or, ih, hz_bl_one _ (Nat.xor_lt_two_pow (n := 6) hw (hz_pw64 (by omega))) k hk, Bool.or_assoc]
theorem hz_o2_bl (x : Int64) {k : Nat} (hk : k < 64) : ∀ m, m ≤ 64 → hz_bl (hz_o2 x m) k = (hz_bl x k || hz_any (fun w => hz_bl x w && hz_any (fun r => decide (k = w ^^^ 2 ^ r)) 6) m)
  | 0, _ => (Bool.or_false _).symm
  | m + 1, hm => by
    have ih := hz_o2_bl x hk m (by omega)
    have s : hz_o2 x (m + 1) = if hz_bl x m = true then hz_o1 (hz_o2 x m) m 6 else hz_o2 x m := rfl
    rw [s]
    show _ = (hz_bl x k || (hz_any (fun w => hz_bl x w && hz_any (fun r => decide (k = w ^^^ 2 ^ r)) 6) m || (hz_bl x m && hz_any (fun r => decide (k = m ^^^ 2 ^ r)) 6)))
    cases c : hz_bl x m with
    | false => rw [if_neg (by decide), ih, Bool.false_and, Bool.or_false]
    | true => rw [if_pos rfl, hz_o1_bl _ (by omega) hk 6 (by decide), ih, Bool.true_and, Bool.or_assoc]
theorem hz_any_iff {p : Nat → Bool} : ∀ {n : Nat}, hz_any p n = true ↔ ∃ k, k < n ∧ p k = true
  | 0 => ⟨fun h => (show False by cases h).elim, fun ⟨k, hk, _⟩ => absurd hk (Nat.not_lt_zero k)⟩
  | n + 1 => by
    show (hz_any p n || p n) = true ↔ _
    rw [Bool.or_eq_true, hz_any_iff]
    constructor
    · intro h
      rcases h with ⟨k, hk, e⟩ | e
      · exact ⟨k, by omega, e⟩
      · exact ⟨n, by omega, e⟩
    · intro ⟨k, hk, e⟩
      by_cases z : k = n
      · exact Or.inr (z ▸ e)
      · exact Or.inl ⟨k, by omega, e⟩
theorem hz_pc_near : ∀ u, u < 64 → ∀ r, r < 6 → hz_pc (u ^^^ 2 ^ r) ≤ hz_pc u + 1 := by decide +kernel
theorem hz_pc_step : ∀ u, u < 64 → hz_pc u = 0 ∨ ∃ r, r < 6 ∧ hz_pc (u ^^^ 2 ^ r) + 1 = hz_pc u := by decide +kernel
theorem hz_pc_z : ∀ u, u < 64 → hz_pc u ≤ 0 → u = 0 := by decide +kernel
theorem hz_ball {g t : Nat} {x : Int64} (hg : g < 64) (h : ∀ k, k < 64 → hz_bl x k = decide (hz_pc (k ^^^ g) ≤ t)) : ∀ k, k < 64 → hz_bl (hz_o2 x 64) k = decide (hz_pc (k ^^^ g) ≤ t + 1) := by
  intro k hk
  have u6 : k ^^^ g < 64 := Nat.xor_lt_two_pow (n := 6) hk hg
  rw [hz_o2_bl x hk 64 (Nat.le_refl _), h k hk]
  apply Bool.eq_iff_iff.mpr
  rw [Bool.or_eq_true, decide_eq_true_iff, decide_eq_true_iff, hz_any_iff]
  constructor
  · intro z
    rcases z with z | ⟨w, hw, e⟩
    · omega
    · rw [Bool.and_eq_true, h w hw, decide_eq_true_iff, hz_any_iff] at e
      obtain ⟨e1, r, hr, e2⟩ := e
      have e2 := of_decide_eq_true e2
      have q := hz_pc_near (w ^^^ g) (Nat.xor_lt_two_pow (n := 6) hw hg) r hr
      have e3 : k ^^^ g = w ^^^ g ^^^ 2 ^ r := by rw [e2, Nat.xor_assoc, Nat.xor_comm (2 ^ r) g, ← Nat.xor_assoc]
      rw [e3]
      omega
  · intro z
    rcases hz_pc_step (k ^^^ g) u6 with e | ⟨r, hr, e⟩
    · exact Or.inl (by omega)
    · refine Or.inr ⟨k ^^^ 2 ^ r, Nat.xor_lt_two_pow (n := 6) hk (hz_pw64 hr), ?_⟩
      have w6 : k ^^^ 2 ^ r < 64 := Nat.xor_lt_two_pow (n := 6) hk (hz_pw64 hr)
      rw [Bool.and_eq_true, h _ w6, decide_eq_true_iff, hz_any_iff]
      refine ⟨?_, r, hr, decide_eq_true ?_⟩
      · have e3 : k ^^^ 2 ^ r ^^^ g = k ^^^ g ^^^ 2 ^ r := by rw [Nat.xor_assoc, Nat.xor_comm (2 ^ r) g, ← Nat.xor_assoc]
        rw [e3]
        omega
      · rw [Nat.xor_assoc, Nat.xor_self, Nat.xor_zero]
/-- a peaceful way is so many turns away -/
def hz_at (st : hz_St) (t : Nat) : Bool := hz_any (fun k => hz_pk st k && decide (hz_pc (k ^^^ hz_g st) = t)) 64
def hz_tg (st : hz_St) : Int32 := hz_lo (hz_at st) 7 0
theorem hz_tg_near (st : hz_St) {t : Nat} {x : Int64} (h : ∀ k, k < 64 → hz_bl x k = decide (hz_pc (k ^^^ hz_g st) ≤ t)) (hn : ∀ s, s < t → hz_at st s = false) : x &&& hz_peace st.2.1 st.1 st.2.2.2.1 = 0 ↔ hz_at st t = false := by
  have pb : ∀ k, k < 64 → hz_bl (hz_peace st.2.1 st.1 st.2.2.2.1) k = hz_pk st k := fun k hk => hz_bl_peace st hk
  rw [hz_bl_z]
  constructor
  · intro z
    refine ts_nt (fun y => ?_)
    obtain ⟨k, hk, e⟩ := hz_any_iff.mp y
    rw [Bool.and_eq_true, decide_eq_true_iff] at e
    have q := z k hk
    rw [hz_bl_and, h k hk, pb k hk, e.1, decide_eq_true (Nat.le_of_eq e.2)] at q
    cases q
  · intro y k hk
    rw [hz_bl_and, h k hk, pb k hk]
    refine ts_nt (fun q => ?_)
    rw [Bool.and_eq_true, decide_eq_true_iff] at q
    have a1 : hz_at st (hz_pc (k ^^^ hz_g st)) = true := hz_any_iff.mpr ⟨k, hk, by rw [q.2, decide_eq_true rfl]; rfl⟩
    by_cases e : hz_pc (k ^^^ hz_g st) = t
    · rw [e, y] at a1
      cases a1
    · rw [hn _ (by omega)] at a1
      cases a1
theorem x_tg (d : Nat) (h : hq_H) (st : hz_St) (H : hz_HC h 0 st) (hok : hz_okS st) : hq_Met (d + 4) MX6_turnsToPeaceByGoing [.inr (3, 0)] h (hz_o (hz_tg st)) h := by
  have n10 := hok.1
  obtain ⟨g1, g2⟩ := hz_g_is hok
  refine inX6_turnsToPeaceByGoing (d + 3) 0 h _ _ (fun _ => trivial) (fun J b0 b21 => b0 _ _ _ ?_)
  refine ⟨_, _, x_peace d h st H n10, ?_⟩
  have key := hq_up (P := fun t => ∀ x, (∀ k, k < 64 → hz_bl x k = decide (hz_pc (k ^^^ hz_g st) ≤ t)) → (∀ s, s < t → hz_at st s = false) → hz_tg st = hz_lo (hz_at st) (7 - t) t → J 21 [some (.inr (3, 0)), some (hz_l (hz_peace st.2.1 st.1 st.2.2.2.1)), none, some (hz_l x), none, some (hz_i (nI t))] [] h) 7
    (fun x _ _ e => b21 _ _ _ (hq_bt (hz_lt (a := 6) (b := 7) rfl rfl (by decide) (by decide)) ⟨hz_ri e, rfl⟩)) (fun t ht ih x hx hn e => b21 _ _ _ ?_) 0 (Nat.zero_le _) ((1 : Int64) <<< ((nI (hz_g st)).toInt64 &&& 63)) (fun k hk => ?_) (fun s hs => absurd hs (Nat.not_lt_zero s)) rfl
  · rw [← g1, ← H.2.1] at key
    exact key
  · refine hq_bf (hz_nlt (a := 6) (b := t) rfl rfl (by omega) (by decide)) ?_
    have near := hz_tg_near st hx hn
    rw [show 7 - t = (7 - (t + 1)) + 1 by omega] at e
    refine hq_bc (fun c => ?_) (fun c => ?_)
    · have c := near.mp ((hz_cmp0 _).mp c)
      rw [hz_lo_n c] at e
      refine ⟨_, _, x_otf (d + 1) x h, ?_⟩
      have ih := ih (hz_o2 x 64) (hz_ball g2 hx) (fun s hs => by
        by_cases z : s = t
        · rw [z]; exact c
        · exact hn s (by omega)) e
      rw [nI_succ t] at ih
      exact ih
    · have c := ts_nf (fun z => c ((hz_cmp0 _).mpr (near.mpr z)))
      rw [hz_lo_y c] at e
      exact ⟨hz_ri e, rfl⟩
  · rw [hz_bl_one _ g2 k hk]
    apply decide_eq_decide.mpr
    constructor
    · intro z
      rw [z, Nat.xor_self]
      exact Nat.le_refl _
    · intro z
      have q := hz_pc_z (k ^^^ hz_g st) (Nat.xor_lt_two_pow (n := 6) hk g2) z
      have : k ^^^ hz_g st ^^^ hz_g st = 0 ^^^ hz_g st := by rw [q]
      rw [Nat.xor_assoc, Nat.xor_self, Nat.xor_zero, Nat.zero_xor] at this
      exact this
theorem t_turnsToPeaceByGoing (d : Nat) (h : hq_H) (w : hz_W) (H : hz_RC h w) : hz_Ans MX6_turnsToPeaceByGoing (d + 5) [.inr (3, 0)] h (hz_o (hz_tg w.1), w) := hz_same H (x_tg (d + 1) h w.1 H.1 H.2.1)
