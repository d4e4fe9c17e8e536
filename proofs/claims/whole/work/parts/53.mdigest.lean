-- ===== the reference's digest =====
theorem hd_31 {K : hq_C} {ls : hq_L} {r : List hq_V} {h : hq_H} {q : Int64} (e : hq_nth ls 1 = some (.inl (.long q))) (k : K ls (.inl (.long (31 * q)) :: r) h) : hk_ldc2l 31 (hk_lload 1 (hk_lmul K)) ls r h := by
  unfold hk_ldc2l hk_lload
  rw [e]
  exact k
theorem hd_ic {v : Int32} {K : hq_C} {ls : hq_L} {r : List hq_V} {h : hq_H} (k : K ls (.inl (.int v) :: r) h) : hk_iconst v K ls r h := k
theorem hd_gt {K : hq_C} {ls : hq_L} {r : List hq_V} {h : hq_H} (k : K ls r h) : hk_goto K ls r h := k
theorem hd_c {v : Int64} {K : hq_C} {ls : hq_L} {r : List hq_V} {h : hq_H} (k : K ls (.inl (.long v) :: r) h) : hk_ldc2l v K ls r h := k
theorem hd_il {i : Nat} {x : Int32} {K : hq_C} {ls : hq_L} {r : List hq_V} {h : hq_H} (e : hq_nth ls i = some (.inl (.int x))) (k : K ls (.inl (.int x) :: r) h) : hk_iload i K ls r h := by
  unfold hk_iload
  rw [e]
  exact k
theorem hd_gf1 {K : hq_C} {ls : hq_L} {r : List hq_V} {h : hq_H} (e : hq_nth ls 0 = some (.inr (13, 0))) (k : K ls (.inl (.int (h.1 13 0 1)) :: r) h) : hk_aload 0 (hk_getf 13 1 K) ls r h := by
  unfold hk_aload
  rw [e]
  exact k
theorem hd_gf5 {K : hq_C} {ls : hq_L} {r : List hq_V} {h : hq_H} (e : hq_nth ls 0 = some (.inr (13, 0))) (k : K ls (.inl (.int (h.1 13 0 5)) :: r) h) : hk_aload 0 (hk_getf 13 5 K) ls r h := by
  unfold hk_aload
  rw [e]
  exact k
theorem hd_is {i : Nat} {K : hq_C} {ls ls' : hq_L} {x y : Int32} {q v : Int64} {r : List hq_V} {h : hq_H} (e : x = y) (hv : v = hd_m q y) (hl : hq_st2 ls i (.inl (.long v)) = ls') (k : K ls' r h) : hk_i2l (hk_ladd (hk_lstore i K)) ls (.inl (.int x) :: .inl (.long (31 * q)) :: r) h := by
  subst e
  subst hv
  subst hl
  exact k
theorem hd_lls {i : Nat} {K : hq_C} {ls ls' : hq_L} {x y : Int64} {q v : Int64} {r : List hq_V} {h : hq_H} (e : x = y) (hv : v = hd_l q y) (hl : hq_st2 ls i (.inl (.long v)) = ls') (k : K ls' r h) : hk_ladd (hk_lstore i K) ls (.inl (.long x) :: .inl (.long (31 * q)) :: r) h := by
  subst e
  subst hv
  subst hl
  exact k
theorem hd_ist {i : Nat} {K : hq_C} {ls ls' : hq_L} {x : Int32} {r : List hq_V} {h : hq_H} (hl : hq_st1 ls i (.inl (.int x)) = ls') (k : K ls' r h) : hk_istore i K ls (.inl (.int x) :: r) h := by
  subst hl
  exact k
theorem hm_cmp0 (f C : Int64) : 0 ≤ lg_cmp f C ↔ ¬ f < C := by
  unfold lg_cmp
  by_cases h1 : f > C
  · rw [if_pos h1]
    exact ⟨fun _ z => Int64.lt_irrefl (Int64.lt_trans z h1), fun _ => by decide⟩
  · rw [if_neg h1]
    by_cases h2 : f = C
    · rw [if_pos h2]
      exact ⟨fun _ z => Int64.lt_irrefl (h2 ▸ z), fun _ => by decide⟩
    · rw [if_neg h2]
      refine ⟨fun z => absurd z (by decide), fun z => absurd ?_ z⟩
      rcases Int64.lt_or_lt_of_ne h2 with y | y
      · exact y
      · exact absurd y h1
theorem hm_sf_end : ∀ n, n < 64 → ¬ (hz_sf 60 (lN (n + 1)) 6).1 < 4503599627370496 := by decide +kernel
theorem m_sb (d n : Nat) (h : hq_H) (hn : n ≤ 64) : hq_Met (d + 1) MX7_shareBits [hz_i (nI n)] h (hz_ol (hz_sB n)) h := by
  refine inX7_shareBits d (nI n) h _ _ (fun _ => trivial) (fun J b0 b12 => b0 _ _ _ ?_)
  cases n with
  | zero => exact hq_nf rfl ⟨rfl, rfl⟩
  | succ n =>
    refine hq_nt (nI_ne0 (by omega) (by omega)) ?_
    have en := hm_sf_end n (by omega)
    have el : (nI (n + 1)).toInt64 = lN (n + 1) := nI_l (by omega)
    have es : hz_sB (n + 1) = (1075 - (hz_sf 60 (lN (n + 1)) 6).2).toInt64 * 4503599627370496 + ((hz_sf 60 (lN (n + 1)) 6).1 - 4503599627370496) := if_neg (by omega)
    rw [es] at b12
    have key : ∀ m f s, hz_sf m f s = hz_sf 60 (lN (n + 1)) 6 → J 12 [some (hz_i (nI (n + 1))), some (hz_l f), none, some (hz_i s)] [] h := by
      intro m
      induction m with
      | zero =>
        intro f s e
        have e : (f, s) = hz_sf 60 (lN (n + 1)) 6 := e
        rw [← e] at en b12
        exact b12 _ _ _ (hq_bt ((hm_cmp0 f _).mpr en) ⟨rfl, rfl⟩)
      | succ m ih =>
        intro f s e
        have e : (if f < 4503599627370496 then hz_sf m (2 * f) (s + 1) else (f, s)) = hz_sf 60 (lN (n + 1)) 6 := e
        by_cases c : f < 4503599627370496
        · rw [if_pos c] at e
          exact b12 _ _ _ (hq_bf (fun z => (hm_cmp0 f _).mp z c) (ih _ _ e))
        · rw [if_neg c] at e
          rw [← e] at b12
          exact b12 _ _ _ (hq_bt ((hm_cmp0 f _).mpr c) ⟨rfl, rfl⟩)
    have k := key 60 (lN (n + 1)) 6 rfl
    rw [← el] at k
    exact k
def hm_mend (ans : Int32) (f : Int64) (s : Int32) : Bool := if lg_cmp f 16777216 = 0 then decide (ans = ((150 - (s + (-1)).toInt64) * 8388608 + (8388608 - 8388608)).toInt32) else decide (ans = ((150 - s.toInt64) * 8388608 + (f - 8388608)).toInt32)
def hm_mfin (ans : Int32) (n f r : Int64) (s : Int32) : Bool := if 0 < lg_cmp r n then hm_mend ans (f + 1) s else if lg_cmp r n = 0 then (if lg_cmp (f - f / 2 * 2) 1 = 0 then hm_mend ans (f + 1) s else hm_mend ans (f + 0) s) else hm_mend ans (f + 0) s
def hm_mk (ans : Int32) (n : Int64) : Nat → Int64 → Int32 → Bool
  | 0, _, _ => false
  | m + 1, t, s => if 0 ≤ lg_cmp (t / n) 8388608 then hm_mfin ans n (t / n) ((t - t / n * n) * 2) s else hm_mk ans n m (2 * t) (s + 1)
theorem hm_mk_is : ∀ n, n < 10 → ∀ j, j < 9 * n + 9 - n → hm_mk (hz_mB (n + 1 + j) (n + 1)) (nI (n + 1)).toInt64 40 (nI (n + 1 + j)).toInt64 0 = true := by decide +kernel
theorem hm_n0 : ∀ n, n < 10 → ¬ (nI (n + 1)).toInt64 = 0 := by decide +kernel
theorem m_mb (d s n : Nat) (h : hq_H) (h0 : 1 ≤ n) (h1 : n ≤ 10) (h2 : n ≤ s) (h3 : s ≤ 9 * n) : hq_Met (d + 1) MX7_meanBits [hz_i (nI s), hz_i (nI n)] h (hz_o (hz_mB s n)) h := by
  refine inX7_meanBits d (nI s) (nI n) h _ _ (fun _ => trivial) (fun J b0 b12 b85 b105 => b0 _ _ _ ?_)
  refine hq_nt (nI_ne0 (by omega) (by omega)) ?_
  have q := hm_mk_is (n - 1) (by omega) (s - n) (by omega)
  have nz := hm_n0 (n - 1) (by omega)
  rw [show n - 1 + 1 = n by omega] at nz
  rw [show n - 1 + 1 = n by omega, show n + (s - n) = s by omega] at q
  generalize hz_mB s n = ans at *
  have z2 : ¬ (2 : Int64) = 0 := by decide
  have fin : ∀ f b t sh v7, hm_mend ans (f + b) sh = true → J 85 [some (hz_i (nI s)), some (hz_i (nI n)), some (hz_l t), none, some (hz_i sh), some (hz_l f), none, v7, none] [hz_l b, hz_l f] h := by
    intro f b t sh v7 z
    unfold hm_mend at z
    refine b85 _ _ _ (hq_nc (fun c => ?_) (fun c => ?_))
    · rw [if_neg (show ¬ lg_cmp (f + b) 16777216 = 0 from c)] at z
      exact b105 _ _ _ ⟨hz_ri (of_decide_eq_true z), rfl⟩
    · rw [if_pos (show lg_cmp (f + b) 16777216 = 0 from c)] at z
      exact b105 _ _ _ ⟨hz_ri (of_decide_eq_true z), rfl⟩
  have loop : ∀ m t sh v5 v7, hm_mk ans (nI n).toInt64 m t sh = true → J 12 [some (hz_i (nI s)), some (hz_i (nI n)), some (hz_l t), none, some (hz_i sh), v5, none, v7, none] [] h := by
    intro m
    induction m with
    | zero => intro t sh v5 v7 z; cases z
    | succ m ih =>
      intro t sh v5 v7 z
      have z : (if 0 ≤ lg_cmp (t / (nI n).toInt64) 8388608 then hm_mfin ans (nI n).toInt64 (t / (nI n).toInt64) ((t - t / (nI n).toInt64 * (nI n).toInt64) * 2) sh else hm_mk ans (nI n).toInt64 m (2 * t) (sh + 1)) = true := z
      refine b12 _ _ _ ⟨nz, hq_bc (fun c => ?_) (fun c => ?_)⟩
      · rw [if_pos (show 0 ≤ lg_cmp (t / (nI n).toInt64) 8388608 from c)] at z
        unfold hm_mfin at z
        refine ⟨nz, nz, hq_bc (fun c2 => ?_) (fun c2 => ?_)⟩
        · rw [if_pos (show 0 < lg_cmp ((t - t / (nI n).toInt64 * (nI n).toInt64) * 2) (nI n).toInt64 from c2)] at z
          exact fin _ _ _ _ _ z
        · rw [if_neg (show ¬ 0 < lg_cmp ((t - t / (nI n).toInt64 * (nI n).toInt64) * 2) (nI n).toInt64 from c2)] at z
          refine hq_nc (fun c3 => ?_) (fun c3 => ?_)
          · rw [if_neg (show ¬ lg_cmp ((t - t / (nI n).toInt64 * (nI n).toInt64) * 2) (nI n).toInt64 = 0 from c3)] at z
            exact fin _ _ _ _ _ z
          · rw [if_pos (show lg_cmp ((t - t / (nI n).toInt64 * (nI n).toInt64) * 2) (nI n).toInt64 = 0 from c3)] at z
            refine ⟨z2, hq_nc (fun c4 => ?_) (fun c4 => ?_)⟩
            · rw [if_neg (show ¬ lg_cmp (t / (nI n).toInt64 - t / (nI n).toInt64 / 2 * 2) 1 = 0 from c4)] at z
              exact fin _ _ _ _ _ z
            · rw [if_pos (show lg_cmp (t / (nI n).toInt64 - t / (nI n).toInt64 / 2 * 2) 1 = 0 from c4)] at z
              exact fin _ _ _ _ _ z
      · rw [if_neg (show ¬ 0 ≤ lg_cmp (t / (nI n).toInt64) 8388608 from c)] at z
        exact ih _ _ _ _ z
  exact loop 40 _ 0 none none q
theorem m_mbS (d : Nat) (h : hq_H) (st : hz_St) (hok : hz_okS st) {x : Int32} (hx : x = nI st.1) : hq_Met (d + 1) MX7_meanBits [hz_i (nI (hz_prs st)), hz_i x] h (hz_o (hd_mb st)) h := by
  subst hx
  obtain ⟨l1, l2⟩ := hd_prs_lo hok
  unfold hd_mb
  by_cases c : st.1 = 0
  · rw [if_pos c]
    have p0 : hz_prs st = 0 := by omega
    rw [p0]
    refine inX7_meanBits d (nI 0) (nI st.1) h _ _ (fun _ => trivial) (fun J b0 b12 b85 b105 => b0 _ _ _ ?_)
    exact hq_nf rfl ⟨rfl, rfl⟩
  · rw [if_neg c]
    exact m_mb d (hz_prs st) st.1 h (by omega) hok.1 l1 l2
theorem hw_mj_mj (h : hq_H) (L : hz_J) : hw_mj (hw_mj h L) L = hw_mj h L := by
  refine hq_ext (fun k i s => ?_) (fun _ _ _ => rfl)
  rw [hw_mj_at, hw_mj_at]
  by_cases c1 : k = 13 ∧ i = 0 ∧ s = 15
  · rw [if_pos c1, if_pos c1]
  · rw [if_neg c1, if_neg c1]
    by_cases c2 : k = 19 ∧ i = 0 ∧ s < L.1
    · rw [if_pos c2, if_pos c2]
    · rw [if_neg c2, if_neg c2]
      by_cases c3 : k = 18 ∧ i = 0 ∧ s < 4096
      · rw [if_pos c3, if_pos c3]
      · rw [if_neg c3, if_neg c3]
theorem hd_ib (b : Bool) (q : Int64) : hd_b q b = hd_m q (hz_b b) := (hd_bm q b).symm

theorem r_digest (d : Nat) (h : hq_H) (w : hz_W) (R : hm_RM h w) (ok : hz_okW w) : hm_Ans MX7_digest (d + 15) [.inr (13, 0)] h hz_IAE (hz_ol (hd_all w), w) := by
  have n10 := ok.1.1
  have f31 := hz_force31 w.1 n10
  have l64 : hz_many w.1 ≤ 64 := hz_cnt_le _ 64
  obtain ⟨L0, J0⟩ := R.2.2.2.2
  have okJ := hz_joined_ok ok.1 (hz_force w.1)
  have R1 := hm_RM_lk R
  have R2 := hm_RM_mj R1 okJ
  have BF := R.2.2.2.1
  have l60 := ok.2.2.2.1
  refine ⟨hq_si (hw_mj (hm_lk h w.1) (hz_joined w.1 (hz_force w.1))) 13 0 3 0, .long (hd_all w), ?_, hm_RM_th 0 R2 ok, (hw_Mo_lk _ _).trans ((hw_Mo_mj _ _).trans (hw_Mo_13 _ _ _)), hm_th1 _ _, rfl⟩
  refine inX7_digest (d + 14) 0 h _ _ (fun _ => trivial) (fun J b0 b20 b150 b243 b328 b349 b370 b661 b679 => b0 _ _ _ ?_)
  have Qof : ∀ g, (g = h ∨ g = hm_lk h w.1) → hm_Q g w.1 ∧ hm_lk g w.1 = hm_lk h w.1 := fun g hg => by
    rcases hg with rfl | rfl
    · exact ⟨R.1, rfl⟩
    · exact ⟨R1.1, hm_lk_lk h w.1⟩
  obtain ⟨qA, eA⟩ : ∃ z, z = hd_rules w.1 4211 w.1.1 := ⟨_, rfl⟩
  obtain ⟨q0, e0⟩ : ∃ z, z = hd_m qA w.1.2.2.1 := ⟨_, rfl⟩
  obtain ⟨q1, e1⟩ : ∃ z, z = hd_m q0 w.1.2.2.2.1 := ⟨_, rfl⟩
  obtain ⟨q2, e2⟩ : ∃ z, z = hd_m q1 (nI (hz_force w.1)) := ⟨_, rfl⟩
  obtain ⟨q3, e3⟩ : ∃ z, z = hd_m q2 (nI (hz_broke w.1 w.1.2.2.1)) := ⟨_, rfl⟩
  obtain ⟨q4, e4⟩ : ∃ z, z = hd_m (hd_rooms w.1 q3 6) w.1.2.2.2.2.1 := ⟨_, rfl⟩
  obtain ⟨q5, e5⟩ : ∃ z, z = hd_m q4 (hz_acc w.1.2.1 w.1.2.2.2.2.2 w.1.1) := ⟨_, rfl⟩
  obtain ⟨q6, e6⟩ : ∃ z, z = hd_b q5 (hz_nz (hz_stand w.1 (hz_force w.1))) := ⟨_, rfl⟩
  obtain ⟨q7, e7⟩ : ∃ z, z = hd_b q6 (hz_nz (hz_stand w.1 (hz_force w.1))) := ⟨_, rfl⟩
  obtain ⟨q8, e8⟩ : ∃ z, z = hd_b q7 (!hj_in (hz_joined w.1 (hz_force w.1)) 0) := ⟨_, rfl⟩
  obtain ⟨q9, e9⟩ : ∃ z, z = hd_m q8 (nI (hz_joined w.1 (hz_force w.1)).1) := ⟨_, rfl⟩
  obtain ⟨q10, e10⟩ : ∃ z, z = hd_m q9 (nI (hz_many w.1)) := ⟨_, rfl⟩
  obtain ⟨q11, e11⟩ : ∃ z, z = hd_m q10 (nI (hz_many w.1)) := ⟨_, rfl⟩
  obtain ⟨q12, e12⟩ : ∃ z, z = hd_m q11 (hz_first w.1) := ⟨_, rfl⟩
  obtain ⟨q13, e13⟩ : ∃ z, z = hd_m q12 (hz_small w.1) := ⟨_, rfl⟩
  obtain ⟨q14, e14⟩ : ∃ z, z = hd_m q13 (hz_scw w.1) := ⟨_, rfl⟩
  obtain ⟨q15, e15⟩ : ∃ z, z = hd_m q14 (hz_narrowed w.1) := ⟨_, rfl⟩
  obtain ⟨q16, e16⟩ : ∃ z, z = hd_m q15 (nI (hz_narrows w.1)) := ⟨_, rfl⟩
  obtain ⟨q17, e17⟩ : ∃ z, z = hd_m q16 (nI (hz_few w.1 63)) := ⟨_, rfl⟩
  obtain ⟨q18, e18⟩ : ∃ z, z = hd_m q17 (nI (hz_fws w.1)) := ⟨_, rfl⟩
  obtain ⟨q19, e19⟩ : ∃ z, z = hd_m q18 (hz_tp w.1 64) := ⟨_, rfl⟩
  obtain ⟨q20, e20⟩ : ∃ z, z = hd_m q19 (hz_tg w.1) := ⟨_, rfl⟩
  obtain ⟨q21, e21⟩ : ∃ z, z = hd_m q20 (hz_night w.1.2.1 w.1.1 w.1.2.2.2.1 w.1.2.2.1) := ⟨_, rfl⟩
  obtain ⟨q22, e22⟩ : ∃ z, z = hd_m q21 (nI (hz_chp w.1 63)) := ⟨_, rfl⟩
  obtain ⟨q23, e23⟩ : ∃ z, z = hd_m q22 (hz_night w.1.2.1 w.1.1 w.1.2.2.2.1 (nI (hz_chp w.1 63))) := ⟨_, rfl⟩
  obtain ⟨q24, e24⟩ : ∃ z, z = hd_m q23 ((hz_bt w.1 6).1) := ⟨_, rfl⟩
  obtain ⟨q25, e25⟩ : ∃ z, z = hd_m q24 (hz_ahead w.1.2.1 w.1.1 w.1.2.2.2.1 w.1.2.2.1 9) := ⟨_, rfl⟩
  obtain ⟨q26, e26⟩ : ∃ z, z = hd_m q25 (nI w.2.2.1.1) := ⟨_, rfl⟩
  obtain ⟨q27, e27⟩ : ∃ z, z = hd_l q26 (hz_sB (hz_many w.1)) := ⟨_, rfl⟩
  obtain ⟨q28, e28⟩ : ∃ z, z = hd_m q27 (hd_mb w.1) := ⟨_, rfl⟩
  obtain ⟨q29, e29⟩ : ∃ z, z = hd_b q28 w.2.1.isSome := ⟨_, rfl⟩
  obtain ⟨q30, e30⟩ : ∃ z, z = hd_m q29 (nI w.2.2.2.1) := ⟨_, rfl⟩
  have fin : hd_all w = hd_buf w.2.2.2.2 q30 w.2.2.2.1 := by
    rw [e30, e29, e28, e27, e26, e25, e24, e23, e22, e21, e20, e19, e18, e17, e16, e15, e14, e13, e12, e11, e10, e9, e8, e7, e6, e5, e4, e3, e2, e1, e0, eA]
    rfl
  rw [fin] at b679
  have FV : some (hz_i (nI (hz_force w.1))) = some (hz_i (nI (hz_force w.1))) := rfl
  have eG : hm_lk (hw_mj (hm_lk h w.1) (hz_joined w.1 (hz_force w.1))) w.1 = (hw_mj (hm_lk h w.1) (hz_joined w.1 (hz_force w.1))) := (show hm_lk (hw_mj (hm_lk h w.1) (hz_joined w.1 (hz_force w.1))) w.1 = hw_mj (hm_lk (hm_lk h w.1) w.1) (hz_joined w.1 (hz_force w.1)) from rfl).trans (by rw [hm_lk_lk])
  have msb := m_sbj (d + 10) (hm_lk h w.1) w.1 R1.1.1 ok.1 (L0 := L0) J0 (S := hz_force w.1) rfl f31
  have eM := hw_mj_mj (hm_lk h w.1) (hz_joined w.1 (hz_force w.1))
  have JG := hw_mj_J (hm_lk h w.1) okJ
  have mcl := m_closes (d + 11) (hw_mj (hm_lk h w.1) (hz_joined w.1 (hz_force w.1))) w.1 R2.1.1 ok.1 JG (S := hz_force w.1) rfl f31
  have mpe := m_peace (d + 10) (hw_mj (hm_lk h w.1) (hz_joined w.1 (hz_force w.1))) w.1 R2.1 ok.1
  have msm := m_small (d + 10) (hw_mj (hm_lk h w.1) (hz_joined w.1 (hz_force w.1))) w.1 R2.1 ok.1
  have mnd := m_narrowed (d + 10) (hw_mj (hm_lk h w.1) (hz_joined w.1 (hz_force w.1))) w.1 R2.1 ok.1
  have mns := m_narrows (d + 10) (hw_mj (hm_lk h w.1) (hz_joined w.1 (hz_force w.1))) w.1 R2.1 ok.1
  have mfw := m_fws (d + 10) (hw_mj (hm_lk h w.1) (hz_joined w.1 (hz_force w.1))) w.1 R2.1 ok.1
  have mtp := m_tp (d + 9) (hw_mj (hm_lk h w.1) (hz_joined w.1 (hz_force w.1))) w.1 R2.1 ok.1
  rw [eM] at mcl
  rw [eG] at mpe msm mnd mns mfw mtp
  have mnn := m_night (d + 10) ((hw_mj (hm_lk h w.1) (hz_joined w.1 (hz_force w.1))).1 14 0 1) (hw_mj (hm_lk h w.1) (hz_joined w.1 (hz_force w.1))) w.1 R2.1.1 n10
  rw [show hz_night w.1.2.1 w.1.1 w.1.2.2.2.1 ((hw_mj (hm_lk h w.1) (hz_joined w.1 (hz_force w.1))).1 14 0 1) = hz_night w.1.2.1 w.1.1 w.1.2.2.2.1 w.1.2.2.1 by rw [R2.1.1.2.1]] at mnn
  have G5 : (hw_mj (hm_lk h w.1) (hz_joined w.1 (hz_force w.1))).1 13 0 5 = nI w.2.2.2.1 := R2.2.2.2.1.1
  have GT := R2.2.2.2.1.2
  have G2 : (hw_mj (hm_lk h w.1) (hz_joined w.1 (hz_force w.1))).1 13 0 2 = hz_b w.2.1.isSome := by
    have s := R2.2.1
    cases hw : w.2.1 with
    | none =>
      rw [hw] at s
      exact s
    | some x =>
      rw [hw] at s
      exact s.1
  generalize (hw_mj (hm_lk h w.1) (hz_joined w.1 (hz_force w.1))) = g2 at *
  have t679 : J 679 [some (.inr (13, 0)), some (hz_l q30), none, some (hz_i (nI (hz_force w.1))), some (hz_i 0)] [] g2 := by
    have key := hq_up (P := fun k => J 679 [some (.inr (13, 0)), some (hz_l (hd_buf w.2.2.2.2 q30 k)), none, some (hz_i (nI (hz_force w.1))), some (hz_i (nI k))] [] g2) w.2.2.2.1 (b679 _ _ _ (hq_bt (hz_le (a := w.2.2.2.1) (b := w.2.2.2.1) G5 rfl (Nat.le_refl _) (by omega)) ⟨rfl, rfl⟩)) (fun k hk ih => b679 _ _ _ ?_) 0 (Nat.zero_le _)
    · exact key
    · refine hq_bf (hz_nle (a := w.2.2.2.1) (b := k) G5 rfl hk (by omega)) ?_
      have s : hd_buf w.2.2.2.2 q30 (k + 1) = hd_m (hd_buf w.2.2.2.2 q30 k) (nI (w.2.2.2.2 k)) := rfl
      rw [nI_succ k] at ih
      obtain ⟨qz, ez⟩ : ∃ z, z = hd_m (hd_buf w.2.2.2.2 q30 k) (nI (w.2.2.2.2 k)) := ⟨_, rfl⟩
      rw [s, ← ez] at ih
      refine hd_31 rfl ?_
      refine ⟨k, by omega, rfl, ?_⟩
      exact hd_is (GT k hk) ez rfl ih
  have t661 : ∀ v4, J 661 [some (.inr (13, 0)), some (hz_l q28), none, some (hz_i (nI (hz_force w.1))), v4] [hz_i (hz_b w.2.1.isSome), hz_l (31 * q28)] g2 := by
    intro v4
    refine b661 _ _ _ ?_
    refine hd_is rfl (e29.trans (hd_ib _ _)) (ls' := [some (.inr (13, 0)), some (hz_l q29), none, some (hz_i (nI (hz_force w.1))), v4]) rfl ?_
    refine hd_31 rfl (hd_gf5 rfl ?_)
    refine hd_is G5 e30 (ls' := [some (.inr (13, 0)), some (hz_l q30), none, some (hz_i (nI (hz_force w.1))), v4]) rfl ?_
    exact t679
  have t370 : ∀ v4, J 370 [some (.inr (13, 0)), some (hz_l q7), none, some (hz_i (nI (hz_force w.1))), v4] [hz_i (hz_b (!hj_in (hz_joined w.1 (hz_force w.1)) 0)), hz_l (31 * q7)] g2 := by
    intro v4
    refine b370 _ _ _ ?_
    refine hd_is rfl (e8.trans (hd_ib _ _)) (ls' := [some (.inr (13, 0)), some (hz_l q8), none, some (hz_i (nI (hz_force w.1))), v4]) rfl ?_
    refine hd_31 rfl ?_
    refine ⟨_, _, mcl, ?_⟩
    refine hd_is rfl e9 (ls' := [some (.inr (13, 0)), some (hz_l q9), none, some (hz_i (nI (hz_force w.1))), v4]) rfl ?_
    refine hd_31 rfl ?_
    refine ⟨_, _, mpe, ?_⟩
    refine ⟨_, _, m_cw (d + 13) _ _, ?_⟩
    refine hd_is (congrArg nI (hz_many_is w.1)) e10 (ls' := [some (.inr (13, 0)), some (hz_l q10), none, some (hz_i (nI (hz_force w.1))), v4]) rfl ?_
    refine hd_31 rfl ?_
    refine ⟨_, _, m_ws (d + 10) _ w.1 R2.1.1 n10, ?_⟩
    refine hd_is rfl e11 (ls' := [some (.inr (13, 0)), some (hz_l q11), none, some (hz_i (nI (hz_force w.1))), v4]) rfl ?_
    refine hd_31 rfl ?_
    refine ⟨_, _, mpe, ?_⟩
    refine ⟨_, _, m_least (d + 13) _ _, ?_⟩
    refine hd_is (hz_first_is w.1) e12 (ls' := [some (.inr (13, 0)), some (hz_l q12), none, some (hz_i (nI (hz_force w.1))), v4]) rfl ?_
    refine hd_31 rfl ?_
    refine ⟨_, _, msm, ?_⟩
    refine hd_is rfl e13 (ls' := [some (.inr (13, 0)), some (hz_l q13), none, some (hz_i (nI (hz_force w.1))), v4]) rfl ?_
    refine hd_31 rfl ?_
    refine ⟨_, _, m_meet (d + 10) _ w.1 R2.1.1 n10, ?_⟩
    refine hd_is (hb_scw w.1 n10).symm e14 (ls' := [some (.inr (13, 0)), some (hz_l q14), none, some (hz_i (nI (hz_force w.1))), v4]) rfl ?_
    refine hd_31 rfl ?_
    refine ⟨_, _, mnd, ?_⟩
    refine hd_is rfl e15 (ls' := [some (.inr (13, 0)), some (hz_l q15), none, some (hz_i (nI (hz_force w.1))), v4]) rfl ?_
    refine hd_31 rfl ?_
    refine ⟨_, _, mns, ?_⟩
    refine hd_is rfl e16 (ls' := [some (.inr (13, 0)), some (hz_l q16), none, some (hz_i (nI (hz_force w.1))), v4]) rfl ?_
    refine hd_31 rfl ?_
    refine ⟨_, _, m_few (d + 10) _ w.1 R2.1.1 n10, ?_⟩
    refine hd_is rfl e17 (ls' := [some (.inr (13, 0)), some (hz_l q17), none, some (hz_i (nI (hz_force w.1))), v4]) rfl ?_
    refine hd_31 rfl ?_
    refine ⟨_, _, mfw, ?_⟩
    refine hd_is rfl e18 (ls' := [some (.inr (13, 0)), some (hz_l q18), none, some (hz_i (nI (hz_force w.1))), v4]) rfl ?_
    refine hd_31 rfl ?_
    refine ⟨_, _, mtp, ?_⟩
    refine hd_is rfl e19 (ls' := [some (.inr (13, 0)), some (hz_l q19), none, some (hz_i (nI (hz_force w.1))), v4]) rfl ?_
    refine hd_31 rfl ?_
    refine ⟨_, _, m_tg (d + 10) _ w.1 R2.1.1 ok.1, ?_⟩
    refine hd_is rfl e20 (ls' := [some (.inr (13, 0)), some (hz_l q20), none, some (hz_i (nI (hz_force w.1))), v4]) rfl ?_
    refine hd_31 rfl ?_
    refine ⟨1, by decide, rfl, ?_⟩
    refine ⟨_, _, mnn, ?_⟩
    refine hd_is rfl e21 (ls' := [some (.inr (13, 0)), some (hz_l q21), none, some (hz_i (nI (hz_force w.1))), v4]) rfl ?_
    refine hd_31 rfl ?_
    refine ⟨_, _, m_chp (d + 9) _ w.1 R2.1.1 ok.1, ?_⟩
    refine hd_is rfl e22 (ls' := [some (.inr (13, 0)), some (hz_l q22), none, some (hz_i (nI (hz_force w.1))), v4]) rfl ?_
    refine hd_31 rfl ?_
    refine ⟨_, _, m_chp (d + 9) _ w.1 R2.1.1 ok.1, ?_⟩
    refine ⟨_, _, m_night (d + 10) _ _ w.1 R2.1.1 n10, ?_⟩
    refine hd_is rfl e23 (ls' := [some (.inr (13, 0)), some (hz_l q23), none, some (hz_i (nI (hz_force w.1))), v4]) rfl ?_
    refine hd_31 rfl ?_
    refine ⟨_, _, m_bt (d + 9) _ w.1 R2.1.1 ok.1, ?_⟩
    refine hd_is rfl e24 (ls' := [some (.inr (13, 0)), some (hz_l q24), none, some (hz_i (nI (hz_force w.1))), v4]) rfl ?_
    refine hd_31 rfl ?_
    refine ⟨_, _, m_ahead (d + 11) _ w.1 R2.1.1 n10 (q := 9) rfl (by decide), ?_⟩
    refine hd_is rfl e25 (ls' := [some (.inr (13, 0)), some (hz_l q25), none, some (hz_i (nI (hz_force w.1))), v4]) rfl ?_
    refine hd_31 rfl ?_
    refine hd_gf1 rfl ?_
    refine hd_is R2.2.2.1.2.1 e26 (ls' := [some (.inr (13, 0)), some (hz_l q26), none, some (hz_i (nI (hz_force w.1))), v4]) rfl ?_
    refine hd_31 rfl ?_
    refine ⟨_, _, m_ws (d + 10) _ w.1 R2.1.1 n10, _, _, m_sb (d + 13) (hz_many w.1) _ l64, ?_⟩
    refine hd_lls rfl e27 (ls' := [some (.inr (13, 0)), some (hz_l q27), none, some (hz_i (nI (hz_force w.1))), v4]) rfl ?_
    refine hd_31 rfl ?_
    refine ⟨_, _, m_sof (d + 12) _ w.1 R2.1.1 ok.1, ?_⟩
    refine ⟨0, by decide, rfl, ?_⟩
    refine ⟨_, _, m_mbS (d + 13) _ w.1 ok.1 R2.1.1.1, ?_⟩
    refine hd_is rfl e28 (ls' := [some (.inr (13, 0)), some (hz_l q28), none, some (hz_i (nI (hz_force w.1))), v4]) rfl ?_
    refine hd_31 rfl ?_
    have t := t661 v4
    cases hs : w.2.1.isSome with
    | false =>
      rw [hs] at G2 t
      exact hq_bt G2 t
    | true =>
      rw [hs] at G2 t
      exact hq_bf (fun z => hz_one0 (G2.symm.trans z)) t
  have t349 : ∀ v4, J 349 [some (.inr (13, 0)), some (hz_l q6), none, some (hz_i (nI (hz_force w.1))), v4] [hz_i (hz_b (hz_nz (hz_stand w.1 (hz_force w.1)))), hz_l (31 * q6)] (hm_lk h w.1) := by
    intro v4
    refine b349 _ _ _ ?_
    refine hd_is rfl (e7.trans (hd_ib _ _)) (ls' := [some (.inr (13, 0)), some (hz_l q7), none, some (hz_i (nI (hz_force w.1))), v4]) rfl ?_
    refine hd_31 rfl ?_
    refine ⟨_, _, msb, ?_⟩
    have t := t370 v4
    cases e : hj_in (hz_joined w.1 (hz_force w.1)) 0 with
    | true =>
      rw [e] at t
      exact hq_bt rfl t
    | false =>
      rw [e] at t
      exact hq_bf hz_one0 t
  have t328 : ∀ v4, J 328 [some (.inr (13, 0)), some (hz_l q5), none, some (hz_i (nI (hz_force w.1))), v4] [hz_i (hz_b (hz_nz (hz_stand w.1 (hz_force w.1)))), hz_l (31 * q5)] (hm_lk h w.1) := by
    intro v4
    refine b328 _ _ _ ?_
    refine hd_is rfl (e6.trans (hd_ib _ _)) (ls' := [some (.inr (13, 0)), some (hz_l q6), none, some (hz_i (nI (hz_force w.1))), v4]) rfl ?_
    refine hd_31 rfl ?_
    refine ⟨_, _, m_splits (d + 11) _ w.1 R1.1.1 n10 rfl f31, ?_⟩
    have t := t349 v4
    cases e : hz_nz (hz_stand w.1 (hz_force w.1)) with
    | false =>
      rw [e] at t
      exact hq_bt rfl t
    | true =>
      rw [e] at t
      exact hq_bf hz_one0 t
  have t243 : ∀ g, (g = h ∨ g = hm_lk h w.1) → J 243 [some (.inr (13, 0)), some (hz_l q3), none, some (hz_i (nI (hz_force w.1))), some (hz_i 0)] [] g := by
    refine hq_up (P := fun r => ∀ g, (g = h ∨ g = hm_lk h w.1) → J 243 [some (.inr (13, 0)), some (hz_l (hd_rooms w.1 q3 r)), none, some (hz_i (nI (hz_force w.1))), some (hz_i (nI r))] [] g) 6 (fun g hg => b243 _ _ _ (hq_bt (hz_le (a := 6) (b := 6) rfl rfl (Nat.le_refl _) (by decide)) ?_)) (fun r hr ih g hg => b243 _ _ _ ?_) 0 (Nat.zero_le _)
    · obtain ⟨Qg, Lg⟩ := Qof g hg
      have ms := m_stands (d + 10) g w.1 Qg ok.1 (S := hz_force w.1) rfl f31
      rw [Lg] at ms
      refine hd_31 rfl ?_
      refine ⟨3, by decide, rfl, ?_⟩
      refine hd_is Qg.1.2.2.2.1 e4 (ls' := [some (.inr (13, 0)), some (hz_l q4), none, some (hz_i (nI (hz_force w.1))), some (hz_i (nI 6))]) rfl ?_
      refine hd_31 rfl ?_
      refine ⟨_, _, m_acc (d + 12) g w.1 Qg.1 n10, ?_⟩
      refine hd_is rfl e5 (ls' := [some (.inr (13, 0)), some (hz_l q5), none, some (hz_i (nI (hz_force w.1))), some (hz_i (nI 6))]) rfl ?_
      refine hd_31 rfl ?_
      refine ⟨_, _, ms, ?_⟩
      have t := t328 (some (hz_i (nI 6)))
      cases e : hz_nz (hz_stand w.1 (hz_force w.1)) with
      | false =>
        rw [e] at t
        exact hq_bt rfl t
      | true =>
        rw [e] at t
        exact hq_bf hz_one0 t
    · obtain ⟨Qg, Lg⟩ := Qof g hg
      have ma := m_alike (d + 9) r g w.1 Qg ok.1 hr
      rw [Lg] at ma
      refine hq_bf (hz_nle (a := 6) (b := r) rfl rfl hr (by decide)) ?_
      obtain ⟨qa, ea⟩ : ∃ z, z = hd_m (hd_rooms w.1 q3 r) (hz_rfs w.1 (nI r)) := ⟨_, rfl⟩
      obtain ⟨qb, eb⟩ : ∃ z, z = hd_m qa (hz_com w.1 r) := ⟨_, rfl⟩
      have s : hd_rooms w.1 q3 (r + 1) = hd_m (hd_m (hd_rooms w.1 q3 r) (hz_rfs w.1 (nI r))) (hz_com w.1 r) := rfl
      rw [s, ← ea, ← eb, nI_succ r] at ih
      refine hd_31 rfl ?_
      refine ⟨_, _, m_ref (d + 11) (nI r) g w.1 Qg.1 n10, ?_⟩
      refine hd_is rfl ea (ls' := [some (.inr (13, 0)), some (hz_l qa), none, some (hz_i (nI (hz_force w.1))), some (hz_i (nI r))]) rfl ?_
      refine hd_31 rfl ?_
      refine ⟨_, _, ma, ?_⟩
      refine hd_is rfl eb (ls' := [some (.inr (13, 0)), some (hz_l qb), none, some (hz_i (nI (hz_force w.1))), some (hz_i (nI r))]) rfl ?_
      exact ih _ (Or.inr rfl)
  have t20 : ∀ g, (g = h ∨ g = hm_lk h w.1) → ∀ v4, J 20 [some (.inr (13, 0)), some (hz_l (hd_rules w.1 4211 0)), none, some (hz_i 0), v4] [] g := by
    refine hq_up (P := fun k => ∀ g, (g = h ∨ g = hm_lk h w.1) → ∀ v4, J 20 [some (.inr (13, 0)), some (hz_l (hd_rules w.1 4211 k)), none, some (hz_i (nI k)), v4] [] g) w.1.1 (fun g hg v4 => b20 _ _ _ ?_) (fun k hk ih g hg v4 => b20 _ _ _ ?_) 0 (Nat.zero_le _)
    · obtain ⟨Qg, Lg⟩ := Qof g hg
      refine ⟨0, by decide, rfl, ?_⟩
      refine hq_bt (hz_le Qg.1.1 rfl (Nat.le_refl _) (by omega)) ?_
      rw [← eA]
      have mb := m_broke (d + 11) (g.1 14 0 1) g w.1 Qg.1 n10
      rw [show hz_broke w.1 (g.1 14 0 1) = hz_broke w.1 w.1.2.2.1 by rw [Qg.1.2.1]] at mb
      refine ⟨_, _, m_force (d + 11) g w.1 Qg.1 n10, ?_⟩
      refine hd_ist (ls' := [some (.inr (13, 0)), some (hz_l qA), none, some (hz_i (nI (hz_force w.1))), v4]) rfl ?_
      refine hd_31 rfl ?_
      refine ⟨1, by decide, rfl, ?_⟩
      refine hd_is Qg.1.2.1 e0 (ls' := [some (.inr (13, 0)), some (hz_l q0), none, some (hz_i (nI (hz_force w.1))), v4]) rfl ?_
      refine hd_31 rfl ?_
      refine ⟨2, by decide, rfl, ?_⟩
      refine hd_is Qg.1.2.2.1 e1 (ls' := [some (.inr (13, 0)), some (hz_l q1), none, some (hz_i (nI (hz_force w.1))), v4]) rfl ?_
      refine hd_31 rfl (hd_il rfl ?_)
      refine hd_is rfl e2 (ls' := [some (.inr (13, 0)), some (hz_l q2), none, some (hz_i (nI (hz_force w.1))), v4]) rfl ?_
      refine hd_31 rfl ?_
      refine ⟨1, by decide, rfl, ?_⟩
      refine ⟨_, _, mb, ?_⟩
      refine hd_is rfl e3 (ls' := [some (.inr (13, 0)), some (hz_l q3), none, some (hz_i (nI (hz_force w.1))), v4]) rfl ?_
      exact t243 g hg
    · obtain ⟨Qg, Lg⟩ := Qof g hg
      refine ⟨0, by decide, rfl, ?_⟩
      refine hq_bf (hz_nle Qg.1.1 rfl hk (by omega)) ?_
      have ea : ∀ x, x < 6 → g.1 14 0 (5 + 6 * k + x) = w.1.2.1 k x := fun x hx => Qg.1.2.2.2.2.2 k hk x hx
      have mf := m_fol (d + 10) k g w.1 Qg ok.1 hk
      rw [Lg] at mf
      have s : hd_rules w.1 4211 (k + 1) = hd_rule w.1 k (hd_rules w.1 4211 k) := rfl
      rw [s, nI_succ k] at ih
      unfold hd_rule at ih
      generalize hd_rules w.1 4211 k = qq at ih ⊢
      obtain ⟨p0, f0⟩ : ∃ z, z = hd_m qq (w.1.2.1 k 0) := ⟨_, rfl⟩
      obtain ⟨p1, f1⟩ : ∃ z, z = hd_m p0 (w.1.2.1 k 1) := ⟨_, rfl⟩
      obtain ⟨p2, f2⟩ : ∃ z, z = hd_m p1 (w.1.2.1 k 2) := ⟨_, rfl⟩
      obtain ⟨p3, f3⟩ : ∃ z, z = hd_m p2 (w.1.2.1 k 3) := ⟨_, rfl⟩
      obtain ⟨p4, f4⟩ : ∃ z, z = hd_m p3 (hz_wd (w.1.2.1 k 4 - w.1.2.2.2.1)) := ⟨_, rfl⟩
      obtain ⟨p5, f5⟩ : ∃ z, z = hd_m p4 (w.1.2.1 k 5) := ⟨_, rfl⟩
      obtain ⟨p6, f6⟩ : ∃ z, z = hd_b p5 (hz_fol w.1 k) := ⟨_, rfl⟩
      obtain ⟨p7, f7⟩ : ∃ z, z = hd_b p6 (hz_fol w.1 k) := ⟨_, rfl⟩
      rw [← f0, ← f1, ← f2, ← f3, ← f4, ← f5, ← f6, ← f7] at ih
      have t150 : J 150 [some (.inr (13, 0)), some (hz_l p5), none, some (hz_i (nI k)), some (hz_i (nI (5 + 6 * k)))] [hz_i (hz_b (hz_fol w.1 k)), hz_l (31 * p5)] (hm_lk h w.1) := by
        refine b150 _ _ _ ?_
        refine hd_is rfl (f6.trans (hd_ib _ _)) (ls' := [some (.inr (13, 0)), some (hz_l p6), none, some (hz_i (nI k)), some (hz_i (nI (5 + 6 * k)))]) rfl ?_
        refine hd_31 rfl ?_
        refine ⟨_, _, m_fols (d + 10) k _ w.1 R1.1.1 n10 hk, ?_⟩
        have f7' := f7.trans (hd_ib _ _)
        have t := ih _ (Or.inr rfl) (some (hz_i (nI (5 + 6 * k))))
        cases e : hz_fol w.1 k with
        | false =>
          rw [e] at f7'
          refine hq_bt rfl (hd_ic ?_)
          exact hd_is rfl f7' (ls' := [some (.inr (13, 0)), some (hz_l p7), none, some (hz_i (nI k)), some (hz_i (nI (5 + 6 * k)))]) rfl t
        | true =>
          rw [e] at f7'
          refine hq_bf hz_one0 (hd_ic (hd_gt ?_))
          exact hd_is rfl f7' (ls' := [some (.inr (13, 0)), some (hz_l p7), none, some (hz_i (nI k)), some (hz_i (nI (5 + 6 * k)))]) rfl t
      refine ⟨_, _, m_at (d + 13) k g, ?_⟩
      refine hd_ist (ls' := [some (.inr (13, 0)), some (hz_l qq), none, some (hz_i (nI k)), some (hz_i (nI (5 + 6 * k)))]) rfl ?_
      refine hd_31 rfl ?_
      refine ⟨5 + 6 * k, by omega, rfl, ?_⟩
      refine hd_is (ea 0 (by decide)) f0 (ls' := [some (.inr (13, 0)), some (hz_l p0), none, some (hz_i (nI k)), some (hz_i (nI (5 + 6 * k)))]) rfl ?_
      refine hd_31 rfl ?_
      refine ⟨5 + 6 * k + 1, by omega, nI_add (5 + 6 * k) 1, ?_⟩
      refine hd_is (ea 1 (by decide)) f1 (ls' := [some (.inr (13, 0)), some (hz_l p1), none, some (hz_i (nI k)), some (hz_i (nI (5 + 6 * k)))]) rfl ?_
      refine hd_31 rfl ?_
      refine ⟨5 + 6 * k + 2, by omega, nI_add (5 + 6 * k) 2, ?_⟩
      refine hd_is (ea 2 (by decide)) f2 (ls' := [some (.inr (13, 0)), some (hz_l p2), none, some (hz_i (nI k)), some (hz_i (nI (5 + 6 * k)))]) rfl ?_
      refine hd_31 rfl ?_
      refine ⟨5 + 6 * k + 3, by omega, nI_add (5 + 6 * k) 3, ?_⟩
      refine hd_is (ea 3 (by decide)) f3 (ls' := [some (.inr (13, 0)), some (hz_l p3), none, some (hz_i (nI k)), some (hz_i (nI (5 + 6 * k)))]) rfl ?_
      refine hd_31 rfl ?_
      refine ⟨_, _, m_waived (d + 12) k g w.1 Qg.1 n10 hk, ?_⟩
      refine hd_is rfl f4 (ls' := [some (.inr (13, 0)), some (hz_l p4), none, some (hz_i (nI k)), some (hz_i (nI (5 + 6 * k)))]) rfl ?_
      refine hd_31 rfl ?_
      refine ⟨5 + 6 * k + 5, by omega, nI_add (5 + 6 * k) 5, ?_⟩
      refine hd_is (ea 5 (by decide)) f5 (ls' := [some (.inr (13, 0)), some (hz_l p5), none, some (hz_i (nI k)), some (hz_i (nI (5 + 6 * k)))]) rfl ?_
      refine hd_31 rfl ?_
      refine ⟨_, _, mf, ?_⟩
      cases e : hz_fol w.1 k with
      | false =>
        rw [e] at t150
        exact hq_bt rfl t150
      | true =>
        rw [e] at t150
        exact hq_bf hz_one0 t150
  refine hd_c (hd_ls (ls' := [some (.inr (13, 0)), some (hz_l 4211), none, none, none]) rfl ?_)
  refine hd_31 rfl ?_
  refine ⟨0, by decide, rfl, ?_⟩
  refine hd_is R.1.1.1 (v := hd_rules w.1 4211 0) rfl (ls' := [some (.inr (13, 0)), some (hz_l (hd_rules w.1 4211 0)), none, none, none]) rfl ?_
  exact t20 h (Or.inl rfl) none
