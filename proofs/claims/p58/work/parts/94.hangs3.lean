-- ===== what the law holds of all numbers: peace and clashes =====
theorem s_chn0 {h : hq_H} {w : hz_W} (R : hz_RC h w) : hq_Met 20 MX6_cheapestNight [.inr (3, 0)] h (hz_o (nI (hz_cost w.1 (hz_chp w.1 63)))) h := by
  have m := s_cheapestNight 10 h w R
  rw [hz_cost_is R.2.1] at m
  exact m
theorem hg_519 {J : Nat → hq_C} {h : hq_H} (b519 : (∀ (ls_ : hq_L) (st_ : List hq_V) (h_ : hq_H), (hk_icmp_ne (hk_iconst 0 (J 536)) (hk_aload 0 (hk_v1r 3 20 MX6_cheapestNight (hk_iload 4 (hk_icmp_gt (hk_iconst 0 (J 536)) (hk_iconst 1 (hk_goto (J 536)))))))) ls_ st_ h_ → J 519 ls_ st_ h_)) {w : hz_W} (R : hz_RC h w) (y F B k a b p c8 : Int32) (hab : b = a)
    (k536 : J 536 (hg_l y F B (nI (hz_cost w.1 (hz_g w.1))) 1 k (some (hz_i p)) (some (hz_i c8)) none none none) [hz_i 1] h) : J 519 (hg_l y F B (nI (hz_cost w.1 (hz_g w.1))) 1 k (some (hz_i p)) (some (hz_i c8)) none none none) [hz_i a, hz_i b] h := by
  have le := hx_chp_g R.2.1
  have l90 := hx_cost90 R.2.1 (hz_g w.1)
  refine b519 _ _ _ (hq_nf hab ?_)
  refine ⟨_, _, s_chn0 R, hq_bf (nI_nlt le (by omega)) ?_⟩
  exact k536
theorem hg_371p {J : Nat → hq_C} {h h5 h6 : hq_H} (b371 : (∀ (ls_ : hq_L) (st_ : List hq_V) (h_ : hq_H), (hk_istore 5 (hk_aload 0 (hk_v1r 3 20 MX6_ways (hk_if_le (hk_iconst 0 (J 385)) (hk_iconst 1 (hk_goto (J 385))))))) ls_ st_ h_ → J 371 ls_ st_ h_)) (b385 : (∀ (ls_ : hq_L) (st_ : List hq_V) (h_ : hq_H), (hk_istore 7 (hk_aload 0 (hk_v1r 3 20 MX6_smallestClash (hk_istore 8 (hk_iload 5 (hk_if_eq (hk_iconst 0 (J 536)) (hk_iload 8 (hk_if_ge (hk_iconst 0 (J 408)) (hk_iconst 1 (hk_goto (J 408))))))))))) ls_ st_ h_ → J 385 ls_ st_ h_)) (b408 : (∀ (ls_ : hq_L) (st_ : List hq_V) (h_ : hq_H), (hk_iload 7 (hk_icmp_ne (hk_iconst 0 (J 536)) (hk_aload 0 (hk_v1r 3 20 MX6_narrowedClash (hk_if_ge (hk_iconst 0 (J 425)) (hk_iconst 1 (hk_goto (J 425)))))))) ls_ st_ h_ → J 408 ls_ st_ h_)) (b425 : (∀ (ls_ : hq_L) (st_ : List hq_V) (h_ : hq_H), (hk_iload 7 (hk_icmp_ne (hk_iconst 0 (J 536)) (hk_aload 0 (hk_v1r 3 20 MX6_narrowClashes (hk_if_ne (hk_iconst 0 (J 442)) (hk_iconst 1 (hk_goto (J 442)))))))) ls_ st_ h_ → J 425 ls_ st_ h_)) (b442 : (∀ (ls_ : hq_L) (st_ : List hq_V) (h_ : hq_H), (hk_iload 7 (hk_icmp_ne (hk_iconst 0 (J 536)) (hk_aload 0 (hk_v1r 3 20 MX6_fewestWaivers (hk_if_ne (hk_iconst 0 (J 459)) (hk_iconst 1 (hk_goto (J 459)))))))) ls_ st_ h_ → J 442 ls_ st_ h_)) (b459 : (∀ (ls_ : hq_L) (st_ : List hq_V) (h_ : hq_H), (hk_iload 7 (hk_icmp_ne (hk_iconst 0 (J 536)) (hk_aload 0 (hk_v1r 3 20 MX6_turnsToPeace (hk_if_lt (hk_iconst 0 (J 476)) (hk_iconst 1 (hk_goto (J 476)))))))) ls_ st_ h_ → J 459 ls_ st_ h_)) (b476 : (∀ (ls_ : hq_L) (st_ : List hq_V) (h_ : hq_H), (hk_iload 7 (hk_icmp_ne (hk_iconst 0 (J 536)) (hk_aload 0 (hk_v1r 3 20 MX6_cheapestNight (hk_if_ne (hk_iconst 0 (J 493)) (hk_iconst 1 (hk_goto (J 493)))))))) ls_ st_ h_ → J 476 ls_ st_ h_)) (b493 : (∀ (ls_ : hq_L) (st_ : List hq_V) (h_ : hq_H), (hk_iload 7 (hk_icmp_ne (hk_iconst 0 (J 536)) (hk_aload 0 (hk_v1r 3 20 MX6_turnsToPeace (hk_if_ne (hk_iconst 0 (J 510)) (hk_iconst 1 (hk_goto (J 510)))))))) ls_ st_ h_ → J 493 ls_ st_ h_)) (b510 : (∀ (ls_ : hq_L) (st_ : List hq_V) (h_ : hq_H), (hk_iload 3 (hk_if_ne (hk_iconst 0 (J 519)) (hk_iconst 1 (hk_goto (J 519))))) ls_ st_ h_ → J 510 ls_ st_ h_)) (b519 : (∀ (ls_ : hq_L) (st_ : List hq_V) (h_ : hq_H), (hk_icmp_ne (hk_iconst 0 (J 536)) (hk_aload 0 (hk_v1r 3 20 MX6_cheapestNight (hk_iload 4 (hk_icmp_gt (hk_iconst 0 (J 536)) (hk_iconst 1 (hk_goto (J 536)))))))) ls_ st_ h_ → J 519 ls_ st_ h_)) (b536 : (∀ (ls_ : hq_L) (st_ : List hq_V) (h_ : hq_H), (hk_istore 5 (hk_iload 5 (hk_if_eq (hk_iconst 0 (J 589)) (hk_iload 8 (hk_if_lt (hk_iconst 1 (hk_goto (J 589))) (hk_aload 0 (hk_iload 8 (hk_h2 20 ML_stand (some hhL_stand) (hk_if_ne (hk_iconst 0 (J 589)) (hk_aload 0 (hk_aload 0 (hk_v1r 3 20 MX6_narrowedClash (hk_h2 20 ML_stand (some hhL_stand) (hk_if_ne (hk_iconst 0 (J 589)) (hk_aload 0 (hk_iload 2 (hk_aload 0 (hk_v1r 3 20 MX6_fewestWaivers (hk_iconst (-1) (hk_ixor (hk_iand (hk_h2 20 ML_stand (some hhL_stand) (hk_iconst 1 (hk_icmp_ne (hk_iconst 0 (J 589)) (hk_iconst 1 (hk_goto (J 589))))))))))))))))))))))))))) ls_ st_ h_ → J 536 ls_ st_ h_))
    {w : hz_W} (P : hx_P w.1) (R : hz_RC h w) (R5 : hz_RC h5 w) (R6 : hz_RC h6 w) (m5 : hq_Met 20 MX6_smallestClash [.inr (3, 0)] h (hz_o (hz_small w.1)) h5) (m6 : hq_Met 20 MX6_narrowClashes [.inr (3, 0)] h5 (hz_o (nI (hz_narrows w.1))) h6) (y k : Int32) (v7 : Option hq_V)
    (k589 : J 589 (hg_l y (hg_F w.1) (hg_B w.1) (nI (hz_cost w.1 (hz_g w.1))) 1 k (some (hz_i 1)) (some (hz_i (-1))) none none none) [hz_i 1] h6) : J 371 (hg_l y (hg_F w.1) (hg_B w.1) (nI (hz_cost w.1 (hz_g w.1))) 1 k v7 none none none none) [hz_i 1] h := by
  have ok := R.2.1
  have n10 := ok.1
  have p10 := hz_p10 n10
  have l64 := hx_many_64 w.1
  have m0 := (hx_many w.1).mpr P
  have nd := s_narrowedClash 15 h5 w R5
  have fw := s_fewestWaivers 15 h6 w R6
  have cn := s_chn0 R6
  rw [hx_small_p P] at m5
  rw [hx_narrows_p P] at m6
  rw [hx_narrowed_p P] at nd
  rw [hx_few_p n10 P] at fw
  rw [(hx_chp0 ok).mpr P] at cn
  obtain ⟨m, hm, et, em⟩ := hx_tp_p ok P
  have tp := s_turnsToPeace 15 h6 w R6
  rw [et] at tp
  have B2 : hz_broke w.1 w.1.2.2.1 < 2 ^ w.1.1 := hz_broke_lt _ _
  refine b371 _ _ _ ?_
  refine ⟨_, _, s_ways 15 h w R, hq_bf (nI_ge (a := 0) m0 (by omega)) (b385 _ _ _ ?_)⟩
  refine ⟨_, _, m5, hq_bf (by decide) (hq_bf (by decide) (b408 _ _ _ ?_))⟩
  refine hq_nf rfl ⟨_, _, nd, hq_bf (by decide) (b425 _ _ _ ?_)⟩
  refine hq_nf rfl ⟨_, _, m6, hq_nf rfl (b442 _ _ _ ?_)⟩
  refine hq_nf rfl ⟨_, _, fw, hq_nf rfl (b459 _ _ _ ?_)⟩
  refine hq_nf rfl ⟨_, _, tp, hq_bf (nI_pos (by omega)) (b476 _ _ _ ?_)⟩
  refine hq_nf rfl ⟨_, _, cn, hq_nf rfl (b493 _ _ _ ?_)⟩
  refine hq_nf rfl ⟨_, _, tp, ?_⟩
  have t519 : ∀ a b : Int32, b = a → J 519 (hg_l y (hg_F w.1) (hg_B w.1) (nI (hz_cost w.1 (hz_g w.1))) 1 k (some (hz_i 1)) (some (hz_i (-1))) none none none) [hz_i a, hz_i b] h6 := fun a b e => hg_519 b519 R6 y _ _ k a b 1 (-1) e (b536 _ _ _ (hq_bf (by decide) (hq_bt (by decide) k589)))
  by_cases z : m = 0
  · have zb := em.mp z
    refine hq_nf (by rw [z]; rfl) (b510 _ _ _ ?_)
    refine hq_nf (show nI (hz_broke w.1 w.1.2.2.1) = 0 by rw [zb]; rfl) ?_
    exact t519 _ _ rfl
  · have zb : ¬ hz_broke w.1 w.1.2.2.1 = 0 := fun y => z (em.mpr y)
    refine hq_nt (fun q => z ((nI_eq (a := m) (b := 0) (by omega) (by decide)).mp q)) (b510 _ _ _ ?_)
    refine hq_nt (fun q => zb ((nI_eq (a := hz_broke w.1 w.1.2.2.1) (b := 0) (by omega) (by decide)).mp q)) ?_
    exact t519 _ _ rfl
theorem hg_371n {J : Nat → hq_C} {h h5 h6 : hq_H} (b371 : (∀ (ls_ : hq_L) (st_ : List hq_V) (h_ : hq_H), (hk_istore 5 (hk_aload 0 (hk_v1r 3 20 MX6_ways (hk_if_le (hk_iconst 0 (J 385)) (hk_iconst 1 (hk_goto (J 385))))))) ls_ st_ h_ → J 371 ls_ st_ h_)) (b385 : (∀ (ls_ : hq_L) (st_ : List hq_V) (h_ : hq_H), (hk_istore 7 (hk_aload 0 (hk_v1r 3 20 MX6_smallestClash (hk_istore 8 (hk_iload 5 (hk_if_eq (hk_iconst 0 (J 536)) (hk_iload 8 (hk_if_ge (hk_iconst 0 (J 408)) (hk_iconst 1 (hk_goto (J 408))))))))))) ls_ st_ h_ → J 385 ls_ st_ h_)) (b408 : (∀ (ls_ : hq_L) (st_ : List hq_V) (h_ : hq_H), (hk_iload 7 (hk_icmp_ne (hk_iconst 0 (J 536)) (hk_aload 0 (hk_v1r 3 20 MX6_narrowedClash (hk_if_ge (hk_iconst 0 (J 425)) (hk_iconst 1 (hk_goto (J 425)))))))) ls_ st_ h_ → J 408 ls_ st_ h_)) (b425 : (∀ (ls_ : hq_L) (st_ : List hq_V) (h_ : hq_H), (hk_iload 7 (hk_icmp_ne (hk_iconst 0 (J 536)) (hk_aload 0 (hk_v1r 3 20 MX6_narrowClashes (hk_if_ne (hk_iconst 0 (J 442)) (hk_iconst 1 (hk_goto (J 442)))))))) ls_ st_ h_ → J 425 ls_ st_ h_)) (b442 : (∀ (ls_ : hq_L) (st_ : List hq_V) (h_ : hq_H), (hk_iload 7 (hk_icmp_ne (hk_iconst 0 (J 536)) (hk_aload 0 (hk_v1r 3 20 MX6_fewestWaivers (hk_if_ne (hk_iconst 0 (J 459)) (hk_iconst 1 (hk_goto (J 459)))))))) ls_ st_ h_ → J 442 ls_ st_ h_)) (b459 : (∀ (ls_ : hq_L) (st_ : List hq_V) (h_ : hq_H), (hk_iload 7 (hk_icmp_ne (hk_iconst 0 (J 536)) (hk_aload 0 (hk_v1r 3 20 MX6_turnsToPeace (hk_if_lt (hk_iconst 0 (J 476)) (hk_iconst 1 (hk_goto (J 476)))))))) ls_ st_ h_ → J 459 ls_ st_ h_)) (b476 : (∀ (ls_ : hq_L) (st_ : List hq_V) (h_ : hq_H), (hk_iload 7 (hk_icmp_ne (hk_iconst 0 (J 536)) (hk_aload 0 (hk_v1r 3 20 MX6_cheapestNight (hk_if_ne (hk_iconst 0 (J 493)) (hk_iconst 1 (hk_goto (J 493)))))))) ls_ st_ h_ → J 476 ls_ st_ h_)) (b493 : (∀ (ls_ : hq_L) (st_ : List hq_V) (h_ : hq_H), (hk_iload 7 (hk_icmp_ne (hk_iconst 0 (J 536)) (hk_aload 0 (hk_v1r 3 20 MX6_turnsToPeace (hk_if_ne (hk_iconst 0 (J 510)) (hk_iconst 1 (hk_goto (J 510)))))))) ls_ st_ h_ → J 493 ls_ st_ h_)) (b510 : (∀ (ls_ : hq_L) (st_ : List hq_V) (h_ : hq_H), (hk_iload 3 (hk_if_ne (hk_iconst 0 (J 519)) (hk_iconst 1 (hk_goto (J 519))))) ls_ st_ h_ → J 510 ls_ st_ h_)) (b519 : (∀ (ls_ : hq_L) (st_ : List hq_V) (h_ : hq_H), (hk_icmp_ne (hk_iconst 0 (J 536)) (hk_aload 0 (hk_v1r 3 20 MX6_cheapestNight (hk_iload 4 (hk_icmp_gt (hk_iconst 0 (J 536)) (hk_iconst 1 (hk_goto (J 536)))))))) ls_ st_ h_ → J 519 ls_ st_ h_)) (b536 : (∀ (ls_ : hq_L) (st_ : List hq_V) (h_ : hq_H), (hk_istore 5 (hk_iload 5 (hk_if_eq (hk_iconst 0 (J 589)) (hk_iload 8 (hk_if_lt (hk_iconst 1 (hk_goto (J 589))) (hk_aload 0 (hk_iload 8 (hk_h2 20 ML_stand (some hhL_stand) (hk_if_ne (hk_iconst 0 (J 589)) (hk_aload 0 (hk_aload 0 (hk_v1r 3 20 MX6_narrowedClash (hk_h2 20 ML_stand (some hhL_stand) (hk_if_ne (hk_iconst 0 (J 589)) (hk_aload 0 (hk_iload 2 (hk_aload 0 (hk_v1r 3 20 MX6_fewestWaivers (hk_iconst (-1) (hk_ixor (hk_iand (hk_h2 20 ML_stand (some hhL_stand) (hk_iconst 1 (hk_icmp_ne (hk_iconst 0 (J 589)) (hk_iconst 1 (hk_goto (J 589))))))))))))))))))))))))))) ls_ st_ h_ → J 536 ls_ st_ h_))
    {w : hz_W} (P : ¬ hx_P w.1) (R : hz_RC h w) (R5 : hz_RC h5 w) (R6 : hz_RC h6 w) (m5 : hq_Met 20 MX6_smallestClash [.inr (3, 0)] h (hz_o (hz_small w.1)) h5) (m6 : hq_Met 20 MX6_narrowClashes [.inr (3, 0)] h5 (hz_o (nI (hz_narrows w.1))) h6) (y k : Int32) (v7 : Option hq_V)
    (k589 : ∀ c8, J 589 (hg_l y (hg_F w.1) (hg_B w.1) (nI (hz_cost w.1 (hz_g w.1))) 1 k (some (hz_i 0)) (some (hz_i c8)) none none none) [hz_i 1] h6) : J 371 (hg_l y (hg_F w.1) (hg_B w.1) (nI (hz_cost w.1 (hz_g w.1))) 1 k v7 none none none none) [hz_i 1] h := by
  have ok := R.2.1
  have n10 := ok.1
  have p10 := hz_p10 n10
  have m0 : hz_many w.1 = 0 := by
    by_cases z : 0 < hz_many w.1
    · exact absurd ((hx_many w.1).mp z) P
    · omega
  obtain ⟨c, hc, ec, cl, -⟩ := hx_small_n P
  obtain ⟨r, hr, er, rz⟩ := hx_narrowed_n P
  have nq := hx_narrows_n n10 P
  have nq2 := hx_narrows_le w.1
  have f0 := hx_few_n P
  have fl := hz_few_lt w.1 63
  have fs := hx_few_st w.1 n10
  have nd := fun h R => s_narrowedClash 15 h w R
  have fw := s_fewestWaivers 15 h6 w R6
  have tp := s_turnsToPeace 15 h6 w R6
  have c0 : hz_cost w.1 (hz_chp w.1 63) ≠ 0 := fun z => P ((hx_chp0 ok).mp z)
  have c90 := hx_cost90 ok (hz_chp w.1 63)
  have B2 : hz_broke w.1 w.1.2.2.1 < 2 ^ w.1.1 := hz_broke_lt _ _
  have bn := hx_broke_n ok P
  rw [ec] at m5
  simp only [er] at nd
  rw [hx_tp_n P] at tp
  have sc := v_stand R6 hc
  have sr := v_stand R6 hr
  have sf := v_stand R6 (hz_dif_lt (hz_few w.1 63) (hz_force_lt w.1))
  rw [← hz_difN] at sf
  rw [show hz_b (hz_nz (hz_stand w.1 c)) = 0 by unfold hz_nz; rw [decide_eq_true (hx_cl.mp cl).2]; rfl] at sc
  rw [show hz_b (hz_nz (hz_stand w.1 r)) = 0 by unfold hz_nz; rw [decide_eq_true rz]; rfl] at sr
  rw [show hz_b (hz_nz (hz_stand w.1 (hz_dif (hz_force w.1) (hz_few w.1 63)))) = 1 by unfold hz_nz; rw [decide_eq_false fs]; rfl] at sf
  refine b371 _ _ _ ?_
  refine ⟨_, _, s_ways 15 h w R, hq_bt (by rw [m0]; decide) (b385 _ _ _ ?_)⟩
  refine ⟨_, _, m5, hq_bf (by decide) (hq_bt (nI_pos' (by omega)) (b408 _ _ _ ?_))⟩
  refine hq_nf rfl ⟨_, _, nd h5 R5, hq_bt (nI_pos' (by omega)) (b425 _ _ _ ?_)⟩
  refine hq_nf rfl ⟨_, _, m6, hq_nt (fun q => by have := (nI_eq (a := hz_narrows w.1) (b := 0) (by omega) (by decide)).mp q; omega) (b442 _ _ _ ?_)⟩
  refine hq_nf rfl ⟨_, _, fw, hq_nt (fun q => f0 ((nI_eq (a := hz_few w.1 63) (b := 0) (by omega) (by decide)).mp q)) (b459 _ _ _ ?_)⟩
  refine hq_nf rfl ⟨_, _, tp, hq_bt (by decide) (b476 _ _ _ ?_)⟩
  refine hq_nf rfl ⟨_, _, s_chn0 R6, hq_nt (fun q => c0 ((nI_eq (a := hz_cost w.1 (hz_chp w.1 63)) (b := 0) (by omega) (by decide)).mp q)) (b493 _ _ _ ?_)⟩
  refine hq_nf rfl ⟨_, _, tp, hq_nt (by decide) (b510 _ _ _ ?_)⟩
  refine hq_nt (fun q => bn ((nI_eq (a := hz_broke w.1 w.1.2.2.1) (b := 0) (by omega) (by decide)).mp q)) ?_
  refine hg_519 b519 R6 y _ _ k _ _ 0 (nI c) rfl (b536 _ _ _ (hq_bf (by decide) (hq_bf (nI_pos (by omega)) ?_)))
  refine ⟨_, _, sc, hq_nf rfl ?_⟩
  refine ⟨_, _, nd h6 R6, ?_⟩
  refine ⟨_, _, sr, hq_nf rfl ?_⟩
  refine ⟨_, _, fw, ?_⟩
  refine ⟨_, _, sf, hq_nf rfl ?_⟩
  exact k589 _
-- ===== rooms =====
theorem hg_667 {J : Nat → hq_C} {h : hq_H} (b667 : (∀ (ls_ : hq_L) (st_ : List hq_V) (h_ : hq_H), (hk_aload 0 (hk_iload 10 (hk_h2 20 ML_forced (some hhL_forced) (hk_iconst (-1) (hk_icmp_ne (hk_iconst 0 (J 682)) (hk_iconst 1 (hk_goto (J 682)))))))) ls_ st_ h_ → J 667 ls_ st_ h_)) (b682 : (∀ (ls_ : hq_L) (st_ : List hq_V) (h_ : hq_H), (hk_iload 7 (hk_if_ne (hk_iconst 0 (J 692)) (hk_iconst 1 (hk_goto (J 692))))) ls_ st_ h_ → J 682 ls_ st_ h_)) (b692 : (∀ (ls_ : hq_L) (st_ : List hq_V) (h_ : hq_H), (hk_icmp_ne (hk_iconst 0 (hk_istore 5 (hk_iinc 10 1 (hk_goto (J 600))))) (hk_iconst 1 (hk_goto (hk_istore 5 (hk_iinc 10 1 (hk_goto (J 600))))))) ls_ st_ h_ → J 692 ls_ st_ h_)) {w : hz_W} (R : hz_RC h w) {q : Nat} (hq : q < 6) (y F B fl k p : Int32) (hp : (hx_P w.1 ∧ p = 1) ∨ (¬ hx_P w.1 ∧ p = 0)) (r9 : Int32) (v8 v11 : Option hq_V)
    (k600 : J 600 (hg_l y F B fl 1 k (some (hz_i p)) v8 (some (hz_i r9)) (some (hz_i (nI q + 1))) v11) [] h) : J 667 (hg_l y F B fl 1 k (some (hz_i p)) v8 (some (hz_i r9)) (some (hz_i (nI q))) v11) [] h := by
  refine b667 _ _ _ ?_
  refine ⟨_, _, v_forced R hq, ?_⟩
  rcases hp with ⟨P, rfl⟩ | ⟨P, rfl⟩
  · refine hq_nt (fun z => (hx_com w.1 q).mp z P) (b682 _ _ _ (hq_nt (by decide) (b692 _ _ _ (hq_nf rfl ?_))))
    exact k600
  · refine hq_nf ((hx_com w.1 q).mpr P) (b682 _ _ _ (hq_nf rfl (b692 _ _ _ (hq_nf rfl ?_))))
    exact k600
theorem hg_600 {J : Nat → hq_C} {h : hq_H} (b600 : (∀ (ls_ : hq_L) (st_ : List hq_V) (h_ : hq_H), (hk_iload 10 (hk_bipush 6 (hk_icmp_ge (hk_iload 5 (hk_if_eq (hk_iconst 0 (hk_zret (hz_o 1) h)) (hk_iload 9 (hk_if_lt (hk_iconst 1 (hk_goto (hk_zret (hz_o 1) h))) (hk_aload 0 (hk_iload 9 (hk_h2 20 ML_refused (some hhL_refused) (hk_if_ge (hk_iconst 0 (hk_zret (hz_o 1) h)) (hk_iload 4 (hk_if_le (hk_iconst 0 (hk_zret (hz_o 1) h)) (hk_iconst 1 (hk_goto (hk_zret (hz_o 1) h))))))))))))) (hk_aload 0 (hk_iload 10 (hk_h2 20 ML_refused (some hhL_refused) (hk_istore 11 (hk_iload 5 (hk_if_eq (hk_iconst 0 (hk_istore 5 (hk_iinc 10 1 (hk_goto (J 600))))) (hk_iload 11 (hk_if_lt (J 667) (hk_aload 0 (hk_iload 11 (hk_h2 20 ML_isStrict (some hhL_isStrict) (hk_iconst 1 (hk_icmp_ne (hk_iconst 0 (hk_istore 5 (hk_iinc 10 1 (hk_goto (J 600))))) (hk_aload 0 (hk_iload 11 (hk_aload 0 (hk_v1r 3 20 MX6_way (hk_h3 20 ML_holds (some hhL_holds) (hk_iconst 1 (hk_icmp_ne (hk_iconst 0 (hk_istore 5 (hk_iinc 10 1 (hk_goto (J 600))))) (hk_aload 0 (hk_iload 11 (hk_aload 0 (hk_v1r 3 20 MX6_way (hk_iconst 1 (hk_iload 10 (hk_ishl (hk_ixor (hk_h3 20 ML_holds (some hhL_holds) (hk_if_ne (hk_iconst 0 (hk_istore 5 (hk_iinc 10 1 (hk_goto (J 600))))) (J 667)))))))))))))))))))))))))))))))))) ls_ st_ h_ → J 600 ls_ st_ h_)) (b667 : (∀ (ls_ : hq_L) (st_ : List hq_V) (h_ : hq_H), (hk_aload 0 (hk_iload 10 (hk_h2 20 ML_forced (some hhL_forced) (hk_iconst (-1) (hk_icmp_ne (hk_iconst 0 (J 682)) (hk_iconst 1 (hk_goto (J 682)))))))) ls_ st_ h_ → J 667 ls_ st_ h_)) (b682 : (∀ (ls_ : hq_L) (st_ : List hq_V) (h_ : hq_H), (hk_iload 7 (hk_if_ne (hk_iconst 0 (J 692)) (hk_iconst 1 (hk_goto (J 692))))) ls_ st_ h_ → J 682 ls_ st_ h_)) (b692 : (∀ (ls_ : hq_L) (st_ : List hq_V) (h_ : hq_H), (hk_icmp_ne (hk_iconst 0 (hk_istore 5 (hk_iinc 10 1 (hk_goto (J 600))))) (hk_iconst 1 (hk_goto (hk_istore 5 (hk_iinc 10 1 (hk_goto (J 600))))))) ls_ st_ h_ → J 692 ls_ st_ h_)) {w : hz_W} (R : hz_RC h w) (y F B k p : Int32) (hp : (hx_P w.1 ∧ p = 1) ∨ (¬ hx_P w.1 ∧ p = 0)) (v8 : Option hq_V) : J 600 (hg_l y F B (nI (hz_cost w.1 (hz_g w.1))) 1 k (some (hz_i p)) v8 (some (hz_i (hz_bt w.1 6).1)) (some (hz_i 0)) none) [] h := by
  have ok := R.2.1
  have n10 := ok.1
  have l90 := hx_cost90 ok (hz_g w.1)
  obtain ⟨g1, g2⟩ := hz_g_is ok
  refine hq_up (P := fun q => ∀ v11, J 600 (hg_l y F B (nI (hz_cost w.1 (hz_g w.1))) 1 k (some (hz_i p)) v8 (some (hz_i (hz_bt w.1 6).1)) (some (hz_i (nI q))) v11) [] h) 6 (fun v11 => b600 _ _ _ ?_) (fun q hq ih v11 => b600 _ _ _ ?_) 0 (Nat.zero_le _) none
  · refine hq_bt (hz_le (a := 6) (b := 6) rfl rfl (Nat.le_refl _) (by decide)) (hq_bf (by decide) ?_)
    obtain ⟨c, h1, h2, h3⟩ := hx_bt ok 6 (Nat.le_refl _)
    rcases h3 with e | ⟨r, hr, e, rf, lt⟩
    · rw [e]
      exact hq_bt (by decide) ⟨Or.inr rfl, rfl, rfl⟩
    · rw [e]
      have v := v_refused R hr
      rw [rf] at v
      refine hq_bf (nI_pos (by omega)) ?_
      refine ⟨_, _, v, hq_bf (by decide) ?_⟩
      exact hq_bf (nI_ge (a := 0) (b := hz_cost w.1 (hz_g w.1)) (by omega) (by omega)) ⟨Or.inr rfl, rfl, rfl⟩
  · refine hq_bf (hz_nle (a := 6) (b := q) rfl rfl hq (by decide)) ?_
    rw [nI_succ q] at ih
    have k667 := fun v11 => hg_667 b667 b682 b692 R hq y F B (nI (hz_cost w.1 (hz_g w.1))) k p hp (hz_bt w.1 6).1 v8 v11 (ih v11)
    have v := v_refused R hq
    rcases hx_rfs w.1 (nI q) with e | ⟨i, hi, e, rf⟩
    · rw [e] at v
      refine ⟨_, _, v, hq_bf (by decide) (hq_bt (by decide) ?_)⟩
      exact k667 _
    · rw [e] at v
      obtain ⟨t1, t2⟩ := hx_turn ok hq
      unfold hz_ref at rf
      rw [Bool.and_eq_true, Bool.and_eq_true, Bool.and_eq_true, decide_eq_true_iff, Bool.not_eq_true', t1] at rf
      obtain ⟨r1, -, r3, r4⟩ := rf
      have s1 := v_isStrict R hi
      rw [r1] at s1
      have s2 := v_holdsNow R hi
      rw [show hg_h w.1 i = true from r3] at s2
      have s3 := v_holds R hi t2
      rw [r4, ← t1] at s3
      refine ⟨_, _, v, hq_bf (by decide) (hq_bf (nI_pos (by omega)) ?_)⟩
      refine ⟨_, _, s1, hq_nf rfl ?_⟩
      refine ⟨_, _, s_way 15 h w R, ?_⟩
      refine ⟨_, _, s2, hq_nf rfl ?_⟩
      refine ⟨_, _, s_way 15 h w R, ?_⟩
      refine ⟨_, _, s3, hq_nf rfl ?_⟩
      exact k667 _
theorem t_hangs {i : Nat} (hi : i ≤ 100) {h : hq_H} {w : hz_W} (R : hz_RC h w) (I : hI i w.1) {Y : Nat} (hY : Y < 2 ^ 31) : ∃ hr, hq_Met 21 ML_hangs [.inr (3, 0), hz_i (nI Y)] h (hz_o 1) hr ∧ hz_RC hr w := by
  have ok := R.2.1
  have n10 := ok.1
  have hS : Y % 2 ^ w.1.1 < 2 ^ w.1.1 := Nat.mod_lt _ (Nat.two_pow_pos _)
  obtain ⟨h1, m1, R1, -⟩ := t_smallestClash 15 h w R
  obtain ⟨h2, m2, R2, -⟩ := t_fewestWaiversBySets 15 h1 w R1
  obtain ⟨h3, m3, R3⟩ := v_join R2 hS
  obtain ⟨h4, m4, R4⟩ := v_joined R3 hS
  obtain ⟨h5, m5, R5, -⟩ := t_smallestClash 15 h4 w R4
  obtain ⟨h6, m6, R6, -⟩ := t_narrowClashes 15 h5 w R5
  refine ⟨h6, ?_, R6⟩
  refine inL_hangs 20 0 (nI Y) h _ _ (fun _ => trivial) (fun J b0 b42 b71 b95 b114 b144 b207 b280 b343 b363 b371 b385 b408 b425 b442 b459 b476 b493 b510 b519 b536 b589 b600 b667 b682 b692 => b0 _ _ _ ?_)
  refine ⟨_, _, s_inForce 15 h w R, ?_⟩
  refine ⟨_, _, s_broken 15 h w R, ?_⟩
  refine ⟨_, _, s_fines 15 h w R, ?_⟩
  refine ⟨_, _, s_finesByRules 15 h w R, hq_nf I.1 (hq_nf (hg_bF ok) ?_)⟩
  refine hg_42 b42 b71 b95 b114 b144 hi R I (nI Y) (fun v7 => ?_)
  refine hg_207 b207 R R1 R2 m1 m2 (nI Y) _ v7 ?_
  refine hg_280 b280 b343 b363 R2 R3 R4 hY m3 m4 _ _ v7 (fun s => ?_)
  rw [hx_night ok]
  have e589 : ∀ p c8 : Int32, ((hx_P w.1 ∧ p = 1) ∨ (¬ hx_P w.1 ∧ p = 0)) → J 589 (hg_l (nI Y) (hg_F w.1) (hg_B w.1) (nI (hz_cost w.1 (hz_g w.1))) 1 s (some (hz_i p)) (some (hz_i c8)) none none none) [hz_i 1] h6 := fun p c8 hp => b589 _ _ _ ⟨_, _, s_bestTurn 15 h6 w R6, hg_600 b600 b667 b682 b692 R6 (nI Y) _ _ s p hp _⟩
  by_cases P : hx_P w.1
  · exact hg_371p b371 b385 b408 b425 b442 b459 b476 b493 b510 b519 b536 P R4 R5 R6 m5 m6 (nI Y) s v7 (e589 1 (-1) (Or.inl ⟨P, rfl⟩))
  · exact hg_371n b371 b385 b408 b425 b442 b459 b476 b493 b510 b519 b536 P R4 R5 R6 m5 m6 (nI Y) s v7 (fun c8 => e589 0 c8 (Or.inr ⟨P, rfl⟩))
