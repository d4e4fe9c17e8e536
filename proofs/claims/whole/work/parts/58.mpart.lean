-- ===== the reference: a part =====
def hm_Ff (F : Nat → Int32) (Q : hr_Q) : Nat → Int32 := hr_put (hr_put (hr_put F 6 (nI Q.2.1)) 9 (Q.2.2 5)) 10 (Q.2.2 6)
theorem m_signs (d : Nat) (h : hq_H) (F : Nat → Int32) {b : Nat → Nat} {n j : Nat} (hb : ∀ i, i < n → b i ≤ 126) (n60 : n ≤ 60) (B : hm_BF h (n, b)) (hj : j ≤ n) {r : Nat → Int32} (sg : hr_sgok r) (h5 : r 5 = 0) (h6 : r 6 = 0) (f6 : F 6 = nI j) : hq_Met (d + 3) MX7_signs [.inr (13, 0)] (hm_f5 h F) (hz_o (hz_b (hl_sg b n (n + 1) j r).1)) (hm_f5 h (hm_Ff F (hl_sg b n (n + 1) j r))) := by
  generalize eQ : hl_sg b n (n + 1) j r = Q
  refine inX7_signs (d + 2) 0 (hm_f5 h F) _ _ (fun _ => trivial) (fun J b0 b14 b48 b63 b110 b133 b149 b168 b187 => b0 _ _ _ ?_)
  have k := m_signs_loop d h hb n60 B Q (hm_Ff F Q) (by unfold hm_Ff; rw [hr_put_n _ _ (by decide), hr_put_n _ _ (by decide), hr_put_e]) (by unfold hm_Ff; rw [hr_put_n _ _ (by decide), hr_put_e]) (by unfold hm_Ff; rw [hr_put_e]) J b14 b48 b63 b110 b133 b149 b168 b187 (n + 1) j r (hr_put (hr_put F 9 0) 10 0) 1 none none (by omega) hj sg ((hr_put_n _ _ (by decide)).trans ((hr_put_n _ _ (by decide)).trans f6)) (by rw [hr_put_n _ _ (by decide), hr_put_e, h5]) (by rw [hr_put_e, h6])
    (by unfold hm_Ff; rw [hr_put_n _ _ (by decide), hr_put_n _ _ (by decide), hr_put_n _ _ (by decide), hr_put_n _ _ (by decide), hr_put_n _ _ (by decide)]) (by unfold hm_Ff; rw [hr_put_n _ _ (by decide), hr_put_n _ _ (by decide), hr_put_n _ _ (by decide), hr_put_n _ _ (by decide), hr_put_n _ _ (by decide)]) eQ
  rw [← hm_f5_p _ _ _ (by decide) (by decide), ← hm_f5_p _ _ _ (by decide) (by decide)] at k
  exact k
theorem hl_sg_keep {b : Nat → Nat} {n : Nat} {s : Nat} (s0 : s ≠ 0) (s5 : s ≠ 5) (s6 : s ≠ 6) : ∀ f j r, hr_sgok r → (hl_sg b n f j r).2.2 s = r s := by
  intro f
  induction f with
  | zero => intro j r _; rfl
  | succ f ih =>
    intro j r h
    unfold hl_sg
    by_cases c : j < n ∧ ¬ b j = 59
    · rw [if_pos c]
      cases e : hr_take r (b j) with
      | none => rfl
      | some r' =>
        have e2 := e
        rw [hr_sg_take h c.2] at e2
        unfold hr_sign at e2
        show (if r' 0 = 4 then hl_S b n (j + 1) r' (fun r2 => hl_sg b n f (j + 2) r2) else hl_sg b n f (j + 1) r').2.2 s = r s
        by_cases c3 : b j = 33 ∧ ¬ (r 5 ||| r 6) = 63
        · rw [if_pos c3] at e2
          have e3 : hr_put r 0 4 = r' := Option.some.inj e2
          subst e3
          rw [if_pos (hr_put_e r 0 4)]
          unfold hl_S
          by_cases c4 : j + 1 < n
          · rw [if_pos c4, hr_take_4 _ (hr_put_e r 0 4)]
            unfold hr_emp
            by_cases u : hr_un (hr_put r 0 4) (b (j + 1)) = true
            · rw [if_pos u]
              show (hl_sg b n f (j + 2) _).2.2 s = r s
              rw [ih (j + 2) _ (hr_sg_emp h u), hr_put_n _ _ s0, hr_put_n _ _ s6, hr_put_n _ _ s0]
            · rw [if_neg u]
              exact hr_put_n _ _ s0
          · rw [if_neg c4]
            exact hr_put_n _ _ s0
        · rw [if_neg c3] at e2
          by_cases u : hr_un r (b j) = true
          · rw [if_pos u] at e2
            have e3 := Option.some.inj e2
            have s' := hr_sg_let h u
            rw [e3] at s'
            rw [if_neg (fun z => by
              have e0 : r' 0 = 3 := by rw [← e3]; exact hr_put_e _ _ _
              rw [e0] at z
              exact absurd z (by decide)), ih (j + 1) _ s', ← e3, hr_put_n _ _ s0, hr_put_n _ _ s5]
          · rw [if_neg u] at e2
            cases e2
    · rw [if_neg c]
theorem hm_num_f {r : Nat → Int32} {c a : Nat} {l x : Int32} (hl : l = nI a) (ha : a ≤ 9) (hc : c ≤ 126) (no : ¬ (48 + a ≤ c ∧ c ≤ 57)) : hr_num r c l x = none := by
  subst hl
  exact if_neg (fun z => by
    obtain ⟨p, h1, h2, h3⟩ := (hr_digit hc ha).mp z
    omega)
theorem hm_num_t {r : Nat → Int32} {c a : Nat} {l x : Int32} (hl : l = nI a) (ha : a ≤ 9) (h1 : 48 + a ≤ c) (h2 : c ≤ 57) : hr_num r c l x = some (hr_put (hr_put r 2 (nI (c - 48))) 0 x) := by
  subst hl
  unfold hr_num
  rw [if_pos ((hr_digit (by omega) ha).mpr ⟨c - 48, by omega, by omega, by omega⟩), hr_digit_v (p := c - 48) (by omega)]
theorem hm_days_f {r : Nat → Int32} {c : Nat} (hc : c ≤ 126) (no : ¬ (48 ≤ c ∧ c ≤ 57)) : hr_days r c = none :=
  if_neg (fun z => by
    obtain ⟨p, h1, h2, h3⟩ := (hr_digit (a := 0) hc (by decide)).mp z
    omega)
theorem hm_days_t {r : Nat → Int32} {c : Nat} (h1 : 48 ≤ c) (h2 : c ≤ 57) : hr_days r c = some (hr_put (hr_put r 3 (nI (c - 48))) 0 9) := by
  have z : ¬ nI c - 48 < 0 ∧ nI c - 48 ≤ 9 := (hr_digit (c := c) (a := 0) (by omega) (by decide)).mpr ⟨c - 48, by omega, by omega, by omega⟩
  unfold hr_days
  rw [if_pos z, hr_digit_v (p := c - 48) (by omega)]
theorem hm_rm_f {r : Nat → Int32} {c : Nat} (no : ¬ (97 ≤ c ∧ c ≤ 102)) : hr_rm r c = none :=
  if_neg (fun z => by
    obtain ⟨p, h1, h2⟩ := hr_room_is.mp z
    omega)
theorem hm_rm_t {r : Nat → Int32} {c : Nat} (h1 : 97 ≤ c) (h2 : c ≤ 102) : hr_rm r c = some (hr_put (hr_put r 4 (nI (c - 97))) 0 9) := by
  unfold hr_rm
  rw [if_pos (hr_room_is.mpr ⟨c - 97, by omega, by omega⟩), hr_room_v (q := c - 97) (by omega)]
def hm_fs (F r : Nat → Int32) : Prop := F 7 = r 1 ∧ (r 1 = 114 → F 8 = r 2 ∧ F 9 = r 5 ∧ F 10 = r 6) ∧ (r 1 = 99 ∨ r 1 = 103 → F 8 = r 4) ∧ (r 1 = 110 → F 8 = r 2) ∧ (r 1 = 118 → F 8 = r 2 ∧ F 9 = r 3)
theorem hd_pI {K : hq_C} {ls : hq_L} {r : List hq_V} {h : hq_H} {F : Nat → Int32} {s : Nat} {x : Int32} (h1 : 6 ≤ s) (h2 : s < 11) (q : K ls r (hm_f5 h (hr_put F s x))) : hk_putI 13 s K ls (hz_i x :: .inr (13, 0) :: r) (hm_f5 h F) := by
  rw [← hm_f5_p _ _ _ h1 h2] at q
  exact q
theorem hd_pC {K : hq_C} {ls : hq_L} {r : List hq_V} {h : hq_H} {F : Nat → Int32} {s : Nat} {x : Int32} (h1 : 6 ≤ s) (h2 : s < 11) (hx : ∃ q, q < 65536 ∧ x = nI q) (q : K ls r (hm_f5 h (hr_put F s x))) : hk_putC 13 s K ls (hz_i x :: .inr (13, 0) :: r) (hm_f5 h F) := by
  rw [← hm_f5_p _ _ _ h1 h2] at q
  exact ⟨hx, q⟩
theorem hd_af {K : hq_C} {l : hq_L} {st : List hq_V} {h : hq_H} {F : Nat → Int32} {s : Nat} {x : Int32} (h1 : 6 ≤ s) (h2 : s < 11) (ft : hq_ft 13 s = 0) (e : F s = x) (q : K (some (.inr (13, 0)) :: l) (hz_i x :: st) (hm_f5 h F)) : hk_aload 0 (hk_getf 13 s K) (some (.inr (13, 0)) :: l) st (hm_f5 h F) := by
  show K (some (.inr (13, 0)) :: l) (hq_fv (hm_f5 h F) 13 0 s :: st) (hm_f5 h F)
  have : hq_fv (hm_f5 h F) 13 0 s = hz_i x := by
    unfold hq_fv
    rw [ft]
    show hz_i ((hm_f5 h F).1 13 0 s) = hz_i x
    rw [hm_f5_g h F h1 h2, e]
  rw [this]
  exact q
theorem hr_put2 (F : Nat → Int32) (s : Nat) (x y : Int32) : hr_put (hr_put F s x) s y = hr_put F s y := by
  funext t
  unfold hr_put
  split <;> rfl
/-- another character asked for -/
theorem hd_nx (d : Nat) {K : hq_C} {l : hq_L} {h : hq_H} {F : Nat → Int32} {b : Nat → Nat} {n i lo hi : Nat} {x y : Int32} (hb : ∀ i, i < n → b i ≤ 126) (n60 : n ≤ 60) (B : hm_BF h (n, b)) (f6 : F 6 = nI i) (hi60 : i < 60) (h1 : lo ≤ 126) (h2 : hi ≤ 126) (hx : x = nI lo) (hy : y = nI hi)
    (q : K (some (.inr (13, 0)) :: l) [hz_i (hm_rd b n (i + 1) lo hi), .inr (13, 0)] (hm_f5 h (hr_put F 6 (nI (hm_ra b n (i + 1) lo hi))))) : hk_aload 0 (hk_dup (hk_getf 13 6 (hk_iconst 1 (hk_iadd (hk_putI 13 6 (hk_aload 0 (hk_aload 0 (hk_bipush x (hk_bipush y (hk_v3r 13 (d + 3) MX7_reads K)))))))))) (some (.inr (13, 0)) :: l) [] (hm_f5 h F) := by
  have e1 : hq_si (hm_f5 h F) 13 0 6 ((hm_f5 h F).1 13 0 6 + 1) = hm_f5 h (hr_put F 6 (nI (i + 1))) := by
    rw [hm_f5_p _ _ _ (by decide) (by decide), hm_f5_g h F (by decide) (by decide), f6, ← nI_succ]
  have m := m_reads d h (hr_put F 6 (nI (i + 1))) hb n60 B (j := i + 1) (hr_put_e _ _ _) (by omega) h1 h2 hx hy
  rw [← e1, hr_put2] at m
  exact ⟨_, _, m, q⟩
theorem hd_p1 {K : hq_C} {ls : hq_L} {r : List hq_V} {h : hq_H} {F : Nat → Int32} {s : Nat} {x : Int32} (h1 : 6 ≤ s) (h2 : s < 11) (q : K ls r (hm_f5 h (hr_put F s (x + 1)))) : hk_iconst 1 (hk_iadd (hk_putI 13 s K)) ls (hz_i x :: .inr (13, 0) :: r) (hm_f5 h F) := by
  rw [← hm_f5_p _ _ _ h1 h2] at q
  exact q
theorem hl_S_t {b : Nat → Nat} {n j : Nat} {r r' : Nat → Int32} {K : (Nat → Int32) → hr_Q} (hj : j < n) (e : hr_take r (b j) = some r') : hl_S b n j r K = K r' := by
  unfold hl_S
  rw [if_pos hj, e]
theorem hl_S_f {b : Nat → Nat} {n j : Nat} {r : Nat → Int32} {K : (Nat → Int32) → hr_Q} (e : j < n → hr_take r (b j) = none) : hl_S b n j r K = (false, j, r) := by
  unfold hl_S
  by_cases c : j < n
  · rw [if_pos c, e c]
  · rw [if_neg c]
theorem hm_isa_f {b : Nat → Nat} {n j lo hi : Nat} (t : hm_isa b n j lo hi = false) : j < n → ¬ (lo ≤ b j ∧ b j ≤ hi) := fun l z => by
  rw [hm_isa_t.mpr ⟨l, z.1, z.2⟩] at t
  cases t
theorem hm_rd_f {b : Nat → Nat} {n j lo hi : Nat} (t : hm_isa b n j lo hi = false) : hm_rd b n j lo hi = -1 := if_neg (by rw [t]; decide)
theorem hm_ra_f {b : Nat → Nat} {n j lo hi : Nat} (t : hm_isa b n j lo hi = false) : hm_ra b n j lo hi = j := if_neg (by rw [t]; decide)
theorem hm_rd_t {b : Nat → Nat} {n j lo hi : Nat} (t : hm_isa b n j lo hi = true) : hm_rd b n j lo hi = nI (b j - lo) := if_pos t
theorem hm_ra_t {b : Nat → Nat} {n j lo hi : Nat} (t : hm_isa b n j lo hi = true) : hm_ra b n j lo hi = j + 1 := if_pos t
def hr_k (r : Nat → Int32) (c : Nat) (v : Int32) : Nat → Int32 := hr_put (hr_put (hr_put (hr_put r 1 (nI c)) 5 0) 6 0) 0 v
theorem hr_k_0 (r : Nat → Int32) (c : Nat) (v : Int32) : hr_k r c v 0 = v := hr_put_e _ _ _
theorem hr_k_1 (r : Nat → Int32) (c : Nat) (v : Int32) : hr_k r c v 1 = nI c := by
  unfold hr_k
  rw [hr_put_n _ _ (by decide), hr_put_n _ _ (by decide), hr_put_n _ _ (by decide), hr_put_e]
theorem hr_k_5 (r : Nat → Int32) (c : Nat) (v : Int32) : hr_k r c v 5 = 0 := by
  unfold hr_k
  rw [hr_put_n _ _ (by decide), hr_put_n _ _ (by decide), hr_put_e]
theorem hr_k_6 (r : Nat → Int32) (c : Nat) (v : Int32) : hr_k r c v 6 = 0 := by
  unfold hr_k
  rw [hr_put_n _ _ (by decide), hr_put_e]
theorem hl_part_k {b : Nat → Nat} {n i c : Nat} {r : Nat → Int32} {v : Int32} (h0 : r 0 = 0) (l : i < n) (hc : b i = c) (hv : hr_bh c = v) (v0 : ¬ v = 0) : hl_part b n i r = (if v = 1 then hl_S b n (i + 1) (hr_k r c v) (fun r2 => hl_sg b n (n + 1) (i + 2) r2) else if v = 7 then hl_S b n (i + 1) (hr_k r c v) (fun r2 => hl_S b n (i + 2) r2 (fun r3 => (true, i + 3, r3))) else hl_S b n (i + 1) (hr_k r c v) (fun r2 => (true, i + 2, r2))) := by
  have t : hr_take r (b i) = some (hr_k r c v) := by
    rw [hr_take_0 _ h0, hc]
    unfold hr_kind
    rw [hv, if_neg v0]
    rfl
  unfold hl_part
  rw [hl_S_t l t, hr_k_0]
theorem hl_part_n {b : Nat → Nat} {n i : Nat} {r : Nat → Int32} (h0 : r 0 = 0) (z : i < n → hr_bh (b i) = 0) : hl_part b n i r = (false, i, r) := by
  unfold hl_part
  refine hl_S_f (fun l => ?_)
  rw [hr_take_0 _ h0]
  exact if_pos (z l)
theorem hd_a0 {K : hq_C} {l : hq_L} {st : List hq_V} {h : hq_H} (q : K (some (.inr (13, 0)) :: l) (.inr (13, 0) :: st) h) : hk_aload 0 K (some (.inr (13, 0)) :: l) st h := q
theorem hd_nn {K1 K2 : hq_C} {l : hq_L} {h : hq_H} {F : Nat → Int32} {c k : Nat} {x : Int32} (f7 : F 7 = nI c) (hx : x = nI k) (ne : c ≠ k) (hc : c ≤ 126) (hk : k ≤ 126) (q : K1 (some (.inr (13, 0)) :: l) [] (hm_f5 h F)) : hk_aload 0 (hk_getf 13 7 (hk_bipush x (hk_icmp_ne K1 K2))) (some (.inr (13, 0)) :: l) [] (hm_f5 h F) :=
  hd_af (by decide) (by decide) rfl f7 (hq_nt (hz_ne (a := c) (b := k) rfl hx ne (by omega) (by omega)) q)
theorem hd_ne {K1 K2 : hq_C} {l : hq_L} {h : hq_H} {F : Nat → Int32} {c k : Nat} {x : Int32} (f7 : F 7 = nI c) (hx : x = nI k) (e : c = k) (q : K2 (some (.inr (13, 0)) :: l) [] (hm_f5 h F)) : hk_aload 0 (hk_getf 13 7 (hk_bipush x (hk_icmp_ne K1 K2))) (some (.inr (13, 0)) :: l) [] (hm_f5 h F) :=
  hd_af (by decide) (by decide) rfl f7 (hq_nf (by rw [e, hx]) q)
theorem hd_en {K1 K2 : hq_C} {l : hq_L} {h : hq_H} {F : Nat → Int32} {c k : Nat} {x : Int32} (f7 : F 7 = nI c) (hx : x = nI k) (ne : c ≠ k) (hc : c ≤ 126) (hk : k ≤ 126) (q : K2 (some (.inr (13, 0)) :: l) [] (hm_f5 h F)) : hk_aload 0 (hk_getf 13 7 (hk_bipush x (hk_icmp_eq K1 K2))) (some (.inr (13, 0)) :: l) [] (hm_f5 h F) :=
  hd_af (by decide) (by decide) rfl f7 (hq_bf (hz_ne (a := c) (b := k) rfl hx ne (by omega) (by omega)) q)
theorem hd_ee {K1 K2 : hq_C} {l : hq_L} {h : hq_H} {F : Nat → Int32} {c k : Nat} {x : Int32} (f7 : F 7 = nI c) (hx : x = nI k) (e : c = k) (q : K1 (some (.inr (13, 0)) :: l) [] (hm_f5 h F)) : hk_aload 0 (hk_getf 13 7 (hk_bipush x (hk_icmp_eq K1 K2))) (some (.inr (13, 0)) :: l) [] (hm_f5 h F) :=
  hd_af (by decide) (by decide) rfl f7 (hq_bt (by rw [e, hx]) q)
theorem hm_fs_r {F r : Nat → Int32} (e : F 7 = 114) (e1 : r 1 = 114) (e8 : F 8 = r 2) (e9 : F 9 = r 5) (e10 : F 10 = r 6) : hm_fs F r := ⟨e.trans e1.symm, fun _ => ⟨e8, e9, e10⟩, fun z => by
  rw [e1] at z
  exact absurd z (by decide), fun z => by
  rw [e1] at z
  exact absurd z (by decide), fun z => by
  rw [e1] at z
  exact absurd z (by decide)⟩
theorem hm_fs_c {F r : Nat → Int32} {v : Int32} (hv : v = 99 ∨ v = 103) (e : F 7 = v) (e1 : r 1 = v) (e8 : F 8 = r 4) : hm_fs F r := by
  refine ⟨e.trans e1.symm, fun z => ?_, fun _ => e8, fun z => ?_, fun z => ?_⟩ <;> (rw [e1] at z; rcases hv with hv | hv <;> (rw [hv] at z; exact absurd z (by decide)))
theorem hm_fs_n {F r : Nat → Int32} (e : F 7 = 110) (e1 : r 1 = 110) (e8 : F 8 = r 2) : hm_fs F r := by
  refine ⟨e.trans e1.symm, fun z => ?_, fun z => ?_, fun _ => e8, fun z => ?_⟩ <;> (rw [e1] at z; exact absurd z (by decide))
theorem hm_fs_v {F r : Nat → Int32} (e : F 7 = 118) (e1 : r 1 = 118) (e8 : F 8 = r 2) (e9 : F 9 = r 3) : hm_fs F r := by
  refine ⟨e.trans e1.symm, fun z => ?_, fun z => ?_, fun z => ?_, fun _ => ⟨e8, e9⟩⟩ <;> (rw [e1] at z; exact absurd z (by decide))
theorem m_part (d : Nat) (h : hq_H) (F : Nat → Int32) {b : Nat → Nat} {n i : Nat} (hb : ∀ i, i < n → b i ≤ 126) (n60 : n ≤ 60) (B : hm_BF h (n, b)) (hi : i ≤ n) {r : Nat → Int32} (h0 : r 0 = 0) (f6 : F 6 = nI i) : ∃ F', hq_Met (d + 4) MX7_part [.inr (13, 0)] (hm_f5 h F) (hz_o (hz_b (hl_part b n i r).1)) (hm_f5 h F') ∧ F' 6 = nI (hl_part b n i r).2.1 ∧ ((hl_part b n i r).1 = true → hm_fs F' (hl_part b n i r).2.2) := by
  have BF := hm_f5_BF F B
  have a6 : (hm_f5 h F).1 13 0 6 = nI i := (hm_f5_g h F (by decide) (by decide)).trans f6
  obtain ⟨c, hc, hi1, hi2⟩ : ∃ c, c ≤ 126 ∧ (i < n → b i = c) ∧ (¬ i < n → c = 32) := by
    by_cases l : i < n
    · exact ⟨b i, hb i l, fun _ => rfl, fun z => absurd l z⟩
    · exact ⟨32, by decide, fun z => absurd z l, fun _ => rfl⟩
  have f16 : (hr_put F 7 (nI c)) 6 = nI i := (hr_put_n _ _ (by decide)).trans f6
  have run : ∀ (F' : Nat → Int32) (x : Bool), (∀ J : Nat → hq_C, (∀ (ls_ : hq_L) (st_ : List hq_V) (h_ : hq_H), (hk_putC 13 7 (hk_aload 0 (hk_getf 13 7 (hk_bipush 114 (hk_icmp_ne (hk_aload 0 (hk_getf 13 7 (hk_bipush 99 (hk_icmp_eq (J 100) (hk_aload 0 (hk_getf 13 7 (hk_bipush 103 (hk_icmp_ne (hk_aload 0 (hk_getf 13 7 (hk_bipush 110 (hk_icmp_ne (hk_aload 0 (hk_getf 13 7 (hk_bipush 118 (hk_icmp_ne (hk_iconst 0 (hk_zret (hz_o (hz_b x)) (hm_f5 h F'))) (hk_aload 0 (hk_dup (hk_getf 13 6 (hk_iconst 1 (hk_iadd (hk_putI 13 6 (hk_aload 0 (hk_aload 0 (hk_bipush 48 (hk_bipush 57 (hk_v3r 13 (d + 3) MX7_reads (hk_putI 13 8 (hk_aload 0 (hk_aload 0 (hk_getf 13 8 (hk_if_ge (hk_aload 0 (hk_bipush 48 (hk_bipush 57 (hk_v3r 13 (d + 3) MX7_reads (J 232))))) (hk_iconst (-1) (hk_goto (J 232))))))))))))))))))))))) (hk_aload 0 (hk_dup (hk_getf 13 6 (hk_iconst 1 (hk_iadd (hk_putI 13 6 (hk_aload 0 (hk_aload 0 (hk_bipush 49 (hk_bipush 57 (hk_v3r 13 (d + 3) MX7_reads (hk_iconst 1 (hk_iadd (hk_putI 13 8 (hk_aload 0 (hk_getf 13 8 (hk_if_le (hk_iconst 0 (hk_zret (hz_o (hz_b x)) (hm_f5 h F'))) (hk_iconst 1 (hk_goto (hk_zret (hz_o (hz_b x)) (hm_f5 h F'))))))))))))))))))))))))) (J 100))))))))) (hk_aload 0 (hk_dup (hk_getf 13 6 (hk_iconst 1 (hk_iadd (hk_putI 13 6 (hk_aload 0 (hk_aload 0 (hk_bipush 49 (hk_bipush 57 (hk_v3r 13 (d + 3) MX7_reads (hk_iconst 1 (hk_iadd (hk_putI 13 8 (hk_aload 0 (hk_getf 13 8 (hk_if_le (hk_iconst 0 (hk_zret (hz_o (hz_b x)) (hm_f5 h F'))) (hk_aload 0 (hk_v1r 13 (d + 3) MX7_signs (hk_if_eq (hk_iconst 0 (hk_zret (hz_o (hz_b x)) (hm_f5 h F'))) (hk_iconst 1 (hk_goto (hk_zret (hz_o (hz_b x)) (hm_f5 h F'))))))))))))))))))))))))))))) ls_ st_ h_ → J 26 ls_ st_ h_) → (∀ (ls_ : hq_L) (st_ : List hq_V) (h_ : hq_H), (hk_aload 0 (hk_dup (hk_getf 13 6 (hk_iconst 1 (hk_iadd (hk_putI 13 6 (hk_aload 0 (hk_aload 0 (hk_bipush 97 (hk_bipush 102 (hk_v3r 13 (d + 3) MX7_reads (hk_putI 13 8 (hk_aload 0 (hk_getf 13 8 (hk_if_lt (hk_iconst 0 (hk_zret (hz_o (hz_b x)) (hm_f5 h F'))) (hk_iconst 1 (hk_goto (hk_zret (hz_o (hz_b x)) (hm_f5 h F'))))))))))))))))))) ls_ st_ h_ → J 100 ls_ st_ h_) → (∀ (ls_ : hq_L) (st_ : List hq_V) (h_ : hq_H), (hk_putI 13 9 (hk_aload 0 (hk_getf 13 9 (hk_if_lt (hk_iconst 0 (hk_zret (hz_o (hz_b x)) (hm_f5 h F'))) (hk_iconst 1 (hk_goto (hk_zret (hz_o (hz_b x)) (hm_f5 h F')))))))) ls_ st_ h_ → J 232 ls_ st_ h_) → J 26 [some (.inr (13, 0))] [hz_i (nI c), .inr (13, 0)] (hm_f5 h F)) → hq_Met (d + 4) MX7_part [.inr (13, 0)] (hm_f5 h F) (hz_o (hz_b x)) (hm_f5 h F') := by
    intro F' x k
    refine inX7_part (d + 3) 0 (hm_f5 h F) _ _ (fun _ => trivial) (fun J b0 b26 b100 b232 => b0 _ _ _ ?_)
    have k1 := k J b26 b100 b232
    by_cases l : i < n
    · refine hq_bf (hz_nle (a := n) (b := i) BF.1 a6 l (by omega)) ?_
      refine ⟨i, by omega, a6, ?_⟩
      have e : nI c = (hm_f5 h F).1 15 0 i := ((BF.2 i l).trans (congrArg nI (hi1 l))).symm
      rw [e] at k1
      exact k1
    · have e := hi2 l
      subst e
      exact hq_bt (hz_le (a := n) (b := i) BF.1 a6 (by omega) (by omega)) k1
  by_cases c114 : c = 114
  · have l : i < n := by
      by_cases l : i < n
      · exact l
      · have := hi2 l; omega
    have eP := hl_part_k h0 l (hi1 l) (v := 1) (by rw [c114]; rfl) (by decide)
    rw [if_pos rfl] at eP
    have pre : ∀ (F' : Nat → Int32) (x : Bool) (J : Nat → hq_C), (∀ (ls_ : hq_L) (st_ : List hq_V) (h_ : hq_H), (hk_putC 13 7 (hk_aload 0 (hk_getf 13 7 (hk_bipush 114 (hk_icmp_ne (hk_aload 0 (hk_getf 13 7 (hk_bipush 99 (hk_icmp_eq (J 100) (hk_aload 0 (hk_getf 13 7 (hk_bipush 103 (hk_icmp_ne (hk_aload 0 (hk_getf 13 7 (hk_bipush 110 (hk_icmp_ne (hk_aload 0 (hk_getf 13 7 (hk_bipush 118 (hk_icmp_ne (hk_iconst 0 (hk_zret (hz_o (hz_b x)) (hm_f5 h F'))) (hk_aload 0 (hk_dup (hk_getf 13 6 (hk_iconst 1 (hk_iadd (hk_putI 13 6 (hk_aload 0 (hk_aload 0 (hk_bipush 48 (hk_bipush 57 (hk_v3r 13 (d + 3) MX7_reads (hk_putI 13 8 (hk_aload 0 (hk_aload 0 (hk_getf 13 8 (hk_if_ge (hk_aload 0 (hk_bipush 48 (hk_bipush 57 (hk_v3r 13 (d + 3) MX7_reads (J 232))))) (hk_iconst (-1) (hk_goto (J 232))))))))))))))))))))))) (hk_aload 0 (hk_dup (hk_getf 13 6 (hk_iconst 1 (hk_iadd (hk_putI 13 6 (hk_aload 0 (hk_aload 0 (hk_bipush 49 (hk_bipush 57 (hk_v3r 13 (d + 3) MX7_reads (hk_iconst 1 (hk_iadd (hk_putI 13 8 (hk_aload 0 (hk_getf 13 8 (hk_if_le (hk_iconst 0 (hk_zret (hz_o (hz_b x)) (hm_f5 h F'))) (hk_iconst 1 (hk_goto (hk_zret (hz_o (hz_b x)) (hm_f5 h F'))))))))))))))))))))))))) (J 100))))))))) (hk_aload 0 (hk_dup (hk_getf 13 6 (hk_iconst 1 (hk_iadd (hk_putI 13 6 (hk_aload 0 (hk_aload 0 (hk_bipush 49 (hk_bipush 57 (hk_v3r 13 (d + 3) MX7_reads (hk_iconst 1 (hk_iadd (hk_putI 13 8 (hk_aload 0 (hk_getf 13 8 (hk_if_le (hk_iconst 0 (hk_zret (hz_o (hz_b x)) (hm_f5 h F'))) (hk_aload 0 (hk_v1r 13 (d + 3) MX7_signs (hk_if_eq (hk_iconst 0 (hk_zret (hz_o (hz_b x)) (hm_f5 h F'))) (hk_iconst 1 (hk_goto (hk_zret (hz_o (hz_b x)) (hm_f5 h F'))))))))))))))))))))))))))))) ls_ st_ h_ → J 26 ls_ st_ h_) → hk_iconst 1 (hk_iadd (hk_putI 13 8 (hk_aload 0 (hk_getf 13 8 (hk_if_le (hk_iconst 0 (hk_zret (hz_o (hz_b x)) (hm_f5 h F'))) (hk_aload 0 (hk_v1r 13 (d + 3) MX7_signs (hk_if_eq (hk_iconst 0 (hk_zret (hz_o (hz_b x)) (hm_f5 h F'))) (hk_iconst 1 (hk_goto (hk_zret (hz_o (hz_b x)) (hm_f5 h F')))))))))))) [some (.inr (13, 0))] [hz_i (hm_rd b n (i + 1) 49 57), .inr (13, 0)] (hm_f5 h (hr_put (hr_put F 7 (nI c)) 6 (nI (hm_ra b n (i + 1) 49 57)))) → J 26 [some (.inr (13, 0))] [hz_i (nI c), .inr (13, 0)] (hm_f5 h F) := by
      intro F' x J b26 k
      refine b26 _ _ _ (hd_pC (by decide) (by decide) ⟨c, by omega, rfl⟩ ?_)
      refine hd_af (by decide) (by decide) rfl (hr_put_e _ _ _) ?_
      refine hq_nf (by rw [c114]; rfl) ?_
      exact hd_nx d hb n60 B f16 (by omega) (lo := 49) (hi := 57) (by decide) (by decide) rfl rfl k
    cases t : hm_isa b n (i + 1) 49 57 with
    | false =>
      rw [hl_S_f (fun l2 => by
        rw [hr_take_1 _ (hr_k_0 _ _ _)]
        exact hm_num_f (a := 1) rfl (by decide) (hb _ l2) (hm_isa_f t l2))] at eP
      rw [eP]
      refine ⟨hr_put (hr_put (hr_put F 7 (nI c)) 6 (nI (i + 1))) 8 (-1 + 1), run _ _ (fun J b26 b100 b232 => pre _ _ J b26 ?_), ?_, fun z => (by cases z)⟩
      · rw [hm_rd_f t, hm_ra_f t]
        refine hd_p1 (by decide) (by decide) ?_
        refine hd_af (by decide) (by decide) rfl (hr_put_e _ _ _) ?_
        exact hq_bt (by decide) ⟨Or.inl rfl, rfl, rfl⟩
      · rw [hr_put_n _ _ (by decide), hr_put_e]
    | true =>
      obtain ⟨l2, c1, c2⟩ := hm_isa_t.mp t
      have t2 : hr_take (hr_k r c 1) (b (i + 1)) = some (hr_put (hr_put (hr_k r c 1) 2 (nI (b (i + 1) - 48))) 0 2) := by
        rw [hr_take_1 _ (hr_k_0 _ _ _)]
        exact hm_num_t (a := 1) rfl (by decide) (by omega) c2
      rw [hl_S_t l2 t2] at eP
      obtain ⟨r2, e2⟩ : ∃ r2, hr_put (hr_put (hr_k r c 1) 2 (nI (b (i + 1) - 48))) 0 2 = r2 := ⟨_, rfl⟩
      rw [e2] at eP
      have v0 : r2 0 = 2 := by rw [← e2, hr_put_e]
      have v1 : r2 1 = 114 := by
        rw [← e2, hr_put_n _ _ (by decide), hr_put_n _ _ (by decide), hr_k_1, c114]
        rfl
      have v2 : r2 2 = nI (b (i + 1) - 48) := by rw [← e2, hr_put_n _ _ (by decide), hr_put_e]
      have v5 : r2 5 = 0 := by rw [← e2, hr_put_n _ _ (by decide), hr_put_n _ _ (by decide), hr_k_5]
      have v6 : r2 6 = 0 := by rw [← e2, hr_put_n _ _ (by decide), hr_put_n _ _ (by decide), hr_k_6]
      have sg : hr_sgok r2 := ⟨0, 0, by decide, by decide, v5, v6, rfl, Or.inl ⟨v0, rfl⟩, v1, b (i + 1) - 48, by omega, by omega, v2⟩
      have k1 := (hl_sg_keep (b := b) (n := n) (s := 1) (by decide) (by decide) (by decide) (n + 1) (i + 2) r2 sg).trans v1
      have k2 := (hl_sg_keep (b := b) (n := n) (s := 2) (by decide) (by decide) (by decide) (n + 1) (i + 2) r2 sg).trans v2
      have ms := m_signs d h (hr_put (hr_put (hr_put F 7 (nI c)) 6 (nI (i + 2))) 8 (nI (b (i + 1) - 49) + 1)) hb n60 B (j := i + 2) (by omega) sg v5 v6 (by rw [hr_put_n _ _ (by decide), hr_put_e])
      rw [eP]
      generalize hl_sg b n (n + 1) (i + 2) r2 = Q at *
      refine ⟨hm_Ff (hr_put (hr_put (hr_put F 7 (nI c)) 6 (nI (i + 2))) 8 (nI (b (i + 1) - 49) + 1)) Q, run _ _ (fun J b26 b100 b232 => pre _ _ J b26 ?_), ?_, fun _ => hm_fs_r ?_ k1 ?_ ?_ ?_⟩
      · rw [hm_rd_t t, hm_ra_t t]
        refine hd_p1 (by decide) (by decide) ?_
        refine hd_af (by decide) (by decide) rfl (hr_put_e _ _ _) ?_
        refine hq_bf (hz_nle (a := b (i + 1) - 49 + 1) (b := 0) (nI_succ _).symm rfl (by omega) (by omega)) ?_
        refine ⟨_, _, ms, ?_⟩
        by_cases y : Q.1 = true
        · exact hq_bf (by rw [y]; exact hz_one0) ⟨Or.inr rfl, hz_rb y, rfl⟩
        · exact hq_bt (by rw [ts_nt y]; rfl) ⟨Or.inl rfl, hz_rf (ts_nt y), rfl⟩
      · unfold hm_Ff
        rw [hr_put_n _ _ (by decide), hr_put_n _ _ (by decide), hr_put_e]
      · unfold hm_Ff
        rw [hr_put_n _ _ (by decide), hr_put_n _ _ (by decide), hr_put_n _ _ (by decide), hr_put_n _ _ (by decide), hr_put_n _ _ (by decide), hr_put_e, c114]
        rfl
      · unfold hm_Ff
        rw [hr_put_n _ _ (by decide), hr_put_n _ _ (by decide), hr_put_n _ _ (by decide), hr_put_e, k2, ← nI_succ, show b (i + 1) - 49 + 1 = b (i + 1) - 48 by omega]
      · unfold hm_Ff
        rw [hr_put_n _ _ (by decide), hr_put_e]
      · unfold hm_Ff
        rw [hr_put_e]
  · by_cases cr : c = 99 ∨ c = 103
    · have l : i < n := by
        by_cases l : i < n
        · exact l
        · have := hi2 l; omega
      have eP := hl_part_k h0 l (hi1 l) (v := 5) (by rcases cr with cr | cr <;> rw [cr] <;> rfl) (by decide)
      rw [if_neg (by decide), if_neg (by decide)] at eP
      have pre : ∀ (F' : Nat → Int32) (x : Bool) (J : Nat → hq_C), (∀ (ls_ : hq_L) (st_ : List hq_V) (h_ : hq_H), (hk_putC 13 7 (hk_aload 0 (hk_getf 13 7 (hk_bipush 114 (hk_icmp_ne (hk_aload 0 (hk_getf 13 7 (hk_bipush 99 (hk_icmp_eq (J 100) (hk_aload 0 (hk_getf 13 7 (hk_bipush 103 (hk_icmp_ne (hk_aload 0 (hk_getf 13 7 (hk_bipush 110 (hk_icmp_ne (hk_aload 0 (hk_getf 13 7 (hk_bipush 118 (hk_icmp_ne (hk_iconst 0 (hk_zret (hz_o (hz_b x)) (hm_f5 h F'))) (hk_aload 0 (hk_dup (hk_getf 13 6 (hk_iconst 1 (hk_iadd (hk_putI 13 6 (hk_aload 0 (hk_aload 0 (hk_bipush 48 (hk_bipush 57 (hk_v3r 13 (d + 3) MX7_reads (hk_putI 13 8 (hk_aload 0 (hk_aload 0 (hk_getf 13 8 (hk_if_ge (hk_aload 0 (hk_bipush 48 (hk_bipush 57 (hk_v3r 13 (d + 3) MX7_reads (J 232))))) (hk_iconst (-1) (hk_goto (J 232))))))))))))))))))))))) (hk_aload 0 (hk_dup (hk_getf 13 6 (hk_iconst 1 (hk_iadd (hk_putI 13 6 (hk_aload 0 (hk_aload 0 (hk_bipush 49 (hk_bipush 57 (hk_v3r 13 (d + 3) MX7_reads (hk_iconst 1 (hk_iadd (hk_putI 13 8 (hk_aload 0 (hk_getf 13 8 (hk_if_le (hk_iconst 0 (hk_zret (hz_o (hz_b x)) (hm_f5 h F'))) (hk_iconst 1 (hk_goto (hk_zret (hz_o (hz_b x)) (hm_f5 h F'))))))))))))))))))))))))) (J 100))))))))) (hk_aload 0 (hk_dup (hk_getf 13 6 (hk_iconst 1 (hk_iadd (hk_putI 13 6 (hk_aload 0 (hk_aload 0 (hk_bipush 49 (hk_bipush 57 (hk_v3r 13 (d + 3) MX7_reads (hk_iconst 1 (hk_iadd (hk_putI 13 8 (hk_aload 0 (hk_getf 13 8 (hk_if_le (hk_iconst 0 (hk_zret (hz_o (hz_b x)) (hm_f5 h F'))) (hk_aload 0 (hk_v1r 13 (d + 3) MX7_signs (hk_if_eq (hk_iconst 0 (hk_zret (hz_o (hz_b x)) (hm_f5 h F'))) (hk_iconst 1 (hk_goto (hk_zret (hz_o (hz_b x)) (hm_f5 h F'))))))))))))))))))))))))))))) ls_ st_ h_ → J 26 ls_ st_ h_) → (∀ (ls_ : hq_L) (st_ : List hq_V) (h_ : hq_H), (hk_aload 0 (hk_dup (hk_getf 13 6 (hk_iconst 1 (hk_iadd (hk_putI 13 6 (hk_aload 0 (hk_aload 0 (hk_bipush 97 (hk_bipush 102 (hk_v3r 13 (d + 3) MX7_reads (hk_putI 13 8 (hk_aload 0 (hk_getf 13 8 (hk_if_lt (hk_iconst 0 (hk_zret (hz_o (hz_b x)) (hm_f5 h F'))) (hk_iconst 1 (hk_goto (hk_zret (hz_o (hz_b x)) (hm_f5 h F'))))))))))))))))))) ls_ st_ h_ → J 100 ls_ st_ h_) → hk_putI 13 8 (hk_aload 0 (hk_getf 13 8 (hk_if_lt (hk_iconst 0 (hk_zret (hz_o (hz_b x)) (hm_f5 h F'))) (hk_iconst 1 (hk_goto (hk_zret (hz_o (hz_b x)) (hm_f5 h F'))))))) [some (.inr (13, 0))] [hz_i (hm_rd b n (i + 1) 97 102), .inr (13, 0)] (hm_f5 h (hr_put (hr_put F 7 (nI c)) 6 (nI (hm_ra b n (i + 1) 97 102)))) → J 26 [some (.inr (13, 0))] [hz_i (nI c), .inr (13, 0)] (hm_f5 h F) := by
        intro F' x J b26 b100 k
        have k100 : J 100 [some (.inr (13, 0))] [] (hm_f5 h (hr_put F 7 (nI c))) := b100 _ _ _ (hd_nx d hb n60 B f16 (by omega) (lo := 97) (hi := 102) (by decide) (by decide) rfl rfl k)
        refine b26 _ _ _ (hd_pC (by decide) (by decide) ⟨c, by omega, rfl⟩ ?_)
        refine hd_nn (k := 114) (hr_put_e _ _ _) rfl c114 hc (by decide) ?_
        by_cases c99 : c = 99
        · exact hd_ee (k := 99) (hr_put_e _ _ _) rfl c99 k100
        · refine hd_en (k := 99) (hr_put_e _ _ _) rfl c99 hc (by decide) ?_
          exact hd_ne (k := 103) (hr_put_e _ _ _) rfl (by omega) k100
      have cv : nI c = 99 ∨ nI c = 103 := by
        rcases cr with cr | cr
        · rw [cr]; exact Or.inl rfl
        · rw [cr]; exact Or.inr rfl
      cases t : hm_isa b n (i + 1) 97 102 with
      | false =>
        rw [hl_S_f (fun l2 => by
          rw [hr_take_5 _ (hr_k_0 _ _ _)]
          exact hm_rm_f (hm_isa_f t l2))] at eP
        rw [eP]
        refine ⟨hr_put (hr_put (hr_put F 7 (nI c)) 6 (nI (i + 1))) 8 (-1), run _ _ (fun J b26 b100 b232 => pre _ _ J b26 b100 ?_), ?_, fun z => (by cases z)⟩
        · rw [hm_rd_f t, hm_ra_f t]
          refine hd_pI (by decide) (by decide) ?_
          refine hd_af (by decide) (by decide) rfl (hr_put_e _ _ _) ?_
          exact hq_bt (by decide) ⟨Or.inl rfl, rfl, rfl⟩
        · rw [hr_put_n _ _ (by decide), hr_put_e]
      | true =>
        obtain ⟨l2, c1, c2⟩ := hm_isa_t.mp t
        have t2 : hr_take (hr_k r c 5) (b (i + 1)) = some (hr_put (hr_put (hr_k r c 5) 4 (nI (b (i + 1) - 97))) 0 9) := by
          rw [hr_take_5 _ (hr_k_0 _ _ _)]
          exact hm_rm_t c1 c2
        rw [hl_S_t l2 t2] at eP
        rw [eP]
        refine ⟨hr_put (hr_put (hr_put F 7 (nI c)) 6 (nI (i + 2))) 8 (nI (b (i + 1) - 97)), run _ _ (fun J b26 b100 b232 => pre _ _ J b26 b100 ?_), ?_, fun _ => hm_fs_c cv ?_ ?_ ?_⟩
        · rw [hm_rd_t t, hm_ra_t t]
          refine hd_pI (by decide) (by decide) ?_
          refine hd_af (by decide) (by decide) rfl (hr_put_e _ _ _) ?_
          exact hq_bf (hz_nlt (a := b (i + 1) - 97) (b := 0) rfl rfl (by omega) (by omega)) ⟨Or.inr rfl, rfl, rfl⟩
        · rw [hr_put_n _ _ (by decide), hr_put_e]
        · rw [hr_put_n _ _ (by decide), hr_put_n _ _ (by decide), hr_put_e]
        · dsimp only
          rw [hr_put_n _ _ (by decide), hr_put_n _ _ (by decide), hr_k_1]
        · dsimp only
          rw [hr_put_e, hr_put_n _ _ (by decide), hr_put_e]
    · by_cases c110 : c = 110
      · have l : i < n := by
          by_cases l : i < n
          · exact l
          · have := hi2 l; omega
        have eP := hl_part_k h0 l (hi1 l) (v := 6) (by rw [c110]; rfl) (by decide)
        rw [if_neg (by decide), if_neg (by decide)] at eP
        have pre : ∀ (F' : Nat → Int32) (x : Bool) (J : Nat → hq_C), (∀ (ls_ : hq_L) (st_ : List hq_V) (h_ : hq_H), (hk_putC 13 7 (hk_aload 0 (hk_getf 13 7 (hk_bipush 114 (hk_icmp_ne (hk_aload 0 (hk_getf 13 7 (hk_bipush 99 (hk_icmp_eq (J 100) (hk_aload 0 (hk_getf 13 7 (hk_bipush 103 (hk_icmp_ne (hk_aload 0 (hk_getf 13 7 (hk_bipush 110 (hk_icmp_ne (hk_aload 0 (hk_getf 13 7 (hk_bipush 118 (hk_icmp_ne (hk_iconst 0 (hk_zret (hz_o (hz_b x)) (hm_f5 h F'))) (hk_aload 0 (hk_dup (hk_getf 13 6 (hk_iconst 1 (hk_iadd (hk_putI 13 6 (hk_aload 0 (hk_aload 0 (hk_bipush 48 (hk_bipush 57 (hk_v3r 13 (d + 3) MX7_reads (hk_putI 13 8 (hk_aload 0 (hk_aload 0 (hk_getf 13 8 (hk_if_ge (hk_aload 0 (hk_bipush 48 (hk_bipush 57 (hk_v3r 13 (d + 3) MX7_reads (J 232))))) (hk_iconst (-1) (hk_goto (J 232))))))))))))))))))))))) (hk_aload 0 (hk_dup (hk_getf 13 6 (hk_iconst 1 (hk_iadd (hk_putI 13 6 (hk_aload 0 (hk_aload 0 (hk_bipush 49 (hk_bipush 57 (hk_v3r 13 (d + 3) MX7_reads (hk_iconst 1 (hk_iadd (hk_putI 13 8 (hk_aload 0 (hk_getf 13 8 (hk_if_le (hk_iconst 0 (hk_zret (hz_o (hz_b x)) (hm_f5 h F'))) (hk_iconst 1 (hk_goto (hk_zret (hz_o (hz_b x)) (hm_f5 h F'))))))))))))))))))))))))) (J 100))))))))) (hk_aload 0 (hk_dup (hk_getf 13 6 (hk_iconst 1 (hk_iadd (hk_putI 13 6 (hk_aload 0 (hk_aload 0 (hk_bipush 49 (hk_bipush 57 (hk_v3r 13 (d + 3) MX7_reads (hk_iconst 1 (hk_iadd (hk_putI 13 8 (hk_aload 0 (hk_getf 13 8 (hk_if_le (hk_iconst 0 (hk_zret (hz_o (hz_b x)) (hm_f5 h F'))) (hk_aload 0 (hk_v1r 13 (d + 3) MX7_signs (hk_if_eq (hk_iconst 0 (hk_zret (hz_o (hz_b x)) (hm_f5 h F'))) (hk_iconst 1 (hk_goto (hk_zret (hz_o (hz_b x)) (hm_f5 h F'))))))))))))))))))))))))))))) ls_ st_ h_ → J 26 ls_ st_ h_) → hk_iconst 1 (hk_iadd (hk_putI 13 8 (hk_aload 0 (hk_getf 13 8 (hk_if_le (hk_iconst 0 (hk_zret (hz_o (hz_b x)) (hm_f5 h F'))) (hk_iconst 1 (hk_goto (hk_zret (hz_o (hz_b x)) (hm_f5 h F'))))))))) [some (.inr (13, 0))] [hz_i (hm_rd b n (i + 1) 49 57), .inr (13, 0)] (hm_f5 h (hr_put (hr_put F 7 (nI c)) 6 (nI (hm_ra b n (i + 1) 49 57)))) → J 26 [some (.inr (13, 0))] [hz_i (nI c), .inr (13, 0)] (hm_f5 h F) := by
          intro F' x J b26 k
          refine b26 _ _ _ (hd_pC (by decide) (by decide) ⟨c, by omega, rfl⟩ ?_)
          refine hd_nn (k := 114) (hr_put_e _ _ _) rfl c114 hc (by decide) ?_
          refine hd_en (k := 99) (hr_put_e _ _ _) rfl (by omega) hc (by decide) ?_
          refine hd_nn (k := 103) (hr_put_e _ _ _) rfl (by omega) hc (by decide) ?_
          refine hd_ne (k := 110) (hr_put_e _ _ _) rfl c110 ?_
          exact hd_nx d hb n60 B f16 (by omega) (lo := 49) (hi := 57) (by decide) (by decide) rfl rfl k
        have cv : nI c = 110 := by rw [c110]; rfl
        cases t : hm_isa b n (i + 1) 49 57 with
        | false =>
          rw [hl_S_f (fun l2 => by
            rw [hr_take_6 _ (hr_k_0 _ _ _)]
            exact hm_num_f (a := 1) rfl (by decide) (hb _ l2) (hm_isa_f t l2))] at eP
          rw [eP]
          refine ⟨hr_put (hr_put (hr_put F 7 (nI c)) 6 (nI (i + 1))) 8 (-1 + 1), run _ _ (fun J b26 b100 b232 => pre _ _ J b26 ?_), ?_, fun z => (by cases z)⟩
          · rw [hm_rd_f t, hm_ra_f t]
            refine hd_p1 (by decide) (by decide) ?_
            refine hd_af (by decide) (by decide) rfl (hr_put_e _ _ _) ?_
            exact hq_bt (by decide) ⟨Or.inl rfl, rfl, rfl⟩
          · rw [hr_put_n _ _ (by decide), hr_put_e]
        | true =>
          obtain ⟨l2, c1, c2⟩ := hm_isa_t.mp t
          have t2 : hr_take (hr_k r c 6) (b (i + 1)) = some (hr_put (hr_put (hr_k r c 6) 2 (nI (b (i + 1) - 48))) 0 9) := by
            rw [hr_take_6 _ (hr_k_0 _ _ _)]
            exact hm_num_t (a := 1) rfl (by decide) (by omega) c2
          rw [hl_S_t l2 t2] at eP
          rw [eP]
          refine ⟨hr_put (hr_put (hr_put F 7 (nI c)) 6 (nI (i + 2))) 8 (nI (b (i + 1) - 49) + 1), run _ _ (fun J b26 b100 b232 => pre _ _ J b26 ?_), ?_, fun _ => hm_fs_n ?_ ?_ ?_⟩
          · rw [hm_rd_t t, hm_ra_t t]
            refine hd_p1 (by decide) (by decide) ?_
            refine hd_af (by decide) (by decide) rfl (hr_put_e _ _ _) ?_
            exact hq_bf (hz_nle (a := b (i + 1) - 49 + 1) (b := 0) (nI_succ _).symm rfl (by omega) (by omega)) ⟨Or.inr rfl, rfl, rfl⟩
          · rw [hr_put_n _ _ (by decide), hr_put_e]
          · rw [hr_put_n _ _ (by decide), hr_put_n _ _ (by decide), hr_put_e, cv]
          · dsimp only
            rw [hr_put_n _ _ (by decide), hr_put_n _ _ (by decide), hr_k_1, cv]
          · dsimp only
            rw [hr_put_e, hr_put_n _ _ (by decide), hr_put_e, ← nI_succ, show b (i + 1) - 49 + 1 = b (i + 1) - 48 by omega]
      · by_cases c118 : c = 118
        · have l : i < n := by
            by_cases l : i < n
            · exact l
            · have := hi2 l; omega
          have eP := hl_part_k h0 l (hi1 l) (v := 7) (by rw [c118]; rfl) (by decide)
          rw [if_neg (by decide), if_pos rfl] at eP
          have pre : ∀ (F' : Nat → Int32) (x : Bool) (J : Nat → hq_C), (∀ (ls_ : hq_L) (st_ : List hq_V) (h_ : hq_H), (hk_putC 13 7 (hk_aload 0 (hk_getf 13 7 (hk_bipush 114 (hk_icmp_ne (hk_aload 0 (hk_getf 13 7 (hk_bipush 99 (hk_icmp_eq (J 100) (hk_aload 0 (hk_getf 13 7 (hk_bipush 103 (hk_icmp_ne (hk_aload 0 (hk_getf 13 7 (hk_bipush 110 (hk_icmp_ne (hk_aload 0 (hk_getf 13 7 (hk_bipush 118 (hk_icmp_ne (hk_iconst 0 (hk_zret (hz_o (hz_b x)) (hm_f5 h F'))) (hk_aload 0 (hk_dup (hk_getf 13 6 (hk_iconst 1 (hk_iadd (hk_putI 13 6 (hk_aload 0 (hk_aload 0 (hk_bipush 48 (hk_bipush 57 (hk_v3r 13 (d + 3) MX7_reads (hk_putI 13 8 (hk_aload 0 (hk_aload 0 (hk_getf 13 8 (hk_if_ge (hk_aload 0 (hk_bipush 48 (hk_bipush 57 (hk_v3r 13 (d + 3) MX7_reads (J 232))))) (hk_iconst (-1) (hk_goto (J 232))))))))))))))))))))))) (hk_aload 0 (hk_dup (hk_getf 13 6 (hk_iconst 1 (hk_iadd (hk_putI 13 6 (hk_aload 0 (hk_aload 0 (hk_bipush 49 (hk_bipush 57 (hk_v3r 13 (d + 3) MX7_reads (hk_iconst 1 (hk_iadd (hk_putI 13 8 (hk_aload 0 (hk_getf 13 8 (hk_if_le (hk_iconst 0 (hk_zret (hz_o (hz_b x)) (hm_f5 h F'))) (hk_iconst 1 (hk_goto (hk_zret (hz_o (hz_b x)) (hm_f5 h F'))))))))))))))))))))))))) (J 100))))))))) (hk_aload 0 (hk_dup (hk_getf 13 6 (hk_iconst 1 (hk_iadd (hk_putI 13 6 (hk_aload 0 (hk_aload 0 (hk_bipush 49 (hk_bipush 57 (hk_v3r 13 (d + 3) MX7_reads (hk_iconst 1 (hk_iadd (hk_putI 13 8 (hk_aload 0 (hk_getf 13 8 (hk_if_le (hk_iconst 0 (hk_zret (hz_o (hz_b x)) (hm_f5 h F'))) (hk_aload 0 (hk_v1r 13 (d + 3) MX7_signs (hk_if_eq (hk_iconst 0 (hk_zret (hz_o (hz_b x)) (hm_f5 h F'))) (hk_iconst 1 (hk_goto (hk_zret (hz_o (hz_b x)) (hm_f5 h F'))))))))))))))))))))))))))))) ls_ st_ h_ → J 26 ls_ st_ h_) → hk_putI 13 8 (hk_aload 0 (hk_aload 0 (hk_getf 13 8 (hk_if_ge (hk_aload 0 (hk_bipush 48 (hk_bipush 57 (hk_v3r 13 (d + 3) MX7_reads (J 232))))) (hk_iconst (-1) (hk_goto (J 232))))))) [some (.inr (13, 0))] [hz_i (hm_rd b n (i + 1) 48 57), .inr (13, 0)] (hm_f5 h (hr_put (hr_put F 7 (nI c)) 6 (nI (hm_ra b n (i + 1) 48 57)))) → J 26 [some (.inr (13, 0))] [hz_i (nI c), .inr (13, 0)] (hm_f5 h F) := by
            intro F' x J b26 k
            refine b26 _ _ _ (hd_pC (by decide) (by decide) ⟨c, by omega, rfl⟩ ?_)
            refine hd_nn (k := 114) (hr_put_e _ _ _) rfl c114 hc (by decide) ?_
            refine hd_en (k := 99) (hr_put_e _ _ _) rfl (by omega) hc (by decide) ?_
            refine hd_nn (k := 103) (hr_put_e _ _ _) rfl (by omega) hc (by decide) ?_
            refine hd_nn (k := 110) (hr_put_e _ _ _) rfl c110 hc (by decide) ?_
            refine hd_ne (k := 118) (hr_put_e _ _ _) rfl c118 ?_
            exact hd_nx d hb n60 B f16 (by omega) (lo := 48) (hi := 57) (by decide) (by decide) rfl rfl k
          have cv : nI c = 118 := by rw [c118]; rfl
          cases t : hm_isa b n (i + 1) 48 57 with
          | false =>
            rw [hl_S_f (fun l2 => by
              rw [hr_take_7 _ (hr_k_0 _ _ _)]
              exact hm_num_f (a := 0) rfl (by decide) (hb _ l2) (hm_isa_f t l2))] at eP
            rw [eP]
            refine ⟨hr_put (hr_put (hr_put (hr_put F 7 (nI c)) 6 (nI (i + 1))) 8 (-1)) 9 (-1), run _ _ (fun J b26 b100 b232 => pre _ _ J b26 ?_), ?_, fun z => (by cases z)⟩
            · rw [hm_rd_f t, hm_ra_f t]
              refine hd_pI (by decide) (by decide) (hd_a0 ?_)
              refine hd_af (by decide) (by decide) rfl (hr_put_e _ _ _) ?_
              refine hq_bf (by decide) (b232 _ _ _ (hd_pI (by decide) (by decide) ?_))
              refine hd_af (by decide) (by decide) rfl (hr_put_e _ _ _) ?_
              exact hq_bt (by decide) ⟨Or.inl rfl, rfl, rfl⟩
            · rw [hr_put_n _ _ (by decide), hr_put_n _ _ (by decide), hr_put_e]
          | true =>
            obtain ⟨l2, c1, c2⟩ := hm_isa_t.mp t
            have t2 : hr_take (hr_k r c 7) (b (i + 1)) = some (hr_put (hr_put (hr_k r c 7) 2 (nI (b (i + 1) - 48))) 0 8) := by
              rw [hr_take_7 _ (hr_k_0 _ _ _)]
              exact hm_num_t (a := 0) rfl (by decide) (by omega) c2
            rw [hl_S_t l2 t2] at eP
            have mr := m_reads d h (hr_put (hr_put (hr_put F 7 (nI c)) 6 (nI (i + 2))) 8 (nI (b (i + 1) - 48))) hb n60 B (j := i + 2) (by rw [hr_put_n _ _ (by decide), hr_put_e]) (by omega) (lo := 48) (hi := 57) (by decide) (by decide) rfl rfl
            cases t' : hm_isa b n (i + 2) 48 57 with
            | false =>
              rw [hl_S_f (fun l3 => by
                rw [hr_take_8 _ (hr_put_e _ _ _)]
                exact hm_days_f (hb _ l3) (hm_isa_f t' l3))] at eP
              rw [hm_rd_f t', hm_ra_f t'] at mr
              rw [eP]
              refine ⟨hr_put (hr_put (hr_put (hr_put (hr_put F 7 (nI c)) 6 (nI (i + 2))) 8 (nI (b (i + 1) - 48))) 6 (nI (i + 2))) 9 (-1), run _ _ (fun J b26 b100 b232 => pre _ _ J b26 ?_), ?_, fun z => (by cases z)⟩
              · rw [hm_rd_t t, hm_ra_t t]
                refine hd_pI (by decide) (by decide) (hd_a0 ?_)
                refine hd_af (by decide) (by decide) rfl (hr_put_e _ _ _) ?_
                refine hq_bt (hz_le (a := 0) (b := b (i + 1) - 48) rfl rfl (by omega) (by omega)) ?_
                refine ⟨_, _, mr, b232 _ _ _ (hd_pI (by decide) (by decide) ?_)⟩
                refine hd_af (by decide) (by decide) rfl (hr_put_e _ _ _) ?_
                exact hq_bt (by decide) ⟨Or.inl rfl, rfl, rfl⟩
              · rw [hr_put_n _ _ (by decide), hr_put_e]
            | true =>
              obtain ⟨l3, c3, c4⟩ := hm_isa_t.mp t'
              have t3 : hr_take (hr_put (hr_put (hr_k r c 7) 2 (nI (b (i + 1) - 48))) 0 8) (b (i + 2)) = some (hr_put (hr_put (hr_put (hr_put (hr_k r c 7) 2 (nI (b (i + 1) - 48))) 0 8) 3 (nI (b (i + 2) - 48))) 0 9) := by
                rw [hr_take_8 _ (hr_put_e _ _ _)]
                exact hm_days_t c3 c4
              rw [hl_S_t l3 t3] at eP
              rw [hm_rd_t t', hm_ra_t t'] at mr
              rw [eP]
              refine ⟨hr_put (hr_put (hr_put (hr_put (hr_put F 7 (nI c)) 6 (nI (i + 2))) 8 (nI (b (i + 1) - 48))) 6 (nI (i + 3))) 9 (nI (b (i + 2) - 48)), run _ _ (fun J b26 b100 b232 => pre _ _ J b26 ?_), ?_, fun _ => hm_fs_v ?_ ?_ ?_ ?_⟩
              · rw [hm_rd_t t, hm_ra_t t]
                refine hd_pI (by decide) (by decide) (hd_a0 ?_)
                refine hd_af (by decide) (by decide) rfl (hr_put_e _ _ _) ?_
                refine hq_bt (hz_le (a := 0) (b := b (i + 1) - 48) rfl rfl (by omega) (by omega)) ?_
                refine ⟨_, _, mr, b232 _ _ _ (hd_pI (by decide) (by decide) ?_)⟩
                refine hd_af (by decide) (by decide) rfl (hr_put_e _ _ _) ?_
                exact hq_bf (hz_nlt (a := b (i + 2) - 48) (b := 0) rfl rfl (by omega) (by omega)) ⟨Or.inr rfl, rfl, rfl⟩
              · rw [hr_put_n _ _ (by decide), hr_put_e]
              · rw [hr_put_n _ _ (by decide), hr_put_n _ _ (by decide), hr_put_n _ _ (by decide), hr_put_n _ _ (by decide), hr_put_e, cv]
              · dsimp only
                rw [hr_put_n _ _ (by decide), hr_put_n _ _ (by decide), hr_put_n _ _ (by decide), hr_put_n _ _ (by decide), hr_k_1, cv]
              · dsimp only
                rw [hr_put_n _ _ (by decide), hr_put_n _ _ (by decide), hr_put_e, hr_put_n _ _ (by decide), hr_put_n _ _ (by decide), hr_put_n _ _ (by decide), hr_put_e]
              · dsimp only
                rw [hr_put_e, hr_put_n _ _ (by decide), hr_put_e]
        · have eP := hl_part_n (b := b) (n := n) (i := i) h0 (fun l => by
            rw [hi1 l]
            unfold hr_bh
            rw [if_neg (by omega), if_neg (by omega), if_neg c110, if_neg c114, if_neg c118])
          rw [eP]
          refine ⟨hr_put F 7 (nI c), run _ _ (fun J b26 b100 b232 => ?_), f16, fun z => (by cases z)⟩
          refine b26 _ _ _ (hd_pC (by decide) (by decide) ⟨c, by omega, rfl⟩ ?_)
          refine hd_nn (k := 114) (hr_put_e _ _ _) rfl c114 hc (by decide) ?_
          refine hd_en (k := 99) (hr_put_e _ _ _) rfl (by omega) hc (by decide) ?_
          refine hd_nn (k := 103) (hr_put_e _ _ _) rfl (by omega) hc (by decide) ?_
          refine hd_nn (k := 110) (hr_put_e _ _ _) rfl c110 hc (by decide) ?_
          refine hd_nn (k := 118) (hr_put_e _ _ _) rfl c118 hc (by decide) ?_
          exact ⟨Or.inl rfl, rfl, rfl⟩
