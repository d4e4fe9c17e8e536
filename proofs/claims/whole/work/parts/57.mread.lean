-- ===== the reference: reading =====
def hm_f5 (h : hq_H) (F : Nat → Int32) : hq_H := (fun k i s => if k = 13 ∧ i = 0 ∧ 6 ≤ s ∧ s < 11 then F s else h.1 k i s, h.2)
theorem hm_f5_at (h : hq_H) (F : Nat → Int32) (k i s : Nat) : (hm_f5 h F).1 k i s = if k = 13 ∧ i = 0 ∧ 6 ≤ s ∧ s < 11 then F s else h.1 k i s := rfl
theorem hm_f5_g (h : hq_H) (F : Nat → Int32) {s : Nat} (h1 : 6 ≤ s) (h2 : s < 11) : (hm_f5 h F).1 13 0 s = F s := by rw [hm_f5_at, if_pos ⟨rfl, rfl, h1, h2⟩]
theorem hm_f5_n (h : hq_H) (F : Nat → Int32) {s : Nat} (h1 : s < 6 ∨ 11 ≤ s) : (hm_f5 h F).1 13 0 s = h.1 13 0 s := by rw [hm_f5_at, if_neg (fun z => by omega)]
theorem hm_f5_k (h : hq_H) (F : Nat → Int32) {k : Nat} (hk : k ≠ 13) (i : Nat) : (hm_f5 h F).1 k i = h.1 k i := by
  funext s
  rw [hm_f5_at, if_neg (fun z => hk z.1)]
theorem hm_f5_p (h : hq_H) (F : Nat → Int32) {s : Nat} (x : Int32) (h1 : 6 ≤ s) (h2 : s < 11) : hq_si (hm_f5 h F) 13 0 s x = hm_f5 h (hr_put F s x) := by
  refine hq_ext (fun k i s' => ?_) (fun _ _ _ => rfl)
  rw [hq_si_at, hm_f5_at, hm_f5_at]
  unfold hr_put
  by_cases c : k = 13 ∧ i = 0
  · by_cases e : s' = s
    · rw [if_pos ⟨c.1, e, c.2⟩, if_pos ⟨c.1, c.2, by omega, by omega⟩, if_pos e]
    · rw [if_neg (fun z => e z.2.1), if_neg e]
  · rw [if_neg (fun z => c ⟨z.1, z.2.2⟩), if_neg (fun z => c ⟨z.1, z.2.1⟩), if_neg (fun z => c ⟨z.1, z.2.1⟩)]
theorem hm_f5_0 (h : hq_H) : hm_f5 h (h.1 13 0) = h := by
  refine hq_ext (fun k i s => ?_) (fun _ _ _ => rfl)
  rw [hm_f5_at]
  by_cases c : k = 13 ∧ i = 0 ∧ 6 ≤ s ∧ s < 11
  · rw [if_pos c, c.1, c.2.1]
  · rw [if_neg c]
theorem hm_f5_e (h : hq_H) {F G : Nat → Int32} (e : ∀ s, 6 ≤ s → s < 11 → F s = G s) : hm_f5 h F = hm_f5 h G := by
  refine hq_ext (fun k i s => ?_) (fun _ _ _ => rfl)
  rw [hm_f5_at, hm_f5_at]
  by_cases c : k = 13 ∧ i = 0 ∧ 6 ≤ s ∧ s < 11
  · rw [if_pos c, if_pos c, e s c.2.2.1 c.2.2.2]
  · rw [if_neg c, if_neg c]
theorem hm_f5_BF {h : hq_H} {b : Nat × (Nat → Nat)} (F : Nat → Int32) (B : hm_BF h b) : hm_BF (hm_f5 h F) b := ⟨(hm_f5_n h F (by decide)).trans B.1, fun i hi => by
  rw [hm_f5_k h F (by decide)]
  exact B.2 i hi⟩
def hm_isa (b : Nat → Nat) (n j lo hi : Nat) : Bool := decide (j < n) && (decide (lo ≤ b j) && decide (b j ≤ hi))
theorem hm_isa_t {b : Nat → Nat} {n j lo hi : Nat} : hm_isa b n j lo hi = true ↔ j < n ∧ lo ≤ b j ∧ b j ≤ hi := by
  unfold hm_isa
  rw [Bool.and_eq_true, Bool.and_eq_true, decide_eq_true_iff, decide_eq_true_iff, decide_eq_true_iff]
theorem m_isAt (d : Nat) (g : hq_H) {b : Nat → Nat} {n j lo hi : Nat} (hb : ∀ i, i < n → b i ≤ 126) (n60 : n ≤ 60) (B : hm_BF g (n, b)) (ha : g.1 13 0 6 = nI j) (hj : j ≤ 60) (h1 : lo ≤ 126) (h2 : hi ≤ 126) {x y : Int32} (hx : x = nI lo) (hy : y = nI hi) : hq_Met (d + 2) MX7_isAt [.inr (13, 0), hz_i x, hz_i y] g (hz_o (hz_b (hm_isa b n j lo hi))) g := by
  subst hx
  subst hy
  refine inX7_isAt (d + 1) 0 (nI lo) (nI hi) g _ _ (fun _ => trivial) (fun J b0 => b0 _ _ _ ?_)
  unfold hm_isa
  by_cases c : j < n
  · rw [decide_eq_true c, Bool.true_and]
    refine hq_bf (hz_nle (a := n) (b := j) B.1 ha c (by omega)) ?_
    refine ⟨j, by omega, ha, ?_⟩
    have cj := hb j c
    have m := m_in d (g.1 15 0 j) (nI lo) (nI hi) g
    have e1 : decide (nI lo ≤ g.1 15 0 j) = decide (lo ≤ b j) := decide_eq_decide.mpr (by rw [B.2 j c]; exact nI_leI (by omega) (show (n, b).2 j < 2 ^ 31 by show b j < 2 ^ 31; omega))
    have e2 : decide (g.1 15 0 j ≤ nI hi) = decide (b j ≤ hi) := decide_eq_decide.mpr (by rw [B.2 j c]; exact nI_leI (show (n, b).2 j < 2 ^ 31 by show b j < 2 ^ 31; omega) (by omega))
    rw [e1, e2] at m
    refine ⟨_, _, m, ?_⟩
    cases (decide (lo ≤ b j) && decide (b j ≤ hi)) with
    | false => exact hq_bt rfl ⟨Or.inl rfl, rfl, rfl⟩
    | true => exact hq_bf hz_one0 ⟨Or.inr rfl, rfl, rfl⟩
  · rw [decide_eq_false c]
    exact hq_bt (hz_le (a := n) (b := j) B.1 ha (by omega) (by omega)) ⟨Or.inl rfl, rfl, rfl⟩
def hm_rd (b : Nat → Nat) (n j lo hi : Nat) : Int32 := if hm_isa b n j lo hi = true then nI (b j - lo) else -1
def hm_ra (b : Nat → Nat) (n j lo hi : Nat) : Nat := if hm_isa b n j lo hi = true then j + 1 else j
theorem m_reads (d : Nat) (h : hq_H) (F : Nat → Int32) {b : Nat → Nat} {n j lo hi : Nat} (hb : ∀ i, i < n → b i ≤ 126) (n60 : n ≤ 60) (B : hm_BF h (n, b)) (ha : F 6 = nI j) (hj : j ≤ 60) (h1 : lo ≤ 126) (h2 : hi ≤ 126) {x y : Int32} (hx : x = nI lo) (hy : y = nI hi) : hq_Met (d + 3) MX7_reads [.inr (13, 0), hz_i x, hz_i y] (hm_f5 h F) (hz_o (hm_rd b n j lo hi)) (hm_f5 h (hr_put F 6 (nI (hm_ra b n j lo hi)))) := by
  have BF := hm_f5_BF F B
  have a6 : (hm_f5 h F).1 13 0 6 = nI j := (hm_f5_g h F (by decide) (by decide)).trans ha
  have mi := m_isAt d (hm_f5 h F) hb n60 BF a6 hj h1 h2 hx hy
  unfold hm_rd hm_ra
  cases c : hm_isa b n j lo hi with
  | false =>
    rw [c] at mi
    have e : hq_si (hm_f5 h F) 13 0 6 ((hm_f5 h F).1 13 0 6 + 0) = hm_f5 h (hr_put F 6 (nI j)) := by
      rw [hm_f5_p _ _ _ (by decide) (by decide), a6, hz_add0]
    refine inX7_reads (d + 2) 0 x y (hm_f5 h F) _ _ (fun _ => trivial) (fun J b0 b21 => b0 _ _ _ ?_)
    refine ⟨_, _, mi, hq_bt rfl ?_⟩
    refine b21 _ _ _ (hq_bt rfl ?_)
    exact ⟨rfl, e⟩
  | true =>
    rw [c] at mi
    obtain ⟨c1, c2, c3⟩ := hm_isa_t.mp c
    have e : hq_si (hm_f5 h F) 13 0 6 ((hm_f5 h F).1 13 0 6 + 1) = hm_f5 h (hr_put F 6 (nI (j + 1))) := by
      rw [hm_f5_p _ _ _ (by decide) (by decide), a6, ← nI_succ]
    have v6 : (hq_si (hm_f5 h F) 13 0 6 ((hm_f5 h F).1 13 0 6 + 1)).1 13 0 6 - 1 = nI j := by
      rw [e, hm_f5_g _ _ (by decide) (by decide), hr_put_e, nI_pred]
    have vt : (hq_si (hm_f5 h F) 13 0 6 ((hm_f5 h F).1 13 0 6 + 1)).1 15 0 j = nI (b j) := by
      rw [e, hm_f5_k _ _ (by decide)]
      exact B.2 j c1
    refine inX7_reads (d + 2) 0 x y (hm_f5 h F) _ _ (fun _ => trivial) (fun J b0 b21 => b0 _ _ _ ?_)
    refine ⟨_, _, mi, hq_bf hz_one0 ?_⟩
    refine b21 _ _ _ (hq_bf hz_one0 ?_)
    refine ⟨j, by omega, v6, hz_ri ?_, e⟩
    show (if true = true then nI (b j - lo) else -1) = (hq_si (hm_f5 h F) 13 0 6 ((hm_f5 h F).1 13 0 6 + 1)).1 15 0 j - x
    rw [vt, hx]
    exact (pk_sub c2).symm
theorem hd_ap {K : hq_C} {ls : hq_L} {r : List hq_V} {h : hq_H} {s : Nat} {x y : Int32} (q : K ls r (hq_si h 13 0 s (x + y))) : hk_iadd (hk_putI 13 s K) ls (hz_i y :: hz_i x :: .inr (13, 0) :: r) h := q
-- ===== the signs of a rule =====
theorem hm_q97 {c : Nat} (h1 : 97 ≤ c) (h2 : c ≤ 102) : ∃ q, q < 6 ∧ c = 97 + q := ⟨c - 97, by omega, by omega⟩
theorem hr_un_t {r : Nat → Int32} {l e q : Nat} (hl : l < 64) (he : e < 64) (h5 : r 5 = nI l) (h6 : r 6 = nI e) (hq : q < 6) (hn : (l ||| e).testBit q = false) : hr_un r (97 + q) = true := (hr_un_is hl he h5 h6).mpr ⟨q, hq, rfl, hn⟩
theorem hr_un_f {r : Nat → Int32} {l e c : Nat} (hl : l < 64) (he : e < 64) (h5 : r 5 = nI l) (h6 : r 6 = nI e) (hn : ∀ q, q < 6 → c = 97 + q → (l ||| e).testBit q = true) : hr_un r c = false := ts_nt (fun z => by
  obtain ⟨q, hq, hc, t⟩ := (hr_un_is hl he h5 h6).mp z
  rw [hn q hq hc] at t
  cases t)
theorem m_signs_loop (d : Nat) (h : hq_H) {b : Nat → Nat} {n : Nat} (hb : ∀ i, i < n → b i ≤ 126) (n60 : n ≤ 60) (B : hm_BF h (n, b)) (Q : hr_Q) (Ff : Nat → Int32) (E6 : Ff 6 = nI Q.2.1) (E9 : Ff 9 = Q.2.2 5) (E10 : Ff 10 = Q.2.2 6) (J : Nat → hq_C)
    (b14 : (∀ (ls_ : hq_L) (st_ : List hq_V) (h_ : hq_H), (hk_iload 1 (hk_if_eq (hk_iload 2 (hk_if_eq (hk_iconst 0 (hk_zret (hz_o (hz_b Q.1)) (hm_f5 h Ff))) (hk_aload 0 (hk_getf 13 9 (hk_aload 0 (hk_getf 13 10 (hk_ior (hk_if_eq (hk_iconst 0 (hk_zret (hz_o (hz_b Q.1)) (hm_f5 h Ff))) (hk_iconst 1 (hk_goto (hk_zret (hz_o (hz_b Q.1)) (hm_f5 h Ff)))))))))))) (hk_aload 0 (hk_getf 13 9 (hk_aload 0 (hk_getf 13 10 (hk_ior (hk_bipush 63 (hk_icmp_eq (hk_iconst 0 (J 48)) (hk_aload 0 (hk_bipush 33 (hk_bipush 33 (hk_v3r 13 (d + 2) MX7_isAt (hk_if_eq (hk_iconst 0 (J 48)) (hk_iconst 1 (hk_goto (J 48))))))))))))))))) ls_ st_ h_ → J 14 ls_ st_ h_)) (b48 : (∀ (ls_ : hq_L) (st_ : List hq_V) (h_ : hq_H), (hk_istore 3 (hk_aload 0 (hk_dup (hk_getf 13 6 (hk_iload 3 (hk_if_eq (hk_iconst 0 (J 63)) (hk_iconst 1 (hk_goto (J 63))))))))) ls_ st_ h_ → J 48 ls_ st_ h_)) (b63 : (∀ (ls_ : hq_L) (st_ : List hq_V) (h_ : hq_H), (hk_iadd (hk_putI 13 6 (hk_aload 0 (hk_bipush 97 (hk_bipush 102 (hk_v3r 13 (d + 2) MX7_isAt (hk_if_eq (hk_iconst 0 (J 110)) (hk_aload 0 (hk_getf 13 9 (hk_aload 0 (hk_getf 13 10 (hk_ior (hk_aload 0 (hk_getf 13 4 (hk_aload 0 (hk_getf 13 6 (hk_cald 15 60 (hk_bipush 97 (hk_isub (hk_s2r (d + 2) MX7_isIn (hk_if_ne (hk_iconst 0 (J 110)) (hk_iconst 1 (hk_goto (J 110)))))))))))))))))))))))) ls_ st_ h_ → J 63 ls_ st_ h_)) (b110 : (∀ (ls_ : hq_L) (st_ : List hq_V) (h_ : hq_H), (hk_istore 1 (hk_iload 1 (hk_if_eq (hk_iconst 0 (J 133)) (hk_iconst 1 (hk_aload 0 (hk_getf 13 4 (hk_aload 0 (hk_getf 13 6 (hk_cald 15 60 (hk_bipush 97 (hk_isub (hk_ishl (hk_goto (J 133)))))))))))))) ls_ st_ h_ → J 110 ls_ st_ h_)) (b133 : (∀ (ls_ : hq_L) (st_ : List hq_V) (h_ : hq_H), (hk_istore 4 (hk_aload 0 (hk_dup (hk_getf 13 6 (hk_iload 1 (hk_if_eq (hk_iconst 0 (J 149)) (hk_iconst 1 (hk_goto (J 149))))))))) ls_ st_ h_ → J 133 ls_ st_ h_)) (b149 : (∀ (ls_ : hq_L) (st_ : List hq_V) (h_ : hq_H), (hk_iadd (hk_putI 13 6 (hk_aload 0 (hk_dup (hk_getf 13 9 (hk_iload 3 (hk_if_eq (hk_iload 4 (J 168)) (hk_iconst 0 (hk_goto (J 168)))))))))) ls_ st_ h_ → J 149 ls_ st_ h_)) (b168 : (∀ (ls_ : hq_L) (st_ : List hq_V) (h_ : hq_H), (hk_ior (hk_putI 13 9 (hk_aload 0 (hk_dup (hk_getf 13 10 (hk_iload 3 (hk_if_eq (hk_iconst 0 (J 187)) (hk_iload 4 (hk_goto (J 187)))))))))) ls_ st_ h_ → J 168 ls_ st_ h_)) (b187 : (∀ (ls_ : hq_L) (st_ : List hq_V) (h_ : hq_H), (hk_ior (hk_putI 13 10 (hk_iload 1 (hk_if_ne (hk_iconst 1 (hk_goto (hk_istore 2 (hk_goto (J 14))))) (hk_iload 3 (hk_if_ne (hk_iconst 0 (hk_istore 2 (hk_goto (J 14)))) (hk_iconst 1 (hk_goto (hk_istore 2 (hk_goto (J 14))))))))))) ls_ st_ h_ → J 187 ls_ st_ h_)) :
    ∀ f j (r F : Nat → Int32) (v2 : Int32) (v3 v4 : Option hq_V), n - j < f → j ≤ n → hr_sgok r → F 6 = nI j → F 9 = r 5 → F 10 = r 6 → F 7 = Ff 7 → F 8 = Ff 8 → hl_sg b n f j r = Q → J 14 [some (.inr (13, 0)), some (hz_i 1), some (hz_i v2), v3, v4] [] (hm_f5 h F) := by
  -- behind a room: the numbers are written
  have k133 : ∀ (x y : Bool) (F : Nat → Int32) (a : Nat) (room : Int32) (v2 v4 : Option hq_V), F 6 = nI a → J 14 [some (.inr (13, 0)), some (hz_i (hz_b y)), some (hz_i (if y = true then 1 else if x = true then 0 else 1)), some (hz_i (hz_b x)), some (hz_i room)] [] (hm_f5 h (hr_put (hr_put (hr_put F 6 (nI (if y = true then a + 1 else a))) 9 (F 9 ||| (if x = true then 0 else room))) 10 (F 10 ||| (if x = true then room else 0)))) → J 133 [some (.inr (13, 0)), some (hz_i (hz_b y)), v2, some (hz_i (hz_b x)), v4] [hz_i room] (hm_f5 h F) := by
    intro x y F a room v2 v4 e6 k
    have a6 : (hm_f5 h F).1 13 0 6 = nI a := (hm_f5_g h F (by decide) (by decide)).trans e6
    have h1 : ∀ z : Bool, hq_si (hm_f5 h F) 13 0 6 ((hm_f5 h F).1 13 0 6 + hz_b z) = hm_f5 h (hr_put F 6 (nI (if z = true then a + 1 else a))) := fun z => by
      rw [hm_f5_p _ _ _ (by decide) (by decide), a6]
      cases z with
      | true => rw [if_pos rfl, nI_succ]; rfl
      | false => rw [if_neg (by decide)]; exact congrArg (fun t => hm_f5 h (hr_put F 6 t)) (hz_add0 (nI a))
    have h2 : ∀ (G : Nat → Int32) (u : Int32), hq_si (hm_f5 h G) 13 0 9 ((hm_f5 h G).1 13 0 9 ||| u) = hm_f5 h (hr_put G 9 (G 9 ||| u)) := fun G u => by
      rw [hm_f5_p _ _ _ (by decide) (by decide), hm_f5_g _ _ (by decide) (by decide)]
    have h3 : ∀ (G : Nat → Int32) (u : Int32), hq_si (hm_f5 h G) 13 0 10 ((hm_f5 h G).1 13 0 10 ||| u) = hm_f5 h (hr_put G 10 (G 10 ||| u)) := fun G u => by
      rw [hm_f5_p _ _ _ (by decide) (by decide), hm_f5_g _ _ (by decide) (by decide)]
    have k187 : ∀ (G : Nat → Int32) (u : Int32), hr_put G 10 (G 10 ||| u) = hr_put (hr_put (hr_put F 6 (nI (if y = true then a + 1 else a))) 9 (F 9 ||| (if x = true then 0 else room))) 10 (F 10 ||| (if x = true then room else 0)) → J 187 [some (.inr (13, 0)), some (hz_i (hz_b y)), v2, some (hz_i (hz_b x)), some (hz_i room)] [hz_i u, hz_i ((hm_f5 h G).1 13 0 10), .inr (13, 0)] (hm_f5 h G) := by
      intro G u eG
      rw [← eG, ← h3] at k
      refine b187 _ _ _ ?_
      cases y with
      | true => exact hq_nt hz_one0 k
      | false =>
        refine hq_nf rfl ?_
        cases x with
        | true => exact hq_nt hz_one0 k
        | false => exact hq_nf rfl k
    have k168 : ∀ (G : Nat → Int32) (u : Int32), (∀ s, s ≠ 6 → G s = F s) → hr_put G 9 (G 9 ||| u) = hr_put (hr_put F 6 (nI (if y = true then a + 1 else a))) 9 (F 9 ||| (if x = true then 0 else room)) → J 168 [some (.inr (13, 0)), some (hz_i (hz_b y)), v2, some (hz_i (hz_b x)), some (hz_i room)] [hz_i u, hz_i ((hm_f5 h G).1 13 0 9), .inr (13, 0)] (hm_f5 h G) := by
      intro G u g6 eG
      have q := fun w => k187 (hr_put G 9 (G 9 ||| u)) w
      have g10 : (hr_put G 9 (G 9 ||| u)) 10 = F 10 := (hr_put_n _ _ (by decide)).trans (g6 10 (by decide))
      rw [← h2] at q
      refine b168 _ _ _ ?_
      cases x with
      | true =>
        refine hq_bf hz_one0 (q room ?_)
        rw [g10, eG]
        rfl
      | false =>
        refine hq_bt rfl (q 0 ?_)
        rw [g10, eG]
        rfl
    have k149 : J 149 [some (.inr (13, 0)), some (hz_i (hz_b y)), v2, some (hz_i (hz_b x)), some (hz_i room)] [hz_i (hz_b y), hz_i ((hm_f5 h F).1 13 0 6), .inr (13, 0)] (hm_f5 h F) := by
      have q := fun w => k168 (hr_put F 6 (nI (if y = true then a + 1 else a))) w (fun s hs => hr_put_n _ _ hs)
      have g9 : (hr_put F 6 (nI (if y = true then a + 1 else a))) 9 = F 9 := hr_put_n _ _ (by decide)
      rw [← h1] at q
      refine b149 _ _ _ ?_
      cases x with
      | true =>
        refine hq_bf hz_one0 (q 0 ?_)
        rw [g9]
        rfl
      | false =>
        refine hq_bt rfl (q room ?_)
        rw [g9]
        rfl
    refine b133 _ _ _ ?_
    cases y with
    | true => exact hq_bf hz_one0 k149
    | false => exact hq_bt rfl k149
  -- behind '!', or none
  have k63 : ∀ (x : Bool) (F : Nat → Int32) (a l e : Nat) (v2 v4 : Option hq_V), a ≤ n → l < 64 → e < 64 → F 9 = nI l → F 10 = nI e → F 6 = nI a →
      (∀ q, q < 6 → a < n → b a = 97 + q → (l ||| e).testBit q = false → J 14 [some (.inr (13, 0)), some (hz_i 1), some (hz_i 1), some (hz_i (hz_b x)), some (hz_i (nI (2 ^ q)))] [] (hm_f5 h (hr_put (hr_put (hr_put F 6 (nI (a + 1))) 9 (F 9 ||| (if x = true then 0 else nI (2 ^ q)))) 10 (F 10 ||| (if x = true then nI (2 ^ q) else 0))))) →
      ((∀ q, q < 6 → a < n → b a = 97 + q → (l ||| e).testBit q = true) → J 14 [some (.inr (13, 0)), some (hz_i 0), some (hz_i (if x = true then 0 else 1)), some (hz_i (hz_b x)), some (hz_i 0)] [] (hm_f5 h (hr_put (hr_put (hr_put F 6 (nI a)) 9 (F 9 ||| 0)) 10 (F 10 ||| 0)))) →
      ∀ (F0 : Nat → Int32) (p w : Int32), hq_si (hm_f5 h F0) 13 0 6 (p + w) = hm_f5 h F → J 63 [some (.inr (13, 0)), some (hz_i 1), v2, some (hz_i (hz_b x)), v4] [hz_i w, hz_i p, .inr (13, 0)] (hm_f5 h F0) := by
    intro x F a l e v2 v4 ha hl he e9 e10 e6 ky kn F0 p w hu
    have a6 : (hm_f5 h F).1 13 0 6 = nI a := (hm_f5_g h F (by decide) (by decide)).trans e6
    have a9 : (hm_f5 h F).1 13 0 9 = nI l := (hm_f5_g h F (by decide) (by decide)).trans e9
    have a10 : (hm_f5 h F).1 13 0 10 = nI e := (hm_f5_g h F (by decide) (by decide)).trans e10
    have BF := hm_f5_BF F B
    have lo : l ||| e < 2 ^ 6 := Nat.or_lt_two_pow hl he
    have mi := m_isAt d (hm_f5 h F) hb n60 BF a6 (by omega) (lo := 97) (hi := 102) (by decide) (by decide) rfl rfl
    have kno : (∀ q, q < 6 → a < n → b a = 97 + q → (l ||| e).testBit q = true) → J 110 [some (.inr (13, 0)), some (hz_i 1), v2, some (hz_i (hz_b x)), v4] [hz_i 0] (hm_f5 h F) := fun z => by
      refine b110 _ _ _ (hq_bt rfl (k133 x false F a 0 v2 v4 e6 ?_))
      have k := kn z
      cases x with
      | true => exact k
      | false => exact k
    refine b63 _ _ _ (hd_ap ?_)
    rw [hu]
    refine ⟨_, _, mi, ?_⟩
    cases c : hm_isa b n a 97 102 with
    | false =>
      refine hq_bt rfl (kno (fun q hq h1 h2 => ?_))
      rw [hm_isa_t.mpr ⟨h1, by omega, by omega⟩] at c
      cases c
    | true =>
      obtain ⟨c1, c2, c3⟩ := hm_isa_t.mp c
      obtain ⟨q, hq, hc⟩ := hm_q97 c2 c3
      have ta : (hm_f5 h F).1 15 0 a = nI (b a) := BF.2 a c1
      have tv : (hm_f5 h F).1 15 0 a - 97 = nI q := by rw [ta, hr_room_v hc]
      have ev : (hm_f5 h F).1 13 0 9 ||| (hm_f5 h F).1 13 0 10 = nI (l ||| e) := by rw [a9, a10, hz_orN]
      refine hq_bf hz_one0 ?_
      refine ⟨a, by omega, a6, ?_⟩
      refine ⟨_, _, m_isIn (d + 1) _ ev tv (by omega) (by omega), ?_⟩
      cases t : (l ||| e).testBit q with
      | true =>
        refine hq_nt hz_one0 (kno (fun q' hq' h1 h2 => ?_))
        have : q' = q := by omega
        rw [this]
        exact t
      | false =>
        refine hq_nf rfl (b110 _ _ _ (hq_bf hz_one0 ?_))
        refine ⟨a, by omega, a6, ?_⟩
        have ep : (1 : Int32) <<< (((hm_f5 h F).1 15 0 a - 97) &&& 31) = nI (2 ^ q) := by rw [tv, hz_pw (by omega)]
        have k := k133 x true F a (nI (2 ^ q)) v2 v4 e6 (ky q hq c1 hc t)
        rw [← ep] at k
        exact k
  intro f
  induction f with
  | zero => intro j r F v2 v3 v4 hf; exact absurd hf (Nat.not_lt_zero _)
  | succ f ih =>
    intro j r F v2 v3 v4 hf hj sg f6 f9 f10 f7 f8 eQ
    have sg' := sg
    obtain ⟨l, e, hl, he, h5, h6, hle, hst, h1, hp⟩ := sg'
    have lo : l ||| e < 2 ^ 6 := Nat.or_lt_two_pow hl he
    have a6 : (hm_f5 h F).1 13 0 6 = nI j := (hm_f5_g h F (by decide) (by decide)).trans f6
    have a9 : (hm_f5 h F).1 13 0 9 = nI l := (hm_f5_g h F (by decide) (by decide)).trans (f9.trans h5)
    have a10 : (hm_f5 h F).1 13 0 10 = nI e := (hm_f5_g h F (by decide) (by decide)).trans (f10.trans h6)
    have BF := hm_f5_BF F B
    have ev : (hm_f5 h F).1 13 0 9 ||| (hm_f5 h F).1 13 0 10 = r 5 ||| r 6 := by rw [a9, a10, h5, h6]
    unfold hl_sg at eQ
    -- the end of the loop
    have stop : ∀ (G : Nat → Int32) (w v3 v4 : Option hq_V) (m : Nat) (r' : Nat → Int32) (x : Bool), G 6 = nI m → G 9 = r' 5 → G 10 = r' 6 → G 7 = Ff 7 → G 8 = Ff 8 → (x, m, r') = Q → ((∃ iw, w = some (hz_i iw) ∧ ((iw = 0 ∧ x = false) ∨ (iw = 1 ∧ x = decide (¬ r' 5 ||| r' 6 = 0))))) → J 14 [some (.inr (13, 0)), some (hz_i 0), w, v3, v4] [] (hm_f5 h G) := by
      intro G w v3 v4 m r' x g6 g9 g10 g7 g8 q ⟨iw, hw, hx⟩
      subst hw
      have eh : hm_f5 h G = hm_f5 h Ff := hm_f5_e h (fun s s1 s2 => by
        rw [← q] at E6 E9 E10
        match s, s1, s2 with
        | 6, _, _ => exact g6.trans E6.symm
        | 7, _, _ => exact g7
        | 8, _, _ => exact g8
        | 9, _, _ => exact g9.trans E9.symm
        | 10, _, _ => exact g10.trans E10.symm
        | s + 11, _, s2 => omega)
      have ex : Q.1 = x := by rw [← q]
      refine b14 _ _ _ (hq_bt rfl ?_)
      rw [ex]
      rcases hx with ⟨i0, x0⟩ | ⟨i1, x1⟩
      · rw [i0, x0]
        exact hq_bt rfl ⟨Or.inl rfl, rfl, eh⟩
      · rw [i1, x1]
        refine hq_bf hz_one0 ?_
        have ew : (hm_f5 h G).1 13 0 9 ||| (hm_f5 h G).1 13 0 10 = r' 5 ||| r' 6 := by rw [hm_f5_g h G (by decide) (by decide), hm_f5_g h G (by decide) (by decide), g9, g10]
        refine hq_bc (fun c => ?_) (fun c => ?_)
        · have c : (hm_f5 h G).1 13 0 9 ||| (hm_f5 h G).1 13 0 10 = 0 := c
          rw [ew] at c
          exact ⟨Or.inl rfl, hz_rf (decide_eq_false (fun z => z c)), eh⟩
        · have c : ¬ (hm_f5 h G).1 13 0 9 ||| (hm_f5 h G).1 13 0 10 = 0 := c
          rw [ew] at c
          exact ⟨Or.inr rfl, hz_rb (decide_eq_true c), eh⟩
    have st3 : decide (r 0 = 3) = decide (¬ r 5 ||| r 6 = 0) := by
      rw [h5, h6, hz_orN]
      rcases hst with ⟨z, y⟩ | ⟨z, y⟩
      · rw [z, y]
        decide
      · rw [decide_eq_true z]
        exact (decide_eq_true (nI_ne0 (by omega) (by omega))).symm
    by_cases X : (¬ (r 5 ||| r 6) = 63) ∧ j < n ∧ b j = 33
    · obtain ⟨x1, x2, x3⟩ := X
      -- '!' is read
      have tk : hr_take r (b j) = some (hr_put r 0 4) := by
        rw [hr_sg_take sg (by omega)]
        exact if_pos ⟨x3, x1⟩
      rw [if_pos ⟨x2, by omega⟩, tk] at eQ
      have eQ : (if (hr_put r 0 4) 0 = 4 then hl_S b n (j + 1) (hr_put r 0 4) (fun r2 => hl_sg b n f (j + 2) r2) else hl_sg b n f (j + 1) (hr_put r 0 4)) = Q := eQ
      rw [if_pos (hr_put_e r 0 4)] at eQ
      have e1 : hq_si (hm_f5 h F) 13 0 6 ((hm_f5 h F).1 13 0 6 + 1) = hm_f5 h (hr_put F 6 (nI (j + 1))) := by
        rw [hm_f5_p _ _ _ (by decide) (by decide), a6, ← nI_succ]
      have p5 : (hr_put r 0 4) 5 = nI l := (hr_put_n _ _ (by decide)).trans h5
      have p6 : (hr_put r 0 4) 6 = nI e := (hr_put_n _ _ (by decide)).trans h6
      have g9 : (hr_put F 6 (nI (j + 1))) 9 = nI l := (hr_put_n _ _ (by decide)).trans (f9.trans h5)
      have g10 : (hr_put F 6 (nI (j + 1))) 10 = nI e := (hr_put_n _ _ (by decide)).trans (f10.trans h6)
      have mi := m_isAt d (hm_f5 h F) hb n60 BF a6 (by omega) (lo := 33) (hi := 33) (by decide) (by decide) rfl rfl
      rw [hm_isa_t.mpr ⟨x2, by omega, by omega⟩] at mi
      refine b14 _ _ _ (hq_bf hz_one0 ?_)
      refine hq_bf (fun z => x1 (ev.symm.trans z)) ?_
      refine ⟨_, _, mi, hq_bf hz_one0 ?_⟩
      refine b48 _ _ _ ?_
      refine hq_bf hz_one0 ?_
      refine k63 true (hr_put F 6 (nI (j + 1))) (j + 1) l e (some (hz_i v2)) v4 (by omega) hl he g9 g10 (hr_put_e _ _ _) (fun q hq q1 q2 q3 => ?_) (fun z => ?_) F _ _ e1
      · have u : hr_un (hr_put r 0 4) (b (j + 1)) = true := by rw [q2]; exact hr_un_t hl he p5 p6 hq q3
        have t4 : hr_take (hr_put r 0 4) (b (j + 1)) = some (hr_put (hr_put (hr_put r 0 4) 6 ((hr_put r 0 4) 6 ||| ((1 : Int32) <<< ((nI (b (j + 1)) - 97) &&& 31)))) 0 3) := by
          rw [hr_take_4 _ (hr_put_e r 0 4)]
          exact if_pos u
        unfold hl_S at eQ
        rw [if_pos q1, t4] at eQ
        refine ih (j + 2) _ _ _ _ _ (by omega) (by omega) (hr_sg_emp sg u) ?_ ?_ ?_ ?_ ?_ eQ
        · rw [hr_put_n _ _ (by decide), hr_put_n _ _ (by decide), hr_put_e]
        · rw [hr_put_n _ _ (by decide), hr_put_e, hr_put_n _ _ (by decide), hr_put_n _ _ (by decide), hr_put_n _ _ (by decide), hr_put_n _ _ (by decide), f9]
          exact hz_or0 _
        · rw [hr_put_e, hr_put_n _ _ (by decide), hr_put_n _ _ (by decide), hr_put_e, hr_put_n _ _ (by decide), f10, hr_room_v q2, hz_pw (by omega)]
          rfl
        · rw [hr_put_n _ _ (by decide), hr_put_n _ _ (by decide), hr_put_n _ _ (by decide), hr_put_n _ _ (by decide)]
          exact f7
        · rw [hr_put_n _ _ (by decide), hr_put_n _ _ (by decide), hr_put_n _ _ (by decide), hr_put_n _ _ (by decide)]
          exact f8
      · have eS : (false, j + 1, hr_put r 0 4) = Q := by
          rw [← eQ]
          unfold hl_S
          by_cases q1 : j + 1 < n
          · rw [if_pos q1]
            have u : hr_un (hr_put r 0 4) (b (j + 1)) = false := hr_un_f hl he p5 p6 (fun q hq q2 => z q hq q1 q2)
            have t4 : hr_take (hr_put r 0 4) (b (j + 1)) = none := by
              rw [hr_take_4 _ (hr_put_e r 0 4)]
              exact if_neg (by rw [u]; decide)
            rw [t4]
          · rw [if_neg q1]
        refine stop _ _ _ _ (j + 1) (hr_put r 0 4) false ?_ ?_ ?_ ?_ ?_ eS ⟨_, rfl, Or.inl ⟨rfl, rfl⟩⟩
        · rw [hr_put_n _ _ (by decide), hr_put_n _ _ (by decide), hr_put_e]
        · rw [hr_put_n _ _ (by decide), hr_put_e, hr_put_n _ _ (by decide), hr_put_n _ _ (by decide), f9]
          exact hz_or0 _
        · rw [hr_put_e, hr_put_n _ _ (by decide), hr_put_n _ _ (by decide), f10]
          exact hz_or0 _
        · rw [hr_put_n _ _ (by decide), hr_put_n _ _ (by decide), hr_put_n _ _ (by decide), hr_put_n _ _ (by decide)]
          exact f7
        · rw [hr_put_n _ _ (by decide), hr_put_n _ _ (by decide), hr_put_n _ _ (by decide), hr_put_n _ _ (by decide)]
          exact f8
    · have e0 : hq_si (hm_f5 h F) 13 0 6 ((hm_f5 h F).1 13 0 6 + 0) = hm_f5 h F := by
        rw [hm_f5_p _ _ _ (by decide) (by decide), a6, hz_add0]
        refine hm_f5_e h (fun s _ _ => ?_)
        by_cases w : s = 6
        · rw [w, hr_put_e, f6]
        · exact hr_put_n _ _ w
      have k48 : J 48 [some (.inr (13, 0)), some (hz_i 1), some (hz_i v2), v3, v4] [hz_i 0] (hm_f5 h F) := by
        refine b48 _ _ _ ?_
        refine hq_bt rfl ?_
        refine k63 false F j l e (some (hz_i v2)) v4 hj hl he (f9.trans h5) (f10.trans h6) f6 (fun q hq q1 q2 q3 => ?_) (fun z => ?_) F _ _ e0
        · have u : hr_un r (b j) = true := by rw [q2]; exact hr_un_t hl he h5 h6 hq q3
          have t4 : hr_take r (b j) = some (hr_put (hr_put r 5 (r 5 ||| ((1 : Int32) <<< ((nI (b j) - 97) &&& 31)))) 0 3) := by
            rw [hr_sg_take sg (by omega)]
            unfold hr_sign
            rw [if_neg (fun z => by omega), if_pos u]
          rw [if_pos ⟨q1, by omega⟩, t4] at eQ
          have eQ : (if (hr_put (hr_put r 5 (r 5 ||| ((1 : Int32) <<< ((nI (b j) - 97) &&& 31)))) 0 3) 0 = 4 then hl_S b n (j + 1) (hr_put (hr_put r 5 (r 5 ||| ((1 : Int32) <<< ((nI (b j) - 97) &&& 31)))) 0 3) (fun r2 => hl_sg b n f (j + 2) r2) else hl_sg b n f (j + 1) (hr_put (hr_put r 5 (r 5 ||| ((1 : Int32) <<< ((nI (b j) - 97) &&& 31)))) 0 3)) = Q := eQ
          rw [if_neg (by rw [hr_put_e]; decide)] at eQ
          refine ih (j + 1) _ _ _ _ _ (by omega) (by omega) (hr_sg_let sg u) ?_ ?_ ?_ ?_ ?_ eQ
          · rw [hr_put_n _ _ (by decide), hr_put_n _ _ (by decide), hr_put_e]
          · rw [hr_put_n _ _ (by decide), hr_put_e, hr_put_n _ _ (by decide), hr_put_e, f9, hr_room_v q2, hz_pw (by omega)]
            rfl
          · rw [hr_put_e, hr_put_n _ _ (by decide), hr_put_n _ _ (by decide), f10]
            exact hz_or0 _
          · rw [hr_put_n _ _ (by decide), hr_put_n _ _ (by decide), hr_put_n _ _ (by decide)]
            exact f7
          · rw [hr_put_n _ _ (by decide), hr_put_n _ _ (by decide), hr_put_n _ _ (by decide)]
            exact f8
        · have eS : (decide (r 0 = 3), j, r) = Q := by
            rw [← eQ]
            by_cases q1 : j < n ∧ ¬ b j = 59
            · rw [if_pos q1]
              have u : hr_un r (b j) = false := hr_un_f hl he h5 h6 (fun q hq q2 => z q hq q1.1 q2)
              have t4 : hr_take r (b j) = none := by
                rw [hr_sg_take sg q1.2]
                unfold hr_sign
                rw [if_neg (fun w => X ⟨w.2, q1.1, w.1⟩), if_neg (by rw [u]; decide)]
              rw [t4]
            · rw [if_neg q1]
          refine stop _ _ _ _ j r (decide (r 0 = 3)) ?_ ?_ ?_ ?_ ?_ eS ⟨_, rfl, Or.inr ⟨rfl, st3⟩⟩
          · rw [hr_put_n _ _ (by decide), hr_put_n _ _ (by decide), hr_put_e]
          · rw [hr_put_n _ _ (by decide), hr_put_e, f9]
            exact hz_or0 _
          · rw [hr_put_e, f10]
            exact hz_or0 _
          · rw [hr_put_n _ _ (by decide), hr_put_n _ _ (by decide), hr_put_n _ _ (by decide)]
            exact f7
          · rw [hr_put_n _ _ (by decide), hr_put_n _ _ (by decide), hr_put_n _ _ (by decide)]
            exact f8
      refine b14 _ _ _ (hq_bf hz_one0 ?_)
      by_cases z : (r 5 ||| r 6) = 63
      · exact hq_bt (ev.trans z) k48
      · have mi := m_isAt d (hm_f5 h F) hb n60 BF a6 (by omega) (lo := 33) (hi := 33) (by decide) (by decide) rfl rfl
        have nf : hm_isa b n j 33 33 = false := ts_nt (fun w => by
          obtain ⟨w1, w2, w3⟩ := hm_isa_t.mp w
          exact X ⟨z, w1, by omega⟩)
        rw [nf] at mi
        refine hq_bf (fun w => z (ev.symm.trans w)) ?_
        exact ⟨_, _, mi, hq_bt rfl k48⟩
