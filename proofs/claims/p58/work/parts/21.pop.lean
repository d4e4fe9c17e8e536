/-- how many below n -/
def hz_cnt (p : Nat → Bool) : Nat → Nat
  | 0 => 0
  | k + 1 => hz_cnt p k + (if p k = true then 1 else 0)
theorem hz_cnt_cong {p q : Nat → Bool} : ∀ {n : Nat}, (∀ k, k < n → p k = q k) → hz_cnt p n = hz_cnt q n
  | 0, _ => rfl
  | n + 1, h => by
    show hz_cnt p n + (if p n = true then 1 else 0) = hz_cnt q n + (if q n = true then 1 else 0)
    rw [hz_cnt_cong (fun k hk => h k (by omega)), h n (by omega)]
theorem hz_cnt_le (p : Nat → Bool) : ∀ n, hz_cnt p n ≤ n
  | 0 => Nat.le_refl _
  | n + 1 => by
    have h := hz_cnt_le p n
    show hz_cnt p n + (if p n = true then 1 else 0) ≤ n + 1
    split <;> omega
theorem hz_cnt_add (p : Nat → Bool) (m : Nat) : ∀ n, hz_cnt p (m + n) = hz_cnt p m + hz_cnt (fun k => p (m + k)) n
  | 0 => rfl
  | n + 1 => by
    show hz_cnt p (m + n) + (if p (m + n) = true then 1 else 0) = hz_cnt p m + (hz_cnt (fun k => p (m + k)) n + (if p (m + n) = true then 1 else 0))
    rw [hz_cnt_add p m n, Nat.add_assoc]
-- ===== counting ones by bytes =====
def hp_T (g : Nat → Nat) : Nat → Nat → Nat
  | 0, _ => 0
  | n + 1, X => g (X % 256) + 256 * hp_T g n (X / 256)
def hp_K (c : Nat) : Nat → Nat
  | 0 => 0
  | n + 1 => c + 256 * hp_K c n
theorem hp_and (W c Z : Nat) (hc : c < 256) : W &&& (c + 256 * Z) = (W % 256 &&& c) + 256 * (W / 256 &&& Z) := by
  have h1 : (W &&& (c + 256 * Z)) % 256 = (W % 256) &&& ((c + 256 * Z) % 256) := Nat.and_mod_two_pow (n := 8)
  have h2 : (W &&& (c + 256 * Z)) / 256 = (W / 256) &&& ((c + 256 * Z) / 256) := Nat.and_div_two_pow (n := 8)
  rw [show (c + 256 * Z) % 256 = c by omega] at h1
  rw [show (c + 256 * Z) / 256 = Z by omega] at h2
  rw [← h1, ← h2]
  exact (Nat.mod_add_div _ 256).symm
theorem hp_f1 : ∀ u, u < 256 → ∀ t, t < 2 → (u / 2 + 128 * t) &&& 85 = u / 2 &&& 85 := by decide +kernel
theorem hp_f2 : ∀ u, u < 256 → ∀ t, t < 4 → (u / 4 + 64 * t) &&& 51 = u / 4 &&& 51 := by decide +kernel
theorem hp_f4 : ∀ u, u < 69 → ∀ t, t < 5 → (u + u / 16 + 16 * t) &&& 15 = (u + u / 16) &&& 15 := by decide +kernel
theorem hp_s1 {g : Nat → Nat} (hg : ∀ b, b < 256 → g b < 256) : ∀ n X, (hp_T g n X / 2) &&& hp_K 85 n = hp_T (fun b => g b / 2 &&& 85) n X
  | 0, X => Nat.and_zero _
  | n + 1, X => by
    have ih := hp_s1 hg n (X / 256)
    have hb : g (X % 256) < 256 := hg _ (Nat.mod_lt _ (by decide))
    show ((g (X % 256) + 256 * hp_T g n (X / 256)) / 2) &&& (85 + 256 * hp_K 85 n) = (g (X % 256) / 2 &&& 85) + 256 * hp_T (fun b => g b / 2 &&& 85) n (X / 256)
    rw [hp_and _ 85 _ (by decide), ← ih]
    generalize g (X % 256) = u at hb ⊢
    generalize hp_T g n (X / 256) = Y
    rw [show (u + 256 * Y) / 2 % 256 = u / 2 + 128 * (Y % 2) by omega, show (u + 256 * Y) / 2 / 256 = Y / 2 by omega, hp_f1 u hb (Y % 2) (by omega)]
theorem hp_s2 {g : Nat → Nat} (hg : ∀ b, b < 256 → g b < 256) : ∀ n X, (hp_T g n X / 4) &&& hp_K 51 n = hp_T (fun b => g b / 4 &&& 51) n X
  | 0, X => Nat.and_zero _
  | n + 1, X => by
    have ih := hp_s2 hg n (X / 256)
    have hb : g (X % 256) < 256 := hg _ (Nat.mod_lt _ (by decide))
    show ((g (X % 256) + 256 * hp_T g n (X / 256)) / 4) &&& (51 + 256 * hp_K 51 n) = (g (X % 256) / 4 &&& 51) + 256 * hp_T (fun b => g b / 4 &&& 51) n (X / 256)
    rw [hp_and _ 51 _ (by decide), ← ih]
    generalize g (X % 256) = u at hb ⊢
    generalize hp_T g n (X / 256) = Y
    rw [show (u + 256 * Y) / 4 % 256 = u / 4 + 64 * (Y % 4) by omega, show (u + 256 * Y) / 4 / 256 = Y / 4 by omega, hp_f2 u hb (Y % 4) (by omega)]
theorem hp_a {g : Nat → Nat} (c : Nat) (hc : c < 256) (hg : ∀ b, b < 256 → g b < 256) : ∀ n X, hp_T g n X &&& hp_K c n = hp_T (fun b => g b &&& c) n X
  | 0, X => Nat.and_zero _
  | n + 1, X => by
    have ih := hp_a c hc hg n (X / 256)
    have hb : g (X % 256) < 256 := hg _ (Nat.mod_lt _ (by decide))
    show (g (X % 256) + 256 * hp_T g n (X / 256)) &&& (c + 256 * hp_K c n) = (g (X % 256) &&& c) + 256 * hp_T (fun b => g b &&& c) n (X / 256)
    rw [hp_and _ c _ hc, ← ih]
    generalize g (X % 256) = u at hb ⊢
    generalize hp_T g n (X / 256) = Y
    rw [show (u + 256 * Y) % 256 = u by omega, show (u + 256 * Y) / 256 = Y by omega]
theorem hp_p (g k : Nat → Nat) : ∀ n X, hp_T g n X + hp_T k n X = hp_T (fun b => g b + k b) n X
  | 0, X => rfl
  | n + 1, X => by
    have ih := hp_p g k n (X / 256)
    show (g (X % 256) + 256 * hp_T g n (X / 256)) + (k (X % 256) + 256 * hp_T k n (X / 256)) = (g (X % 256) + k (X % 256)) + 256 * hp_T (fun b => g b + k b) n (X / 256)
    omega
theorem hp_m16 {g : Nat → Nat} (hg : ∀ b, b < 256 → g b < 69 ∧ g b % 16 < 5) : ∀ n X, hp_T g n X % 16 < 5
  | 0, X => (by decide : 0 % 16 < 5)
  | n + 1, X => by
    have hb := (hg (X % 256) (Nat.mod_lt _ (by decide))).2
    show (g (X % 256) + 256 * hp_T g n (X / 256)) % 16 < 5
    omega
theorem hp_s4 {g : Nat → Nat} (hg : ∀ b, b < 256 → g b < 69 ∧ g b % 16 < 5) : ∀ n X, (hp_T g n X + hp_T g n X / 16) &&& hp_K 15 n = hp_T (fun b => (g b + g b / 16) &&& 15) n X
  | 0, X => Nat.and_zero _
  | n + 1, X => by
    have ih := hp_s4 hg n (X / 256)
    have hb := (hg (X % 256) (Nat.mod_lt _ (by decide))).1
    have hy := hp_m16 hg n (X / 256)
    show ((g (X % 256) + 256 * hp_T g n (X / 256)) + (g (X % 256) + 256 * hp_T g n (X / 256)) / 16) &&& (15 + 256 * hp_K 15 n) = ((g (X % 256) + g (X % 256) / 16) &&& 15) + 256 * hp_T (fun b => (g b + g b / 16) &&& 15) n (X / 256)
    rw [hp_and _ 15 _ (by decide), ← ih]
    generalize g (X % 256) = u at hb ⊢
    generalize hp_T g n (X / 256) = Y at hy ⊢
    rw [show ((u + 256 * Y) + (u + 256 * Y) / 16) % 256 = u + u / 16 + 16 * (Y % 16) by omega, show ((u + 256 * Y) + (u + 256 * Y) / 16) / 256 = Y + Y / 16 by omega, hp_f4 u hb (Y % 16) hy]
theorem hp_c {g k : Nat → Nat} (h : ∀ b, b < 256 → g b = k b) : ∀ n X, hp_T g n X = hp_T k n X
  | 0, X => rfl
  | n + 1, X => by
    show g (X % 256) + 256 * hp_T g n (X / 256) = k (X % 256) + 256 * hp_T k n (X / 256)
    rw [hp_c h n (X / 256), h _ (Nat.mod_lt _ (by decide))]
theorem hp_id : ∀ n X, X < 256 ^ n → hp_T (fun b => b) n X = X
  | 0, X, h => by
    have : X = 0 := by rw [Nat.pow_zero] at h; omega
    rw [this]
    rfl
  | n + 1, X, h => by
    rw [Nat.pow_succ] at h
    show X % 256 + 256 * hp_T (fun b => b) n (X / 256) = X
    rw [hp_id n (X / 256) (by omega)]
    omega
/-- the ones of a byte -/
def hp_w (b : Nat) : Nat := hz_cnt (fun k => b.testBit k) 8
def hp_b1 (b : Nat) : Nat := b - (b / 2 &&& 85)
def hp_b2 (b : Nat) : Nat := (hp_b1 b &&& 51) + (hp_b1 b / 4 &&& 51)
theorem hp_g1 : ∀ b, b < 256 → hp_b1 b + (b / 2 &&& 85) = b ∧ hp_b1 b < 256 ∧ (hp_b2 b < 69 ∧ hp_b2 b % 16 < 5) ∧ (hp_b2 b + hp_b2 b / 16) &&& 15 = hp_w b ∧ hp_w b ≤ 8 := by decide +kernel
theorem hp_x1 {X : Nat} (h : X < 256 ^ 8) : X - ((X / 2) &&& hp_K 85 8) = hp_T hp_b1 8 X ∧ (X / 2) &&& hp_K 85 8 ≤ X := by
  have e := hp_s1 (g := fun b => b) (fun b hb => hb) 8 X
  rw [hp_id 8 X h] at e
  have e2 := hp_p hp_b1 (fun b => b / 2 &&& 85) 8 X
  rw [hp_c (k := fun b => b) (fun b hb => (hp_g1 b hb).1) 8 X, hp_id 8 X h, ← e] at e2
  omega
theorem hp_x2 (X : Nat) : (hp_T hp_b1 8 X &&& hp_K 51 8) + ((hp_T hp_b1 8 X / 4) &&& hp_K 51 8) = hp_T hp_b2 8 X := by
  rw [hp_a 51 (by decide) (fun b hb => (hp_g1 b hb).2.1), hp_s2 (fun b hb => (hp_g1 b hb).2.1), hp_p]
  rfl
theorem hp_x3 (X : Nat) : (hp_T hp_b2 8 X + hp_T hp_b2 8 X / 16) &&& hp_K 15 8 = hp_T hp_w 8 X := by
  rw [hp_s4 (fun b hb => (hp_g1 b hb).2.2.1)]
  exact hp_c (fun b hb => (hp_g1 b hb).2.2.2.1) 8 X
def hp_S : Nat → Nat → Nat
  | 0, _ => 0
  | n + 1, X => hp_w (X % 256) + hp_S n (X / 256)
theorem hp_cnt : ∀ n X, hz_cnt (fun k => Nat.testBit X k) (8 * n) = hp_S n X
  | 0, X => rfl
  | n + 1, X => by
    rw [show 8 * (n + 1) = 8 + 8 * n by omega, hz_cnt_add]
    show _ = hp_w (X % 256) + hp_S n (X / 256)
    rw [← hp_cnt n (X / 256)]
    congr 1
    · refine hz_cnt_cong (fun k hk => ?_)
      have e : (X % 256).testBit k = (decide (k < 8) && X.testBit k) := Nat.testBit_mod_two_pow X 8 k
      rw [e, decide_eq_true hk, Bool.true_and]
    · refine hz_cnt_cong (fun k hk => ?_)
      have e : (X / 256).testBit k = X.testBit (k + 8) := Nat.testBit_div_two_pow (n := 8) X k
      rw [e, Nat.add_comm]
theorem hp_z1 (c0 c1 c2 Q1 Q2 Q3 : Nat) (h0 : c0 ≤ 8) (h1 : c1 ≤ 8) (h2 : c2 ≤ 8) (e1 : Q1 = c1 + 256 * Q2) (e2 : Q2 = c2 + 256 * Q3) : (c0 + 256 * Q1) / 256 = Q1 ∧ c0 + 256 * Q1 + Q1 = (c0 + c1) + 256 * (c1 + c2) + 65536 * (Q2 + Q3) := by
  refine ⟨?_, ?_⟩ <;> omega
theorem hp_z2 (a b P : Nat) (ha : a ≤ 16) (hb : b ≤ 16) : (a + 256 * b + 65536 * P) / 65536 = P := by omega
theorem hp_z3 (a b c e P : Nat) (ha : a ≤ 32) (hb : b ≤ 32) (hc : c ≤ 32) (he : e ≤ 32) : (a + 256 * b + 65536 * (c + 256 * e + 65536 * P)) / 4294967296 = P := by omega
theorem hp_fin1 (c0 c1 c2 c3 c4 c5 c6 c7 Q1 Q2 Q3 Q4 Q5 Q6 : Nat) (h0 : c0 ≤ 8) (h1 : c1 ≤ 8) (h2 : c2 ≤ 8) (h3 : c3 ≤ 8) (h4 : c4 ≤ 8) (h5 : c5 ≤ 8) (h6 : c6 ≤ 8) (h7 : c7 ≤ 8)
    (e1 : Q1 = c1 + 256 * Q2) (e2 : Q2 = c2 + 256 * Q3) (e3 : Q3 = c3 + 256 * Q4) (e4 : Q4 = c4 + 256 * Q5) (e5 : Q5 = c5 + 256 * Q6) (e6 : Q6 = c6 + 256 * c7) :
    ∀ Z Z1 Z2 Z3, Z = c0 + 256 * Q1 → Z1 = Z + Z / 256 → Z2 = Z1 + Z1 / 65536 → Z3 = Z2 + Z2 / 4294967296 → Z3 % 128 = c0 + (c1 + (c2 + (c3 + (c4 + (c5 + (c6 + (c7 + 0))))))) ∧ Z3 < 2 ^ 64 ∧ Z2 < 2 ^ 64 ∧ Z1 < 2 ^ 64 := by
  intro Z Z1 Z2 Z3 f f1 f2 f3
  have a1 := hp_z1 c0 c1 c2 Q1 Q2 Q3 h0 h1 h2 e1 e2
  have b1 : Z1 = (c0 + c1) + 256 * (c1 + c2) + 65536 * (Q2 + Q3) := by rw [f1, f, a1.1]; exact a1.2
  have b2 : Z1 / 65536 = Q2 + Q3 := by rw [b1]; exact hp_z2 _ _ _ (by omega) (by omega)
  have b3 : Q2 + Q3 = (c2 + c3) + 256 * (c3 + c4) + 65536 * (Q4 + Q5) := by clear a1 b1 b2 f f1 f2 f3 e1 e6; omega
  have b4 : Q4 + Q5 = (c4 + c5) + 256 * (c5 + c6) + 65536 * (Q6 + c7) := by clear a1 b1 b2 b3 f f1 f2 f3 e1 e2 e3; omega
  have b5 : Z2 = (c0 + c1 + c2 + c3) + 256 * (c1 + c2 + c3 + c4) + 65536 * ((c2 + c3 + c4 + c5) + 256 * (c3 + c4 + c5 + c6) + 65536 * (Q4 + Q5 + Q6 + c7)) := by
    rw [f2, b2, b1]
    clear a1 b1 b2 f f1 f2 f3 e1 e2 e3 e4 e5 e6 h0 h1 h2 h3 h4 h5 h6 h7
    omega
  have b6 : Z2 / 4294967296 = Q4 + Q5 + Q6 + c7 := by rw [b5]; exact hp_z3 _ _ _ _ _ (by omega) (by omega) (by omega) (by omega)
  have b7 : Q4 + Q5 + Q6 + c7 = (c4 + c5 + c6 + c7) + 256 * ((c5 + c6 + c7) + 256 * (c6 + c7 + 256 * c7)) := by clear a1 b1 b2 b3 b4 b5 b6 f f1 f2 f3 e1 e2 e3; omega
  have b8 : Z3 = (c0 + c1 + c2 + c3 + (c4 + c5 + c6 + c7)) + 256 * ((c1 + c2 + c3 + c4 + (c5 + c6 + c7)) + 256 * ((c2 + c3 + c4 + c5 + (c6 + c7)) + 256 * (c3 + c4 + c5 + c6 + c7 + 256 * (Q4 + Q5 + Q6 + c7)))) := by
    rw [f3, b6, b5]
    clear a1 b1 b2 b3 b4 b5 b6 f f1 f2 f3 e1 e2 e3 e4 e5 e6 h0 h1 h2 h3 h4 h5 h6 h7
    omega
  have u1 : Q4 + Q5 + Q6 + c7 ≤ 600000000 := by rw [b7]; clear a1 b1 b2 b3 b4 b5 b6 b7 b8 f f1 f2 f3 e1 e2 e3 e4 e5 e6; omega
  have u2 : Z1 ≤ Z2 := by rw [f2]; exact Nat.le_add_right _ _
  have u3 : Z2 ≤ Z3 := by rw [f3]; exact Nat.le_add_right _ _
  have u4 : Z3 < 2 ^ 64 := by
    rw [b8]
    clear a1 b1 b2 b3 b4 b5 b6 b7 b8 f f1 f2 f3 e1 e2 e3 e4 e5 e6 u2 u3
    generalize Q4 + Q5 + Q6 + c7 = P at *
    omega
  refine ⟨?_, u4, Nat.lt_of_le_of_lt u3 u4, Nat.lt_of_le_of_lt u2 (Nat.lt_of_le_of_lt u3 u4)⟩
  rw [b8]
  clear a1 b1 b2 b3 b4 b5 b6 b7 b8 f f1 f2 f3 e1 e2 e3 e4 e5 e6 u1 u2 u3 u4
  generalize (c1 + c2 + c3 + c4 + (c5 + c6 + c7)) + 256 * ((c2 + c3 + c4 + c5 + (c6 + c7)) + 256 * (c3 + c4 + c5 + c6 + c7 + 256 * (Q4 + Q5 + Q6 + c7))) = P
  omega
theorem hp_fin (X : Nat) : ∀ Z Z1 Z2 Z3, Z = hp_T hp_w 8 X → Z1 = Z + Z / 256 → Z2 = Z1 + Z1 / 65536 → Z3 = Z2 + Z2 / 4294967296 → Z3 % 128 = hp_S 8 X ∧ Z3 < 2 ^ 64 ∧ Z2 < 2 ^ 64 ∧ Z1 < 2 ^ 64 :=
  have hw : ∀ Y, hp_w (Y % 256) ≤ 8 := fun Y => (hp_g1 (Y % 256) (Nat.mod_lt _ (by decide))).2.2.2.2
  hp_fin1 _ _ _ _ _ _ _ _ (hp_T hp_w 7 (X / 256)) (hp_T hp_w 6 (X / 256 / 256)) (hp_T hp_w 5 (X / 256 / 256 / 256)) (hp_T hp_w 4 (X / 256 / 256 / 256 / 256)) (hp_T hp_w 3 (X / 256 / 256 / 256 / 256 / 256)) (hp_T hp_w 2 (X / 256 / 256 / 256 / 256 / 256 / 256))
    (hw X) (hw (X / 256)) (hw (X / 256 / 256)) (hw (X / 256 / 256 / 256)) (hw (X / 256 / 256 / 256 / 256)) (hw (X / 256 / 256 / 256 / 256 / 256)) (hw (X / 256 / 256 / 256 / 256 / 256 / 256)) (hw (X / 256 / 256 / 256 / 256 / 256 / 256 / 256)) rfl rfl rfl rfl rfl rfl
def hz_n (x : Int64) : Nat := x.toBitVec.toNat
theorem hn_lt (x : Int64) : hz_n x < 2 ^ 64 := x.toBitVec.isLt
theorem hn_and (x y : Int64) : hz_n (x &&& y) = hz_n x &&& hz_n y := by
  unfold hz_n
  rw [Int64.toBitVec_and, BitVec.toNat_and]
theorem hn_add {x y : Int64} (h : hz_n x + hz_n y < 2 ^ 64) : hz_n (x + y) = hz_n x + hz_n y := by
  unfold hz_n at *
  rw [Int64.toBitVec_add, BitVec.toNat_add, Nat.mod_eq_of_lt h]
theorem hn_sub {x y : Int64} (h : hz_n y ≤ hz_n x) : hz_n (x - y) = hz_n x - hz_n y := by
  have h1 := hn_lt x
  unfold hz_n at *
  rw [Int64.toBitVec_sub, BitVec.toNat_sub]
  omega
theorem hn_shr (x : Int64) {s : UInt64} {j : Nat} (hs : s.toNat = j) (hj : j < 64) : hz_n (x.toUInt64 >>> s).toInt64 = hz_n x / 2 ^ j := by
  show (x.toUInt64 >>> s).toNat = _
  rw [UInt64.toNat_shiftRight, hs, Nat.mod_eq_of_lt hj, Nat.shiftRight_eq_div_pow]
  rfl
theorem hn_i (x : Int64) : x.toInt32 &&& 127 = nI (hz_n x % 128) := by
  have e : x = lN (hz_n x) := Int64.toBitVec_inj.mp (BitVec.eq_of_toNat_eq (by
    show hz_n x = hz_n x % 2 ^ 64
    exact (Nat.mod_eq_of_lt (hn_lt x)).symm))
  have e2 : nI (hz_n x) = nI (hz_n x % 2 ^ 32) := Int32.toBitVec_inj.mp (BitVec.eq_of_toNat_eq (by
    show hz_n x % 2 ^ 32 = hz_n x % 2 ^ 32 % 2 ^ 32
    omega))
  rw [show x.toInt32 = nI (hz_n x) from (congrArg Int64.toInt32 e).trans (lN_i _), e2, pk_andN (n := hz_n x % 2 ^ 32) (by omega) 7 (by decide)]
  congr 1
  omega
