theorem x_J13 (d : Nat) (x : Int64) (h : hq_H) : hq_Met (d + 1) MJ13_bitCount_95d88 [hz_l x] h (hz_o (nI (hz_cnt (hz_bl x) 64))) h := by
  refine inJ13_bitCount_95d88 d x h _ _ (fun _ => trivial) (fun J b0 => b0 _ _ _ ?_)
  refine ⟨hz_ri ?_, rfl⟩
  have hX : hz_n x < 256 ^ 8 := hn_lt x
  have k1 : hz_n 6148914691236517205 = hp_K 85 8 := by decide +kernel
  have k2 : hz_n 3689348814741910323 = hp_K 51 8 := by decide +kernel
  have k3 : hz_n 1085102592571150095 = hp_K 15 8 := by decide +kernel
  have hc : hz_cnt (hz_bl x) 64 = hp_S 8 (hz_n x) := hp_cnt 8 (hz_n x)
  have q1 := hp_x1 hX
  generalize ha : x - (((x.toUInt64 >>> ((1 : Int32).toInt64.toUInt64 &&& Int64.toUInt64 63)).toInt64) &&& 6148914691236517205) = a
  have ea : hz_n a = hp_T hp_b1 8 (hz_n x) := by
    have t : hz_n (((x.toUInt64 >>> ((1 : Int32).toInt64.toUInt64 &&& Int64.toUInt64 63)).toInt64) &&& 6148914691236517205) = (hz_n x / 2) &&& hp_K 85 8 := by
      rw [hn_and, hn_shr x (j := 1) (by decide +kernel) (by decide), k1]
    rw [← ha, hn_sub (by rw [t]; exact q1.2), t]
    exact q1.1
  have q2 := hp_x2 (hz_n x)
  generalize hb : (a &&& 3689348814741910323) + (((a.toUInt64 >>> ((2 : Int32).toInt64.toUInt64 &&& Int64.toUInt64 63)).toInt64) &&& 3689348814741910323) = b
  have lt2 : 3 * hp_T hp_b2 8 (hz_n x) < 256 ^ 8 := by
    have q3 : ∀ (g : Nat → Nat), (∀ b, b < 256 → g b < 69) → ∀ n X, 3 * hp_T g n X < 256 ^ n := by
      intro g hg n
      induction n with
      | zero => intro X; exact (by decide : 3 * 0 < 256 ^ 0)
      | succ n ih =>
        intro X
        have i1 := ih (X / 256)
        have i2 := hg (X % 256) (Nat.mod_lt _ (by decide))
        show 3 * (g (X % 256) + 256 * hp_T g n (X / 256)) < 256 ^ (n + 1)
        rw [Nat.pow_succ]
        omega
    exact q3 hp_b2 (fun b hb => (hp_g1 b hb).2.2.1.1) 8 (hz_n x)
  have eb : hz_n b = hp_T hp_b2 8 (hz_n x) := by
    have t1 : hz_n (a &&& 3689348814741910323) = hp_T hp_b1 8 (hz_n x) &&& hp_K 51 8 := by rw [hn_and, k2, ea]
    have t2 : hz_n (((a.toUInt64 >>> ((2 : Int32).toInt64.toUInt64 &&& Int64.toUInt64 63)).toInt64) &&& 3689348814741910323) = (hp_T hp_b1 8 (hz_n x) / 4) &&& hp_K 51 8 := by
      rw [hn_and, hn_shr a (j := 2) (by decide +kernel) (by decide), k2, ea]
    rw [← hb, hn_add (by rw [t1, t2, q2]; omega), t1, t2]
    exact q2
  have q3 := hp_x3 (hz_n x)
  generalize hcc : (b + (b.toUInt64 >>> ((4 : Int32).toInt64.toUInt64 &&& Int64.toUInt64 63)).toInt64) &&& 1085102592571150095 = c
  have ec : hz_n c = hp_T hp_w 8 (hz_n x) := by
    have t1 : hz_n (b.toUInt64 >>> ((4 : Int32).toInt64.toUInt64 &&& Int64.toUInt64 63)).toInt64 = hp_T hp_b2 8 (hz_n x) / 16 := by
      rw [hn_shr b (j := 4) (by decide +kernel) (by decide), eb]
    rw [← hcc, hn_and, hn_add (by rw [t1, eb]; omega), t1, eb, k3]
    exact q3
  obtain ⟨f0, f3, f2, f1⟩ := hp_fin (hz_n x) _ _ _ _ rfl rfl rfl rfl
  generalize hdd : c + (c.toUInt64 >>> ((8 : Int32).toInt64.toUInt64 &&& Int64.toUInt64 63)).toInt64 = e
  have ed : hz_n e = hp_T hp_w 8 (hz_n x) + hp_T hp_w 8 (hz_n x) / 256 := by
    have t1 : hz_n (c.toUInt64 >>> ((8 : Int32).toInt64.toUInt64 &&& Int64.toUInt64 63)).toInt64 = hp_T hp_w 8 (hz_n x) / 256 := by
      rw [hn_shr c (j := 8) (by decide +kernel) (by decide), ec]
    rw [← hdd, hn_add (by rw [t1, ec]; exact f1), t1, ec]
  generalize hee : e + (e.toUInt64 >>> ((16 : Int32).toInt64.toUInt64 &&& Int64.toUInt64 63)).toInt64 = f
  have ee : hz_n f = (hz_n e) + hz_n e / 65536 := by
    have t1 : hz_n (e.toUInt64 >>> ((16 : Int32).toInt64.toUInt64 &&& Int64.toUInt64 63)).toInt64 = hz_n e / 65536 := by
      rw [hn_shr e (j := 16) (by decide +kernel) (by decide)]
    rw [← hee, hn_add (by rw [t1, ed]; exact f2), t1]
  generalize hff : f + (f.toUInt64 >>> ((32 : Int32).toInt64.toUInt64 &&& Int64.toUInt64 63)).toInt64 = g
  have ef : hz_n g = (hz_n f) + hz_n f / 4294967296 := by
    have t1 : hz_n (f.toUInt64 >>> ((32 : Int32).toInt64.toUInt64 &&& Int64.toUInt64 63)).toInt64 = hz_n f / 4294967296 := by
      rw [hn_shr f (j := 32) (by decide +kernel) (by decide)]
    rw [← hff, hn_add (by rw [t1, ee, ed]; exact f3), t1]
  rw [hn_i, hc, ef, ee, ed, f0]
