-- ===== small words wanted further on =====
theorem hz_andm1 (x : Int64) : x &&& (-1) = x := hz_bl_ext (fun k hk => by rw [hz_bl_and, hz_bl_m1 k hk, Bool.and_true])
