set_option maxRecDepth 20000 in
set_option maxHeartbeats 1000000 in
theorem hc_X6 (d : Nat) : hc_Met (d + 4) MX6_init 0 [hc_6z] (hc_st [hc_6z] 0 hc_6f hc_L7) 126 2744 := by
  have h0 : [hc_6z][0]? = some hc_6z := rfl
  have al : 0 < [hc_6z].length := by decide
  have ln : ∀ o L, (hc_st [hc_6z] 0 o L).length = 1 + L.length := fun o L => hc_st_len _ _ _ _
  have zs : ∀ o L, hc_se o = 9 → hc_sz (hc_st [hc_6z] 0 o L) = 9 + hc_sz L := fun o L h => hc_st_sz L h0 h
  obtain ⟨l1, l2, l3, l4, l5, l6, l7⟩ := hc_Ls
  obtain ⟨z1, z2, z3, z4, z5, z6, z7⟩ := hc_Lz
  refine hc_intro (d := d + 3) miX6 ⟨by rw [ln, l7]; rfl, by rw [zs _ _ rfl, z7]; rfl⟩ (fun _ => Nat.le_of_ble_eq_true rfl) ?_
  intro p l e R s m args below meth c D cy b la X hr hlk hnm P hl
  refine lv_aload_n X.1 X.2.1 dX6_init_0 rfl (lv_at hl 0 rfl) ?_
  refine W.objInit X.1 X.2.1 X.2.2.2.1 (X.2.2.2.2.1 _ wcM_X6_1) (X.2.2.2.2.1 _ wcO_i) (X.2.2.2.2.1 _ wcO_c) rfl (by rw [X.2.2.1]; exact hl.1) rfl dX6_init_1 (by have := X.2.2.2.2.2.2.2.2.2.2.2.1; omega) (by have := X.2.2.2.2.2.2.2.2.2.2.2.2; show 2 * 0 + 0 + 12 ≤ R.locals; omega) ?_
  refine W.eq (g2 := F0 m 4 la []) rfl ?_
  have P : hc_P D cy b 1 9 s s.heap [] 0 0 (hc_st [hc_6z] 0 hc_6z []) := P
  have X : hc_X MX6_init (d + 3) D cy b 1 126 2744 p R s m args c := X
  -- now
  refine lv_aload_n X.1 X.2.1 dX6_init_4 rfl (lv_at hl 0 rfl) ?_
  refine hc_mkH (d := d + 1) X P wcC_X6_7 wcM_X6_9 hl.1 (Nat.le_of_ble_eq_true rfl) (by rw [ln]; decide) (by rw [zs _ _ rfl]; decide) dX6_init_5 dX6_init_8 dX6_init_9 (fun H1 locs1 P => ?_)
  rw [ln] at P ⊢
  rw [hc_st_app2] at P
  refine hc_putF (k := 0) X P uX6 tyX6 tyX6_ok nmX6 rfl (hc_st_get _ _ al) rfl (by decide) (Nat.le_of_ble_eq_true rfl) wcF_X6_10 rfl hnm rfl rfl rfl dX6_init_12 (fun H1 locs1 P => ?_)
  rw [hc_st_set _ _ _ al] at P
  have P : hc_P D cy b 1 9 s H1 locs1 _ _ (hc_st [hc_6z] 0 (.inl (6, [.inr 1, .inl .null, .inl (.int 0), .inl .null, .inl .null, .inl (.int 0), .inl .null, .inl .null, .inl .null])) hc_L1) := P
  -- the snapshot
  refine lv_aload_n X.1 X.2.1 dX6_init_15 rfl (lv_at hl 0 rfl) ?_
  refine hc_mkH (d := d + 1) X P wcC_X6_7 wcM_X6_9 hl.1 (Nat.le_of_ble_eq_true rfl) (by rw [ln, l1]; decide) (by rw [zs _ _ rfl, z1]; decide) dX6_init_16 dX6_init_19 dX6_init_20 (fun H1 locs1 P => ?_)
  rw [ln, l1] at P ⊢
  rw [hc_st_app2] at P
  refine hc_putF (k := 1) X P uX6 tyX6 tyX6_ok nmX6 rfl (hc_st_get _ _ al) rfl (by decide) (Nat.le_of_ble_eq_true rfl) wcF_X6_16 rfl hnm rfl rfl rfl dX6_init_23 (fun H1 locs1 P => ?_)
  rw [hc_st_set _ _ _ al] at P
  have P : hc_P D cy b 1 9 s H1 locs1 _ _ (hc_st [hc_6z] 0 (.inl (6, [.inr 1, .inr 14, .inl (.int 0), .inl .null, .inl .null, .inl (.int 0), .inl .null, .inl .null, .inl .null])) hc_L2) := P
  refine lv_aload_n X.1 X.2.1 dX6_init_26 rfl (lv_at hl 0 rfl) ?_
  refine lv_iconst (v := 0) X.1 X.2.1 dX6_init_27 (by decide) ?_
  refine hc_putI (k := 2) X P uX6 tyX6 tyX6_ok nmX6 rfl (hc_st_get _ _ al) rfl (by decide) (Nat.le_of_ble_eq_true rfl) wcF_X6_19 rfl (by decide) (by decide) dX6_init_28 (fun H1 locs1 P => ?_)
  rw [hc_st_set _ _ _ al] at P
  have P : hc_P D cy b 1 9 s H1 locs1 _ _ (hc_st [hc_6z] 0 (.inl (6, [.inr 1, .inr 14, .inl (.int 0), .inl .null, .inl .null, .inl (.int 0), .inl .null, .inl .null, .inl .null])) hc_L2) := P
  -- the past
  refine lv_aload_n X.1 X.2.1 dX6_init_31 rfl (lv_at hl 0 rfl) ?_
  have m3 := fun w2 => hc_X3 d (List.length w2) (w2 ++ [hc_pz]) (hc_last w2 hc_pz)
  refine hc_mk (d := d + 2) (C := RX3) (T := TX3) (N := 4) (ci := 3) (vs := [.inl .null, .inl .null, .inl (.int 0), .inl (.int 0)]) X P uX3 tyX3 tyX3_ok wcI_X3 wcN_X3 rfl rfl (fun j hj => by rcases (show j = 0 ∨ j = 1 ∨ j = 2 ∨ j = 3 by omega) with rfl | rfl | rfl | rfl <;> rfl) wcC_X6_23 miX3 (by have q := m3 (hc_st [hc_6z] 0 (.inl (6, [.inr 1, .inr 14, .inl (.int 0), .inl .null, .inl .null, .inl (.int 0), .inl .null, .inl .null, .inl .null])) hc_L2); rw [hc_new_is] at q; exact q) wcM_X6_25 hl.1 (Nat.le_of_ble_eq_true rfl) (by rw [ln, l2]; decide) (by rw [zs _ _ rfl, z2]; decide) dX6_init_32 dX6_init_35 dX6_init_36 (fun H1 locs1 P => ?_)
  rw [List.length_append, ln, l2] at P
  rw [ln, l2]
  rw [hc_st_app2] at P
  refine hc_putF (k := 3) X P uX6 tyX6 tyX6_ok nmX6 rfl (hc_st_get _ _ al) rfl (by decide) (Nat.le_of_ble_eq_true rfl) wcF_X6_26 rfl hnm rfl rfl rfl dX6_init_39 (fun H1 locs1 P => ?_)
  rw [hc_st_set _ _ _ al] at P
  have P : hc_P D cy b 1 9 s H1 locs1 _ _ (hc_st [hc_6z] 0 (.inl (6, [.inr 1, .inr 14, .inl (.int 0), .inr 27, .inl .null, .inl (.int 0), .inl .null, .inl .null, .inl .null])) hc_L3) := P
  -- the buffer
  refine lv_aload_n X.1 X.2.1 dX6_init_42 rfl (lv_at hl 0 rfl) ?_
  refine lv_bipush (v := 60) X.1 X.2.1 dX6_init_43 (by decide) ?_
  refine hc_newa (atype := .int) (t := 1) (N := 60) (f := .inl (fun _ => 0)) X P wcA_int rfl (Or.inr (Or.inl rfl)) rfl rfl (fun _ => rfl) (by decide) (by decide) (by decide) (by rw [ln, l3]; decide) (by rw [zs _ _ rfl, z3]; decide) dX6_init_45 (fun H1 P => ?_)
  rw [hc_st_app] at P
  rw [ln, l3]
  refine hc_putF (k := 4) X P uX6 tyX6 tyX6_ok nmX6 rfl (hc_st_get _ _ al) rfl (by decide) (Nat.le_of_ble_eq_true rfl) wcF_X6_30 rfl hnm rfl rfl rfl dX6_init_47 (fun H1 locs1 P => ?_)
  rw [hc_st_set _ _ _ al] at P
  have P : hc_P D cy b 1 9 s H1 locs1 _ _ (hc_st [hc_6z] 0 (.inl (6, [.inr 1, .inr 14, .inl (.int 0), .inr 27, .inr 120, .inl (.int 0), .inl .null, .inl .null, .inl .null])) hc_L4) := P
  refine lv_aload_n X.1 X.2.1 dX6_init_50 rfl (lv_at hl 0 rfl) ?_
  refine lv_iconst (v := 0) X.1 X.2.1 dX6_init_51 (by decide) ?_
  refine hc_putI (k := 5) X P uX6 tyX6 tyX6_ok nmX6 rfl (hc_st_get _ _ al) rfl (by decide) (Nat.le_of_ble_eq_true rfl) wcF_X6_34 rfl (by decide) (by decide) dX6_init_52 (fun H1 locs1 P => ?_)
  rw [hc_st_set _ _ _ al] at P
  have P : hc_P D cy b 1 9 s H1 locs1 _ _ (hc_st [hc_6z] 0 (.inl (6, [.inr 1, .inr 14, .inl (.int 0), .inr 27, .inr 120, .inl (.int 0), .inl .null, .inl .null, .inl .null])) hc_L4) := P
  -- the reader
  refine lv_aload_n X.1 X.2.1 dX6_init_55 rfl (lv_at hl 0 rfl) ?_
  refine hc_mkN (d := d + 2) (C := RX2) (T := TX2) (N := 7) (ci := 2) (o := hc_reader) (L := []) (mc := 0) (ms := 0) (vs := [.inl (.int 0), .inl (.int 0), .inl (.int 0), .inl (.int 0), .inl (.int 0), .inl (.int 0), .inl (.int 0)]) X P uX2 tyX2 tyX2_ok wcI_X2 wcN_X2 rfl rfl (fun j hj => by rcases (show j = 0 ∨ j = 1 ∨ j = 2 ∨ j = 3 ∨ j = 4 ∨ j = 5 ∨ j = 6 by omega) with rfl | rfl | rfl | rfl | rfl | rfl | rfl <;> rfl) wcC_X6_38 miX2 (hc_X2 (d + 2) _ _) X.2.2.2.2.2.2.1.2.1 hl.1 (Nat.le_of_ble_eq_true rfl) (by rw [ln, l4]; decide) (by rw [zs _ _ rfl, z4]; decide) dX6_init_56 dX6_init_59 dX6_init_60 (fun H1 locs1 P => ?_)
  rw [ln, l4]
  rw [hc_st_app2] at P
  refine hc_putF (k := 6) X P uX6 tyX6 tyX6_ok nmX6 rfl (hc_st_get _ _ al) rfl (by decide) (Nat.le_of_ble_eq_true rfl) wcF_X6_41 rfl hnm rfl rfl rfl dX6_init_63 (fun H1 locs1 P => ?_)
  rw [hc_st_set _ _ _ al] at P
  have P : hc_P D cy b 1 9 s H1 locs1 _ _ (hc_st [hc_6z] 0 (.inl (6, [.inr 1, .inr 14, .inl (.int 0), .inr 27, .inr 120, .inl (.int 0), .inr 121, .inl .null, .inl .null])) hc_L5) := P
  -- the joiner
  refine lv_aload_n X.1 X.2.1 dX6_init_66 rfl (lv_at hl 0 rfl) ?_
  have m1 := fun w2 => hc_X1 (d + 2) (List.length w2) (w2 ++ [.inl (1, [.inl .null, .inl .null, .inl (.int 0)])]) (hc_last w2 _)
  refine hc_mk (d := d + 2) (C := RX1) (T := TX1) (N := 3) (ci := 1) (vs := [.inl .null, .inl .null, .inl (.int 0)]) X P uX1 tyX1 tyX1_ok wcI_X1 wcN_X1 rfl rfl (fun j hj => by rcases (show j = 0 ∨ j = 1 ∨ j = 2 by omega) with rfl | rfl | rfl <;> rfl) wcC_X6_45 miX1 (by have q := m1 (hc_st [hc_6z] 0 (.inl (6, [.inr 1, .inr 14, .inl (.int 0), .inr 27, .inr 120, .inl (.int 0), .inr 121, .inl .null, .inl .null])) hc_L5); rw [hc_new_is] at q; exact q) wcM_X6_47 hl.1 (Nat.le_of_ble_eq_true rfl) (by rw [ln, l5]; decide) (by rw [zs _ _ rfl, z5]; decide) dX6_init_67 dX6_init_70 dX6_init_71 (fun H1 locs1 P => ?_)
  rw [List.length_append, ln, l5] at P
  rw [ln, l5]
  rw [hc_st_app2] at P
  refine hc_putF (k := 7) X P uX6 tyX6 tyX6_ok nmX6 rfl (hc_st_get _ _ al) rfl (by decide) (Nat.le_of_ble_eq_true rfl) wcF_X6_48 rfl hnm rfl rfl rfl dX6_init_74 (fun H1 locs1 P => ?_)
  rw [hc_st_set _ _ _ al] at P
  have P : hc_P D cy b 1 9 s H1 locs1 _ _ (hc_st [hc_6z] 0 (.inl (6, [.inr 1, .inr 14, .inl (.int 0), .inr 27, .inr 120, .inl (.int 0), .inr 121, .inr 122, .inl .null])) hc_L6) := P
  -- the table
  refine lv_aload_n X.1 X.2.1 dX6_init_77 rfl (lv_at hl 0 rfl) ?_
  have m5 := fun w2 => hc_X5 (d + 2) (List.length w2) (w2 ++ [.inl (5, [.inl .null])]) (hc_last w2 _)
  refine hc_mk (d := d + 2) (C := RX5) (T := TX5) (N := 1) (ci := 5) (vs := [.inl .null]) X P uX5 tyX5 tyX5_ok wcI_X5 wcN_X5 rfl rfl (fun j hj => by rcases (show j = 0 by omega) with rfl; rfl) wcC_X6_52 miX5 (by have q := m5 (hc_st [hc_6z] 0 (.inl (6, [.inr 1, .inr 14, .inl (.int 0), .inr 27, .inr 120, .inl (.int 0), .inr 121, .inr 122, .inl .null])) hc_L6); rw [hc_new_is] at q; exact q) wcM_X6_54 hl.1 (Nat.le_of_ble_eq_true rfl) (by rw [ln, l6]; decide) (by rw [zs _ _ rfl, z6]; decide) dX6_init_78 dX6_init_81 dX6_init_82 (fun H1 locs1 P => ?_)
  rw [List.length_append, ln, l6] at P
  rw [ln, l6]
  rw [hc_st_app2] at P
  refine hc_putF (k := 8) X P uX6 tyX6 tyX6_ok nmX6 rfl (hc_st_get _ _ al) rfl (by decide) (Nat.le_of_ble_eq_true rfl) wcF_X6_55 rfl hnm rfl rfl rfl dX6_init_85 (fun H1 locs1 P => ?_)
  rw [hc_st_set _ _ _ al] at P
  have P : hc_P D cy b 1 9 s H1 locs1 _ _ (hc_st [hc_6z] 0 hc_6f hc_L7) := P
  exact hc_ret X P (by rw [ln, l7]) (by rw [zs _ _ rfl, z7]) hr hlk dX6_init_88
