-- ===== the first world: places of arrays of objects, fields read =====
section HCG
variable {p : Program} {l : Launch} {e : Env} {R : Room} {s : State} {m : MethodId} {args : Array Value} {below : List Frame} {meth : Method} {c : Code} {H : Heap} {locs : List Loc} {cells slots : Nat} {Q : State → Prop}
variable {D : va_G} {cy : Nat → ClassId} {b n0 S0 NC NS d : Nat} {M : hq_M} {ws : List hc_E} {pc : Nat} {la : Array Slot} {rest : List Value}
theorem hc_get {own C : String} {T : u_T} {N ci index k a j : Nat} {vs : List hc_V} (X : hc_X M d D cy b n0 NC NS p R s m args c) (P : hc_P D cy b n0 S0 s H locs cells slots ws) (hin : ∀ w ∈ u_ws C T N, w ∈ hq_ws) (hown : M.1.cls = own) (he : ws[a]? = some (.inl (ci, vs))) (hc : vwCl[ci]? = some (C, T, N)) (hk : k < N)
    (hlink : Cond.fieldLink own index (T k).1 (T k).2.1 (T k).2.2.1 ∈ hq_ws) (hv : vs[k]? = some (.inr j)) (hdg : decode M.2.1 pc = .ok (.getfield index, 3)) (kk : W p l e R s m args below meth c H locs cells slots Q (F0 m (pc + 3) la (.ref (b + j) :: rest))) : W p l e R s m args below meth c H locs cells slots Q (F0 m pc la (.ref (b + a) :: rest)) := by
  obtain ⟨x1, x2, x3, x4, x5, x6, x7, x8, x9, x10, x11, x12, x13⟩ := X
  subst hown
  exact va_get x1 x2 x5 hin x4 x6 P.1 a (hc_at b cy he) hc k hk (x5 _ hlink) (fun _ z => z) (v := .ref (b + j)) (by rw [List.getElem?_map, hv]; rfl) hdg kk
theorem hc_alen {t N j : Nat} {ty : FieldType} {v : Int32} {f : Nat → Option Nat} (X : hc_X M d D cy b n0 NC NS p R s m args c) (P : hc_P D cy b n0 S0 s H locs cells slots ws) (he : ws[j]? = some (.inr (t, N, .inr (.inr f)))) (ht : (hq_tys cy)[t]? = some (cy t, ty)) (hv : Int32.ofNat N = v) (hdg : decode M.2.1 pc = .ok (.arraylength, 1)) (kk : W p l e R s m args below meth c H locs cells slots Q (F0 m (pc + 1) la (.int v :: rest))) : W p l e R s m args below meth c H locs cells slots Q (F0 m pc la (.ref (b + j) :: rest)) :=
  va_alen X.1 X.2.1 X.2.2.2.2.2.1 P.1 j t (hc_at b cy he) ht hv hdg kk
theorem hc_ast {t N ja jv i ci : Nat} {r : vw_C} {vs : List hc_V} {f : Nat → Option Nat} (X : hc_X M d D cy b n0 NC NS p R s m args c) (P : hc_P D cy b n0 S0 s H locs cells slots ws) (he : ws[ja]? = some (.inr (t, N, .inr (.inr f)))) (ht : (hq_tys cy)[t]? = some (cy t, .object r.1)) (hv : ws[jv]? = some (.inl (ci, vs))) (hc : vwCl[ci]? = some r) (hi : i < N) (hi2 : i < 2 ^ 31) (hdg : decode M.2.1 pc = .ok (.aastore, 1))
    (kk : ∀ (H1 : Heap) (locs1 : List Loc), hc_P D cy b n0 S0 s H1 locs1 cells slots (ws.set ja (.inr (t, N, .inr (.inr (fun q => if q = i then some jv else f q))))) → W p l e R s m args below meth c H1 locs1 cells slots Q (F0 m (pc + 1) la rest)) : W p l e R s m args below meth c H locs cells slots Q (F0 m pc la (.ref (b + jv) :: .int (nI i) :: .ref (b + ja) :: rest)) := by
  obtain ⟨x1, x2, x3, x4, x5, x6, x7, x8, x9, x10, x11, x12, x13⟩ := X
  obtain ⟨P1, P2, P3, P4⟩ := P
  have ei : (nI i).toNatClampNeg = i := nI_clamp hi2
  refine va_astq x1 x2 x6 P1 (hc_wD b cy ws) P2 ja t jv ci (hc_at b cy he) ht (hc_at b cy hv) hc (i := nI i) ?_ hdg (fun H1 locs1 hP1 hD1 hS1 => ?_)
  · rintro (z | z)
    · exact nI_pos hi2 z
    · rw [ei] at z
      omega
  · rw [ei] at hP1
    have e0 : va_up (fun q => (f q).map (b + ·)) i (some (b + jv)) = fun q => ((fun q => if q = i then some jv else f q) q).map (b + ·) := by
      funext q
      unfold va_up
      show (if q = i then some (b + jv) else (f q).map (b + ·)) = (if q = i then some jv else f q).map (b + ·)
      split <;> rfl
    rw [e0] at hP1
    have e8 := hc_set b cy ws ja (.inr (t, N, .inr (.inr (fun q => if q = i then some jv else f q))))
    have e7 : (hc_w b cy ws).set ja (b + ja, .inl (cy t, N, .inr (.inr (.inr (.inr (fun q => ((fun q => if q = i then some jv else f q) q).map (b + ·))))))) = hc_w b cy (ws.set ja (.inr (t, N, .inr (.inr (fun q => if q = i then some jv else f q))))) := e8
    rw [e7] at hP1
    refine kk H1 locs1 ⟨hP1, hS1, by rw [List.length_set]; exact P3, ?_⟩
    exact P4.trans (hc_sz_set (e' := .inr (t, N, .inr (.inr (fun q => if q = i then some jv else f q)))) he rfl).symm
end HCG
set_option maxRecDepth 20000 in
theorem hc_X1 (d a : Nat) (ws : List hc_E) (h0 : ws[a]? = some (.inl (1, [.inl .null, .inl .null, .inl (.int 0)]))) : hc_Met (d + 1) MX1_init a ws (hc_st ws a (.inl (1, [.inr ws.length, .inr (ws.length + 1), .inl (.int 0)])) [hc_iz 1 729, hc_lz 64]) 2 793 := by
  have al : a < ws.length := (List.getElem?_eq_some_iff.mp h0).1
  refine hc_intro miX1 ⟨hc_st_len _ _ _ _, hc_st_sz _ h0 rfl⟩ (fun _ => Nat.le_of_ble_eq_true rfl) ?_
  intro p l e R s m args below meth c D cy b la X hr hlk hnm P hl
  refine lv_aload_n X.1 X.2.1 dX1_init_0 rfl (lv_at hl 0 rfl) ?_
  refine W.objInit X.1 X.2.1 X.2.2.2.1 (X.2.2.2.2.1 _ wcM_X1_3) (X.2.2.2.2.1 _ wcO_i) (X.2.2.2.2.1 _ wcO_c) rfl (by rw [X.2.2.1]; exact hl.1) rfl dX1_init_1 (by have := X.2.2.2.2.2.2.2.2.2.2.2.1; omega) (by have := X.2.2.2.2.2.2.2.2.2.2.2.2; show 2 * 0 + 0 + 12 ≤ R.locals; omega) ?_
  refine W.eq (g2 := F0 m 4 la []) rfl ?_
  refine lv_aload_n X.1 X.2.1 dX1_init_4 rfl (lv_at hl 0 rfl) ?_
  refine lv_sipush (v := 729) X.1 X.2.1 dX1_init_5 (by decide) ?_
  refine hc_newa (atype := .int) (t := 1) (N := 729) (f := .inl (fun _ => 0)) X P wcA_int rfl (Or.inr (Or.inl rfl)) rfl rfl (fun _ => rfl) (by decide) (by decide) (by decide) (by omega) (by omega) dX1_init_8 (fun H1 P => ?_)
  rw [show ws ++ [.inr (1, 729, .inl (fun _ => 0))] = hc_st ws a (.inl (1, [.inl .null, .inl .null, .inl (.int 0)])) [hc_iz 1 729] by rw [← List.nil_append [hc_iz 1 729], ← hc_st_app, ← hc_st_0 h0]; rfl] at P
  refine hc_putF (k := 0) X P uX1 tyX1 tyX1_ok nmX1 rfl (hc_st_get _ _ al) rfl (by decide) (Nat.le_of_ble_eq_true rfl) wcF_X1_9 rfl hnm rfl rfl rfl dX1_init_10 (fun H1 locs1 P => ?_)
  rw [hc_st_set _ _ _ al] at P
  refine lv_aload_n X.1 X.2.1 dX1_init_13 rfl (lv_at hl 0 rfl) ?_
  refine lv_bipush (v := 64) X.1 X.2.1 dX1_init_14 (by decide) ?_
  refine hc_newa (atype := .long) (t := 2) (N := 64) (f := .inr (.inl (fun _ => 0))) X P wcA_long rfl (Or.inr (Or.inr (Or.inl rfl))) rfl rfl (fun _ => rfl) (by decide) (by decide) (by decide) (by have := P.2.2.1; omega) (by have := P.2.2.2; omega) dX1_init_16 (fun H1 P => ?_)
  rw [hc_st_app] at P
  rw [hc_st_len]
  refine hc_putF (k := 1) X P uX1 tyX1 tyX1_ok nmX1 rfl (hc_st_get _ _ al) rfl (by decide) (Nat.le_of_ble_eq_true rfl) wcF_X1_15 rfl hnm rfl rfl rfl dX1_init_18 (fun H1 locs1 P => ?_)
  rw [hc_st_set _ _ _ al] at P
  exact hc_ret X P (hc_st_len _ _ _ _) (hc_st_sz _ h0 rfl) hr hlk dX1_init_21
