-- ===== the first world: arrays, fields =====
section HCR
variable {p : Program} {l : Launch} {e : Env} {R : Room} {s : State} {m : MethodId} {args : Array Value} {below : List Frame} {meth : Method} {c : Code} {H : Heap} {locs : List Loc} {cells slots : Nat} {Q : State → Prop}
variable {D : va_G} {cy : Nat → ClassId} {b n0 S0 NC NS d : Nat} {M : hq_M} {ws : List hc_E} {pc : Nat} {la : Array Slot} {rest : List Value}
theorem hc_ra {ca cb : ClassId} {ty : FieldType} (ht : ty = .char ∨ ty = .int ∨ ty = .long ∨ ty = .boolean) (h1 : va_RA s ca ty) (h2 : va_RA s cb ty) : ca = cb := by
  rcases ht with rfl | rfl | rfl | rfl <;> exact Option.some.inj (h1.symm.trans h2)
theorem hc_raq {ca cb : ClassId} {C : String} (h1 : va_RA s ca (.object C)) (h2 : va_RA s cb (.object C)) : ca = cb := by
  obtain ⟨k1, c1, f1, f2, f3, f4⟩ := h1
  obtain ⟨k2, c2, g1, g2, g3, g4⟩ := h2
  exact Option.some.inj (f4.symm.trans g4)
theorem hc_newa {atype : ArrayType} {ty : FieldType} {t N : Nat} {a0 : vp_A} {f : hc_A} {n : Int32} (X : hc_X M d D cy b n0 NC NS p R s m args c) (P : hc_P D cy b n0 S0 s H locs cells slots ws) (harr : Cond.arrayClass (newarray.typeOf atype) ∈ hq_ws) (hty : newarray.typeOf atype = ty) (hp : ty = .char ∨ ty = .int ∨ ty = .long ∨ ty = .boolean) (ht : (hq_tys cy)[t]? = some (cy t, ty))
    (he : hc_ent b cy (.inr (t, N, f)) = .inl (cy t, a0)) (ha : ∀ cA : ClassId, vp_cell cA a0 = arrV cA N (fun _ => defaultValue ty)) (hn : ¬ n < 0) (hN : n.toNatClampNeg = N) (hbytes : N * componentBytes ty ≤ 536870912) (r1 : ws.length + 1 ≤ n0 + NC) (r2 : hc_sz ws + N ≤ S0 + NS) (hdg : decode M.2.1 pc = .ok (.newarray atype, 2))
    (kk : ∀ (H1 : Heap), hc_P D cy b n0 S0 s H1 locs (cells + 1) (slots + N) (ws ++ [.inr (t, N, f)]) → W p l e R s m args below meth c H1 locs (cells + 1) (slots + N) Q (F0 m (pc + 2) la (.ref (b + ws.length) :: rest))) : W p l e R s m args below meth c H locs cells slots Q (F0 m pc la (.int n :: rest)) := by
  obtain ⟨x1, x2, x3, x4, x5, x6, x7, x8, x9, x10, x11, x12, x13⟩ := X
  obtain ⟨P1, P2, P3, P4⟩ := P
  refine va_newa (A := hq_AA b) x1 x2 (x5 _ harr) hty x6 P1 (hc_wD b cy ws) P2 (fun q hq => Nat.le_trans x9 hq) ha hn hN hbytes (by omega) (by omega) hdg (fun q cA H1 hK1 hP1 hD1 hS1 => ?_)
  have hcA : cA = cy t := hc_ra hp (hK1.2 (hq_tys cy).length (cA, ty) (by rw [List.getElem?_append_right (Nat.le_refl _), Nat.sub_self]; rfl)).2 (x6.2 t _ ht).2
  subst hcA
  refine hw_size (fun hz => ?_)
  have eq := hc_fresh hP1 hD1 (by omega)
  subst eq
  have e9 : (hc_w b cy ws ++ [(b + ws.length, .inl (cy t, a0))]) = hc_w b cy (ws ++ [.inr (t, N, f)]) := by
    rw [← he]
    exact hc_app b cy ws (.inr (t, N, f))
  rw [e9] at hP1
  refine kk H1 ⟨hP1, hS1, by rw [List.length_append]; show cells + 1 + n0 = ws.length + 1; omega, ?_⟩
  rw [hc_sz_app]
  show slots + N + S0 = hc_sz ws + (N + 0)
  omega
theorem hc_newq {C : String} {t N index : Nat} {n : Int32} (X : hc_X M d D cy b n0 NC NS p R s m args c) (P : hc_P D cy b n0 S0 s H locs cells slots ws) (hcl : Cond.classLink M.1.cls index C ∈ hq_ws) (ho : va_AO C s) (ht : (hq_tys cy)[t]? = some (cy t, .object C)) (hn : ¬ n < 0) (hN : n.toNatClampNeg = N) (hbytes : N * 4 ≤ 536870912) (r1 : ws.length + 1 ≤ n0 + NC) (r2 : hc_sz ws + N ≤ S0 + NS) (hdg : decode M.2.1 pc = .ok (.anewarray index, 3))
    (kk : ∀ (H1 : Heap), hc_P D cy b n0 S0 s H1 locs (cells + 1) (slots + N) (ws ++ [.inr (t, N, .inr (.inr (fun _ => none)))]) → W p l e R s m args below meth c H1 locs (cells + 1) (slots + N) Q (F0 m (pc + 3) la (.ref (b + ws.length) :: rest))) : W p l e R s m args below meth c H locs cells slots Q (F0 m pc la (.int n :: rest)) := by
  obtain ⟨x1, x2, x3, x4, x5, x6, x7, x8, x9, x10, x11, x12, x13⟩ := X
  obtain ⟨P1, P2, P3, P4⟩ := P
  refine va_newq (A := hq_AA b) x1 x2 x4 (x5 _ hcl) ho x6 P1 (hc_wD b cy ws) P2 (fun q hq => Nat.le_trans x9 hq) hn hN hbytes (by omega) (by omega) hdg (fun q cA H1 hK1 hP1 hD1 hS1 => ?_)
  have hcA : cA = cy t := hc_raq (hK1.2 (hq_tys cy).length (cA, .object C) (by rw [List.getElem?_append_right (Nat.le_refl _), Nat.sub_self]; rfl)).2 (x6.2 t _ ht).2
  subst hcA
  refine hw_size (fun hz => ?_)
  have eq := hc_fresh hP1 hD1 (by omega)
  subst eq
  have e9 : (hc_w b cy ws ++ [(b + ws.length, .inl (cy t, N, .inr (.inr (.inr (.inr (fun _ => none))))))]) = hc_w b cy (ws ++ [.inr (t, N, .inr (.inr (fun _ => none)))]) := hc_app b cy ws (.inr (t, N, .inr (.inr (fun _ => none))))
  rw [e9] at hP1
  refine kk H1 ⟨hP1, hS1, by rw [List.length_append]; show cells + 1 + n0 = ws.length + 1; omega, ?_⟩
  rw [hc_sz_app]
  show slots + N + S0 = hc_sz ws + (N + 0)
  omega
/-- a final field set in the constructor -/
theorem hc_putF {own C : String} {T : u_T} {N ci index k a j : Nat} {vs : List hc_V} (X : hc_X M d D cy b n0 NC NS p R s m args c) (P : hc_P D cy b n0 S0 s H locs cells slots ws) (hin : ∀ w ∈ u_ws C T N, w ∈ hq_ws) (ty : Nat → FieldType) (hty : ∀ k, k < N → parseFieldDescriptor (T k).2.2.1 = some (ty k)) (hnm : ∀ a, a < N → ∀ b, b < N → a ≠ b → (T a).2.1 ≠ (T b).2.1) (hown : M.1.cls = own) (he : ws[a]? = some (.inl (ci, vs))) (hc : vwCl[ci]? = some (C, T, N)) (hk : k < N) (hl : k < vs.length)
    (hlink : Cond.fieldLink own index (T k).1 (T k).2.1 (T k).2.2.1 ∈ hq_ws) (hfin : (T k).2.2.2 = true) (hin2 : meth.name = "<init>") (hdecl : (T k).1 = own) (hn : narrow (ty k) (.ref (b + j)) = .ref (b + j)) (hfit : fits (ty k) (.ref (b + j)) = true) (hdg : decode M.2.1 pc = .ok (.putfield index, 3))
    (kk : ∀ (H1 : Heap) (locs1 : List Loc), hc_P D cy b n0 S0 s H1 locs1 cells slots (ws.set a (.inl (ci, vs.set k (.inr j)))) → W p l e R s m args below meth c H1 locs1 cells slots Q (F0 m (pc + 3) la rest)) : W p l e R s m args below meth c H locs cells slots Q (F0 m pc la (.ref (b + j) :: .ref (b + a) :: rest)) := by
  obtain ⟨x1, x2, x3, x4, x5, x6, x7, x8, x9, x10, x11, x12, x13⟩ := X
  obtain ⟨P1, P2, P3, P4⟩ := P
  subst hown
  refine va_putF x1 x2 x5 hin ty hty hnm x4 x6 P1 (hc_wD b cy ws) P2 a (hc_at b cy he) hc k hk (x5 _ hlink) (fun _ z => z) hfin hin2 hdecl (hty k hk) hn hfit (by rw [List.length_map]; exact hl) hdg (fun H1 locs1 hP1 hD1 hS1 => ?_)
  have e9 : (vs.map (hc_cv b)).set k (.ref (b + j)) = (vs.set k (.inr j)).map (hc_cv b) := by
    rw [List.map_set]
    rfl
  rw [e9] at hP1
  have e8 := hc_set b cy ws a (.inl (ci, vs.set k (.inr j)))
  have e7 : (hc_w b cy ws).set a (b + a, .inr (ci, (vs.set k (.inr j)).map (hc_cv b))) = hc_w b cy (ws.set a (.inl (ci, vs.set k (.inr j)))) := e8
  rw [e7] at hP1
  refine kk H1 locs1 ⟨hP1, hS1, by rw [List.length_set]; exact P3, ?_⟩
  rw [hc_sz_set he (by show (vs.set k (.inr j)).length = vs.length; rw [List.length_set])]
  exact P4
end HCR
