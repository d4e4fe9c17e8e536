-- ===== the first world: the class =====
theorem hc_new_is (w2 : List hc_E) (x o : hc_E) (L : List hc_E) : hc_st (w2 ++ [x]) w2.length o L = w2 ++ (o :: L) := by
  unfold hc_st
  rw [List.set_append_right _ _ (Nat.le_refl _), Nat.sub_self]
  show w2 ++ [o] ++ L = _
  rw [List.append_assoc]
  rfl
section HCM
variable {p : Program} {l : Launch} {e : Env} {R : Room} {s : State} {m : MethodId} {args : Array Value} {below : List Frame} {meth : Method} {c : Code} {H : Heap} {locs : List Loc} {cells slots : Nat} {Q : State → Prop}
variable {D : va_G} {cy : Nat → ClassId} {b n0 S0 NC NS d : Nat} {M : hq_M} {ws w2 : List hc_E} {pc : Nat} {la : Array Slot} {rest : List Value}
theorem hc_putI {own C : String} {T : u_T} {N ci index k a : Nat} {x : Int32} {vs : List hc_V} (X : hc_X M d D cy b n0 NC NS p R s m args c) (P : hc_P D cy b n0 S0 s H locs cells slots ws) (hin : ∀ w ∈ u_ws C T N, w ∈ hq_ws) (ty : Nat → FieldType) (hty : ∀ k, k < N → parseFieldDescriptor (T k).2.2.1 = some (ty k)) (hnm : ∀ a, a < N → ∀ b, b < N → a ≠ b → (T a).2.1 ≠ (T b).2.1) (hown : M.1.cls = own) (he : ws[a]? = some (.inl (ci, vs))) (hc : vwCl[ci]? = some (C, T, N)) (hk : k < N) (hl : k < vs.length)
    (hlink : Cond.fieldLink own index (T k).1 (T k).2.1 (T k).2.2.1 ∈ hq_ws) (hfin : (T k).2.2.2 = false) (hn : narrow (ty k) (.int x) = .int x) (hfit : fits (ty k) (.int x) = true) (hdg : decode M.2.1 pc = .ok (.putfield index, 3))
    (kk : ∀ (H1 : Heap) (locs1 : List Loc), hc_P D cy b n0 S0 s H1 locs1 cells slots (ws.set a (.inl (ci, vs.set k (.inl (.int x))))) → W p l e R s m args below meth c H1 locs1 cells slots Q (F0 m (pc + 3) la rest)) : W p l e R s m args below meth c H locs cells slots Q (F0 m pc la (.int x :: .ref (b + a) :: rest)) := by
  obtain ⟨x1, x2, x3, x4, x5, x6, x7, x8, x9, x10, x11, x12, x13⟩ := X
  obtain ⟨P1, P2, P3, P4⟩ := P
  subst hown
  refine va_put x1 x2 x5 hin ty hty hnm x4 x6 P1 (hc_wD b cy ws) P2 a (hc_at b cy he) hc k hk (x5 _ hlink) (fun _ z => z) hfin (hty k hk) hn hfit (by rw [List.length_map]; exact hl) hdg (fun H1 locs1 hP1 hD1 hS1 => ?_)
  have e9 : (vs.map (hc_cv b)).set k (.int x) = (vs.set k (.inl (.int x))).map (hc_cv b) := by
    rw [List.map_set]
    rfl
  rw [e9] at hP1
  have e7 : (hc_w b cy ws).set a (b + a, .inr (ci, (vs.set k (.inl (.int x))).map (hc_cv b))) = hc_w b cy (ws.set a (.inl (ci, vs.set k (.inl (.int x))))) := hc_set b cy ws a (.inl (ci, vs.set k (.inl (.int x))))
  rw [e7] at hP1
  refine kk H1 locs1 ⟨hP1, hS1, by rw [List.length_set]; exact P3, ?_⟩
  rw [hc_sz_set he (by show (vs.set k (.inl (.int x))).length = vs.length; rw [List.length_set])]
  exact P4
/-- a new object, built -/
theorem hc_mk {C : String} {T : u_T} {N ci ik ic mc ms : Nat} {M' : hq_M} {vs : List hc_V} {o : hc_E} {L : List hc_E} (X : hc_X M (d + 1) D cy b n0 NC NS p R s m args c) (P : hc_P D cy b n0 S0 s H locs cells slots w2) (hin : ∀ w ∈ u_ws C T N, w ∈ hq_ws) (ty : Nat → FieldType) (hty : ∀ k, k < N → parseFieldDescriptor (T k).2.2.1 = some (ty k)) (hinst : Cond.instantiable C N ∈ hq_ws) (hini : Cond.initialized C ∈ hq_ws) (hc : vwCl[ci]? = some (C, T, N)) (hvs : vs.length = N) (hfs : ∀ j, j < N → defaultValue (ty j) = vp_V (vs.map (hc_cv b)) j)
    (hcl : Cond.classLink M.1.cls ik C ∈ hq_ws) (hm : hc_mi M') (hmet : hc_Met (d + 1) M' w2.length (w2 ++ [.inl (ci, vs)]) (w2 ++ (o :: L)) mc ms) (hml : Cond.methodLink M.1.cls ic M'.1 ∈ hq_ws) (hla : la.size = M.2.2.1) (hrest : (rest.map fun v => v.category).sum ≤ 6) (r1 : w2.length + 1 + mc ≤ n0 + NC) (r2 : hc_sz w2 + N + ms ≤ S0 + NS) (d1 : decode M.2.1 pc = .ok (.new ik, 3)) (d2 : decode M.2.1 (pc + 3) = .ok (.dup, 1)) (d3 : decode M.2.1 (pc + 3 + 1) = .ok (.invokespecial ic, 3))
    (kk : ∀ (H1 : Heap) (locs1 : List Loc), hc_P D cy b n0 S0 s H1 locs1 (cells + 1 + mc) (slots + N + ms) (w2 ++ (o :: L)) → W p l e R s m args below meth c H1 locs1 (cells + 1 + mc) (slots + N + ms) Q (F0 m (pc + 3 + 1 + 3) la (.ref (b + w2.length) :: rest))) : W p l e R s m args below meth c H locs cells slots Q (F0 m pc la rest) := by
  refine hc_new (ci := ci) (vs := vs) X P hin ty hty rfl hcl hinst hini hc hvs hfs (by omega) (by omega) d1 (fun H1 P => ?_)
  refine lv_dup X.1 X.2.1 d2 rfl ?_
  have el := hmet.1
  have ez : hc_sz (w2 ++ [.inl (ci, vs)]) = hc_sz w2 + N := by
    rw [hc_sz_app]
    show hc_sz w2 + (vs.length + 0) = _
    omega
  refine hc_call X P hm hmet hml hla ?_ ?_ ?_ d3 (fun H2 locs2 P2 => kk H2 locs2 P2)
  · rw [List.map_cons, List.sum_cons]
    show 1 + _ ≤ 8
    omega
  · rw [el.1, List.length_append]
    show w2.length + 1 + mc ≤ _
    omega
  · rw [el.2, ez]
    omega
theorem hc_mkN {C host : String} {T : u_T} {N ci ik ic mc ms : Nat} {M' : hq_M} {vs : List hc_V} {o : hc_E} {L : List hc_E} (X : hc_X M (d + 1) D cy b n0 NC NS p R s m args c) (P : hc_P D cy b n0 S0 s H locs cells slots w2) (hin : ∀ w ∈ u_ws C T N, w ∈ hq_ws) (ty : Nat → FieldType) (hty : ∀ k, k < N → parseFieldDescriptor (T k).2.2.1 = some (ty k)) (hinst : Cond.instantiable C N ∈ hq_ws) (hini : Cond.initialized C ∈ hq_ws) (hc : vwCl[ci]? = some (C, T, N)) (hvs : vs.length = N) (hfs : ∀ j, j < N → defaultValue (ty j) = vp_V (vs.map (hc_cv b)) j)
    (hcl : Cond.classLink M.1.cls ik C ∈ hq_ws) (hm : hc_mi M') (hmet : hc_Met (d + 1) M' w2.length (w2 ++ [.inl (ci, vs)]) (w2 ++ (o :: L)) mc ms) (hml : va_Nw (.methodLinkNest M.1.cls ic M'.1 host) s) (hla : la.size = M.2.2.1) (hrest : (rest.map fun v => v.category).sum ≤ 6) (r1 : w2.length + 1 + mc ≤ n0 + NC) (r2 : hc_sz w2 + N + ms ≤ S0 + NS) (d1 : decode M.2.1 pc = .ok (.new ik, 3)) (d2 : decode M.2.1 (pc + 3) = .ok (.dup, 1)) (d3 : decode M.2.1 (pc + 3 + 1) = .ok (.invokespecial ic, 3))
    (kk : ∀ (H1 : Heap) (locs1 : List Loc), hc_P D cy b n0 S0 s H1 locs1 (cells + 1 + mc) (slots + N + ms) (w2 ++ (o :: L)) → W p l e R s m args below meth c H1 locs1 (cells + 1 + mc) (slots + N + ms) Q (F0 m (pc + 3 + 1 + 3) la (.ref (b + w2.length) :: rest))) : W p l e R s m args below meth c H locs cells slots Q (F0 m pc la rest) := by
  refine hc_new (ci := ci) (vs := vs) X P hin ty hty rfl hcl hinst hini hc hvs hfs (by omega) (by omega) d1 (fun H1 P => ?_)
  refine lv_dup X.1 X.2.1 d2 rfl ?_
  have el := hmet.1
  have ez : hc_sz (w2 ++ [.inl (ci, vs)]) = hc_sz w2 + N := by
    rw [hc_sz_app]
    show hc_sz w2 + (vs.length + 0) = _
    omega
  refine hc_callN X P hm hmet hml hla ?_ ?_ ?_ d3 (fun H2 locs2 P2 => kk H2 locs2 P2)
  · rw [List.map_cons, List.sum_cons]
    show 1 + _ ≤ 8
    omega
  · rw [el.1, List.length_append]
    show w2.length + 1 + mc ≤ _
    omega
  · rw [el.2, ez]
    omega
end HCM
theorem hc_last (w2 : List hc_E) (x : hc_E) : (w2 ++ [x])[w2.length]? = some x := by
  rw [List.getElem?_append_right (Nat.le_refl _), Nat.sub_self]
  rfl
def hc_6z : hc_E := .inl (6, [.inl .null, .inl .null, .inl (.int 0), .inl .null, .inl .null, .inl (.int 0), .inl .null, .inl .null, .inl .null])
def hc_6f : hc_E := .inl (6, [.inr 1, .inr 14, .inl (.int 0), .inr 27, .inr 120, .inl (.int 0), .inr 121, .inr 122, .inr 125])
def hc_L1 : List hc_E := hc_hc 1
def hc_L2 : List hc_E := hc_L1 ++ hc_hc 14
def hc_L3 : List hc_E := hc_L2 ++ (hc_pf 28 :: hc_ri 28 6 :: hc_hcs 28 7)
def hc_L4 : List hc_E := hc_L3 ++ [hc_iz 1 60]
def hc_L5 : List hc_E := hc_L4 ++ [hc_reader]
def hc_L6 : List hc_E := hc_L5 ++ [.inl (1, [.inr 123, .inr 124, .inl (.int 0)]), hc_iz 1 729, hc_lz 64]
def hc_L7 : List hc_E := hc_L6 ++ [.inl (5, [.inr 126]), hc_lz 1024]
theorem hc_Ls : hc_L1.length = 13 ∧ hc_L2.length = 26 ∧ hc_L3.length = 119 ∧ hc_L4.length = 120 ∧ hc_L5.length = 121 ∧ hc_L6.length = 124 ∧ hc_L7.length = 126 := by decide +kernel
theorem hc_Lz : hc_sz hc_L1 = 94 ∧ hc_sz hc_L2 = 188 ∧ hc_sz hc_L3 = 856 ∧ hc_sz hc_L4 = 916 ∧ hc_sz hc_L5 = 923 ∧ hc_sz hc_L6 = 1719 ∧ hc_sz hc_L7 = 2744 := by decide +kernel
