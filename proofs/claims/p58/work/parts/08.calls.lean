theorem hq_inw {w : Cond} (h : w ∈ tables_1) (g : goodWord w = true) : w ∈ hq_ws := List.mem_filter.mpr ⟨List.mem_append_right _ h, g⟩
theorem hq_m1 (i : Nat) {w : Cond} (h : tables_1_1[i]? = some w) (g : goodWord w = true) : w ∈ hq_ws := hq_inw (List.mem_append_left _ (List.mem_of_getElem? h)) g
theorem hq_m2 (i : Nat) {w : Cond} (h : tables_1_2[i]? = some w) (g : goodWord w = true) : w ∈ hq_ws := hq_inw (List.mem_append_right _ (List.mem_append_left _ (List.mem_of_getElem? h))) g
theorem hq_m3 (i : Nat) {w : Cond} (h : tables_1_3[i]? = some w) (g : goodWord w = true) : w ∈ hq_ws := hq_inw (List.mem_append_right _ (List.mem_append_right _ (List.mem_append_left _ (List.mem_of_getElem? h)))) g
theorem hq_m4 (i : Nat) {w : Cond} (h : tables_1_4[i]? = some w) (g : goodWord w = true) : w ∈ hq_ws := hq_inw (List.mem_append_right _ (List.mem_append_right _ (List.mem_append_right _ (List.mem_of_getElem? h)))) g
theorem hq_memS (i : Nat) {w : Cond} (h : (k2_sels lw_privs)[i]? = some w) (g : goodWord w = true) : w ∈ hq_ws := List.mem_filter.mpr ⟨List.mem_append_left _ (List.mem_of_getElem? h), g⟩
theorem hq_gw {w : Cond} (h : w ∈ hq_ws) : (w.onTables && w.keeps) = true ∨ ∃ ty, w = .arrayClass ty := good_of_word (List.mem_filter.mp h).2
/-- what the tables say of a method: of any, of an instance's, of a static one -/
def hq_md (M : hq_M) (n : Nat) : Prop := (M.1.cls ≠ "java/lang/invoke/MethodHandle" ∧ M.1.cls ≠ "java/lang/invoke/VarHandle" ∧ (parseMethodDescriptor M.1.desc).map (fun d => d.parameters.length) = some n) ∧ Cond.code M.1 M.2.1 M.2.2.1 M.2.2.2 ∈ hq_ws ∧ Cond.initialized M.1.cls ∈ hq_ws ∧ M.2.2.1 ≤ 40 ∧ plainName M.1.cls = true
def hq_mv (M : hq_M) (n : Nat) : Prop := hq_md M n ∧ Cond.instanceMethod M.1 ∈ hq_ws ∧ Cond.selects M.1.cls M.1 M.1 ∈ hq_ws
def hq_mt (M : hq_M) (n : Nat) : Prop := hq_md M n ∧ Cond.static M.1 ∈ hq_ws
theorem hq_wx_ot : ∀ w ∈ hq_wx, w.onTables = true := by decide +kernel
theorem hq_wx_warm : ∀ w ∈ hq_wx, ∀ {s U : State}, s.WarmedH U.vm → va_Nw w s → va_Nw w U := by
  intro w hw s U hW hZ
  simp only [hq_wx, List.mem_cons, List.not_mem_nil, or_false] at hw
  rcases hw with rfl | rfl | rfl | rfl | rfl | rfl | rfl | rfl | rfl <;> first | exact va_Nw.warmC hW hZ | exact va_Nw.warmD hW hZ
theorem hq_ZS_moved {b : Nat} {u U : State} {H : Heap} (hv : U.vm = u.vm) (h : hq_ZS b u H) : hq_ZS b U H := ⟨vx_Zq.moved (by rw [hv]; exact Vm.Alike.refl u.vm) h.1, vx_Zq.moved (by rw [hv]; exact Vm.Alike.refl u.vm) h.2.1, fun q hq => by
  obtain ⟨a, ha⟩ := h.2.2.1 q hq
  exact ⟨a, vk_R.same hv ha⟩, fun w hw => va_Nw.same (hq_wx_ot w hw) hv.symm (h.2.2.2 w hw)⟩
theorem hq_ZS_to {b : Nat} {s U : State} {H : Heap} {locs : List Loc} (h : hq_ZS b s s.heap) (hS : va_S (hq_AA b) s.heap H locs) (hW : s.WarmedH U.vm) (hU : U.heap = H) : hq_ZS b U U.heap := by
  subst hU
  exact ⟨vx_Zq.moved hW.alike (vx_Zq.kept h.1 hS.2.1), vx_Zq.moved hW.alike (vx_Zq.kept h.2.1 hS.2.1), fun q hq => by
    obtain ⟨a, ha⟩ := h.2.2.1 q hq
    exact ⟨a, vk_R.warm hW ha⟩, fun w hw => hq_wx_warm w hw hW (h.2.2.2 w hw)⟩
theorem hq_blind {b : Nat} {cy : Nat → ClassId} {D : va_G} {args : List hq_V} {h : hq_H} : FrameBlind (hq_Pc b cy D args h) := by
  intro a U g mk q
  obtain ⟨e, hP, hK, hZ⟩ := q
  exact ⟨e, hP, va_K.moved (u := U) (U := U.calling g mk a) (Vm.Alike.refl U.vm) hK, hq_ZS_moved (u := U) (U := U.calling g mk a) rfl hZ⟩
/-- words for a rest of the stack below the arguments: eight at most -/
def hq_cs (st : List hq_V) : Nat := match st with
  | [] => 0
  | v :: r => (match hq_2 v with
    | true => 2
    | false => 1) + hq_cs r
def hq_rm (st : List hq_V) (P : Prop) : Prop := match Nat.ble (hq_cs st) 8 with
  | true => P
  | false => False
theorem hq_rm_of {st : List hq_V} {P : Prop} (h : hq_rm st P) : hq_cs st ≤ 8 ∧ P := by
  unfold hq_rm at h
  split at h
  next e => exact ⟨Nat.le_of_ble_eq_true e, h⟩
  next => exact h.elim
theorem hq_cat_le {b : Nat} (v : hq_V) : (hq_cv b v).category ≤ (match hq_2 v with | true => 2 | false => 1) := by
  cases hv : hq_2 v with
  | true =>
    rcases lv_cat (hq_cv b v) with h | h
    · show _ ≤ 2; omega
    · show _ ≤ 2; omega
  | false =>
    show _ ≤ 1
    rw [hq_cat1 hv]
    exact Nat.le_refl 1
theorem hq_cs_of {b : Nat} : ∀ (st : List hq_V), ((st.map (hq_cv b)).map fun v => v.category).sum ≤ hq_cs st
  | [] => Nat.le_refl 0
  | v :: r => by
    have h1 := hq_cs_of (b := b) r
    have h2 := hq_cat_le (b := b) v
    show ((hq_cv b v).category :: ((r.map (hq_cv b)).map fun v => v.category)).sum ≤ _
    rw [List.sum_cons]
    show _ ≤ (match hq_2 v with | true => 2 | false => 1) + hq_cs r
    omega
section HC
variable {p : Program} {l : Launch} {e : Env} {R : Room} {s : State} {m : MethodId} {args : Array Value} {below : List Frame} {meth : Method} {c : Code} {H : Heap} {locs : List Loc} {cells slots : Nat} {Q : State → Prop}
variable {D : va_G} {cy : Nat → ClassId} {b : Nat}
theorem hq_after {h1 : hq_H} {res : hq_R} {g : JFrame} {rest : List Value} {a : Array Value} (hr : vx_Run p l e R s m args below meth c H locs cells slots (hq_mc res) (hq_ms res) g rest (hq_QC b cy D h1 res a) (hq_XC b cy D h1 res) (hq_AA b)) (hS : va_S (hq_AA b) s.heap H locs)
    (k : ∀ (r : Option hq_V) (H1 : Heap) (locs1 : List Loc), res = .inl r → va_P D vwCl (hq_w b cy h1) H1 → va_S (hq_AA b) s.heap H1 locs1 → W p l e R s m args below meth c H1 locs1 cells slots Q { g with pc := g.pc + 3, stack := (r.map (hq_cv b)).toList ++ rest })
    (kx : ∀ (E : String) (q : Addr) (ce : Cell) (H1 : Heap) (locs1 : List Loc), res = .inr E → va_P D vwCl (hq_w b cy h1) H1 → va_S (hq_AA b) s.heap H1 locs1 → H1[q]? = some ce → ce.vm = .none → s.vm.findClass E = some ce.cls → vx_W p l e R s m args below meth c H1 locs1 (cells + 1) (slots + 6) Q { g with stack := rest } q) :
    W p l e R s m args below meth c H locs cells slots Q g := by
  intro T hT X
  have keep : ∀ (st₀ t T' : State) (L : List Loc), st₀.heap = H → T'.heap = t.heap → (∀ q ∈ L, hq_AA b q.base) → va_F (hq_AA b) st₀ t → va_S (hq_AA b) s.heap T'.heap (locs ++ L) := by
    intro st₀ t T' L h0 e1 hL hF
    obtain ⟨hz, hk⟩ := hF
    rw [h0] at hz hk
    refine ⟨Nat.le_trans hS.1 (by rw [e1]; exact hz), fun q h1 h2 => ?_, fun q hq => ?_⟩
    · rw [e1, hk q (Nat.lt_of_lt_of_le h1 hS.1) h2]
      exact hS.2.1 q h1 h2
    · rcases List.mem_append.mp hq with h | h
      · exact hS.2.2 q h
      · exact hL q h
  rcases hr T hT X with ⟨v, st₀, t, T', L, h0, X', hL, e1, e2, ⟨⟨r, hres, hv⟩, hP, hF⟩, st⟩ | ⟨q, st₀, t, T', L, E, ce, h0, X', hL, e1, e2, ⟨hres, hP, hF⟩, hce, hcv, hcl, st⟩
  · subst hres
    cases hv
    obtain ⟨t2, a1, b1⟩ := k r T'.heap (locs ++ L) rfl (by rw [e1]; exact hP) (keep st₀ t T' L h0 e1 hL hF) T' rfl X'
    exact ⟨t2, st t2 a1, b1⟩
  · subst hres
    obtain ⟨t2, a1, b1⟩ := kx E q ce T'.heap (locs ++ L) rfl (by rw [e1]; exact hP) (keep st₀ t T' L h0 e1 hL hF) (by rw [e1]; exact hce) hcv hcl T' rfl X'
    exact ⟨t2, st.trans a1, b1⟩
theorem hq_runV {M M' : hq_M} {d n ci N k i idx pc : Nat} {T : u_T} {la : Array Slot} {As rest : List hq_V} {h h1 : hq_H} {res : hq_R} (C : hq_CX M d D cy b p l R s m args c cells slots) (hP : va_P D vwCl (hq_w b cy h) H) (hS : va_S (hq_AA b) s.heap H locs) (hL : la.size = M.2.2.1)
    (hm : hq_mv M' n) (hw : Cond.methodLink M.1.cls idx M'.1 ∈ hq_ws) (hc : vwCl[ci]? = some (M'.1.cls, T, N)) (ho : hq_os k = some (ci, N)) (hok : hq_okS (.inr (k, i) :: As)) (hmet : hq_Met d M' (.inr (k, i) :: As) h res h1) (hn : As.length = n)
    (hrm : hq_cs rest ≤ 8) (hd : decode M.2.1 pc = .ok (.invokevirtual idx, 3)) (hr : cells + hq_mc res ≤ R.cells ∧ slots + hq_ms res ≤ R.slots) {st : List Value} (hst : st = (As.map (hq_cv b)).reverse ++ .ref (b + hq_off k i) :: rest.map (hq_cv b)) :
    vx_Run p l e R s m args below meth c H locs cells slots (hq_mc res) (hq_ms res) (F0 m pc la st) (rest.map (hq_cv b)) (hq_QC b cy D h1 res ((Value.ref (b + hq_off k i) :: As.map (hq_cv b)).toArray)) (hq_XC b cy D h1 res) (hq_AA b) := by
  obtain ⟨⟨hmd, hcode, hini, hml, hpl⟩, hinst, hsel⟩ := hm
  have he := hq_wat b cy h hok.1
  rw [hq_ent_o b cy h i ho] at he
  have hG : GoodIn hq_ws (wsV M.1.cls idx M'.1.cls M'.1 (hq_wm M')) := by
    intro w hw'
    have hin : w ∈ hq_ws := by
      simp only [wsV, hq_wm, List.cons_append, List.nil_append, List.mem_cons] at hw'
      rcases hw' with rfl | rfl | rfl | rfl | rfl | hw'
      · exact hw
      · exact hinst
      · exact hsel
      · exact hini
      · exact hcode
      · exact hw'
    exact ⟨hin, hq_gw hin⟩
  refine vx_runV (As := As.map (hq_cv b)) (cc := M.2.1) (nL := M.2.2.1) (Ts := hq_ws) (own := M.1.cls) (C := M'.1.cls) (b := b + hq_off k i) ⟨C.1, C.2.1, C.2.2.1, C.2.2.2.1, C.2.2.2.2.1⟩ ((hmet hok).2 l D cy b C.2.2.2.2.2.2.2.1) (cwV n C.2.2.2.2.1 hG rfl rfl rfl ⟨rfl, hmd⟩ ⟨?_, ?_⟩) ⟨hq_blind, va_recv C.2.2.2.2.2.1 hP hc he, ?_⟩ rfl (by rw [List.length_map]; exact hn) hL hst ?_ hd hr
  · have := C.2.2.2.2.2.2.2.2.1
    show 2 * d + 8 + 1 ≤ R.frames
    omega
  · have := C.2.2.2.2.2.2.2.2.2.1
    show 8 + (M'.2.2.1 + 11) + (80 * d + 120) ≤ R.locals
    omega
  · intro U hU hW
    exact ⟨rfl, by rw [hU]; exact hP, va_K.moved hW.alike C.2.2.2.2.2.1, hq_ZS_to C.2.2.2.2.2.2.1 hS hW hU⟩
  · have := hq_cs_of (b := b) rest
    show 2 * 0 + _ ≤ 8
    omega
theorem hq_runS {M M' : hq_M} {d n idx pc : Nat} {la : Array Slot} {As rest : List hq_V} {h h1 : hq_H} {res : hq_R} (C : hq_CX M d D cy b p l R s m args c cells slots) (hP : va_P D vwCl (hq_w b cy h) H) (hS : va_S (hq_AA b) s.heap H locs) (hL : la.size = M.2.2.1)
    (hm : hq_mt M' n) (hw : Cond.methodLink M.1.cls idx M'.1 ∈ hq_ws) (hok : hq_okS As) (hmet : hq_Met d M' As h res h1) (hn : As.length = n)
    (hrm : hq_cs rest ≤ 8) (hd : decode M.2.1 pc = .ok (.invokestatic idx, 3)) (hr : cells + hq_mc res ≤ R.cells ∧ slots + hq_ms res ≤ R.slots) {st : List Value} (hst : st = (As.map (hq_cv b)).reverse ++ rest.map (hq_cv b)) :
    vx_Run p l e R s m args below meth c H locs cells slots (hq_mc res) (hq_ms res) (F0 m pc la st) (rest.map (hq_cv b)) (hq_QC b cy D h1 res ((As.map (hq_cv b)).toArray)) (hq_XC b cy D h1 res) (hq_AA b) := by
  obtain ⟨⟨hmd, hcode, hini, hml, hpl⟩, hstat⟩ := hm
  have hG : GoodIn hq_ws (va_wsS M.1.cls idx M'.1 (hq_wm M')) := by
    intro w hw'
    have hin : w ∈ hq_ws := by
      simp only [va_wsS, hq_wm, List.cons_append, List.nil_append, List.mem_cons] at hw'
      rcases hw' with rfl | rfl | rfl | rfl | hw'
      · exact hw
      · exact hstat
      · exact hini
      · exact hcode
      · exact hw'
    exact ⟨hin, hq_gw hin⟩
  refine vx_runS (As := As.map (hq_cv b)) (cc := M.2.1) (nL := M.2.2.1) (Ts := hq_ws) (own := M.1.cls) ⟨C.1, C.2.1, C.2.2.1, C.2.2.2.1, C.2.2.2.2.1⟩ ((hmet hok).2 l D cy b C.2.2.2.2.2.2.2.1) (va_cwS n C.2.2.2.2.1 hG rfl rfl rfl hmd ⟨?_, ?_⟩) ⟨hq_blind, ?_⟩ rfl (by rw [List.length_map]; exact hn) hL hst ?_ hd hr
  · have := C.2.2.2.2.2.2.2.2.1
    show 2 * d + 8 + 1 ≤ R.frames
    omega
  · have := C.2.2.2.2.2.2.2.2.2.1
    show 8 + (M'.2.2.1 + 11) + (80 * d + 120) ≤ R.locals
    omega
  · intro U hU hW
    exact ⟨rfl, by rw [hU]; exact hP, va_K.moved hW.alike C.2.2.2.2.2.1, hq_ZS_to C.2.2.2.2.2.2.1 hS hW hU⟩
  · have := hq_cs_of (b := b) rest
    show 2 * 0 + _ ≤ 8
    omega
end HC
section HD
variable {G : hq_G} {M : hq_M} {d pc : Nat} {K : hq_C}
def hk_s1r (d : Nat) (M' : hq_M) (K : hq_C) : hq_C := fun ls st h => match st with
  | a0 :: r => hq_rm r (∃ (v : hq_V) (h1 : hq_H), hq_Met d M' [a0] h (.inl (some v)) h1 ∧ K ls (v :: r) h1)
  | _ => False
theorem hs_s1r {M' : hq_M} {idx : Nat} (hd : decode M.2.1 pc = .ok (.invokestatic idx, 3)) (hm : hq_mt M' 1) (hw : Cond.methodLink M.1.cls idx M'.1 ∈ hq_ws) (k : hq_S G M d (pc + 3) K) : hq_S G M d pc (hk_s1r d M' K) := by
  intro ls st h hh
  unfold hk_s1r at hh
  split at hh
  next a0 r =>
    obtain ⟨hrm, v, h1, hmet, hk⟩ := hq_rm_of hh
    intro p l e R s m args below meth c D cy b H locs la cells slots Q C g hP hS hL hst hls
    refine hq_after (hq_runS (As := [a0]) (rest := r) C hP hS hL.1 hm hw ⟨hst.1, trivial⟩ hmet rfl hrm hd ⟨C.2.2.2.2.2.2.2.2.2.2.1, C.2.2.2.2.2.2.2.2.2.2.2⟩ rfl) hS (fun r9 H1 locs1 e9 hP1 hS1 => ?_) (fun E q ce H1 locs1 e9 _ _ _ _ _ => by cases e9)
    cases e9
    exact k _ _ _ hk D cy b H1 locs1 la cells slots Q C g hP1 hS1 hL ⟨(hmet ⟨hst.1, trivial⟩).1, hst.2⟩ hls
  next => exact hh.elim
def hk_s1v (d : Nat) (M' : hq_M) (K : hq_C) : hq_C := fun ls st h => match st with
  | a0 :: r => hq_rm r (∃ h1 : hq_H, hq_Met d M' [a0] h (.inl none) h1 ∧ K ls r h1)
  | _ => False
theorem hs_s1v {M' : hq_M} {idx : Nat} (hd : decode M.2.1 pc = .ok (.invokestatic idx, 3)) (hm : hq_mt M' 1) (hw : Cond.methodLink M.1.cls idx M'.1 ∈ hq_ws) (k : hq_S G M d (pc + 3) K) : hq_S G M d pc (hk_s1v d M' K) := by
  intro ls st h hh
  unfold hk_s1v at hh
  split at hh
  next a0 r =>
    obtain ⟨hrm, h1, hmet, hk⟩ := hq_rm_of hh
    intro p l e R s m args below meth c D cy b H locs la cells slots Q C g hP hS hL hst hls
    refine hq_after (hq_runS (As := [a0]) (rest := r) C hP hS hL.1 hm hw ⟨hst.1, trivial⟩ hmet rfl hrm hd ⟨C.2.2.2.2.2.2.2.2.2.2.1, C.2.2.2.2.2.2.2.2.2.2.2⟩ rfl) hS (fun r9 H1 locs1 e9 hP1 hS1 => ?_) (fun E q ce H1 locs1 e9 _ _ _ _ _ => by cases e9)
    cases e9
    exact k _ _ _ hk D cy b H1 locs1 la cells slots Q C g hP1 hS1 hL hst.2 hls
  next => exact hh.elim
def hk_v1r (kind d : Nat) (M' : hq_M) (K : hq_C) : hq_C := fun ls st h => match st with
  | .inr q :: r => hq_is q.1 kind (hq_rm r (∃ (v : hq_V) (h1 : hq_H), hq_Met d M' [.inr (kind, q.2)] h (.inl (some v)) h1 ∧ K ls (v :: r) h1))
  | _ => False
theorem hs_v1r {M' : hq_M} {idx kind ci N : Nat} {T : u_T} (hd : decode M.2.1 pc = .ok (.invokevirtual idx, 3)) (hm : hq_mv M' 0) (hw : Cond.methodLink M.1.cls idx M'.1 ∈ hq_ws) (hc : vwCl[ci]? = some (M'.1.cls, T, N)) (ho : hq_os kind = some (ci, N)) (k : hq_S G M d (pc + 3) K) : hq_S G M d pc (hk_v1r kind d M' K) := by
  intro ls st h hh
  unfold hk_v1r at hh
  split at hh
  next q r =>
    obtain ⟨e0, hh⟩ := hq_is_of hh
    obtain ⟨hrm, v, h1, hmet, hk⟩ := hq_rm_of hh
    intro p l e R s m args below meth c D cy b H locs la cells slots Q C g hP hS hL hst hls
    subst e0
    refine hq_after (hq_runV (As := []) (rest := r) (i := q.2) C hP hS hL.1 hm hw hc ho ⟨hst.1, trivial⟩ hmet rfl hrm hd ⟨C.2.2.2.2.2.2.2.2.2.2.1, C.2.2.2.2.2.2.2.2.2.2.2⟩ rfl) hS (fun r9 H1 locs1 e9 hP1 hS1 => ?_) (fun E q ce H1 locs1 e9 _ _ _ _ _ => by cases e9)
    cases e9
    exact k _ _ _ hk D cy b H1 locs1 la cells slots Q C g hP1 hS1 hL ⟨(hmet ⟨hst.1, trivial⟩).1, hst.2⟩ hls
  next => exact hh.elim
def hk_v1v (kind d : Nat) (M' : hq_M) (K : hq_C) : hq_C := fun ls st h => match st with
  | .inr q :: r => hq_is q.1 kind (hq_rm r (∃ h1 : hq_H, hq_Met d M' [.inr (kind, q.2)] h (.inl none) h1 ∧ K ls r h1))
  | _ => False
theorem hs_v1v {M' : hq_M} {idx kind ci N : Nat} {T : u_T} (hd : decode M.2.1 pc = .ok (.invokevirtual idx, 3)) (hm : hq_mv M' 0) (hw : Cond.methodLink M.1.cls idx M'.1 ∈ hq_ws) (hc : vwCl[ci]? = some (M'.1.cls, T, N)) (ho : hq_os kind = some (ci, N)) (k : hq_S G M d (pc + 3) K) : hq_S G M d pc (hk_v1v kind d M' K) := by
  intro ls st h hh
  unfold hk_v1v at hh
  split at hh
  next q r =>
    obtain ⟨e0, hh⟩ := hq_is_of hh
    obtain ⟨hrm, h1, hmet, hk⟩ := hq_rm_of hh
    intro p l e R s m args below meth c D cy b H locs la cells slots Q C g hP hS hL hst hls
    subst e0
    refine hq_after (hq_runV (As := []) (rest := r) (i := q.2) C hP hS hL.1 hm hw hc ho ⟨hst.1, trivial⟩ hmet rfl hrm hd ⟨C.2.2.2.2.2.2.2.2.2.2.1, C.2.2.2.2.2.2.2.2.2.2.2⟩ rfl) hS (fun r9 H1 locs1 e9 hP1 hS1 => ?_) (fun E q ce H1 locs1 e9 _ _ _ _ _ => by cases e9)
    cases e9
    exact k _ _ _ hk D cy b H1 locs1 la cells slots Q C g hP1 hS1 hL hst.2 hls
  next => exact hh.elim
def hk_s2r (d : Nat) (M' : hq_M) (K : hq_C) : hq_C := fun ls st h => match st with
  | a1 :: a0 :: r => hq_rm r (∃ (v : hq_V) (h1 : hq_H), hq_Met d M' [a0, a1] h (.inl (some v)) h1 ∧ K ls (v :: r) h1)
  | _ => False
theorem hs_s2r {M' : hq_M} {idx : Nat} (hd : decode M.2.1 pc = .ok (.invokestatic idx, 3)) (hm : hq_mt M' 2) (hw : Cond.methodLink M.1.cls idx M'.1 ∈ hq_ws) (k : hq_S G M d (pc + 3) K) : hq_S G M d pc (hk_s2r d M' K) := by
  intro ls st h hh
  unfold hk_s2r at hh
  split at hh
  next a1 a0 r =>
    obtain ⟨hrm, v, h1, hmet, hk⟩ := hq_rm_of hh
    intro p l e R s m args below meth c D cy b H locs la cells slots Q C g hP hS hL hst hls
    refine hq_after (hq_runS (As := [a0, a1]) (rest := r) C hP hS hL.1 hm hw ⟨hst.2.1, hst.1, trivial⟩ hmet rfl hrm hd ⟨C.2.2.2.2.2.2.2.2.2.2.1, C.2.2.2.2.2.2.2.2.2.2.2⟩ rfl) hS (fun r9 H1 locs1 e9 hP1 hS1 => ?_) (fun E q ce H1 locs1 e9 _ _ _ _ _ => by cases e9)
    cases e9
    exact k _ _ _ hk D cy b H1 locs1 la cells slots Q C g hP1 hS1 hL ⟨(hmet ⟨hst.2.1, hst.1, trivial⟩).1, hst.2.2⟩ hls
  next => exact hh.elim
def hk_s2v (d : Nat) (M' : hq_M) (K : hq_C) : hq_C := fun ls st h => match st with
  | a1 :: a0 :: r => hq_rm r (∃ h1 : hq_H, hq_Met d M' [a0, a1] h (.inl none) h1 ∧ K ls r h1)
  | _ => False
theorem hs_s2v {M' : hq_M} {idx : Nat} (hd : decode M.2.1 pc = .ok (.invokestatic idx, 3)) (hm : hq_mt M' 2) (hw : Cond.methodLink M.1.cls idx M'.1 ∈ hq_ws) (k : hq_S G M d (pc + 3) K) : hq_S G M d pc (hk_s2v d M' K) := by
  intro ls st h hh
  unfold hk_s2v at hh
  split at hh
  next a1 a0 r =>
    obtain ⟨hrm, h1, hmet, hk⟩ := hq_rm_of hh
    intro p l e R s m args below meth c D cy b H locs la cells slots Q C g hP hS hL hst hls
    refine hq_after (hq_runS (As := [a0, a1]) (rest := r) C hP hS hL.1 hm hw ⟨hst.2.1, hst.1, trivial⟩ hmet rfl hrm hd ⟨C.2.2.2.2.2.2.2.2.2.2.1, C.2.2.2.2.2.2.2.2.2.2.2⟩ rfl) hS (fun r9 H1 locs1 e9 hP1 hS1 => ?_) (fun E q ce H1 locs1 e9 _ _ _ _ _ => by cases e9)
    cases e9
    exact k _ _ _ hk D cy b H1 locs1 la cells slots Q C g hP1 hS1 hL hst.2.2 hls
  next => exact hh.elim
def hk_v2r (kind d : Nat) (M' : hq_M) (K : hq_C) : hq_C := fun ls st h => match st with
  | a1 :: .inr q :: r => hq_is q.1 kind (hq_rm r (∃ (v : hq_V) (h1 : hq_H), hq_Met d M' [.inr (kind, q.2), a1] h (.inl (some v)) h1 ∧ K ls (v :: r) h1))
  | _ => False
theorem hs_v2r {M' : hq_M} {idx kind ci N : Nat} {T : u_T} (hd : decode M.2.1 pc = .ok (.invokevirtual idx, 3)) (hm : hq_mv M' 1) (hw : Cond.methodLink M.1.cls idx M'.1 ∈ hq_ws) (hc : vwCl[ci]? = some (M'.1.cls, T, N)) (ho : hq_os kind = some (ci, N)) (k : hq_S G M d (pc + 3) K) : hq_S G M d pc (hk_v2r kind d M' K) := by
  intro ls st h hh
  unfold hk_v2r at hh
  split at hh
  next a1 q r =>
    obtain ⟨e0, hh⟩ := hq_is_of hh
    obtain ⟨hrm, v, h1, hmet, hk⟩ := hq_rm_of hh
    intro p l e R s m args below meth c D cy b H locs la cells slots Q C g hP hS hL hst hls
    subst e0
    refine hq_after (hq_runV (As := [a1]) (rest := r) (i := q.2) C hP hS hL.1 hm hw hc ho ⟨hst.2.1, hst.1, trivial⟩ hmet rfl hrm hd ⟨C.2.2.2.2.2.2.2.2.2.2.1, C.2.2.2.2.2.2.2.2.2.2.2⟩ rfl) hS (fun r9 H1 locs1 e9 hP1 hS1 => ?_) (fun E q ce H1 locs1 e9 _ _ _ _ _ => by cases e9)
    cases e9
    exact k _ _ _ hk D cy b H1 locs1 la cells slots Q C g hP1 hS1 hL ⟨(hmet ⟨hst.2.1, hst.1, trivial⟩).1, hst.2.2⟩ hls
  next => exact hh.elim
def hk_v2v (kind d : Nat) (M' : hq_M) (K : hq_C) : hq_C := fun ls st h => match st with
  | a1 :: .inr q :: r => hq_is q.1 kind (hq_rm r (∃ h1 : hq_H, hq_Met d M' [.inr (kind, q.2), a1] h (.inl none) h1 ∧ K ls r h1))
  | _ => False
theorem hs_v2v {M' : hq_M} {idx kind ci N : Nat} {T : u_T} (hd : decode M.2.1 pc = .ok (.invokevirtual idx, 3)) (hm : hq_mv M' 1) (hw : Cond.methodLink M.1.cls idx M'.1 ∈ hq_ws) (hc : vwCl[ci]? = some (M'.1.cls, T, N)) (ho : hq_os kind = some (ci, N)) (k : hq_S G M d (pc + 3) K) : hq_S G M d pc (hk_v2v kind d M' K) := by
  intro ls st h hh
  unfold hk_v2v at hh
  split at hh
  next a1 q r =>
    obtain ⟨e0, hh⟩ := hq_is_of hh
    obtain ⟨hrm, h1, hmet, hk⟩ := hq_rm_of hh
    intro p l e R s m args below meth c D cy b H locs la cells slots Q C g hP hS hL hst hls
    subst e0
    refine hq_after (hq_runV (As := [a1]) (rest := r) (i := q.2) C hP hS hL.1 hm hw hc ho ⟨hst.2.1, hst.1, trivial⟩ hmet rfl hrm hd ⟨C.2.2.2.2.2.2.2.2.2.2.1, C.2.2.2.2.2.2.2.2.2.2.2⟩ rfl) hS (fun r9 H1 locs1 e9 hP1 hS1 => ?_) (fun E q ce H1 locs1 e9 _ _ _ _ _ => by cases e9)
    cases e9
    exact k _ _ _ hk D cy b H1 locs1 la cells slots Q C g hP1 hS1 hL hst.2.2 hls
  next => exact hh.elim
def hk_s3r (d : Nat) (M' : hq_M) (K : hq_C) : hq_C := fun ls st h => match st with
  | a2 :: a1 :: a0 :: r => hq_rm r (∃ (v : hq_V) (h1 : hq_H), hq_Met d M' [a0, a1, a2] h (.inl (some v)) h1 ∧ K ls (v :: r) h1)
  | _ => False
theorem hs_s3r {M' : hq_M} {idx : Nat} (hd : decode M.2.1 pc = .ok (.invokestatic idx, 3)) (hm : hq_mt M' 3) (hw : Cond.methodLink M.1.cls idx M'.1 ∈ hq_ws) (k : hq_S G M d (pc + 3) K) : hq_S G M d pc (hk_s3r d M' K) := by
  intro ls st h hh
  unfold hk_s3r at hh
  split at hh
  next a2 a1 a0 r =>
    obtain ⟨hrm, v, h1, hmet, hk⟩ := hq_rm_of hh
    intro p l e R s m args below meth c D cy b H locs la cells slots Q C g hP hS hL hst hls
    refine hq_after (hq_runS (As := [a0, a1, a2]) (rest := r) C hP hS hL.1 hm hw ⟨hst.2.2.1, hst.2.1, hst.1, trivial⟩ hmet rfl hrm hd ⟨C.2.2.2.2.2.2.2.2.2.2.1, C.2.2.2.2.2.2.2.2.2.2.2⟩ rfl) hS (fun r9 H1 locs1 e9 hP1 hS1 => ?_) (fun E q ce H1 locs1 e9 _ _ _ _ _ => by cases e9)
    cases e9
    exact k _ _ _ hk D cy b H1 locs1 la cells slots Q C g hP1 hS1 hL ⟨(hmet ⟨hst.2.2.1, hst.2.1, hst.1, trivial⟩).1, hst.2.2.2⟩ hls
  next => exact hh.elim
def hk_s3v (d : Nat) (M' : hq_M) (K : hq_C) : hq_C := fun ls st h => match st with
  | a2 :: a1 :: a0 :: r => hq_rm r (∃ h1 : hq_H, hq_Met d M' [a0, a1, a2] h (.inl none) h1 ∧ K ls r h1)
  | _ => False
theorem hs_s3v {M' : hq_M} {idx : Nat} (hd : decode M.2.1 pc = .ok (.invokestatic idx, 3)) (hm : hq_mt M' 3) (hw : Cond.methodLink M.1.cls idx M'.1 ∈ hq_ws) (k : hq_S G M d (pc + 3) K) : hq_S G M d pc (hk_s3v d M' K) := by
  intro ls st h hh
  unfold hk_s3v at hh
  split at hh
  next a2 a1 a0 r =>
    obtain ⟨hrm, h1, hmet, hk⟩ := hq_rm_of hh
    intro p l e R s m args below meth c D cy b H locs la cells slots Q C g hP hS hL hst hls
    refine hq_after (hq_runS (As := [a0, a1, a2]) (rest := r) C hP hS hL.1 hm hw ⟨hst.2.2.1, hst.2.1, hst.1, trivial⟩ hmet rfl hrm hd ⟨C.2.2.2.2.2.2.2.2.2.2.1, C.2.2.2.2.2.2.2.2.2.2.2⟩ rfl) hS (fun r9 H1 locs1 e9 hP1 hS1 => ?_) (fun E q ce H1 locs1 e9 _ _ _ _ _ => by cases e9)
    cases e9
    exact k _ _ _ hk D cy b H1 locs1 la cells slots Q C g hP1 hS1 hL hst.2.2.2 hls
  next => exact hh.elim
def hk_v3r (kind d : Nat) (M' : hq_M) (K : hq_C) : hq_C := fun ls st h => match st with
  | a2 :: a1 :: .inr q :: r => hq_is q.1 kind (hq_rm r (∃ (v : hq_V) (h1 : hq_H), hq_Met d M' [.inr (kind, q.2), a1, a2] h (.inl (some v)) h1 ∧ K ls (v :: r) h1))
  | _ => False
theorem hs_v3r {M' : hq_M} {idx kind ci N : Nat} {T : u_T} (hd : decode M.2.1 pc = .ok (.invokevirtual idx, 3)) (hm : hq_mv M' 2) (hw : Cond.methodLink M.1.cls idx M'.1 ∈ hq_ws) (hc : vwCl[ci]? = some (M'.1.cls, T, N)) (ho : hq_os kind = some (ci, N)) (k : hq_S G M d (pc + 3) K) : hq_S G M d pc (hk_v3r kind d M' K) := by
  intro ls st h hh
  unfold hk_v3r at hh
  split at hh
  next a2 a1 q r =>
    obtain ⟨e0, hh⟩ := hq_is_of hh
    obtain ⟨hrm, v, h1, hmet, hk⟩ := hq_rm_of hh
    intro p l e R s m args below meth c D cy b H locs la cells slots Q C g hP hS hL hst hls
    subst e0
    refine hq_after (hq_runV (As := [a1, a2]) (rest := r) (i := q.2) C hP hS hL.1 hm hw hc ho ⟨hst.2.2.1, hst.2.1, hst.1, trivial⟩ hmet rfl hrm hd ⟨C.2.2.2.2.2.2.2.2.2.2.1, C.2.2.2.2.2.2.2.2.2.2.2⟩ rfl) hS (fun r9 H1 locs1 e9 hP1 hS1 => ?_) (fun E q ce H1 locs1 e9 _ _ _ _ _ => by cases e9)
    cases e9
    exact k _ _ _ hk D cy b H1 locs1 la cells slots Q C g hP1 hS1 hL ⟨(hmet ⟨hst.2.2.1, hst.2.1, hst.1, trivial⟩).1, hst.2.2.2⟩ hls
  next => exact hh.elim
def hk_v3v (kind d : Nat) (M' : hq_M) (K : hq_C) : hq_C := fun ls st h => match st with
  | a2 :: a1 :: .inr q :: r => hq_is q.1 kind (hq_rm r (∃ h1 : hq_H, hq_Met d M' [.inr (kind, q.2), a1, a2] h (.inl none) h1 ∧ K ls r h1))
  | _ => False
theorem hs_v3v {M' : hq_M} {idx kind ci N : Nat} {T : u_T} (hd : decode M.2.1 pc = .ok (.invokevirtual idx, 3)) (hm : hq_mv M' 2) (hw : Cond.methodLink M.1.cls idx M'.1 ∈ hq_ws) (hc : vwCl[ci]? = some (M'.1.cls, T, N)) (ho : hq_os kind = some (ci, N)) (k : hq_S G M d (pc + 3) K) : hq_S G M d pc (hk_v3v kind d M' K) := by
  intro ls st h hh
  unfold hk_v3v at hh
  split at hh
  next a2 a1 q r =>
    obtain ⟨e0, hh⟩ := hq_is_of hh
    obtain ⟨hrm, h1, hmet, hk⟩ := hq_rm_of hh
    intro p l e R s m args below meth c D cy b H locs la cells slots Q C g hP hS hL hst hls
    subst e0
    refine hq_after (hq_runV (As := [a1, a2]) (rest := r) (i := q.2) C hP hS hL.1 hm hw hc ho ⟨hst.2.2.1, hst.2.1, hst.1, trivial⟩ hmet rfl hrm hd ⟨C.2.2.2.2.2.2.2.2.2.2.1, C.2.2.2.2.2.2.2.2.2.2.2⟩ rfl) hS (fun r9 H1 locs1 e9 hP1 hS1 => ?_) (fun E q ce H1 locs1 e9 _ _ _ _ _ => by cases e9)
    cases e9
    exact k _ _ _ hk D cy b H1 locs1 la cells slots Q C g hP1 hS1 hL hst.2.2.2 hls
  next => exact hh.elim
def hk_s4r (d : Nat) (M' : hq_M) (K : hq_C) : hq_C := fun ls st h => match st with
  | a3 :: a2 :: a1 :: a0 :: r => hq_rm r (∃ (v : hq_V) (h1 : hq_H), hq_Met d M' [a0, a1, a2, a3] h (.inl (some v)) h1 ∧ K ls (v :: r) h1)
  | _ => False
theorem hs_s4r {M' : hq_M} {idx : Nat} (hd : decode M.2.1 pc = .ok (.invokestatic idx, 3)) (hm : hq_mt M' 4) (hw : Cond.methodLink M.1.cls idx M'.1 ∈ hq_ws) (k : hq_S G M d (pc + 3) K) : hq_S G M d pc (hk_s4r d M' K) := by
  intro ls st h hh
  unfold hk_s4r at hh
  split at hh
  next a3 a2 a1 a0 r =>
    obtain ⟨hrm, v, h1, hmet, hk⟩ := hq_rm_of hh
    intro p l e R s m args below meth c D cy b H locs la cells slots Q C g hP hS hL hst hls
    refine hq_after (hq_runS (As := [a0, a1, a2, a3]) (rest := r) C hP hS hL.1 hm hw ⟨hst.2.2.2.1, hst.2.2.1, hst.2.1, hst.1, trivial⟩ hmet rfl hrm hd ⟨C.2.2.2.2.2.2.2.2.2.2.1, C.2.2.2.2.2.2.2.2.2.2.2⟩ rfl) hS (fun r9 H1 locs1 e9 hP1 hS1 => ?_) (fun E q ce H1 locs1 e9 _ _ _ _ _ => by cases e9)
    cases e9
    exact k _ _ _ hk D cy b H1 locs1 la cells slots Q C g hP1 hS1 hL ⟨(hmet ⟨hst.2.2.2.1, hst.2.2.1, hst.2.1, hst.1, trivial⟩).1, hst.2.2.2.2⟩ hls
  next => exact hh.elim
def hk_s4v (d : Nat) (M' : hq_M) (K : hq_C) : hq_C := fun ls st h => match st with
  | a3 :: a2 :: a1 :: a0 :: r => hq_rm r (∃ h1 : hq_H, hq_Met d M' [a0, a1, a2, a3] h (.inl none) h1 ∧ K ls r h1)
  | _ => False
theorem hs_s4v {M' : hq_M} {idx : Nat} (hd : decode M.2.1 pc = .ok (.invokestatic idx, 3)) (hm : hq_mt M' 4) (hw : Cond.methodLink M.1.cls idx M'.1 ∈ hq_ws) (k : hq_S G M d (pc + 3) K) : hq_S G M d pc (hk_s4v d M' K) := by
  intro ls st h hh
  unfold hk_s4v at hh
  split at hh
  next a3 a2 a1 a0 r =>
    obtain ⟨hrm, h1, hmet, hk⟩ := hq_rm_of hh
    intro p l e R s m args below meth c D cy b H locs la cells slots Q C g hP hS hL hst hls
    refine hq_after (hq_runS (As := [a0, a1, a2, a3]) (rest := r) C hP hS hL.1 hm hw ⟨hst.2.2.2.1, hst.2.2.1, hst.2.1, hst.1, trivial⟩ hmet rfl hrm hd ⟨C.2.2.2.2.2.2.2.2.2.2.1, C.2.2.2.2.2.2.2.2.2.2.2⟩ rfl) hS (fun r9 H1 locs1 e9 hP1 hS1 => ?_) (fun E q ce H1 locs1 e9 _ _ _ _ _ => by cases e9)
    cases e9
    exact k _ _ _ hk D cy b H1 locs1 la cells slots Q C g hP1 hS1 hL hst.2.2.2.2 hls
  next => exact hh.elim
def hk_v4r (kind d : Nat) (M' : hq_M) (K : hq_C) : hq_C := fun ls st h => match st with
  | a3 :: a2 :: a1 :: .inr q :: r => hq_is q.1 kind (hq_rm r (∃ (v : hq_V) (h1 : hq_H), hq_Met d M' [.inr (kind, q.2), a1, a2, a3] h (.inl (some v)) h1 ∧ K ls (v :: r) h1))
  | _ => False
theorem hs_v4r {M' : hq_M} {idx kind ci N : Nat} {T : u_T} (hd : decode M.2.1 pc = .ok (.invokevirtual idx, 3)) (hm : hq_mv M' 3) (hw : Cond.methodLink M.1.cls idx M'.1 ∈ hq_ws) (hc : vwCl[ci]? = some (M'.1.cls, T, N)) (ho : hq_os kind = some (ci, N)) (k : hq_S G M d (pc + 3) K) : hq_S G M d pc (hk_v4r kind d M' K) := by
  intro ls st h hh
  unfold hk_v4r at hh
  split at hh
  next a3 a2 a1 q r =>
    obtain ⟨e0, hh⟩ := hq_is_of hh
    obtain ⟨hrm, v, h1, hmet, hk⟩ := hq_rm_of hh
    intro p l e R s m args below meth c D cy b H locs la cells slots Q C g hP hS hL hst hls
    subst e0
    refine hq_after (hq_runV (As := [a1, a2, a3]) (rest := r) (i := q.2) C hP hS hL.1 hm hw hc ho ⟨hst.2.2.2.1, hst.2.2.1, hst.2.1, hst.1, trivial⟩ hmet rfl hrm hd ⟨C.2.2.2.2.2.2.2.2.2.2.1, C.2.2.2.2.2.2.2.2.2.2.2⟩ rfl) hS (fun r9 H1 locs1 e9 hP1 hS1 => ?_) (fun E q ce H1 locs1 e9 _ _ _ _ _ => by cases e9)
    cases e9
    exact k _ _ _ hk D cy b H1 locs1 la cells slots Q C g hP1 hS1 hL ⟨(hmet ⟨hst.2.2.2.1, hst.2.2.1, hst.2.1, hst.1, trivial⟩).1, hst.2.2.2.2⟩ hls
  next => exact hh.elim
def hk_v4v (kind d : Nat) (M' : hq_M) (K : hq_C) : hq_C := fun ls st h => match st with
  | a3 :: a2 :: a1 :: .inr q :: r => hq_is q.1 kind (hq_rm r (∃ h1 : hq_H, hq_Met d M' [.inr (kind, q.2), a1, a2, a3] h (.inl none) h1 ∧ K ls r h1))
  | _ => False
theorem hs_v4v {M' : hq_M} {idx kind ci N : Nat} {T : u_T} (hd : decode M.2.1 pc = .ok (.invokevirtual idx, 3)) (hm : hq_mv M' 3) (hw : Cond.methodLink M.1.cls idx M'.1 ∈ hq_ws) (hc : vwCl[ci]? = some (M'.1.cls, T, N)) (ho : hq_os kind = some (ci, N)) (k : hq_S G M d (pc + 3) K) : hq_S G M d pc (hk_v4v kind d M' K) := by
  intro ls st h hh
  unfold hk_v4v at hh
  split at hh
  next a3 a2 a1 q r =>
    obtain ⟨e0, hh⟩ := hq_is_of hh
    obtain ⟨hrm, h1, hmet, hk⟩ := hq_rm_of hh
    intro p l e R s m args below meth c D cy b H locs la cells slots Q C g hP hS hL hst hls
    subst e0
    refine hq_after (hq_runV (As := [a1, a2, a3]) (rest := r) (i := q.2) C hP hS hL.1 hm hw hc ho ⟨hst.2.2.2.1, hst.2.2.1, hst.2.1, hst.1, trivial⟩ hmet rfl hrm hd ⟨C.2.2.2.2.2.2.2.2.2.2.1, C.2.2.2.2.2.2.2.2.2.2.2⟩ rfl) hS (fun r9 H1 locs1 e9 hP1 hS1 => ?_) (fun E q ce H1 locs1 e9 _ _ _ _ _ => by cases e9)
    cases e9
    exact k _ _ _ hk D cy b H1 locs1 la cells slots Q C g hP1 hS1 hL hst.2.2.2.2 hls
  next => exact hh.elim
def hk_s5r (d : Nat) (M' : hq_M) (K : hq_C) : hq_C := fun ls st h => match st with
  | a4 :: a3 :: a2 :: a1 :: a0 :: r => hq_rm r (∃ (v : hq_V) (h1 : hq_H), hq_Met d M' [a0, a1, a2, a3, a4] h (.inl (some v)) h1 ∧ K ls (v :: r) h1)
  | _ => False
theorem hs_s5r {M' : hq_M} {idx : Nat} (hd : decode M.2.1 pc = .ok (.invokestatic idx, 3)) (hm : hq_mt M' 5) (hw : Cond.methodLink M.1.cls idx M'.1 ∈ hq_ws) (k : hq_S G M d (pc + 3) K) : hq_S G M d pc (hk_s5r d M' K) := by
  intro ls st h hh
  unfold hk_s5r at hh
  split at hh
  next a4 a3 a2 a1 a0 r =>
    obtain ⟨hrm, v, h1, hmet, hk⟩ := hq_rm_of hh
    intro p l e R s m args below meth c D cy b H locs la cells slots Q C g hP hS hL hst hls
    refine hq_after (hq_runS (As := [a0, a1, a2, a3, a4]) (rest := r) C hP hS hL.1 hm hw ⟨hst.2.2.2.2.1, hst.2.2.2.1, hst.2.2.1, hst.2.1, hst.1, trivial⟩ hmet rfl hrm hd ⟨C.2.2.2.2.2.2.2.2.2.2.1, C.2.2.2.2.2.2.2.2.2.2.2⟩ rfl) hS (fun r9 H1 locs1 e9 hP1 hS1 => ?_) (fun E q ce H1 locs1 e9 _ _ _ _ _ => by cases e9)
    cases e9
    exact k _ _ _ hk D cy b H1 locs1 la cells slots Q C g hP1 hS1 hL ⟨(hmet ⟨hst.2.2.2.2.1, hst.2.2.2.1, hst.2.2.1, hst.2.1, hst.1, trivial⟩).1, hst.2.2.2.2.2⟩ hls
  next => exact hh.elim
def hk_s5v (d : Nat) (M' : hq_M) (K : hq_C) : hq_C := fun ls st h => match st with
  | a4 :: a3 :: a2 :: a1 :: a0 :: r => hq_rm r (∃ h1 : hq_H, hq_Met d M' [a0, a1, a2, a3, a4] h (.inl none) h1 ∧ K ls r h1)
  | _ => False
theorem hs_s5v {M' : hq_M} {idx : Nat} (hd : decode M.2.1 pc = .ok (.invokestatic idx, 3)) (hm : hq_mt M' 5) (hw : Cond.methodLink M.1.cls idx M'.1 ∈ hq_ws) (k : hq_S G M d (pc + 3) K) : hq_S G M d pc (hk_s5v d M' K) := by
  intro ls st h hh
  unfold hk_s5v at hh
  split at hh
  next a4 a3 a2 a1 a0 r =>
    obtain ⟨hrm, h1, hmet, hk⟩ := hq_rm_of hh
    intro p l e R s m args below meth c D cy b H locs la cells slots Q C g hP hS hL hst hls
    refine hq_after (hq_runS (As := [a0, a1, a2, a3, a4]) (rest := r) C hP hS hL.1 hm hw ⟨hst.2.2.2.2.1, hst.2.2.2.1, hst.2.2.1, hst.2.1, hst.1, trivial⟩ hmet rfl hrm hd ⟨C.2.2.2.2.2.2.2.2.2.2.1, C.2.2.2.2.2.2.2.2.2.2.2⟩ rfl) hS (fun r9 H1 locs1 e9 hP1 hS1 => ?_) (fun E q ce H1 locs1 e9 _ _ _ _ _ => by cases e9)
    cases e9
    exact k _ _ _ hk D cy b H1 locs1 la cells slots Q C g hP1 hS1 hL hst.2.2.2.2.2 hls
  next => exact hh.elim
def hk_v5r (kind d : Nat) (M' : hq_M) (K : hq_C) : hq_C := fun ls st h => match st with
  | a4 :: a3 :: a2 :: a1 :: .inr q :: r => hq_is q.1 kind (hq_rm r (∃ (v : hq_V) (h1 : hq_H), hq_Met d M' [.inr (kind, q.2), a1, a2, a3, a4] h (.inl (some v)) h1 ∧ K ls (v :: r) h1))
  | _ => False
theorem hs_v5r {M' : hq_M} {idx kind ci N : Nat} {T : u_T} (hd : decode M.2.1 pc = .ok (.invokevirtual idx, 3)) (hm : hq_mv M' 4) (hw : Cond.methodLink M.1.cls idx M'.1 ∈ hq_ws) (hc : vwCl[ci]? = some (M'.1.cls, T, N)) (ho : hq_os kind = some (ci, N)) (k : hq_S G M d (pc + 3) K) : hq_S G M d pc (hk_v5r kind d M' K) := by
  intro ls st h hh
  unfold hk_v5r at hh
  split at hh
  next a4 a3 a2 a1 q r =>
    obtain ⟨e0, hh⟩ := hq_is_of hh
    obtain ⟨hrm, v, h1, hmet, hk⟩ := hq_rm_of hh
    intro p l e R s m args below meth c D cy b H locs la cells slots Q C g hP hS hL hst hls
    subst e0
    refine hq_after (hq_runV (As := [a1, a2, a3, a4]) (rest := r) (i := q.2) C hP hS hL.1 hm hw hc ho ⟨hst.2.2.2.2.1, hst.2.2.2.1, hst.2.2.1, hst.2.1, hst.1, trivial⟩ hmet rfl hrm hd ⟨C.2.2.2.2.2.2.2.2.2.2.1, C.2.2.2.2.2.2.2.2.2.2.2⟩ rfl) hS (fun r9 H1 locs1 e9 hP1 hS1 => ?_) (fun E q ce H1 locs1 e9 _ _ _ _ _ => by cases e9)
    cases e9
    exact k _ _ _ hk D cy b H1 locs1 la cells slots Q C g hP1 hS1 hL ⟨(hmet ⟨hst.2.2.2.2.1, hst.2.2.2.1, hst.2.2.1, hst.2.1, hst.1, trivial⟩).1, hst.2.2.2.2.2⟩ hls
  next => exact hh.elim
def hk_v5v (kind d : Nat) (M' : hq_M) (K : hq_C) : hq_C := fun ls st h => match st with
  | a4 :: a3 :: a2 :: a1 :: .inr q :: r => hq_is q.1 kind (hq_rm r (∃ h1 : hq_H, hq_Met d M' [.inr (kind, q.2), a1, a2, a3, a4] h (.inl none) h1 ∧ K ls r h1))
  | _ => False
theorem hs_v5v {M' : hq_M} {idx kind ci N : Nat} {T : u_T} (hd : decode M.2.1 pc = .ok (.invokevirtual idx, 3)) (hm : hq_mv M' 4) (hw : Cond.methodLink M.1.cls idx M'.1 ∈ hq_ws) (hc : vwCl[ci]? = some (M'.1.cls, T, N)) (ho : hq_os kind = some (ci, N)) (k : hq_S G M d (pc + 3) K) : hq_S G M d pc (hk_v5v kind d M' K) := by
  intro ls st h hh
  unfold hk_v5v at hh
  split at hh
  next a4 a3 a2 a1 q r =>
    obtain ⟨e0, hh⟩ := hq_is_of hh
    obtain ⟨hrm, h1, hmet, hk⟩ := hq_rm_of hh
    intro p l e R s m args below meth c D cy b H locs la cells slots Q C g hP hS hL hst hls
    subst e0
    refine hq_after (hq_runV (As := [a1, a2, a3, a4]) (rest := r) (i := q.2) C hP hS hL.1 hm hw hc ho ⟨hst.2.2.2.2.1, hst.2.2.2.1, hst.2.2.1, hst.2.1, hst.1, trivial⟩ hmet rfl hrm hd ⟨C.2.2.2.2.2.2.2.2.2.2.1, C.2.2.2.2.2.2.2.2.2.2.2⟩ rfl) hS (fun r9 H1 locs1 e9 hP1 hS1 => ?_) (fun E q ce H1 locs1 e9 _ _ _ _ _ => by cases e9)
    cases e9
    exact k _ _ _ hk D cy b H1 locs1 la cells slots Q C g hP1 hS1 hL hst.2.2.2.2.2 hls
  next => exact hh.elim
def hk_s6r (d : Nat) (M' : hq_M) (K : hq_C) : hq_C := fun ls st h => match st with
  | a5 :: a4 :: a3 :: a2 :: a1 :: a0 :: r => hq_rm r (∃ (v : hq_V) (h1 : hq_H), hq_Met d M' [a0, a1, a2, a3, a4, a5] h (.inl (some v)) h1 ∧ K ls (v :: r) h1)
  | _ => False
theorem hs_s6r {M' : hq_M} {idx : Nat} (hd : decode M.2.1 pc = .ok (.invokestatic idx, 3)) (hm : hq_mt M' 6) (hw : Cond.methodLink M.1.cls idx M'.1 ∈ hq_ws) (k : hq_S G M d (pc + 3) K) : hq_S G M d pc (hk_s6r d M' K) := by
  intro ls st h hh
  unfold hk_s6r at hh
  split at hh
  next a5 a4 a3 a2 a1 a0 r =>
    obtain ⟨hrm, v, h1, hmet, hk⟩ := hq_rm_of hh
    intro p l e R s m args below meth c D cy b H locs la cells slots Q C g hP hS hL hst hls
    refine hq_after (hq_runS (As := [a0, a1, a2, a3, a4, a5]) (rest := r) C hP hS hL.1 hm hw ⟨hst.2.2.2.2.2.1, hst.2.2.2.2.1, hst.2.2.2.1, hst.2.2.1, hst.2.1, hst.1, trivial⟩ hmet rfl hrm hd ⟨C.2.2.2.2.2.2.2.2.2.2.1, C.2.2.2.2.2.2.2.2.2.2.2⟩ rfl) hS (fun r9 H1 locs1 e9 hP1 hS1 => ?_) (fun E q ce H1 locs1 e9 _ _ _ _ _ => by cases e9)
    cases e9
    exact k _ _ _ hk D cy b H1 locs1 la cells slots Q C g hP1 hS1 hL ⟨(hmet ⟨hst.2.2.2.2.2.1, hst.2.2.2.2.1, hst.2.2.2.1, hst.2.2.1, hst.2.1, hst.1, trivial⟩).1, hst.2.2.2.2.2.2⟩ hls
  next => exact hh.elim
def hk_s6v (d : Nat) (M' : hq_M) (K : hq_C) : hq_C := fun ls st h => match st with
  | a5 :: a4 :: a3 :: a2 :: a1 :: a0 :: r => hq_rm r (∃ h1 : hq_H, hq_Met d M' [a0, a1, a2, a3, a4, a5] h (.inl none) h1 ∧ K ls r h1)
  | _ => False
theorem hs_s6v {M' : hq_M} {idx : Nat} (hd : decode M.2.1 pc = .ok (.invokestatic idx, 3)) (hm : hq_mt M' 6) (hw : Cond.methodLink M.1.cls idx M'.1 ∈ hq_ws) (k : hq_S G M d (pc + 3) K) : hq_S G M d pc (hk_s6v d M' K) := by
  intro ls st h hh
  unfold hk_s6v at hh
  split at hh
  next a5 a4 a3 a2 a1 a0 r =>
    obtain ⟨hrm, h1, hmet, hk⟩ := hq_rm_of hh
    intro p l e R s m args below meth c D cy b H locs la cells slots Q C g hP hS hL hst hls
    refine hq_after (hq_runS (As := [a0, a1, a2, a3, a4, a5]) (rest := r) C hP hS hL.1 hm hw ⟨hst.2.2.2.2.2.1, hst.2.2.2.2.1, hst.2.2.2.1, hst.2.2.1, hst.2.1, hst.1, trivial⟩ hmet rfl hrm hd ⟨C.2.2.2.2.2.2.2.2.2.2.1, C.2.2.2.2.2.2.2.2.2.2.2⟩ rfl) hS (fun r9 H1 locs1 e9 hP1 hS1 => ?_) (fun E q ce H1 locs1 e9 _ _ _ _ _ => by cases e9)
    cases e9
    exact k _ _ _ hk D cy b H1 locs1 la cells slots Q C g hP1 hS1 hL hst.2.2.2.2.2.2 hls
  next => exact hh.elim
def hk_v6r (kind d : Nat) (M' : hq_M) (K : hq_C) : hq_C := fun ls st h => match st with
  | a5 :: a4 :: a3 :: a2 :: a1 :: .inr q :: r => hq_is q.1 kind (hq_rm r (∃ (v : hq_V) (h1 : hq_H), hq_Met d M' [.inr (kind, q.2), a1, a2, a3, a4, a5] h (.inl (some v)) h1 ∧ K ls (v :: r) h1))
  | _ => False
theorem hs_v6r {M' : hq_M} {idx kind ci N : Nat} {T : u_T} (hd : decode M.2.1 pc = .ok (.invokevirtual idx, 3)) (hm : hq_mv M' 5) (hw : Cond.methodLink M.1.cls idx M'.1 ∈ hq_ws) (hc : vwCl[ci]? = some (M'.1.cls, T, N)) (ho : hq_os kind = some (ci, N)) (k : hq_S G M d (pc + 3) K) : hq_S G M d pc (hk_v6r kind d M' K) := by
  intro ls st h hh
  unfold hk_v6r at hh
  split at hh
  next a5 a4 a3 a2 a1 q r =>
    obtain ⟨e0, hh⟩ := hq_is_of hh
    obtain ⟨hrm, v, h1, hmet, hk⟩ := hq_rm_of hh
    intro p l e R s m args below meth c D cy b H locs la cells slots Q C g hP hS hL hst hls
    subst e0
    refine hq_after (hq_runV (As := [a1, a2, a3, a4, a5]) (rest := r) (i := q.2) C hP hS hL.1 hm hw hc ho ⟨hst.2.2.2.2.2.1, hst.2.2.2.2.1, hst.2.2.2.1, hst.2.2.1, hst.2.1, hst.1, trivial⟩ hmet rfl hrm hd ⟨C.2.2.2.2.2.2.2.2.2.2.1, C.2.2.2.2.2.2.2.2.2.2.2⟩ rfl) hS (fun r9 H1 locs1 e9 hP1 hS1 => ?_) (fun E q ce H1 locs1 e9 _ _ _ _ _ => by cases e9)
    cases e9
    exact k _ _ _ hk D cy b H1 locs1 la cells slots Q C g hP1 hS1 hL ⟨(hmet ⟨hst.2.2.2.2.2.1, hst.2.2.2.2.1, hst.2.2.2.1, hst.2.2.1, hst.2.1, hst.1, trivial⟩).1, hst.2.2.2.2.2.2⟩ hls
  next => exact hh.elim
def hk_v6v (kind d : Nat) (M' : hq_M) (K : hq_C) : hq_C := fun ls st h => match st with
  | a5 :: a4 :: a3 :: a2 :: a1 :: .inr q :: r => hq_is q.1 kind (hq_rm r (∃ h1 : hq_H, hq_Met d M' [.inr (kind, q.2), a1, a2, a3, a4, a5] h (.inl none) h1 ∧ K ls r h1))
  | _ => False
theorem hs_v6v {M' : hq_M} {idx kind ci N : Nat} {T : u_T} (hd : decode M.2.1 pc = .ok (.invokevirtual idx, 3)) (hm : hq_mv M' 5) (hw : Cond.methodLink M.1.cls idx M'.1 ∈ hq_ws) (hc : vwCl[ci]? = some (M'.1.cls, T, N)) (ho : hq_os kind = some (ci, N)) (k : hq_S G M d (pc + 3) K) : hq_S G M d pc (hk_v6v kind d M' K) := by
  intro ls st h hh
  unfold hk_v6v at hh
  split at hh
  next a5 a4 a3 a2 a1 q r =>
    obtain ⟨e0, hh⟩ := hq_is_of hh
    obtain ⟨hrm, h1, hmet, hk⟩ := hq_rm_of hh
    intro p l e R s m args below meth c D cy b H locs la cells slots Q C g hP hS hL hst hls
    subst e0
    refine hq_after (hq_runV (As := [a1, a2, a3, a4, a5]) (rest := r) (i := q.2) C hP hS hL.1 hm hw hc ho ⟨hst.2.2.2.2.2.1, hst.2.2.2.2.1, hst.2.2.2.1, hst.2.2.1, hst.2.1, hst.1, trivial⟩ hmet rfl hrm hd ⟨C.2.2.2.2.2.2.2.2.2.2.1, C.2.2.2.2.2.2.2.2.2.2.2⟩ rfl) hS (fun r9 H1 locs1 e9 hP1 hS1 => ?_) (fun E q ce H1 locs1 e9 _ _ _ _ _ => by cases e9)
    cases e9
    exact k _ _ _ hk D cy b H1 locs1 la cells slots Q C g hP1 hS1 hL hst.2.2.2.2.2.2 hls
  next => exact hh.elim
def hk_mmax (K : hq_C) : hq_C := fun ls st h => hq_pii st (fun x y r => hq_rm r (K ls (.inl (.int (if x < y then y else x)) :: r) h))
theorem hs_mmax {idx : Nat} (hd : decode M.2.1 pc = .ok (.invokestatic idx, 3)) (hw : Cond.methodLink M.1.cls idx Lib.Math.max.name ∈ hq_ws) (hst9 : Cond.static Lib.Math.max.name ∈ hq_ws) (hini : Cond.initialized "java/lang/Math" ∈ hq_ws) (hcode : Cond.code Lib.Math.max.name Lib.Math.max.code 2 (some .int) ∈ hq_ws) (k : hq_S G M d (pc + 3) K) : hq_S G M d pc (hk_mmax K) := by
  intro ls st h hh
  obtain ⟨x, y, r, rfl, hy⟩ := hq_pii_of hh
  obtain ⟨hrm, hw9⟩ := hq_rm_of hy
  intro p l e R s m args below meth c D cy b H locs la cells slots Q C g hP hS hL hst hls
  have hw8 := C.2.2.2.2.1
  have r1 := C.2.2.2.2.2.2.2.2.1
  have r2 := C.2.2.2.2.2.2.2.2.2.1
  have r3 := hq_cs_of (b := b) r
  exact va_mmax C.1 C.2.1 (C.2.2.1.trans hL.1.symm) C.2.2.2.1 (hw8 _ hw) (hw8 _ hst9) (hw8 _ hini) (hw8 _ hcode) (by omega) (by omega) C.2.2.2.2.2.2.2.2.2.2.1 C.2.2.2.2.2.2.2.2.2.2.2 hd (k _ _ _ hw9 D cy b H locs la cells slots Q C g hP hS hL ⟨trivial, hst.2.2⟩ hls)
def hk_mmin (K : hq_C) : hq_C := fun ls st h => hq_pii st (fun x y r => hq_rm r (K ls (.inl (.int (if y < x then y else x)) :: r) h))
theorem hs_mmin {idx : Nat} (hd : decode M.2.1 pc = .ok (.invokestatic idx, 3)) (hw : Cond.methodLink M.1.cls idx Lib.Math.min.name ∈ hq_ws) (hst9 : Cond.static Lib.Math.min.name ∈ hq_ws) (hini : Cond.initialized "java/lang/Math" ∈ hq_ws) (hcode : Cond.code Lib.Math.min.name Lib.Math.min.code 2 (some .int) ∈ hq_ws) (k : hq_S G M d (pc + 3) K) : hq_S G M d pc (hk_mmin K) := by
  intro ls st h hh
  obtain ⟨x, y, r, rfl, hy⟩ := hq_pii_of hh
  obtain ⟨hrm, hw9⟩ := hq_rm_of hy
  intro p l e R s m args below meth c D cy b H locs la cells slots Q C g hP hS hL hst hls
  have hw8 := C.2.2.2.2.1
  have r1 := C.2.2.2.2.2.2.2.2.1
  have r2 := C.2.2.2.2.2.2.2.2.2.1
  have r3 := hq_cs_of (b := b) r
  exact va_mmin C.1 C.2.1 (C.2.2.1.trans hL.1.symm) C.2.2.2.1 (hw8 _ hw) (hw8 _ hst9) (hw8 _ hini) (hw8 _ hcode) (by omega) (by omega) C.2.2.2.2.2.2.2.2.2.2.1 C.2.2.2.2.2.2.2.2.2.2.2 hd (k _ _ _ hw9 D cy b H locs la cells slots Q C g hP hS hL ⟨trivial, hst.2.2⟩ hls)
end HD
-- ===== ends =====
section HE
variable {M : hq_M} {d pc : Nat} {K : hq_C} {res : hq_R} {hr : hq_H}
theorem hq_end {p : Program} {l : Launch} {e : Env} {R : Room} {s : State} {m : MethodId} {args : Array Value} {below : List Frame} {meth : Method} {c : Code} {D : va_G} {cy : Nat → ClassId} {b : Nat} {H : Heap} {locs : List Loc} {r : Option hq_V} (hP : va_P D vwCl (hq_w b cy hr) H) (hS : va_S (hq_AA b) s.heap H locs) :
    ∀ t : State, t.heap = H → s.WarmedH t.vm → hq_QC b cy D hr (.inl r) args s (.returned (r.map (hq_cv b))) t := fun t ht _ => ⟨⟨r, rfl, rfl⟩, by rw [ht]; exact hP, hS.F ht⟩
def hk_iret (res : hq_R) (hr : hq_H) : hq_C := fun ls st h => match st with
  | [.inl (.int x)] => res = .inl (some (.inl (.int x))) ∧ h = hr
  | _ => False
theorem hs_iret (hd : decode M.2.1 pc = .ok (.ireturn, 1)) (ht : M.2.2.2 = some .int) : hq_S (hq_Gm M res hr) M d pc (hk_iret res hr) := by
  intro ls st h hh
  unfold hk_iret at hh
  split at hh
  next x =>
    obtain ⟨rfl, rfl⟩ := hh
    intro p l e R s m args below meth c D cy b H locs la cells slots Q C g hP hS hL hst hls
    obtain ⟨g1, g2, -, rfl, rfl, -, -, rfl⟩ := g
    exact vx_ret (W.iret C.1 C.2.1 (g1.trans ht) (hq_end (p := p) (l := l) (e := e) (R := R) (m := m) (below := below) (meth := meth) (c := c) (r := some (.inl (.int x))) hP hS) hS.2.2 hd g2)
  next => exact hh.elim
def hk_zret (res : hq_R) (hr : hq_H) : hq_C := fun ls st h => match st with
  | [.inl (.int x)] => (x = 0 ∨ x = 1) ∧ res = .inl (some (.inl (.int x))) ∧ h = hr
  | _ => False
theorem hs_zret (hd : decode M.2.1 pc = .ok (.ireturn, 1)) (ht : M.2.2.2 = some .boolean) : hq_S (hq_Gm M res hr) M d pc (hk_zret res hr) := by
  intro ls st h hh
  unfold hk_zret at hh
  split at hh
  next x =>
    obtain ⟨hz, rfl, rfl⟩ := hh
    intro p l e R s m args below meth c D cy b H locs la cells slots Q C g hP hS hL hst hls
    obtain ⟨g1, g2, -, rfl, rfl, -, -, rfl⟩ := g
    exact vx_ret (W.zret C.1 C.2.1 (g1.trans ht) (by rcases hz with rfl | rfl <;> decide) (hq_end (p := p) (l := l) (e := e) (R := R) (m := m) (below := below) (meth := meth) (c := c) (r := some (.inl (.int x))) hP hS) hS.2.2 hd g2)
  next => exact hh.elim
def hk_lret (res : hq_R) (hr : hq_H) : hq_C := fun ls st h => match st with
  | [.inl (.long x)] => res = .inl (some (.inl (.long x))) ∧ h = hr
  | _ => False
theorem hs_lret (hd : decode M.2.1 pc = .ok (.lreturn, 1)) (ht : M.2.2.2 = some .long) : hq_S (hq_Gm M res hr) M d pc (hk_lret res hr) := by
  intro ls st h hh
  unfold hk_lret at hh
  split at hh
  next x =>
    obtain ⟨rfl, rfl⟩ := hh
    intro p l e R s m args below meth c D cy b H locs la cells slots Q C g hP hS hL hst hls
    obtain ⟨g1, g2, -, rfl, rfl, -, -, rfl⟩ := g
    exact vx_ret (W.lret C.1 C.2.1 (g1.trans ht) (hq_end (p := p) (l := l) (e := e) (R := R) (m := m) (below := below) (meth := meth) (c := c) (r := some (.inl (.long x))) hP hS) hS.2.2 hd g2)
  next => exact hh.elim
def hk_fret (res : hq_R) (hr : hq_H) : hq_C := fun ls st h => match st with
  | [.inl (.float x)] => res = .inl (some (.inl (.float x))) ∧ h = hr
  | _ => False
theorem hs_fret (hd : decode M.2.1 pc = .ok (.freturn, 1)) (ht : M.2.2.2 = some .float) : hq_S (hq_Gm M res hr) M d pc (hk_fret res hr) := by
  intro ls st h hh
  unfold hk_fret at hh
  split at hh
  next x =>
    obtain ⟨rfl, rfl⟩ := hh
    intro p l e R s m args below meth c D cy b H locs la cells slots Q C g hP hS hL hst hls
    obtain ⟨g1, g2, -, rfl, rfl, -, -, rfl⟩ := g
    exact vx_ret (W.fret C.1 C.2.1 (g1.trans ht) (hq_end (p := p) (l := l) (e := e) (R := R) (m := m) (below := below) (meth := meth) (c := c) (r := some (.inl (.float x))) hP hS) hS.2.2 hd g2)
  next => exact hh.elim
def hk_dret (res : hq_R) (hr : hq_H) : hq_C := fun ls st h => match st with
  | [.inl (.double x)] => res = .inl (some (.inl (.double x))) ∧ h = hr
  | _ => False
theorem hs_dret (hd : decode M.2.1 pc = .ok (.dreturn, 1)) (ht : M.2.2.2 = some .double) : hq_S (hq_Gm M res hr) M d pc (hk_dret res hr) := by
  intro ls st h hh
  unfold hk_dret at hh
  split at hh
  next x =>
    obtain ⟨rfl, rfl⟩ := hh
    intro p l e R s m args below meth c D cy b H locs la cells slots Q C g hP hS hL hst hls
    obtain ⟨g1, g2, -, rfl, rfl, -, -, rfl⟩ := g
    exact vx_ret (W.dret C.1 C.2.1 (g1.trans ht) (hq_end (p := p) (l := l) (e := e) (R := R) (m := m) (below := below) (meth := meth) (c := c) (r := some (.inl (.double x))) hP hS) hS.2.2 hd g2)
  next => exact hh.elim
def hk_vret (res : hq_R) (hr : hq_H) : hq_C := fun ls st h => match st with
  | [] => res = .inl none ∧ h = hr
  | _ => False
theorem hs_vret (hd : decode M.2.1 pc = .ok (.return_, 1)) (ht : M.2.2.2 = none) : hq_S (hq_Gm M res hr) M d pc (hk_vret res hr) := by
  intro ls st h hh
  unfold hk_vret at hh
  split at hh
  next =>
    obtain ⟨rfl, rfl⟩ := hh
    intro p l e R s m args below meth c D cy b H locs la cells slots Q C g hP hS hL hst hls
    obtain ⟨g1, g2, -, rfl, rfl, -, -, rfl⟩ := g
    exact vx_ret (W.vret C.1 C.2.1 (g1.trans ht) (hq_end (p := p) (l := l) (e := e) (R := R) (m := m) (below := below) (meth := meth) (c := c) (r := none) hP hS) hS.2.2 hd g2)
  next => exact hh.elim
def hk_aret (res : hq_R) (hr : hq_H) : hq_C := fun ls st h => match st with
  | [.inr q] => res = .inl (some (.inr q)) ∧ h = hr
  | _ => False
theorem hs_aret {Cn : String} (hd : decode M.2.1 pc = .ok (.areturn, 1)) (ht : M.2.2.2 = some (.object Cn)) : hq_S (hq_Gm M res hr) M d pc (hk_aret res hr) := by
  intro ls st h hh
  unfold hk_aret at hh
  split at hh
  next q =>
    obtain ⟨rfl, rfl⟩ := hh
    intro p l e R s m args below meth c D cy b H locs la cells slots Q C g hP hS hL hst hls
    obtain ⟨g1, g2, -, rfl, rfl, -, -, rfl⟩ := g
    exact vx_ret (W.aret C.1 C.2.1 (g1.trans ht) (Or.inl ⟨_, rfl⟩) (Or.inr ⟨_, rfl⟩) (hq_end (p := p) (l := l) (e := e) (R := R) (m := m) (below := below) (meth := meth) (c := c) (r := some (.inr q)) hP hS) hS.2.2 hd g2)
  next => exact hh.elim
-- ===== a throw of a written text =====
def hk_thr (E : String) (res : hq_R) (hr : hq_H) : hq_C := fun ls st h => match st with
  | [] => res = .inr E ∧ h = hr
  | _ => False
theorem hq_XC_thr {p : Program} {l : Launch} {e : Env} {R : Room} {s : State} {m : MethodId} {args : Array Value} {below : List Frame} {meth : Method} {c : Code} {D : va_G} {cy : Nat → ClassId} {b : Nat} {H : Heap} {locs : List Loc} {E : String} (hP : va_P D vwCl (hq_w b cy hr) H) (hS : va_S (hq_AA b) s.heap H locs) :
    ∀ t : State, s.vm.Alike t.vm → H.size ≤ t.heap.size → (∀ q : Nat, q < H.size → t.heap[q]? = H[q]?) → hq_XC b cy D hr (.inr E) E s t := by
  intro t _ hz hk
  refine ⟨rfl, hP.kept (fun k q hq => hk q.1 (hP k q hq).lt), Nat.le_trans hS.1 hz, fun q h1 h2 => ?_⟩
  rw [hk q (Nat.lt_of_lt_of_le h1 hS.1)]
  exact hS.2.1 q h1 h2
theorem hs_thr {E text : String} {ik is ic : Nat} (hcls : M.1.cls = RX6) (d0 : decode M.2.1 pc = .ok (.new ik, 3)) (d3 : decode M.2.1 (pc + 3) = .ok (.dup, 1)) (d4 : decode M.2.1 (pc + 4) = .ok (.ldc is, 2)) (d6 : decode M.2.1 (pc + 6) = .ok (.invokespecial ic, 3)) (d9 : decode M.2.1 (pc + 9) = .ok (.athrow, 1))
    (hf : Bundle.fit E = true) (hs : (is, text) ∈ hq_strs) (hk : Cond.classLink RX6 ik E ∈ hq_ws) (hi : Cond.initialized E ∈ hq_ws) (ha : ∀ w ∈ vx_atS RX6 ic E ["java/lang/RuntimeException", "java/lang/Exception"], w ∈ hq_ws ∨ w ∈ hq_wx) : hq_S (hq_Gm M res hr) M d pc (hk_thr E res hr) := by
  intro ls st h hh
  unfold hk_thr at hh
  split at hh
  next =>
    obtain ⟨rfl, rfl⟩ := hh
    intro p l e R s m args below meth c D cy b H locs la cells slots Q C g hP hS hL hst hls
    obtain ⟨g1, g2, g3, rfl, rfl, g4, g5, rfl⟩ := g
    obtain ⟨sa, hsa⟩ := C.2.2.2.2.2.2.1.2.2.1 _ hs
    have hw := C.2.2.2.2.1
    have hg : ∀ w ∈ hq_ws, vx_ot w = true := fun w hw' => by
      have := (List.mem_filter.mp hw').2
      simp only [vx_ot, this, Bool.or_true]
    have r1 := C.2.2.2.2.2.2.2.2.1
    have r2 := C.2.2.2.2.2.2.2.2.2.1
    refine vx_throwS (names := ["java/lang/RuntimeException", "java/lang/Exception"]) (A := hq_AA b) (text := text) (ik := ik) (is := is) (ic := ic) (sa := sa) (cls := E) (own := RX6) C.1 C.2.1 C.2.2.2.2.2.2.2.1 (by rw [← hcls]; exact C.2.2.2.1) hf (by decide +kernel) (hw _ hk) (hw _ hi) hsa (fun w hw' => (ha w hw').elim (hw w) (fun z => va_Nw.use (hq_wx_ot w z) (C.2.2.2.2.2.2.1.2.2.2 w z))) ?_ C.2.2.2.2.2.2.1.1 C.2.2.2.2.2.2.1.2.1 hS (hL.1.trans C.2.2.1.symm) d0 d3 d4 d6 d9 (fun x hx => (g3 x hx).elim) ?_ ?_ g4 g5 g2 (hq_XC_thr (p := p) (l := l) (e := e) (R := R) (m := m) (args := args) (below := below) (meth := meth) (c := c) hP hS) hS.2.2 (Nat.le_refl _) (Nat.le_refl _)
    · intro w hw'
      rcases List.mem_cons.mp hw' with rfl | hw'
      · exact hg _ hk
      rcases List.mem_cons.mp hw' with rfl | hw'
      · exact hg _ hi
      · exact (ha w hw').elim (hg w) (fun z => by simp only [vx_ot, hq_wx_ot w z, Bool.true_or])
    · show 2 + 3 < R.frames
      omega
    · show 0 + (13 * (2 + 1) + 43) ≤ R.locals
      omega
  next => exact hh.elim
theorem hs_thrW {E text : String} {ik is ic : Nat} (hcls : M.1.cls = RX6) (d0 : decode M.2.1 pc = .ok (.new ik, 3)) (d3 : decode M.2.1 (pc + 3) = .ok (.dup, 1)) (d4 : decode M.2.1 (pc + 4) = .ok (.ldc_w is, 3)) (d7 : decode M.2.1 (pc + 7) = .ok (.invokespecial ic, 3)) (d10 : decode M.2.1 (pc + 10) = .ok (.athrow, 1))
    (hf : Bundle.fit E = true) (hs : (is, text) ∈ hq_strs) (hk : Cond.classLink RX6 ik E ∈ hq_ws) (hi : Cond.initialized E ∈ hq_ws) (ha : ∀ w ∈ vx_atS RX6 ic E ["java/lang/RuntimeException", "java/lang/Exception"], w ∈ hq_ws ∨ w ∈ hq_wx) : hq_S (hq_Gm M res hr) M d pc (hk_thr E res hr) := by
  intro ls st h hh
  unfold hk_thr at hh
  split at hh
  next =>
    obtain ⟨rfl, rfl⟩ := hh
    intro p l e R s m args below meth c D cy b H locs la cells slots Q C g hP hS hL hst hls
    obtain ⟨g1, g2, g3, rfl, rfl, g4, g5, rfl⟩ := g
    obtain ⟨sa, hsa⟩ := C.2.2.2.2.2.2.1.2.2.1 _ hs
    have hw := C.2.2.2.2.1
    have hg : ∀ w ∈ hq_ws, vx_ot w = true := fun w hw' => by
      have := (List.mem_filter.mp hw').2
      simp only [vx_ot, this, Bool.or_true]
    have r1 := C.2.2.2.2.2.2.2.2.1
    have r2 := C.2.2.2.2.2.2.2.2.2.1
    refine vx_throwSW (names := ["java/lang/RuntimeException", "java/lang/Exception"]) (A := hq_AA b) (text := text) (ik := ik) (is := is) (ic := ic) (sa := sa) (cls := E) (own := RX6) C.1 C.2.1 C.2.2.2.2.2.2.2.1 (by rw [← hcls]; exact C.2.2.2.1) hf (by decide +kernel) (hw _ hk) (hw _ hi) hsa (fun w hw' => (ha w hw').elim (hw w) (fun z => va_Nw.use (hq_wx_ot w z) (C.2.2.2.2.2.2.1.2.2.2 w z))) ?_ C.2.2.2.2.2.2.1.1 C.2.2.2.2.2.2.1.2.1 hS (hL.1.trans C.2.2.1.symm) d0 d3 d4 d7 d10 (fun x hx => (g3 x hx).elim) ?_ ?_ g4 g5 g2 (hq_XC_thr (p := p) (l := l) (e := e) (R := R) (m := m) (args := args) (below := below) (meth := meth) (c := c) hP hS) hS.2.2 (Nat.le_refl _) (Nat.le_refl _)
    · intro w hw'
      rcases List.mem_cons.mp hw' with rfl | hw'
      · exact hg _ hk
      rcases List.mem_cons.mp hw' with rfl | hw'
      · exact hg _ hi
      · exact (ha w hw').elim (hg w) (fun z => by simp only [vx_ot, hq_wx_ot w z, Bool.true_or])
    · show 2 + 3 < R.frames
      omega
    · show 0 + (13 * (2 + 1) + 43) ≤ R.locals
      omega
  next => exact hh.elim
-- ===== calls of methods that may throw: what they throw goes on to the caller =====
theorem hq_thrown {p : Program} {l : Launch} {e : Env} {R : Room} {s : State} {m : MethodId} {args : Array Value} {below : List Frame} {meth : Method} {c : Code} {D : va_G} {cy : Nat → ClassId} {b : Nat} {H : Heap} {locs : List Loc} {E : String} {q : Addr} {ce : Cell} {la : Array Slot} {rest : List Value}
    (g2 : meth.locks = false) (g3 : ∀ x ∈ c.exceptionTable.toList, False) (hP : va_P D vwCl (hq_w b cy hr) H) (hS : va_S (hq_AA b) s.heap H locs) (hce : H[q]? = some ce) (hcv : ce.vm = .none) (hcl : s.vm.findClass E = some ce.cls) :
    vx_W p l e R s m args below meth c H locs (0 + 1) (0 + 6) (vx_MQ below (hq_QC b cy D hr (.inr E)) (hq_XC b cy D hr (.inr E)) args s 1 6 (hq_AA b)) (F0 m pc la rest) q :=
  vx_out (fun x hx => (g3 x hx).elim) g2 hce hcv hcl (fun t ht _ => ⟨rfl, by rw [ht]; exact hP, hS.F ht⟩) hS.2.2 (Nat.le_refl _) (Nat.le_refl _)
def hk_t1 (d : Nat) (M' : hq_M) (res : hq_R) (hr : hq_H) (K : hq_C) : hq_C := fun ls st h => match st with
  | a0 :: r => hq_rm r ((∃ h1 : hq_H, hq_Met d M' [a0] h (.inl none) h1 ∧ K ls r h1) ∨ (∃ E : String, hq_Met d M' [a0] h (.inr E) hr ∧ res = .inr E))
  | _ => False
theorem hs_t1 {M' : hq_M} {idx : Nat} (hd : decode M.2.1 pc = .ok (.invokestatic idx, 3)) (hm : hq_mt M' 1) (hw : Cond.methodLink M.1.cls idx M'.1 ∈ hq_ws) (k : hq_S (hq_Gm M res hr) M d (pc + 3) K) : hq_S (hq_Gm M res hr) M d pc (hk_t1 d M' res hr K) := by
  intro ls st h hh
  unfold hk_t1 at hh
  split at hh
  next a0 r =>
    obtain ⟨hrm, hh⟩ := hq_rm_of hh
    intro p l e R s m args below meth c D cy b H locs la cells slots Q C g hP hS hL hst hls
    rcases hh with ⟨h1, hmet, hk⟩ | ⟨E, hmet, rfl⟩
    · refine hq_after (hq_runS (As := [a0]) (rest := r) C hP hS hL.1 hm hw ⟨hst.1, trivial⟩ hmet rfl hrm hd ⟨C.2.2.2.2.2.2.2.2.2.2.1, C.2.2.2.2.2.2.2.2.2.2.2⟩ rfl) hS (fun r9 H1 locs1 e9 hP1 hS1 => ?_) (fun E q ce H1 locs1 e9 _ _ _ _ _ => by cases e9)
      cases e9
      exact k _ _ _ hk D cy b H1 locs1 la cells slots Q C g hP1 hS1 hL hst.2 hls
    · obtain ⟨g1, g2, g3, rfl, rfl, g4, g5, rfl⟩ := g
      refine hq_after (hq_runS (As := [a0]) (rest := r) C hP hS hL.1 hm hw ⟨hst.1, trivial⟩ hmet rfl hrm hd ⟨by rw [Nat.zero_add]; exact g4, by rw [Nat.zero_add]; exact g5⟩ rfl) hS (fun r9 H1 locs1 e9 hP1 hS1 => by cases e9) (fun E q ce H1 locs1 e9 hP1 hS1 hce hcv hcl => ?_)
      cases e9
      exact hq_thrown g2 g3 hP1 hS1 hce hcv hcl
  next => exact hh.elim
def hk_t2 (kind d : Nat) (M' : hq_M) (res : hq_R) (hr : hq_H) (K : hq_C) : hq_C := fun ls st h => match st with
  | a1 :: .inr q :: r => hq_is q.1 kind (hq_rm r ((∃ h1 : hq_H, hq_Met d M' [.inr (kind, q.2), a1] h (.inl none) h1 ∧ K ls r h1) ∨ (∃ E : String, hq_Met d M' [.inr (kind, q.2), a1] h (.inr E) hr ∧ res = .inr E)))
  | _ => False
theorem hs_t2 {M' : hq_M} {idx kind ci N : Nat} {T : u_T} (hd : decode M.2.1 pc = .ok (.invokevirtual idx, 3)) (hm : hq_mv M' 1) (hw : Cond.methodLink M.1.cls idx M'.1 ∈ hq_ws) (hc : vwCl[ci]? = some (M'.1.cls, T, N)) (ho : hq_os kind = some (ci, N)) (k : hq_S (hq_Gm M res hr) M d (pc + 3) K) : hq_S (hq_Gm M res hr) M d pc (hk_t2 kind d M' res hr K) := by
  intro ls st h hh
  unfold hk_t2 at hh
  split at hh
  next a1 q r =>
    obtain ⟨e0, hh⟩ := hq_is_of hh
    obtain ⟨hrm, hh⟩ := hq_rm_of hh
    intro p l e R s m args below meth c D cy b H locs la cells slots Q C g hP hS hL hst hls
    subst e0
    rcases hh with ⟨h1, hmet, hk⟩ | ⟨E, hmet, rfl⟩
    · refine hq_after (hq_runV (As := [a1]) (rest := r) (i := q.2) C hP hS hL.1 hm hw hc ho ⟨hst.2.1, hst.1, trivial⟩ hmet rfl hrm hd ⟨C.2.2.2.2.2.2.2.2.2.2.1, C.2.2.2.2.2.2.2.2.2.2.2⟩ rfl) hS (fun r9 H1 locs1 e9 hP1 hS1 => ?_) (fun E q ce H1 locs1 e9 _ _ _ _ _ => by cases e9)
      cases e9
      exact k _ _ _ hk D cy b H1 locs1 la cells slots Q C g hP1 hS1 hL hst.2.2 hls
    · obtain ⟨g1, g2, g3, rfl, rfl, g4, g5, rfl⟩ := g
      refine hq_after (hq_runV (As := [a1]) (rest := r) (i := q.2) C hP hS hL.1 hm hw hc ho ⟨hst.2.1, hst.1, trivial⟩ hmet rfl hrm hd ⟨by rw [Nat.zero_add]; exact g4, by rw [Nat.zero_add]; exact g5⟩ rfl) hS (fun r9 H1 locs1 e9 hP1 hS1 => by cases e9) (fun E q ce H1 locs1 e9 hP1 hS1 hce hcv hcl => ?_)
      cases e9
      exact hq_thrown g2 g3 hP1 hS1 hce hcv hcl
  next => exact hh.elim
-- ===== a contract from its body =====
def hq_e0 (vs : List hq_V) : hq_L := match vs with
  | [] => []
  | v :: r => match hq_2 v with
    | true => some v :: none :: hq_e0 r
    | false => some v :: hq_e0 r
def hq_en (vs : List hq_V) (n : Nat) : hq_L := hq_e0 vs ++ List.replicate (n - (hq_e0 vs).length) none
theorem hq_e0_in (b : Nat) : ∀ (vs : List hq_V) (i k : Nat) (v : hq_V), (hq_e0 vs)[k]? = some (some v) → (i + k, hq_cv b v) ∈ lv_args i (vs.map (hq_cv b)) ∧ v ∈ vs := by
  intro vs
  induction vs with
  | nil => intro i k v h; cases h
  | cons w r ih =>
    intro i k v h
    cases hw : hq_2 w with
    | true =>
      have hc : (hq_cv b w).category = 2 := by
        match w, hw with
        | .inl (.long _), _ => rfl
        | .inl (.double _), _ => rfl
      have h : (some w :: none :: hq_e0 r)[k]? = some (some v) := by
        unfold hq_e0 at h
        rw [hw] at h
        exact h
      match k, h with
      | 0, h => cases h; exact ⟨List.mem_cons_self, List.mem_cons_self⟩
      | 1, h => cases h
      | k + 2, h =>
        have h1 := ih (i + 2) k v h
        refine ⟨?_, List.mem_cons_of_mem _ h1.2⟩
        show _ ∈ (i, hq_cv b w) :: lv_args (if (hq_cv b w).category = 2 then i + 2 else i + 1) (r.map (hq_cv b))
        rw [if_pos hc, show i + (k + 2) = i + 2 + k by omega]
        exact List.mem_cons_of_mem _ h1.1
    | false =>
      have hc : ¬ (hq_cv b w).category = 2 := fun z => by rw [hq_cat2 z] at hw; cases hw
      have h : (some w :: hq_e0 r)[k]? = some (some v) := by
        unfold hq_e0 at h
        rw [hw] at h
        exact h
      match k, h with
      | 0, h => cases h; exact ⟨List.mem_cons_self, List.mem_cons_self⟩
      | k + 1, h =>
        have h1 := ih (i + 1) k v h
        refine ⟨?_, List.mem_cons_of_mem _ h1.2⟩
        show _ ∈ (i, hq_cv b w) :: lv_args (if (hq_cv b w).category = 2 then i + 2 else i + 1) (r.map (hq_cv b))
        rw [if_neg hc, show i + (k + 1) = i + 1 + k by omega]
        exact List.mem_cons_of_mem _ h1.1
theorem hq_okS_in : ∀ {st : List hq_V} {v : hq_V}, hq_okS st → v ∈ st → hq_ok v
  | [], _, _, h => absurd h List.not_mem_nil
  | w :: r, v, h, hv => by
    rcases List.mem_cons.mp hv with rfl | hv
    · exact h.1
    · exact hq_okS_in h.2 hv
theorem hq_en_at {vs : List hq_V} {n k : Nat} {v : hq_V} (h : (hq_en vs n)[k]? = some (some v)) : (hq_e0 vs)[k]? = some (some v) := by
  unfold hq_en at h
  by_cases hk : k < (hq_e0 vs).length
  · rwa [List.getElem?_append_left hk] at h
  · rw [List.getElem?_append_right (by omega), List.getElem?_replicate] at h
    split at h
    · cases h
    · cases h
theorem hq_intro {as : List hq_V} {ls : hq_L} {h : hq_H} (hy : plainName M.1.cls = true) (hls : ls = hq_en as M.2.2.1) (hlen : ∀ b, (lg_sl (as.map (hq_cv b))).length ≤ M.2.2.1) (hres : hq_okS as → hq_okR res) (T0 : hq_T (hq_Gm M res hr) M d 0 ls [] h) : hq_Met (d + 1) M as h res hr := by
  refine fun hok => ⟨hres hok, fun l D cy b hst => ?_⟩
  refine vx_ofW (cc := M.2.1) (maxL := M.2.2.1) (ret := M.2.2.2) hy rfl ?_
  intro p e s m args below meth c s₁ B hml hex hPc
  obtain ⟨rfl, hP, hK, hZ⟩ := hPc
  have hts := atoms_spec (ws := hq_wm M) B.pre
  have hl := lv_entry (as.map (hq_cv b)) (n := M.2.2.1) (hlen b)
  rw [lg_entry_eq]
  generalize (lg_sl (as.map (hq_cv b)) ++ List.replicate (M.2.2.1 - (lg_sl (as.map (hq_cv b))).length) Slot.unset).toArray = la at hl ⊢
  subst hls
  refine T0 (R := (headSpec (hq_wm M) (hq_RM (d + 1) res)).room) D cy b s.heap [] la 0 0 _ ⟨B.exec, B.bytes, hml, findClass_of_methodNamed B.named, fun w hw => hts w (List.mem_cons_of_mem _ hw), hK, hZ, hst, ?_, ?_, Nat.zero_le _, Nat.zero_le _⟩ ⟨B.returns, B.notSynchronized, hex, rfl, rfl, Nat.le_refl _, Nat.le_refl _, rfl⟩ hP va_S.rf ⟨hl.1, hl.2.1, fun k v hk => ?_⟩ trivial (fun k v hk => ?_)
  · show 2 * d + 10 ≤ 2 * (d + 1) + 8
    omega
  · show 80 * d + 200 ≤ 80 * (d + 1) + 120
    omega
  · have h1 := (hq_e0_in b as 0 k v (hq_en_at hk)).1
    rw [Nat.zero_add] at h1
    exact hl.2.2 _ h1
  · exact hq_okS_in hok (hq_e0_in b as 0 k v (hq_en_at hk)).2
end HE
