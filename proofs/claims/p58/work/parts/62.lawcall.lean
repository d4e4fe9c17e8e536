-- ===== the law's own methods: contracts, modes, calls =====
def hq_X3 : List (String × String) := [(hz_ISE, hz_IAE), (hz_IOB, hz_IAE), (hz_IAE, hz_ISE), (hz_IOB, hz_ISE), (hz_IAE, hz_IOB), (hz_ISE, hz_IOB)]
def hq_NN (U : State) : Prop := ∀ q ∈ hq_X3, va_Nc q.1 q.2 U
abbrev hq_HH : Type := List (Nat × Nat × Nat × Nat)
abbrev hq_XX : Type := Nat → State → Prop
def hq_X0 : hq_XX := fun _ _ => True
def hq_XN : hq_XX := fun _ U => hq_NN U
def hq_XS (bs L : Nat) (xs : Nat → Int32) : hq_XX := fun b U => va_X bs L xs U U.heap ∧ bs < U.heap.size ∧ bs < b
/-- the word of a method's code: without a table, or with one -/
def hq_cwo (M : hq_M) (tb : Option hq_HH) : Cond := match tb with
  | none => .code M.1 M.2.1 M.2.2.1 M.2.2.2
  | some hh => .codeWith M.1 M.2.1 M.2.2.1 M.2.2.2 hh
def hq_ww (M : hq_M) (tb : Option hq_HH) : List Cond := hq_cwo M tb :: hq_ws
def hq_RW (n d : Nat) : Room := { frames := 2 * d + 8, cells := n, slots := 6 * n, locals := 80 * d + 120 }
def hq_PW (X : hq_XX) (b : Nat) (cy : Nat → ClassId) (D : va_G) (args : List hq_V) (h : hq_H) : Array Value → State → Prop := va_Pc (args.map (hq_cv b)) (fun U => va_P D vwCl (hq_w b cy h) U.heap ∧ va_K D vwCl (hq_tys cy) U ∧ hq_ZS b U U.heap ∧ X b U)
/-- the contract of a method of the law: it answers res, and may have made n cells -/
def hq_MetW (n d : Nat) (M : hq_M) (tb : Option hq_HH) (X : hq_XX) (args : List hq_V) (h : hq_H) (res : hq_R) (hr : hq_H) : Prop := hq_okS args → hq_okR res ∧ (∀ (l : Launch) (D : va_G) (cy : Nat → ClassId) (b : Nat), l.stackTraces = false →
  Met l M.1 (hq_ww M tb) (hq_RW n d) (hq_PW X b cy D args h) (hq_QC b cy D hr res) n (6 * n) (hq_AA b))
/-- the mode of such a method's body: N cells at most, n by now -/
def hq_GW (M : hq_M) (tb : Option hq_HH) (X : hq_XX) (res : hq_R) (hr : hq_H) (N n : Nat) : hq_G := fun p l e R s m args below meth c D cy b cells slots Q =>
  meth.sig.returnType = M.2.2.2 ∧ meth.locks = false ∧ (∀ hh, tb = some hh → c.exceptionTable.toList = tableOf hh) ∧ X b s ∧ cells ≤ n ∧ slots ≤ 6 * n ∧ N ≤ R.cells ∧ 6 * N ≤ R.slots ∧ Q = MQ below (hq_QC b cy D hr res) args s N (6 * N) (hq_AA b)
theorem hq_okS_app : ∀ {a c : List hq_V}, hq_okS (a ++ c) → hq_okS a ∧ hq_okS c
  | [], _, h => ⟨trivial, h⟩
  | _ :: _, _, h => ⟨⟨h.1, (hq_okS_app h.2).1⟩, (hq_okS_app h.2).2⟩
theorem hq_okS_of : ∀ {a : List hq_V}, (∀ v ∈ a, hq_ok v) → hq_okS a
  | [], _ => trivial
  | _ :: _, h => ⟨h _ List.mem_cons_self, hq_okS_of fun v hv => h v (List.mem_cons_of_mem _ hv)⟩
theorem hq_ofWw {l : Launch} {y : MethodName} {rm : Room} {Pc : Array Value → State → Prop} {Qc : Array Value → State → Outcome → State → Prop} {mc ms : Nat} {free : Addr → Prop} {cc : ByteArray} {maxL : Nat} {ret : Option FieldType} {tb : Option hq_HH}
    (hy : plainName y.cls = true)
    (body : ∀ p e s m args below meth c s₁, BodyLoose p l y (headSpec (hq_ww (y, cc, maxL, ret) tb) rm) cc maxL ret e s m args below meth c s₁ → c.maxLocals = maxL → (∀ hh, tb = some hh → c.exceptionTable.toList = tableOf hh) → Pc args s →
      W p l e (headSpec (hq_ww (y, cc, maxL, ret) tb) rm).room s m args below meth c s.heap [] 0 0 (MQ below Qc args s mc ms free) (entryFrame m args maxL)) : Met l y (hq_ww (y, cc, maxL, ret) tb) rm Pc Qc mc ms free := by
  refine MetFree.of_bodyS (code := cc) (maxLocals := maxL) (ret := ret) hy ?_ ?_
  · intro args s m h hn
    cases tb with
    | none =>
      obtain ⟨meth, c, h1, h2, h3, h4, h5, h6, -, -⟩ := Cond.code_spec hn (atoms_spec (ws := hq_ww (y, cc, maxL, ret) none) h (Cond.code y cc maxL ret) List.mem_cons_self)
      exact ⟨meth, c, h1, h2, h3, h4, h5, h6⟩
    | some hh =>
      obtain ⟨m9, meth, c, h0, h1, h2, h3, h4, -, h5, h6, -⟩ := Cond.codeWith_spec (atoms_spec (ws := hq_ww (y, cc, maxL, ret) (some hh)) h (Cond.codeWith y cc maxL ret hh) List.mem_cons_self)
      cases Option.some.inj (h0.symm.trans hn)
      exact ⟨meth, c, h1, h2, h3, h4, h5, h6⟩
  · intro p e s m args below meth c s₁ B hml hP _
    have hh0 : s₁.heap = s.heap := by rw [B.state]; rfl
    have ht : ∀ hh, tb = some hh → c.exceptionTable.toList = tableOf hh := fun hh ht => by
      subst ht
      exact vx_table (x := y) B (atoms_spec (ws := hq_ww (y, cc, maxL, ret) (some hh)) B.pre (Cond.codeWith y cc maxL ret hh) List.mem_cons_self)
    obtain ⟨t, a1, o, b1, b2, b3⟩ := body p e s m args below meth c s₁ B hml ht hP s₁ hh0 (Stand.of_body B)
    exact ⟨t, o, a1, b1, b2, b3⟩
section HK
variable {M : hq_M} {tb : Option hq_HH} {X : hq_XX} {d pc : Nat} {res : hq_R} {hr : hq_H}
theorem hq_introW {N : Nat} {as : List hq_V} {ls : hq_L} {h : hq_H} (hy : plainName M.1.cls = true) (hls : ls = hq_en as M.2.2.1) (hlen : ∀ b, (lg_sl (as.map (hq_cv b))).length ≤ M.2.2.1) (hres : hq_okS as → hq_okR res) (T0 : hq_T (hq_GW M tb X res hr N 0) M d 0 ls [] h) : hq_MetW N (d + 1) M tb X as h res hr := by
  refine fun hok => ⟨hres hok, fun l D cy b hst => ?_⟩
  refine hq_ofWw (cc := M.2.1) (maxL := M.2.2.1) (ret := M.2.2.2) (tb := tb) hy ?_
  intro p e s m args below meth c s₁ B hml hex hPc
  obtain ⟨rfl, hP, hK, hZ, hX⟩ := hPc
  have hts := atoms_spec (ws := hq_ww M tb) B.pre
  have hl := lv_entry (as.map (hq_cv b)) (n := M.2.2.1) (hlen b)
  rw [lg_entry_eq]
  generalize (lg_sl (as.map (hq_cv b)) ++ List.replicate (M.2.2.1 - (lg_sl (as.map (hq_cv b))).length) Slot.unset).toArray = la at hl ⊢
  subst hls
  refine T0 (R := (headSpec (hq_ww M tb) (hq_RW N (d + 1))).room) D cy b s.heap [] la 0 0 _ ⟨B.exec, B.bytes, hml, findClass_of_methodNamed B.named, fun w hw => hts w (List.mem_cons_of_mem _ hw), hK, hZ, hst, ?_, ?_, Nat.zero_le _, Nat.zero_le _⟩ ⟨B.returns, B.notSynchronized, hex, hX, Nat.le_refl _, Nat.le_refl _, Nat.le_refl _, Nat.le_refl _, rfl⟩ hP va_S.rf ⟨hl.1, hl.2.1, fun k v hk => ?_⟩ trivial (fun k v hk => ?_)
  · show 2 * d + 10 ≤ 2 * (d + 1) + 8
    omega
  · show 80 * d + 200 ≤ 80 * (d + 1) + 120
    omega
  · have h1 := (hq_e0_in b as 0 k v (hq_en_at hk)).1
    rw [Nat.zero_add] at h1
    exact hl.2.2 _ h1
  · exact hq_okS_in hok (hq_e0_in b as 0 k v (hq_en_at hk)).2
theorem hs_iretW {N n : Nat} (hn : n ≤ N) (hd : decode M.2.1 pc = .ok (.ireturn, 1)) (ht : M.2.2.2 = some .int) : hq_S (hq_GW M tb X res hr N n) M d pc (hk_iret res hr) := by
  intro ls st h hw
  unfold hk_iret at hw
  split at hw
  next x =>
    obtain ⟨rfl, rfl⟩ := hw
    intro p l e R s m args below meth c D cy b H locs la cells slots Q C g hP hS hL hst hls
    obtain ⟨g1, g2, -, -, g3, g4, -, -, rfl⟩ := g
    exact W.widen (k := N) (n := 6 * N) (by omega) (by omega) (W.iret C.1 C.2.1 (g1.trans ht) (hq_end (p := p) (l := l) (e := e) (R := R) (m := m) (below := below) (meth := meth) (c := c) (r := some (.inl (.int x))) hP hS) hS.2.2 hd g2)
  next => exact hw.elim
/-- the row of the table that catches E at pc -/
def hq_cat (M : hq_M) (hh : hq_HH) (pc : Nat) (E : String) (hp : Nat) : Prop := ∃ (pre : List ExceptionTableEntry) (x : ExceptionTableEntry) (suf : List ExceptionTableEntry) (name : String), tableOf hh = pre ++ x :: suf ∧ (∀ z ∈ pre, z.catchType ≠ 0 ∧ ∃ nm : String, Cond.classLink M.1.cls z.catchType nm ∈ hq_ws ∧ (E, nm) ∈ hq_X3) ∧ covers x pc = true ∧ x.catchType ≠ 0 ∧ x.handlerPc = hp ∧ Cond.classLink M.1.cls x.catchType name ∈ hq_ws ∧ Cond.castable E name ∈ hq_wx
def hk_tc (n kind d : Nat) (M' : hq_M) (E1 E2 : String) (K K1 K2 : hq_C) : hq_C := fun ls st h => ∃ (As : List hq_V) (i : Nat) (r : List hq_V), As.length = n ∧ st = As.reverse ++ .inr (kind, i) :: r ∧ hq_cs r ≤ 8 ∧ ∃ (res : hq_R) (h1 : hq_H), hq_Met d M' (.inr (kind, i) :: As) h res h1 ∧ (match res with
  | .inl (some v) => K ls (v :: r) h1
  | .inl none => False
  | .inr E => (E = E1 ∧ ∀ q : Nat, K1 ls [.inl (.ref q)] h1) ∨ (E = E2 ∧ ∀ q : Nat, K2 ls [.inl (.ref q)] h1))
theorem hs_tc {hh : hq_HH} {M' : hq_M} {n idx kind ci N : Nat} {T : u_T} {E1 E2 : String} {K K1 K2 : hq_C} {p1 p2 : Nat} (hd : decode M.2.1 pc = .ok (.invokevirtual idx, 3)) (hm : hq_mv M' n) (hw : Cond.methodLink M.1.cls idx M'.1 ∈ hq_ws) (hc : vwCl[ci]? = some (M'.1.cls, T, N)) (ho : hq_os kind = some (ci, N))
    (c1 : hq_cat M hh pc E1 p1) (c2 : hq_cat M hh pc E2 p2) (k : hq_S (hq_GW M (some hh) hq_XN res hr 1 0) M d (pc + 3) K) (k1 : hq_S (hq_GW M (some hh) hq_XN res hr 1 1) M d p1 K1) (k2 : hq_S (hq_GW M (some hh) hq_XN res hr 1 1) M d p2 K2) : hq_S (hq_GW M (some hh) hq_XN res hr 1 0) M d pc (hk_tc n kind d M' E1 E2 K K1 K2) := by
  intro ls st h hk
  obtain ⟨As, i, r, hn, rfl, hrm, res', h1, hmet, hk⟩ := hk
  intro p l e R s m args below meth c D cy b H locs la cells slots Q C g hP hS hL hst hls
  obtain ⟨o1, o2⟩ := hq_okS_app hst
  have oA : hq_okS As := hq_okS_of fun v hv => hq_okS_in o1 (List.mem_reverse.mpr hv)
  have hok : hq_okS (.inr (kind, i) :: As) := ⟨o2.1, oA⟩
  obtain ⟨g1, g2, g3, gN, gc, gs, g4, g5, rfl⟩ := g
  have room : cells + hq_mc res' ≤ R.cells ∧ slots + hq_ms res' ≤ R.slots := by
    cases res' with
    | inl v => exact ⟨C.2.2.2.2.2.2.2.2.2.2.1, C.2.2.2.2.2.2.2.2.2.2.2⟩
    | inr E => exact ⟨by show cells + 1 ≤ _; omega, by show slots + 6 ≤ _; omega⟩
  have run := hq_runV (e := e) (below := below) (meth := meth) (As := As) (rest := r) (i := i) C hP hS hL.1 hm hw hc ho hok hmet hn hrm hd room (st := (As.reverse ++ .inr (kind, i) :: r).map (hq_cv b)) (by rw [List.map_append, List.map_reverse]; rfl)
  have caught : ∀ (E : String) (hp : Nat) (KE : hq_C), res' = .inr E → hq_cat M hh pc E hp → hq_S (hq_GW M (some hh) hq_XN res hr 1 1) M d hp KE → (∀ q : Nat, KE ls [.inl (.ref q)] h1) → W p l e R s m args below meth c H locs cells slots (MQ below (hq_QC b cy D hr res) args s 1 (6 * 1) (hq_AA b)) (F0 m pc la ((As.reverse ++ .inr (kind, i) :: r).map (hq_cv b))) := by
    intro E hp KE hE cat kE hkE
    subst hE
    obtain ⟨pre, x, suf, name, s1, s2, s3, s4, s5, s6, s7⟩ := cat
    refine hq_after run hS (fun r9 H1 locs1 e9 hP1 hS1 => by cases e9) (fun E' q ce H1 locs1 e9 hP1 hS1 hce hcv hcl => ?_)
    cases e9
    refine vx_catch C.2.2.2.1 pre x suf ((g3 hh rfl).trans s1) (fun z hz => Or.inr ?_) s3 s4 (C.2.2.2.2.1 _ s6) (va_Nw.use (A := args) (by exact hq_wx_ot _ s7) (C.2.2.2.2.2.2.1.2.2.2 _ s7)) hce hcv hcl ?_
    · obtain ⟨z1, nm, z2, z3⟩ := s2 z hz
      exact ⟨z1, nm, C.2.2.2.2.1 _ z2, gN _ z3⟩
    · rw [s5]
      refine kE _ _ _ (hkE q) D cy b H1 locs1 la (cells + 1) (slots + 6) _ ⟨C.1, C.2.1, C.2.2.1, C.2.2.2.1, C.2.2.2.2.1, C.2.2.2.2.2.1, C.2.2.2.2.2.2.1, C.2.2.2.2.2.2.2.1, C.2.2.2.2.2.2.2.2.1, C.2.2.2.2.2.2.2.2.2.1, room.1, room.2⟩ ⟨g1, g2, g3, gN, by omega, by omega, g4, g5, rfl⟩ hP1 hS1 hL ⟨trivial, trivial⟩ hls
  cases res' with
  | inl v =>
    cases v with
    | none => exact hk.elim
    | some v =>
      refine hq_after run hS (fun r9 H1 locs1 e9 hP1 hS1 => ?_) (fun E q ce H1 locs1 e9 _ _ _ _ _ => by cases e9)
      cases e9
      exact k _ _ _ hk D cy b H1 locs1 la cells slots _ C ⟨g1, g2, g3, gN, gc, gs, g4, g5, rfl⟩ hP1 hS1 hL ⟨(hmet hok).1, o2.2⟩ hls
  | inr E =>
    rcases hk with ⟨e1, hk⟩ | ⟨e2, hk⟩
    · subst e1
      exact caught E p1 K1 rfl c1 k1 hk
    · subst e2
      exact caught E p2 K2 rfl c2 k2 hk
end HK
-- ===== calls of the law's methods =====
def hq_mw (M : hq_M) (tb : Option hq_HH) (n : Nat) : Prop := (M.1.cls ≠ "java/lang/invoke/MethodHandle" ∧ M.1.cls ≠ "java/lang/invoke/VarHandle" ∧ (parseMethodDescriptor M.1.desc).map (fun d => d.parameters.length) = some n) ∧ hq_cwo M tb ∈ hq_ws ∧ Cond.initialized M.1.cls ∈ hq_ws ∧ M.2.2.1 ≤ 40 ∧ plainName M.1.cls = true ∧ Cond.static M.1 ∈ hq_ws
/-- what a caller's mode gives to the callee -/
def hq_gv (G G' : hq_G) (X : hq_XX) (n : Nat) : Prop := ∀ (p : Program) (l : Launch) (e : Env) (R : Room) (s : State) (m : MethodId) (args : Array Value) (below : List Frame) (meth : Method) (c : Code) (D : va_G) (cy : Nat → ClassId) (b cells slots : Nat) (Q : State → Prop), cells ≤ R.cells → slots ≤ R.slots → G p l e R s m args below meth c D cy b cells slots Q →
  G' p l e R s m args below meth c D cy b (cells + n) (slots + 6 * n) Q ∧ (cells + n ≤ R.cells ∧ slots + 6 * n ≤ R.slots) ∧ ∀ (H : Heap) (locs : List Loc) (U : State), va_S (hq_AA b) s.heap H locs → U.heap = H → s.WarmedH U.vm → X b U
def hq_xb (X : hq_XX) : Prop := ∀ (b : Nat) (U : State) (g : JFrame) (mk : MethodId) (a : Array Value), X b U → X b (U.calling g mk a)
theorem hq_blindW {X : hq_XX} (hx : hq_xb X) {b : Nat} {cy : Nat → ClassId} {D : va_G} {args : List hq_V} {h : hq_H} : FrameBlind (hq_PW X b cy D args h) := by
  intro a U g mk q
  obtain ⟨e, hP, hK, hZ, hX⟩ := q
  exact ⟨e, hP, va_K.moved (u := U) (U := U.calling g mk a) (Vm.Alike.refl U.vm) hK, hq_ZS_moved (u := U) (U := U.calling g mk a) rfl hZ, hx b U g mk a hX⟩
theorem hq_xb0 : hq_xb hq_X0 := fun _ _ _ _ _ _ => trivial
theorem hq_xbN : hq_xb hq_XN := fun b U g mk a h q hq => va_Nc.moved (u := U) (U := U.calling g mk a) (Vm.Alike.refl U.vm) (h q hq)
theorem hq_xbS (bs L : Nat) (xs : Nat → Int32) : hq_xb (hq_XS bs L xs) := fun b U g mk a h => ⟨va_X.moved (u := U) (U := U.calling g mk a) (Vm.Alike.refl U.vm) h.1, h.2⟩
theorem hq_gv0 (G : hq_G) : hq_gv G G hq_X0 0 := fun _ _ _ _ _ _ _ _ _ _ _ _ _ _ _ _ h1 h2 g => ⟨g, ⟨h1, h2⟩, fun _ _ _ _ _ _ => trivial⟩
def hk_w (na n d : Nat) (M' : hq_M) (tb : Option hq_HH) (X : hq_XX) (K : hq_C) : hq_C := fun ls st h => ∃ (As r : List hq_V), As.length = na ∧ st = As.reverse ++ r ∧ hq_cs r ≤ 8 ∧ ∃ (x : Int32) (h1 : hq_H), hq_MetW n d M' tb X As h (.inl (some (.inl (.int x)))) h1 ∧ K ls (.inl (.int x) :: r) h1
section HW
variable {G G' : hq_G} {M : hq_M} {d pc : Nat} {K : hq_C}
theorem hs_w {M' : hq_M} {tb : Option hq_HH} {X : hq_XX} {na n idx : Nat} (gv : hq_gv G G' X n) (hx : hq_xb X) (hd : decode M.2.1 pc = .ok (.invokestatic idx, 3)) (hm : hq_mw M' tb na) (hw : Cond.methodLink M.1.cls idx M'.1 ∈ hq_ws) (k : hq_S G' M d (pc + 3) K) : hq_S G M d pc (hk_w na n d M' tb X K) := by
  intro ls st h hk
  obtain ⟨As, r, hn, rfl, hrm, x, h1, hmet, hk⟩ := hk
  intro p l e R s m args below meth c D cy b H locs la cells slots Q C g hP hS hL hst hls
  obtain ⟨g2, g3, g4⟩ := gv p l e R s m args below meth c D cy b cells slots Q C.2.2.2.2.2.2.2.2.2.2.1 C.2.2.2.2.2.2.2.2.2.2.2 g
  obtain ⟨o1, o2⟩ := hq_okS_app hst
  have oA : hq_okS As := hq_okS_of fun v hv => hq_okS_in o1 (List.mem_reverse.mpr hv)
  obtain ⟨hmd, hcode, hini, hml, hpl, hstat⟩ := hm
  have hG : GoodIn hq_ws (va_wsS M.1.cls idx M'.1 (hq_ww M' tb)) := by
    intro w hw'
    have hin : w ∈ hq_ws := by
      simp only [va_wsS, hq_ww, List.cons_append, List.nil_append, List.mem_cons] at hw'
      rcases hw' with rfl | rfl | rfl | rfl | hw'
      · exact hw
      · exact hstat
      · exact hini
      · exact hcode
      · exact hw'
    exact ⟨hin, hq_gw hin⟩
  have hfl : (hq_RW n d).frames + 1 ≤ R.frames ∧ 8 + (M'.2.2.1 + 11) + (hq_RW n d).locals ≤ R.locals := ⟨by have := C.2.2.2.2.2.2.2.2.1; show 2 * d + 8 + 1 ≤ R.frames; omega, by have := C.2.2.2.2.2.2.2.2.2.1; show 8 + (M'.2.2.1 + 11) + (80 * d + 120) ≤ R.locals; omega⟩
  have hpre : PreS s H (hq_PW X b cy D As h) (As.map (hq_cv b)) := ⟨hq_blindW hx, fun U hU hW => ⟨rfl, by rw [hU]; exact hP, va_K.moved hW.alike C.2.2.2.2.2.1, hq_ZS_to C.2.2.2.2.2.2.1 hS hW hU, g4 H locs U hS hU hW⟩⟩
  have hsk : (As.reverse ++ r).map (hq_cv b) = (As.map (hq_cv b)).reverse ++ r.map (hq_cv b) := by rw [List.map_append, List.map_reverse]
  have hW8 : 2 * 0 + ((r.map (hq_cv b)).map fun v => v.category).sum ≤ 8 := by
    have := hq_cs_of (b := b) r
    omega
  have run : va_Run p l e R s m args below meth c H locs cells slots n (6 * n) (F0 m pc la ((As.reverse ++ r).map (hq_cv b))) (r.map (hq_cv b)) (hq_QC b cy D h1 (.inl (some (.inl (.int x)))) (As.map (hq_cv b)).toArray) (hq_AA b) := by
    cases tb with
    | none =>
      exact va_runS (As := As.map (hq_cv b)) (cc := M.2.1) (nL := M.2.2.1) (Ts := hq_ws) (own := M.1.cls) (bytes := M'.2.1) (maxL := M'.2.2.1) (ret := M'.2.2.2) ⟨C.1, C.2.1, C.2.2.1, C.2.2.2.1, C.2.2.2.2.1⟩ ((hmet oA).2 l D cy b C.2.2.2.2.2.2.2.1) (va_cwS na C.2.2.2.2.1 hG rfl rfl rfl hmd hfl) hpre rfl (by rw [List.length_map]; exact hn) hL.1 hsk hW8 hd g3
    | some hh =>
      exact vx_runSW (As := As.map (hq_cv b)) (cc := M.2.1) (nL := M.2.2.1) (Ts := hq_ws) (own := M.1.cls) (bytes := M'.2.1) (maxL := M'.2.2.1) (ret := M'.2.2.2) (hh := hh) ⟨C.1, C.2.1, C.2.2.1, C.2.2.2.1, C.2.2.2.2.1⟩ ((hmet oA).2 l D cy b C.2.2.2.2.2.2.2.1) (vx_cwSW na C.2.2.2.2.1 hG rfl rfl rfl hmd hfl) hpre rfl (by rw [List.length_map]; exact hn) hL.1 hsk hW8 hd g3
  intro T hT Y
  obtain ⟨v, st₀, t, T', LL, h0, Y', hLL, e1, e2, ⟨⟨rr, hres, hv⟩, hP1, hF⟩, stp⟩ := run T hT Y
  cases hres
  cases hv
  have hS1 : va_S (hq_AA b) s.heap T'.heap (locs ++ LL) := by
    obtain ⟨hz, hkk⟩ := hF
    rw [h0] at hz hkk
    refine ⟨Nat.le_trans hS.1 (by rw [e1]; exact hz), fun q h1 h2 => ?_, fun q hq => ?_⟩
    · rw [e1, hkk q (Nat.lt_of_lt_of_le h1 hS.1) h2]
      exact hS.2.1 q h1 h2
    · rcases List.mem_append.mp hq with h | h
      · exact hS.2.2 q h
      · exact hLL q h
  obtain ⟨t2, a1, b1⟩ := k _ _ _ hk D cy b T'.heap (locs ++ LL) la (cells + n) (slots + 6 * n) _ ⟨C.1, C.2.1, C.2.2.1, C.2.2.2.1, C.2.2.2.2.1, C.2.2.2.2.2.1, C.2.2.2.2.2.2.1, C.2.2.2.2.2.2.2.1, C.2.2.2.2.2.2.2.2.1, C.2.2.2.2.2.2.2.2.2.1, g3.1, g3.2⟩ g2 (by rw [e1]; exact hP1) hS1 hL ⟨trivial, o2⟩ hls T' rfl Y'
  exact ⟨t2, stp t2 a1, b1⟩
end HW
/-- calls with one, two, three arguments that make no cell -/
def hk_h1 (d : Nat) (M' : hq_M) (tb : Option hq_HH) (K : hq_C) : hq_C := fun ls st h => match st with
  | a0 :: r => hq_rm r (∃ (x : Int32) (h1 : hq_H), hq_MetW 0 d M' tb hq_X0 [a0] h (.inl (some (.inl (.int x)))) h1 ∧ K ls (.inl (.int x) :: r) h1)
  | _ => False
def hk_h2 (d : Nat) (M' : hq_M) (tb : Option hq_HH) (K : hq_C) : hq_C := fun ls st h => match st with
  | a1 :: a0 :: r => hq_rm r (∃ (x : Int32) (h1 : hq_H), hq_MetW 0 d M' tb hq_X0 [a0, a1] h (.inl (some (.inl (.int x)))) h1 ∧ K ls (.inl (.int x) :: r) h1)
  | _ => False
def hk_h3 (d : Nat) (M' : hq_M) (tb : Option hq_HH) (K : hq_C) : hq_C := fun ls st h => match st with
  | a2 :: a1 :: a0 :: r => hq_rm r (∃ (x : Int32) (h1 : hq_H), hq_MetW 0 d M' tb hq_X0 [a0, a1, a2] h (.inl (some (.inl (.int x)))) h1 ∧ K ls (.inl (.int x) :: r) h1)
  | _ => False
section HW1
variable {G : hq_G} {M : hq_M} {d pc : Nat} {K : hq_C}
theorem hs_h1 {M' : hq_M} {tb : Option hq_HH} {idx : Nat} (hd : decode M.2.1 pc = .ok (.invokestatic idx, 3)) (hm : hq_mw M' tb 1) (hw : Cond.methodLink M.1.cls idx M'.1 ∈ hq_ws) (k : hq_S G M d (pc + 3) K) : hq_S G M d pc (hk_h1 d M' tb K) := by
  intro ls st h hh
  unfold hk_h1 at hh
  split at hh
  next a0 r =>
    obtain ⟨hrm, x, h1, hmet, hk⟩ := hq_rm_of hh
    exact hs_w (hq_gv0 G) hq_xb0 hd hm hw k ls _ h ⟨[a0], r, rfl, rfl, hrm, x, h1, hmet, hk⟩
  next => exact hh.elim
theorem hs_h2 {M' : hq_M} {tb : Option hq_HH} {idx : Nat} (hd : decode M.2.1 pc = .ok (.invokestatic idx, 3)) (hm : hq_mw M' tb 2) (hw : Cond.methodLink M.1.cls idx M'.1 ∈ hq_ws) (k : hq_S G M d (pc + 3) K) : hq_S G M d pc (hk_h2 d M' tb K) := by
  intro ls st h hh
  unfold hk_h2 at hh
  split at hh
  next a1 a0 r =>
    obtain ⟨hrm, x, h1, hmet, hk⟩ := hq_rm_of hh
    exact hs_w (hq_gv0 G) hq_xb0 hd hm hw k ls _ h ⟨[a0, a1], r, rfl, rfl, hrm, x, h1, hmet, hk⟩
  next => exact hh.elim
theorem hs_h3 {M' : hq_M} {tb : Option hq_HH} {idx : Nat} (hd : decode M.2.1 pc = .ok (.invokestatic idx, 3)) (hm : hq_mw M' tb 3) (hw : Cond.methodLink M.1.cls idx M'.1 ∈ hq_ws) (k : hq_S G M d (pc + 3) K) : hq_S G M d pc (hk_h3 d M' tb K) := by
  intro ls st h hh
  unfold hk_h3 at hh
  split at hh
  next a2 a1 a0 r =>
    obtain ⟨hrm, x, h1, hmet, hk⟩ := hq_rm_of hh
    exact hs_w (hq_gv0 G) hq_xb0 hd hm hw k ls _ h ⟨[a0, a1, a2], r, rfl, rfl, hrm, x, h1, hmet, hk⟩
  next => exact hh.elim
end HW1
-- ===== a place of the script, in the method cell =====
section HX
variable {G : hq_G} {M : hq_M} {d pc : Nat} {K : hq_C}
def hk_astoreX (i : Nat) (K : hq_C) : hq_C := fun ls st h => match st with
  | .inl (.ref q) :: r => K (hq_st1 ls i (.inl (.ref q))) r h
  | _ => False
theorem hs_astoreX {i : Nat} (hd : decode M.2.1 pc = .ok (.astore i, 2)) (hn : i < M.2.2.1) (k : hq_S G M d (pc + 2) K) : hq_S G M d pc (hk_astoreX i K) := by
  intro ls st h hh
  unfold hk_astoreX at hh
  split at hh
  next q r =>
    intro p l e R s m args below meth c D cy b H locs la cells slots Q C g hP hS hL hst hls
    exact lv_astore C.1 C.2.1 hd (hq_LH_has hL) hn rfl (fun la' h' => k _ _ _ hh D cy b H locs la' cells slots Q C g hP hS (hq_LH_1 (v := .inl (.ref q)) h') hst.2 (hq_okL_1 hls hst.1))
  next => exact hh.elim
theorem hs_astoreX_n {z : Fin 4} {i : Nat} (hd : decode M.2.1 pc = .ok (.astore_n z, 1)) (hi : (z : Nat) = i) (hn : i < M.2.2.1) (k : hq_S G M d (pc + 1) K) : hq_S G M d pc (hk_astoreX i K) := by
  intro ls st h hh
  unfold hk_astoreX at hh
  split at hh
  next q r =>
    intro p l e R s m args below meth c D cy b H locs la cells slots Q C g hP hS hL hst hls
    exact lv_astore_n C.1 C.2.1 hd hi (hq_LH_has hL) hn rfl (fun la' h' => k _ _ _ hh D cy b H locs la' cells slots Q C g hP hS (hq_LH_1 (v := .inl (.ref q)) h') hst.2 (hq_okL_1 hls hst.1))
  next => exact hh.elim
end HX
section HL
variable {bs L : Nat} {xs : Nat → Int32} {tb : Option hq_HH} {M : hq_M} {res : hq_R} {hr : hq_H} {N n d pc : Nat} {K : hq_C}
/-- the script's length -/
def hk_slen (bs L : Nat) (K : hq_C) : hq_C := fun ls st h => match st with
  | .inl (.ref a) :: r => a = bs ∧ K ls (.inl (.int (nI L)) :: r) h
  | _ => False
theorem hs_slen (hd : decode M.2.1 pc = .ok (.arraylength, 1)) (k : hq_S (hq_GW M tb (hq_XS bs L xs) res hr N n) M d (pc + 1) K) : hq_S (hq_GW M tb (hq_XS bs L xs) res hr N n) M d pc (hk_slen bs L K) := by
  intro ls st h hh
  unfold hk_slen at hh
  split at hh
  next a r =>
    obtain ⟨rfl, hh⟩ := hh
    intro p l e R s m args below meth c D cy b H locs la cells slots Q C g hP hS hL hst hls
    have g' := g
    obtain ⟨g1, g2, g3, ⟨g4, g5, g6⟩, g7⟩ := g
    exact va_slen (A := hq_AA b) C.1 C.2.1 g4 g5 (Nat.not_le.mpr g6) hS hd (k _ _ _ hh D cy b H locs la cells slots _ C g' hP hS hL ⟨trivial, hst.2⟩ hls)
  next => exact hh.elim
/-- a place of the script -/
def hk_sld (bs L : Nat) (xs : Nat → Int32) (K : hq_C) : hq_C := fun ls st h => match st with
  | .inl (.int i) :: .inl (.ref a) :: r => a = bs ∧ ∃ j, j < L ∧ j < 2 ^ 31 ∧ i = nI j ∧ K ls (.inl (.int (xs j)) :: r) h
  | _ => False
theorem hs_sld (hd : decode M.2.1 pc = .ok (.iaload, 1)) (k : hq_S (hq_GW M tb (hq_XS bs L xs) res hr N n) M d (pc + 1) K) : hq_S (hq_GW M tb (hq_XS bs L xs) res hr N n) M d pc (hk_sld bs L xs K) := by
  intro ls st h hh
  unfold hk_sld at hh
  split at hh
  next i a r =>
    obtain ⟨rfl, j, hj, hj2, rfl, hh⟩ := hh
    intro p l e R s m args below meth c D cy b H locs la cells slots Q C g hP hS hL hst hls
    have g' := g
    obtain ⟨g1, g2, g3, ⟨g4, g5, g6⟩, g7⟩ := g
    have e : (nI j).toNatClampNeg = j := nI_clamp hj2
    refine va_sld (A := hq_AA b) C.1 C.2.1 g4 g5 (Nat.not_le.mpr g6) hS (i := nI j) ?_ hd ?_
    · rintro (z | z)
      · exact nI_pos hj2 z
      · omega
    · rw [e]
      exact k _ _ _ hh D cy b H locs la cells slots _ C g' hP hS hL ⟨trivial, hst.2.2⟩ hls
  next => exact hh.elim
end HL
