-- ===== the first world: cells made one after another =====
abbrev hc_V : Type := Value ⊕ Nat
abbrev hc_A : Type := (Nat → Int32) ⊕ (Nat → Int64) ⊕ (Nat → Option Nat)
/-- a cell: an object (its class' number, its fields), or an array (its type's number, its length, its contents) -/
abbrev hc_E : Type := (Nat × List hc_V) ⊕ (Nat × Nat × hc_A)
def hc_cv (b : Nat) (v : hc_V) : Value := match v with
  | .inl x => x
  | .inr j => .ref (b + j)
def hc_ent (b : Nat) (cy : Nat → ClassId) (e : hc_E) : va_E := match e with
  | .inl (ci, vs) => .inr (ci, vs.map (hc_cv b))
  | .inr (t, n, .inl f) => .inl (cy t, n, .inl f)
  | .inr (t, n, .inr (.inl f)) => .inl (cy t, n, .inr (.inl f))
  | .inr (t, n, .inr (.inr f)) => .inl (cy t, n, .inr (.inr (.inr (.inr (fun s => (f s).map (b + ·))))))
def hc_wf (b : Nat) (cy : Nat → ClassId) : Nat → List hc_E → va_W
  | _, [] => []
  | j, e :: r => (b + j, hc_ent b cy e) :: hc_wf b cy (j + 1) r
def hc_w (b : Nat) (cy : Nat → ClassId) (ws : List hc_E) : va_W := hc_wf b cy 0 ws
def hc_se (e : hc_E) : Nat := match e with
  | .inl (_, vs) => vs.length
  | .inr (_, n, _) => n
def hc_sz : List hc_E → Nat
  | [] => 0
  | e :: r => hc_se e + hc_sz r
theorem hc_sz_app : ∀ (a c : List hc_E), hc_sz (a ++ c) = hc_sz a + hc_sz c
  | [], c => (Nat.zero_add _).symm
  | e :: r, c => by
    show hc_se e + hc_sz (r ++ c) = hc_se e + hc_sz r + hc_sz c
    rw [hc_sz_app r c]
    omega
theorem hc_sz_set : ∀ {ws : List hc_E} {k : Nat} {e e' : hc_E}, ws[k]? = some e → hc_se e' = hc_se e → hc_sz (ws.set k e') = hc_sz ws
  | [], _, _, _, h, _ => by cases h
  | a :: r, 0, e, e', h, hs => by
    have h : a = e := Option.some.inj h
    show hc_se e' + hc_sz r = hc_se a + hc_sz r
    rw [hs, h]
  | a :: r, k + 1, e, e', h, hs => by
    have h : r[k]? = some e := h
    show hc_se a + hc_sz (r.set k e') = hc_se a + hc_sz r
    rw [hc_sz_set h hs]
theorem hc_wf_at (b : Nat) (cy : Nat → ClassId) : ∀ {ws : List hc_E} {j k : Nat} {e : hc_E}, ws[k]? = some e → (hc_wf b cy j ws)[k]? = some (b + (j + k), hc_ent b cy e)
  | [], _, _, _, h => by cases h
  | a :: r, j, 0, e, h => by
    have h : a = e := Option.some.inj h
    rw [← h]
    rfl
  | a :: r, j, k + 1, e, h => by
    have h : r[k]? = some e := h
    show (hc_wf b cy (j + 1) r)[k]? = _
    rw [hc_wf_at b cy h, show j + 1 + k = j + (k + 1) by omega]
theorem hc_wf_key (b : Nat) (cy : Nat → ClassId) : ∀ {ws : List hc_E} {j k : Nat} {q : Nat × va_E}, (hc_wf b cy j ws)[k]? = some q → q.1 = b + (j + k) ∧ k < ws.length
  | [], _, _, _, h => by cases h
  | a :: r, j, 0, q, h => by
    have h := Option.some.inj h
    rw [← h]
    exact ⟨rfl, by rw [List.length_cons]; omega⟩
  | a :: r, j, k + 1, q, h => by
    have h : (hc_wf b cy (j + 1) r)[k]? = some q := h
    obtain ⟨h1, h2⟩ := hc_wf_key b cy h
    exact ⟨by rw [h1]; omega, by rw [List.length_cons]; omega⟩
theorem hc_wf_set (b : Nat) (cy : Nat → ClassId) : ∀ (ws : List hc_E) (j k : Nat) (e : hc_E), (hc_wf b cy j ws).set k (b + (j + k), hc_ent b cy e) = hc_wf b cy j (ws.set k e)
  | [], _, _, _ => rfl
  | a :: r, j, 0, e => rfl
  | a :: r, j, k + 1, e => by
    show (b + j, hc_ent b cy a) :: (hc_wf b cy (j + 1) r).set k (b + (j + (k + 1)), hc_ent b cy e) = (b + j, hc_ent b cy a) :: hc_wf b cy (j + 1) (r.set k e)
    rw [show j + (k + 1) = j + 1 + k by omega, hc_wf_set b cy r (j + 1) k e]
theorem hc_wf_app (b : Nat) (cy : Nat → ClassId) : ∀ (ws : List hc_E) (j : Nat) (e : hc_E), hc_wf b cy j ws ++ [(b + (j + ws.length), hc_ent b cy e)] = hc_wf b cy j (ws ++ [e])
  | [], _, _ => rfl
  | a :: r, j, e => by
    show (b + j, hc_ent b cy a) :: (hc_wf b cy (j + 1) r ++ [(b + (j + (r.length + 1)), hc_ent b cy e)]) = (b + j, hc_ent b cy a) :: hc_wf b cy (j + 1) (r ++ [e])
    rw [show j + (r.length + 1) = j + 1 + r.length by omega, hc_wf_app b cy r (j + 1) e]
theorem hc_wD (b : Nat) (cy : Nat → ClassId) (ws : List hc_E) : va_D (hq_AA b) (hc_w b cy ws) := by
  refine ⟨fun i j p q hp hq hpq => ?_, fun k q hk => ?_⟩
  · have h1 := (hc_wf_key b cy hp).1
    have h2 := (hc_wf_key b cy hq).1
    omega
  · show b ≤ q.1
    rw [(hc_wf_key b cy hk).1]
    omega
theorem hc_at (b : Nat) (cy : Nat → ClassId) {ws : List hc_E} {k : Nat} {e : hc_E} (h : ws[k]? = some e) : (hc_w b cy ws)[k]? = some (b + k, hc_ent b cy e) := by
  have := hc_wf_at b cy (j := 0) h
  rw [Nat.zero_add] at this
  exact this
theorem hc_set (b : Nat) (cy : Nat → ClassId) (ws : List hc_E) (k : Nat) (e : hc_E) : (hc_w b cy ws).set k (b + k, hc_ent b cy e) = hc_w b cy (ws.set k e) := by
  have := hc_wf_set b cy ws 0 k e
  rw [Nat.zero_add] at this
  exact this
theorem hc_app (b : Nat) (cy : Nat → ClassId) (ws : List hc_E) (e : hc_E) : hc_w b cy ws ++ [(b + ws.length, hc_ent b cy e)] = hc_w b cy (ws ++ [e]) := by
  have := hc_wf_app b cy ws 0 e
  rw [Nat.zero_add] at this
  exact this
section HCW
variable {p : Program} {l : Launch} {e : Env} {R : Room} {s : State} {m : MethodId} {args : Array Value} {below : List Frame} {meth : Method} {c : Code} {H : Heap} {locs : List Loc} {cells slots : Nat} {Q : State → Prop}
variable {D : va_G} {cy : Nat → ClassId} {b n0 S0 NC NS d : Nat} {M : hq_M} {ws : List hc_E} {pc : Nat} {la : Array Slot} {rest : List Value}
/-- the links among nest mates, the arrays of objects -/
def hc_N (s : State) : Prop := va_Nw (.methodLinkNest RX0 17 yX4_init RX6) s ∧ va_Nw (.methodLinkNest RX6 40 yX2_init RX6) s ∧ va_AO RX4 s ∧ va_AO RX0 s
def hc_X (M : hq_M) (d : Nat) (D : va_G) (cy : Nat → ClassId) (b n0 NC NS : Nat) (p : Program) (R : Room) (s : State) (m : MethodId) (args : Array Value) (c : Code) : Prop :=
  p.tables.exec = Jvm.exec ∧ c.code = M.2.1 ∧ c.maxLocals = M.2.2.1 ∧ s.vm.findClass M.1.cls = some m.cls ∧ (∀ w ∈ hq_ws, w.before args s = true) ∧ va_K D vwCl (hq_tys cy) s ∧ hc_N s ∧ s.heap.size ≤ b + n0 ∧ b ≤ s.heap.size ∧ NC ≤ R.cells ∧ NS ≤ R.slots ∧ 2 * d + 10 ≤ R.frames ∧ 80 * d + 200 ≤ R.locals
def hc_P (D : va_G) (cy : Nat → ClassId) (b n0 S0 : Nat) (s : State) (H : Heap) (locs : List Loc) (cells slots : Nat) (ws : List hc_E) : Prop :=
  va_P D vwCl (hc_w b cy ws) H ∧ va_S (hq_AA b) s.heap H locs ∧ cells + n0 = ws.length ∧ slots + S0 = hc_sz ws
/-- what the counted room tells of the heap's size -/
theorem hw_size {g : JFrame} (k : H.size ≤ s.heap.size + cells → W p l e R s m args below meth c H locs cells slots Q g) : W p l e R s m args below meth c H locs cells slots Q g := by
  intro T hT X
  have hs := X.same
  refine k ?_ T hT X
  rw [← hT]
  obtain ⟨h1, h2, h3, h4, h5, h6⟩ := hs
  exact h3
theorem hc_fresh {H1 : Heap} {q : Nat} {en : va_E} (hP : va_P D vwCl (hc_w b cy ws ++ [(q, en)]) H1) (hD : va_D (hq_AA b) (hc_w b cy ws ++ [(q, en)])) (hz : H1.size ≤ b + ws.length + 1) : q = b + ws.length := by
  have hl : (hc_w b cy ws).length = ws.length := by
    have : ∀ (ws : List hc_E) j, (hc_wf b cy j ws).length = ws.length := by
      intro ws
      induction ws with
      | nil => intro j; rfl
      | cons a r ih => intro j; exact congrArg (· + 1) (ih (j + 1))
    exact this ws 0
  have hq : (hc_w b cy ws ++ [(q, en)])[ws.length]? = some (q, en) := by
    rw [List.getElem?_append_right (by omega), hl, Nat.sub_self]
    rfl
  have h1 : q < H1.size := vx_lt hP hq
  have h2 : b ≤ q := hD.2 _ _ hq
  by_cases c9 : q < b + ws.length
  · obtain ⟨e9, he9⟩ : ∃ e9, ws[q - b]? = some e9 := ⟨ws[q - b]'(by omega), List.getElem?_eq_getElem (by omega)⟩
    have h3 := hc_at b cy he9
    have h4 : (hc_w b cy ws ++ [(q, en)])[q - b]? = some (b + (q - b), hc_ent b cy e9) := by
      rw [List.getElem?_append_left (by omega)]
      exact h3
    have h5 := hD.1 (q - b) ws.length _ _ h4 hq (by show b + (q - b) = q; omega)
    omega
  · omega
/-- a new object -/
theorem hc_new {own C : String} {T : u_T} {N ci index : Nat} (X : hc_X M d D cy b n0 NC NS p R s m args c) (P : hc_P D cy b n0 S0 s H locs cells slots ws) (hin : ∀ w ∈ u_ws C T N, w ∈ hq_ws) (ty : Nat → FieldType) (hty : ∀ k, k < N → parseFieldDescriptor (T k).2.2.1 = some (ty k)) (hown : M.1.cls = own) (hcl : Cond.classLink own index C ∈ hq_ws) (hinst : Cond.instantiable C N ∈ hq_ws) (hini : Cond.initialized C ∈ hq_ws)
    (hc : vwCl[ci]? = some (C, T, N)) {vs : List hc_V} (hvs : vs.length = N) (hfs : ∀ j, j < N → defaultValue (ty j) = vp_V (vs.map (hc_cv b)) j) (r1 : ws.length + 1 ≤ n0 + NC) (r2 : hc_sz ws + N ≤ S0 + NS) (hdg : decode M.2.1 pc = .ok (.new index, 3))
    (kk : ∀ (H1 : Heap), hc_P D cy b n0 S0 s H1 locs (cells + 1) (slots + N) (ws ++ [.inl (ci, vs)]) → W p l e R s m args below meth c H1 locs (cells + 1) (slots + N) Q (F0 m (pc + 3) la (.ref (b + ws.length) :: rest))) : W p l e R s m args below meth c H locs cells slots Q (F0 m pc la rest) := by
  obtain ⟨x1, x2, x3, x4, x5, x6, x7, x8, x9, x10, x11, x12, x13⟩ := X
  obtain ⟨P1, P2, P3, P4⟩ := P
  subst hown
  refine va_new (A := hq_AA b) (ci := ci) (fs := vs.map (hc_cv b)) x1 x2 x5 hin ty hty x4 (x5 _ hcl) (x5 _ hinst) (x5 _ hini) x6 P1 (hc_wD b cy ws) P2 (fun q hq => Nat.le_trans x9 hq) hc hfs (by omega) (by omega) hdg (fun q H1 hP1 hD1 hS1 => ?_)
  refine hw_size (fun hz => ?_)
  have eq := hc_fresh hP1 hD1 (by omega)
  subst eq
  have e9 : (hc_w b cy ws ++ [(b + ws.length, .inr (ci, vs.map (hc_cv b)))]) = hc_w b cy (ws ++ [.inl (ci, vs)]) := hc_app b cy ws (.inl (ci, vs))
  rw [e9] at hP1
  refine kk H1 ⟨hP1, hS1, by rw [List.length_append]; show cells + 1 + n0 = ws.length + 1; omega, ?_⟩
  rw [hc_sz_app]
  show slots + N + S0 = hc_sz ws + (vs.length + 0)
  omega
end HCW
