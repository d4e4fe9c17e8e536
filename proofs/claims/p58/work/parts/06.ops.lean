def hq_pi (st : List hq_V) (f : Int32 → List hq_V → Prop) : Prop := match st with
  | .inl (.int x) :: r => f x r
  | _ => False
theorem hq_pi_of {st : List hq_V} {f : Int32 → List hq_V → Prop} (h : hq_pi st f) : ∃ (x : Int32) (r : List hq_V), st = .inl (.int x) :: r ∧ f x r := by
  unfold hq_pi at h
  split at h
  · exact ⟨_, _, rfl, h⟩
  · exact h.elim
def hq_pl (st : List hq_V) (f : Int64 → List hq_V → Prop) : Prop := match st with
  | .inl (.long x) :: r => f x r
  | _ => False
theorem hq_pl_of {st : List hq_V} {f : Int64 → List hq_V → Prop} (h : hq_pl st f) : ∃ (x : Int64) (r : List hq_V), st = .inl (.long x) :: r ∧ f x r := by
  unfold hq_pl at h
  split at h
  · exact ⟨_, _, rfl, h⟩
  · exact h.elim
def hq_pf (st : List hq_V) (f : UInt32 → List hq_V → Prop) : Prop := match st with
  | .inl (.float x) :: r => f x r
  | _ => False
theorem hq_pf_of {st : List hq_V} {f : UInt32 → List hq_V → Prop} (h : hq_pf st f) : ∃ (x : UInt32) (r : List hq_V), st = .inl (.float x) :: r ∧ f x r := by
  unfold hq_pf at h
  split at h
  · exact ⟨_, _, rfl, h⟩
  · exact h.elim
def hq_pd (st : List hq_V) (f : UInt64 → List hq_V → Prop) : Prop := match st with
  | .inl (.double x) :: r => f x r
  | _ => False
theorem hq_pd_of {st : List hq_V} {f : UInt64 → List hq_V → Prop} (h : hq_pd st f) : ∃ (x : UInt64) (r : List hq_V), st = .inl (.double x) :: r ∧ f x r := by
  unfold hq_pd at h
  split at h
  · exact ⟨_, _, rfl, h⟩
  · exact h.elim
def hq_pii (st : List hq_V) (f : Int32 → Int32 → List hq_V → Prop) : Prop := match st with
  | .inl (.int y) :: .inl (.int x) :: r => f x y r
  | _ => False
theorem hq_pii_of {st : List hq_V} {f : Int32 → Int32 → List hq_V → Prop} (h : hq_pii st f) : ∃ (x : Int32) (y : Int32) (r : List hq_V), st = .inl (.int y) :: .inl (.int x) :: r ∧ f x y r := by
  unfold hq_pii at h
  split at h
  · exact ⟨_, _, _, rfl, h⟩
  · exact h.elim
def hq_pll (st : List hq_V) (f : Int64 → Int64 → List hq_V → Prop) : Prop := match st with
  | .inl (.long y) :: .inl (.long x) :: r => f x y r
  | _ => False
theorem hq_pll_of {st : List hq_V} {f : Int64 → Int64 → List hq_V → Prop} (h : hq_pll st f) : ∃ (x : Int64) (y : Int64) (r : List hq_V), st = .inl (.long y) :: .inl (.long x) :: r ∧ f x y r := by
  unfold hq_pll at h
  split at h
  · exact ⟨_, _, _, rfl, h⟩
  · exact h.elim
def hq_pli (st : List hq_V) (f : Int64 → Int32 → List hq_V → Prop) : Prop := match st with
  | .inl (.int y) :: .inl (.long x) :: r => f x y r
  | _ => False
theorem hq_pli_of {st : List hq_V} {f : Int64 → Int32 → List hq_V → Prop} (h : hq_pli st f) : ∃ (x : Int64) (y : Int32) (r : List hq_V), st = .inl (.int y) :: .inl (.long x) :: r ∧ f x y r := by
  unfold hq_pli at h
  split at h
  · exact ⟨_, _, _, rfl, h⟩
  · exact h.elim
def hq_pff (st : List hq_V) (f : UInt32 → UInt32 → List hq_V → Prop) : Prop := match st with
  | .inl (.float y) :: .inl (.float x) :: r => f x y r
  | _ => False
theorem hq_pff_of {st : List hq_V} {f : UInt32 → UInt32 → List hq_V → Prop} (h : hq_pff st f) : ∃ (x : UInt32) (y : UInt32) (r : List hq_V), st = .inl (.float y) :: .inl (.float x) :: r ∧ f x y r := by
  unfold hq_pff at h
  split at h
  · exact ⟨_, _, _, rfl, h⟩
  · exact h.elim
def hq_pdd (st : List hq_V) (f : UInt64 → UInt64 → List hq_V → Prop) : Prop := match st with
  | .inl (.double y) :: .inl (.double x) :: r => f x y r
  | _ => False
theorem hq_pdd_of {st : List hq_V} {f : UInt64 → UInt64 → List hq_V → Prop} (h : hq_pdd st f) : ∃ (x : UInt64) (y : UInt64) (r : List hq_V), st = .inl (.double y) :: .inl (.double x) :: r ∧ f x y r := by
  unfold hq_pdd at h
  split at h
  · exact ⟨_, _, _, rfl, h⟩
  · exact h.elim
def hq_piii (st : List hq_V) (f : Int32 → Int32 → Int32 → List hq_V → Prop) : Prop := match st with
  | .inl (.int z) :: .inl (.int y) :: .inl (.int x) :: r => f x y z r
  | _ => False
theorem hq_piii_of {st : List hq_V} {f : Int32 → Int32 → Int32 → List hq_V → Prop} (h : hq_piii st f) : ∃ (x : Int32) (y : Int32) (z : Int32) (r : List hq_V), st = .inl (.int z) :: .inl (.int y) :: .inl (.int x) :: r ∧ f x y z r := by
  unfold hq_piii at h
  split at h
  · exact ⟨_, _, _, _, rfl, h⟩
  · exact h.elim
def hq_pa (st : List hq_V) (f : Nat → Nat → List hq_V → Prop) : Prop := match st with
  | .inr q :: r => f q.1 q.2 r
  | _ => False
theorem hq_pa_of {st : List hq_V} {f : Nat → Nat → List hq_V → Prop} (h : hq_pa st f) : ∃ (k i : Nat) (r : List hq_V), st = .inr (k, i) :: r ∧ f k i r := by
  unfold hq_pa at h
  split at h
  · exact ⟨_, _, _, rfl, h⟩
  · exact h.elim
/-- the kind is the one that the code names -/
def hq_is (k kind : Nat) (P : Prop) : Prop := match Nat.beq k kind with
  | true => P
  | false => False
theorem hq_is_of {k kind : Nat} {P : Prop} (h : hq_is k kind P) : k = kind ∧ P := by
  unfold hq_is at h
  split at h
  next e => exact ⟨Nat.eq_of_beq_eq_true e, h⟩
  next => exact h.elim
def hq_nth (ls : hq_L) (i : Nat) : Option hq_V := match ls, i with
  | [], _ => none
  | v :: _, 0 => v
  | _ :: r, i + 1 => hq_nth r i
theorem hq_nth_of : ∀ {ls : hq_L} {i : Nat} {v : hq_V}, hq_nth ls i = some v → ls[i]? = some (some v)
  | [], _, _, h => by cases h
  | w :: _, 0, v, h => by
    have h : w = some v := h
    rw [h]; rfl
  | _ :: r, i + 1, v, h => by
    have h : hq_nth r i = some v := h
    rw [List.getElem?_cons_succ]
    exact hq_nth_of h
def hq_put (ls : hq_L) (i : Nat) (v : Option hq_V) : hq_L := match ls, i with
  | [], _ => []
  | _ :: r, 0 => v :: r
  | w :: r, i + 1 => w :: hq_put r i v
theorem hq_put_at : ∀ {ls : hq_L} {i k : Nat} {v w : Option hq_V}, (hq_put ls i v)[k]? = some w → (k = i ∧ w = v) ∨ (k ≠ i ∧ ls[k]? = some w)
  | [], _, _, _, _, h => by cases h
  | a :: r, 0, 0, v, w, h => by
    have h : some v = some w := h
    cases h
    exact Or.inl ⟨rfl, rfl⟩
  | a :: r, 0, k + 1, v, w, h => Or.inr ⟨by omega, h⟩
  | a :: r, i + 1, 0, v, w, h => Or.inr ⟨by omega, h⟩
  | a :: r, i + 1, k + 1, v, w, h => by
    have h : (hq_put r i v)[k]? = some w := h
    rcases hq_put_at h with ⟨h1, h2⟩ | ⟨h1, h2⟩
    · exact Or.inl ⟨by omega, h2⟩
    · exact Or.inr ⟨by omega, h2⟩
def hq_2 (v : hq_V) : Bool := match v with
  | .inl (.long _) => true
  | .inl (.double _) => true
  | _ => false
theorem hq_2_cat {b : Nat} {v : hq_V} (h : hq_2 v = false) : (hq_cv b v).category = 1 ∨ ∃ x, v = .inl x := by
  match v with
  | .inl x => exact Or.inr ⟨x, rfl⟩
  | .inr q => exact Or.inl rfl
/-- a store at i ends a long that begins at i - 1 -/
def hq_kill (ls : hq_L) (i : Nat) : hq_L := match i with
  | 0 => ls
  | j + 1 => match hq_nth ls j with
    | some v => match hq_2 v with
      | true => hq_put ls j none
      | false => ls
    | none => ls
def hq_st1 (ls : hq_L) (i : Nat) (v : hq_V) : hq_L := hq_put (hq_kill ls i) i (some v)
def hq_st2 (ls : hq_L) (i : Nat) (v : hq_V) : hq_L := hq_put (hq_put (hq_kill ls i) i (some v)) (i + 1) none
theorem hq_nth_none {v : hq_V} : ∀ (ls : hq_L) (i : Nat), ls[i]? = some (some v) → hq_nth ls i = some v := by
  intro ls
  induction ls with
  | nil => intro i h; cases h
  | cons w r ih =>
    intro i h
    cases i with
    | zero =>
      have h : some w = some (some v) := h
      cases h
      rfl
    | succ i => exact ih i h
theorem hq_kill_at {ls : hq_L} {i k : Nat} {v : hq_V} (h : (hq_kill ls i)[k]? = some (some v)) : ls[k]? = some (some v) ∧ ¬ (k + 1 = i ∧ hq_2 v = true) := by
  unfold hq_kill at h
  cases i with
  | zero => exact ⟨h, by omega⟩
  | succ j =>
    dsimp only at h
    cases hn : hq_nth ls j with
    | none =>
      rw [hn] at h
      refine ⟨h, ?_⟩
      rintro ⟨h1, -⟩
      have : k = j := by omega
      subst this
      rw [hq_nth_none _ _ h] at hn
      cases hn
    | some w =>
      rw [hn] at h
      dsimp only at h
      cases hw : hq_2 w with
      | false =>
        rw [hw] at h
        refine ⟨h, ?_⟩
        rintro ⟨h1, h2⟩
        have : k = j := by omega
        subst this
        rw [hq_nth_none _ _ h] at hn
        cases hn
        rw [hw] at h2
        cases h2
      | true =>
        rw [hw] at h
        rcases hq_put_at h with ⟨-, h2⟩ | ⟨h1, h2⟩
        · cases h2
        · exact ⟨h2, by omega⟩
/-- the locals that are known, as the kit lists them -/
def hq_fa (b : Nat) : Nat → hq_L → List (Nat × Value)
  | _, [] => []
  | i, none :: r => hq_fa b (i + 1) r
  | i, some v :: r => (i, hq_cv b v) :: hq_fa b (i + 1) r
theorem hq_fa_in (b : Nat) : ∀ (ls : hq_L) (i k : Nat) (v : hq_V), ls[k]? = some (some v) → (i + k, hq_cv b v) ∈ hq_fa b i ls
  | [], _, _, _, h => by cases h
  | none :: r, i, 0, v, h => by cases h
  | none :: r, i, k + 1, v, h => by
    have h1 := hq_fa_in b r (i + 1) k v h
    rw [show i + (k + 1) = i + 1 + k by omega]
    exact h1
  | some w :: r, i, 0, v, h => by
    have h : some (some w) = some (some v) := h
    cases h
    exact List.mem_cons_self
  | some w :: r, i, k + 1, v, h => by
    have h1 := hq_fa_in b r (i + 1) k v h
    rw [show i + (k + 1) = i + 1 + k by omega]
    exact List.mem_cons_of_mem _ h1
theorem hq_fa_of (b : Nat) : ∀ (ls : hq_L) (i : Nat) (q : Nat × Value), q ∈ hq_fa b i ls → ∃ (k : Nat) (v : hq_V), q = (i + k, hq_cv b v) ∧ ls[k]? = some (some v)
  | [], _, _, h => absurd h List.not_mem_nil
  | none :: r, i, q, h => by
    obtain ⟨k, v, h1, h2⟩ := hq_fa_of b r (i + 1) q h
    exact ⟨k + 1, v, by rw [h1, show i + 1 + k = i + (k + 1) by omega], h2⟩
  | some w :: r, i, q, h => by
    rcases List.mem_cons.mp h with rfl | h
    · exact ⟨0, w, rfl, rfl⟩
    · obtain ⟨k, v, h1, h2⟩ := hq_fa_of b r (i + 1) q h
      exact ⟨k + 1, v, by rw [h1, show i + 1 + k = i + (k + 1) by omega], h2⟩
theorem hq_LH_has {b : Nat} {ls : hq_L} {la : Array Slot} {n : Nat} (h : hq_LH b ls la n) : lv_has la n (hq_fa b 0 ls) := ⟨h.1, h.2.1, fun q hq => by
  obtain ⟨k, v, rfl, h2⟩ := hq_fa_of b ls 0 q hq
  rw [Nat.zero_add]
  exact h.2.2 k v h2⟩
theorem hq_cat2 {b : Nat} {v : hq_V} : (hq_cv b v).category = 2 → hq_2 v = true := by
  intro h
  match v, h with
  | .inl (.long _), _ => rfl
  | .inl (.double _), _ => rfl
  | .inl (.int _), h => cases h
  | .inl (.float _), h => cases h
  | .inl (.ref _), h => cases h
  | .inl .null, h => cases h
  | .inl (.retAddr _), h => cases h
  | .inr q, h => cases h
theorem hq_LH_1 {b : Nat} {ls : hq_L} {la' : Array Slot} {n i : Nat} {v : hq_V} (h' : lv_has la' n ((i, hq_cv b v) :: (hq_fa b 0 ls).filter (fun q => !(q.1 == i) && !(q.1 + 1 == i && q.2.category == 2)))) : hq_LH b (hq_st1 ls i v) la' n := by
  refine ⟨h'.1, h'.2.1, fun k w hk => ?_⟩
  rcases hq_put_at hk with ⟨rfl, h2⟩ | ⟨h1, h2⟩
  · cases h2
    exact h'.2.2 _ List.mem_cons_self
  · obtain ⟨h3, h4⟩ := hq_kill_at h2
    refine h'.2.2 (k, hq_cv b w) (List.mem_cons_of_mem _ (List.mem_filter.mpr ⟨by have := hq_fa_in b ls 0 k w h3; rwa [Nat.zero_add] at this, ?_⟩))
    simp only [Bool.and_eq_true, Bool.not_eq_true', beq_eq_false_iff_ne, ne_eq, Bool.and_eq_false_iff]
    refine ⟨h1, ?_⟩
    by_cases hc : k + 1 = i
    · refine Or.inr fun hz => h4 ⟨hc, hq_cat2 hz⟩
    · exact Or.inl hc
theorem hq_LH_2 {b : Nat} {ls : hq_L} {la' : Array Slot} {n i : Nat} {v : hq_V} (h' : lv_has la' n ((i, hq_cv b v) :: (hq_fa b 0 ls).filter (fun q => !(q.1 == i) && (!(q.1 == i + 1) && !(q.1 + 1 == i && q.2.category == 2))))) : hq_LH b (hq_st2 ls i v) la' n := by
  refine ⟨h'.1, h'.2.1, fun k w hk => ?_⟩
  rcases hq_put_at hk with ⟨-, h2⟩ | ⟨h0, hk⟩
  · cases h2
  rcases hq_put_at hk with ⟨rfl, h2⟩ | ⟨h1, h2⟩
  · cases h2
    exact h'.2.2 _ List.mem_cons_self
  · obtain ⟨h3, h4⟩ := hq_kill_at h2
    refine h'.2.2 (k, hq_cv b w) (List.mem_cons_of_mem _ (List.mem_filter.mpr ⟨by have := hq_fa_in b ls 0 k w h3; rwa [Nat.zero_add] at this, ?_⟩))
    simp only [Bool.and_eq_true, Bool.not_eq_true', beq_eq_false_iff_ne, ne_eq, Bool.and_eq_false_iff]
    refine ⟨h1, h0, ?_⟩
    by_cases hc : k + 1 = i
    · refine Or.inr fun hz => h4 ⟨hc, hq_cat2 hz⟩
    · exact Or.inl hc
theorem hq_okL_1 {ls : hq_L} {i : Nat} {v : hq_V} (h : hq_okL ls) (hv : hq_ok v) : hq_okL (hq_st1 ls i v) := by
  intro k w hk
  rcases hq_put_at hk with ⟨rfl, h2⟩ | ⟨h1, h2⟩
  · cases h2; exact hv
  · exact h k w (hq_kill_at h2).1
theorem hq_okL_2 {ls : hq_L} {i : Nat} {v : hq_V} (h : hq_okL ls) (hv : hq_ok v) : hq_okL (hq_st2 ls i v) := by
  intro k w hk
  rcases hq_put_at hk with ⟨-, h2⟩ | ⟨h0, hk⟩
  · cases h2
  rcases hq_put_at hk with ⟨rfl, h2⟩ | ⟨h1, h2⟩
  · cases h2; exact hv
  · exact h k w (hq_kill_at h2).1
theorem hq_ldcfw {p : Program} {l : Launch} {e : Env} {R : Room} {s : State} {m : MethodId} {args : Array Value} {below : List Frame} {meth : Method} {c : Code} {H : Heap} {locs : List Loc} {cells slots : Nat} {Q : State → Prop} {cc : ByteArray} {pc : Nat} {ls : Array Slot} {rest : List Value} (hexec : p.tables.exec = Jvm.exec) (hb : c.code = cc) {own : String} {index : Nat} {v : UInt32} (hown : s.vm.findClass own = some m.cls) (hconst : (Jvm.Cond.constantFloat own index v).before args s = true) (hdg : decode cc pc = .ok (.ldc_w index, 3)) (k : W p l e R s m args below meth c H locs cells slots Q (F0 m (pc + 3) ls (.float v :: rest))) : W p l e R s m args below meth c H locs cells slots Q (F0 m pc ls rest) := by
  intro T hT X
  obtain ⟨t, a, b⟩ := k T hT X
  refine ⟨t, ?_, b⟩
  obtain ⟨kk, cf, hk, hcf, hcp⟩ := Cond.constantFloat_spec hown hconst
  obtain ⟨k', hk', he⟩ := X.warmed.alike.2.2 _ _ hk
  have hdg' : decode c.code pc = .ok (.ldc_w index, 3) := by rw [hb]; exact hdg
  jvm_step X.here [hexec, hdg', ldc_w.wp_float (s := T) (f := F0 m pc ls rest) X.here.top hk' (by rw [he]; exact hcf) hcp]
  exact a
section HS
variable {G : hq_G} {M : hq_M} {d pc : Nat} {K K1 K2 : hq_C}
def hk_iadd (K : hq_C) : hq_C := fun ls st h => hq_pii st (fun x y r => K ls (.inl (.int (x + y)) :: r) h)
theorem hs_iadd (hd : decode M.2.1 pc = .ok (.iadd, 1)) (k : hq_S G M d (pc + 1) K) : hq_S G M d pc (hk_iadd K) := by
  intro ls st h hh
  obtain ⟨x, y, r, rfl, hh⟩ := hq_pii_of hh
  intro p l e R s m args below meth c D cy b H locs la cells slots Q C g hP hS hL hst hls
  exact lv_iadd C.1 C.2.1 hd (k _ _ _ hh D cy b H locs la cells slots Q C g hP hS hL ⟨trivial, hst.2.2⟩ hls)
def hk_isub (K : hq_C) : hq_C := fun ls st h => hq_pii st (fun x y r => K ls (.inl (.int (x - y)) :: r) h)
theorem hs_isub (hd : decode M.2.1 pc = .ok (.isub, 1)) (k : hq_S G M d (pc + 1) K) : hq_S G M d pc (hk_isub K) := by
  intro ls st h hh
  obtain ⟨x, y, r, rfl, hh⟩ := hq_pii_of hh
  intro p l e R s m args below meth c D cy b H locs la cells slots Q C g hP hS hL hst hls
  exact lv_isub C.1 C.2.1 hd (k _ _ _ hh D cy b H locs la cells slots Q C g hP hS hL ⟨trivial, hst.2.2⟩ hls)
def hk_imul (K : hq_C) : hq_C := fun ls st h => hq_pii st (fun x y r => K ls (.inl (.int (x * y)) :: r) h)
theorem hs_imul (hd : decode M.2.1 pc = .ok (.imul, 1)) (k : hq_S G M d (pc + 1) K) : hq_S G M d pc (hk_imul K) := by
  intro ls st h hh
  obtain ⟨x, y, r, rfl, hh⟩ := hq_pii_of hh
  intro p l e R s m args below meth c D cy b H locs la cells slots Q C g hP hS hL hst hls
  exact lv_imul C.1 C.2.1 hd (k _ _ _ hh D cy b H locs la cells slots Q C g hP hS hL ⟨trivial, hst.2.2⟩ hls)
def hk_iand (K : hq_C) : hq_C := fun ls st h => hq_pii st (fun x y r => K ls (.inl (.int (x &&& y)) :: r) h)
theorem hs_iand (hd : decode M.2.1 pc = .ok (.iand, 1)) (k : hq_S G M d (pc + 1) K) : hq_S G M d pc (hk_iand K) := by
  intro ls st h hh
  obtain ⟨x, y, r, rfl, hh⟩ := hq_pii_of hh
  intro p l e R s m args below meth c D cy b H locs la cells slots Q C g hP hS hL hst hls
  exact lv_iand C.1 C.2.1 hd (k _ _ _ hh D cy b H locs la cells slots Q C g hP hS hL ⟨trivial, hst.2.2⟩ hls)
def hk_ior (K : hq_C) : hq_C := fun ls st h => hq_pii st (fun x y r => K ls (.inl (.int (x ||| y)) :: r) h)
theorem hs_ior (hd : decode M.2.1 pc = .ok (.ior, 1)) (k : hq_S G M d (pc + 1) K) : hq_S G M d pc (hk_ior K) := by
  intro ls st h hh
  obtain ⟨x, y, r, rfl, hh⟩ := hq_pii_of hh
  intro p l e R s m args below meth c D cy b H locs la cells slots Q C g hP hS hL hst hls
  exact lv_ior C.1 C.2.1 hd (k _ _ _ hh D cy b H locs la cells slots Q C g hP hS hL ⟨trivial, hst.2.2⟩ hls)
def hk_ixor (K : hq_C) : hq_C := fun ls st h => hq_pii st (fun x y r => K ls (.inl (.int (x ^^^ y)) :: r) h)
theorem hs_ixor (hd : decode M.2.1 pc = .ok (.ixor, 1)) (k : hq_S G M d (pc + 1) K) : hq_S G M d pc (hk_ixor K) := by
  intro ls st h hh
  obtain ⟨x, y, r, rfl, hh⟩ := hq_pii_of hh
  intro p l e R s m args below meth c D cy b H locs la cells slots Q C g hP hS hL hst hls
  exact lv_ixor C.1 C.2.1 hd (k _ _ _ hh D cy b H locs la cells slots Q C g hP hS hL ⟨trivial, hst.2.2⟩ hls)
def hk_ishl (K : hq_C) : hq_C := fun ls st h => hq_pii st (fun x y r => K ls (.inl (.int (x <<< (y &&& 31))) :: r) h)
theorem hs_ishl (hd : decode M.2.1 pc = .ok (.ishl, 1)) (k : hq_S G M d (pc + 1) K) : hq_S G M d pc (hk_ishl K) := by
  intro ls st h hh
  obtain ⟨x, y, r, rfl, hh⟩ := hq_pii_of hh
  intro p l e R s m args below meth c D cy b H locs la cells slots Q C g hP hS hL hst hls
  exact lv_ishl C.1 C.2.1 hd (k _ _ _ hh D cy b H locs la cells slots Q C g hP hS hL ⟨trivial, hst.2.2⟩ hls)
def hk_ishr (K : hq_C) : hq_C := fun ls st h => hq_pii st (fun x y r => K ls (.inl (.int (x >>> (y &&& 31))) :: r) h)
theorem hs_ishr (hd : decode M.2.1 pc = .ok (.ishr, 1)) (k : hq_S G M d (pc + 1) K) : hq_S G M d pc (hk_ishr K) := by
  intro ls st h hh
  obtain ⟨x, y, r, rfl, hh⟩ := hq_pii_of hh
  intro p l e R s m args below meth c D cy b H locs la cells slots Q C g hP hS hL hst hls
  exact lv_ishr C.1 C.2.1 hd (k _ _ _ hh D cy b H locs la cells slots Q C g hP hS hL ⟨trivial, hst.2.2⟩ hls)
def hk_iushr (K : hq_C) : hq_C := fun ls st h => hq_pii st (fun x y r => K ls (.inl (.int (x.toUInt32 >>> (y.toUInt32 &&& Int32.toUInt32 31)).toInt32) :: r) h)
theorem hs_iushr (hd : decode M.2.1 pc = .ok (.iushr, 1)) (k : hq_S G M d (pc + 1) K) : hq_S G M d pc (hk_iushr K) := by
  intro ls st h hh
  obtain ⟨x, y, r, rfl, hh⟩ := hq_pii_of hh
  intro p l e R s m args below meth c D cy b H locs la cells slots Q C g hP hS hL hst hls
  exact lv_iushr C.1 C.2.1 hd rfl (k _ _ _ hh D cy b H locs la cells slots Q C g hP hS hL ⟨trivial, hst.2.2⟩ hls)
def hk_idiv (K : hq_C) : hq_C := fun ls st h => hq_pii st (fun x y r => (¬ y = 0) ∧ K ls (.inl (.int (x / y)) :: r) h)
theorem hs_idiv (hd : decode M.2.1 pc = .ok (.idiv, 1)) (k : hq_S G M d (pc + 1) K) : hq_S G M d pc (hk_idiv K) := by
  intro ls st h hh
  obtain ⟨x, y, r, rfl, hh⟩ := hq_pii_of hh
  intro p l e R s m args below meth c D cy b H locs la cells slots Q C g hP hS hL hst hls
  obtain ⟨hc, hh⟩ := hh
  exact lv_idiv C.1 C.2.1 hd hc (k _ _ _ hh D cy b H locs la cells slots Q C g hP hS hL ⟨trivial, hst.2.2⟩ hls)
def hk_irem (K : hq_C) : hq_C := fun ls st h => hq_pii st (fun x y r => (¬ y = 0) ∧ K ls (.inl (.int (x - x / y * y)) :: r) h)
theorem hs_irem (hd : decode M.2.1 pc = .ok (.irem, 1)) (k : hq_S G M d (pc + 1) K) : hq_S G M d pc (hk_irem K) := by
  intro ls st h hh
  obtain ⟨x, y, r, rfl, hh⟩ := hq_pii_of hh
  intro p l e R s m args below meth c D cy b H locs la cells slots Q C g hP hS hL hst hls
  obtain ⟨hc, hh⟩ := hh
  exact lv_irem C.1 C.2.1 hd hc (k _ _ _ hh D cy b H locs la cells slots Q C g hP hS hL ⟨trivial, hst.2.2⟩ hls)
def hk_ladd (K : hq_C) : hq_C := fun ls st h => hq_pll st (fun x y r => K ls (.inl (.long (x + y)) :: r) h)
theorem hs_ladd (hd : decode M.2.1 pc = .ok (.ladd, 1)) (k : hq_S G M d (pc + 1) K) : hq_S G M d pc (hk_ladd K) := by
  intro ls st h hh
  obtain ⟨x, y, r, rfl, hh⟩ := hq_pll_of hh
  intro p l e R s m args below meth c D cy b H locs la cells slots Q C g hP hS hL hst hls
  exact lv_ladd C.1 C.2.1 hd (k _ _ _ hh D cy b H locs la cells slots Q C g hP hS hL ⟨trivial, hst.2.2⟩ hls)
def hk_lsub (K : hq_C) : hq_C := fun ls st h => hq_pll st (fun x y r => K ls (.inl (.long (x - y)) :: r) h)
theorem hs_lsub (hd : decode M.2.1 pc = .ok (.lsub, 1)) (k : hq_S G M d (pc + 1) K) : hq_S G M d pc (hk_lsub K) := by
  intro ls st h hh
  obtain ⟨x, y, r, rfl, hh⟩ := hq_pll_of hh
  intro p l e R s m args below meth c D cy b H locs la cells slots Q C g hP hS hL hst hls
  exact lv_lsub C.1 C.2.1 hd (k _ _ _ hh D cy b H locs la cells slots Q C g hP hS hL ⟨trivial, hst.2.2⟩ hls)
def hk_lmul (K : hq_C) : hq_C := fun ls st h => hq_pll st (fun x y r => K ls (.inl (.long (x * y)) :: r) h)
theorem hs_lmul (hd : decode M.2.1 pc = .ok (.lmul, 1)) (k : hq_S G M d (pc + 1) K) : hq_S G M d pc (hk_lmul K) := by
  intro ls st h hh
  obtain ⟨x, y, r, rfl, hh⟩ := hq_pll_of hh
  intro p l e R s m args below meth c D cy b H locs la cells slots Q C g hP hS hL hst hls
  exact lv_lmul C.1 C.2.1 hd (k _ _ _ hh D cy b H locs la cells slots Q C g hP hS hL ⟨trivial, hst.2.2⟩ hls)
def hk_land (K : hq_C) : hq_C := fun ls st h => hq_pll st (fun x y r => K ls (.inl (.long (x &&& y)) :: r) h)
theorem hs_land (hd : decode M.2.1 pc = .ok (.land, 1)) (k : hq_S G M d (pc + 1) K) : hq_S G M d pc (hk_land K) := by
  intro ls st h hh
  obtain ⟨x, y, r, rfl, hh⟩ := hq_pll_of hh
  intro p l e R s m args below meth c D cy b H locs la cells slots Q C g hP hS hL hst hls
  exact lv_land C.1 C.2.1 hd (k _ _ _ hh D cy b H locs la cells slots Q C g hP hS hL ⟨trivial, hst.2.2⟩ hls)
def hk_lor (K : hq_C) : hq_C := fun ls st h => hq_pll st (fun x y r => K ls (.inl (.long (x ||| y)) :: r) h)
theorem hs_lor (hd : decode M.2.1 pc = .ok (.lor, 1)) (k : hq_S G M d (pc + 1) K) : hq_S G M d pc (hk_lor K) := by
  intro ls st h hh
  obtain ⟨x, y, r, rfl, hh⟩ := hq_pll_of hh
  intro p l e R s m args below meth c D cy b H locs la cells slots Q C g hP hS hL hst hls
  exact lv_lor C.1 C.2.1 hd (k _ _ _ hh D cy b H locs la cells slots Q C g hP hS hL ⟨trivial, hst.2.2⟩ hls)
def hk_lxor (K : hq_C) : hq_C := fun ls st h => hq_pll st (fun x y r => K ls (.inl (.long (x ^^^ y)) :: r) h)
theorem hs_lxor (hd : decode M.2.1 pc = .ok (.lxor, 1)) (k : hq_S G M d (pc + 1) K) : hq_S G M d pc (hk_lxor K) := by
  intro ls st h hh
  obtain ⟨x, y, r, rfl, hh⟩ := hq_pll_of hh
  intro p l e R s m args below meth c D cy b H locs la cells slots Q C g hP hS hL hst hls
  exact lv_lxor C.1 C.2.1 hd (k _ _ _ hh D cy b H locs la cells slots Q C g hP hS hL ⟨trivial, hst.2.2⟩ hls)
def hk_ldiv (K : hq_C) : hq_C := fun ls st h => hq_pll st (fun x y r => (¬ y = 0) ∧ K ls (.inl (.long (x / y)) :: r) h)
theorem hs_ldiv (hd : decode M.2.1 pc = .ok (.ldiv, 1)) (k : hq_S G M d (pc + 1) K) : hq_S G M d pc (hk_ldiv K) := by
  intro ls st h hh
  obtain ⟨x, y, r, rfl, hh⟩ := hq_pll_of hh
  intro p l e R s m args below meth c D cy b H locs la cells slots Q C g hP hS hL hst hls
  obtain ⟨hc, hh⟩ := hh
  exact lv_ldiv C.1 C.2.1 hd hc (k _ _ _ hh D cy b H locs la cells slots Q C g hP hS hL ⟨trivial, hst.2.2⟩ hls)
def hk_lrem (K : hq_C) : hq_C := fun ls st h => hq_pll st (fun x y r => (¬ y = 0) ∧ K ls (.inl (.long (x - x / y * y)) :: r) h)
theorem hs_lrem (hd : decode M.2.1 pc = .ok (.lrem, 1)) (k : hq_S G M d (pc + 1) K) : hq_S G M d pc (hk_lrem K) := by
  intro ls st h hh
  obtain ⟨x, y, r, rfl, hh⟩ := hq_pll_of hh
  intro p l e R s m args below meth c D cy b H locs la cells slots Q C g hP hS hL hst hls
  obtain ⟨hc, hh⟩ := hh
  exact lv_lrem C.1 C.2.1 hd hc (k _ _ _ hh D cy b H locs la cells slots Q C g hP hS hL ⟨trivial, hst.2.2⟩ hls)
def hk_lshl (K : hq_C) : hq_C := fun ls st h => hq_pli st (fun x y r => K ls (.inl (.long (x <<< (y.toInt64 &&& 63))) :: r) h)
theorem hs_lshl (hd : decode M.2.1 pc = .ok (.lshl, 1)) (k : hq_S G M d (pc + 1) K) : hq_S G M d pc (hk_lshl K) := by
  intro ls st h hh
  obtain ⟨x, y, r, rfl, hh⟩ := hq_pli_of hh
  intro p l e R s m args below meth c D cy b H locs la cells slots Q C g hP hS hL hst hls
  exact lv_lshl C.1 C.2.1 hd rfl (k _ _ _ hh D cy b H locs la cells slots Q C g hP hS hL ⟨trivial, hst.2.2⟩ hls)
def hk_lushr (K : hq_C) : hq_C := fun ls st h => hq_pli st (fun x y r => K ls (.inl (.long (x.toUInt64 >>> (y.toInt64.toUInt64 &&& Int64.toUInt64 63)).toInt64) :: r) h)
theorem hs_lushr (hd : decode M.2.1 pc = .ok (.lushr, 1)) (k : hq_S G M d (pc + 1) K) : hq_S G M d pc (hk_lushr K) := by
  intro ls st h hh
  obtain ⟨x, y, r, rfl, hh⟩ := hq_pli_of hh
  intro p l e R s m args below meth c D cy b H locs la cells slots Q C g hP hS hL hst hls
  exact lv_lushr C.1 C.2.1 hd rfl (k _ _ _ hh D cy b H locs la cells slots Q C g hP hS hL ⟨trivial, hst.2.2⟩ hls)
def hk_lcmp (K : hq_C) : hq_C := fun ls st h => hq_pll st (fun x y r => K ls (.inl (.int (lg_cmp x y)) :: r) h)
theorem hs_lcmp (hd : decode M.2.1 pc = .ok (.lcmp, 1)) (k : hq_S G M d (pc + 1) K) : hq_S G M d pc (hk_lcmp K) := by
  intro ls st h hh
  obtain ⟨x, y, r, rfl, hh⟩ := hq_pll_of hh
  intro p l e R s m args below meth c D cy b H locs la cells slots Q C g hP hS hL hst hls
  exact W.lcmp C.1 C.2.1 hd (k _ _ _ hh D cy b H locs la cells slots Q C g hP hS hL ⟨trivial, hst.2.2⟩ hls)
def hk_i2l (K : hq_C) : hq_C := fun ls st h => hq_pi st (fun x r => K ls (.inl (.long x.toInt64) :: r) h)
theorem hs_i2l (hd : decode M.2.1 pc = .ok (.i2l, 1)) (k : hq_S G M d (pc + 1) K) : hq_S G M d pc (hk_i2l K) := by
  intro ls st h hh
  obtain ⟨x, r, rfl, hh⟩ := hq_pi_of hh
  intro p l e R s m args below meth c D cy b H locs la cells slots Q C g hP hS hL hst hls
  exact lv_i2l C.1 C.2.1 hd rfl (k _ _ _ hh D cy b H locs la cells slots Q C g hP hS hL ⟨trivial, hst.2⟩ hls)
def hk_l2i (K : hq_C) : hq_C := fun ls st h => hq_pl st (fun x r => K ls (.inl (.int x.toInt32) :: r) h)
theorem hs_l2i (hd : decode M.2.1 pc = .ok (.l2i, 1)) (k : hq_S G M d (pc + 1) K) : hq_S G M d pc (hk_l2i K) := by
  intro ls st h hh
  obtain ⟨x, r, rfl, hh⟩ := hq_pl_of hh
  intro p l e R s m args below meth c D cy b H locs la cells slots Q C g hP hS hL hst hls
  exact lv_l2i C.1 C.2.1 hd rfl (k _ _ _ hh D cy b H locs la cells slots Q C g hP hS hL ⟨trivial, hst.2⟩ hls)
def hk_i2c (K : hq_C) : hq_C := fun ls st h => hq_pi st (fun x r => K ls (.inl (.int (x.toUInt32 % 65536).toInt32) :: r) h)
theorem hs_i2c (hd : decode M.2.1 pc = .ok (.i2c, 1)) (k : hq_S G M d (pc + 1) K) : hq_S G M d pc (hk_i2c K) := by
  intro ls st h hh
  obtain ⟨x, r, rfl, hh⟩ := hq_pi_of hh
  intro p l e R s m args below meth c D cy b H locs la cells slots Q C g hP hS hL hst hls
  exact lv_i2c C.1 C.2.1 hd rfl (k _ _ _ hh D cy b H locs la cells slots Q C g hP hS hL ⟨trivial, hst.2⟩ hls)
def hk_i2f (K : hq_C) : hq_C := fun ls st h => hq_pi st (fun x r => K ls (.inl (.float (FP.i2f x)) :: r) h)
theorem hs_i2f (hd : decode M.2.1 pc = .ok (.i2f, 1)) (k : hq_S G M d (pc + 1) K) : hq_S G M d pc (hk_i2f K) := by
  intro ls st h hh
  obtain ⟨x, r, rfl, hh⟩ := hq_pi_of hh
  intro p l e R s m args below meth c D cy b H locs la cells slots Q C g hP hS hL hst hls
  exact lv_i2f C.1 C.2.1 hd (k _ _ _ hh D cy b H locs la cells slots Q C g hP hS hL ⟨trivial, hst.2⟩ hls)
def hk_i2d (K : hq_C) : hq_C := fun ls st h => hq_pi st (fun x r => K ls (.inl (.double (FP.i2d x)) :: r) h)
theorem hs_i2d (hd : decode M.2.1 pc = .ok (.i2d, 1)) (k : hq_S G M d (pc + 1) K) : hq_S G M d pc (hk_i2d K) := by
  intro ls st h hh
  obtain ⟨x, r, rfl, hh⟩ := hq_pi_of hh
  intro p l e R s m args below meth c D cy b H locs la cells slots Q C g hP hS hL hst hls
  exact lv_i2d C.1 C.2.1 hd (k _ _ _ hh D cy b H locs la cells slots Q C g hP hS hL ⟨trivial, hst.2⟩ hls)
def hk_d2l (K : hq_C) : hq_C := fun ls st h => hq_pd st (fun x r => K ls (.inl (.long (FP.d2l x)) :: r) h)
theorem hs_d2l (hd : decode M.2.1 pc = .ok (.d2l, 1)) (k : hq_S G M d (pc + 1) K) : hq_S G M d pc (hk_d2l K) := by
  intro ls st h hh
  obtain ⟨x, r, rfl, hh⟩ := hq_pd_of hh
  intro p l e R s m args below meth c D cy b H locs la cells slots Q C g hP hS hL hst hls
  exact lv_d2l C.1 C.2.1 hd (k _ _ _ hh D cy b H locs la cells slots Q C g hP hS hL ⟨trivial, hst.2⟩ hls)
def hk_f2i (K : hq_C) : hq_C := fun ls st h => hq_pf st (fun x r => K ls (.inl (.int (FP.f2i x)) :: r) h)
theorem hs_f2i (hd : decode M.2.1 pc = .ok (.f2i, 1)) (k : hq_S G M d (pc + 1) K) : hq_S G M d pc (hk_f2i K) := by
  intro ls st h hh
  obtain ⟨x, r, rfl, hh⟩ := hq_pf_of hh
  intro p l e R s m args below meth c D cy b H locs la cells slots Q C g hP hS hL hst hls
  exact lv_f2i C.1 C.2.1 hd (k _ _ _ hh D cy b H locs la cells slots Q C g hP hS hL ⟨trivial, hst.2⟩ hls)
def hk_f2d (K : hq_C) : hq_C := fun ls st h => hq_pf st (fun x r => (vf_n64 (FP.f2d x)) ∧ K ls (.inl (.double (FP.f2d x)) :: r) h)
theorem hs_f2d (hd : decode M.2.1 pc = .ok (.f2d, 1)) (k : hq_S G M d (pc + 1) K) : hq_S G M d pc (hk_f2d K) := by
  intro ls st h hh
  obtain ⟨x, r, rfl, hh⟩ := hq_pf_of hh
  intro p l e R s m args below meth c D cy b H locs la cells slots Q C g hP hS hL hst hls
  obtain ⟨hc, hh⟩ := hh
  exact lv_f2d C.1 C.2.1 hd hc (k _ _ _ hh D cy b H locs la cells slots Q C g hP hS hL ⟨trivial, hst.2⟩ hls)
def hk_fdiv (K : hq_C) : hq_C := fun ls st h => hq_pff st (fun x y r => (vf_n32 (FP.fdiv x y)) ∧ K ls (.inl (.float (FP.fdiv x y)) :: r) h)
theorem hs_fdiv (hd : decode M.2.1 pc = .ok (.fdiv, 1)) (k : hq_S G M d (pc + 1) K) : hq_S G M d pc (hk_fdiv K) := by
  intro ls st h hh
  obtain ⟨x, y, r, rfl, hh⟩ := hq_pff_of hh
  intro p l e R s m args below meth c D cy b H locs la cells slots Q C g hP hS hL hst hls
  obtain ⟨hc, hh⟩ := hh
  exact lv_fdiv C.1 C.2.1 hd hc (k _ _ _ hh D cy b H locs la cells slots Q C g hP hS hL ⟨trivial, hst.2.2⟩ hls)
def hk_fmul (K : hq_C) : hq_C := fun ls st h => hq_pff st (fun x y r => (vf_n32 (FP.fmul x y)) ∧ K ls (.inl (.float (FP.fmul x y)) :: r) h)
theorem hs_fmul (hd : decode M.2.1 pc = .ok (.fmul, 1)) (k : hq_S G M d (pc + 1) K) : hq_S G M d pc (hk_fmul K) := by
  intro ls st h hh
  obtain ⟨x, y, r, rfl, hh⟩ := hq_pff_of hh
  intro p l e R s m args below meth c D cy b H locs la cells slots Q C g hP hS hL hst hls
  obtain ⟨hc, hh⟩ := hh
  exact lv_fmul C.1 C.2.1 hd hc (k _ _ _ hh D cy b H locs la cells slots Q C g hP hS hL ⟨trivial, hst.2.2⟩ hls)
def hk_fsub (K : hq_C) : hq_C := fun ls st h => hq_pff st (fun x y r => (vf_n32 (FP.fsub x y)) ∧ K ls (.inl (.float (FP.fsub x y)) :: r) h)
theorem hs_fsub (hd : decode M.2.1 pc = .ok (.fsub, 1)) (k : hq_S G M d (pc + 1) K) : hq_S G M d pc (hk_fsub K) := by
  intro ls st h hh
  obtain ⟨x, y, r, rfl, hh⟩ := hq_pff_of hh
  intro p l e R s m args below meth c D cy b H locs la cells slots Q C g hP hS hL hst hls
  obtain ⟨hc, hh⟩ := hh
  exact lv_fsub C.1 C.2.1 hd hc (k _ _ _ hh D cy b H locs la cells slots Q C g hP hS hL ⟨trivial, hst.2.2⟩ hls)
def hk_ddiv (K : hq_C) : hq_C := fun ls st h => hq_pdd st (fun x y r => (vf_n64 (FP.ddiv x y)) ∧ K ls (.inl (.double (FP.ddiv x y)) :: r) h)
theorem hs_ddiv (hd : decode M.2.1 pc = .ok (.ddiv, 1)) (k : hq_S G M d (pc + 1) K) : hq_S G M d pc (hk_ddiv K) := by
  intro ls st h hh
  obtain ⟨x, y, r, rfl, hh⟩ := hq_pdd_of hh
  intro p l e R s m args below meth c D cy b H locs la cells slots Q C g hP hS hL hst hls
  obtain ⟨hc, hh⟩ := hh
  exact lv_ddiv C.1 C.2.1 hd hc (k _ _ _ hh D cy b H locs la cells slots Q C g hP hS hL ⟨trivial, hst.2.2⟩ hls)
def hk_dmul (K : hq_C) : hq_C := fun ls st h => hq_pdd st (fun x y r => (vf_n64 (FP.dmul x y)) ∧ K ls (.inl (.double (FP.dmul x y)) :: r) h)
theorem hs_dmul (hd : decode M.2.1 pc = .ok (.dmul, 1)) (k : hq_S G M d (pc + 1) K) : hq_S G M d pc (hk_dmul K) := by
  intro ls st h hh
  obtain ⟨x, y, r, rfl, hh⟩ := hq_pdd_of hh
  intro p l e R s m args below meth c D cy b H locs la cells slots Q C g hP hS hL hst hls
  obtain ⟨hc, hh⟩ := hh
  exact lv_dmul C.1 C.2.1 hd hc (k _ _ _ hh D cy b H locs la cells slots Q C g hP hS hL ⟨trivial, hst.2.2⟩ hls)
def hk_dsub (K : hq_C) : hq_C := fun ls st h => hq_pdd st (fun x y r => (vf_n64 (FP.dsub x y)) ∧ K ls (.inl (.double (FP.dsub x y)) :: r) h)
theorem hs_dsub (hd : decode M.2.1 pc = .ok (.dsub, 1)) (k : hq_S G M d (pc + 1) K) : hq_S G M d pc (hk_dsub K) := by
  intro ls st h hh
  obtain ⟨x, y, r, rfl, hh⟩ := hq_pdd_of hh
  intro p l e R s m args below meth c D cy b H locs la cells slots Q C g hP hS hL hst hls
  obtain ⟨hc, hh⟩ := hh
  exact lv_dsub C.1 C.2.1 hd hc (k _ _ _ hh D cy b H locs la cells slots Q C g hP hS hL ⟨trivial, hst.2.2⟩ hls)
def hk_fcmp (op : CmpOp) (K : hq_C) : hq_C := fun ls st h => hq_pff st (fun x y r => K ls (.inl (.int (Op.cmpValue (FP.fcmp x y) op)) :: r) h)
theorem hs_fcmp {op : CmpOp} (hd : decode M.2.1 pc = .ok (.fcmp op, 1)) (k : hq_S G M d (pc + 1) K) : hq_S G M d pc (hk_fcmp op K) := by
  intro ls st h hh
  obtain ⟨x, y, r, rfl, hh⟩ := hq_pff_of hh
  intro p l e R s m args below meth c D cy b H locs la cells slots Q C g hP hS hL hst hls
  exact lv_fcmp C.1 C.2.1 hd (k _ _ _ hh D cy b H locs la cells slots Q C g hP hS hL ⟨trivial, hst.2.2⟩ hls)
def hk_dcmp (op : CmpOp) (K : hq_C) : hq_C := fun ls st h => hq_pdd st (fun x y r => K ls (.inl (.int (Op.cmpValue (FP.dcmp x y) op)) :: r) h)
theorem hs_dcmp {op : CmpOp} (hd : decode M.2.1 pc = .ok (.dcmp op, 1)) (k : hq_S G M d (pc + 1) K) : hq_S G M d pc (hk_dcmp op K) := by
  intro ls st h hh
  obtain ⟨x, y, r, rfl, hh⟩ := hq_pdd_of hh
  intro p l e R s m args below meth c D cy b H locs la cells slots Q C g hP hS hL hst hls
  exact lv_dcmp C.1 C.2.1 hd (k _ _ _ hh D cy b H locs la cells slots Q C g hP hS hL ⟨trivial, hst.2.2⟩ hls)
def hk_iconst (v : Int32) (K : hq_C) : hq_C := fun ls st h => K ls (.inl (.int v) :: st) h
theorem hs_iconst {n : Int} {v : Int32} (hd : decode M.2.1 pc = .ok (.iconst n, 1)) (hv : Int32.ofInt n = v) (k : hq_S G M d (pc + 1) K) : hq_S G M d pc (hk_iconst v K) := by
  intro ls st h hh
  intro p l e R s m args below meth c D cy b H locs la cells slots Q C g hP hS hL hst hls
  exact lv_iconst C.1 C.2.1 hd hv (k _ _ _ hh D cy b H locs la cells slots Q C g hP hS hL ⟨trivial, hst⟩ hls)
def hk_bipush (v : Int32) (K : hq_C) : hq_C := fun ls st h => K ls (.inl (.int v) :: st) h
theorem hs_bipush {n : Int} {v : Int32} (hd : decode M.2.1 pc = .ok (.bipush n, 2)) (hv : (Int8.ofInt n).toInt32 = v) (k : hq_S G M d (pc + 2) K) : hq_S G M d pc (hk_bipush v K) := by
  intro ls st h hh
  intro p l e R s m args below meth c D cy b H locs la cells slots Q C g hP hS hL hst hls
  exact lv_bipush C.1 C.2.1 hd hv (k _ _ _ hh D cy b H locs la cells slots Q C g hP hS hL ⟨trivial, hst⟩ hls)
def hk_sipush (v : Int32) (K : hq_C) : hq_C := fun ls st h => K ls (.inl (.int v) :: st) h
theorem hs_sipush {n : Int} {v : Int32} (hd : decode M.2.1 pc = .ok (.sipush n, 3)) (hv : (Int16.ofInt n).toInt32 = v) (k : hq_S G M d (pc + 3) K) : hq_S G M d pc (hk_sipush v K) := by
  intro ls st h hh
  intro p l e R s m args below meth c D cy b H locs la cells slots Q C g hP hS hL hst hls
  exact lv_sipush C.1 C.2.1 hd hv (k _ _ _ hh D cy b H locs la cells slots Q C g hP hS hL ⟨trivial, hst⟩ hls)
def hk_lconst (v : Int64) (K : hq_C) : hq_C := fun ls st h => K ls (.inl (.long v) :: st) h
theorem hs_lconst {n : Fin 2} {v : Int64} (hd : decode M.2.1 pc = .ok (.lconst n, 1)) (hv : Int64.ofNat (n : Nat) = v) (k : hq_S G M d (pc + 1) K) : hq_S G M d pc (hk_lconst v K) := by
  intro ls st h hh
  intro p l e R s m args below meth c D cy b H locs la cells slots Q C g hP hS hL hst hls
  exact lv_lconst C.1 C.2.1 hd hv (k _ _ _ hh D cy b H locs la cells slots Q C g hP hS hL ⟨trivial, hst⟩ hls)
def hk_fconst0 (K : hq_C) : hq_C := fun ls st h => K ls (.inl (.float FP.fconst0) :: st) h
theorem hs_fconst0 (hd : decode M.2.1 pc = .ok (.fconst 0, 1)) (k : hq_S G M d (pc + 1) K) : hq_S G M d pc (hk_fconst0 K) := by
  intro ls st h hh
  intro p l e R s m args below meth c D cy b H locs la cells slots Q C g hP hS hL hst hls
  exact lv_fconst0 C.1 C.2.1 hd (k _ _ _ hh D cy b H locs la cells slots Q C g hP hS hL ⟨trivial, hst⟩ hls)
def hk_fconst1 (K : hq_C) : hq_C := fun ls st h => K ls (.inl (.float FP.fconst1) :: st) h
theorem hs_fconst1 (hd : decode M.2.1 pc = .ok (.fconst 1, 1)) (k : hq_S G M d (pc + 1) K) : hq_S G M d pc (hk_fconst1 K) := by
  intro ls st h hh
  intro p l e R s m args below meth c D cy b H locs la cells slots Q C g hP hS hL hst hls
  exact lv_fconst1 C.1 C.2.1 hd (k _ _ _ hh D cy b H locs la cells slots Q C g hP hS hL ⟨trivial, hst⟩ hls)
def hk_fconst2 (K : hq_C) : hq_C := fun ls st h => K ls (.inl (.float FP.fconst2) :: st) h
theorem hs_fconst2 (hd : decode M.2.1 pc = .ok (.fconst 2, 1)) (k : hq_S G M d (pc + 1) K) : hq_S G M d pc (hk_fconst2 K) := by
  intro ls st h hh
  intro p l e R s m args below meth c D cy b H locs la cells slots Q C g hP hS hL hst hls
  exact lv_fconst2 C.1 C.2.1 hd (k _ _ _ hh D cy b H locs la cells slots Q C g hP hS hL ⟨trivial, hst⟩ hls)
def hk_dconst0 (K : hq_C) : hq_C := fun ls st h => K ls (.inl (.double FP.dconst0) :: st) h
theorem hs_dconst0 (hd : decode M.2.1 pc = .ok (.dconst 0, 1)) (k : hq_S G M d (pc + 1) K) : hq_S G M d pc (hk_dconst0 K) := by
  intro ls st h hh
  intro p l e R s m args below meth c D cy b H locs la cells slots Q C g hP hS hL hst hls
  exact lv_dconst0 C.1 C.2.1 hd (k _ _ _ hh D cy b H locs la cells slots Q C g hP hS hL ⟨trivial, hst⟩ hls)
def hk_dconst1 (K : hq_C) : hq_C := fun ls st h => K ls (.inl (.double FP.dconst1) :: st) h
theorem hs_dconst1 (hd : decode M.2.1 pc = .ok (.dconst 1, 1)) (k : hq_S G M d (pc + 1) K) : hq_S G M d pc (hk_dconst1 K) := by
  intro ls st h hh
  intro p l e R s m args below meth c D cy b H locs la cells slots Q C g hP hS hL hst hls
  exact lv_dconst1 C.1 C.2.1 hd (k _ _ _ hh D cy b H locs la cells slots Q C g hP hS hL ⟨trivial, hst⟩ hls)
def hk_ldci (v : Int32) (K : hq_C) : hq_C := fun ls st h => K ls (.inl (.int v) :: st) h
theorem hs_ldci {i : Nat} {v : Int32} (hd : decode M.2.1 pc = .ok (.ldc i, 2)) (hw : Cond.constant M.1.cls i v ∈ hq_ws) (k : hq_S G M d (pc + 2) K) : hq_S G M d pc (hk_ldci v K) := by
  intro ls st h hh
  intro p l e R s m args below meth c D cy b H locs la cells slots Q C g hP hS hL hst hls
  exact lv_ldc C.1 C.2.1 C.2.2.2.1 (C.2.2.2.2.1 _ hw) hd (k _ _ _ hh D cy b H locs la cells slots Q C g hP hS hL ⟨trivial, hst⟩ hls)
def hk_ldciw (v : Int32) (K : hq_C) : hq_C := fun ls st h => K ls (.inl (.int v) :: st) h
theorem hs_ldciw {i : Nat} {v : Int32} (hd : decode M.2.1 pc = .ok (.ldc_w i, 3)) (hw : Cond.constant M.1.cls i v ∈ hq_ws) (k : hq_S G M d (pc + 3) K) : hq_S G M d pc (hk_ldciw v K) := by
  intro ls st h hh
  intro p l e R s m args below meth c D cy b H locs la cells slots Q C g hP hS hL hst hls
  exact lv_ldcw C.1 C.2.1 C.2.2.2.1 (C.2.2.2.2.1 _ hw) hd (k _ _ _ hh D cy b H locs la cells slots Q C g hP hS hL ⟨trivial, hst⟩ hls)
def hk_ldcfw (v : UInt32) (K : hq_C) : hq_C := fun ls st h => K ls (.inl (.float v) :: st) h
theorem hs_ldcfw {i : Nat} {v : UInt32} (hd : decode M.2.1 pc = .ok (.ldc_w i, 3)) (hw : Cond.constantFloat M.1.cls i v ∈ hq_ws) (k : hq_S G M d (pc + 3) K) : hq_S G M d pc (hk_ldcfw v K) := by
  intro ls st h hh
  intro p l e R s m args below meth c D cy b H locs la cells slots Q C g hP hS hL hst hls
  exact hq_ldcfw C.1 C.2.1 C.2.2.2.1 (C.2.2.2.2.1 _ hw) hd (k _ _ _ hh D cy b H locs la cells slots Q C g hP hS hL ⟨trivial, hst⟩ hls)
def hk_ldcf (v : UInt32) (K : hq_C) : hq_C := fun ls st h => K ls (.inl (.float v) :: st) h
theorem hs_ldcf {i : Nat} {v : UInt32} (hd : decode M.2.1 pc = .ok (.ldc i, 2)) (hw : Cond.constantFloat M.1.cls i v ∈ hq_ws) (k : hq_S G M d (pc + 2) K) : hq_S G M d pc (hk_ldcf v K) := by
  intro ls st h hh
  intro p l e R s m args below meth c D cy b H locs la cells slots Q C g hP hS hL hst hls
  exact lv_ldcf C.1 C.2.1 C.2.2.2.1 (C.2.2.2.2.1 _ hw) hd (k _ _ _ hh D cy b H locs la cells slots Q C g hP hS hL ⟨trivial, hst⟩ hls)
def hk_ldc2l (v : Int64) (K : hq_C) : hq_C := fun ls st h => K ls (.inl (.long v) :: st) h
theorem hs_ldc2l {i : Nat} {v : Int64} (hd : decode M.2.1 pc = .ok (.ldc2_w i, 3)) (hw : Cond.constantLong M.1.cls i v ∈ hq_ws) (k : hq_S G M d (pc + 3) K) : hq_S G M d pc (hk_ldc2l v K) := by
  intro ls st h hh
  intro p l e R s m args below meth c D cy b H locs la cells slots Q C g hP hS hL hst hls
  exact lv_ldc2 C.1 C.2.1 C.2.2.2.1 (C.2.2.2.2.1 _ hw) hd (k _ _ _ hh D cy b H locs la cells slots Q C g hP hS hL ⟨trivial, hst⟩ hls)
def hk_ldc2d (v : UInt64) (K : hq_C) : hq_C := fun ls st h => K ls (.inl (.double v) :: st) h
theorem hs_ldc2d {i : Nat} {v : UInt64} (hd : decode M.2.1 pc = .ok (.ldc2_w i, 3)) (hw : Cond.constantDouble M.1.cls i v ∈ hq_ws) (k : hq_S G M d (pc + 3) K) : hq_S G M d pc (hk_ldc2d v K) := by
  intro ls st h hh
  intro p l e R s m args below meth c D cy b H locs la cells slots Q C g hP hS hL hst hls
  exact lv_ldc2d C.1 C.2.1 C.2.2.2.1 (C.2.2.2.2.1 _ hw) hd (k _ _ _ hh D cy b H locs la cells slots Q C g hP hS hL ⟨trivial, hst⟩ hls)
def hk_iload (i : Nat) (K : hq_C) : hq_C := fun ls st h => match hq_nth ls i with
  | some (.inl (.int x)) => K ls (.inl (.int x) :: st) h
  | _ => False
theorem hs_iload {i : Nat} (hd : decode M.2.1 pc = .ok (.iload i, 2)) (k : hq_S G M d (pc + 2) K) : hq_S G M d pc (hk_iload i K) := by
  intro ls st h hh
  unfold hk_iload at hh
  split at hh
  next x hx =>
    intro p l e R s m args below meth c D cy b H locs la cells slots Q C g hP hS hL hst hls
    exact lv_iload C.1 C.2.1 hd (hL.2.2 _ _ (hq_nth_of hx)) (k _ _ _ hh D cy b H locs la cells slots Q C g hP hS hL ⟨trivial, hst⟩ hls)
  next => exact hh.elim
theorem hs_iload_n {z : Fin 4} {i : Nat} (hd : decode M.2.1 pc = .ok (.iload_n z, 1)) (hi : (z : Nat) = i) (k : hq_S G M d (pc + 1) K) : hq_S G M d pc (hk_iload i K) := by
  intro ls st h hh
  unfold hk_iload at hh
  split at hh
  next x hx =>
    intro p l e R s m args below meth c D cy b H locs la cells slots Q C g hP hS hL hst hls
    exact lv_iload_n C.1 C.2.1 hd hi (hL.2.2 _ _ (hq_nth_of hx)) (k _ _ _ hh D cy b H locs la cells slots Q C g hP hS hL ⟨trivial, hst⟩ hls)
  next => exact hh.elim
def hk_istore (i : Nat) (K : hq_C) : hq_C := fun ls st h => hq_pi st (fun x r => K (hq_st1 ls i (.inl (.int x))) r h)
theorem hs_istore {i : Nat} (hd : decode M.2.1 pc = .ok (.istore i, 2)) (hn : i < M.2.2.1) (k : hq_S G M d (pc + 2) K) : hq_S G M d pc (hk_istore i K) := by
  intro ls st h hh
  obtain ⟨x, r, rfl, hh⟩ := hq_pi_of hh
  intro p l e R s m args below meth c D cy b H locs la cells slots Q C g hP hS hL hst hls
  exact lv_istore C.1 C.2.1 hd (hq_LH_has hL) hn rfl (fun la' h' => k _ _ _ hh D cy b H locs la' cells slots Q C g hP hS (hq_LH_1 h') hst.2 (hq_okL_1 hls trivial))
theorem hs_istore_n {z : Fin 4} {i : Nat} (hd : decode M.2.1 pc = .ok (.istore_n z, 1)) (hi : (z : Nat) = i) (hn : i < M.2.2.1) (k : hq_S G M d (pc + 1) K) : hq_S G M d pc (hk_istore i K) := by
  intro ls st h hh
  obtain ⟨x, r, rfl, hh⟩ := hq_pi_of hh
  intro p l e R s m args below meth c D cy b H locs la cells slots Q C g hP hS hL hst hls
  exact lv_istore_n C.1 C.2.1 hd hi (hq_LH_has hL) hn rfl (fun la' h' => k _ _ _ hh D cy b H locs la' cells slots Q C g hP hS (hq_LH_1 h') hst.2 (hq_okL_1 hls trivial))
def hk_lload (i : Nat) (K : hq_C) : hq_C := fun ls st h => match hq_nth ls i with
  | some (.inl (.long x)) => K ls (.inl (.long x) :: st) h
  | _ => False
theorem hs_lload {i : Nat} (hd : decode M.2.1 pc = .ok (.lload i, 2)) (k : hq_S G M d (pc + 2) K) : hq_S G M d pc (hk_lload i K) := by
  intro ls st h hh
  unfold hk_lload at hh
  split at hh
  next x hx =>
    intro p l e R s m args below meth c D cy b H locs la cells slots Q C g hP hS hL hst hls
    exact lv_lload C.1 C.2.1 hd (hL.2.2 _ _ (hq_nth_of hx)) (k _ _ _ hh D cy b H locs la cells slots Q C g hP hS hL ⟨trivial, hst⟩ hls)
  next => exact hh.elim
theorem hs_lload_n {z : Fin 4} {i : Nat} (hd : decode M.2.1 pc = .ok (.lload_n z, 1)) (hi : (z : Nat) = i) (k : hq_S G M d (pc + 1) K) : hq_S G M d pc (hk_lload i K) := by
  intro ls st h hh
  unfold hk_lload at hh
  split at hh
  next x hx =>
    intro p l e R s m args below meth c D cy b H locs la cells slots Q C g hP hS hL hst hls
    exact lv_lload_n C.1 C.2.1 hd hi (hL.2.2 _ _ (hq_nth_of hx)) (k _ _ _ hh D cy b H locs la cells slots Q C g hP hS hL ⟨trivial, hst⟩ hls)
  next => exact hh.elim
def hk_lstore (i : Nat) (K : hq_C) : hq_C := fun ls st h => hq_pl st (fun x r => K (hq_st2 ls i (.inl (.long x))) r h)
theorem hs_lstore {i : Nat} (hd : decode M.2.1 pc = .ok (.lstore i, 2)) (hn : i + 1 < M.2.2.1) (k : hq_S G M d (pc + 2) K) : hq_S G M d pc (hk_lstore i K) := by
  intro ls st h hh
  obtain ⟨x, r, rfl, hh⟩ := hq_pl_of hh
  intro p l e R s m args below meth c D cy b H locs la cells slots Q C g hP hS hL hst hls
  exact lv_lstore C.1 C.2.1 hd (hq_LH_has hL) hn rfl (fun la' h' => k _ _ _ hh D cy b H locs la' cells slots Q C g hP hS (hq_LH_2 h') hst.2 (hq_okL_2 hls trivial))
theorem hs_lstore_n {z : Fin 4} {i : Nat} (hd : decode M.2.1 pc = .ok (.lstore_n z, 1)) (hi : (z : Nat) = i) (hn : i + 1 < M.2.2.1) (k : hq_S G M d (pc + 1) K) : hq_S G M d pc (hk_lstore i K) := by
  intro ls st h hh
  obtain ⟨x, r, rfl, hh⟩ := hq_pl_of hh
  intro p l e R s m args below meth c D cy b H locs la cells slots Q C g hP hS hL hst hls
  exact lv_lstore_n C.1 C.2.1 hd hi (hq_LH_has hL) hn rfl (fun la' h' => k _ _ _ hh D cy b H locs la' cells slots Q C g hP hS (hq_LH_2 h') hst.2 (hq_okL_2 hls trivial))
def hk_fload (i : Nat) (K : hq_C) : hq_C := fun ls st h => match hq_nth ls i with
  | some (.inl (.float x)) => K ls (.inl (.float x) :: st) h
  | _ => False
theorem hs_fload {i : Nat} (hd : decode M.2.1 pc = .ok (.fload i, 2)) (k : hq_S G M d (pc + 2) K) : hq_S G M d pc (hk_fload i K) := by
  intro ls st h hh
  unfold hk_fload at hh
  split at hh
  next x hx =>
    intro p l e R s m args below meth c D cy b H locs la cells slots Q C g hP hS hL hst hls
    exact lv_fload C.1 C.2.1 hd (hL.2.2 _ _ (hq_nth_of hx)) (k _ _ _ hh D cy b H locs la cells slots Q C g hP hS hL ⟨trivial, hst⟩ hls)
  next => exact hh.elim
theorem hs_fload_n {z : Fin 4} {i : Nat} (hd : decode M.2.1 pc = .ok (.fload_n z, 1)) (hi : (z : Nat) = i) (k : hq_S G M d (pc + 1) K) : hq_S G M d pc (hk_fload i K) := by
  intro ls st h hh
  unfold hk_fload at hh
  split at hh
  next x hx =>
    intro p l e R s m args below meth c D cy b H locs la cells slots Q C g hP hS hL hst hls
    exact lv_fload_n C.1 C.2.1 hd hi (hL.2.2 _ _ (hq_nth_of hx)) (k _ _ _ hh D cy b H locs la cells slots Q C g hP hS hL ⟨trivial, hst⟩ hls)
  next => exact hh.elim
def hk_fstore (i : Nat) (K : hq_C) : hq_C := fun ls st h => hq_pf st (fun x r => K (hq_st1 ls i (.inl (.float x))) r h)
theorem hs_fstore {i : Nat} (hd : decode M.2.1 pc = .ok (.fstore i, 2)) (hn : i < M.2.2.1) (k : hq_S G M d (pc + 2) K) : hq_S G M d pc (hk_fstore i K) := by
  intro ls st h hh
  obtain ⟨x, r, rfl, hh⟩ := hq_pf_of hh
  intro p l e R s m args below meth c D cy b H locs la cells slots Q C g hP hS hL hst hls
  exact lv_fstore C.1 C.2.1 hd (hq_LH_has hL) hn rfl (fun la' h' => k _ _ _ hh D cy b H locs la' cells slots Q C g hP hS (hq_LH_1 h') hst.2 (hq_okL_1 hls trivial))
theorem hs_fstore_n {z : Fin 4} {i : Nat} (hd : decode M.2.1 pc = .ok (.fstore_n z, 1)) (hi : (z : Nat) = i) (hn : i < M.2.2.1) (k : hq_S G M d (pc + 1) K) : hq_S G M d pc (hk_fstore i K) := by
  intro ls st h hh
  obtain ⟨x, r, rfl, hh⟩ := hq_pf_of hh
  intro p l e R s m args below meth c D cy b H locs la cells slots Q C g hP hS hL hst hls
  exact lv_fstore_n C.1 C.2.1 hd hi (hq_LH_has hL) hn rfl (fun la' h' => k _ _ _ hh D cy b H locs la' cells slots Q C g hP hS (hq_LH_1 h') hst.2 (hq_okL_1 hls trivial))
def hk_dload (i : Nat) (K : hq_C) : hq_C := fun ls st h => match hq_nth ls i with
  | some (.inl (.double x)) => K ls (.inl (.double x) :: st) h
  | _ => False
theorem hs_dload {i : Nat} (hd : decode M.2.1 pc = .ok (.dload i, 2)) (k : hq_S G M d (pc + 2) K) : hq_S G M d pc (hk_dload i K) := by
  intro ls st h hh
  unfold hk_dload at hh
  split at hh
  next x hx =>
    intro p l e R s m args below meth c D cy b H locs la cells slots Q C g hP hS hL hst hls
    exact lv_dload C.1 C.2.1 hd (hL.2.2 _ _ (hq_nth_of hx)) (k _ _ _ hh D cy b H locs la cells slots Q C g hP hS hL ⟨trivial, hst⟩ hls)
  next => exact hh.elim
theorem hs_dload_n {z : Fin 4} {i : Nat} (hd : decode M.2.1 pc = .ok (.dload_n z, 1)) (hi : (z : Nat) = i) (k : hq_S G M d (pc + 1) K) : hq_S G M d pc (hk_dload i K) := by
  intro ls st h hh
  unfold hk_dload at hh
  split at hh
  next x hx =>
    intro p l e R s m args below meth c D cy b H locs la cells slots Q C g hP hS hL hst hls
    exact lv_dload_n C.1 C.2.1 hd hi (hL.2.2 _ _ (hq_nth_of hx)) (k _ _ _ hh D cy b H locs la cells slots Q C g hP hS hL ⟨trivial, hst⟩ hls)
  next => exact hh.elim
def hk_dstore (i : Nat) (K : hq_C) : hq_C := fun ls st h => hq_pd st (fun x r => K (hq_st2 ls i (.inl (.double x))) r h)
theorem hs_dstore {i : Nat} (hd : decode M.2.1 pc = .ok (.dstore i, 2)) (hn : i + 1 < M.2.2.1) (k : hq_S G M d (pc + 2) K) : hq_S G M d pc (hk_dstore i K) := by
  intro ls st h hh
  obtain ⟨x, r, rfl, hh⟩ := hq_pd_of hh
  intro p l e R s m args below meth c D cy b H locs la cells slots Q C g hP hS hL hst hls
  exact lv_dstore C.1 C.2.1 hd (hq_LH_has hL) hn rfl (fun la' h' => k _ _ _ hh D cy b H locs la' cells slots Q C g hP hS (hq_LH_2 h') hst.2 (hq_okL_2 hls trivial))
theorem hs_dstore_n {z : Fin 4} {i : Nat} (hd : decode M.2.1 pc = .ok (.dstore_n z, 1)) (hi : (z : Nat) = i) (hn : i + 1 < M.2.2.1) (k : hq_S G M d (pc + 1) K) : hq_S G M d pc (hk_dstore i K) := by
  intro ls st h hh
  obtain ⟨x, r, rfl, hh⟩ := hq_pd_of hh
  intro p l e R s m args below meth c D cy b H locs la cells slots Q C g hP hS hL hst hls
  exact lv_dstore_n C.1 C.2.1 hd hi (hq_LH_has hL) hn rfl (fun la' h' => k _ _ _ hh D cy b H locs la' cells slots Q C g hP hS (hq_LH_2 h') hst.2 (hq_okL_2 hls trivial))
def hk_aload (i : Nat) (K : hq_C) : hq_C := fun ls st h => match hq_nth ls i with
  | some (.inr q) => K ls (.inr q :: st) h
  | _ => False
def hk_aloadR (i : Nat) (K : hq_C) : hq_C := fun ls st h => match hq_nth ls i with
  | some (.inl (.ref q)) => K ls (.inl (.ref q) :: st) h
  | _ => False
theorem hs_aload {i : Nat} (hd : decode M.2.1 pc = .ok (.aload i, 2)) (k : hq_S G M d (pc + 2) K) : hq_S G M d pc (hk_aload i K) := by
  intro ls st h hh
  unfold hk_aload at hh
  split at hh
  next x hx =>
    intro p l e R s m args below meth c D cy b H locs la cells slots Q C g hP hS hL hst hls
    exact lv_aload C.1 C.2.1 hd (hL.2.2 _ _ (hq_nth_of hx)) (k _ _ _ hh D cy b H locs la cells slots Q C g hP hS hL ⟨hls _ _ (hq_nth_of hx), hst⟩ hls)
  next => exact hh.elim
theorem hs_aloadR {i : Nat} (hd : decode M.2.1 pc = .ok (.aload i, 2)) (k : hq_S G M d (pc + 2) K) : hq_S G M d pc (hk_aloadR i K) := by
  intro ls st h hh
  unfold hk_aloadR at hh
  split at hh
  next x hx =>
    intro p l e R s m args below meth c D cy b H locs la cells slots Q C g hP hS hL hst hls
    exact lv_aload C.1 C.2.1 hd (hL.2.2 _ _ (hq_nth_of hx)) (k _ _ _ hh D cy b H locs la cells slots Q C g hP hS hL ⟨trivial, hst⟩ hls)
  next => exact hh.elim
theorem hs_aload_n {z : Fin 4} {i : Nat} (hd : decode M.2.1 pc = .ok (.aload_n z, 1)) (hi : (z : Nat) = i) (k : hq_S G M d (pc + 1) K) : hq_S G M d pc (hk_aload i K) := by
  intro ls st h hh
  unfold hk_aload at hh
  split at hh
  next x hx =>
    intro p l e R s m args below meth c D cy b H locs la cells slots Q C g hP hS hL hst hls
    exact lv_aload_n C.1 C.2.1 hd hi (hL.2.2 _ _ (hq_nth_of hx)) (k _ _ _ hh D cy b H locs la cells slots Q C g hP hS hL ⟨hls _ _ (hq_nth_of hx), hst⟩ hls)
  next => exact hh.elim
theorem hs_aloadR_n {z : Fin 4} {i : Nat} (hd : decode M.2.1 pc = .ok (.aload_n z, 1)) (hi : (z : Nat) = i) (k : hq_S G M d (pc + 1) K) : hq_S G M d pc (hk_aloadR i K) := by
  intro ls st h hh
  unfold hk_aloadR at hh
  split at hh
  next x hx =>
    intro p l e R s m args below meth c D cy b H locs la cells slots Q C g hP hS hL hst hls
    exact lv_aload_n C.1 C.2.1 hd hi (hL.2.2 _ _ (hq_nth_of hx)) (k _ _ _ hh D cy b H locs la cells slots Q C g hP hS hL ⟨trivial, hst⟩ hls)
  next => exact hh.elim
def hk_astore (i : Nat) (K : hq_C) : hq_C := fun ls st h => hq_pa st (fun k n r => K (hq_st1 ls i (.inr (k, n))) r h)
theorem hs_astore {i : Nat} (hd : decode M.2.1 pc = .ok (.astore i, 2)) (hn : i < M.2.2.1) (k : hq_S G M d (pc + 2) K) : hq_S G M d pc (hk_astore i K) := by
  intro ls st h hh
  obtain ⟨kk, n, r, rfl, hh⟩ := hq_pa_of hh
  intro p l e R s m args below meth c D cy b H locs la cells slots Q C g hP hS hL hst hls
  exact lv_astore C.1 C.2.1 hd (hq_LH_has hL) hn rfl (fun la' h' => k _ _ _ hh D cy b H locs la' cells slots Q C g hP hS (hq_LH_1 (v := .inr (kk, n)) h') hst.2 (hq_okL_1 hls hst.1))
theorem hs_astore_n {z : Fin 4} {i : Nat} (hd : decode M.2.1 pc = .ok (.astore_n z, 1)) (hi : (z : Nat) = i) (hn : i < M.2.2.1) (k : hq_S G M d (pc + 1) K) : hq_S G M d pc (hk_astore i K) := by
  intro ls st h hh
  obtain ⟨kk, n, r, rfl, hh⟩ := hq_pa_of hh
  intro p l e R s m args below meth c D cy b H locs la cells slots Q C g hP hS hL hst hls
  exact lv_astore_n C.1 C.2.1 hd hi (hq_LH_has hL) hn rfl (fun la' h' => k _ _ _ hh D cy b H locs la' cells slots Q C g hP hS (hq_LH_1 (v := .inr (kk, n)) h') hst.2 (hq_okL_1 hls hst.1))
def hk_iinc (i : Nat) (n : Int32) (K : hq_C) : hq_C := fun ls st h => match hq_nth ls i with
  | some (.inl (.int x)) => K (hq_st1 ls i (.inl (.int (x + n)))) st h
  | _ => False
theorem hs_iinc {i : Nat} {n : Int} {v : Int32} (hd : decode M.2.1 pc = .ok (.iinc i n, 3)) (hv : Int32.ofInt n = v) (hn : i < M.2.2.1) (k : hq_S G M d (pc + 3) K) : hq_S G M d pc (hk_iinc i v K) := by
  intro ls st h hh
  unfold hk_iinc at hh
  split at hh
  next x hx =>
    intro p l e R s m args below meth c D cy b H locs la cells slots Q C g hP hS hL hst hls
    subst hv
    have h0 := hq_LH_has hL
    have h1 : lv_has la M.2.2.1 ((i, Value.int x) :: hq_fa b 0 ls) := ⟨h0.1, h0.2.1, fun q hq => by
      rcases List.mem_cons.mp hq with rfl | hq
      · exact hL.2.2 _ _ (hq_nth_of hx)
      · exact h0.2.2 q hq⟩
    refine lv_iinc (k := 0) C.1 C.2.1 hd h1 rfl rfl hn rfl (fun la' h' => k _ _ _ hh D cy b H locs la' cells slots Q C g hP hS (hq_LH_1 (v := .inl (.int (x + Int32.ofInt n))) ?_) hst (hq_okL_1 hls trivial))
    rw [List.filter_cons_of_neg (by simp)] at h'
    exact h'
  next => exact hh.elim
def hk_dup (K : hq_C) : hq_C := fun ls st h => match st with
  | v :: r => match hq_2 v with
    | false => K ls (v :: v :: r) h
    | true => False
  | _ => False
theorem hq_cat1 {b : Nat} {v : hq_V} (h : hq_2 v = false) : (hq_cv b v).category = 1 := by
  rcases lv_cat (hq_cv b v) with h1 | h1
  · exact h1
  · rw [hq_cat2 h1] at h; cases h
theorem hs_dup (hd : decode M.2.1 pc = .ok (.dup, 1)) (k : hq_S G M d (pc + 1) K) : hq_S G M d pc (hk_dup K) := by
  intro ls st h hh
  unfold hk_dup at hh
  split at hh
  next v r =>
    split at hh
    next hv =>
      intro p l e R s m args below meth c D cy b H locs la cells slots Q C g hP hS hL hst hls
      exact lv_dup C.1 C.2.1 hd (hq_cat1 hv) (k _ _ _ hh D cy b H locs la cells slots Q C g hP hS hL ⟨hst.1, hst⟩ hls)
    next => exact hh.elim
  next => exact hh.elim
def hk_pop (K : hq_C) : hq_C := fun ls st h => match st with
  | v :: r => match hq_2 v with
    | false => K ls r h
    | true => False
  | _ => False
theorem hs_pop (hd : decode M.2.1 pc = .ok (.pop, 1)) (k : hq_S G M d (pc + 1) K) : hq_S G M d pc (hk_pop K) := by
  intro ls st h hh
  unfold hk_pop at hh
  split at hh
  next v r =>
    split at hh
    next hv =>
      intro p l e R s m args below meth c D cy b H locs la cells slots Q C g hP hS hL hst hls
      exact lv_pop C.1 C.2.1 hd (hq_cat1 hv) (k _ _ _ hh D cy b H locs la cells slots Q C g hP hS hL hst.2 hls)
    next => exact hh.elim
  next => exact hh.elim
def hk_dup2 (K : hq_C) : hq_C := fun ls st h => match st with
  | v :: w :: r => match hq_2 v with
    | false => match hq_2 w with
      | false => K ls (v :: w :: v :: w :: r) h
      | true => False
    | true => False
  | _ => False
theorem hs_dup2 (hd : decode M.2.1 pc = .ok (.dup2, 1)) (k : hq_S G M d (pc + 1) K) : hq_S G M d pc (hk_dup2 K) := by
  intro ls st h hh
  unfold hk_dup2 at hh
  split at hh
  next v w r =>
    split at hh
    next hv =>
      split at hh
      next hw =>
        intro p l e R s m args below meth c D cy b H locs la cells slots Q C g hP hS hL hst hls
        exact lv_dup2_11 C.1 C.2.1 hd (hq_cat1 hv) (hq_cat1 hw) (k _ _ _ hh D cy b H locs la cells slots Q C g hP hS hL ⟨hst.1, hst.2.1, hst⟩ hls)
      next => exact hh.elim
    next => exact hh.elim
  next => exact hh.elim
def hk_icmp_eq (K1 K2 : hq_C) : hq_C := fun ls st h => hq_pii st (fun x y r => (x = y → K1 ls r h) ∧ (¬ x = y → K2 ls r h))
theorem hs_icmp_eq {off : Int} {tgt : Nat} (hd : decode M.2.1 pc = .ok (.if_icmp .eq off, 3)) (ht : (pc : Int) + off = (tgt : Int)) (k1 : hq_S G M d tgt K1) (k2 : hq_S G M d (pc + 3) K2) : hq_S G M d pc (hk_icmp_eq K1 K2) := by
  intro ls st h hh
  obtain ⟨x, y, r, rfl, hh⟩ := hq_pii_of hh
  intro p l e R s m args below meth c D cy b H locs la cells slots Q C g hP hS hL hst hls
  exact lv_icmp_eq C.1 C.2.1 hd ht (fun z => k1 _ _ _ (hh.1 z) D cy b H locs la cells slots Q C g hP hS hL hst.2.2 hls) (fun z => k2 _ _ _ (hh.2 z) D cy b H locs la cells slots Q C g hP hS hL hst.2.2 hls)
def hk_if_eq (K1 K2 : hq_C) : hq_C := fun ls st h => hq_pi st (fun x r => (x = 0 → K1 ls r h) ∧ (¬ x = 0 → K2 ls r h))
theorem hs_if_eq {off : Int} {tgt : Nat} (hd : decode M.2.1 pc = .ok (.ifCond .eq off, 3)) (ht : (pc : Int) + off = (tgt : Int)) (k1 : hq_S G M d tgt K1) (k2 : hq_S G M d (pc + 3) K2) : hq_S G M d pc (hk_if_eq K1 K2) := by
  intro ls st h hh
  obtain ⟨x, r, rfl, hh⟩ := hq_pi_of hh
  intro p l e R s m args below meth c D cy b H locs la cells slots Q C g hP hS hL hst hls
  exact lv_if_eq C.1 C.2.1 hd ht (fun z => k1 _ _ _ (hh.1 z) D cy b H locs la cells slots Q C g hP hS hL hst.2 hls) (fun z => k2 _ _ _ (hh.2 z) D cy b H locs la cells slots Q C g hP hS hL hst.2 hls)
def hk_icmp_ne (K1 K2 : hq_C) : hq_C := fun ls st h => hq_pii st (fun x y r => (¬ x = y → K1 ls r h) ∧ (x = y → K2 ls r h))
theorem hs_icmp_ne {off : Int} {tgt : Nat} (hd : decode M.2.1 pc = .ok (.if_icmp .ne off, 3)) (ht : (pc : Int) + off = (tgt : Int)) (k1 : hq_S G M d tgt K1) (k2 : hq_S G M d (pc + 3) K2) : hq_S G M d pc (hk_icmp_ne K1 K2) := by
  intro ls st h hh
  obtain ⟨x, y, r, rfl, hh⟩ := hq_pii_of hh
  intro p l e R s m args below meth c D cy b H locs la cells slots Q C g hP hS hL hst hls
  exact lv_icmp_ne C.1 C.2.1 hd ht (fun z => k1 _ _ _ (hh.1 z) D cy b H locs la cells slots Q C g hP hS hL hst.2.2 hls) (fun z => k2 _ _ _ (hh.2 z) D cy b H locs la cells slots Q C g hP hS hL hst.2.2 hls)
def hk_if_ne (K1 K2 : hq_C) : hq_C := fun ls st h => hq_pi st (fun x r => (¬ x = 0 → K1 ls r h) ∧ (x = 0 → K2 ls r h))
theorem hs_if_ne {off : Int} {tgt : Nat} (hd : decode M.2.1 pc = .ok (.ifCond .ne off, 3)) (ht : (pc : Int) + off = (tgt : Int)) (k1 : hq_S G M d tgt K1) (k2 : hq_S G M d (pc + 3) K2) : hq_S G M d pc (hk_if_ne K1 K2) := by
  intro ls st h hh
  obtain ⟨x, r, rfl, hh⟩ := hq_pi_of hh
  intro p l e R s m args below meth c D cy b H locs la cells slots Q C g hP hS hL hst hls
  exact lv_if_ne C.1 C.2.1 hd ht (fun z => k1 _ _ _ (hh.1 z) D cy b H locs la cells slots Q C g hP hS hL hst.2 hls) (fun z => k2 _ _ _ (hh.2 z) D cy b H locs la cells slots Q C g hP hS hL hst.2 hls)
def hk_icmp_lt (K1 K2 : hq_C) : hq_C := fun ls st h => hq_pii st (fun x y r => (x < y → K1 ls r h) ∧ (¬ x < y → K2 ls r h))
theorem hs_icmp_lt {off : Int} {tgt : Nat} (hd : decode M.2.1 pc = .ok (.if_icmp .lt off, 3)) (ht : (pc : Int) + off = (tgt : Int)) (k1 : hq_S G M d tgt K1) (k2 : hq_S G M d (pc + 3) K2) : hq_S G M d pc (hk_icmp_lt K1 K2) := by
  intro ls st h hh
  obtain ⟨x, y, r, rfl, hh⟩ := hq_pii_of hh
  intro p l e R s m args below meth c D cy b H locs la cells slots Q C g hP hS hL hst hls
  exact lv_icmp_lt C.1 C.2.1 hd ht (fun z => k1 _ _ _ (hh.1 z) D cy b H locs la cells slots Q C g hP hS hL hst.2.2 hls) (fun z => k2 _ _ _ (hh.2 z) D cy b H locs la cells slots Q C g hP hS hL hst.2.2 hls)
def hk_if_lt (K1 K2 : hq_C) : hq_C := fun ls st h => hq_pi st (fun x r => (x < 0 → K1 ls r h) ∧ (¬ x < 0 → K2 ls r h))
theorem hs_if_lt {off : Int} {tgt : Nat} (hd : decode M.2.1 pc = .ok (.ifCond .lt off, 3)) (ht : (pc : Int) + off = (tgt : Int)) (k1 : hq_S G M d tgt K1) (k2 : hq_S G M d (pc + 3) K2) : hq_S G M d pc (hk_if_lt K1 K2) := by
  intro ls st h hh
  obtain ⟨x, r, rfl, hh⟩ := hq_pi_of hh
  intro p l e R s m args below meth c D cy b H locs la cells slots Q C g hP hS hL hst hls
  exact lv_if_lt C.1 C.2.1 hd ht (fun z => k1 _ _ _ (hh.1 z) D cy b H locs la cells slots Q C g hP hS hL hst.2 hls) (fun z => k2 _ _ _ (hh.2 z) D cy b H locs la cells slots Q C g hP hS hL hst.2 hls)
def hk_icmp_ge (K1 K2 : hq_C) : hq_C := fun ls st h => hq_pii st (fun x y r => (y ≤ x → K1 ls r h) ∧ (¬ y ≤ x → K2 ls r h))
theorem hs_icmp_ge {off : Int} {tgt : Nat} (hd : decode M.2.1 pc = .ok (.if_icmp .ge off, 3)) (ht : (pc : Int) + off = (tgt : Int)) (k1 : hq_S G M d tgt K1) (k2 : hq_S G M d (pc + 3) K2) : hq_S G M d pc (hk_icmp_ge K1 K2) := by
  intro ls st h hh
  obtain ⟨x, y, r, rfl, hh⟩ := hq_pii_of hh
  intro p l e R s m args below meth c D cy b H locs la cells slots Q C g hP hS hL hst hls
  exact lv_icmp_ge C.1 C.2.1 hd ht (fun z => k1 _ _ _ (hh.1 z) D cy b H locs la cells slots Q C g hP hS hL hst.2.2 hls) (fun z => k2 _ _ _ (hh.2 z) D cy b H locs la cells slots Q C g hP hS hL hst.2.2 hls)
def hk_if_ge (K1 K2 : hq_C) : hq_C := fun ls st h => hq_pi st (fun x r => (0 ≤ x → K1 ls r h) ∧ (¬ 0 ≤ x → K2 ls r h))
theorem hs_if_ge {off : Int} {tgt : Nat} (hd : decode M.2.1 pc = .ok (.ifCond .ge off, 3)) (ht : (pc : Int) + off = (tgt : Int)) (k1 : hq_S G M d tgt K1) (k2 : hq_S G M d (pc + 3) K2) : hq_S G M d pc (hk_if_ge K1 K2) := by
  intro ls st h hh
  obtain ⟨x, r, rfl, hh⟩ := hq_pi_of hh
  intro p l e R s m args below meth c D cy b H locs la cells slots Q C g hP hS hL hst hls
  exact lv_if_ge C.1 C.2.1 hd ht (fun z => k1 _ _ _ (hh.1 z) D cy b H locs la cells slots Q C g hP hS hL hst.2 hls) (fun z => k2 _ _ _ (hh.2 z) D cy b H locs la cells slots Q C g hP hS hL hst.2 hls)
def hk_icmp_gt (K1 K2 : hq_C) : hq_C := fun ls st h => hq_pii st (fun x y r => (y < x → K1 ls r h) ∧ (¬ y < x → K2 ls r h))
theorem hs_icmp_gt {off : Int} {tgt : Nat} (hd : decode M.2.1 pc = .ok (.if_icmp .gt off, 3)) (ht : (pc : Int) + off = (tgt : Int)) (k1 : hq_S G M d tgt K1) (k2 : hq_S G M d (pc + 3) K2) : hq_S G M d pc (hk_icmp_gt K1 K2) := by
  intro ls st h hh
  obtain ⟨x, y, r, rfl, hh⟩ := hq_pii_of hh
  intro p l e R s m args below meth c D cy b H locs la cells slots Q C g hP hS hL hst hls
  exact lv_icmp_gt C.1 C.2.1 hd ht (fun z => k1 _ _ _ (hh.1 z) D cy b H locs la cells slots Q C g hP hS hL hst.2.2 hls) (fun z => k2 _ _ _ (hh.2 z) D cy b H locs la cells slots Q C g hP hS hL hst.2.2 hls)
def hk_if_gt (K1 K2 : hq_C) : hq_C := fun ls st h => hq_pi st (fun x r => (0 < x → K1 ls r h) ∧ (¬ 0 < x → K2 ls r h))
theorem hs_if_gt {off : Int} {tgt : Nat} (hd : decode M.2.1 pc = .ok (.ifCond .gt off, 3)) (ht : (pc : Int) + off = (tgt : Int)) (k1 : hq_S G M d tgt K1) (k2 : hq_S G M d (pc + 3) K2) : hq_S G M d pc (hk_if_gt K1 K2) := by
  intro ls st h hh
  obtain ⟨x, r, rfl, hh⟩ := hq_pi_of hh
  intro p l e R s m args below meth c D cy b H locs la cells slots Q C g hP hS hL hst hls
  exact lv_if_gt C.1 C.2.1 hd ht (fun z => k1 _ _ _ (hh.1 z) D cy b H locs la cells slots Q C g hP hS hL hst.2 hls) (fun z => k2 _ _ _ (hh.2 z) D cy b H locs la cells slots Q C g hP hS hL hst.2 hls)
def hk_icmp_le (K1 K2 : hq_C) : hq_C := fun ls st h => hq_pii st (fun x y r => (x ≤ y → K1 ls r h) ∧ (¬ x ≤ y → K2 ls r h))
theorem hs_icmp_le {off : Int} {tgt : Nat} (hd : decode M.2.1 pc = .ok (.if_icmp .le off, 3)) (ht : (pc : Int) + off = (tgt : Int)) (k1 : hq_S G M d tgt K1) (k2 : hq_S G M d (pc + 3) K2) : hq_S G M d pc (hk_icmp_le K1 K2) := by
  intro ls st h hh
  obtain ⟨x, y, r, rfl, hh⟩ := hq_pii_of hh
  intro p l e R s m args below meth c D cy b H locs la cells slots Q C g hP hS hL hst hls
  exact lv_icmp_le C.1 C.2.1 hd ht (fun z => k1 _ _ _ (hh.1 z) D cy b H locs la cells slots Q C g hP hS hL hst.2.2 hls) (fun z => k2 _ _ _ (hh.2 z) D cy b H locs la cells slots Q C g hP hS hL hst.2.2 hls)
def hk_if_le (K1 K2 : hq_C) : hq_C := fun ls st h => hq_pi st (fun x r => (x ≤ 0 → K1 ls r h) ∧ (¬ x ≤ 0 → K2 ls r h))
theorem hs_if_le {off : Int} {tgt : Nat} (hd : decode M.2.1 pc = .ok (.ifCond .le off, 3)) (ht : (pc : Int) + off = (tgt : Int)) (k1 : hq_S G M d tgt K1) (k2 : hq_S G M d (pc + 3) K2) : hq_S G M d pc (hk_if_le K1 K2) := by
  intro ls st h hh
  obtain ⟨x, r, rfl, hh⟩ := hq_pi_of hh
  intro p l e R s m args below meth c D cy b H locs la cells slots Q C g hP hS hL hst hls
  exact lv_if_le C.1 C.2.1 hd ht (fun z => k1 _ _ _ (hh.1 z) D cy b H locs la cells slots Q C g hP hS hL hst.2 hls) (fun z => k2 _ _ _ (hh.2 z) D cy b H locs la cells slots Q C g hP hS hL hst.2 hls)
def hk_goto (K : hq_C) : hq_C := K
theorem hs_goto {off : Int} {tgt : Nat} (hd : decode M.2.1 pc = .ok (.goto off, 3)) (ht : (pc : Int) + off = (tgt : Int)) (k : hq_S G M d tgt K) : hq_S G M d pc (hk_goto K) := by
  intro ls st h hh
  intro p l e R s m args below meth c D cy b H locs la cells slots Q C g hP hS hL hst hls
  exact lv_goto C.1 C.2.1 hd ht (k _ _ _ hh D cy b H locs la cells slots Q C g hP hS hL hst hls)
def hk_ifnonnull (K1 : hq_C) : hq_C := fun ls st h => hq_pa st (fun _ _ r => K1 ls r h)
theorem hs_ifnonnull {off : Int} {tgt : Nat} (hd : decode M.2.1 pc = .ok (.ifnonnull off, 3)) (ht : (pc : Int) + off = (tgt : Int)) (k : hq_S G M d tgt K) : hq_S G M d pc (hk_ifnonnull K) := by
  intro ls st h hh
  obtain ⟨kk, n, r, rfl, hh⟩ := hq_pa_of hh
  intro p l e R s m args below meth c D cy b H locs la cells slots Q C g hP hS hL hst hls
  exact lv_ifnonnull C.1 C.2.1 hd ht (k _ _ _ hh D cy b H locs la cells slots Q C g hP hS hL hst.2 hls)
end HS
