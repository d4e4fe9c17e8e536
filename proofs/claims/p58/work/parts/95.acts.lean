-- ===== changes: what holds of each state that the law comes to =====
theorem ha_rc (a b c : Int32) : a + b + c = a + c + b := by rw [Int32.add_assoc, Int32.add_comm b c, ← Int32.add_assoc]
theorem ha_acc {R R' : hz_R} {g : Int32} : ∀ {n : Nat}, (∀ k, k < n → R' k 5 = R k 5) → hz_acc R' g n = hz_acc R g n
  | 0, _ => rfl
  | n + 1, h => by
    show hz_acc R' g n + R' n 5 = hz_acc R g n + R n 5
    rw [ha_acc (fun k hk => h k (by omega)), h n (by omega)]
theorem ha_drop (st : hz_St) (r : Nat) (g : Int32) : ∀ m, (m ≤ r → hz_acc (hs_drop st r).2.1 (g + st.2.1 r 5) m = hz_acc st.2.1 g m + st.2.1 r 5) ∧ (r ≤ m → hz_acc (hs_drop st r).2.1 (g + st.2.1 r 5) m = hz_acc st.2.1 g (m + 1))
  | 0 => ⟨fun _ => rfl, fun h => by
    have e : r = 0 := by omega
    rw [e]
    rfl⟩
  | m + 1 => by
    obtain ⟨i1, i2⟩ := ha_drop st r g m
    have e : hz_acc (hs_drop st r).2.1 (g + st.2.1 r 5) (m + 1) = hz_acc (hs_drop st r).2.1 (g + st.2.1 r 5) m + (if m < r then st.2.1 m 5 else st.2.1 (m + 1) 5) := rfl
    have e2 : hz_acc st.2.1 g (m + 1) = hz_acc st.2.1 g m + st.2.1 m 5 := rfl
    have e3 : hz_acc st.2.1 g (m + 1 + 1) = hz_acc st.2.1 g (m + 1) + st.2.1 (m + 1) 5 := rfl
    refine ⟨fun h => ?_, fun h => ?_⟩
    · rw [e, if_pos (by omega), i1 (by omega), e2, ha_rc]
    · by_cases c : m < r
      · have er : r = m + 1 := by omega
        rw [e, if_pos c, i1 (by omega), e3, e2, ha_rc, er]
      · rw [e, if_neg c, i2 (by omega), e3]
theorem ha_night (st : hz_St) (g : Int32) : ∀ n, hz_acc (hs_night st).2.1 g n = hz_acc st.2.1 g n + hz_sum (hz_brk st.2.1 st.2.2.2.1 st.2.2.1) (hz_price st.2.1) n
  | 0 => (Int32.add_zero g).symm
  | n + 1 => by
    have ih := ha_night st g n
    have e : hz_acc (hs_night st).2.1 g (n + 1) = hz_acc (hs_night st).2.1 g n + (if hz_brk st.2.1 st.2.2.2.1 st.2.2.1 n = true then st.2.1 n 5 + st.2.1 n 2 else st.2.1 n 5) := rfl
    have e2 : hz_acc st.2.1 g (n + 1) = hz_acc st.2.1 g n + st.2.1 n 5 := rfl
    rw [e, ih, e2]
    cases c : hz_brk st.2.1 st.2.2.2.1 st.2.2.1 n with
    | false =>
      rw [hz_sum_n c, if_neg (by decide), ha_rc]
    | true =>
      rw [hz_sum_y c, if_pos rfl]
      show _ = _ + (_ + st.2.1 n 2)
      generalize hz_acc st.2.1 g n = a
      generalize hz_sum (hz_brk st.2.1 st.2.2.2.1 st.2.2.1) (hz_price st.2.1) n = b
      generalize st.2.1 n 5 = x
      generalize st.2.1 n 2 = y
      rw [Int32.add_assoc, Int32.add_assoc, ← Int32.add_assoc b, Int32.add_comm b x, Int32.add_assoc]
/-- so many nights on -/
def hN (j f : Nat) (st : hz_St) : Prop := st.2.2.2.2.1 = hz_acc st.2.1 st.2.2.2.2.2 st.1 ∧ (∃ d, d ≤ j ∧ st.2.2.2.1 = nI d) ∧ ∀ k, k < st.1 → ∃ q, q ≤ f ∧ st.2.1 k 4 = nI q
theorem hN_night {j f : Nat} {st : hz_St} (h : hN j f st) : hN (j + 1) f (hs_night st) := by
  obtain ⟨h1, ⟨d, hd, e⟩, h3⟩ := h
  refine ⟨?_, ⟨d + 1, by omega, ?_⟩, fun k hk => ?_⟩
  · show st.2.2.2.2.1 + hz_night st.2.1 st.1 st.2.2.2.1 st.2.2.1 = hz_acc (hs_night st).2.1 st.2.2.2.2.2 st.1
    rw [ha_night, h1]
    rfl
  · show st.2.2.2.1 + 1 = nI (d + 1)
    rw [e]
    exact (nI_succ d).symm
  · exact h3 k hk
theorem hN_nights {j f : Nat} {st : hz_St} (h : hN j f st) : ∀ m, hN (j + m) f (hs_nights st m)
  | 0 => h
  | m + 1 => hN_night (hN_nights h m)
theorem ha_tot {st : hz_St} (hok : hz_okS st) : ∀ m, ∃ t, t ≤ 90 * m ∧ hz_tot st m = nI t
  | 0 => ⟨0, Nat.le_refl _, rfl⟩
  | m + 1 => by
    obtain ⟨t, ht, e⟩ := ha_tot hok m
    have ok := hz_ok_nights hok m
    have q := hx_night ok
    have l := hx_cost90 ok (hz_g (hs_nights st m))
    refine ⟨t + hz_cost (hs_nights st m) (hz_g (hs_nights st m)), by omega, ?_⟩
    show hz_tot st m + hz_night (hs_nights st m).2.1 (hs_nights st m).1 (hs_nights st m).2.2.2.1 (hs_nights st m).2.2.1 = _
    rw [e, q, nI_add]
/-- what a change answers, and leaves -/
def hA (i : Nat) (w : hz_W) (X : hz_X) : Prop := (∃ E, X = (.inr E, w)) ∨ ∃ v st, X = (hz_o v, sp_saved w st) ∧ 0 ≤ v ∧ hI (i + 1) st
theorem hA_make {i : Nat} {w : hz_W} (I : hI i w.1) (ok : hz_okS w.1) (f l e : Int32) : hA i w (sp_make w f l e) ∧ hz_thr hz_IAE hz_ISE (sp_make w f l e).1 := by
  by_cases c : hz_mkc f l e
  · by_cases n : w.1.1 < 10
    · rw [sp_make_y c n]
      refine ⟨Or.inr ⟨_, _, rfl, nI_pos' (by omega), ?_⟩, trivial⟩
      obtain ⟨h1, ⟨d, hd, e1⟩, h3⟩ := I
      refine ⟨?_, ⟨d, by omega, e1⟩, fun k hk => ?_⟩
      · show w.1.2.2.2.2.1 = hz_acc (hs_add w.1 f l e).2.1 w.1.2.2.2.2.2 (w.1.1 + 1)
        have q : hz_acc (hs_add w.1 f l e).2.1 w.1.2.2.2.2.2 (w.1.1 + 1) = hz_acc (hs_add w.1 f l e).2.1 w.1.2.2.2.2.2 w.1.1 + (if w.1.1 = w.1.1 then hs_row f l e 5 else w.1.2.1 w.1.1 5) := rfl
        rw [q, if_pos rfl, ha_acc (R := w.1.2.1) (fun k hk => if_neg (by omega)), h1]
        exact (Int32.add_zero _).symm
      · have hk : k < w.1.1 + 1 := hk
        show ∃ q, q ≤ _ ∧ (if k = w.1.1 then hs_row f l e 4 else w.1.2.1 k 4) = nI q
        by_cases z : k = w.1.1
        · rw [if_pos z]
          exact ⟨0, Nat.zero_le _, rfl⟩
        · rw [if_neg z]
          obtain ⟨q, hq, eq⟩ := h3 k (by omega)
          exact ⟨q, by omega, eq⟩
    · rw [sp_make_f c n]
      exact ⟨Or.inl ⟨_, rfl⟩, Or.inr rfl⟩
  · rw [sp_make_n c]
    exact ⟨Or.inl ⟨_, rfl⟩, Or.inl rfl⟩
theorem hA_withdraw {i : Nat} {w : hz_W} (I : hI i w.1) (ok : hz_okS w.1) (x : Int32) : hA i w (sp_withdraw w x) ∧ hz_thr hz_IOB hz_IOB (sp_withdraw w x).1 := by
  have n10 := ok.1
  unfold sp_withdraw
  cases hx : hz_ix x w.1.1 with
  | none => exact ⟨Or.inl ⟨_, rfl⟩, Or.inl rfl⟩
  | some r =>
    obtain ⟨-, hr⟩ := hz_ix_s (by omega) hx
    refine ⟨Or.inr ⟨_, _, rfl, nI_pos' (by omega), ?_⟩, trivial⟩
    obtain ⟨h1, ⟨d, hd, e1⟩, h3⟩ := I
    refine ⟨?_, ⟨d, by omega, e1⟩, fun k hk => ?_⟩
    · show w.1.2.2.2.2.1 = hz_acc (hs_drop w.1 r).2.1 (w.1.2.2.2.2.2 + w.1.2.1 r 5) (w.1.1 - 1)
      rw [(ha_drop w.1 r w.1.2.2.2.2.2 (w.1.1 - 1)).2 (by omega), show w.1.1 - 1 + 1 = w.1.1 by omega]
      exact h1
    · have hk : k < w.1.1 - 1 := hk
      show ∃ q, q ≤ _ ∧ (if k < r then w.1.2.1 k 4 else w.1.2.1 (k + 1) 4) = nI q
      by_cases z : k < r
      · rw [if_pos z]
        obtain ⟨q, hq, eq⟩ := h3 k (by omega)
        exact ⟨q, by omega, eq⟩
      · rw [if_neg z]
        obtain ⟨q, hq, eq⟩ := h3 (k + 1) (by omega)
        exact ⟨q, by omega, eq⟩
theorem hA_attr {i : Nat} {st : hz_St} (I : hI i st) {r a : Nat} {x : Int32} (h5 : a ≠ 5) (h4 : a = 4 → ∃ q, q ≤ 8 * i + 30 ∧ x = nI q) : hI (i + 1) (hs_attr st r a x) := by
  obtain ⟨h1, ⟨d, hd, e1⟩, h3⟩ := I
  refine ⟨?_, ⟨d, by omega, e1⟩, fun k hk => ?_⟩
  · show st.2.2.2.2.1 = hz_acc (hs_attr st r a x).2.1 st.2.2.2.2.2 st.1
    rw [ha_acc (R := st.2.1) (fun k _ => if_neg (fun z => h5 z.2.symm))]
    exact h1
  · obtain ⟨q, hq, eq⟩ := h3 k hk
    show ∃ q, q ≤ _ ∧ (if k = r ∧ 4 = a then x else st.2.1 k 4) = nI q
    by_cases z : k = r ∧ 4 = a
    · rw [if_pos z]
      obtain ⟨q, hq, eq⟩ := h4 z.2.symm
      exact ⟨q, by omega, eq⟩
    · rw [if_neg z]
      exact ⟨q, by omega, eq⟩
theorem hA_setStrict {i : Nat} {w : hz_W} (I : hI i w.1) (ok : hz_okS w.1) (x : Int32) (b : Bool) : hA i w (sp_setStrict w x b) ∧ hz_thrZ hz_IOB hz_IOB (sp_setStrict w x b).1 := by
  have n10 := ok.1
  unfold sp_setStrict
  cases hx : hz_ix x w.1.1 with
  | none => exact ⟨Or.inl ⟨_, rfl⟩, Or.inl rfl⟩
  | some r =>
    obtain ⟨-, hr⟩ := hz_ix_s (by omega) hx
    refine ⟨Or.inr ⟨_, _, rfl, ?_, hA_attr I (by decide) (fun z => absurd z (by decide))⟩, ok.s r hr⟩
    rcases ok.s r hr with e | e <;> rw [e] <;> decide
theorem hA_waive {i : Nat} (hi : i ≤ 100) {w : hz_W} (I : hI i w.1) (ok : hz_okS w.1) (x days : Int32) : hA i w (sp_waive w x days) ∧ hz_thr hz_IOB hz_IAE (sp_waive w x days).1 := by
  have n10 := ok.1
  unfold sp_waive
  cases hx : hz_ix x w.1.1 with
  | none => exact ⟨Or.inl ⟨_, rfl⟩, Or.inl rfl⟩
  | some r =>
    obtain ⟨-, hr⟩ := hz_ix_s (by omega) hx
    dsimp only
    by_cases c : 0 ≤ days ∧ days ≤ 30
    · rw [if_pos c]
      obtain ⟨q, hq, rfl⟩ := nI_of2 (M := 30) (n := 30) (by decide) (Int32.not_lt.mpr c.1) c.2
      obtain ⟨d, hd, e1⟩ := I.2.1
      have e2 : w.1.2.2.2.1 + nI q = nI (d + q) := by rw [e1, nI_add]
      refine ⟨Or.inr ⟨_, _, rfl, ?_, hA_attr I (by decide) (fun _ => ⟨d + q, by omega, e2⟩)⟩, trivial⟩
      rw [e2]
      exact nI_pos' (by omega)
    · rw [if_neg c]
      exact ⟨Or.inl ⟨_, rfl⟩, Or.inr rfl⟩
theorem hA_move {i : Nat} {w : hz_W} (I : hI i w.1) (ok : hz_okS w.1) (x : Int32) (b : Bool) : hA i w (sp_move w x b) ∧ hz_thr hz_IOB hz_ISE (sp_move w x b).1 := by
  unfold sp_move
  cases hx : hz_ix x 6 with
  | none => exact ⟨Or.inl ⟨_, rfl⟩, Or.inl rfl⟩
  | some r =>
    obtain ⟨-, hr⟩ := hz_ix_s (by decide) hx
    dsimp only
    split
    · obtain ⟨h1, ⟨d, hd, e1⟩, h3⟩ := I
      refine ⟨Or.inr ⟨_, _, rfl, ?_, h1, ⟨d, by omega, e1⟩, fun k hk => ?_⟩, trivial⟩
      · obtain ⟨t1, t2⟩ := hx_turn ok hr
        show 0 ≤ w.1.2.2.1 ^^^ ((1 : Int32) <<< (nI r &&& 31))
        rw [t1]
        exact nI_pos' (by omega)
      · obtain ⟨q, hq, eq⟩ := h3 k hk
        exact ⟨q, by omega, eq⟩
    · exact ⟨Or.inl ⟨_, rfl⟩, Or.inr rfl⟩
theorem hA_pass {i : Nat} {w : hz_W} (I : hI i w.1) (ok : hz_okS w.1) {q : Nat} (hq : q ≤ 8) : hA i w (sp_pass w (nI q)) ∧ hz_thr hz_IAE hz_IAE (sp_pass w (nI q)).1 := by
  unfold sp_pass
  cases hx : hz_nn (nI q) with
  | none => exact ⟨Or.inl ⟨_, rfl⟩, Or.inl rfl⟩
  | some k =>
    obtain ⟨e, k1, k30⟩ := hz_nn_s hx
    have ek : q = k := (nI_eq (a := q) (b := k) (by omega) (by omega)).mp e
    obtain ⟨t, ht, et⟩ := ha_tot ok k
    obtain ⟨h1, ⟨d, hd, e1⟩, h3⟩ := I
    have n := hN_nights (j := 8 * i) (f := 8 * i + 30) (st := w.1) ⟨h1, ⟨d, hd, e1⟩, h3⟩ k
    refine ⟨Or.inr ⟨_, _, rfl, by rw [et]; exact nI_pos' (by omega), n.1, ?_, fun j hj => ?_⟩, trivial⟩
    · obtain ⟨d, hd, e1⟩ := n.2.1
      exact ⟨d, by omega, e1⟩
    · obtain ⟨f, hf, ef⟩ := n.2.2 j hj
      exact ⟨f, by omega, ef⟩
theorem hA_told {i : Nat} {w : hz_W} {X : hz_X} (E1 : String) (A : hA i w X) : (hz_hc E1 X.1 < 0 ∧ X.2 = w) ∨ (0 ≤ hz_hc E1 X.1 ∧ ∃ st, X.2 = sp_saved w st ∧ hI (i + 1) st) := by
  rcases A with ⟨E, rfl⟩ | ⟨v, st, rfl, h0, I⟩
  · refine Or.inl ⟨?_, rfl⟩
    show (if E = E1 then (-2000001 : Int32) else -2000002) < 0
    split <;> decide
  · exact Or.inr ⟨h0, st, rfl, I⟩
