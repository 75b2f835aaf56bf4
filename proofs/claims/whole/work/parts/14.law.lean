/-! THE LAW over the little machine: its body's predicate gives the walk -/
theorem ck_law : ∀ e ∈ co_law, (decide (decode code e.1 = .ok (e.2.1, e.2.2.1)) && mz_chk 12 1 e) = true := by
  have key : ∀ j, (co_law.drop j |>.take 50).all (fun e => decide (decode code e.1 = .ok (e.2.1, e.2.2.1)) && mz_chk 12 1 e) = true → ∀ i, j ≤ i → i < j + 50 → ∀ e, co_law[i]? = some e → (decide (decode code e.1 = .ok (e.2.1, e.2.2.1)) && mz_chk 12 1 e) = true := by
    intro j h i h1 h2 e he
    refine List.all_eq_true.mp h e (List.mem_of_getElem? (i := i - j) ?_)
    rw [List.getElem?_take_of_lt (by omega), List.getElem?_drop, show j + (i - j) = i by omega]
    exact he
  intro e he
  obtain ⟨i, hi⟩ := List.getElem?_of_mem he
  have hl : co_law.length = 565 := by decide +kernel
  have hlt : i < 565 := by rw [← hl]; exact (List.getElem?_eq_some_iff.mp hi).1
  by_cases z1 : i < 50
  · exact key 0 ck_law_0 i (by omega) (by omega) e hi
  by_cases z2 : i < 100
  · exact key 50 ck_law_50 i (by omega) (by omega) e hi
  by_cases z3 : i < 150
  · exact key 100 ck_law_100 i (by omega) (by omega) e hi
  by_cases z4 : i < 200
  · exact key 150 ck_law_150 i (by omega) (by omega) e hi
  by_cases z5 : i < 250
  · exact key 200 ck_law_200 i (by omega) (by omega) e hi
  by_cases z6 : i < 300
  · exact key 250 ck_law_250 i (by omega) (by omega) e hi
  by_cases z7 : i < 350
  · exact key 300 ck_law_300 i (by omega) (by omega) e hi
  by_cases z8 : i < 400
  · exact key 350 ck_law_350 i (by omega) (by omega) e hi
  by_cases z9 : i < 450
  · exact key 400 ck_law_400 i (by omega) (by omega) e hi
  by_cases z10 : i < 500
  · exact key 450 ck_law_450 i (by omega) (by omega) e hi
  by_cases z11 : i < 550
  · exact key 500 ck_law_500 i (by omega) (by omega) e hi
  · exact key 550 ck_law_550 i (by omega) (by omega) e hi
theorem mz_decL {pc : Nat} {q : Instr × Nat × Nat × Nat} (hq : mz_lk co_law pc = some q) : decode code pc = .ok (q.1, q.2.1) ∧ mz_chk 12 1 (pc, q) = true := by
  have h1 := ck_law _ (mz_lk_mem co_law pc q hq)
  simp only [Bool.and_eq_true, decide_eq_true_eq] at h1
  exact h1
/-- the start: the first zones, the script -/
def mz_h0 (L : Nat) (xs : Nat → Int32) : mz_H := fun k => match k with
  | 0 => .inl (0, 8, mz_zn)
  | 1 => .inl (0, L, xs)
  | _ => .inl (0, 0, fun _ => 0)
set_option maxHeartbeats 4000000 in
theorem mz_law {p : Program} {e : Env} {s : State} {m : MethodId} {below : List Frame} {meth : Method} {c : Code} (l : Launch) {b L : Nat} {xs : Nat → Int32} (C0 : lw_At p s m meth c b L xs) (hw : mz_WP (mz_wc 8) 8 2 co_law (fun r _ _ => r = some (.int 1)) 0 [some (.ref 1), none, none, none] [] 0 (mz_h0 L xs) 600000 7302250) : W p l e room_1 s m #[Value.ref b] below meth c s.heap [] 0 0 (lw_Z below #[Value.ref b] s) (entryFrame m ([Value.ref b] : List Value).toArray 4) := by
  obtain ⟨hx, hb, hr, hml, hown, hts, hX, hbl, hlocks, hgv⟩ := id C0
  have hgw : ∀ w ∈ mz_gw, w.before #[Value.ref b] s = true := fun w hw => hts w (List.mem_filter.mp hw).1
  have hnw : ∀ w ∈ mz_nw, va_Nw w s := fun w hw => va_Nw.of (mz_nwT hw) (hts w (List.mem_filter.mp hw).1)
  have hA : ∀ q : Nat, s.heap.size ≤ q → (fun q : Nat => s.heap.size ≤ q) q := fun _ h => h
  have hout : ∀ a : Nat, a < s.heap.size → ¬ (fun q : Nat => s.heap.size ≤ q) a := fun a h => Nat.not_le.mpr h
  -- kinds of object
  have hkn : ∀ i, ∃ ci : ClassId × (Nat → Nat), i < 12 → u_Kn s (mz_RN i) (mz_F i) (mz_N i) ci.1 ci.2 := by
    intro i
    by_cases hi : i < 12
    · obtain ⟨c0, iS0, hk⟩ := u_known (C := mz_RN i) (T := mz_F i) (N := mz_N i) (n := mz_N i) hgw (mz_uws hi) (hgw _ (mz_cls1 hi).2.1)
      exact ⟨(c0, iS0), fun _ => hk⟩
    · exact ⟨(m.cls, fun _ => 0), fun z => absurd z hi⟩
  obtain ⟨cI, kI, coI, fI, gI, jI⟩ := Cond.arrayClass_spec (hgw _ (mz_mem mz_arrok.1 rfl))
  obtain ⟨cB, kB, coB, fB, gB, jB⟩ := Cond.arrayClass_spec (hgw _ (mz_mem mz_arrok.2 rfl))
  have hK : va_K (fun i => (Classical.choose (hkn i)).1, fun i => (Classical.choose (hkn i)).2) mz_cls (mz_tys cI cB) s := by
    refine ⟨fun k q hq => ?_, fun k q hq => ?_⟩
    · have hk : k < 12 := (List.getElem?_eq_some_iff.mp hq).1
      rw [mz_clsAt hk] at hq
      cases hq
      exact Classical.choose_spec (hkn k) hk
    · match k, hq with
      | 0, hq => cases hq; exact ⟨fun n z => ⟨fun k h => (by cases h), kI, gI, coI, jI⟩, fI⟩
      | 1, hq => cases hq; exact ⟨fun n z => ⟨fun k h => (by cases h), kB, gB, coB, jB⟩, fB⟩
      | k + 2, hq => simp [mz_tys] at hq
  -- what nobody writes
  have hfl := flat_of_before _ hgv
  obtain ⟨t0, ht0, hT0⟩ := va_Tof (args := #[Value.ref b]) (s := s) (tm := .static "TapLedger$Tariff" "FIRST_ZONES" "[I") (ty := .int) (N := 8) (f := fun j => .int (mz_zn j)) (A := fun q : Nat => s.heap.size ≤ q) (by decide) (hfl _ (by decide +kernel)) (va_eqt (hfl (Cond.eq (.length (.static "TapLedger$Tariff" "FIRST_ZONES" "[I")) (.int 8)) (by decide +kernel))) (fun j hj => by
    match j, hj with
    | 0, _ => exact va_eqt (hfl (Cond.eq (.elem (.static "TapLedger$Tariff" "FIRST_ZONES" "[I") (.int 0)) (.int 1)) (by decide +kernel))
    | 1, _ => exact va_eqt (hfl (Cond.eq (.elem (.static "TapLedger$Tariff" "FIRST_ZONES" "[I") (.int 1)) (.int 2)) (by decide +kernel))
    | 2, _ => exact va_eqt (hfl (Cond.eq (.elem (.static "TapLedger$Tariff" "FIRST_ZONES" "[I") (.int 2)) (.int 3)) (by decide +kernel))
    | 3, _ => exact va_eqt (hfl (Cond.eq (.elem (.static "TapLedger$Tariff" "FIRST_ZONES" "[I") (.int 3)) (.int 4)) (by decide +kernel))
    | 4, _ => exact va_eqt (hfl (Cond.eq (.elem (.static "TapLedger$Tariff" "FIRST_ZONES" "[I") (.int 4)) (.int 5)) (by decide +kernel))
    | 5, _ => exact va_eqt (hfl (Cond.eq (.elem (.static "TapLedger$Tariff" "FIRST_ZONES" "[I") (.int 5)) (.int 1)) (by decide +kernel))
    | 6, _ => exact va_eqt (hfl (Cond.eq (.elem (.static "TapLedger$Tariff" "FIRST_ZONES" "[I") (.int 6)) (.int 2)) (by decide +kernel))
    | 7, _ => exact va_eqt (hfl (Cond.eq (.elem (.static "TapLedger$Tariff" "FIRST_ZONES" "[I") (.int 7)) (.int 3)) (by decide +kernel))
    | k + 8, h => omega) hout
  have hZ0 : va_Z "TapLedger$Tariff" "FIRST_ZONES" "[I" (.ref t0) (fun q : Nat => s.heap.size ≤ q) s s.heap := va_Zref (hts (.laysStatic "TapLedger$Tariff" "FIRST_ZONES" "[I") (by decide +kernel)) (hts (.initialized "TapLedger$Tariff") (by decide +kernel)) ht0 hout
  have hT1 : va_T .int b L (fun j => .int (xs j)) (fun q : Nat => s.heap.size ≤ q) s s.heap := by
    obtain ⟨scr, g1, g2, g3, g4, g5⟩ := hX
    exact ⟨scr, g1, g2, g3, Nat.le_of_eq g4.symm, by rw [g4], g5, hout b hbl⟩
  have C1 : mz_ctx p room_1 s m #[Value.ref b] meth c code 4 12 1 8 (fun i => (Classical.choose (hkn i)).1, fun i => (Classical.choose (hkn i)).2) cI cB (fun q : Nat => s.heap.size ≤ q) [t0, b] L xs co_law :=
    ⟨hx, hb, hml, hown, hgw, hnw, hK, hA, ⟨hT0, hZ0, hT1⟩, ⟨Nat.le_of_ble_eq_true rfl, Nat.le_of_ble_eq_true rfl⟩, fun z => absurd z (by decide), fun pc q z => mz_decL z, Nat.le_refl 2⟩
  have hl := lv_entry ([.ref b]) (n := 4) (Nat.le_of_ble_eq_true rfl)
  rw [lg_entry_eq]
  generalize (lg_sl ([.ref b]) ++ List.replicate (4 - (lg_sl ([.ref b])).length) Slot.unset).toArray = ls at hl ⊢
  have sim : mz_sim room_1 s 4 (fun i => (Classical.choose (hkn i)).1, fun i => (Classical.choose (hkn i)).2) cI cB (fun q : Nat => s.heap.size ≤ q) [t0, b] L xs [some (.ref 1), none, none, none] [] 0 (mz_h0 L xs) 600000 7302250 [t0, b] ls s.heap [] 0 0 := by
    have hk : ∀ i v, mz_nth [some (.ref 1), none, none, none] i = some v → i = 0 ∧ v = .ref 1 := by
      intro i v hv
      match i, hv with
      | 0, hv => cases hv; exact ⟨rfl, rfl⟩
      | 1, hv => cases hv
      | 2, hv => cases hv
      | 3, hv => cases hv
      | k + 4, hv => cases hv
    refine ⟨⟨hl.1, hl.2.1, rfl, fun i v hv => ?_⟩, ⟨fun k q h => by simp [mz_ws] at h, ⟨fun i j p q h => by simp [mz_ws] at h, fun k q h => by simp [mz_ws] at h⟩, va_S.rf⟩, ⟨rfl, fun k hk => ?_, (fun _ z => by cases z), fun i v hv => ?_⟩, ⟨rfl, rfl, [], rfl⟩, Nat.zero_add _, Nat.zero_add _⟩
    · obtain ⟨rfl, rfl⟩ := hk i v hv
      exact hl.2.2 (0, .ref b) List.mem_cons_self
    · match k, hk with
      | 0, _ => exact trivial
      | 1, _ => exact trivial
      | k + 2, h => omega
    · obtain ⟨rfl, rfl⟩ := hk i v hv
      exact (show (1 : Nat) < 0 + 2 from Nat.le_refl 2)
  have hret : mz_Ret p l e room_1 s m #[Value.ref b] below meth c (lw_Z below #[Value.ref b] s) code 4 2 (fun i => (Classical.choose (hkn i)).1, fun i => (Classical.choose (hkn i)).2) cI cB (fun q : Nat => s.heap.size ≤ q) [t0, b] L xs (fun r _ _ => r = some (.int 1)) := by
    intro pc ins r L2 st n' h' bc bs φ' ls' H locs cells slots hd q hrets hQ
    have b1 : cells + bc = 600000 := q.2.2.2.2.1
    have b2 : slots + bs = 7302250 := q.2.2.2.2.2
    have hS := q.2.1.2.2
    rcases hrets with ⟨v, rfl, rfl, rfl, hk⟩ | ⟨a, rfl, rfl, rfl, hk⟩ | ⟨rfl, rfl, rfl, hk⟩
    · cases hQ
      refine va_forget (fun z hz => hS.2.2 z hz) ?_
      refine W.widen (k := 600000) (n := 7302250) (by omega) (by omega) ?_
      exact lw_ret hx hb hr hlocks hd
    · exact absurd hk (by decide)
    · exact absurd hk (by decide)
  exact hw _ (mz_walk C1 (mz_snd 8) hret) [t0, b] ls s.heap [] 0 0 sim
