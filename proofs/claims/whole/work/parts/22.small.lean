/-! truth values, ranges; the tariff, read only; the rides, read only -/
def bI (b : Bool) : Int32 := match b with
  | true => 1
  | false => 0
theorem bI_01 (b : Bool) : bI b = 0 ∨ bI b = 1 := by cases b <;> first | exact Or.inl rfl | exact Or.inr rfl
theorem bI_t {b : Bool} (h : ¬ bI b = 0) : b = true := by
  cases b
  · exact absurd rfl h
  · rfl
theorem bI_f {b : Bool} (h : bI b = 0) : b = false := by
  cases b
  · rfl
  · exact absurd h (by decide)
def inB (x lo hi : Int32) : Bool := !decide (x < lo) && !decide (hi < x)
def busyB (x : Int32) : Bool := decide (x / nI 1440 - x / nI 1440 / nI 7 * nI 7 < nI 5) && (inB (x - x / nI 1440 * nI 1440) (nI 420) (nI 569) || inB (x - x / nI 1440 * nI 1440) (nI 960) (nI 1109))
section SM
variable {e n : Nat} {h : mz_H} {Q : mz_Q}
theorem s_within {x lo hi : Int32} (H : Q (some (.int (bI (inB x lo hi)))) n h) : mz_wc (e + 1) 104 [.int x, .int lo, .int hi] n h Q := by
  refine mz_wc.enter (code := co_X10_isWithin) (idx := 104) rfl rfl (Nat.le_of_ble_eq_true rfl) rfl rfl ?_
  refine mz_WP.run 80 rfl ?_
  have out : inB x lo hi = false → mz_WP (mz_wc e) e 2 co_X10_isWithin Q 14 [some (.int x), some (.int lo), some (.int hi)] [] n h 0 0 := by
    intro hb
    rw [hb] at H
    refine mz_WP.run 80 rfl ?_
    exact mz_WP.zret rfl rfl (Or.inl rfl) H
  refine mz_WP.icmp rfl (fun c => ?_) (fun c => ?_)
  · have c : x < lo := c
    exact out (by unfold inB; rw [decide_eq_true c]; rfl)
  · have c : ¬ x < lo := c
    refine mz_WP.run 80 rfl ?_
    refine mz_WP.icmp rfl (fun c2 => ?_) (fun c2 => ?_)
    · have c2 : hi < x := c2
      exact out (by unfold inB; rw [decide_eq_true c2, Bool.not_true, Bool.and_false])
    · have c2 : ¬ hi < x := c2
      have hb : inB x lo hi = true := by unfold inB; rw [decide_eq_false c, decide_eq_false c2]; rfl
      rw [hb] at H
      refine mz_WP.run 80 rfl ?_
      refine mz_WP.run 80 rfl ?_
      exact mz_WP.zret rfl rfl (Or.inr rfl) H
theorem s_busy {x : Int32} (H : Q (some (.int (bI (busyB x)))) n h) : mz_wc (e + 2) 116 [.int x] n h Q := by
  refine mz_wc.enter (code := co_X10_isBusy) (idx := 116) rfl rfl (Nat.le_of_ble_eq_true rfl) rfl rfl ?_
  refine mz_WP.run 80 rfl ?_
  refine mz_WP.cs rfl (by decide) rfl (Nat.le_of_ble_eq_true rfl) rfl (s_dayOf ?_)
  refine mz_WP.run 80 rfl ?_
  refine mz_WP.rem rfl (by decide) ?_
  refine mz_WP.run 80 rfl ?_
  refine mz_WP.icmp rfl (fun c => ?_) (fun c => ?_)
  · have c : x / nI 1440 - x / nI 1440 / nI 7 * nI 7 < nI 5 := c
    refine mz_WP.run 80 rfl ?_
    refine mz_WP.cs rfl (by decide) rfl (Nat.le_of_ble_eq_true rfl) rfl (s_minuteOf ?_)
    refine mz_WP.run 80 rfl ?_
    refine mz_WP.cs rfl (by decide) rfl (Nat.le_of_ble_eq_true rfl) rfl (s_within ?_)
    refine mz_WP.ifc rfl (fun c1 => ?_) (fun c1 => ?_)
    · have hb : busyB x = true := by unfold busyB; rw [decide_eq_true c, bI_t c1]; rfl
      rw [hb] at H
      refine mz_WP.run 80 rfl ?_
      refine mz_WP.run 80 rfl ?_
      exact mz_WP.zret rfl rfl (Or.inr rfl) H
    · have c1 := bI_f (Classical.byContradiction c1)
      refine mz_WP.run 80 rfl ?_
      refine mz_WP.cs rfl (by decide) rfl (Nat.le_of_ble_eq_true rfl) rfl (s_within ?_)
      refine mz_WP.ifc rfl (fun c2 => ?_) (fun c2 => ?_)
      · have hb : busyB x = false := by unfold busyB; rw [decide_eq_true c, c1, bI_f c2]; rfl
        rw [hb] at H
        refine mz_WP.run 80 rfl ?_
        exact mz_WP.zret rfl rfl (Or.inl rfl) H
      · have hb : busyB x = true := by unfold busyB; rw [decide_eq_true c, c1, bI_t c2]; rfl
        rw [hb] at H
        refine mz_WP.run 80 rfl ?_
        refine mz_WP.run 80 rfl ?_
        exact mz_WP.zret rfl rfl (Or.inr rfl) H
  · have c : ¬ x / nI 1440 - x / nI 1440 / nI 7 * nI 7 < nI 5 := c
    have hb : busyB x = false := by unfold busyB; rw [decide_eq_false c]; rfl
    rw [hb] at H
    refine mz_WP.run 80 rfl ?_
    exact mz_WP.zret rfl rfl (Or.inl rfl) H
/-- the tariff at a -/
def TrA (h : mz_H) (a : Nat) (zr fr cr wr : Nat → Int32) (mo ne : Int32) : Prop := h a = .inr (9, [.ref (a + 1), .ref (a + 3), .ref (a + 5), .ref (a + 7), .int mo, .int ne]) ∧ (h (a + 1) = .inr (6, [.ref (a + 2)]) ∧ h (a + 3) = .inr (6, [.ref (a + 4)]) ∧ h (a + 5) = .inr (6, [.ref (a + 6)]) ∧ h (a + 7) = .inr (6, [.ref (a + 8)])) ∧ h (a + 2) = .inl (0, 8, zr) ∧ h (a + 4) = .inl (0, 6, fr) ∧ h (a + 6) = .inl (0, 6, cr) ∧ h (a + 8) = .inl (0, 6, wr)
theorem TrA.to {h h' : mz_H} {a : Nat} {zr fr cr wr : Nat → Int32} {mo ne : Int32} (T : TrA h a zr fr cr wr mo ne) (hh : ∀ b, a ≤ b → b ≤ a + 8 → h' b = h b) : TrA h' a zr fr cr wr mo ne := by
  obtain ⟨e0, ⟨e1, e3, e5, e7⟩, e2, e4, e6, e8⟩ := T
  exact ⟨(hh _ (by omega) (by omega)).trans e0, ⟨(hh _ (by omega) (by omega)).trans e1, (hh _ (by omega) (by omega)).trans e3, (hh _ (by omega) (by omega)).trans e5, (hh _ (by omega) (by omega)).trans e7⟩, (hh _ (by omega) (by omega)).trans e2, (hh _ (by omega) (by omega)).trans e4, (hh _ (by omega) (by omega)).trans e6, (hh _ (by omega) (by omega)).trans e8⟩
variable {a : Nat} {zr fr cr wr : Nat → Int32} {mo ne : Int32}
theorem s_near (T : TrA h a zr fr cr wr mo ne) (H : Q (some (.int ne)) n h) : mz_wc (e + 1) 76 [.ref a] n h Q := by
  refine mz_wc.enter (code := co_X9_near) (idx := 76) rfl rfl (Nat.le_of_ble_eq_true rfl) rfl rfl ?_
  refine mz_WP.run 80 rfl ?_
  refine mz_WP.getf rfl (T.1) rfl (Nat.le_of_ble_eq_true rfl) ?_
  exact mz_WP.ret rfl rfl H
theorem s_zoneOf {i : Int32} (T : TrA h a zr fr cr wr mo ne) (H : Q (some (.int (rat 8 zr i))) n h) : mz_wc (e + 2) 72 [.ref a, .int i] n h Q := by
  refine mz_wc.enter (code := co_X9_zoneOf) (idx := 72) rfl rfl (Nat.le_of_ble_eq_true rfl) rfl rfl ?_
  refine mz_WP.run 80 rfl ?_
  refine mz_WP.getf rfl (T.1) rfl (Nat.le_of_ble_eq_true rfl) ?_
  refine mz_WP.run 80 rfl ?_
  refine mz_WP.cv rfl rfl (Nat.le_of_ble_eq_true rfl) rfl (T.2.1.1) rfl (s_at T.2.1.1 T.2.2.1 (by decide) ?_)
  exact mz_WP.ret rfl rfl H
theorem s_jcost {i : Int32} {b : Bool} (T : TrA h a zr fr cr wr mo ne) (H : Q (some (.int (rat 6 fr i + (if b then mo else 0)))) n h) : mz_wc (e + 2) 77 [.ref a, .int i, .int (bI b)] n h Q := by
  refine mz_wc.enter (code := co_X9_journeyCost) (idx := 77) rfl rfl (Nat.le_of_ble_eq_true rfl) rfl rfl ?_
  refine mz_WP.run 80 rfl ?_
  refine mz_WP.getf rfl (T.1) rfl (Nat.le_of_ble_eq_true rfl) ?_
  refine mz_WP.run 80 rfl ?_
  refine mz_WP.cv rfl rfl (Nat.le_of_ble_eq_true rfl) rfl (T.2.1.2.1) rfl (s_at T.2.1.2.1 T.2.2.2.1 (by decide) ?_)
  refine mz_WP.run 80 rfl ?_
  refine mz_WP.ifc rfl (fun c => ?_) (fun c => ?_)
  · rw [bI_f c] at H
    refine mz_WP.run 80 rfl ?_
    exact mz_WP.ret rfl rfl H
  · rw [bI_t c] at H
    refine mz_WP.run 80 rfl ?_
    refine mz_WP.getf rfl (T.1) rfl (Nat.le_of_ble_eq_true rfl) ?_
    refine mz_WP.run 80 rfl ?_
    refine mz_WP.run 80 rfl ?_
    exact mz_WP.ret rfl rfl H
theorem s_capped {x i : Int32} (T : TrA h a zr fr cr wr mo ne) (H : Q (some (.int (if i = 0 then 0 else if rat 6 cr i < x then rat 6 cr i else x))) n h) : mz_wc (e + 2) 78 [.ref a, .int x, .int i] n h Q := by
  refine mz_wc.enter (code := co_X9_capped) (idx := 78) rfl rfl (Nat.le_of_ble_eq_true rfl) rfl rfl ?_
  refine mz_WP.run 80 rfl ?_
  refine mz_WP.ifc rfl (fun c => ?_) (fun c => ?_)
  · have c : ¬ i = 0 := c
    rw [if_neg c] at H
    refine mz_WP.run 80 rfl ?_
    refine mz_WP.getf rfl (T.1) rfl (Nat.le_of_ble_eq_true rfl) ?_
    refine mz_WP.run 80 rfl ?_
    refine mz_WP.cv rfl rfl (Nat.le_of_ble_eq_true rfl) rfl (T.2.1.2.2.1) rfl (s_at T.2.1.2.2.1 T.2.2.2.2.1 (by decide) ?_)
    refine mz_WP.mn rfl rfl (by omega) (Nat.le_of_ble_eq_true rfl) ?_
    exact mz_WP.ret rfl rfl H
  · have c : i = 0 := Classical.byContradiction c
    rw [if_pos c] at H
    refine mz_WP.run 80 rfl ?_
    refine mz_WP.run 80 rfl ?_
    exact mz_WP.ret rfl rfl H
theorem s_weekCost {i : Int32} (T : TrA h a zr fr cr wr mo ne) (H : Q (some (.int (if i = 0 then 0 else rat 6 wr i))) n h) : mz_wc (e + 2) 79 [.ref a, .int i] n h Q := by
  refine mz_wc.enter (code := co_X9_weekCost) (idx := 79) rfl rfl (Nat.le_of_ble_eq_true rfl) rfl rfl ?_
  refine mz_WP.run 80 rfl ?_
  refine mz_WP.ifc rfl (fun c => ?_) (fun c => ?_)
  · have c : ¬ i = 0 := c
    rw [if_neg c] at H
    refine mz_WP.run 80 rfl ?_
    refine mz_WP.getf rfl (T.1) rfl (Nat.le_of_ble_eq_true rfl) ?_
    refine mz_WP.run 80 rfl ?_
    refine mz_WP.cv rfl rfl (Nat.le_of_ble_eq_true rfl) rfl (T.2.1.2.2.2) rfl (s_at T.2.1.2.2.2 T.2.2.2.2.2 (by decide) ?_)
    exact mz_WP.ret rfl rfl H
  · have c : i = 0 := Classical.byContradiction c
    rw [if_pos c] at H
    refine mz_WP.run 80 rfl ?_
    refine mz_WP.run 80 rfl ?_
    exact mz_WP.ret rfl rfl H
/-- the rides, read only -/
def RdA (h : mz_H) (c : Nat) (bs es bm em kd : Nat → Int32) : Prop := h 140 = .inr (5, [.ref 141, .ref 143, .ref 145, .ref 147, .ref 149, .ref 151, .ref 153, .int (nI c)]) ∧ h 142 = .inl (0, 48, bs) ∧ h 144 = .inl (0, 48, es) ∧ h 146 = .inl (0, 48, bm) ∧ h 148 = .inl (0, 48, em) ∧ h 150 = .inl (0, 48, kd)
variable {c : Nat} {bs es bm em kd : Nat → Int32}
theorem RdA.to {h' : mz_H} (R : RdA h c bs es bm em kd) (hh : ∀ b, 140 ≤ b → b ≤ 150 → h' b = h b) : RdA h' c bs es bm em kd := by
  obtain ⟨e0, e1, e2, e3, e4, e5⟩ := R
  exact ⟨(hh _ (by omega) (by omega)).trans e0, (hh _ (by omega) (by omega)).trans e1, (hh _ (by omega) (by omega)).trans e2, (hh _ (by omega) (by omega)).trans e3, (hh _ (by omega) (by omega)).trans e4, (hh _ (by omega) (by omega)).trans e5⟩
theorem s_rsize (R : RdA h c bs es bm em kd) (H : Q (some (.int (nI c))) n h) : mz_wc (e + 1) 43 [.ref 140] n h Q := by
  refine mz_wc.enter (code := co_X5_size) (idx := 43) rfl rfl (Nat.le_of_ble_eq_true rfl) rfl rfl ?_
  refine mz_WP.run 80 rfl ?_
  refine mz_WP.getf rfl (R.1) rfl (Nat.le_of_ble_eq_true rfl) ?_
  exact mz_WP.ret rfl rfl H
theorem s_rbs {i : Int32} (F : Fx h) (R : RdA h c bs es bm em kd) (H : Q (some (.int (rat 48 bs i))) n h) : mz_wc (e + 2) 44 [.ref 140, .int i] n h Q := by
  refine mz_wc.enter (code := co_X5_beginStation) (idx := 44) rfl rfl (Nat.le_of_ble_eq_true rfl) rfl rfl ?_
  refine mz_WP.run 80 rfl ?_
  refine mz_WP.getf rfl (R.1) rfl (Nat.le_of_ble_eq_true rfl) ?_
  refine mz_WP.run 80 rfl ?_
  refine mz_WP.cv rfl rfl (Nat.le_of_ble_eq_true rfl) rfl (F _ _ rfl) rfl (s_at (F _ _ rfl) R.2.1 (by decide) ?_)
  exact mz_WP.ret rfl rfl H
theorem s_res {i : Int32} (F : Fx h) (R : RdA h c bs es bm em kd) (H : Q (some (.int (rat 48 es i))) n h) : mz_wc (e + 2) 45 [.ref 140, .int i] n h Q := by
  refine mz_wc.enter (code := co_X5_endStation) (idx := 45) rfl rfl (Nat.le_of_ble_eq_true rfl) rfl rfl ?_
  refine mz_WP.run 80 rfl ?_
  refine mz_WP.getf rfl (R.1) rfl (Nat.le_of_ble_eq_true rfl) ?_
  refine mz_WP.run 80 rfl ?_
  refine mz_WP.cv rfl rfl (Nat.le_of_ble_eq_true rfl) rfl (F _ _ rfl) rfl (s_at (F _ _ rfl) R.2.2.1 (by decide) ?_)
  exact mz_WP.ret rfl rfl H
theorem s_rbm {i : Int32} (F : Fx h) (R : RdA h c bs es bm em kd) (H : Q (some (.int (rat 48 bm i))) n h) : mz_wc (e + 2) 46 [.ref 140, .int i] n h Q := by
  refine mz_wc.enter (code := co_X5_beginMoment) (idx := 46) rfl rfl (Nat.le_of_ble_eq_true rfl) rfl rfl ?_
  refine mz_WP.run 80 rfl ?_
  refine mz_WP.getf rfl (R.1) rfl (Nat.le_of_ble_eq_true rfl) ?_
  refine mz_WP.run 80 rfl ?_
  refine mz_WP.cv rfl rfl (Nat.le_of_ble_eq_true rfl) rfl (F _ _ rfl) rfl (s_at (F _ _ rfl) R.2.2.2.1 (by decide) ?_)
  exact mz_WP.ret rfl rfl H
theorem s_rkd {i : Int32} (F : Fx h) (R : RdA h c bs es bm em kd) (H : Q (some (.int (rat 48 kd i))) n h) : mz_wc (e + 2) 47 [.ref 140, .int i] n h Q := by
  refine mz_wc.enter (code := co_X5_kind) (idx := 47) rfl rfl (Nat.le_of_ble_eq_true rfl) rfl rfl ?_
  refine mz_WP.run 80 rfl ?_
  refine mz_WP.getf rfl (R.1) rfl (Nat.le_of_ble_eq_true rfl) ?_
  refine mz_WP.run 80 rfl ?_
  refine mz_WP.cv rfl rfl (Nat.le_of_ble_eq_true rfl) rfl (F _ _ rfl) rfl (s_at (F _ _ rfl) R.2.2.2.2.2 (by decide) ?_)
  exact mz_WP.ret rfl rfl H
def lameB (a b : Int32) : Bool := decide (a = NN) || decide (b = NN)
theorem s_rlame {i : Int32} (F : Fx h) (R : RdA h c bs es bm em kd) (H : Q (some (.int (bI (lameB (rat 48 bs i) (rat 48 es i))))) n h) : mz_wc (e + 2) 48 [.ref 140, .int i] n h Q := by
  refine mz_wc.enter (code := co_X5_isLame) (idx := 48) rfl rfl (Nat.le_of_ble_eq_true rfl) rfl rfl ?_
  refine mz_WP.run 80 rfl ?_
  refine mz_WP.getf rfl (R.1) rfl (Nat.le_of_ble_eq_true rfl) ?_
  refine mz_WP.run 80 rfl ?_
  refine mz_WP.cv rfl rfl (Nat.le_of_ble_eq_true rfl) rfl (F _ _ rfl) rfl (s_at (F _ _ rfl) R.2.1 (by decide) ?_)
  refine mz_WP.run 80 rfl ?_
  have yes : lameB (rat 48 bs i) (rat 48 es i) = true → mz_WP (mz_wc (e + 1)) (e + 1) 2 co_X5_isLame Q 26 [some (.ref 140), some (.int i)] [] n h 0 0 := by
    intro hb
    rw [hb] at H
    refine mz_WP.run 80 rfl ?_
    refine mz_WP.run 80 rfl ?_
    exact mz_WP.zret rfl rfl (Or.inr rfl) H
  refine mz_WP.icmp rfl (fun c1 => ?_) (fun c1 => ?_)
  · have c1 : rat 48 bs i = NN := c1
    exact yes (by unfold lameB; rw [decide_eq_true c1]; rfl)
  · have c1 : ¬ rat 48 bs i = NN := c1
    refine mz_WP.run 80 rfl ?_
    refine mz_WP.getf rfl (R.1) rfl (Nat.le_of_ble_eq_true rfl) ?_
    refine mz_WP.run 80 rfl ?_
    refine mz_WP.cv rfl rfl (Nat.le_of_ble_eq_true rfl) rfl (F _ _ rfl) rfl (s_at (F _ _ rfl) R.2.2.1 (by decide) ?_)
    refine mz_WP.run 80 rfl ?_
    refine mz_WP.icmp rfl (fun c2 => ?_) (fun c2 => ?_)
    · have c2 : ¬ rat 48 es i = NN := c2
      have hb : lameB (rat 48 bs i) (rat 48 es i) = false := by unfold lameB; rw [decide_eq_false c1, decide_eq_false c2]; rfl
      rw [hb] at H
      refine mz_WP.run 80 rfl ?_
      exact mz_WP.zret rfl rfl (Or.inl rfl) H
    · have c2 : rat 48 es i = NN := Classical.byContradiction c2
      exact yes (by unfold lameB; rw [decide_eq_true c2, Bool.or_true])
end SM
