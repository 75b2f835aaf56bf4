/-! the class: zone, price, bar, hear, pass -/
theorem rat_c {m : Nat} (hm : m < 2 ^ 31) {f f' : Nat → Int32} (h : ∀ j, j < m → f j = f' j) : rat m f = rat m f' := by
  funext i
  unfold rat
  split
  · rfl
  · rename_i h0
    split
    · rfl
    · rename_i h1
      obtain ⟨j, hj, rfl⟩ := nI_of h0
      rw [nI_leI hm hj] at h1
      rw [nI_clamp hj]
      exact h j (by omega)
section P3
variable {e n : Nat} {h h' : mz_H} {Q : mz_Q} {g g' : Nat → Int32} {kp : Nat} {gi : Nat → Nat → Int32} {a : Nat} {zr fr cr wr : Nat → Int32} {mo ne : Int32}
theorem BS.to (B : BS h) (hh : ∀ b, 140 ≤ b → b ≤ 185 → h' b = h b) : BS h' := by
  obtain ⟨⟨z0, b1, b2, b3, b4, b5, b6, b7, g0, g1, g2, g3, g4, g5, g6, g7⟩, ⟨z1, c1, c2, c3, c4, c5, c6, f0, f1, f2, f3, f4, f5, f6⟩, ⟨d1, d2, d3, i1, i2, i3⟩, p1, p2, p3, p4, p5, q1, q2, q3, q4, q5⟩ := B
  have t : ∀ {b x}, 140 ≤ b → b ≤ 185 → h b = x → h' b = x := fun h1 h2 h3 => (hh _ h1 h2).trans h3
  exact ⟨⟨z0, b1, b2, b3, b4, b5, b6, b7, t (by omega) (by omega) g0, t (by omega) (by omega) g1, t (by omega) (by omega) g2, t (by omega) (by omega) g3, t (by omega) (by omega) g4, t (by omega) (by omega) g5, t (by omega) (by omega) g6, t (by omega) (by omega) g7⟩, ⟨z1, c1, c2, c3, c4, c5, c6, t (by omega) (by omega) f0, t (by omega) (by omega) f1, t (by omega) (by omega) f2, t (by omega) (by omega) f3, t (by omega) (by omega) f4, t (by omega) (by omega) f5, t (by omega) (by omega) f6⟩, ⟨d1, d2, d3, t (by omega) (by omega) i1, t (by omega) (by omega) i2, t (by omega) (by omega) i3⟩, p1, p2, p3, p4, p5, t (by omega) (by omega) q1, t (by omega) (by omega) q2, t (by omega) (by omega) q3, t (by omega) (by omega) q4, t (by omega) (by omega) q5⟩
theorem CI.now (C : CI h g kp gi) (hh : ∀ b, b < 3 ∨ 45 < b → h' b = h b) (F : Fx h') (W : WF g') (R : Rep 3 h' g') : CI h' g' kp gi := by
  obtain ⟨c1, c2, c3, c4, c5, ⟨z, m, s, w, c6⟩, c7, c8, c9, c10⟩ := C
  exact ⟨F, c2.to (fun b h1 _ => hh b (by omega)), (hh 2 (by omega)).trans c3, W, R, ⟨z, m, s, w, c6.to (fun b h1 _ => hh b (by omega))⟩, c7.to (fun b h1 _ => hh b (by omega)), c8.to (fun b h1 _ => hh b (by omega)), c9, fun i hi hk => ⟨(c10 i hi hk).1, (c10 i hi hk).2.to (fun b h1 _ => hh b (by omega))⟩⟩
theorem WFc.gg {c k : Nat} (W : WFc g c k) (hc : c < 4) (hg : ∀ x, x < 388 → g' x = g x) : WFc g' c k := by
  obtain ⟨w1, w2, w3, w4, w5⟩ := W
  have e1 : ∀ j, j < k → gm g' c j = gm g c j := fun j hj => hg _ (by omega)
  have e2 : ∀ j, j < k → gw g' c j = gw g c j := fun j hj => hg _ (by omega)
  exact ⟨w1, (hg _ (by omega)).trans w2, fun j hj => by rw [e1 j hj]; exact w3 j hj, fun j hj => by rw [e2 j hj]; exact w4 j hj, fun i j hi hj => by rw [e1 i (by omega), e1 j hj]; exact w5 i j hi hj⟩
theorem RepT.gg {t c k : Nat} (R : RepT h t g c k) (hc : c < 4) (hk : k ≤ 48) (hg : ∀ x, x < 388 → g' x = g x) : RepT h t g' c k := by
  obtain ⟨m, s, w, T, r⟩ := R
  have e1 : ∀ j, j < k → gm g' c j = gm g c j := fun j hj => hg _ (by omega)
  have e2 : ∀ j, j < k → gw g' c j = gw g c j := fun j hj => hg _ (by omega)
  refine ⟨m, s, w, T, fun j hj => ?_⟩
  obtain ⟨r1, r2, r3⟩ := r j hj
  refine ⟨by rw [e1 j hj]; exact r1, ?_, ?_⟩
  · rw [r2]
    unfold gS
    rw [e2 j hj]
  · rw [r3]
    unfold gY
    rw [e2 j hj]
theorem RepP.gg (R : RepP h a g) (hg : ∀ x, 388 ≤ x → x ≤ 412 → g' x = g x) : RepP h a g' := by
  obtain ⟨zr, fr, cr, wr, T, t1, t2, t3, t4⟩ := R
  have ez : rat 8 (zG g) = rat 8 (zG g') := rat_c (by decide) (fun j hj => (hg _ (by omega) (by omega)).symm)
  have ef : rat 6 (frG g) = rat 6 (frG g') := rat_c (by decide) (fun j hj => by
    unfold frG
    split
    · rfl
    · exact (hg _ (by omega) (by omega)).symm)
  have ec : rat 6 (crG g) = rat 6 (crG g') := rat_c (by decide) (fun j hj => by
    unfold crG
    split
    · rfl
    · exact (hg _ (by omega) (by omega)).symm)
  have ew : rat 6 (wrG g) = rat 6 (wrG g') := rat_c (by decide) (fun j hj => by
    unfold wrG
    split
    · rfl
    · exact (hg _ (by omega) (by omega)).symm)
  exact ⟨zr, fr, cr, wr, by rw [hg 411 (by omega) (by omega), hg 412 (by omega) (by omega)]; exact T, t1.trans ez, t2.trans ef, t3.trans ec, t4.trans ew⟩
theorem RepB.gg (R : RepB h a g) (hg : ∀ x, 413 ≤ x → x ≤ 422 → g' x = g x) : RepB h a g' := by
  obtain ⟨nb, bb, T, r⟩ := R
  exact ⟨nb, bb, by rw [hg 413 (by omega) (by omega), hg 414 (by omega) (by omega)]; exact T, fun i hi => by rw [hg (415 + i) (by omega) (by omega), hg (419 + i) (by omega) (by omega)]; exact r i hi⟩
theorem TrA.u2 {f : Nat → Int32} (T : TrA h a zr fr cr wr mo ne) : TrA (mz_up h (a + 2) (.inl (0, 8, f))) a f fr cr wr mo ne := by
  obtain ⟨e0, ⟨e1, e3, e5, e7⟩, e2, e4, e6, e8⟩ := T
  exact ⟨(mz_up_n (by omega)).trans e0, ⟨(mz_up_n (by omega)).trans e1, (mz_up_n (by omega)).trans e3, (mz_up_n (by omega)).trans e5, (mz_up_n (by omega)).trans e7⟩, mz_up_s, (mz_up_n (by omega)).trans e4, (mz_up_n (by omega)).trans e6, (mz_up_n (by omega)).trans e8⟩
theorem TrA.u4 {f : Nat → Int32} (T : TrA h a zr fr cr wr mo ne) : TrA (mz_up h (a + 4) (.inl (0, 6, f))) a zr f cr wr mo ne := by
  obtain ⟨e0, ⟨e1, e3, e5, e7⟩, e2, e4, e6, e8⟩ := T
  exact ⟨(mz_up_n (by omega)).trans e0, ⟨(mz_up_n (by omega)).trans e1, (mz_up_n (by omega)).trans e3, (mz_up_n (by omega)).trans e5, (mz_up_n (by omega)).trans e7⟩, (mz_up_n (by omega)).trans e2, mz_up_s, (mz_up_n (by omega)).trans e6, (mz_up_n (by omega)).trans e8⟩
theorem TrA.u6 {f : Nat → Int32} (T : TrA h a zr fr cr wr mo ne) : TrA (mz_up h (a + 6) (.inl (0, 6, f))) a zr fr f wr mo ne := by
  obtain ⟨e0, ⟨e1, e3, e5, e7⟩, e2, e4, e6, e8⟩ := T
  exact ⟨(mz_up_n (by omega)).trans e0, ⟨(mz_up_n (by omega)).trans e1, (mz_up_n (by omega)).trans e3, (mz_up_n (by omega)).trans e5, (mz_up_n (by omega)).trans e7⟩, (mz_up_n (by omega)).trans e2, (mz_up_n (by omega)).trans e4, mz_up_s, (mz_up_n (by omega)).trans e8⟩
theorem TrA.u8 {f : Nat → Int32} (T : TrA h a zr fr cr wr mo ne) : TrA (mz_up h (a + 8) (.inl (0, 6, f))) a zr fr cr f mo ne := by
  obtain ⟨e0, ⟨e1, e3, e5, e7⟩, e2, e4, e6, e8⟩ := T
  exact ⟨(mz_up_n (by omega)).trans e0, ⟨(mz_up_n (by omega)).trans e1, (mz_up_n (by omega)).trans e3, (mz_up_n (by omega)).trans e5, (mz_up_n (by omega)).trans e7⟩, (mz_up_n (by omega)).trans e2, (mz_up_n (by omega)).trans e4, (mz_up_n (by omega)).trans e6, mz_up_s⟩
theorem TrA.u0 {x y : Int32} (T : TrA h a zr fr cr wr mo ne) : TrA (mz_up h a (.inr (9, [.ref (a + 1), .ref (a + 3), .ref (a + 5), .ref (a + 7), .int x, .int y]))) a zr fr cr wr x y := by
  obtain ⟨e0, ⟨e1, e3, e5, e7⟩, e2, e4, e6, e8⟩ := T
  exact ⟨mz_up_s, ⟨(mz_up_n (by omega)).trans e1, (mz_up_n (by omega)).trans e3, (mz_up_n (by omega)).trans e5, (mz_up_n (by omega)).trans e7⟩, (mz_up_n (by omega)).trans e2, (mz_up_n (by omega)).trans e4, (mz_up_n (by omega)).trans e6, (mz_up_n (by omega)).trans e8⟩
theorem s_putZone {i v : Int32} (T : TrA h a zr fr cr wr mo ne) (H : Q none n (mz_up h (a + 2) (.inl (0, 8, rput 8 zr i v)))) : mz_wc (e + 2) 73 [.ref a, .int i, .int v] n h Q := by
  refine mz_wc.enter (code := co_X9_putZone) (idx := 73) rfl rfl (Nat.le_of_ble_eq_true rfl) rfl rfl ?_
  refine mz_WP.run 80 rfl ?_
  refine mz_WP.getf rfl (T.1) rfl (Nat.le_of_ble_eq_true rfl) ?_
  refine mz_WP.run 80 rfl ?_
  refine mz_WP.cv rfl rfl (Nat.le_of_ble_eq_true rfl) rfl (T.2.1.1) rfl (s_put T.2.1.1 T.2.2.1 (by omega) (by decide) ?_)
  exact mz_WP.vret rfl rfl H
def zoneR (g : Nat → Int32) (x y : Int32) : Int32 := if inB x (nI 0) (nI 7) = false then U1 else if inB y (nI 1) (nI 5) = false then U2 else g (388 + x.toNatClampNeg)
def zoneG (g : Nat → Int32) (x y : Int32) : Nat → Int32 := if inB x (nI 0) (nI 7) = false then g else if inB y (nI 1) (nI 5) = false then g else upd g (388 + x.toNatClampNeg) y
theorem WF.up {i : Nat} {v : Int32} (W : WF g) (hi : 388 ≤ i) (hz : i < 396 → ∃ z, 1 ≤ z ∧ z ≤ 5 ∧ v = nI z) (hb : i = 413 ∨ 419 ≤ i → ∃ b, b < 16 ∧ v = nI b) : WF (upd g i v) := by
  obtain ⟨w1, w2, w3, w4⟩ := W
  refine ⟨fun c hc => ?_, fun j hj => ?_, ?_, fun r hr => ?_⟩
  · obtain ⟨k, W⟩ := w1 c hc
    exact ⟨k, W.gg hc (fun x hx => updN (by omega))⟩
  · by_cases e : 388 + j = i
    · subst e
      rw [updS]
      exact hz (by omega)
    · rw [updN e]
      exact w2 j hj
  · by_cases e : 413 = i
    · subst e
      rw [updS]
      exact hb (Or.inl rfl)
    · rw [updN e]
      exact w3
  · by_cases e : 419 + r = i
    · subst e
      rw [updS]
      exact hb (Or.inr (by omega))
    · rw [updN e]
      exact w4 r hr
theorem s_zone {x y : Int32} (C : CI h g kp gi) (H : ∀ h', CI h' (zoneG g x y) kp gi → (∀ b, b < 2 ∨ 45 < b → h' b = h b) → Q (some (.int (zoneR g x y))) n h') : mz_wc (e + 7) 82 [.ref 2, .int x, .int y] n h Q := by
  unfold zoneG zoneR at H
  refine mz_wc.enter (code := co_X10_zone) (idx := 82) rfl rfl (Nat.le_of_ble_eq_true rfl) rfl rfl ?_
  refine mz_WP.run 80 rfl ?_
  refine mz_WP.cs rfl (by decide) rfl (Nat.le_of_ble_eq_true rfl) rfl (s_isStation ?_)
  refine mz_WP.ifc rfl (fun c0 => ?_) (fun c0 => ?_)
  · have c0 := bI_t c0
    have n0 : ¬ inB x (nI 0) (nI 7) = false := by rw [c0]; decide
    rw [if_neg n0, if_neg n0] at H
    refine mz_WP.run 80 rfl ?_
    refine mz_WP.cs rfl (by decide) rfl (Nat.le_of_ble_eq_true rfl) rfl (s_isWidth ?_)
    refine mz_WP.ifc rfl (fun c1 => ?_) (fun c1 => ?_)
    · have c1 := bI_t c1
      have n1 : ¬ inB y (nI 1) (nI 5) = false := by rw [c1]; decide
      rw [if_neg n1, if_neg n1] at H
      obtain ⟨s, -, hs, rfl⟩ := inB_of (by decide) (by decide) c0
      obtain ⟨z, hz1, hz2, rfl⟩ := inB_of (by decide) (by decide) c1
      rw [nI_clamp (by omega)] at H
      obtain ⟨F, B, h2, W, R, -⟩ := id C
      obtain ⟨R1, ⟨zr, fr, cr, wr, Tr, t1, t2, t3, t4⟩, R3⟩ := R
      refine mz_WP.run 80 rfl ?_
      refine mz_WP.getf rfl (h2) rfl (Nat.le_of_ble_eq_true rfl) ?_
      refine mz_WP.getf rfl (F _ _ rfl) rfl (Nat.le_of_ble_eq_true rfl) ?_
      refine mz_WP.run 80 rfl ?_
      refine mz_WP.cv rfl rfl (Nat.le_of_ble_eq_true rfl) rfl (Tr.1) rfl (s_zoneOf Tr ?_)
      rw [t1, rat_in (by omega) (by decide)]
      refine mz_WP.run 80 rfl ?_
      refine mz_WP.getf rfl (h2) rfl (Nat.le_of_ble_eq_true rfl) ?_
      refine mz_WP.getf rfl (F _ _ rfl) rfl (Nat.le_of_ble_eq_true rfl) ?_
      refine mz_WP.run 80 rfl ?_
      refine mz_WP.cv rfl rfl (Nat.le_of_ble_eq_true rfl) rfl (Tr.1) rfl (s_putZone Tr ?_)
      rw [rput_in (by omega) (by decide)]
      refine mz_WP.run 80 rfl ?_
      refine mz_WP.ret rfl rfl (H _ (C.now (fun b hb => mz_up_n (by omega)) (F.up rfl) (W.up (by omega) (fun _ => ⟨z, hz1, hz2, rfl⟩) (fun q => by omega)) ⟨fun c hc => ?_, ?_, ?_⟩) (fun b hb => mz_up_n (by omega)))
      · obtain ⟨k, Wc, RT⟩ := R1 c hc
        exact ⟨k, Wc.gg hc (fun q hq => updN (by omega)), (RT.to (fun b h1 h2 => mz_up_n (by omega))).gg hc Wc.1 (fun q hq => updN (by omega))⟩
      · refine ⟨upd zr s (nI z), fr, cr, wr, ?_, ?_, t2.trans ?_, t3.trans ?_, t4.trans ?_⟩
        · rw [updN (show 411 ≠ 388 + s by omega), updN (show 412 ≠ 388 + s by omega)]
          exact Tr.u2
        · refine rat_c (by decide) (fun j hj => ?_)
          by_cases hjs : j = s
          · subst hjs
            show _ = upd g (388 + j) (nI z) (388 + j)
            rw [updS, updS]
          · show _ = upd g (388 + s) (nI z) (388 + j)
            rw [updN hjs, updN (by omega)]
            have := congrFun t1 (nI j)
            rw [rat_in hj (by decide), rat_in hj (by decide)] at this
            exact this
        · refine rat_c (by decide) (fun j hj => ?_)
          unfold frG
          split
          · rfl
          · rw [updN (by omega)]
        · refine rat_c (by decide) (fun j hj => ?_)
          unfold crG
          split
          · rfl
          · rw [updN (by omega)]
        · refine rat_c (by decide) (fun j hj => ?_)
          unfold wrG
          split
          · rfl
          · rw [updN (by omega)]
      · exact (R3.to (fun b h1 h2 => mz_up_n (by omega))).gg (fun q h1 h2 => updN (by omega))
    · have c1 := bI_f (Classical.byContradiction c1)
      rw [if_pos c1, if_pos c1] at H
      refine mz_WP.run 80 rfl ?_
      exact mz_WP.ret rfl rfl (H h C (fun _ _ => rfl))
  · have c0 := bI_f (Classical.byContradiction c0)
    rw [if_pos c0, if_pos c0] at H
    refine mz_WP.run 80 rfl ?_
    exact mz_WP.ret rfl rfl (H h C (fun _ _ => rfl))
end P3
