/-! the class: bar, hear, pass -/
section P5
variable {e n : Nat} {h h' : mz_H} {Q : mz_Q} {g g' : Nat → Int32} {kp : Nat} {gi : Nat → Nat → Int32} {a : Nat} {nb bb : Nat → Int32} {nu ba : Int32}
theorem BlA.u0 {x y : Int32} (T : BlA h a nb bb nu ba) : BlA (mz_up h a (.inr (0, [.ref (a + 1), .ref (a + 3), .int x, .int y]))) a nb bb x y := by
  obtain ⟨e0, ⟨e1, e3⟩, e2, e4⟩ := T
  exact ⟨mz_up_s, ⟨(mz_up_n (by omega)).trans e1, (mz_up_n (by omega)).trans e3⟩, (mz_up_n (by omega)).trans e2, (mz_up_n (by omega)).trans e4⟩
theorem BlA.u2 {f : Nat → Int32} (T : BlA h a nb bb nu ba) : BlA (mz_up h (a + 2) (.inl (0, 4, f))) a f bb nu ba := by
  obtain ⟨e0, ⟨e1, e3⟩, e2, e4⟩ := T
  exact ⟨(mz_up_n (by omega)).trans e0, ⟨(mz_up_n (by omega)).trans e1, (mz_up_n (by omega)).trans e3⟩, mz_up_s, (mz_up_n (by omega)).trans e4⟩
theorem BlA.u4 {f : Nat → Int32} (T : BlA h a nb bb nu ba) : BlA (mz_up h (a + 4) (.inl (0, 4, f))) a nb f nu ba := by
  obtain ⟨e0, ⟨e1, e3⟩, e2, e4⟩ := T
  exact ⟨(mz_up_n (by omega)).trans e0, ⟨(mz_up_n (by omega)).trans e1, (mz_up_n (by omega)).trans e3⟩, (mz_up_n (by omega)).trans e2, mz_up_s⟩
theorem s_number (T : BlA h a nb bb nu ba) (H : Q (some (.int nu)) n h) : mz_wc (e + 1) 1 [.ref a] n h Q := by
  refine mz_wc.enter (code := co_X0_number) (idx := 1) rfl rfl (Nat.le_of_ble_eq_true rfl) rfl rfl ?_
  refine mz_WP.run 80 rfl ?_
  refine mz_WP.getf rfl (T.1) rfl (Nat.le_of_ble_eq_true rfl) ?_
  exact mz_WP.ret rfl rfl H
theorem s_barred (T : BlA h a nb bb nu ba) (H : Q (some (.int ba)) n h) : mz_wc (e + 1) 2 [.ref a] n h Q := by
  refine mz_wc.enter (code := co_X0_barred) (idx := 2) rfl rfl (Nat.le_of_ble_eq_true rfl) rfl rfl ?_
  refine mz_WP.run 80 rfl ?_
  refine mz_WP.getf rfl (T.1) rfl (Nat.le_of_ble_eq_true rfl) ?_
  exact mz_WP.ret rfl rfl H
theorem s_numberAt {i : Int32} (T : BlA h a nb bb nu ba) (H : Q (some (.int (rat 4 nb i))) n h) : mz_wc (e + 2) 3 [.ref a, .int i] n h Q := by
  refine mz_wc.enter (code := co_X0_numberAt) (idx := 3) rfl rfl (Nat.le_of_ble_eq_true rfl) rfl rfl ?_
  refine mz_WP.run 80 rfl ?_
  refine mz_WP.getf rfl (T.1) rfl (Nat.le_of_ble_eq_true rfl) ?_
  refine mz_WP.run 80 rfl ?_
  refine mz_WP.cv rfl rfl (Nat.le_of_ble_eq_true rfl) rfl (T.2.1.1) rfl (s_at T.2.1.1 T.2.2.1 (by decide) ?_)
  exact mz_WP.ret rfl rfl H
theorem s_barredAt {i c : Int32} (T : BlA h a nb bb nu ba) (H1 : rat 4 bb i >>> (c &&& 31) &&& nI 1 = nI 1 → Q (some (.int 1)) n h) (H0 : ¬ rat 4 bb i >>> (c &&& 31) &&& nI 1 = nI 1 → Q (some (.int 0)) n h) : mz_wc (e + 2) 4 [.ref a, .int i, .int c] n h Q := by
  refine mz_wc.enter (code := co_X0_isBarredAt) (idx := 4) rfl rfl (Nat.le_of_ble_eq_true rfl) rfl rfl ?_
  refine mz_WP.run 80 rfl ?_
  refine mz_WP.getf rfl (T.1) rfl (Nat.le_of_ble_eq_true rfl) ?_
  refine mz_WP.run 80 rfl ?_
  refine mz_WP.cv rfl rfl (Nat.le_of_ble_eq_true rfl) rfl (T.2.1.2) rfl (s_at T.2.1.2 T.2.2.2 (by decide) ?_)
  refine mz_WP.run 80 rfl ?_
  refine mz_WP.icmp rfl (fun c0 => ?_) (fun c0 => ?_)
  · refine mz_WP.run 80 rfl ?_
    exact mz_WP.zret rfl rfl (Or.inl rfl) (H0 c0)
  · refine mz_WP.run 80 rfl ?_
    refine mz_WP.run 80 rfl ?_
    exact mz_WP.zret rfl rfl (Or.inr rfl) (H1 (Classical.byContradiction c0))
theorem s_bringTo {r : Nat} (T : BlA h a nb bb nu ba) (h2 : 2 ≤ a) (hr : r < 4) (H : Q none n (mz_up (mz_up h (a + 2) (.inl (0, 4, upd nb r nu))) (a + 4) (.inl (0, 4, upd bb r ba)))) : mz_wc (e + 2) 6 [.ref a, .int (nI r)] n h Q := by
  have T2 : BlA (mz_up h (a + 2) (.inl (0, 4, upd nb r nu))) a (upd nb r nu) bb nu ba := T.u2
  refine mz_wc.enter (code := co_X0_bringTo) (idx := 6) rfl rfl (Nat.le_of_ble_eq_true rfl) rfl rfl ?_
  refine mz_WP.run 80 rfl ?_
  refine mz_WP.getf rfl (T.1) rfl (Nat.le_of_ble_eq_true rfl) ?_
  refine mz_WP.run 80 rfl ?_
  refine mz_WP.getf rfl (T.1) rfl (Nat.le_of_ble_eq_true rfl) ?_
  refine mz_WP.cv rfl rfl (Nat.le_of_ble_eq_true rfl) rfl (T.2.1.1) rfl (s_put T.2.1.1 T.2.2.1 (by omega) (by decide) ?_)
  rw [rput_in hr (by decide)]
  refine mz_WP.run 80 rfl ?_
  refine mz_WP.getf rfl (T2.1) rfl (Nat.le_of_ble_eq_true rfl) ?_
  refine mz_WP.run 80 rfl ?_
  refine mz_WP.getf rfl (T2.1) rfl (Nat.le_of_ble_eq_true rfl) ?_
  refine mz_WP.cv rfl rfl (Nat.le_of_ble_eq_true rfl) rfl (T2.2.1.2) rfl (s_put T2.2.1.2 T2.2.2.2 (by omega) (by decide) ?_)
  rw [rput_in hr (by decide)]
  exact mz_WP.vret rfl rfl H
theorem s_putBarred {b c : Nat} {on : Bool} (hb : b < 16) (hc : c < 4) (T : BlA h a nb bb nu (nI b)) (H1 : ¬ nI b >>> (nI c &&& 31) &&& nI 1 = bI on → Q none n (mz_up h a (.inr (0, [.ref (a + 1), .ref (a + 3), .int (nu + nI 1), .int (nI b ^^^ nI 1 <<< (nI c &&& 31))])))) (H0 : nI b >>> (nI c &&& 31) &&& nI 1 = bI on → Q none n h) : mz_wc (e + 1) 5 [.ref a, .int (nI c), .int (bI on)] n h Q := by
  refine mz_wc.enter (code := co_X0_putBarred) (idx := 5) rfl rfl (Nat.le_of_ble_eq_true rfl) rfl rfl ?_
  have tail : ∀ x : Int32, (x = nI b ↔ nI b >>> (nI c &&& 31) &&& nI 1 = bI on) → (¬ nI b >>> (nI c &&& 31) &&& nI 1 = bI on → x = nI b ^^^ nI 1 <<< (nI c &&& 31)) → mz_WP (mz_wc e) e 0 co_X0_putBarred Q 25 [some (.ref a), some (.int (nI c)), some (.int (bI on)), none] [.int x] n h 0 0 := by
    intro x hx hx2
    refine mz_WP.run 80 rfl ?_
    refine mz_WP.getf rfl (T.1) rfl (Nat.le_of_ble_eq_true rfl) ?_
    refine mz_WP.icmp rfl (fun c0 => ?_) (fun c0 => ?_)
    · exact mz_WP.vret rfl rfl (H0 (hx.mp c0))
    · have nc : ¬ nI b >>> (nI c &&& 31) &&& nI 1 = bI on := fun z => c0 (hx.mpr z)
      have H1 := H1 nc
      rw [← hx2 nc] at H1
      refine mz_WP.run 80 rfl ?_
      refine mz_WP.putf rfl (T.1) (Nat.le_of_ble_eq_true rfl) (Nat.le_of_ble_eq_true rfl) rfl ?_
      show mz_WP _ _ _ _ _ _ _ _ _ (mz_up h a (.inr (0, [.ref (a + 1), .ref (a + 3), .int nu, .int x]))) _ _
      have T2 : BlA (mz_up h a (.inr (0, [.ref (a + 1), .ref (a + 3), .int nu, .int x]))) a nb bb nu x := T.u0
      refine mz_WP.run 80 rfl ?_
      refine mz_WP.getf rfl (T2.1) rfl (Nat.le_of_ble_eq_true rfl) ?_
      refine mz_WP.run 80 rfl ?_
      refine mz_WP.putf rfl (T2.1) (Nat.le_of_ble_eq_true rfl) (Nat.le_of_ble_eq_true rfl) rfl ?_
      refine mz_WP.vret rfl rfl ?_
      show Q none n (mz_up _ a (.inr (0, [.ref (a + 1), .ref (a + 3), .int (nu + nI 1), .int x])))
      rw [mz_up_up]
      exact H1
  refine mz_WP.run 80 rfl ?_
  cases on with
  | true =>
    refine mz_WP.ifc rfl (fun c0 => ?_) (fun c0 => ?_)
    · exact absurd c0 (show ¬ (1 : Int32) = 0 by decide)
    · refine mz_WP.run 80 rfl ?_
      refine mz_WP.getf rfl (T.1) rfl (Nat.le_of_ble_eq_true rfl) ?_
      refine mz_WP.run 80 rfl ?_
      exact tail _ (bar_1 b hb c hc).1 (bar_1 b hb c hc).2
  | false =>
    refine mz_WP.ifc rfl (fun c0 => ?_) (fun c0 => ?_)
    · refine mz_WP.run 80 rfl ?_
      refine mz_WP.getf rfl (T.1) rfl (Nat.le_of_ble_eq_true rfl) ?_
      refine mz_WP.run 6 rfl ?_
      exact tail _ (bar_0 b hb c hc).1 (bar_0 b hb c hc).2
    · exact absurd rfl c0
theorem s_bar {card on : Int32} (C : CI h g kp gi) (H : ∀ h', CI h' (barG g card on) kp gi → (∀ b, b < 2 ∨ 45 < b → h' b = h b) → Q (some (.int (barR g card on))) n h') : mz_wc (e + 7) 93 [.ref 2, .int card, .int on] n h Q := by
  unfold barR barG at H
  refine mz_wc.enter (code := co_X10_bar) (idx := 93) rfl rfl (Nat.le_of_ble_eq_true rfl) rfl rfl ?_
  refine mz_WP.run 80 rfl ?_
  refine mz_WP.cs rfl (by decide) rfl (Nat.le_of_ble_eq_true rfl) rfl (s_isCard ?_)
  refine mz_WP.ifc rfl (fun c0 => ?_) (fun c0 => ?_)
  · have c0 := bI_t c0
    have n0 : ¬ inB card (nI 0) (nI 3) = false := by rw [c0]; decide
    rw [if_neg n0, if_neg n0] at H
    refine mz_WP.run 80 rfl ?_
    refine mz_WP.cs rfl (by decide) rfl (Nat.le_of_ble_eq_true rfl) rfl (s_within ?_)
    refine mz_WP.ifc rfl (fun c1 => ?_) (fun c1 => ?_)
    · have c1 := bI_t c1
      have n1 : ¬ inB on (nI 0) (nI 1) = false := by rw [c1]; decide
      rw [if_neg n1, if_neg n1] at H
      obtain ⟨c, -, hc, rfl⟩ := inB_of (by decide) (by decide) c0
      obtain ⟨o, -, ho, rfl⟩ := inB_of (by decide) (by decide) c1
      obtain ⟨F, B, h2, W, R, -⟩ := id C
      obtain ⟨R1, R2, nb, bb, Bl, r⟩ := R
      obtain ⟨b, hb, hgb⟩ := W.2.2.1
      rw [hgb] at Bl
      have fin : ∀ on2 : Bool, nI o = bI on2 → mz_WP (mz_wc (e + 6)) (e + 6) 1 co_X10_bar Q 39 [some (.ref 2), some (.int (nI c)), some (.int (nI o))] [.int (bI on2), .int (nI c), .ref 41] n h 0 0 := by
        intro on2 hon
        unfold barCh at H
        rw [hon, hgb] at H
        refine mz_WP.cv rfl rfl (Nat.le_of_ble_eq_true rfl) rfl (Bl.1) rfl (s_putBarred hb (by omega) Bl (fun hch => ?_) (fun hch => ?_))
        · have hd : (!decide (nI b >>> (nI c &&& 31) &&& nI 1 = bI on2)) = true := by rw [decide_eq_false hch]; rfl
          rw [if_pos hd, updS] at H
          obtain ⟨b', hb', hx⟩ := bar_x b hb c (by omega)
          have Bl2 : BlA (mz_up h 41 (.inr (0, [.ref (41 + 1), .ref (41 + 3), .int (g 414 + nI 1), .int (nI b ^^^ nI 1 <<< (nI c &&& 31))]))) 41 nb bb (g 414 + nI 1) (nI b ^^^ nI 1 <<< (nI c &&& 31)) := Bl.u0
          have F2 : Fx (mz_up h 41 (.inr (0, [.ref (41 + 1), .ref (41 + 3), .int (g 414 + nI 1), .int (nI b ^^^ nI 1 <<< (nI c &&& 31))]))) := F.up rfl
          refine mz_WP.run 80 rfl ?_
          refine mz_WP.getf rfl ((mz_up_n (by decide)).trans h2) rfl (Nat.le_of_ble_eq_true rfl) ?_
          refine mz_WP.getf rfl (F2 _ _ rfl) rfl (Nat.le_of_ble_eq_true rfl) ?_
          refine mz_WP.cv rfl rfl (Nat.le_of_ble_eq_true rfl) rfl (Bl2.1) rfl (s_number Bl2 ?_)
          refine mz_WP.ret rfl rfl (H _ (C.now (fun b hb => mz_up_n (by omega)) F2 ((W.up (by omega) (fun _ => by omega) (fun _ => ⟨b', hb', hx⟩)).up (by omega) (fun _ => by omega) (fun _ => by omega)) ⟨fun c hc => ?_, ?_, ?_⟩) (fun b hb => mz_up_n (by omega)))
          · obtain ⟨k, Wc, RT⟩ := R1 c hc
            exact ⟨k, Wc.gg hc (fun q hq => by rw [updN (by omega), updN (by omega)]), (RT.to (fun b h1 h2 => mz_up_n (by omega))).gg hc Wc.1 (fun q hq => by rw [updN (by omega), updN (by omega)])⟩
          · exact (R2.to (fun b h1 h2 => mz_up_n (by omega))).gg (fun q h1 h2 => by rw [updN (by omega), updN (by omega)])
          · refine ⟨nb, bb, ?_, fun i hi => ?_⟩
            · rw [updS, updN (show 413 ≠ 414 by decide), updS]
              exact Bl2
            · rw [updN (by omega), updN (by omega), updN (by omega), updN (by omega)]
              exact r i hi
        · have hd : ¬ (!decide (nI b >>> (nI c &&& 31) &&& nI 1 = bI on2)) = true := by rw [decide_eq_true hch]; decide
          rw [if_neg hd] at H
          refine mz_WP.run 80 rfl ?_
          refine mz_WP.getf rfl (h2) rfl (Nat.le_of_ble_eq_true rfl) ?_
          refine mz_WP.getf rfl (F _ _ rfl) rfl (Nat.le_of_ble_eq_true rfl) ?_
          refine mz_WP.cv rfl rfl (Nat.le_of_ble_eq_true rfl) rfl (Bl.1) rfl (s_number Bl ?_)
          exact mz_WP.ret rfl rfl (H h C (fun _ _ => rfl))
      refine mz_WP.run 80 rfl ?_
      refine mz_WP.getf rfl (h2) rfl (Nat.le_of_ble_eq_true rfl) ?_
      refine mz_WP.getf rfl (F _ _ rfl) rfl (Nat.le_of_ble_eq_true rfl) ?_
      refine mz_WP.run 80 rfl ?_
      rcases (show o = 0 ∨ o = 1 by omega) with rfl | rfl
      · refine mz_WP.icmp rfl (fun c2 => ?_) (fun c2 => ?_)
        · refine mz_WP.run 80 rfl ?_
          exact fin false rfl
        · exact absurd (show ¬ nI 0 = nI 1 by decide) c2
      · refine mz_WP.icmp rfl (fun c2 => ?_) (fun c2 => ?_)
        · exact absurd rfl c2
        · refine mz_WP.run 80 rfl ?_
          exact fin true rfl
    · have c1 := bI_f (Classical.byContradiction c1)
      rw [if_pos c1, if_pos c1] at H
      refine mz_WP.run 80 rfl ?_
      exact mz_WP.ret rfl rfl (H h C (fun _ _ => rfl))
  · have c0 := bI_f (Classical.byContradiction c0)
    rw [if_pos c0, if_pos c0] at H
    refine mz_WP.run 80 rfl ?_
    exact mz_WP.ret rfl rfl (H h C (fun _ _ => rfl))
theorem s_hear {rd : Int32} (C : CI h g kp gi) (H : ∀ h', CI h' (hearG g rd) kp gi → (∀ b, b < 2 ∨ 45 < b → h' b = h b) → Q (some (.int (hearR g rd))) n h') : mz_wc (e + 7) 94 [.ref 2, .int rd] n h Q := by
  unfold hearG hearR at H
  refine mz_wc.enter (code := co_X10_hear) (idx := 94) rfl rfl (Nat.le_of_ble_eq_true rfl) rfl rfl ?_
  refine mz_WP.run 80 rfl ?_
  refine mz_WP.cs rfl (by decide) rfl (Nat.le_of_ble_eq_true rfl) rfl (s_isReader ?_)
  refine mz_WP.ifc rfl (fun c0 => ?_) (fun c0 => ?_)
  · have c0 := bI_t c0
    have n0 : ¬ inB rd (nI 0) (nI 3) = false := by rw [c0]; decide
    rw [if_neg n0, if_neg n0] at H
    obtain ⟨i, -, hi, rfl⟩ := inB_of (by decide) (by decide) c0
    rw [nI_clamp (by omega)] at H
    obtain ⟨F, B, h2, W, R, -⟩ := id C
    obtain ⟨R1, R2, nb, bb, Bl, r⟩ := R
    refine mz_WP.run 80 rfl ?_
    refine mz_WP.getf rfl (h2) rfl (Nat.le_of_ble_eq_true rfl) ?_
    refine mz_WP.getf rfl (F _ _ rfl) rfl (Nat.le_of_ble_eq_true rfl) ?_
    refine mz_WP.run 80 rfl ?_
    refine mz_WP.cv rfl rfl (Nat.le_of_ble_eq_true rfl) rfl (Bl.1) rfl (s_numberAt Bl ?_)
    rw [rat_in (by omega) (by decide), (r i (by omega)).1]
    refine mz_WP.run 80 rfl ?_
    refine mz_WP.getf rfl (h2) rfl (Nat.le_of_ble_eq_true rfl) ?_
    refine mz_WP.getf rfl (F _ _ rfl) rfl (Nat.le_of_ble_eq_true rfl) ?_
    refine mz_WP.run 80 rfl ?_
    refine mz_WP.cv rfl rfl (Nat.le_of_ble_eq_true rfl) rfl (Bl.1) rfl (s_bringTo Bl (by decide) (by omega) ?_)
    have Bl2 : BlA (mz_up (mz_up h (41 + 2) (.inl (0, 4, upd nb i (g 414)))) (41 + 4) (.inl (0, 4, upd bb i (g 413)))) 41 (upd nb i (g 414)) (upd bb i (g 413)) (g 414) (g 413) := Bl.u2.u4
    have F2 : Fx (mz_up (mz_up h (41 + 2) (.inl (0, 4, upd nb i (g 414)))) (41 + 4) (.inl (0, 4, upd bb i (g 413)))) := (F.up rfl).up rfl
    refine mz_WP.run 80 rfl ?_
    refine mz_WP.getf rfl (((mz_up_n (by decide)).trans (mz_up_n (by decide))).trans h2) rfl (Nat.le_of_ble_eq_true rfl) ?_
    refine mz_WP.getf rfl (F2 _ _ rfl) rfl (Nat.le_of_ble_eq_true rfl) ?_
    refine mz_WP.cv rfl rfl (Nat.le_of_ble_eq_true rfl) rfl (Bl2.1) rfl (s_number Bl2 ?_)
    refine mz_WP.run 80 rfl ?_
    refine mz_WP.ret rfl rfl (H _ (C.now (fun b hb => (mz_up_n (by omega)).trans (mz_up_n (by omega))) F2 ((W.up (by omega) (fun _ => by omega) (fun _ => by omega)).up (by omega) (fun _ => by omega) (fun _ => W.2.2.1)) ⟨fun c hc => ?_, ?_, ?_⟩) (fun b hb => (mz_up_n (by omega)).trans (mz_up_n (by omega))))
    · obtain ⟨k, Wc, RT⟩ := R1 c hc
      exact ⟨k, Wc.gg hc (fun q hq => by rw [updN (by omega), updN (by omega)]), (RT.to (fun b h1 h2 => (mz_up_n (by omega)).trans (mz_up_n (by omega)))).gg hc Wc.1 (fun q hq => by rw [updN (by omega), updN (by omega)])⟩
    · exact (R2.to (fun b h1 h2 => (mz_up_n (by omega)).trans (mz_up_n (by omega)))).gg (fun q h1 h2 => by rw [updN (by omega), updN (by omega)])
    · refine ⟨upd nb i (g 414), upd bb i (g 413), ?_, fun j hj => ?_⟩
      · rw [updN (by omega), updN (by omega), updN (by omega), updN (by omega)]
        exact Bl2
      · by_cases hji : j = i
        · subst hji
          rw [updS, updS, updS, updN (by omega), updS]
          exact ⟨rfl, rfl⟩
        · rw [updN hji, updN hji, updN (by omega), updN (by omega), updN (by omega), updN (by omega)]
          exact r j hj
  · have c0 := bI_f (Classical.byContradiction c0)
    rw [if_pos c0, if_pos c0] at H
    refine mz_WP.run 80 rfl ?_
    exact mz_WP.ret rfl rfl (H h C (fun _ _ => rfl))
theorem s_pass {rd card : Int32} (C : CI h g kp gi) (H : Q (some (.int (passR g rd card))) n h) : mz_wc (e + 7) 95 [.ref 2, .int rd, .int card] n h Q := by
  unfold passR at H
  refine mz_wc.enter (code := co_X10_pass) (idx := 95) rfl rfl (Nat.le_of_ble_eq_true rfl) rfl rfl ?_
  have out : (inB rd (nI 0) (nI 3) = false ∨ inB card (nI 0) (nI 3) = false) → mz_WP (mz_wc (e + 6)) (e + 6) 1 co_X10_pass Q 14 [some (.ref 2), some (.int rd), some (.int card)] [] n h 0 0 := by
    intro ho
    rw [if_pos ho] at H
    refine mz_WP.run 80 rfl ?_
    exact mz_WP.ret rfl rfl H
  refine mz_WP.run 80 rfl ?_
  refine mz_WP.cs rfl (by decide) rfl (Nat.le_of_ble_eq_true rfl) rfl (s_isReader ?_)
  refine mz_WP.ifc rfl (fun c0 => ?_) (fun c0 => ?_)
  · exact out (Or.inl (bI_f c0))
  · have c0 := bI_t c0
    refine mz_WP.run 80 rfl ?_
    refine mz_WP.cs rfl (by decide) rfl (Nat.le_of_ble_eq_true rfl) rfl (s_isCard ?_)
    refine mz_WP.ifc rfl (fun c1 => ?_) (fun c1 => ?_)
    · have c1 := bI_t c1
      rw [if_neg (fun z => z.elim (fun z => by rw [c0] at z; exact absurd z (by decide)) (fun z => by rw [c1] at z; exact absurd z (by decide)))] at H
      obtain ⟨i, -, hi, rfl⟩ := inB_of (by decide) (by decide) c0
      rw [nI_clamp (by omega)] at H
      obtain ⟨F, B, h2, W, R, -⟩ := id C
      obtain ⟨R1, R2, nb, bb, Bl, r⟩ := R
      have eb : rat 4 bb (nI i) = g (419 + i) := by rw [rat_in (by omega) (by decide), (r i (by omega)).2]
      refine mz_WP.run 80 rfl ?_
      refine mz_WP.getf rfl (h2) rfl (Nat.le_of_ble_eq_true rfl) ?_
      refine mz_WP.getf rfl (F _ _ rfl) rfl (Nat.le_of_ble_eq_true rfl) ?_
      refine mz_WP.run 80 rfl ?_
      refine mz_WP.cv rfl rfl (Nat.le_of_ble_eq_true rfl) rfl (Bl.1) rfl (s_barredAt Bl (fun hb => ?_) (fun hb => ?_))
      · rw [eb] at hb
        rw [if_pos hb] at H
        refine mz_WP.ifc rfl (fun c2 => ?_) (fun c2 => ?_)
        · exact absurd c2 (show ¬ (1 : Int32) = 0 by decide)
        · refine mz_WP.run 80 rfl ?_
          refine mz_WP.run 80 rfl ?_
          exact mz_WP.ret rfl rfl H
      · rw [eb] at hb
        rw [if_neg hb] at H
        refine mz_WP.ifc rfl (fun c2 => ?_) (fun c2 => ?_)
        · refine mz_WP.run 80 rfl ?_
          exact mz_WP.ret rfl rfl H
        · exact absurd rfl c2
    · exact out (Or.inr (bI_f (Classical.byContradiction c1)))
end P5
