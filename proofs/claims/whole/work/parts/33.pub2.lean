/-! the class: day, best, saved -/
section P2
variable {e n : Nat} {h : mz_H} {Q : mz_Q} {g : Nat → Int32} {kp : Nat} {gi : Nat → Nat → Int32}
theorem r_pcost {cf : Nat → Int32} (F : Fx h) (h1 : h 177 = .inl (0, 29, cf)) (H : Q (some (.int (cf 0))) n h) : mz_wc (e + 2) 34 [.ref 175] n h Q := by
  refine mz_wc.enter (code := co_X4_cost) (idx := 34) rfl rfl (Nat.le_of_ble_eq_true rfl) rfl rfl ?_
  refine mz_WP.run 80 rfl ?_
  refine mz_WP.getf rfl (F _ _ rfl) rfl (Nat.le_of_ble_eq_true rfl) ?_
  refine mz_WP.run 80 rfl ?_
  refine mz_WP.cv rfl rfl (Nat.le_of_ble_eq_true rfl) rfl (F _ _ rfl) rfl (s_at (F _ _ rfl) h1 (by decide) ?_)
  rw [rat_in (by decide) (by decide)]
  exact mz_WP.ret rfl rfl H
theorem r_pweeks {wf : Nat → Int32} (F : Fx h) (h1 : h 179 = .inl (0, 29, wf)) (H : Q (some (.int (wf 0))) n h) : mz_wc (e + 2) 35 [.ref 175] n h Q := by
  refine mz_wc.enter (code := co_X4_weeks) (idx := 35) rfl rfl (Nat.le_of_ble_eq_true rfl) rfl rfl ?_
  refine mz_WP.run 80 rfl ?_
  refine mz_WP.getf rfl (F _ _ rfl) rfl (Nat.le_of_ble_eq_true rfl) ?_
  refine mz_WP.run 80 rfl ?_
  refine mz_WP.cv rfl rfl (Nat.le_of_ble_eq_true rfl) rfl (F _ _ rfl) rfl (s_at (F _ _ rfl) h1 (by decide) ?_)
  rw [rat_in (by decide) (by decide)]
  exact mz_WP.ret rfl rfl H
theorem r_pstart {sr : Nat → Int32} {i : Int32} (F : Fx h) (h1 : h 183 = .inl (0, 4, sr)) (H : Q (some (.int (rat 4 sr i))) n h) : mz_wc (e + 2) 36 [.ref 175, .int i] n h Q := by
  refine mz_wc.enter (code := co_X4_start) (idx := 36) rfl rfl (Nat.le_of_ble_eq_true rfl) rfl rfl ?_
  refine mz_WP.run 80 rfl ?_
  refine mz_WP.getf rfl (F _ _ rfl) rfl (Nat.le_of_ble_eq_true rfl) ?_
  refine mz_WP.run 80 rfl ?_
  refine mz_WP.cv rfl rfl (Nat.le_of_ble_eq_true rfl) rfl (F _ _ rfl) rfl (s_at (F _ _ rfl) h1 (by decide) ?_)
  exact mz_WP.ret rfl rfl H
theorem r_pin {iw : Nat → Int32} {d : Nat} {b : Bool} (F : Fx h) (h1 : h 185 = .inl (0, 28, iw)) (hd : d < 28) (hb : iw d = bI b) (H : Q (some (.int (bI b))) n h) : mz_wc (e + 2) 37 [.ref 175, .int (nI d)] n h Q := by
  refine mz_wc.enter (code := co_X4_isInWeek) (idx := 37) rfl rfl (Nat.le_of_ble_eq_true rfl) rfl rfl ?_
  refine mz_WP.run 80 rfl ?_
  refine mz_WP.getf rfl (F _ _ rfl) rfl (Nat.le_of_ble_eq_true rfl) ?_
  refine mz_WP.run 80 rfl ?_
  refine mz_WP.cv rfl rfl (Nat.le_of_ble_eq_true rfl) rfl (F _ _ rfl) rfl (s_at (F _ _ rfl) h1 (by decide) ?_)
  rw [rat_in hd (by decide), hb]
  refine mz_WP.run 80 rfl ?_
  cases b with
  | true =>
    refine mz_WP.icmp rfl (fun c => ?_) (fun c => ?_)
    · exact absurd rfl c
    · refine mz_WP.run 80 rfl ?_
      refine mz_WP.run 80 rfl ?_
      exact mz_WP.zret rfl rfl (Or.inr rfl) H
  | false =>
    refine mz_WP.icmp rfl (fun c => ?_) (fun c => ?_)
    · refine mz_WP.run 80 rfl ?_
      exact mz_WP.zret rfl rfl (Or.inl rfl) H
    · exact absurd (show ¬ (0 : Int32) = 1 by decide) c
theorem s_day {card day what : Int32} (C : CI h g kp gi) (H : ∀ h', CI h' g kp gi → (∀ b, b < 140 ∨ 185 < b → h' b = h b) → Q (some (.int (dayR g card day what))) n h') : mz_wc (e + 7) 89 [.ref 2, .int card, .int day, .int what] n h Q := by
  refine mz_wc.enter (code := co_X10_day) (idx := 89) rfl rfl (Nat.le_of_ble_eq_true rfl) rfl rfl ?_
  refine mz_WP.run 80 rfl ?_
  refine mz_WP.cs rfl (by decide) rfl (Nat.le_of_ble_eq_true rfl) rfl (s_isCard ?_)
  refine mz_WP.ifc rfl (fun c0 => ?_) (fun c0 => ?_)
  · have c0 := bI_t c0
    obtain ⟨c, -, hc, rfl⟩ := inB_of (by decide) (by decide) c0
    unfold dayR at H
    rw [if_neg (by rw [c0]; decide)] at H
    have out : (inB day (nI 0) (nI 27) = false ∨ inB what (nI 0) (nI 3) = false) → mz_WP (mz_wc (e + 6)) (e + 6) 1 co_X10_day Q 25 [some (.ref 2), some (.int (nI c)), some (.int day), some (.int what)] [] n h 0 0 := by
      intro ho
      have H := H h C (fun b _ => rfl)
      rw [if_pos ho] at H
      refine mz_WP.run 80 rfl ?_
      exact mz_WP.ret rfl rfl H
    refine mz_WP.run 80 rfl ?_
    refine mz_WP.cs rfl (by decide) rfl (Nat.le_of_ble_eq_true rfl) rfl (s_isDay ?_)
    refine mz_WP.ifc rfl (fun c1 => ?_) (fun c1 => ?_)
    · exact out (Or.inl (bI_f c1))
    · have c1 := bI_t c1
      refine mz_WP.run 80 rfl ?_
      refine mz_WP.cs rfl (by decide) rfl (Nat.le_of_ble_eq_true rfl) rfl (s_within ?_)
      refine mz_WP.ifc rfl (fun c2 => ?_) (fun c2 => ?_)
      · have c2 := bI_t c2
        rw [if_neg (fun z => z.elim (fun z => by rw [c1] at z; exact absurd z (by decide)) (fun z => by rw [c2] at z; exact absurd z (by decide)))] at H
        obtain ⟨d, -, hd, rfl⟩ := inB_of (by decide) (by decide) c1
        obtain ⟨j, -, hj, rfl⟩ := inB_of (by decide) (by decide) c2
        obtain ⟨k, W⟩ := C.2.2.2.1.1 c (by omega)
        unfold kL at H
        rw [nI_clamp (by omega), nI_clamp (by omega), W.k] at H
        refine mz_WP.run 80 rfl ?_
        refine mz_WP.cv rfl rfl (Nat.le_of_ble_eq_true rfl) rfl (C.2.2.1) rfl (s_reckon C (by omega) W (fun h' C' hh B => ?_))
        have H := H h' C' hh
        obtain ⟨F, -, h2, -⟩ := id C'
        obtain ⟨-, -, ⟨sm, wd, ow, RD, hD⟩, ⟨cf, wf, wb, sr, iw, ⟨p1, p2, p3, p4, p5⟩, a1, a2, a3, a4⟩⟩ := B
        obtain ⟨d1, d2, d3⟩ := hD d (by omega)
        unfold dayV at H
        refine mz_WP.run 80 rfl ?_
        rcases (show j = 0 ∨ j = 1 ∨ j = 2 ∨ j = 3 by omega) with rfl | rfl | rfl | rfl
        · refine mz_WP.tin (off := 26) rfl (by decide) (by decide) ?_
          refine mz_WP.run 80 rfl ?_
          refine mz_WP.getf rfl (h2) rfl (Nat.le_of_ble_eq_true rfl) ?_
          refine mz_WP.getf rfl (F _ _ rfl) rfl (Nat.le_of_ble_eq_true rfl) ?_
          refine mz_WP.run 80 rfl ?_
          refine mz_WP.cv rfl rfl (Nat.le_of_ble_eq_true rfl) rfl (F _ _ rfl) rfl (r_dsum F RD ?_)
          rw [rat_in (by omega) (by decide), d1]
          exact mz_WP.ret rfl rfl H
        · refine mz_WP.tin (off := 38) rfl (by decide) (by decide) ?_
          refine mz_WP.run 80 rfl ?_
          refine mz_WP.getf rfl (h2) rfl (Nat.le_of_ble_eq_true rfl) ?_
          refine mz_WP.getf rfl (F _ _ rfl) rfl (Nat.le_of_ble_eq_true rfl) ?_
          refine mz_WP.run 80 rfl ?_
          refine mz_WP.cv rfl rfl (Nat.le_of_ble_eq_true rfl) rfl (F _ _ rfl) rfl (r_dwidth F RD ?_)
          rw [rat_in (by omega) (by decide), d2]
          exact mz_WP.ret rfl rfl H
        · refine mz_WP.tin (off := 50) rfl (by decide) (by decide) ?_
          refine mz_WP.run 80 rfl ?_
          refine mz_WP.getf rfl (h2) rfl (Nat.le_of_ble_eq_true rfl) ?_
          refine mz_WP.getf rfl (F _ _ rfl) rfl (Nat.le_of_ble_eq_true rfl) ?_
          refine mz_WP.run 80 rfl ?_
          refine mz_WP.cv rfl rfl (Nat.le_of_ble_eq_true rfl) rfl (F _ _ rfl) rfl (r_dowed F RD ?_)
          rw [rat_in (by omega) (by decide), d3]
          exact mz_WP.ret rfl rfl H
        · refine mz_WP.tout rfl (by decide) ?_
          refine mz_WP.run 80 rfl ?_
          refine mz_WP.getf rfl (h2) rfl (Nat.le_of_ble_eq_true rfl) ?_
          refine mz_WP.getf rfl (F _ _ rfl) rfl (Nat.le_of_ble_eq_true rfl) ?_
          refine mz_WP.run 80 rfl ?_
          refine mz_WP.cv rfl rfl (Nat.le_of_ble_eq_true rfl) rfl (F _ _ rfl) rfl (r_pin F p5 (by omega) (a4 d (by omega)) ?_)
          rw [if_neg (show ¬ nI 3 = nI 0 by decide), if_neg (show ¬ nI 3 = nI 1 by decide), if_neg (show ¬ nI 3 = nI 2 by decide)] at H
          refine mz_WP.ifc rfl (fun c4 => ?_) (fun c4 => ?_)
          · rw [bI_f c4] at H
            refine mz_WP.run 80 rfl ?_
            exact mz_WP.ret rfl rfl H
          · rw [bI_t c4] at H
            refine mz_WP.run 80 rfl ?_
            refine mz_WP.run 80 rfl ?_
            exact mz_WP.ret rfl rfl H
      · exact out (Or.inr (bI_f (Classical.byContradiction c2)))
  · have c0 := bI_f (Classical.byContradiction c0)
    have H := H h C (fun b _ => rfl)
    unfold dayR at H
    rw [if_pos c0] at H
    refine mz_WP.run 80 rfl ?_
    exact mz_WP.ret rfl rfl H
theorem s_best {card what : Int32} (C : CI h g kp gi) (H : ∀ h', CI h' g kp gi → (∀ b, b < 140 ∨ 185 < b → h' b = h b) → Q (some (.int (bestR g card what))) n h') : mz_wc (e + 7) 90 [.ref 2, .int card, .int what] n h Q := by
  refine mz_wc.enter (code := co_X10_best) (idx := 90) rfl rfl (Nat.le_of_ble_eq_true rfl) rfl rfl ?_
  refine mz_WP.run 80 rfl ?_
  refine mz_WP.cs rfl (by decide) rfl (Nat.le_of_ble_eq_true rfl) rfl (s_isCard ?_)
  refine mz_WP.ifc rfl (fun c0 => ?_) (fun c0 => ?_)
  · have c0 := bI_t c0
    obtain ⟨c, -, hc, rfl⟩ := inB_of (by decide) (by decide) c0
    unfold bestR at H
    rw [if_neg (by rw [c0]; decide)] at H
    have ok : ¬ (inB what (nI 0) (nI 1) = false ∧ inB what (nI 10) (nI 13) = false) → mz_WP (mz_wc (e + 6)) (e + 6) 1 co_X10_best Q 32 [some (.ref 2), some (.int (nI c)), some (.int what), none] [] n h 0 0 := by
      intro ho
      rw [if_neg ho] at H
      obtain ⟨k, W⟩ := C.2.2.2.1.1 c (by omega)
      unfold kL at H
      rw [nI_clamp (by omega), W.k] at H
      refine mz_WP.run 80 rfl ?_
      refine mz_WP.cv rfl rfl (Nat.le_of_ble_eq_true rfl) rfl (C.2.2.1) rfl (s_reckon C (by omega) W (fun h' C' hh B => ?_))
      have H := H h' C' hh
      obtain ⟨F, -, h2, -⟩ := id C'
      obtain ⟨-, -, -, ⟨cf, wf, wb, sr, iw, ⟨p1, p2, p3, p4, p5⟩, a1, a2, a3, a4⟩⟩ := B
      unfold bestV at H
      refine mz_WP.run 80 rfl ?_
      refine mz_WP.getf rfl (h2) rfl (Nat.le_of_ble_eq_true rfl) ?_
      refine mz_WP.getf rfl (F _ _ rfl) rfl (Nat.le_of_ble_eq_true rfl) ?_
      refine mz_WP.run 80 rfl ?_
      refine mz_WP.ifc rfl (fun c1 => ?_) (fun c1 => ?_)
      · have c1 : ¬ what = 0 := c1
        rw [if_neg (show ¬ what = nI 0 from c1)] at H
        refine mz_WP.run 80 rfl ?_
        refine mz_WP.icmp rfl (fun c2 => ?_) (fun c2 => ?_)
        · have c2 : ¬ what = nI 1 := c2
          rw [if_neg c2] at H
          have h10 : inB what (nI 10) (nI 13) = true := by
            cases hb : inB what (nI 10) (nI 13) with
            | true => rfl
            | false =>
              have h01 : inB what (nI 0) (nI 1) = true := tF (fun z => ho ⟨z, hb⟩)
              obtain ⟨j, -, hj, rfl⟩ := inB_of (by decide) (by decide) h01
              rcases (show j = 0 ∨ j = 1 by omega) with rfl | rfl
              · exact absurd rfl c1
              · exact absurd rfl c2
          obtain ⟨j, hj1, hj2, rfl⟩ := inB_of (by decide) (by decide) h10
          have e10 : nI j - nI 10 = nI (j - 10) := pk_sub (by omega)
          rw [e10, nI_clamp (by omega)] at H
          have hw4 := wkd_4 (ow := gO g (gJ g (gL g c k))) (wk := gK g (gJ g (gL g c k)))
          have hwk : wf 0 = nI (wkd (bgn (gO g (gJ g (gL g c k))) (gK g (gJ g (gL g c k)))) 0).length := by rw [a2, dpv_weeks 28 0 rfl]
          refine mz_WP.run 80 rfl ?_
          refine mz_WP.cv rfl rfl (Nat.le_of_ble_eq_true rfl) rfl (F _ _ rfl) rfl (r_pweeks F p2 ?_)
          rw [e10, hwk]
          refine mz_WP.icmp rfl (fun c3 => ?_) (fun c3 => ?_)
          · have hge : (wkd (bgn (gO g (gJ g (gL g c k))) (gK g (gJ g (gL g c k)))) 0).length ≤ j - 10 := by
              rcases Nat.lt_or_ge (j - 10) (wkd (bgn (gO g (gJ g (gL g c k))) (gK g (gJ g (gL g c k)))) 0).length with z | z
              · exact absurd c3 (nI_ge z (by omega))
              · exact z
            rw [List.getElem?_eq_none hge] at H
            refine mz_WP.run 80 rfl ?_
            exact mz_WP.ret rfl rfl H
          · have hlt : j - 10 < (wkd (bgn (gO g (gJ g (gL g c k))) (gK g (gJ g (gL g c k)))) 0).length := by
              rcases Nat.lt_or_ge (j - 10) (wkd (bgn (gO g (gJ g (gL g c k))) (gK g (gJ g (gL g c k)))) 0).length with z | z
              · exact z
              · exact absurd (nI_le z (by omega)) c3
            obtain ⟨s, hs⟩ : ∃ s, (wkd (bgn (gO g (gJ g (gL g c k))) (gK g (gJ g (gL g c k)))) 0)[j - 10]? = some s := ⟨_, List.getElem?_eq_getElem hlt⟩
            rw [hs] at H
            refine mz_WP.run 80 rfl ?_
            rw [e10]
            refine mz_WP.cv rfl rfl (Nat.le_of_ble_eq_true rfl) rfl (F _ _ rfl) rfl (r_pstart F p4 ?_)
            rw [rat_in (by omega) (by decide), a3 _ s hs]
            refine mz_WP.run 80 rfl ?_
            exact mz_WP.ret rfl rfl H
        · have c2 : what = nI 1 := Classical.byContradiction c2
          rw [if_pos c2, ← a2] at H
          refine mz_WP.run 80 rfl ?_
          refine mz_WP.cv rfl rfl (Nat.le_of_ble_eq_true rfl) rfl (F _ _ rfl) rfl (r_pweeks F p2 ?_)
          exact mz_WP.ret rfl rfl H
      · have c1 : what = 0 := Classical.byContradiction c1
        rw [if_pos (show what = nI 0 from c1)] at H
        unfold costV at H
        rw [← a1] at H
        refine mz_WP.run 80 rfl ?_
        refine mz_WP.cv rfl rfl (Nat.le_of_ble_eq_true rfl) rfl (F _ _ rfl) rfl (r_pcost F p1 ?_)
        exact mz_WP.ret rfl rfl H
    refine mz_WP.run 80 rfl ?_
    refine mz_WP.cs rfl (by decide) rfl (Nat.le_of_ble_eq_true rfl) rfl (s_within ?_)
    refine mz_WP.ifc rfl (fun c1 => ?_) (fun c1 => ?_)
    · exact ok (fun z => by rw [bI_t c1] at z; exact absurd z.1 (by decide))
    · have c1 := bI_f (Classical.byContradiction c1)
      refine mz_WP.run 80 rfl ?_
      refine mz_WP.cs rfl (by decide) rfl (Nat.le_of_ble_eq_true rfl) rfl (s_within ?_)
      refine mz_WP.ifc rfl (fun c2 => ?_) (fun c2 => ?_)
      · exact ok (fun z => by rw [bI_t c2] at z; exact absurd z.2 (by decide))
      · have c2 := bI_f (Classical.byContradiction c2)
        have H := H h C (fun b _ => rfl)
        rw [if_pos ⟨c1, c2⟩] at H
        refine mz_WP.run 80 rfl ?_
        exact mz_WP.ret rfl rfl H
  · have c0 := bI_f (Classical.byContradiction c0)
    have H := H h C (fun b _ => rfl)
    unfold bestR at H
    rw [if_pos c0] at H
    refine mz_WP.run 80 rfl ?_
    exact mz_WP.ret rfl rfl H
theorem s_saved {card what : Int32} (C : CI h g kp gi) (H : ∀ h', CI h' g kp gi → (∀ b, b < 140 ∨ 185 < b → h' b = h b) → Q (some (.int (savedR g card what))) n h') : mz_wc (e + 7) 91 [.ref 2, .int card, .int what] n h Q := by
  refine mz_wc.enter (code := co_X10_saved) (idx := 91) rfl rfl (Nat.le_of_ble_eq_true rfl) rfl rfl ?_
  refine mz_WP.run 80 rfl ?_
  refine mz_WP.cs rfl (by decide) rfl (Nat.le_of_ble_eq_true rfl) rfl (s_isCard ?_)
  refine mz_WP.ifc rfl (fun c0 => ?_) (fun c0 => ?_)
  · have c0 := bI_t c0
    obtain ⟨c, -, hc, rfl⟩ := inB_of (by decide) (by decide) c0
    unfold savedR at H
    rw [if_neg (by rw [c0]; decide)] at H
    refine mz_WP.run 80 rfl ?_
    refine mz_WP.cs rfl (by decide) rfl (Nat.le_of_ble_eq_true rfl) rfl (s_within ?_)
    refine mz_WP.ifc rfl (fun c1 => ?_) (fun c1 => ?_)
    · have c1 := bI_t c1
      rw [if_neg (by rw [c1]; decide)] at H
      obtain ⟨k, W⟩ := C.2.2.2.1.1 c (by omega)
      unfold kL at H
      rw [nI_clamp (by omega), W.k] at H
      refine mz_WP.run 80 rfl ?_
      refine mz_WP.cv rfl rfl (Nat.le_of_ble_eq_true rfl) rfl (C.2.2.1) rfl (s_reckon C (by omega) W (fun h' C' hh B => ?_))
      have H := H h' C' hh
      obtain ⟨F, -, h2, -⟩ := id C'
      obtain ⟨-, -, ⟨sm, wd, ow, RD, hD⟩, ⟨cf, wf, wb, sr, iw, ⟨p1, p2, p3, p4, p5⟩, a1, a2, a3, a4⟩⟩ := B
      have e1 : rsum sm 28 = rsum (dsm (frG g) (g 411) (gJ g (gL g c k))) 28 := rsum_c 28 (fun d hd => (hD d hd).1)
      have e2 : rsum ow 28 = rsum (gO g (gJ g (gL g c k))) 28 := rsum_c 28 (fun d hd => (hD d hd).2.2)
      unfold savedV costV at H
      rw [← a1, ← e1, ← e2] at H
      refine mz_WP.run 80 rfl ?_
      refine mz_WP.getf rfl (h2) rfl (Nat.le_of_ble_eq_true rfl) ?_
      refine mz_WP.getf rfl (F _ _ rfl) rfl (Nat.le_of_ble_eq_true rfl) ?_
      refine mz_WP.cv rfl rfl (Nat.le_of_ble_eq_true rfl) rfl (F _ _ rfl) rfl (r_dallO F RD ?_)
      refine mz_WP.run 80 rfl ?_
      refine mz_WP.ifc rfl (fun c2 => ?_) (fun c2 => ?_)
      · have c2 : ¬ what = nI 0 := c2
        rw [if_neg c2] at H
        refine mz_WP.run 80 rfl ?_
        refine mz_WP.getf rfl (h2) rfl (Nat.le_of_ble_eq_true rfl) ?_
        refine mz_WP.getf rfl (F _ _ rfl) rfl (Nat.le_of_ble_eq_true rfl) ?_
        refine mz_WP.cv rfl rfl (Nat.le_of_ble_eq_true rfl) rfl (F _ _ rfl) rfl (r_pcost F p1 ?_)
        refine mz_WP.run 80 rfl ?_
        exact mz_WP.ret rfl rfl H
      · have c2 : what = nI 0 := Classical.byContradiction c2
        rw [if_pos c2] at H
        refine mz_WP.run 80 rfl ?_
        refine mz_WP.getf rfl (h2) rfl (Nat.le_of_ble_eq_true rfl) ?_
        refine mz_WP.getf rfl (F _ _ rfl) rfl (Nat.le_of_ble_eq_true rfl) ?_
        refine mz_WP.cv rfl rfl (Nat.le_of_ble_eq_true rfl) rfl (F _ _ rfl) rfl (r_dallS F RD ?_)
        refine mz_WP.run 80 rfl ?_
        exact mz_WP.ret rfl rfl H
    · have c1 := bI_f (Classical.byContradiction c1)
      have H := H h C (fun b _ => rfl)
      rw [if_pos c1] at H
      refine mz_WP.run 80 rfl ?_
      exact mz_WP.ret rfl rfl H
  · have c0 := bI_f (Classical.byContradiction c0)
    have H := H h C (fun b _ => rfl)
    unfold savedR at H
    rw [if_pos c0] at H
    refine mz_WP.run 80 rfl ?_
    exact mz_WP.ret rfl rfl H
end P2
