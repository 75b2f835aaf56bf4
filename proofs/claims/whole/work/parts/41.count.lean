/-! the class: count -/
section P7
variable {e n : Nat} {h : mz_H} {Q : mz_Q} {g : Nat → Int32} {kp : Nat} {gi : Nat → Nat → Int32} {a : Nat} {nb bb : Nat → Int32} {nu ba : Int32}
theorem s_laggards (T : BlA h a nb bb nu ba) (hn : nu = g 414) (hb : ∀ r, r < 4 → nb r = g (415 + r)) (H : Q (some (.int (lagN g 4))) n h) : mz_wc (e + 2) 7 [.ref a] n h Q := by
  refine mz_wc.enter (code := co_X0_laggards) (idx := 7) rfl rfl (Nat.le_of_ble_eq_true rfl) rfl rfl ?_
  refine mz_WP.run 4 rfl ?_
  have loop : ∀ q r, r + q = 4 → mz_WP (mz_wc (e + 1)) (e + 1) 1 co_X0_laggards Q 4 [some (.ref a), some (.int (lagN g r)), some (.int (nI r))] [] n h 0 0 := by
    intro q
    induction q with
    | zero =>
      intro r hr
      have hr : r = 4 := by omega
      subst hr
      refine mz_WP.run 80 rfl ?_
      refine mz_WP.icmp rfl (fun c => ?_) (fun c => ?_)
      · refine mz_WP.run 80 rfl ?_
        exact mz_WP.ret rfl rfl H
      · exact absurd (nI_le (Nat.le_refl _) (by decide)) c
    | succ q ih =>
      intro r hr
      have ih := ih (r + 1) (by omega)
      rw [nI_succ] at ih
      refine mz_WP.run 80 rfl ?_
      refine mz_WP.icmp rfl (fun c => ?_) (fun c => ?_)
      · exact absurd c (nI_ge (by omega) (by decide))
      · refine mz_WP.run 80 rfl ?_
        refine mz_WP.getf rfl (T.1) rfl (Nat.le_of_ble_eq_true rfl) ?_
        refine mz_WP.run 80 rfl ?_
        refine mz_WP.cv rfl rfl (Nat.le_of_ble_eq_true rfl) rfl (T.2.1.1) rfl (s_at T.2.1.1 T.2.2.1 (by decide) ?_)
        rw [rat_in (by omega) (by decide), hb r (by omega)]
        refine mz_WP.run 80 rfl ?_
        refine mz_WP.getf rfl (T.1) rfl (Nat.le_of_ble_eq_true rfl) ?_
        rw [hn]
        refine mz_WP.icmp rfl (fun c1 => ?_) (fun c1 => ?_)
        · have c1 : g 414 ≤ g (415 + r) := c1
          have e1 : lagN g (r + 1) = lagN g r := if_neg (Int32.not_lt.mpr c1)
          rw [e1] at ih
          refine mz_WP.run 80 rfl ?_
          exact ih
        · have c1 : ¬ g 414 ≤ g (415 + r) := c1
          have e1 : lagN g (r + 1) = lagN g r + nI 1 := if_pos (Int32.not_le.mp c1)
          rw [e1] at ih
          refine mz_WP.run 80 rfl ?_
          exact ih
  exact loop 4 0 rfl
theorem s_allCost (C : CI h g kp gi) (H : ∀ h', CI h' g kp gi → (∀ b, b < 140 ∨ 185 < b → h' b = h b) → Q (some (.int (allC g 4))) n h') : mz_wc (e + 6) 102 [.ref 2] n h Q := by
  refine mz_wc.enter (code := co_X10_costOfAllCards) (idx := 102) rfl rfl (Nat.le_of_ble_eq_true rfl) rfl rfl ?_
  refine mz_WP.run 4 rfl ?_
  have loop : ∀ q c, c + q = 4 → ∀ h', CI h' g kp gi → (∀ b, b < 140 ∨ 185 < b → h' b = h b) → mz_WP (mz_wc (e + 5)) (e + 5) 1 co_X10_costOfAllCards Q 4 [some (.ref 2), some (.int (allC g c)), some (.int (nI c))] [] n h' 0 0 := by
    intro q
    induction q with
    | zero =>
      intro c hc h' C' o'
      have hc : c = 4 := by omega
      subst hc
      refine mz_WP.run 80 rfl ?_
      refine mz_WP.icmp rfl (fun c0 => ?_) (fun c0 => ?_)
      · refine mz_WP.run 80 rfl ?_
        exact mz_WP.ret rfl rfl (H h' C' o')
      · exact absurd (nI_le (Nat.le_refl _) (by decide)) c0
    | succ q ih =>
      intro c hc h' C' o'
      obtain ⟨F, B, h2, W, R, -⟩ := id C'
      obtain ⟨k, Wc, RT⟩ := R.1 c (by omega)
      obtain ⟨m, s, w, T, r, hs, hm⟩ := RT.facts Wc
      refine mz_WP.run 80 rfl ?_
      refine mz_WP.icmp rfl (fun c0 => ?_) (fun c0 => ?_)
      · exact absurd c0 (nI_ge (by omega) (by decide))
      · refine mz_WP.run 80 rfl ?_
        refine mz_WP.getf rfl (h2) rfl (Nat.le_of_ble_eq_true rfl) ?_
        refine mz_WP.run 80 rfl ?_
        refine mz_WP.getf rfl (h2) rfl (Nat.le_of_ble_eq_true rfl) ?_
        refine mz_WP.run 80 rfl ?_
        refine mz_WP.cv rfl rfl (Nat.le_of_ble_eq_true rfl) rfl (F _ _ rfl) rfl (s_tapsOf F (by omega) ?_)
        refine mz_WP.run 80 rfl ?_
        refine mz_WP.getf rfl (h2) rfl (Nat.le_of_ble_eq_true rfl) ?_
        refine mz_WP.getf rfl (F _ _ rfl) rfl (Nat.le_of_ble_eq_true rfl) ?_
        refine mz_WP.cv rfl rfl (Nat.le_of_ble_eq_true rfl) rfl (F _ _ rfl) rfl (r_breckon C' T (by omega) Wc.1 hs hm (fun h1 C1 o1 B1 => ?_))
        rw [vL_c r] at B1
        obtain ⟨-, -, -, ⟨cf, wf, wb, sr, iw, ⟨p1, p2, p3, p4, p5⟩, a1, -⟩⟩ := B1
        obtain ⟨F1, -, g1, -⟩ := id C1
        have a2 : cf 0 = costC g c := by
          rw [a1]
          unfold costC kL costV
          rw [Wc.k]
          rfl
        refine mz_WP.run 80 rfl ?_
        refine mz_WP.getf rfl (g1) rfl (Nat.le_of_ble_eq_true rfl) ?_
        refine mz_WP.getf rfl (F1 _ _ rfl) rfl (Nat.le_of_ble_eq_true rfl) ?_
        refine mz_WP.cv rfl rfl (Nat.le_of_ble_eq_true rfl) rfl (F1 _ _ rfl) rfl (r_pcost F1 p1 ?_)
        rw [a2]
        refine mz_WP.run 80 rfl ?_
        have := ih (c + 1) (by omega) h1 C1 (fun b hb => (o1 b hb).trans (o' b hb))
        rw [nI_succ] at this
        exact this
  exact loop 4 0 rfl h C (fun _ _ => rfl)
theorem s_count {what : Int32} (C : CI h g kp gi) (H : ∀ h', CI h' g kp gi → (∀ b, b < 140 ∨ 185 < b → h' b = h b) → Q (some (.int (countR g kp what))) n h') : mz_wc (e + 7) 98 [.ref 2, .int what] n h Q := by
  obtain ⟨F, B, h2, W, R, -⟩ := id C
  obtain ⟨R1, ⟨zr, fr, cr, wr, Tr, t1, -⟩, nb, bb, Bl, rb⟩ := id R
  unfold countR at H
  refine mz_wc.enter (code := co_X10_count) (idx := 98) rfl rfl (Nat.le_of_ble_eq_true rfl) rfl rfl ?_
  refine mz_WP.run 80 rfl ?_
  refine mz_WP.cs rfl (by decide) rfl (Nat.le_of_ble_eq_true rfl) rfl (s_isCard ?_)
  refine mz_WP.ifc rfl (fun c0 => ?_) (fun c0 => ?_)
  · have c0 := bI_f c0
    rw [if_neg (by rw [c0]; decide)] at H
    refine mz_WP.run 80 rfl ?_
    refine mz_WP.cs rfl (by decide) rfl (Nat.le_of_ble_eq_true rfl) rfl (s_within ?_)
    refine mz_WP.ifc rfl (fun c1 => ?_) (fun c1 => ?_)
    · have c1 := bI_f c1
      rw [if_neg (by rw [c1]; decide)] at H
      refine mz_WP.run 80 rfl ?_
      refine mz_WP.cs rfl (by decide) rfl (Nat.le_of_ble_eq_true rfl) rfl (s_within ?_)
      refine mz_WP.ifc rfl (fun c2 => ?_) (fun c2 => ?_)
      · have c2 := bI_f c2
        rw [if_neg (by rw [c2]; decide)] at H
        refine mz_WP.run 80 rfl ?_
        by_cases w4 : what = nI 4
        · subst w4
          have H := H h C (fun _ _ => rfl)
          rw [if_pos rfl] at H
          refine mz_WP.tin (off := 36) rfl (by decide) (by decide) ?_
          refine mz_WP.run 80 rfl ?_
          refine mz_WP.getf rfl (h2) rfl (Nat.le_of_ble_eq_true rfl) ?_
          refine mz_WP.getf rfl (F _ _ rfl) rfl (Nat.le_of_ble_eq_true rfl) ?_
          refine mz_WP.cv rfl rfl (Nat.le_of_ble_eq_true rfl) rfl (Bl.1) rfl (s_number Bl ?_)
          exact mz_WP.ret rfl rfl H
        rw [if_neg w4] at H
        by_cases w5 : what = nI 5
        · subst w5
          have H := H h C (fun _ _ => rfl)
          rw [if_pos rfl] at H
          refine mz_WP.tin (off := 47) rfl (by decide) (by decide) ?_
          refine mz_WP.run 80 rfl ?_
          refine mz_WP.getf rfl (h2) rfl (Nat.le_of_ble_eq_true rfl) ?_
          refine mz_WP.getf rfl (F _ _ rfl) rfl (Nat.le_of_ble_eq_true rfl) ?_
          refine mz_WP.cv rfl rfl (Nat.le_of_ble_eq_true rfl) rfl (Bl.1) rfl (s_barred Bl ?_)
          exact mz_WP.ret rfl rfl H
        rw [if_neg w5] at H
        by_cases w6 : what = nI 6
        · subst w6
          have H := H h C (fun _ _ => rfl)
          rw [if_pos rfl] at H
          refine mz_WP.tin (off := 58) rfl (by decide) (by decide) ?_
          refine mz_WP.run 80 rfl ?_
          refine mz_WP.getf rfl (h2) rfl (Nat.le_of_ble_eq_true rfl) ?_
          refine mz_WP.getf rfl (F _ _ rfl) rfl (Nat.le_of_ble_eq_true rfl) ?_
          refine mz_WP.cv rfl rfl (Nat.le_of_ble_eq_true rfl) rfl (Bl.1) rfl (s_laggards Bl rfl (fun r hr => (rb r hr).1) ?_)
          exact mz_WP.ret rfl rfl H
        rw [if_neg w6] at H
        by_cases w7 : what = nI 7
        · subst w7
          rw [if_pos rfl] at H
          refine mz_WP.tin (off := 69) rfl (by decide) (by decide) ?_
          refine mz_WP.run 80 rfl ?_
          refine mz_WP.cv rfl rfl (Nat.le_of_ble_eq_true rfl) rfl (h2) rfl (s_allCost C (fun h' C' o' => ?_))
          exact mz_WP.ret rfl rfl (H h' C' o')
        rw [if_neg w7] at H
        by_cases w8 : what = nI 8
        · subst w8
          have H := H h C (fun _ _ => rfl)
          rw [if_pos rfl] at H
          refine mz_WP.tin (off := 74) rfl (by decide) (by decide) ?_
          refine mz_WP.run 80 rfl ?_
          refine mz_WP.getf rfl (h2) rfl (Nat.le_of_ble_eq_true rfl) ?_
          exact mz_WP.ret rfl rfl H
        rw [if_neg w8] at H
        have hout : what.toInt < 4 ∨ 8 < what.toInt := by
          apply Classical.byContradiction
          intro hz
          have key : ∀ j : Nat, j < 2 ^ 31 → what.toInt = (j : Int) → what = nI j := fun j hj he => Int32.toInt_inj.mp (by rw [he, nI_toInt hj])
          have : what.toInt = 4 ∨ what.toInt = 5 ∨ what.toInt = 6 ∨ what.toInt = 7 ∨ what.toInt = 8 := by omega
          rcases this with z | z | z | z | z
          · exact w4 (key 4 (by decide) z)
          · exact w5 (key 5 (by decide) z)
          · exact w6 (key 6 (by decide) z)
          · exact w7 (key 7 (by decide) z)
          · exact w8 (key 8 (by decide) z)
        refine mz_WP.tout rfl hout ?_
        refine mz_WP.run 80 rfl ?_
        exact mz_WP.ret rfl rfl (H h C (fun _ _ => rfl))
      · have c2 := bI_t c2
        have H := H h C (fun _ _ => rfl)
        rw [if_pos c2] at H
        obtain ⟨j, hj1, hj2, rfl⟩ := inB_of (by decide) (by decide) c2
        have e1 : nI j - nI 20 = nI (j - 20) := pk_sub (by omega)
        rw [e1, nI_clamp (by omega)] at H
        refine mz_WP.run 80 rfl ?_
        refine mz_WP.getf rfl (h2) rfl (Nat.le_of_ble_eq_true rfl) ?_
        refine mz_WP.getf rfl (F _ _ rfl) rfl (Nat.le_of_ble_eq_true rfl) ?_
        refine mz_WP.run 80 rfl ?_
        rw [e1]
        refine mz_WP.cv rfl rfl (Nat.le_of_ble_eq_true rfl) rfl (Tr.1) rfl (s_zoneOf Tr ?_)
        rw [t1, rat_in (by omega) (by decide)]
        exact mz_WP.ret rfl rfl H
    · have c1 := bI_t c1
      have H := H h C (fun _ _ => rfl)
      rw [if_pos c1] at H
      obtain ⟨j, hj1, hj2, rfl⟩ := inB_of (by decide) (by decide) c1
      have e1 : nI j - nI 10 = nI (j - 10) := pk_sub (by omega)
      rw [e1, nI_clamp (by omega)] at H
      refine mz_WP.run 80 rfl ?_
      refine mz_WP.getf rfl (h2) rfl (Nat.le_of_ble_eq_true rfl) ?_
      refine mz_WP.getf rfl (F _ _ rfl) rfl (Nat.le_of_ble_eq_true rfl) ?_
      refine mz_WP.run 80 rfl ?_
      rw [e1]
      refine mz_WP.cv rfl rfl (Nat.le_of_ble_eq_true rfl) rfl (Bl.1) rfl (s_numberAt Bl ?_)
      rw [rat_in (by omega) (by decide), (rb _ (by omega)).1]
      exact mz_WP.ret rfl rfl H
  · have c0 := bI_t c0
    have H := H h C (fun _ _ => rfl)
    rw [if_pos c0] at H
    obtain ⟨c, -, hc, rfl⟩ := inB_of (by decide) (by decide) c0
    rw [nI_clamp (by omega)] at H
    obtain ⟨k, Wc, m, s, w, T, r⟩ := R1 c (by omega)
    rw [Wc.2.1] at H
    refine mz_WP.run 80 rfl ?_
    refine mz_WP.getf rfl (h2) rfl (Nat.le_of_ble_eq_true rfl) ?_
    refine mz_WP.run 80 rfl ?_
    refine mz_WP.cv rfl rfl (Nat.le_of_ble_eq_true rfl) rfl (F _ _ rfl) rfl (s_tapsOf F (by omega) ?_)
    refine mz_WP.cv rfl rfl (Nat.le_of_ble_eq_true rfl) rfl (T.2.1) rfl (r_tsize T ?_)
    exact mz_WP.ret rfl rfl H
end P7
