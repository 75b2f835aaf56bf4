/-! the reference: day, best, saved -/
section MP2
variable {e n : Nat} {h h' : mz_H} {Q : mz_Q} {g : Nat → Int32} {kp : Nat} {gi : Nat → Nat → Int32}
theorem m_day {card day what : Int32} (M : MI h g kp gi) (W : WF g) (H : ∀ h', MI h' g kp gi → (∀ b, b < 186 → h' b = h b) → Q (some (.int (dayR g card day what))) n h') : mz_wc (e + 7) 148 [.ref 186, .int card, .int day, .int what] n h Q := by
  obtain ⟨⟨r, j, ho⟩, hg, -, -, s1, s2, s3⟩ := id M
  refine mz_wc.enter (code := co_X11_day) (idx := 148) rfl rfl (Nat.le_of_ble_eq_true rfl) rfl rfl ?_
  refine mz_WP.run 80 rfl ?_
  refine mz_WP.cs rfl (by decide) rfl (Nat.le_of_ble_eq_true rfl) rfl (m_isCard ?_)
  refine mz_WP.ifc rfl (fun c1 => ?_) (fun c1 => ?_)
  rotate_left
  · have c1 := bI_f (Classical.byContradiction c1)
    have H := H h M (fun _ _ => rfl)
    rw [dayR, if_pos c1] at H
    refine mz_WP.run 80 rfl ?_
    exact mz_WP.ret rfl rfl H
  have c1 := bI_t c1
  have o2 : (inB day (nI 0) (nI 27) = false ∨ inB what (nI 0) (nI 3) = false) → mz_WP (mz_wc (e + 6)) (e + 6) 1 co_X11_day Q 25 [some (.ref 186), some (.int card), some (.int day), some (.int what)] [] n h 0 0 := by
    intro hh
    have H := H h M (fun _ _ => rfl)
    rw [dayR, if_neg (by rw [c1]; decide), if_pos hh] at H
    refine mz_WP.run 80 rfl ?_
    exact mz_WP.ret rfl rfl H
  refine mz_WP.run 80 rfl ?_
  refine mz_WP.cs rfl (by decide) rfl (Nat.le_of_ble_eq_true rfl) rfl (m_isDay ?_)
  refine mz_WP.ifc rfl (fun c2 => ?_) (fun c2 => ?_)
  · exact o2 (Or.inl (bI_f c2))
  have c2 := bI_t c2
  refine mz_WP.run 80 rfl ?_
  refine mz_WP.cs rfl (by decide) rfl (Nat.le_of_ble_eq_true rfl) rfl (m_in ?_)
  refine mz_WP.ifc rfl (fun c3 => ?_) (fun c3 => ?_)
  rotate_left
  · exact o2 (Or.inr (bI_f (Classical.byContradiction c3)))
  have c3 := bI_t c3
  rw [dayR, if_neg (by rw [c1]; decide), if_neg (by rw [c2, c3]; decide)] at H
  obtain ⟨c, -, hc, rfl⟩ := inB_of (by decide) (by omega) c1
  have hc : c < 4 := by omega
  obtain ⟨d, -, hd, rfl⟩ := inB_of (by decide) (by omega) c2
  have hd : d < 28 := by omega
  obtain ⟨k, Wc⟩ := W.1 c hc
  rw [nI_clamp (by omega), nI_clamp (by omega), kL, Wc.k] at H
  refine mz_WP.run 80 rfl ?_
  refine mz_WP.cv rfl rfl (Nat.le_of_ble_eq_true rfl) rfl (ho) rfl (r_layDays W Wc hc ho hg s1 s2 s3 (fun h1 D o1 => ?_))
  have H := H h1 (M.days D o1) (fun b hb => o1 b (by omega) (by omega))
  obtain ⟨J, su, wd, ow, la, wk, iw, ⟨d1, d2, d3, d4, d5, d6⟩, hs, -, -, hiw⟩ := D
  obtain ⟨⟨r', j', ho1⟩, -, -⟩ := J.S
  obtain ⟨q1, q2, q3⟩ := hs d hd
  unfold dayV at H
  refine mz_WP.run 80 rfl ?_
  refine mz_WP.ifc rfl (fun z0 => ?_) (fun z0 => ?_)
  rotate_left
  · have z0 : what = nI 0 := Classical.byContradiction z0
    rw [if_pos z0] at H
    refine mz_WP.run 80 rfl ?_
    refine mz_WP.getf rfl (ho1) rfl (Nat.le_of_ble_eq_true rfl) ?_
    refine mz_WP.run 80 rfl ?_
    refine mz_WP.alN rfl d1 rfl hd (by decide) ?_
    rw [q1]
    refine mz_WP.run 80 rfl ?_
    exact mz_WP.ret rfl rfl H
  have z0 : ¬ what = nI 0 := z0
  rw [if_neg z0] at H
  refine mz_WP.run 80 rfl ?_
  refine mz_WP.icmp rfl (fun z1 => ?_) (fun z1 => ?_)
  rotate_left
  · have z1 : what = nI 1 := Classical.byContradiction z1
    rw [if_pos z1] at H
    refine mz_WP.run 80 rfl ?_
    refine mz_WP.getf rfl (ho1) rfl (Nat.le_of_ble_eq_true rfl) ?_
    refine mz_WP.run 80 rfl ?_
    refine mz_WP.alN rfl d2 rfl hd (by decide) ?_
    rw [q2]
    refine mz_WP.run 80 rfl ?_
    exact mz_WP.ret rfl rfl H
  have z1 : ¬ what = nI 1 := z1
  rw [if_neg z1] at H
  refine mz_WP.run 80 rfl ?_
  refine mz_WP.icmp rfl (fun z2 => ?_) (fun z2 => ?_)
  rotate_left
  · have z2 : what = nI 2 := Classical.byContradiction z2
    rw [if_pos z2] at H
    refine mz_WP.run 80 rfl ?_
    refine mz_WP.getf rfl (ho1) rfl (Nat.le_of_ble_eq_true rfl) ?_
    refine mz_WP.run 80 rfl ?_
    refine mz_WP.alN rfl d3 rfl hd (by decide) ?_
    rw [q3]
    refine mz_WP.run 80 rfl ?_
    exact mz_WP.ret rfl rfl H
  have z2 : ¬ what = nI 2 := z2
  rw [if_neg z2] at H
  refine mz_WP.run 80 rfl ?_
  refine mz_WP.cv rfl rfl (Nat.le_of_ble_eq_true rfl) rfl (ho1) rfl (m_isOfWeek (bg := bgn (gO g (gJ g (gL g c k))) (gK g (gJ g (gL g c k)))) ho1 d6 hiw wkd_4 hd ?_)
  revert H
  generalize inS (wkd (bgn (gO g (gJ g (gL g c k))) (gK g (gJ g (gL g c k)))) 0) d = bb
  intro H
  refine mz_WP.ifc rfl (fun z3 => ?_) (fun z3 => ?_)
  · rw [bI_f z3] at H
    refine mz_WP.run 80 rfl ?_
    exact mz_WP.ret rfl rfl H
  · rw [bI_t z3] at H
    refine mz_WP.run 80 rfl ?_
    refine mz_WP.run 80 rfl ?_
    exact mz_WP.ret rfl rfl H
theorem m_best {card what : Int32} (M : MI h g kp gi) (W : WF g) (H : ∀ h', MI h' g kp gi → (∀ b, b < 186 → h' b = h b) → Q (some (.int (bestR g card what))) n h') : mz_wc (e + 7) 149 [.ref 186, .int card, .int what] n h Q := by
  obtain ⟨⟨r, j, ho⟩, hg, -, -, s1, s2, s3⟩ := id M
  refine mz_wc.enter (code := co_X11_best) (idx := 149) rfl rfl (Nat.le_of_ble_eq_true rfl) rfl rfl ?_
  refine mz_WP.run 80 rfl ?_
  refine mz_WP.cs rfl (by decide) rfl (Nat.le_of_ble_eq_true rfl) rfl (m_isCard ?_)
  refine mz_WP.ifc rfl (fun c1 => ?_) (fun c1 => ?_)
  rotate_left
  · have c1 := bI_f (Classical.byContradiction c1)
    have H := H h M (fun _ _ => rfl)
    rw [bestR, if_pos c1] at H
    refine mz_WP.run 80 rfl ?_
    exact mz_WP.ret rfl rfl H
  have c1 := bI_t c1
  have go : (inB what (nI 0) (nI 1) = true ∨ inB what (nI 10) (nI 13) = true) → mz_WP (mz_wc (e + 6)) (e + 6) 1 co_X11_best Q 32 [some (.ref 186), some (.int card), some (.int what)] [] n h 0 0 := by
    intro hin
    rw [bestR, if_neg (by rw [c1]; decide), if_neg (fun z => by
      rcases hin with q | q
      · rw [q] at z
        cases z.1
      · rw [q] at z
        cases z.2)] at H
    obtain ⟨c, -, hc, rfl⟩ := inB_of (by decide) (by omega) c1
    have hc : c < 4 := by omega
    obtain ⟨k, Wc⟩ := W.1 c hc
    rw [nI_clamp (by omega), kL, Wc.k] at H
    refine mz_WP.run 80 rfl ?_
    refine mz_WP.cv rfl rfl (Nat.le_of_ble_eq_true rfl) rfl (ho) rfl (r_layDays W Wc hc ho hg s1 s2 s3 (fun h1 D o1 => ?_))
    have H := H h1 (M.days D o1) (fun b hb => o1 b (by omega) (by omega))
    obtain ⟨J, su, wd, ow, la, wk, iw, ⟨d1, d2, d3, d4, d5, d6⟩, -, hla, hwk, hiw⟩ := D
    obtain ⟨⟨r', j', ho1⟩, -, -⟩ := J.S
    unfold bestV at H
    refine mz_WP.run 80 rfl ?_
    refine mz_WP.ifc rfl (fun z0 => ?_) (fun z0 => ?_)
    rotate_left
    · have z0 : what = nI 0 := Classical.byContradiction z0
      rw [if_pos z0, costV] at H
      refine mz_WP.run 80 rfl ?_
      refine mz_WP.getf rfl (ho1) rfl (Nat.le_of_ble_eq_true rfl) ?_
      refine mz_WP.run 80 rfl ?_
      refine mz_WP.alN (k := 0) rfl d4 rfl (by omega) (by decide) ?_
      rw [hla]
      refine mz_WP.run 80 rfl ?_
      exact mz_WP.ret rfl rfl H
    have z0 : ¬ what = nI 0 := z0
    rw [if_neg z0] at H
    refine mz_WP.run 80 rfl ?_
    refine mz_WP.icmp rfl (fun z1 => ?_) (fun z1 => ?_)
    rotate_left
    · have z1 : what = nI 1 := Classical.byContradiction z1
      rw [if_pos z1] at H
      refine mz_WP.run 80 rfl ?_
      refine mz_WP.getf rfl (ho1) rfl (Nat.le_of_ble_eq_true rfl) ?_
      refine mz_WP.run 80 rfl ?_
      refine mz_WP.alN (k := 0) rfl d5 rfl (by omega) (by decide) ?_
      rw [hwk]
      refine mz_WP.run 80 rfl ?_
      exact mz_WP.ret rfl rfl H
    have z1 : ¬ what = nI 1 := z1
    rw [if_neg z1] at H
    have hw : inB what (nI 10) (nI 13) = true := by
      rcases hin with q | q
      · obtain ⟨m, m1, m2, rfl⟩ := inB_of (by decide) (by omega) q
        rcases Nat.lt_or_ge m 1 with y | y
        · exact absurd (by rw [show m = 0 by omega]) z0
        · exact absurd (by rw [show m = 1 by omega]) z1
      · exact q
    obtain ⟨m, m1, m2, rfl⟩ := inB_of (by decide) (by omega) hw
    rw [pk_sub m1, nI_clamp (by omega)] at H
    refine mz_WP.run 80 rfl ?_
    rw [pk_sub m1]
    refine mz_WP.cv rfl rfl (Nat.le_of_ble_eq_true rfl) rfl (ho1) rfl (m_weekOf (bg := bgn (gO g (gJ g (gL g c k))) (gK g (gJ g (gL g c k)))) ho1 d6 hiw (by omega) ?_)
    unfold wkA
    revert H
    generalize (wkd (bgn (gO g (gJ g (gL g c k))) (gK g (gJ g (gL g c k)))) 0)[m - 10]? = os
    intro H
    cases os
    · exact mz_WP.ret rfl rfl H
    · exact mz_WP.ret rfl rfl H
  refine mz_WP.run 80 rfl ?_
  refine mz_WP.cs rfl (by decide) rfl (Nat.le_of_ble_eq_true rfl) rfl (m_in ?_)
  refine mz_WP.ifc rfl (fun c2 => ?_) (fun c2 => ?_)
  · exact go (Or.inl (bI_t c2))
  have c2 := bI_f (Classical.byContradiction c2)
  refine mz_WP.run 80 rfl ?_
  refine mz_WP.cs rfl (by decide) rfl (Nat.le_of_ble_eq_true rfl) rfl (m_in ?_)
  refine mz_WP.ifc rfl (fun c3 => ?_) (fun c3 => ?_)
  · exact go (Or.inr (bI_t c3))
  have c3 := bI_f (Classical.byContradiction c3)
  have H := H h M (fun _ _ => rfl)
  rw [bestR, if_neg (by rw [c1]; decide), if_pos ⟨c2, c3⟩] at H
  refine mz_WP.run 80 rfl ?_
  exact mz_WP.ret rfl rfl H
theorem m_saved {card what : Int32} (M : MI h g kp gi) (W : WF g) (H : ∀ h', MI h' g kp gi → (∀ b, b < 186 → h' b = h b) → Q (some (.int (savedR g card what))) n h') : mz_wc (e + 7) 150 [.ref 186, .int card, .int what] n h Q := by
  obtain ⟨⟨r, j, ho⟩, hg, -, -, s1, s2, s3⟩ := id M
  refine mz_wc.enter (code := co_X11_saved) (idx := 150) rfl rfl (Nat.le_of_ble_eq_true rfl) rfl rfl ?_
  refine mz_WP.run 80 rfl ?_
  refine mz_WP.cs rfl (by decide) rfl (Nat.le_of_ble_eq_true rfl) rfl (m_isCard ?_)
  refine mz_WP.ifc rfl (fun c1 => ?_) (fun c1 => ?_)
  rotate_left
  · have c1 := bI_f (Classical.byContradiction c1)
    have H := H h M (fun _ _ => rfl)
    rw [savedR, if_pos c1] at H
    refine mz_WP.run 80 rfl ?_
    exact mz_WP.ret rfl rfl H
  have c1 := bI_t c1
  refine mz_WP.run 80 rfl ?_
  refine mz_WP.cs rfl (by decide) rfl (Nat.le_of_ble_eq_true rfl) rfl (m_in ?_)
  refine mz_WP.ifc rfl (fun c2 => ?_) (fun c2 => ?_)
  rotate_left
  · have c2 := bI_f (Classical.byContradiction c2)
    have H := H h M (fun _ _ => rfl)
    rw [savedR, if_neg (by rw [c1]; decide), if_pos c2] at H
    refine mz_WP.run 80 rfl ?_
    exact mz_WP.ret rfl rfl H
  have c2 := bI_t c2
  rw [savedR, if_neg (by rw [c1]; decide), if_neg (by rw [c2]; decide)] at H
  obtain ⟨c, -, hc, rfl⟩ := inB_of (by decide) (by omega) c1
  have hc : c < 4 := by omega
  obtain ⟨k, Wc⟩ := W.1 c hc
  rw [nI_clamp (by omega), kL, Wc.k] at H
  refine mz_WP.run 80 rfl ?_
  refine mz_WP.cv rfl rfl (Nat.le_of_ble_eq_true rfl) rfl (ho) rfl (r_layDays W Wc hc ho hg s1 s2 s3 (fun h1 D o1 => ?_))
  have H := H h1 (M.days D o1) (fun b hb => o1 b (by omega) (by omega))
  obtain ⟨J, su, wd, ow, la, wk, iw, ⟨d1, d2, d3, d4, d5, d6⟩, hs, hla, hwk, hiw⟩ := D
  obtain ⟨⟨r', j', ho1⟩, -, -⟩ := J.S
  unfold savedV costV at H
  rw [← hla, ← rsum_c 28 (fun d hd => (hs d hd).1), ← rsum_c 28 (fun d hd => (hs d hd).2.2)] at H
  have loop : ∀ q i, i + q = 28 → mz_WP (mz_wc (e + 6)) (e + 6) 1 co_X11_saved Q 34 [some (.ref 186), some (.int (nI c)), some (.int what), some (.int (rsum ow i)), some (.int (rsum su i)), some (.int (nI i))] [] n h1 0 0 := by
    intro q
    induction q with
    | zero =>
      intro i hi
      have hi : i = 28 := by omega
      subst hi
      refine mz_WP.run 80 rfl ?_
      refine mz_WP.icmp rfl (fun cc => ?_) (fun cc => ?_)
      · refine mz_WP.run 80 rfl ?_
        refine mz_WP.ifc rfl (fun z0 => ?_) (fun z0 => ?_)
        · have z0 : ¬ what = nI 0 := z0
          rw [if_neg z0] at H
          refine mz_WP.run 80 rfl ?_
          refine mz_WP.getf rfl (ho1) rfl (Nat.le_of_ble_eq_true rfl) ?_
          refine mz_WP.run 80 rfl ?_
          refine mz_WP.alN (k := 0) rfl d4 rfl (by omega) (by decide) ?_
          refine mz_WP.run 80 rfl ?_
          exact mz_WP.ret rfl rfl H
        · have z0 : what = nI 0 := Classical.byContradiction z0
          rw [if_pos z0] at H
          refine mz_WP.run 80 rfl ?_
          refine mz_WP.run 80 rfl ?_
          exact mz_WP.ret rfl rfl H
      · exact absurd (nI_le (Nat.le_refl _) (by decide)) cc
    | succ q ih =>
      intro i hi
      have nx := ih (i + 1) (by omega)
      rw [nI_succ i] at nx
      refine mz_WP.run 80 rfl ?_
      refine mz_WP.icmp rfl (fun cc => ?_) (fun cc => ?_)
      · exact absurd cc (nI_ge (by omega) (by decide))
      refine mz_WP.run 80 rfl ?_
      refine mz_WP.getf rfl (ho1) rfl (Nat.le_of_ble_eq_true rfl) ?_
      refine mz_WP.run 80 rfl ?_
      refine mz_WP.alN rfl d1 rfl (by omega) (by decide) ?_
      refine mz_WP.run 80 rfl ?_
      refine mz_WP.getf rfl (ho1) rfl (Nat.le_of_ble_eq_true rfl) ?_
      refine mz_WP.run 80 rfl ?_
      refine mz_WP.alN rfl d3 rfl (by omega) (by decide) ?_
      refine mz_WP.run 80 rfl ?_
      exact nx
  refine mz_WP.run 6 rfl ?_
  exact loop 28 0 rfl
end MP2
