/-! the reference: journeys -/
section MJ1
variable {e n : Nat} {h : mz_H} {Q : mz_Q} {g : Nat → Int32} {r j : Int32} {kd st sp bg en lm jo fi le wi co : Nat → Int32}
theorem m_busy {x : Int32} (H : Q (some (.int (bI (busyB x)))) n h) : mz_wc (e + 2) 138 [.int x] n h Q := by
  refine mz_wc.enter (code := co_X11_isBusy) (idx := 138) rfl rfl (Nat.le_of_ble_eq_true rfl) rfl rfl ?_
  refine mz_WP.run 80 rfl ?_
  refine mz_WP.div rfl (by decide) ?_
  refine mz_WP.run 80 rfl ?_
  refine mz_WP.rem rfl (by decide) ?_
  refine mz_WP.run 80 rfl ?_
  refine mz_WP.rem rfl (by decide) ?_
  refine mz_WP.run 80 rfl ?_
  refine mz_WP.icmp rfl (fun c => ?_) (fun c => ?_)
  · have c : ¬ x / nI 1440 - x / nI 1440 / nI 7 * nI 7 < nI 5 := Int32.not_lt.mpr c
    have hb : busyB x = false := by unfold busyB; rw [decide_eq_false c]; rfl
    rw [hb] at H
    refine mz_WP.run 80 rfl ?_
    exact mz_WP.zret rfl rfl (Or.inl rfl) H
  · have c : x / nI 1440 - x / nI 1440 / nI 7 * nI 7 < nI 5 := Int32.not_le.mp c
    refine mz_WP.run 80 rfl ?_
    refine mz_WP.cs rfl (by decide) rfl (Nat.le_of_ble_eq_true rfl) rfl (m_in ?_)
    refine mz_WP.ifc rfl (fun c1 => ?_) (fun c1 => ?_)
    · have hb : busyB x = true := by unfold busyB; rw [decide_eq_true c, bI_t c1]; rfl
      rw [hb] at H
      refine mz_WP.run 80 rfl ?_
      refine mz_WP.run 80 rfl ?_
      exact mz_WP.zret rfl rfl (Or.inr rfl) H
    · have c1 := bI_f (Classical.byContradiction c1)
      refine mz_WP.run 80 rfl ?_
      refine mz_WP.cs rfl (by decide) rfl (Nat.le_of_ble_eq_true rfl) rfl (m_in ?_)
      refine mz_WP.ifc rfl (fun c2 => ?_) (fun c2 => ?_)
      · have hb : busyB x = false := by unfold busyB; rw [decide_eq_true c, c1, bI_f c2]; rfl
        rw [hb] at H
        refine mz_WP.run 80 rfl ?_
        exact mz_WP.zret rfl rfl (Or.inl rfl) H
      · have hb : busyB x = true := by unfold busyB; rw [decide_eq_true c, c1, bI_t c2]; rfl
        rw [hb] at H
        refine mz_WP.run 80 rfl ?_
        refine mz_WP.run 80 rfl ?_
        exact mz_WP.zret rfl rfl (Or.inr rfl) H
theorem m_zoneOf {s : Nat} (ho : h 186 = mo r j) (hg : h 187 = .inl (0, 423, g)) (hs : s < 8) (H : Q (some (.int (rat 8 (zG g) (nI s)))) n h) : mz_wc (e + 1) 139 [.ref 186, .int (nI s)] n h Q := by
  rw [rat_in hs (by decide)] at H
  refine mz_wc.enter (code := co_X11_zoneOf) (idx := 139) rfl rfl (Nat.le_of_ble_eq_true rfl) rfl rfl ?_
  refine mz_WP.run 80 rfl ?_
  refine mz_WP.getf rfl (ho) rfl (Nat.le_of_ble_eq_true rfl) ?_
  refine mz_WP.run 80 rfl ?_
  refine mz_WP.alN rfl hg (nI_add _ _) (by omega) (by decide) ?_
  exact mz_WP.ret rfl rfl H
theorem m_goesOn {i : Nat} {l : List Rde} {J : List Jrn} {p : Rde} (ho : h 186 = mo r j) (hg : h 187 = .inl (0, 423, g)) (h0 : h 190 = .inl (0, 48, kd)) (h1 : h 191 = .inl (0, 48, st)) (h2 : h 192 = .inl (0, 48, sp)) (h3 : h 193 = .inl (0, 48, bg)) (h4 : h 194 = .inl (0, 48, en)) (h6 : h 196 = .inl (0, 48, jo)) (h8 : h 198 = .inl (0, 48, le)) (R : RepA l st sp bg en kd) (RPs : ∀ p ∈ l, RP p) (hl : l.length ≤ 48) (hp : l[i]? = some p) (hJ : ∀ i', i = i' + 1 → ∃ c q, J.length = c + 1 ∧ c < 48 ∧ J[c]? = some q ∧ jo i' = nI c ∧ le c = nI q.2.1) (H : Q (some (.int (bI (goes (g 412) l J i p)))) n h) : mz_wc (e + 1) 137 [.ref 186, .int (nI i)] n h Q := by
  have hi := (List.getElem?_eq_some_iff.mp hp).1
  obtain ⟨b1, b2, b3, b4, b5⟩ := R i p hp
  cases i with
  | zero =>
    have H : Q (some (.int 0)) n h := H
    refine mz_wc.enter (code := co_X11_goesOn) (idx := 137) rfl rfl (Nat.le_of_ble_eq_true rfl) rfl rfl ?_
    refine mz_WP.run 80 rfl ?_
    refine mz_WP.ifc rfl (fun c0 => ?_) (fun c0 => ?_)
    · refine mz_WP.run 80 rfl ?_
      exact mz_WP.zret rfl rfl (Or.inl rfl) H
    · exact absurd nI_0 c0
  | succ i =>
    obtain ⟨c, q, hc, hc48, hq, hjo, hle⟩ := hJ i rfl
    obtain ⟨p', hp'⟩ := geti (show i < l.length by omega)
    obtain ⟨a1, a2, a3, a4, a5⟩ := R i p' hp'
    have hRP := RPs p' (List.mem_of_getElem? hp')
    have hgo : goes (g 412) l J (i + 1) p = (decide (nI q.2.1 < nI 3) && goR (g 412) p' p) := by
      show (match l[i]?, J[J.length - 1]? with
        | some p', some q => decide (nI q.2.1 < nI 3) && goR (g 412) p' p
        | _, _ => false) = _
      rw [hp', show J.length - 1 = c by omega, hq]
    have em : nI (i + 1) - nI 1 = nI i := by rw [pk_sub (by omega)]; rfl
    refine mz_wc.enter (code := co_X11_goesOn) (idx := 137) rfl rfl (Nat.le_of_ble_eq_true rfl) rfl rfl ?_
    have no24 : goR (g 412) p' p = false → mz_WP (mz_wc e) e 2 co_X11_goesOn Q 24 [some (.ref 186), some (.int (nI (i + 1))), none] [] n h 0 0 := by
      intro hf
      rw [hgo, hf, Bool.and_false] at H
      refine mz_WP.run 80 rfl ?_
      exact mz_WP.zret rfl rfl (Or.inl rfl) H
    have no125 : ∀ x, (goR (g 412) p' p = false ∨ decide (nI q.2.1 < nI 3) = false) → mz_WP (mz_wc e) e 2 co_X11_goesOn Q 125 [some (.ref 186), some (.int (nI (i + 1))), x] [] n h 0 0 := by
      intro x hf
      have hz : goes (g 412) l J (i + 1) p = false := by
        rw [hgo]
        rcases hf with hf | hf
        · rw [hf, Bool.and_false]
        · rw [hf, Bool.false_and]
      rw [hz] at H
      refine mz_WP.run 80 rfl ?_
      exact mz_WP.zret rfl rfl (Or.inl rfl) H
    refine mz_WP.run 80 rfl ?_
    refine mz_WP.ifc rfl (fun c0 => ?_) (fun c0 => ?_)
    · exact absurd c0 (nI_ne0 (by omega) (by omega))
    refine mz_WP.run 80 rfl ?_
    refine mz_WP.getf rfl (ho) rfl (Nat.le_of_ble_eq_true rfl) ?_
    refine mz_WP.run 80 rfl ?_
    refine mz_WP.alN rfl h0 rfl (by omega) (by decide) ?_
    rw [b1]
    refine mz_WP.ifc rfl (fun c1 => ?_) (fun c1 => ?_)
    · have c1 : ¬ p.1 = 0 := c1
      exact no24 (by unfold goR; rw [decide_eq_false c1]; rfl)
    have c1 : p.1 = 0 := Classical.byContradiction c1
    refine mz_WP.run 80 rfl ?_
    refine mz_WP.getf rfl (ho) rfl (Nat.le_of_ble_eq_true rfl) ?_
    refine mz_WP.run 80 rfl ?_
    refine mz_WP.alN rfl h0 em (by omega) (by decide) ?_
    rw [a1]
    refine mz_WP.ifc rfl (fun c2 => ?_) (fun c2 => ?_)
    rotate_left
    · have c2 : ¬ p'.1 = 0 := c2
      exact no24 (by unfold goR; rw [decide_eq_false c2, Bool.and_false]; rfl)
    have c2 : p'.1 = 0 := c2
    have hday := hRP.2.2 c2
    refine mz_WP.run 80 rfl ?_
    refine mz_WP.getf rfl (ho) rfl (Nat.le_of_ble_eq_true rfl) ?_
    refine mz_WP.run 80 rfl ?_
    refine mz_WP.alN rfl h3 rfl (by omega) (by decide) ?_
    rw [b4]
    refine mz_WP.run 80 rfl ?_
    refine mz_WP.div rfl (by decide) ?_
    refine mz_WP.run 80 rfl ?_
    refine mz_WP.getf rfl (ho) rfl (Nat.le_of_ble_eq_true rfl) ?_
    refine mz_WP.run 80 rfl ?_
    refine mz_WP.alN rfl h3 em (by omega) (by decide) ?_
    rw [a4]
    refine mz_WP.run 80 rfl ?_
    refine mz_WP.div rfl (by decide) ?_
    have near0 : goR (g 412) p' p = false → mz_WP (mz_wc e) e 2 co_X11_goesOn Q 81 [some (.ref 186), some (.int (nI (i + 1))), none] [] n h 0 0 := by
      intro hf
      refine mz_WP.run 80 rfl ?_
      refine mz_WP.ifc rfl (fun c9 => ?_) (fun c9 => ?_)
      · exact no125 _ (Or.inl hf)
      · exact absurd nI_0 c9
    refine mz_WP.icmp rfl (fun c3 => ?_) (fun c3 => ?_)
    · have c3 : ¬ p.2.2.2.1 / nI 1440 = p'.2.2.2.1 / nI 1440 := c3
      rw [hday] at c3
      exact near0 (by unfold goR; rw [decide_eq_false c3, Bool.and_false]; rfl)
    have c3 : p.2.2.2.1 / nI 1440 = p'.2.2.2.1 / nI 1440 := Classical.byContradiction c3
    rw [hday] at c3
    refine mz_WP.run 80 rfl ?_
    refine mz_WP.getf rfl (ho) rfl (Nat.le_of_ble_eq_true rfl) ?_
    refine mz_WP.run 80 rfl ?_
    refine mz_WP.alN rfl h3 rfl (by omega) (by decide) ?_
    rw [b4]
    refine mz_WP.run 80 rfl ?_
    refine mz_WP.getf rfl (ho) rfl (Nat.le_of_ble_eq_true rfl) ?_
    refine mz_WP.run 80 rfl ?_
    refine mz_WP.alN rfl h4 em (by omega) (by decide) ?_
    rw [a5]
    refine mz_WP.run 80 rfl ?_
    refine mz_WP.getf rfl (ho) rfl (Nat.le_of_ble_eq_true rfl) ?_
    refine mz_WP.run 80 rfl ?_
    refine mz_WP.alN (k := 412) rfl hg rfl (by omega) (by decide) ?_
    refine mz_WP.icmp rfl (fun c4 => ?_) (fun c4 => ?_)
    · have c4 : ¬ p.2.2.2.1 - p'.2.2.2.2 ≤ g 412 := Int32.not_le.mpr c4
      exact near0 (by unfold goR; rw [decide_eq_false c4, Bool.and_false]; rfl)
    have c4 : p.2.2.2.1 - p'.2.2.2.2 ≤ g 412 := Int32.not_lt.mp c4
    refine mz_WP.run 80 rfl ?_
    refine mz_WP.run 80 rfl ?_
    refine mz_WP.ifc rfl (fun c9 => ?_) (fun c9 => ?_)
    · exact absurd c9 (by show ¬ nI 1 = 0; decide)
    refine mz_WP.run 80 rfl ?_
    refine mz_WP.getf rfl (ho) rfl (Nat.le_of_ble_eq_true rfl) ?_
    refine mz_WP.run 80 rfl ?_
    refine mz_WP.alN rfl h1 rfl (by omega) (by decide) ?_
    rw [b2]
    refine mz_WP.run 80 rfl ?_
    refine mz_WP.getf rfl (ho) rfl (Nat.le_of_ble_eq_true rfl) ?_
    refine mz_WP.run 80 rfl ?_
    refine mz_WP.alN rfl h2 em (by omega) (by decide) ?_
    rw [a3]
    refine mz_WP.icmp rfl (fun c5 => ?_) (fun c5 => ?_)
    · have c5 : ¬ p.2.1 = p'.2.2.1 := c5
      exact no125 _ (Or.inl (by unfold goR; rw [decide_eq_false c5, Bool.and_false]))
    have c5 : p.2.1 = p'.2.2.1 := Classical.byContradiction c5
    refine mz_WP.run 80 rfl ?_
    refine mz_WP.getf rfl (ho) rfl (Nat.le_of_ble_eq_true rfl) ?_
    refine mz_WP.run 80 rfl ?_
    refine mz_WP.getf rfl (ho) rfl (Nat.le_of_ble_eq_true rfl) ?_
    refine mz_WP.run 80 rfl ?_
    refine mz_WP.alN rfl h6 em (by omega) (by decide) ?_
    rw [hjo]
    refine mz_WP.alN rfl h8 rfl (by omega) (by decide) ?_
    rw [hle]
    refine mz_WP.run 80 rfl ?_
    refine mz_WP.icmp rfl (fun c6 => ?_) (fun c6 => ?_)
    · exact no125 _ (Or.inr (decide_eq_false (Int32.not_lt.mpr c6)))
    · have c6 : nI q.2.1 < nI 3 := Int32.not_le.mp c6
      have hz : goes (g 412) l J (i + 1) p = true := by
        rw [hgo]
        unfold goR
        rw [decide_eq_true c6, decide_eq_true c1, decide_eq_true c2, decide_eq_true c3, decide_eq_true c4, decide_eq_true c5]
        rfl
      rw [hz] at H
      refine mz_WP.run 80 rfl ?_
      refine mz_WP.run 80 rfl ?_
      exact mz_WP.zret rfl rfl (Or.inr rfl) H
end MJ1
