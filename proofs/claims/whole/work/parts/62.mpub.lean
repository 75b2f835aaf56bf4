/-! the reference: all of it; ride, journey -/
def MI (h : mz_H) (g : Nat → Int32) (kp : Nat) (gi : Nat → Nat → Int32) : Prop := (∃ r j, h 186 = mo r j) ∧ h 187 = .inl (0, 423, g) ∧ (∃ im : Nat → Int32, h 188 = .inl (0, 846, im) ∧ ∀ i, i < 2 → kp / 2 ^ i % 2 = 1 → ∀ x, x < 423 → im (423 * i + x) = gi i x) ∧ (∃ kk : Nat → Int32, h 189 = .inl (1, 2, kk) ∧ ∀ i, i < 2 → kk i = nI (kp / 2 ^ i % 2)) ∧ mrS h ∧ mjS h ∧ mdS h
theorem mrS.to {h h' : mz_H} (S : mrS h) (hh : ∀ b, 190 ≤ b → b ≤ 195 → h' b = h b) : mrS h' := by
  obtain ⟨a1, a2, a3, a4, a5, a6, e1, e2, e3, e4, e5, e6⟩ := S
  exact ⟨a1, a2, a3, a4, a5, a6, (hh _ (by omega) (by omega)).trans e1, (hh _ (by omega) (by omega)).trans e2, (hh _ (by omega) (by omega)).trans e3, (hh _ (by omega) (by omega)).trans e4, (hh _ (by omega) (by omega)).trans e5, (hh _ (by omega) (by omega)).trans e6⟩
theorem mjS.to {h h' : mz_H} (S : mjS h) (hh : ∀ b, 196 ≤ b → b ≤ 200 → h' b = h b) : mjS h' := by
  obtain ⟨a1, a2, a3, a4, a5, e1, e2, e3, e4, e5⟩ := S
  exact ⟨a1, a2, a3, a4, a5, (hh _ (by omega) (by omega)).trans e1, (hh _ (by omega) (by omega)).trans e2, (hh _ (by omega) (by omega)).trans e3, (hh _ (by omega) (by omega)).trans e4, (hh _ (by omega) (by omega)).trans e5⟩
theorem mdS.to {h h' : mz_H} (S : mdS h) (hh : ∀ b, 201 ≤ b → b ≤ 206 → h' b = h b) : mdS h' := by
  obtain ⟨a1, a2, a3, a4, a5, a6, e1, e2, e3, e4, e5, e6⟩ := S
  exact ⟨a1, a2, a3, a4, a5, a6, (hh _ (by omega) (by omega)).trans e1, (hh _ (by omega) (by omega)).trans e2, (hh _ (by omega) (by omega)).trans e3, (hh _ (by omega) (by omega)).trans e4, (hh _ (by omega) (by omega)).trans e5, (hh _ (by omega) (by omega)).trans e6⟩
section MP
variable {e n : Nat} {h h' : mz_H} {Q : mz_Q} {g : Nat → Int32} {kp : Nat} {gi : Nat → Nat → Int32}
theorem MI.to (M : MI h g kp gi) (hh : ∀ b, 185 < b → h' b = h b) : MI h' g kp gi := by
  obtain ⟨⟨r, j, e0⟩, e1, ⟨im, e2, x2⟩, ⟨kk, e3, x3⟩, s1, s2, s3⟩ := M
  exact ⟨⟨r, j, (hh _ (by omega)).trans e0⟩, (hh _ (by omega)).trans e1, ⟨im, (hh _ (by omega)).trans e2, x2⟩, ⟨kk, (hh _ (by omega)).trans e3, x3⟩, s1.to (fun b _ _ => hh b (by omega)), s2.to (fun b _ _ => hh b (by omega)), s3.to (fun b _ _ => hh b (by omega))⟩
theorem MJ.S {l : List Rde} (J : MJ h g l) : (∃ r j, h 186 = mo r j) ∧ mrS h ∧ mjS h := by
  obtain ⟨kd, st, sp, bg, en, lm, jo, fi, le, wi, co, e0, ⟨r0, r1, r2, r3, r4, r5⟩, ⟨j0, j1, j2, j3, j4⟩, -⟩ := J
  exact ⟨⟨_, _, e0⟩, ⟨_, _, _, _, _, _, r0, r1, r2, r3, r4, r5⟩, ⟨_, _, _, _, _, j0, j1, j2, j3, j4⟩⟩
theorem MI.jour {l : List Rde} (M : MI h g kp gi) (J : MJ h' g l) (hh : ∀ b, b ≠ 186 → (b < 190 ∨ 200 < b) → h' b = h b) : MI h' g kp gi := by
  obtain ⟨-, e1, ⟨im, e2, x2⟩, ⟨kk, e3, x3⟩, -, -, s3⟩ := M
  obtain ⟨o, s1, s2⟩ := J.S
  exact ⟨o, (hh _ (by omega) (by omega)).trans e1, ⟨im, (hh _ (by omega) (by omega)).trans e2, x2⟩, ⟨kk, (hh _ (by omega) (by omega)).trans e3, x3⟩, s1, s2, s3.to (fun b _ _ => hh b (by omega) (by omega))⟩
theorem MI.days {l : List Rde} (M : MI h g kp gi) (D : MD h' g l) (hh : ∀ b, b ≠ 186 → (b < 190 ∨ 206 < b) → h' b = h b) : MI h' g kp gi := by
  obtain ⟨-, e1, ⟨im, e2, x2⟩, ⟨kk, e3, x3⟩, -, -, -⟩ := M
  obtain ⟨J, su, wd, ow, la, wk, iw, ⟨d0, d1, d2, d3, d4, d5⟩, -⟩ := D
  obtain ⟨o, s1, s2⟩ := J.S
  exact ⟨o, (hh _ (by omega) (by omega)).trans e1, ⟨im, (hh _ (by omega) (by omega)).trans e2, x2⟩, ⟨kk, (hh _ (by omega) (by omega)).trans e3, x3⟩, s1, s2, ⟨su, wd, ow, la, wk, iw, d0, d1, d2, d3, d4, d5⟩⟩
/-- only the row of the state changed -/
theorem MI.st {g' : Nat → Int32} (M : MI h g kp gi) : MI (mz_up h 187 (.inl (0, 423, g'))) g' kp gi := by
  obtain ⟨⟨r, j, e0⟩, e1, ⟨im, e2, x2⟩, ⟨kk, e3, x3⟩, s1, s2, s3⟩ := M
  have hh : ∀ b, b ≠ 187 → mz_up h 187 (.inl (0, 423, g')) b = h b := fun b hb => mz_up_n hb
  exact ⟨⟨r, j, (hh _ (by omega)).trans e0⟩, mz_up_s, ⟨im, (hh _ (by omega)).trans e2, x2⟩, ⟨kk, (hh _ (by omega)).trans e3, x3⟩, s1.to (fun b _ _ => hh b (by omega)), s2.to (fun b _ _ => hh b (by omega)), s3.to (fun b _ _ => hh b (by omega))⟩
theorem m_ride {card i what : Int32} (M : MI h g kp gi) (W : WF g) (H : ∀ h', MI h' g kp gi → (∀ b, b < 186 → h' b = h b) → Q (some (.int (rideR g card i what))) n h') : mz_wc (e + 7) 142 [.ref 186, .int card, .int i, .int what] n h Q := by
  obtain ⟨⟨r, j, ho⟩, hg, -, -, s1, s2, s3⟩ := id M
  refine mz_wc.enter (code := co_X11_ride) (idx := 142) rfl rfl (Nat.le_of_ble_eq_true rfl) rfl rfl ?_
  refine mz_WP.run 80 rfl ?_
  refine mz_WP.cs rfl (by decide) rfl (Nat.le_of_ble_eq_true rfl) rfl (m_isCard ?_)
  refine mz_WP.ifc rfl (fun c1 => ?_) (fun c1 => ?_)
  rotate_left
  · have c1 := bI_f (Classical.byContradiction c1)
    have H := H h M (fun _ _ => rfl)
    rw [rideR, partR, if_pos c1] at H
    refine mz_WP.run 80 rfl ?_
    exact mz_WP.ret rfl rfl H
  have c1 := bI_t c1
  have o2 : (i < U1 ∨ inB what (nI 0) (nI 4) = false) → mz_WP (mz_wc (e + 6)) (e + 6) 1 co_X11_ride Q 23 [some (.ref 186), some (.int card), some (.int i), some (.int what)] [] n h 0 0 := by
    intro hh
    have H := H h M (fun _ _ => rfl)
    rw [rideR, partR, if_neg (by rw [c1]; decide), if_pos hh] at H
    refine mz_WP.run 80 rfl ?_
    exact mz_WP.ret rfl rfl H
  refine mz_WP.run 80 rfl ?_
  refine mz_WP.icmp rfl (fun c2 => ?_) (fun c2 => ?_)
  · exact o2 (Or.inl c2)
  have c2 : ¬ i < U1 := c2
  refine mz_WP.run 80 rfl ?_
  refine mz_WP.cs rfl (by decide) rfl (Nat.le_of_ble_eq_true rfl) rfl (m_in ?_)
  refine mz_WP.ifc rfl (fun c3 => ?_) (fun c3 => ?_)
  rotate_left
  · exact o2 (Or.inr (bI_f (Classical.byContradiction c3)))
  have c3 := bI_t c3
  rw [rideR, partR, if_neg (by rw [c1]; decide), if_neg (by rw [c3]; exact fun z => Or.elim z c2 (by decide))] at H
  obtain ⟨c, -, hc, rfl⟩ := inB_of (by decide) (by omega) c1
  have hc : c < 4 := by omega
  obtain ⟨k, Wc⟩ := W.1 c hc
  rw [nI_clamp (by omega), kL, Wc.k] at H
  refine mz_WP.run 80 rfl ?_
  refine mz_WP.cv rfl rfl (Nat.le_of_ble_eq_true rfl) rfl (ho) rfl (m_layJ W Wc hc ho hg s1 s2 (fun h1 J o1 => ?_))
  have hl : (gL g c k).length ≤ 48 := Nat.le_trans (rl_len k _ _ _ k) Wc.1
  have H := H h1 (M.jour J o1) (fun b hb => o1 b (by omega) (by omega))
  obtain ⟨kd, st, sp, bg, en, lm, jo, fi, le, wi, co, ho1, ⟨r0, r1, r2, r3, r4, r5⟩, ⟨j0, j1, j2, j3, j4⟩, RA, LM, hjo, hq⟩ := J
  generalize hgl : gL g c k = l at *
  unfold rideV at H
  refine mz_WP.run 80 rfl ?_
  refine mz_WP.icmp rfl (fun c4 => ?_) (fun c4 => ?_)
  rotate_left
  · have c4 : i = U1 := Classical.byContradiction c4
    rw [if_pos (by rw [c4]; decide)] at H
    refine mz_WP.run 80 rfl ?_
    refine mz_WP.getf rfl (ho1) rfl (Nat.le_of_ble_eq_true rfl) ?_
    exact mz_WP.ret rfl rfl H
  have c4 : ¬ i < 0 := fun z => c4 (U1_lt c2 z)
  rw [if_neg c4] at H
  refine mz_WP.run 80 rfl ?_
  refine mz_WP.getf rfl (ho1) rfl (Nat.le_of_ble_eq_true rfl) ?_
  refine mz_WP.icmp rfl (fun c5 => ?_) (fun c5 => ?_)
  rotate_left
  · rw [if_pos (Int32.not_lt.mp c5)] at H
    refine mz_WP.run 80 rfl ?_
    exact mz_WP.ret rfl rfl H
  have c5 : i < nI l.length := c5
  rw [if_neg (Int32.not_le.mpr c5)] at H
  obtain ⟨q, hq31, rfl⟩ := nI_of c4
  rw [nI_ltI hq31 (by omega)] at c5
  rw [nI_clamp hq31] at H
  obtain ⟨p, hp⟩ := geti c5
  obtain ⟨a1, a2, a3, a4, a5⟩ := RA q p hp
  have a6 := LM q p hp
  unfold rideW at H
  rw [hp] at H
  dsimp only at H
  refine mz_WP.run 80 rfl ?_
  refine mz_WP.ifc rfl (fun d0 => ?_) (fun d0 => ?_)
  rotate_left
  · have d0 : what = nI 0 := Classical.byContradiction d0
    rw [if_pos d0] at H
    refine mz_WP.run 80 rfl ?_
    refine mz_WP.getf rfl (ho1) rfl (Nat.le_of_ble_eq_true rfl) ?_
    refine mz_WP.run 80 rfl ?_
    refine mz_WP.alN rfl r1 rfl (by omega) (by decide) ?_
    rw [a2]
    refine mz_WP.run 80 rfl ?_
    exact mz_WP.ret rfl rfl H
  have d0 : ¬ what = nI 0 := d0
  rw [if_neg d0] at H
  refine mz_WP.run 80 rfl ?_
  refine mz_WP.icmp rfl (fun d1 => ?_) (fun d1 => ?_)
  rotate_left
  · have d1 : what = nI 1 := Classical.byContradiction d1
    rw [if_pos d1] at H
    refine mz_WP.run 80 rfl ?_
    refine mz_WP.getf rfl (ho1) rfl (Nat.le_of_ble_eq_true rfl) ?_
    refine mz_WP.run 80 rfl ?_
    refine mz_WP.alN rfl r2 rfl (by omega) (by decide) ?_
    rw [a3]
    refine mz_WP.run 80 rfl ?_
    exact mz_WP.ret rfl rfl H
  have d1 : ¬ what = nI 1 := d1
  rw [if_neg d1] at H
  refine mz_WP.run 80 rfl ?_
  refine mz_WP.icmp rfl (fun d2 => ?_) (fun d2 => ?_)
  rotate_left
  · have d2 : what = nI 2 := Classical.byContradiction d2
    rw [if_pos d2] at H
    refine mz_WP.run 80 rfl ?_
    refine mz_WP.getf rfl (ho1) rfl (Nat.le_of_ble_eq_true rfl) ?_
    refine mz_WP.run 80 rfl ?_
    refine mz_WP.alN rfl r0 rfl (by omega) (by decide) ?_
    rw [a1]
    refine mz_WP.run 80 rfl ?_
    exact mz_WP.ret rfl rfl H
  have d2 : ¬ what = nI 2 := d2
  rw [if_neg d2] at H
  refine mz_WP.run 80 rfl ?_
  refine mz_WP.icmp rfl (fun d3 => ?_) (fun d3 => ?_)
  rotate_left
  · have d3 : what = nI 3 := Classical.byContradiction d3
    rw [if_pos d3] at H
    refine mz_WP.run 80 rfl ?_
    refine mz_WP.getf rfl (ho1) rfl (Nat.le_of_ble_eq_true rfl) ?_
    refine mz_WP.run 80 rfl ?_
    refine mz_WP.blN rfl r5 rfl (by omega) (by decide) ?_
    rw [a6]
    refine mz_WP.ifc rfl (fun d4 => ?_) (fun d4 => ?_)
    · rw [bI_f d4] at H
      refine mz_WP.run 80 rfl ?_
      refine mz_WP.run 80 rfl ?_
      exact mz_WP.ret rfl rfl H
    · rw [bI_t d4] at H
      refine mz_WP.run 80 rfl ?_
      refine mz_WP.run 80 rfl ?_
      exact mz_WP.ret rfl rfl H
  have d3 : ¬ what = nI 3 := d3
  rw [if_neg d3] at H
  refine mz_WP.run 80 rfl ?_
  refine mz_WP.getf rfl (ho1) rfl (Nat.le_of_ble_eq_true rfl) ?_
  refine mz_WP.run 80 rfl ?_
  refine mz_WP.alN rfl j0 rfl (by omega) (by decide) ?_
  rw [hjo q c5]
  exact mz_WP.ret rfl rfl H
theorem m_journey {card i what : Int32} (M : MI h g kp gi) (W : WF g) (H : ∀ h', MI h' g kp gi → (∀ b, b < 186 → h' b = h b) → Q (some (.int (jrnR g card i what))) n h') : mz_wc (e + 7) 143 [.ref 186, .int card, .int i, .int what] n h Q := by
  obtain ⟨⟨r, j, ho⟩, hg, -, -, s1, s2, s3⟩ := id M
  refine mz_wc.enter (code := co_X11_journey) (idx := 143) rfl rfl (Nat.le_of_ble_eq_true rfl) rfl rfl ?_
  refine mz_WP.run 80 rfl ?_
  refine mz_WP.cs rfl (by decide) rfl (Nat.le_of_ble_eq_true rfl) rfl (m_isCard ?_)
  refine mz_WP.ifc rfl (fun c1 => ?_) (fun c1 => ?_)
  rotate_left
  · have c1 := bI_f (Classical.byContradiction c1)
    have H := H h M (fun _ _ => rfl)
    rw [jrnR, partR, if_pos c1] at H
    refine mz_WP.run 80 rfl ?_
    exact mz_WP.ret rfl rfl H
  have c1 := bI_t c1
  have o2 : (i < U1 ∨ inB what (nI 0) (nI 4) = false) → mz_WP (mz_wc (e + 6)) (e + 6) 1 co_X11_journey Q 23 [some (.ref 186), some (.int card), some (.int i), some (.int what), none] [] n h 0 0 := by
    intro hh
    have H := H h M (fun _ _ => rfl)
    rw [jrnR, partR, if_neg (by rw [c1]; decide), if_pos hh] at H
    refine mz_WP.run 80 rfl ?_
    exact mz_WP.ret rfl rfl H
  refine mz_WP.run 80 rfl ?_
  refine mz_WP.icmp rfl (fun c2 => ?_) (fun c2 => ?_)
  · exact o2 (Or.inl c2)
  have c2 : ¬ i < U1 := c2
  refine mz_WP.run 80 rfl ?_
  refine mz_WP.cs rfl (by decide) rfl (Nat.le_of_ble_eq_true rfl) rfl (m_in ?_)
  refine mz_WP.ifc rfl (fun c3 => ?_) (fun c3 => ?_)
  rotate_left
  · exact o2 (Or.inr (bI_f (Classical.byContradiction c3)))
  have c3 := bI_t c3
  rw [jrnR, partR, if_neg (by rw [c1]; decide), if_neg (by rw [c3]; exact fun z => Or.elim z c2 (by decide))] at H
  obtain ⟨c, -, hc, rfl⟩ := inB_of (by decide) (by omega) c1
  have hc : c < 4 := by omega
  obtain ⟨k, Wc⟩ := W.1 c hc
  rw [nI_clamp (by omega), kL, Wc.k] at H
  refine mz_WP.run 80 rfl ?_
  refine mz_WP.cv rfl rfl (Nat.le_of_ble_eq_true rfl) rfl (ho) rfl (m_layJ W Wc hc ho hg s1 s2 (fun h1 J o1 => ?_))
  have hl : (gL g c k).length ≤ 48 := Nat.le_trans (rl_len k _ _ _ k) Wc.1
  have H := H h1 (M.jour J o1) (fun b hb => o1 b (by omega) (by omega))
  obtain ⟨kd, st, sp, bg, en, lm, jo, fi, le, wi, co, ho1, ⟨r0, r1, r2, r3, r4, r5⟩, ⟨j0, j1, j2, j3, j4⟩, RA, LM, hjo, hq⟩ := J
  generalize hgl : gL g c k = l at *
  have hJ48 : (gJ g l).length ≤ 48 := Nat.le_trans (jl_len _ _ l l.length) hl
  unfold jrnV at H
  refine mz_WP.run 80 rfl ?_
  refine mz_WP.icmp rfl (fun c4 => ?_) (fun c4 => ?_)
  rotate_left
  · have c4 : i = U1 := Classical.byContradiction c4
    rw [if_pos (by rw [c4]; decide)] at H
    refine mz_WP.run 80 rfl ?_
    refine mz_WP.getf rfl (ho1) rfl (Nat.le_of_ble_eq_true rfl) ?_
    exact mz_WP.ret rfl rfl H
  have c4 : ¬ i < 0 := fun z => c4 (U1_lt c2 z)
  rw [if_neg c4] at H
  refine mz_WP.run 80 rfl ?_
  refine mz_WP.getf rfl (ho1) rfl (Nat.le_of_ble_eq_true rfl) ?_
  refine mz_WP.icmp rfl (fun c5 => ?_) (fun c5 => ?_)
  rotate_left
  · rw [if_pos (Int32.not_lt.mp c5)] at H
    refine mz_WP.run 80 rfl ?_
    exact mz_WP.ret rfl rfl H
  have c5 : i < nI (gJ g l).length := c5
  rw [if_neg (Int32.not_le.mpr c5)] at H
  obtain ⟨q, hq31, rfl⟩ := nI_of c4
  rw [nI_ltI hq31 (by omega)] at c5
  rw [nI_clamp hq31] at H
  obtain ⟨p, hp⟩ := geti c5
  obtain ⟨f, w, f1, f2, f3, f4, w1, w2, w3, w4, w5⟩ := hq q p hp
  unfold jrnW at H
  rw [hp] at H
  dsimp only at H
  refine mz_WP.run 80 rfl ?_
  refine mz_WP.getf rfl (ho1) rfl (Nat.le_of_ble_eq_true rfl) ?_
  refine mz_WP.run 80 rfl ?_
  refine mz_WP.getf rfl (ho1) rfl (Nat.le_of_ble_eq_true rfl) ?_
  refine mz_WP.run 80 rfl ?_
  refine mz_WP.alN rfl j1 rfl (by omega) (by decide) ?_
  rw [f2]
  refine mz_WP.alN rfl r3 rfl (by omega) (by decide) ?_
  rw [f3]
  refine mz_WP.run 80 rfl ?_
  refine mz_WP.ifc rfl (fun d0 => ?_) (fun d0 => ?_)
  rotate_left
  · have d0 : what = nI 0 := Classical.byContradiction d0
    rw [if_pos d0] at H
    refine mz_WP.run 80 rfl ?_
    refine mz_WP.div rfl (by decide) ?_
    refine mz_WP.run 80 rfl ?_
    exact mz_WP.ret rfl rfl H
  have d0 : ¬ what = nI 0 := d0
  rw [if_neg d0] at H
  refine mz_WP.run 80 rfl ?_
  refine mz_WP.icmp rfl (fun d1 => ?_) (fun d1 => ?_)
  rotate_left
  · have d1 : what = nI 1 := Classical.byContradiction d1
    rw [if_pos d1] at H
    refine mz_WP.run 80 rfl ?_
    refine mz_WP.getf rfl (ho1) rfl (Nat.le_of_ble_eq_true rfl) ?_
    refine mz_WP.run 80 rfl ?_
    refine mz_WP.alN rfl j2 rfl (by omega) (by decide) ?_
    rw [f4]
    refine mz_WP.run 80 rfl ?_
    exact mz_WP.ret rfl rfl H
  have d1 : ¬ what = nI 1 := d1
  rw [if_neg d1] at H
  refine mz_WP.run 80 rfl ?_
  refine mz_WP.icmp rfl (fun d2 => ?_) (fun d2 => ?_)
  rotate_left
  · have d2 : what = nI 2 := Classical.byContradiction d2
    rw [if_pos d2, w3] at H
    refine mz_WP.run 80 rfl ?_
    refine mz_WP.getf rfl (ho1) rfl (Nat.le_of_ble_eq_true rfl) ?_
    refine mz_WP.run 80 rfl ?_
    refine mz_WP.alN rfl j3 rfl (by omega) (by decide) ?_
    rw [w4]
    refine mz_WP.run 80 rfl ?_
    exact mz_WP.ret rfl rfl H
  have d2 : ¬ what = nI 2 := d2
  rw [if_neg d2] at H
  refine mz_WP.run 80 rfl ?_
  refine mz_WP.icmp rfl (fun d3 => ?_) (fun d3 => ?_)
  rotate_left
  · have d3 : what = nI 3 := Classical.byContradiction d3
    rw [if_pos d3] at H
    refine mz_WP.run 80 rfl ?_
    refine mz_WP.getf rfl (ho1) rfl (Nat.le_of_ble_eq_true rfl) ?_
    refine mz_WP.run 80 rfl ?_
    refine mz_WP.alN rfl j4 rfl (by omega) (by decide) ?_
    rw [w5]
    refine mz_WP.run 80 rfl ?_
    exact mz_WP.ret rfl rfl H
  have d3 : ¬ what = nI 3 := d3
  rw [if_neg d3] at H
  refine mz_WP.run 80 rfl ?_
  refine mz_WP.cs rfl (by decide) rfl (Nat.le_of_ble_eq_true rfl) rfl (m_busy ?_)
  refine mz_WP.ifc rfl (fun d4 => ?_) (fun d4 => ?_)
  · rw [bI_f d4] at H
    refine mz_WP.run 80 rfl ?_
    exact mz_WP.ret rfl rfl H
  · rw [bI_t d4] at H
    refine mz_WP.run 80 rfl ?_
    refine mz_WP.run 80 rfl ?_
    exact mz_WP.ret rfl rfl H
end MP
