/-! the reference: zone, price, bar, hear, pass, tap, untap, told -/
section MP3
variable {e n : Nat} {h h' : mz_H} {Q : mz_Q} {g : Nat → Int32} {kp : Nat} {gi : Nat → Nat → Int32}
theorem MI.q {g' : Nat → Int32} {v : Int32} (M : MI h g kp gi) (H : ∀ h', MI h' g' kp gi → (∀ b, b < 186 → h' b = h b) → Q (some (.int v)) n h') : Q (some (.int v)) n (mz_up h 187 (.inl (0, 423, g'))) := H _ M.st (fun b hb => mz_up_n (by omega))
theorem m_zone {x y : Int32} (M : MI h g kp gi) (H : ∀ h', MI h' (zoneG g x y) kp gi → (∀ b, b < 186 → h' b = h b) → Q (some (.int (zoneR g x y))) n h') : mz_wc (e + 7) 122 [.ref 186, .int x, .int y] n h Q := by
  have H := M.q H
  obtain ⟨⟨r, j, ho⟩, hg, -⟩ := id M
  refine mz_wc.enter (code := co_X11_zone) (idx := 122) rfl rfl (Nat.le_of_ble_eq_true rfl) rfl rfl ?_
  refine mz_WP.run 80 rfl ?_
  refine mz_WP.cs rfl (by decide) rfl (Nat.le_of_ble_eq_true rfl) rfl (m_isStation ?_)
  refine mz_WP.ifc rfl (fun c1 => ?_) (fun c1 => ?_)
  rotate_left
  · have c1 := bI_f (Classical.byContradiction c1)
    rw [zoneR, zoneG, if_pos c1, if_pos c1, mz_up_id hg] at H
    refine mz_WP.run 80 rfl ?_
    exact mz_WP.ret rfl rfl H
  have c1 := bI_t c1
  have c1f : ¬ inB x (nI 0) (nI 7) = false := by rw [c1]; decide
  rw [zoneR, zoneG, if_neg c1f, if_neg c1f] at H
  refine mz_WP.run 80 rfl ?_
  refine mz_WP.cs rfl (by decide) rfl (Nat.le_of_ble_eq_true rfl) rfl (m_in ?_)
  refine mz_WP.ifc rfl (fun c2 => ?_) (fun c2 => ?_)
  rotate_left
  · have c2 := bI_f (Classical.byContradiction c2)
    rw [if_pos c2, if_pos c2, mz_up_id hg] at H
    refine mz_WP.run 80 rfl ?_
    exact mz_WP.ret rfl rfl H
  have c2 := bI_t c2
  have c2f : ¬ inB y (nI 1) (nI 5) = false := by rw [c2]; decide
  rw [if_neg c2f, if_neg c2f] at H
  obtain ⟨s, -, hs, rfl⟩ := inB_of (by decide) (by omega) c1
  rw [nI_clamp (by omega)] at H
  refine mz_WP.run 80 rfl ?_
  refine mz_WP.getf rfl (ho) rfl (Nat.le_of_ble_eq_true rfl) ?_
  refine mz_WP.run 80 rfl ?_
  refine mz_WP.alN rfl hg (nI_add _ _) (by omega) (by decide) ?_
  refine mz_WP.run 80 rfl ?_
  refine mz_WP.getf rfl (ho) rfl (Nat.le_of_ble_eq_true rfl) ?_
  refine mz_WP.run 80 rfl ?_
  refine mz_WP.asN rfl hg (by omega) (nI_add _ _) (by omega) (by decide) ?_
  refine mz_WP.run 80 rfl ?_
  exact mz_WP.ret rfl rfl H
theorem m_price {what w x : Int32} (M : MI h g kp gi) (H : ∀ h', MI h' (priceG g what w x) kp gi → (∀ b, b < 186 → h' b = h b) → Q (some (.int (priceR g what w x))) n h') : mz_wc (e + 7) 123 [.ref 186, .int what, .int w, .int x] n h Q := by
  have H := M.q H
  obtain ⟨⟨r, j, ho⟩, hg, -⟩ := id M
  refine mz_wc.enter (code := co_X11_price) (idx := 123) rfl rfl (Nat.le_of_ble_eq_true rfl) rfl rfl ?_
  refine mz_WP.run 80 rfl ?_
  have out : priceB what w x = false → mz_WP (mz_wc (e + 6)) (e + 6) 1 co_X11_price Q 45 [some (.ref 186), some (.int what), some (.int w), some (.int x), none, none] [] n h 0 0 := by
    intro hf
    rw [priceR, priceG, if_pos hf, if_pos hf, mz_up_id hg] at H
    refine mz_WP.run 80 rfl ?_
    exact mz_WP.ret rfl rfl H
  have fin : ∀ k : Nat, pIx what w = k → k < 423 → priceB what w x = true → mz_WP (mz_wc (e + 6)) (e + 6) 1 co_X11_price Q 81 [some (.ref 186), some (.int what), some (.int w), some (.int x), none, none] [.int (nI k)] n h 0 0 := by
    intro k hk hk2 hb
    rw [priceR, priceG, if_neg (by rw [hb]; decide), if_neg (by rw [hb]; decide), hk] at H
    refine mz_WP.run 80 rfl ?_
    refine mz_WP.getf rfl (ho) rfl (Nat.le_of_ble_eq_true rfl) ?_
    refine mz_WP.run 80 rfl ?_
    refine mz_WP.alN rfl hg rfl hk2 (by decide) ?_
    refine mz_WP.run 80 rfl ?_
    refine mz_WP.getf rfl (ho) rfl (Nat.le_of_ble_eq_true rfl) ?_
    refine mz_WP.run 80 rfl ?_
    refine mz_WP.asN rfl hg (by omega) rfl hk2 (by decide) ?_
    refine mz_WP.run 80 rfl ?_
    exact mz_WP.ret rfl rfl H
  refine mz_WP.cs rfl (by decide) rfl (Nat.le_of_ble_eq_true rfl) rfl (m_in ?_)
  refine mz_WP.ifc rfl (fun c1 => ?_) (fun c1 => ?_)
  · have c1 := bI_f c1
    refine out ?_
    have n4 : ¬ what = nI 4 := fun z => by rw [z] at c1; exact absurd c1 (by decide)
    have n3 : ¬ what = nI 3 := fun z => by rw [z] at c1; exact absurd c1 (by decide)
    unfold priceB
    rw [if_neg n4, if_neg n3]
    cases hz : inB what (nI 0) (nI 2) with
    | false => rfl
    | true =>
      obtain ⟨m, -, hm, rfl⟩ := inB_of (by decide) (by omega) hz
      rw [inB_in (by decide) (by omega) (by omega)] at c1
      cases c1
  have c1 := bI_t c1
  obtain ⟨m, -, hm, rfl⟩ := inB_of (by decide) (by omega) c1
  have last : ∀ hiN : Nat, priceB (nI m) w x = inB x (nI 0) (nI hiN) → (inB x (nI 0) (nI hiN) = true → mz_WP (mz_wc (e + 6)) (e + 6) 1 co_X11_price Q 48 [some (.ref 186), some (.int (nI m)), some (.int w), some (.int x), none, none] [] n h 0 0) → mz_WP (mz_wc (e + 6)) (e + 6) 1 co_X11_price Q 39 [some (.ref 186), some (.int (nI m)), some (.int w), some (.int x), none, none] [.int (nI hiN), .int (nI 0), .int x] n h 0 0 := by
    intro hiN h1 h2
    refine mz_WP.cs rfl (by decide) rfl (Nat.le_of_ble_eq_true rfl) rfl (m_in ?_)
    refine mz_WP.ifc rfl (fun c3 => ?_) (fun c3 => ?_)
    · exact h2 (bI_t c3)
    · exact out (h1.trans (bI_f (Classical.byContradiction c3)))
  refine mz_WP.run 80 rfl ?_
  by_cases hm3 : m < 3
  · have n4 : ¬ nI m = nI 4 := fun z => by have := (nI_eq (by omega) (by omega)).mp z; omega
    have n3 : ¬ nI m = nI 3 := fun z => by have := (nI_eq (by omega) (by omega)).mp z; omega
    have hb2 : inB (nI m) (nI 0) (nI 2) = true := inB_in (by decide) (by omega) (by omega)
    have hpb : priceB (nI m) w x = (inB w (nI 1) (nI 5) && inB x (nI 0) (nI 9999)) := by
      unfold priceB
      rw [if_neg n4, if_neg n3, hb2, Bool.true_and]
    refine mz_WP.icmp rfl (fun c2 => ?_) (fun c2 => ?_)
    · exact absurd c2 (nI_ge hm3 (by decide))
    refine mz_WP.run 80 rfl ?_
    refine mz_WP.cs rfl (by decide) rfl (Nat.le_of_ble_eq_true rfl) rfl (m_in ?_)
    refine mz_WP.ifc rfl (fun c3 => ?_) (fun c3 => ?_)
    · exact out (by rw [hpb, bI_f c3]; rfl)
    have c3 := bI_t c3
    rw [c3, Bool.true_and] at hpb
    obtain ⟨v, v1, v2, rfl⟩ := inB_of (by decide) (by omega) c3
    refine mz_WP.run 80 rfl ?_
    refine mz_WP.icmp rfl (fun c4 => ?_) (fun c4 => ?_)
    rotate_left
    · exact absurd (Classical.byContradiction c4) n4
    refine mz_WP.run 1 rfl ?_
    refine last 9999 hpb (fun hx => ?_)
    rw [hx] at hpb
    refine mz_WP.run 80 rfl ?_
    refine mz_WP.icmp rfl (fun c5 => ?_) (fun c5 => ?_)
    rotate_left
    · exact absurd (Classical.byContradiction c5) n3
    refine mz_WP.run 80 rfl ?_
    refine mz_WP.icmp rfl (fun c6 => ?_) (fun c6 => ?_)
    rotate_left
    · exact absurd (Classical.byContradiction c6) n4
    refine mz_WP.run 9 rfl ?_
    have ek : nI 396 + nI 5 * nI m + nI v - nI 1 = nI (395 + 5 * m + v) := by
      rw [pk_mul, nI_add, nI_add, pk_sub (by omega)]
      congr 1
      omega
    rw [ek]
    refine fin _ ?_ (by omega) hpb
    unfold pIx
    rw [if_neg n4, if_neg n3, nI_clamp (by omega), nI_clamp (by omega)]
  · by_cases hm4 : m = 4
    · subst hm4
      have hpb : priceB (nI 4) w x = inB x (nI 0) (nI 200) := if_pos rfl
      refine mz_WP.icmp rfl (fun c2 => ?_) (fun c2 => ?_)
      rotate_left
      · exact absurd (by decide : nI 3 ≤ nI 4) c2
      refine mz_WP.run 80 rfl ?_
      refine mz_WP.icmp rfl (fun c4 => ?_) (fun c4 => ?_)
      · exact absurd rfl c4
      refine mz_WP.run 2 rfl ?_
      refine last 200 hpb (fun hx => ?_)
      rw [hx] at hpb
      refine mz_WP.run 80 rfl ?_
      refine mz_WP.icmp rfl (fun c5 => ?_) (fun c5 => ?_)
      rotate_left
      · exact absurd (Classical.byContradiction c5) (by decide)
      refine mz_WP.run 80 rfl ?_
      refine mz_WP.icmp rfl (fun c6 => ?_) (fun c6 => ?_)
      · exact absurd rfl c6
      refine mz_WP.run 2 rfl ?_
      exact fin 412 (if_pos rfl) (by omega) hpb
    · have hm3 : m = 3 := by omega
      subst hm3
      have hpb : priceB (nI 3) w x = inB x (nI 0) (nI 9999) := by
        unfold priceB
        rw [if_neg (by decide), if_pos rfl]
      refine mz_WP.icmp rfl (fun c2 => ?_) (fun c2 => ?_)
      rotate_left
      · exact absurd (by decide : nI 3 ≤ nI 3) c2
      refine mz_WP.run 80 rfl ?_
      refine mz_WP.icmp rfl (fun c4 => ?_) (fun c4 => ?_)
      rotate_left
      · exact absurd (Classical.byContradiction c4) (by decide)
      refine mz_WP.run 1 rfl ?_
      refine last 9999 hpb (fun hx => ?_)
      rw [hx] at hpb
      refine mz_WP.run 80 rfl ?_
      refine mz_WP.icmp rfl (fun c5 => ?_) (fun c5 => ?_)
      · exact absurd rfl c5
      refine mz_WP.run 2 rfl ?_
      refine fin 411 ?_ (by omega) hpb
      unfold pIx
      rw [if_neg (by decide), if_pos rfl]
theorem m_bar {card on : Int32} (M : MI h g kp gi) (H : ∀ h', MI h' (barG g card on) kp gi → (∀ b, b < 186 → h' b = h b) → Q (some (.int (barR g card on))) n h') : mz_wc (e + 7) 152 [.ref 186, .int card, .int on] n h Q := by
  have H := M.q H
  obtain ⟨⟨r, j, ho⟩, hg, -⟩ := id M
  have ho' : ∀ {z : mz_C}, mz_up h 187 z 186 = mo r j := fun {z} => (mz_up_n (by omega)).trans ho
  refine mz_wc.enter (code := co_X11_bar) (idx := 152) rfl rfl (Nat.le_of_ble_eq_true rfl) rfl rfl ?_
  refine mz_WP.run 80 rfl ?_
  refine mz_WP.cs rfl (by decide) rfl (Nat.le_of_ble_eq_true rfl) rfl (m_isCard ?_)
  refine mz_WP.ifc rfl (fun c1 => ?_) (fun c1 => ?_)
  rotate_left
  · have c1 := bI_f (Classical.byContradiction c1)
    rw [barR, barG, if_pos c1, if_pos c1, mz_up_id hg] at H
    refine mz_WP.run 80 rfl ?_
    exact mz_WP.ret rfl rfl H
  have c1 := bI_t c1
  rw [barR, if_neg (by rw [c1]; decide)] at H
  refine mz_WP.run 80 rfl ?_
  refine mz_WP.cs rfl (by decide) rfl (Nat.le_of_ble_eq_true rfl) rfl (m_in ?_)
  refine mz_WP.ifc rfl (fun c2 => ?_) (fun c2 => ?_)
  rotate_left
  · have c2 := bI_f (Classical.byContradiction c2)
    rw [if_pos c2, barG, if_neg (by rw [c1]; decide), if_pos c2, mz_up_id hg] at H
    refine mz_WP.run 80 rfl ?_
    exact mz_WP.ret rfl rfl H
  have c2 := bI_t c2
  rw [if_neg (by rw [c2]; decide), barG, if_neg (by rw [c1]; decide), if_neg (by rw [c2]; decide)] at H
  refine mz_WP.run 80 rfl ?_
  refine mz_WP.getf rfl (ho) rfl (Nat.le_of_ble_eq_true rfl) ?_
  refine mz_WP.run 80 rfl ?_
  refine mz_WP.alN (k := 413) rfl hg rfl (by omega) (by decide) ?_
  refine mz_WP.run 80 rfl ?_
  refine mz_WP.icmp rfl (fun c3 => ?_) (fun c3 => ?_)
  · have c3 : g 413 >>> (card &&& 31) &&& nI 1 = on := c3
    have hb : barCh g card on = false := by unfold barCh; rw [decide_eq_true c3]; rfl
    rw [hb, if_neg (by decide), mz_up_id hg] at H
    refine mz_WP.run 80 rfl ?_
    refine mz_WP.getf rfl (ho) rfl (Nat.le_of_ble_eq_true rfl) ?_
    refine mz_WP.run 80 rfl ?_
    refine mz_WP.alN (k := 414) rfl hg rfl (by omega) (by decide) ?_
    exact mz_WP.ret rfl rfl H
  · have c3 : ¬ g 413 >>> (card &&& 31) &&& nI 1 = on := c3
    have hb : barCh g card on = true := by unfold barCh; rw [decide_eq_false c3]; rfl
    rw [hb, if_pos rfl] at H
    refine mz_WP.run 80 rfl ?_
    refine mz_WP.getf rfl (ho) rfl (Nat.le_of_ble_eq_true rfl) ?_
    refine mz_WP.run 80 rfl ?_
    refine mz_WP.alN (k := 413) rfl hg rfl (by omega) (by decide) ?_
    refine mz_WP.run 80 rfl ?_
    refine mz_WP.asN (k := 413) rfl hg (by omega) rfl (by omega) (by decide) ?_
    refine mz_WP.run 80 rfl ?_
    refine mz_WP.getf rfl (ho') rfl (Nat.le_of_ble_eq_true rfl) ?_
    refine mz_WP.run 80 rfl ?_
    refine mz_WP.alN (k := 414) rfl mz_up_s rfl (by omega) (by decide) ?_
    rw [updN (show 414 ≠ 413 by omega)]
    refine mz_WP.run 80 rfl ?_
    refine mz_WP.asN (k := 414) rfl mz_up_s (by omega) rfl (by omega) (by decide) ?_
    rw [mz_up_up]
    refine mz_WP.run 80 rfl ?_
    refine mz_WP.getf rfl (ho') rfl (Nat.le_of_ble_eq_true rfl) ?_
    refine mz_WP.run 80 rfl ?_
    refine mz_WP.alN (k := 414) rfl mz_up_s rfl (by omega) (by decide) ?_
    exact mz_WP.ret rfl rfl H
theorem m_hear {rd : Int32} (M : MI h g kp gi) (H : ∀ h', MI h' (hearG g rd) kp gi → (∀ b, b < 186 → h' b = h b) → Q (some (.int (hearR g rd))) n h') : mz_wc (e + 7) 153 [.ref 186, .int rd] n h Q := by
  have H := M.q H
  obtain ⟨⟨r, j, ho⟩, hg, -⟩ := id M
  have ho' : ∀ {z : mz_C}, mz_up h 187 z 186 = mo r j := fun {z} => (mz_up_n (by omega)).trans ho
  refine mz_wc.enter (code := co_X11_hear) (idx := 153) rfl rfl (Nat.le_of_ble_eq_true rfl) rfl rfl ?_
  refine mz_WP.run 80 rfl ?_
  refine mz_WP.cs rfl (by decide) rfl (Nat.le_of_ble_eq_true rfl) rfl (m_in ?_)
  refine mz_WP.ifc rfl (fun c1 => ?_) (fun c1 => ?_)
  rotate_left
  · have c1 := bI_f (Classical.byContradiction c1)
    rw [hearR, hearG, if_pos c1, if_pos c1, mz_up_id hg] at H
    refine mz_WP.run 80 rfl ?_
    exact mz_WP.ret rfl rfl H
  have c1 := bI_t c1
  rw [hearR, hearG, if_neg (by rw [c1]; decide), if_neg (by rw [c1]; decide)] at H
  obtain ⟨s, -, hs, rfl⟩ := inB_of (by decide) (by omega) c1
  rw [nI_clamp (by omega)] at H
  refine mz_WP.run 80 rfl ?_
  refine mz_WP.getf rfl (ho) rfl (Nat.le_of_ble_eq_true rfl) ?_
  refine mz_WP.run 80 rfl ?_
  refine mz_WP.alN (k := 414) rfl hg rfl (by omega) (by decide) ?_
  refine mz_WP.run 80 rfl ?_
  refine mz_WP.getf rfl (ho) rfl (Nat.le_of_ble_eq_true rfl) ?_
  refine mz_WP.run 80 rfl ?_
  refine mz_WP.alN rfl hg (nI_add _ _) (by omega) (by decide) ?_
  refine mz_WP.run 80 rfl ?_
  refine mz_WP.getf rfl (ho) rfl (Nat.le_of_ble_eq_true rfl) ?_
  refine mz_WP.run 80 rfl ?_
  refine mz_WP.getf rfl (ho) rfl (Nat.le_of_ble_eq_true rfl) ?_
  refine mz_WP.run 80 rfl ?_
  refine mz_WP.alN (k := 414) rfl hg rfl (by omega) (by decide) ?_
  refine mz_WP.asN rfl hg (by omega) (nI_add _ _) (by omega) (by decide) ?_
  refine mz_WP.run 80 rfl ?_
  refine mz_WP.getf rfl (ho') rfl (Nat.le_of_ble_eq_true rfl) ?_
  refine mz_WP.run 80 rfl ?_
  refine mz_WP.getf rfl (ho') rfl (Nat.le_of_ble_eq_true rfl) ?_
  refine mz_WP.run 80 rfl ?_
  refine mz_WP.alN (k := 413) rfl mz_up_s rfl (by omega) (by decide) ?_
  rw [updN (show 413 ≠ 415 + s by omega)]
  refine mz_WP.asN rfl mz_up_s (by omega) (nI_add _ _) (by omega) (by decide) ?_
  rw [mz_up_up]
  refine mz_WP.run 80 rfl ?_
  exact mz_WP.ret rfl rfl H
theorem m_pass {rd card : Int32} (M : MI h g kp gi) (H : Q (some (.int (passR g rd card))) n h) : mz_wc (e + 7) 154 [.ref 186, .int rd, .int card] n h Q := by
  obtain ⟨⟨r, j, ho⟩, hg, -⟩ := id M
  refine mz_wc.enter (code := co_X11_pass) (idx := 154) rfl rfl (Nat.le_of_ble_eq_true rfl) rfl rfl ?_
  refine mz_WP.run 80 rfl ?_
  have out : (inB rd (nI 0) (nI 3) = false ∨ inB card (nI 0) (nI 3) = false) → mz_WP (mz_wc (e + 6)) (e + 6) 1 co_X11_pass Q 16 [some (.ref 186), some (.int rd), some (.int card)] [] n h 0 0 := by
    intro hh
    rw [passR, if_pos hh] at H
    refine mz_WP.run 80 rfl ?_
    exact mz_WP.ret rfl rfl H
  refine mz_WP.cs rfl (by decide) rfl (Nat.le_of_ble_eq_true rfl) rfl (m_in ?_)
  refine mz_WP.ifc rfl (fun c1 => ?_) (fun c1 => ?_)
  · exact out (Or.inl (bI_f c1))
  have c1 := bI_t c1
  refine mz_WP.run 80 rfl ?_
  refine mz_WP.cs rfl (by decide) rfl (Nat.le_of_ble_eq_true rfl) rfl (m_isCard ?_)
  refine mz_WP.ifc rfl (fun c2 => ?_) (fun c2 => ?_)
  rotate_left
  · exact out (Or.inr (bI_f (Classical.byContradiction c2)))
  have c2 := bI_t c2
  rw [passR, if_neg (by rw [c1, c2]; decide)] at H
  obtain ⟨s, -, hs, rfl⟩ := inB_of (by decide) (by omega) c1
  rw [nI_clamp (by omega)] at H
  refine mz_WP.run 80 rfl ?_
  refine mz_WP.getf rfl (ho) rfl (Nat.le_of_ble_eq_true rfl) ?_
  refine mz_WP.run 80 rfl ?_
  refine mz_WP.alN rfl hg (nI_add _ _) (by omega) (by decide) ?_
  refine mz_WP.run 80 rfl ?_
  refine mz_WP.icmp rfl (fun c3 => ?_) (fun c3 => ?_)
  · have c3 : ¬ g (419 + s) >>> (card &&& 31) &&& nI 1 = nI 1 := c3
    rw [if_neg c3] at H
    refine mz_WP.run 80 rfl ?_
    exact mz_WP.ret rfl rfl H
  · have c3 : g (419 + s) >>> (card &&& 31) &&& nI 1 = nI 1 := Classical.byContradiction c3
    rw [if_pos c3] at H
    refine mz_WP.run 80 rfl ?_
    refine mz_WP.run 80 rfl ?_
    exact mz_WP.ret rfl rfl H
theorem p_tap {card day minute station way : Int32} (M : MI h g kp gi) (W : WF g) (H : ∀ h', MI h' (tapG g card day minute station way) kp gi → (∀ b, b < 186 → h' b = h b) → Q (some (.int (tapR g card day minute station way))) n h') : mz_wc (e + 7) 131 [.ref 186, .int card, .int day, .int minute, .int station, .int way] n h Q := by
  obtain ⟨⟨r, j, ho⟩, hg, -⟩ := id M
  exact m_tap W ho hg (M.q H)
theorem p_untap {card day minute : Int32} (M : MI h g kp gi) (W : WF g) (H : ∀ h', MI h' (untapG g card day minute) kp gi → (∀ b, b < 186 → h' b = h b) → Q (some (.int (untapR g card day minute))) n h') : mz_wc (e + 7) 132 [.ref 186, .int card, .int day, .int minute] n h Q := by
  obtain ⟨⟨r, j, ho⟩, hg, -⟩ := id M
  exact m_untap W ho hg (M.q H)
theorem p_told {card i what : Int32} (M : MI h g kp gi) (W : WF g) (H : Q (some (.int (toldR g card i what))) n h) : mz_wc (e + 7) 133 [.ref 186, .int card, .int i, .int what] n h Q := by
  obtain ⟨⟨r, j, ho⟩, hg, -⟩ := id M
  exact m_told W ho hg H
end MP3
