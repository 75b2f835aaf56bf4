/-! the reference: would -/
section MWo
variable {e n : Nat} {h h' : mz_H} {Q : mz_Q} {g g' : Nat → Int32} {kp : Nat} {gi : Nat → Nat → Int32}
theorem addG_m {c k j : Nat} {x y : Int32} (hc : c < 4) (hk : kOf g c = k) (hk2 : k < 48) (hj : j < k + 1) : gm (addG g c x y) c j = insf (gm g c) k (ipos (gm g c) x k) x j ∧ gw (addG g c x y) c j = insf (gw g c) k (ipos (gm g c) x k) y j := by
  unfold addG
  rw [hk]
  exact ⟨setG_m hc (by omega), setG_w hc (by omega)⟩
theorem back_ge {c k x st wy p : Nat} (Wc : WFc g c k) (hc : c < 4) (hk : k < 48) (hx : x < 40320) (hs : st < 8) (hw : wy < 2) (hn : ∀ j, j < k → gm g c j ≠ nI x) (hp : fnd (gm (addG g c (nI x) (nI (2 * st + wy))) c) (nI x) (k + 1) = some p) : GE g (rmG (addG g c (nI x) (nI (2 * st + wy))) c p) := by
  have hkO := Wc.k
  have W1 := Wc.add hc hk hx hs hw hn
  obtain ⟨p1, p2⟩ := fnd_lt hp
  have hip : ipos (gm g c) (nI x) k ≤ k := ipos_le
  have hpi : p = ipos (gm g c) (nI x) k := by
    rcases Nat.lt_trichotomy p (ipos (gm g c) (nI x) k) with z | z | z
    · exact absurd (p2.trans (by rw [(addG_m hc hkO hk (by omega)).1]; exact (if_pos rfl).symm)) (W1.2.2.2.2 p _ z (by omega))
    · exact z
    · exact absurd (Eq.trans (by rw [(addG_m hc hkO hk (by omega)).1]; exact if_pos rfl) p2.symm) (W1.2.2.2.2 _ p z p1)
  refine ⟨fun c' hc' => ?_, fun c' k' hc' W' j hj => ?_, fun y h1 h2 => ?_⟩
  · by_cases hcc : c' = c
    · subst hcc
      unfold rmG
      rw [setG_k, W1.k, Nat.add_sub_cancel, Wc.2.1]
    · unfold rmG
      rw [(setG_c hc hc' hcc).1]
      unfold addG
      rw [(setG_c hc hc' hcc).1]
  · have hk' := W'.1
    by_cases hcc : c' = c
    · subst hcc
      have : k' = k := W'.k.symm.trans hkO
      subst this
      unfold rmG
      rw [setG_m hc (by omega), setG_w hc (by omega), W1.k]
      unfold rmf
      by_cases hpj : p ≤ j
      · rw [if_pos (by omega), if_pos (by omega), (addG_m hc hkO hk (by omega)).1, (addG_m hc hkO hk (by omega)).2]
        unfold insf
        rw [if_neg (by omega), if_pos (by omega), if_neg (by omega), if_pos (by omega), show j + 1 - 1 = j by omega]
        exact ⟨rfl, rfl⟩
      · rw [if_neg (by omega), if_neg (by omega), (addG_m hc hkO hk (by omega)).1, (addG_m hc hkO hk (by omega)).2]
        unfold insf
        rw [if_neg (by omega), if_neg (by omega), if_neg (by omega), if_neg (by omega)]
        exact ⟨rfl, rfl⟩
    · unfold rmG
      rw [(setG_c hc hc' hcc).2.1 j (by omega), (setG_c hc hc' hcc).2.2 j (by omega)]
      unfold addG
      rw [(setG_c hc hc' hcc).2.1 j (by omega), (setG_c hc hc' hcc).2.2 j (by omega)]
      exact ⟨rfl, rfl⟩
  · unfold rmG
    rw [setG_o hc h1]
    unfold addG
    rw [setG_o hc h1]
theorem i32_arr {a b x : Int32} : x + a - b = a - b + x := by
  rw [Int32.sub_eq_add_neg, Int32.sub_eq_add_neg, Int32.add_assoc, Int32.add_comm]
theorem m_would {card day minute station way : Int32} (M : MI h g kp gi) (W : WF g) (H : ∀ h' g', MI h' g' kp gi → GE g g' → (∀ b, b < 186 → h' b = h b) → Q (some (.int (wouldR g card day minute station way))) n h') : mz_wc (e + 7) 151 [.ref 186, .int card, .int day, .int minute, .int station, .int way] n h Q := by
  obtain ⟨⟨r, j, ho⟩, hg, -, -, s1, s2, s3⟩ := id M
  refine mz_wc.enter (code := co_X11_would) (idx := 151) rfl rfl (Nat.le_of_ble_eq_true rfl) rfl rfl ?_
  refine mz_WP.run 80 rfl ?_
  refine mz_WP.cv rfl rfl (Nat.le_of_ble_eq_true rfl) rfl (ho) rfl (m_refusal W ho hg ?_)
  refine mz_WP.run 80 rfl ?_
  refine mz_WP.ifc rfl (fun cc => ?_) (fun cc => ?_)
  rotate_left
  · have cc : ¬ tapRef g card day minute station way = 0 := cc
    have H := H h g M (GE.of (fun _ _ => rfl)) (fun _ _ => rfl)
    rw [wouldR, if_neg cc] at H
    refine mz_WP.run 80 rfl ?_
    exact mz_WP.ret rfl rfl H
  have cc : tapRef g card day minute station way = 0 := cc
  rw [wouldR, if_pos cc, tapG, if_pos cc] at H
  obtain ⟨c, d, m, st, wy, hc, rfl, hd, rfl, hm, rfl, hst, rfl, hwy, rfl, hfn, hk⟩ := tapRef_ok cc
  obtain ⟨mom, hmom⟩ := momG_n hd hm
  rw [nI_clamp (by omega), mom] at H
  obtain ⟨k, Wc⟩ := W.1 c hc
  rw [Wc.k] at hk hfn
  have hw2 : nI 2 * nI st + nI wy = nI (2 * st + wy) := by rw [pk_mul, nI_add]
  rw [hw2] at H
  have hnk := fnd_no hfn
  have W1c := Wc.add hc hk hmom hst hwy hnk
  have W1 : WF (addG g c (nI (d * 1440 + m)) (nI (2 * st + wy))) := W.setG hc W1c
  refine mz_WP.run 80 rfl ?_
  refine mz_WP.cv rfl rfl (Nat.le_of_ble_eq_true rfl) rfl (ho) rfl (r_layDays W Wc hc ho hg s1 s2 s3 (fun h1 D1 o1 => ?_))
  have M1 := M.days D1 o1
  obtain ⟨J1, su, wd, ow, la, wk, iw, ⟨-, -, -, d4, -, -⟩, -, hla, -, -⟩ := D1
  obtain ⟨⟨r1, j1, ho1⟩, hg1, -⟩ := id M1
  have hC0 : costC g c = la 0 := by
    unfold costC costV kL
    rw [Wc.k, hla]
  refine mz_WP.run 80 rfl ?_
  refine mz_WP.getf rfl (ho1) rfl (Nat.le_of_ble_eq_true rfl) ?_
  refine mz_WP.run 80 rfl ?_
  refine mz_WP.alN (k := 0) rfl d4 rfl (by omega) (by decide) ?_
  refine mz_WP.run 80 rfl ?_
  rw [mom_eq, mom, hw2]
  refine mz_WP.cv rfl rfl (Nat.le_of_ble_eq_true rfl) rfl (ho1) rfl (m_add ho1 hg1 hc hk Wc.2.1 ?_)
  have M2 := M1.st (g' := addG g c (nI (d * 1440 + m)) (nI (2 * st + wy)))
  obtain ⟨⟨r2, j2, ho2⟩, hg2, -, -, t1, t2, t3⟩ := id M2
  refine mz_WP.run 80 rfl ?_
  refine mz_WP.cv rfl rfl (Nat.le_of_ble_eq_true rfl) rfl (ho2) rfl (r_layDays W1 W1c hc ho2 hg2 t1 t2 t3 (fun h3 D3 o3 => ?_))
  have M3 := M2.days D3 o3
  obtain ⟨J3, su3, wd3, ow3, la3, wk3, iw3, ⟨-, -, -, d43, -, -⟩, -, hla3, -, -⟩ := D3
  obtain ⟨⟨r3, j3, ho3⟩, hg3, -⟩ := id M3
  have hC1 : costC (addG g c (nI (d * 1440 + m)) (nI (2 * st + wy))) c = la3 0 := by
    unfold costC costV kL
    rw [W1c.k, hla3]
  refine mz_WP.run 80 rfl ?_
  refine mz_WP.cv rfl rfl (Nat.le_of_ble_eq_true rfl) rfl (ho3) rfl (m_tapAt ho3 hg3 hc (by omega) W1c.2.1 ?_)
  have hex : ∃ p, fnd (gm (addG g c (nI (d * 1440 + m)) (nI (2 * st + wy))) c) (nI (d * 1440 + m)) (k + 1) = some p := by
    cases hf : fnd (gm (addG g c (nI (d * 1440 + m)) (nI (2 * st + wy))) c) (nI (d * 1440 + m)) (k + 1) with
    | some p => exact ⟨p, rfl⟩
    | none =>
      have hle : ipos (gm g c) (nI (d * 1440 + m)) k ≤ k := ipos_le
      refine absurd ?_ (fnd_no hf (ipos (gm g c) (nI (d * 1440 + m)) k) (by omega))
      rw [(addG_m hc Wc.k hk (by omega)).1]
      exact if_pos rfl
  obtain ⟨p, hp⟩ := hex
  have hpI : fndI (gm (addG g c (nI (d * 1440 + m)) (nI (2 * st + wy))) c) (nI (d * 1440 + m)) (k + 1) = nI p := by
    unfold fndI
    rw [hp]
  rw [hpI]
  have G := back_ge Wc hc hk hmom hst hwy hnk hp
  refine mz_WP.cv rfl rfl (Nat.le_of_ble_eq_true rfl) rfl (ho3) rfl (m_remove ho3 hg3 hc (by omega) (fnd_lt hp).1 W1c.2.1 ?_)
  have H := H _ _ M3.st G (fun b hb => (mz_up_n (by omega)).trans ((o3 b (by omega) (by omega)).trans ((mz_up_n (by omega)).trans (o1 b (by omega) (by omega)))))
  rw [hC0, hC1, ← i32_arr] at H
  refine mz_WP.run 80 rfl ?_
  refine mz_WP.getf rfl ((mz_up_n (by omega)).trans ho3) rfl (Nat.le_of_ble_eq_true rfl) ?_
  refine mz_WP.run 80 rfl ?_
  refine mz_WP.alN (k := 0) rfl ((mz_up_n (by omega)).trans d43) rfl (by omega) (by decide) ?_
  refine mz_WP.run 80 rfl ?_
  exact mz_WP.ret rfl rfl H
end MWo
