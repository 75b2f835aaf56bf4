/-! the class: what is asked of the bill -/
section P1
variable {e n : Nat} {h : mz_H} {Q : mz_Q} {g : Nat → Int32} {kp : Nat} {gi : Nat → Nat → Int32}
theorem s_isCard {x : Int32} (H : Q (some (.int (bI (inB x (nI 0) (nI 3))))) n h) : mz_wc (e + 2) 105 [.int x] n h Q := by
  refine mz_wc.enter (code := co_X10_isCard) (idx := 105) rfl rfl (Nat.le_of_ble_eq_true rfl) rfl rfl ?_
  refine mz_WP.run 80 rfl ?_
  refine mz_WP.cs rfl (by decide) rfl (Nat.le_of_ble_eq_true rfl) rfl (s_within ?_)
  exact mz_WP.zret rfl rfl (bI_01 _) H
theorem s_isStation {x : Int32} (H : Q (some (.int (bI (inB x (nI 0) (nI 7))))) n h) : mz_wc (e + 2) 106 [.int x] n h Q := by
  refine mz_wc.enter (code := co_X10_isStation) (idx := 106) rfl rfl (Nat.le_of_ble_eq_true rfl) rfl rfl ?_
  refine mz_WP.run 80 rfl ?_
  refine mz_WP.cs rfl (by decide) rfl (Nat.le_of_ble_eq_true rfl) rfl (s_within ?_)
  exact mz_WP.zret rfl rfl (bI_01 _) H
theorem s_isReader {x : Int32} (H : Q (some (.int (bI (inB x (nI 0) (nI 3))))) n h) : mz_wc (e + 2) 107 [.int x] n h Q := by
  refine mz_wc.enter (code := co_X10_isReader) (idx := 107) rfl rfl (Nat.le_of_ble_eq_true rfl) rfl rfl ?_
  refine mz_WP.run 80 rfl ?_
  refine mz_WP.cs rfl (by decide) rfl (Nat.le_of_ble_eq_true rfl) rfl (s_within ?_)
  exact mz_WP.zret rfl rfl (bI_01 _) H
theorem s_isImage {x : Int32} (H : Q (some (.int (bI (inB x (nI 0) (nI 1))))) n h) : mz_wc (e + 2) 108 [.int x] n h Q := by
  refine mz_wc.enter (code := co_X10_isImage) (idx := 108) rfl rfl (Nat.le_of_ble_eq_true rfl) rfl rfl ?_
  refine mz_WP.run 80 rfl ?_
  refine mz_WP.cs rfl (by decide) rfl (Nat.le_of_ble_eq_true rfl) rfl (s_within ?_)
  exact mz_WP.zret rfl rfl (bI_01 _) H
theorem s_isDay {x : Int32} (H : Q (some (.int (bI (inB x (nI 0) (nI 27))))) n h) : mz_wc (e + 2) 109 [.int x] n h Q := by
  refine mz_wc.enter (code := co_X10_isDay) (idx := 109) rfl rfl (Nat.le_of_ble_eq_true rfl) rfl rfl ?_
  refine mz_WP.run 80 rfl ?_
  refine mz_WP.cs rfl (by decide) rfl (Nat.le_of_ble_eq_true rfl) rfl (s_within ?_)
  exact mz_WP.zret rfl rfl (bI_01 _) H
theorem s_isMinute {x : Int32} (H : Q (some (.int (bI (inB x (nI 0) (nI 1439))))) n h) : mz_wc (e + 2) 110 [.int x] n h Q := by
  refine mz_wc.enter (code := co_X10_isMinute) (idx := 110) rfl rfl (Nat.le_of_ble_eq_true rfl) rfl rfl ?_
  refine mz_WP.run 80 rfl ?_
  refine mz_WP.cs rfl (by decide) rfl (Nat.le_of_ble_eq_true rfl) rfl (s_within ?_)
  exact mz_WP.zret rfl rfl (bI_01 _) H
theorem s_isWidth {x : Int32} (H : Q (some (.int (bI (inB x (nI 1) (nI 5))))) n h) : mz_wc (e + 2) 111 [.int x] n h Q := by
  refine mz_wc.enter (code := co_X10_isWidth) (idx := 111) rfl rfl (Nat.le_of_ble_eq_true rfl) rfl rfl ?_
  refine mz_WP.run 80 rfl ?_
  refine mz_WP.cs rfl (by decide) rfl (Nat.le_of_ble_eq_true rfl) rfl (s_within ?_)
  exact mz_WP.zret rfl rfl (bI_01 _) H
theorem s_refPart {card i what : Int32} (H : Q (some (.int (partR card i what (nI 0)))) n h) : mz_wc (e + 3) 100 [.int card, .int i, .int what] n h Q := by
  refine mz_wc.enter (code := co_X10_refusalOfPart) (idx := 100) rfl rfl (Nat.le_of_ble_eq_true rfl) rfl rfl ?_
  refine mz_WP.run 80 rfl ?_
  refine mz_WP.cs rfl (by decide) rfl (Nat.le_of_ble_eq_true rfl) rfl (s_isCard ?_)
  refine mz_WP.ifc rfl (fun c => ?_) (fun c => ?_)
  · have c := bI_t c
    unfold partR at H
    rw [if_neg (by rw [c]; decide)] at H
    have out : (i < U1 ∨ inB what (nI 0) (nI 4) = false) → mz_WP (mz_wc (e + 2)) (e + 2) 1 co_X10_refusalOfPart Q 23 [some (.int card), some (.int i), some (.int what)] [] n h 0 0 := by
      intro ho
      rw [if_pos ho] at H
      refine mz_WP.run 80 rfl ?_
      refine mz_WP.run 80 rfl ?_
      exact mz_WP.ret rfl rfl H
    refine mz_WP.run 80 rfl ?_
    refine mz_WP.icmp rfl (fun c1 => ?_) (fun c1 => ?_)
    · exact out (Or.inl c1)
    · have c1 : ¬ i < U1 := c1
      refine mz_WP.run 80 rfl ?_
      refine mz_WP.cs rfl (by decide) rfl (Nat.le_of_ble_eq_true rfl) rfl (s_within ?_)
      refine mz_WP.ifc rfl (fun c2 => ?_) (fun c2 => ?_)
      · have c2 := bI_t c2
        rw [if_neg (fun z => z.elim c1 (fun z => by rw [c2] at z; exact absurd z (by decide)))] at H
        refine mz_WP.run 80 rfl ?_
        exact mz_WP.ret rfl rfl H
      · exact out (Or.inr (bI_f (Classical.byContradiction c2)))
  · have c := bI_f (Classical.byContradiction c)
    unfold partR at H
    rw [if_pos c] at H
    refine mz_WP.run 80 rfl ?_
    exact mz_WP.ret rfl rfl H
theorem partR_U {card i what : Int32} (v w : Int32) (h : ¬ partR card i what (nI 0) = 0) : partR card i what v = partR card i what w := by
  unfold partR at h ⊢
  split
  · rfl
  · rename_i h1
    rw [if_neg h1] at h
    split
    · rfl
    · rename_i h2
      rw [if_neg h2] at h
      exact absurd rfl h
theorem partR_ok {card i what : Int32} (h : partR card i what (nI 0) = 0) : ∃ c j, c < 4 ∧ card = nI c ∧ j ≤ 4 ∧ what = nI j ∧ ¬ i < U1 := by
  unfold partR at h
  split at h
  · exact absurd h (by decide)
  · rename_i h1
    split at h
    · exact absurd h (by decide)
    · rename_i h2
      obtain ⟨c, -, hc, ec⟩ := inB_of (by decide) (by decide) (tF h1)
      obtain ⟨j, -, hj, ej⟩ := inB_of (by decide) (by decide) (tF (fun z => h2 (Or.inr z)))
      exact ⟨c, j, by omega, ec, hj, ej, fun z => h2 (Or.inl z)⟩
theorem partR_v {c : Nat} {i : Int32} {j : Nat} {v : Int32} (hc : c < 4) (hj : j ≤ 4) (hi : ¬ i < U1) : partR (nI c) i (nI j) v = v := by
  unfold partR
  rw [if_neg (by rw [inB_in (by decide) (by omega) (by omega)]; decide), if_neg (fun z => z.elim hi (fun z => by rw [inB_in (by decide) (by omega) (by omega)] at z; exact absurd z (by decide)))]
theorem s_ride {card i what : Int32} (C : CI h g kp gi) (H : ∀ h', CI h' g kp gi → (∀ b, b < 140 ∨ 185 < b → h' b = h b) → Q (some (.int (rideR g card i what))) n h') : mz_wc (e + 7) 87 [.ref 2, .int card, .int i, .int what] n h Q := by
  refine mz_wc.enter (code := co_X10_ride) (idx := 87) rfl rfl (Nat.le_of_ble_eq_true rfl) rfl rfl ?_
  refine mz_WP.run 80 rfl ?_
  refine mz_WP.cs rfl (by decide) rfl (Nat.le_of_ble_eq_true rfl) rfl (s_refPart ?_)
  refine mz_WP.run 80 rfl ?_
  refine mz_WP.ifc rfl (fun c0 => ?_) (fun c0 => ?_)
  · obtain ⟨c, j, hc, rfl, hj, rfl, hi⟩ := partR_ok c0
    obtain ⟨k, W⟩ := C.2.2.2.1.1 c hc
    have hR : rideR g (nI c) i (nI j) = rideV g (gL g c k) i (nI j) := by
      unfold rideR kL
      rw [partR_v hc hj hi, nI_clamp (by omega), W.k]
    rw [hR] at H
    refine mz_WP.run 80 rfl ?_
    refine mz_WP.cv rfl rfl (Nat.le_of_ble_eq_true rfl) rfl (C.2.2.1) rfl (s_reckon C hc W (fun h' C' hh B => ?_))
    have H := H h' C' hh
    obtain ⟨F, -, h2, -⟩ := id C'
    obtain ⟨⟨bs, es, bm, em, kd, R, RA⟩, ⟨mo, rc, lz, gz, co, jr, RJ, JR, hco, hjr⟩, -⟩ := B
    have hl : (gL g c k).length ≤ 48 := Nat.le_trans (rl_len _ _ _ _ _) W.1
    refine mz_WP.run 80 rfl ?_
    refine mz_WP.getf rfl (h2) rfl (Nat.le_of_ble_eq_true rfl) ?_
    refine mz_WP.getf rfl (F _ _ rfl) rfl (Nat.le_of_ble_eq_true rfl) ?_
    refine mz_WP.run 80 rfl ?_
    refine mz_WP.ifc rfl (fun c1 => ?_) (fun c1 => ?_)
    · have c1 : 0 ≤ i := c1
      have n0 : ¬ i < 0 := Int32.not_lt.mpr c1
      unfold rideV at H
      rw [if_neg n0] at H
      refine mz_WP.run 80 rfl ?_
      refine mz_WP.cv rfl rfl (Nat.le_of_ble_eq_true rfl) rfl (R.1) rfl (s_rsize R ?_)
      refine mz_WP.icmp rfl (fun c2 => ?_) (fun c2 => ?_)
      · have c2 : i < nI (gL g c k).length := c2
        rw [if_neg (Int32.not_le.mpr c2)] at H
        obtain ⟨p, hp, rfl⟩ := nI_of n0
        have hp2 := (nI_ltI hp (by omega)).mp c2
        obtain ⟨r, hr⟩ : ∃ r, (gL g c k)[p]? = some r := ⟨_, List.getElem?_eq_getElem hp2⟩
        obtain ⟨a1, a2, a3, a4, a5⟩ := RA p r hr
        rw [nI_clamp hp] at H
        unfold rideW at H
        rw [hr] at H
        refine mz_WP.run 80 rfl ?_
        match j, hj with
        | 0, _ =>
          refine mz_WP.tin (off := 31) rfl (by decide) (by decide) ?_
          refine mz_WP.run 80 rfl ?_
          refine mz_WP.cv rfl rfl (Nat.le_of_ble_eq_true rfl) rfl (R.1) rfl (s_rbs F R ?_)
          rw [rat_in (by omega) (by decide), a2]
          exact mz_WP.ret rfl rfl H
        | 1, _ =>
          refine mz_WP.tin (off := 38) rfl (by decide) (by decide) ?_
          refine mz_WP.run 80 rfl ?_
          refine mz_WP.cv rfl rfl (Nat.le_of_ble_eq_true rfl) rfl (R.1) rfl (s_res F R ?_)
          rw [rat_in (by omega) (by decide), a3]
          exact mz_WP.ret rfl rfl H
        | 2, _ =>
          refine mz_WP.tin (off := 45) rfl (by decide) (by decide) ?_
          refine mz_WP.run 80 rfl ?_
          refine mz_WP.cv rfl rfl (Nat.le_of_ble_eq_true rfl) rfl (R.1) rfl (s_rkd F R ?_)
          rw [rat_in (by omega) (by decide), a1]
          exact mz_WP.ret rfl rfl H
        | 3, _ =>
          refine mz_WP.tin (off := 52) rfl (by decide) (by decide) ?_
          refine mz_WP.run 80 rfl ?_
          refine mz_WP.cv rfl rfl (Nat.le_of_ble_eq_true rfl) rfl (R.1) rfl (s_rlame F R ?_)
          rw [rat_in (by omega) (by decide), rat_in (by omega) (by decide), a2, a3]
          have H : Q (some (.int (bI (lameB r.2.1 r.2.2.1)))) n h' := H
          refine mz_WP.ifc rfl (fun c4 => ?_) (fun c4 => ?_)
          · rw [bI_f c4] at H
            refine mz_WP.run 80 rfl ?_
            exact mz_WP.ret rfl rfl H
          · rw [bI_t c4] at H
            refine mz_WP.run 80 rfl ?_
            refine mz_WP.run 80 rfl ?_
            exact mz_WP.ret rfl rfl H
        | 4, _ =>
          refine mz_WP.tout rfl (by decide) ?_
          refine mz_WP.run 80 rfl ?_
          refine mz_WP.getf rfl (h2) rfl (Nat.le_of_ble_eq_true rfl) ?_
          refine mz_WP.getf rfl (F _ _ rfl) rfl (Nat.le_of_ble_eq_true rfl) ?_
          refine mz_WP.run 80 rfl ?_
          refine mz_WP.cv rfl rfl (Nat.le_of_ble_eq_true rfl) rfl (RJ.1) rfl (r_jofr F RJ ?_)
          rw [rat_in (by omega) (by decide), hjr p hp2]
          exact mz_WP.ret rfl rfl H
      · have c2 : ¬ i < nI (gL g c k).length := c2
        rw [if_pos (Int32.not_lt.mp c2)] at H
        refine mz_WP.run 80 rfl ?_
        exact mz_WP.ret rfl rfl H
    · have c1 : i < 0 := Int32.not_le.mp c1
      unfold rideV at H
      rw [if_pos c1] at H
      refine mz_WP.run 80 rfl ?_
      refine mz_WP.cv rfl rfl (Nat.le_of_ble_eq_true rfl) rfl (R.1) rfl (s_rsize R ?_)
      exact mz_WP.ret rfl rfl H
  · have := H h C (fun b _ => rfl)
    unfold rideR at this
    rw [partR_U _ (nI 0) c0] at this
    refine mz_WP.run 80 rfl ?_
    exact mz_WP.ret rfl rfl this
theorem s_journey {card i what : Int32} (C : CI h g kp gi) (H : ∀ h', CI h' g kp gi → (∀ b, b < 140 ∨ 185 < b → h' b = h b) → Q (some (.int (jrnR g card i what))) n h') : mz_wc (e + 7) 88 [.ref 2, .int card, .int i, .int what] n h Q := by
  refine mz_wc.enter (code := co_X10_journey) (idx := 88) rfl rfl (Nat.le_of_ble_eq_true rfl) rfl rfl ?_
  refine mz_WP.run 80 rfl ?_
  refine mz_WP.cs rfl (by decide) rfl (Nat.le_of_ble_eq_true rfl) rfl (s_refPart ?_)
  refine mz_WP.run 80 rfl ?_
  refine mz_WP.ifc rfl (fun c0 => ?_) (fun c0 => ?_)
  · obtain ⟨c, j, hc, rfl, hj, rfl, hi⟩ := partR_ok c0
    obtain ⟨k, W⟩ := C.2.2.2.1.1 c hc
    have hR : jrnR g (nI c) i (nI j) = jrnV g (gJ g (gL g c k)) i (nI j) := by
      unfold jrnR kL
      rw [partR_v hc hj hi, nI_clamp (by omega), W.k]
    rw [hR] at H
    refine mz_WP.run 80 rfl ?_
    refine mz_WP.cv rfl rfl (Nat.le_of_ble_eq_true rfl) rfl (C.2.2.1) rfl (s_reckon C hc W (fun h' C' hh B => ?_))
    have H := H h' C' hh
    obtain ⟨F, -, h2, -⟩ := id C'
    obtain ⟨-, ⟨mo, rc, lz, gz, co, jr, RJ, JR, hco, hjr⟩, -⟩ := B
    have hl : (gL g c k).length ≤ 48 := Nat.le_trans (rl_len _ _ _ _ _) W.1
    have hJl : (gJ g (gL g c k)).length ≤ 48 := Nat.le_trans (jl_len _ _ _ _) hl
    refine mz_WP.run 80 rfl ?_
    refine mz_WP.getf rfl (h2) rfl (Nat.le_of_ble_eq_true rfl) ?_
    refine mz_WP.getf rfl (F _ _ rfl) rfl (Nat.le_of_ble_eq_true rfl) ?_
    refine mz_WP.run 80 rfl ?_
    refine mz_WP.ifc rfl (fun c1 => ?_) (fun c1 => ?_)
    · have c1 : 0 ≤ i := c1
      have n0 : ¬ i < 0 := Int32.not_lt.mpr c1
      unfold jrnV at H
      rw [if_neg n0] at H
      refine mz_WP.run 80 rfl ?_
      refine mz_WP.cv rfl rfl (Nat.le_of_ble_eq_true rfl) rfl (RJ.1) rfl (r_jsize RJ ?_)
      refine mz_WP.icmp rfl (fun c2 => ?_) (fun c2 => ?_)
      · have c2 : i < nI (gJ g (gL g c k)).length := c2
        rw [if_neg (Int32.not_le.mpr c2)] at H
        obtain ⟨p, hp, rfl⟩ := nI_of n0
        have hp2 := (nI_ltI hp (by omega)).mp c2
        obtain ⟨r, hr⟩ : ∃ r, (gJ g (gL g c k))[p]? = some r := ⟨_, List.getElem?_eq_getElem hp2⟩
        obtain ⟨a1, a2, a3, a4⟩ := JR p r hr
        rw [nI_clamp hp] at H
        unfold jrnW at H
        rw [hr] at H
        refine mz_WP.run 80 rfl ?_
        match j, hj with
        | 0, _ =>
          refine mz_WP.tin (off := 31) rfl (by decide) (by decide) ?_
          refine mz_WP.run 80 rfl ?_
          refine mz_WP.cv rfl rfl (Nat.le_of_ble_eq_true rfl) rfl (RJ.1) rfl (r_jmom F RJ ?_)
          rw [rat_in (by omega) (by decide), a1]
          refine mz_WP.cs rfl (by decide) rfl (Nat.le_of_ble_eq_true rfl) rfl (s_dayOf ?_)
          exact mz_WP.ret rfl rfl H
        | 1, _ =>
          refine mz_WP.tin (off := 41) rfl (by decide) (by decide) ?_
          refine mz_WP.run 80 rfl ?_
          refine mz_WP.cv rfl rfl (Nat.le_of_ble_eq_true rfl) rfl (RJ.1) rfl (r_jrides F RJ ?_)
          rw [rat_in (by omega) (by decide), a2]
          exact mz_WP.ret rfl rfl H
        | 2, _ =>
          refine mz_WP.tin (off := 48) rfl (by decide) (by decide) ?_
          refine mz_WP.run 80 rfl ?_
          refine mz_WP.cv rfl rfl (Nat.le_of_ble_eq_true rfl) rfl (RJ.1) rfl (r_jwidth F RJ (by omega) ?_)
          rw [a3, a4]
          exact mz_WP.ret rfl rfl H
        | 3, _ =>
          refine mz_WP.tin (off := 55) rfl (by decide) (by decide) ?_
          refine mz_WP.run 80 rfl ?_
          refine mz_WP.cv rfl rfl (Nat.le_of_ble_eq_true rfl) rfl (RJ.1) rfl (r_jcostA F RJ ?_)
          rw [rat_in (by omega) (by decide), hco p r hr]
          exact mz_WP.ret rfl rfl H
        | 4, _ =>
          refine mz_WP.tout rfl (by decide) ?_
          refine mz_WP.run 80 rfl ?_
          refine mz_WP.cv rfl rfl (Nat.le_of_ble_eq_true rfl) rfl (RJ.1) rfl (r_jmom F RJ ?_)
          rw [rat_in (by omega) (by decide), a1]
          refine mz_WP.cs rfl (by decide) rfl (Nat.le_of_ble_eq_true rfl) rfl (s_busy ?_)
          have H : Q (some (.int (bI (busyB r.1)))) n h' := H
          refine mz_WP.ifc rfl (fun c4 => ?_) (fun c4 => ?_)
          · rw [bI_f c4] at H
            refine mz_WP.run 80 rfl ?_
            exact mz_WP.ret rfl rfl H
          · rw [bI_t c4] at H
            refine mz_WP.run 80 rfl ?_
            refine mz_WP.run 80 rfl ?_
            exact mz_WP.ret rfl rfl H
      · have c2 : ¬ i < nI (gJ g (gL g c k)).length := c2
        rw [if_pos (Int32.not_lt.mp c2)] at H
        refine mz_WP.run 80 rfl ?_
        exact mz_WP.ret rfl rfl H
    · have c1 : i < 0 := Int32.not_le.mp c1
      unfold jrnV at H
      rw [if_pos c1] at H
      refine mz_WP.run 80 rfl ?_
      refine mz_WP.cv rfl rfl (Nat.le_of_ble_eq_true rfl) rfl (RJ.1) rfl (r_jsize RJ ?_)
      exact mz_WP.ret rfl rfl H
  · have := H h C (fun b _ => rfl)
    unfold jrnR at this
    rw [partR_U _ (nI 0) c0] at this
    refine mz_WP.run 80 rfl ?_
    exact mz_WP.ret rfl rfl this
end P1
