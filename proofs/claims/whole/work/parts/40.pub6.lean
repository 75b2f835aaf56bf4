/-! the class: image, restore, would, count -/
def kpS (kp i : Nat) : Nat := kp ||| 2 ^ i
theorem kp_or : ∀ kp, kp < 4 → ∀ i, i < 2 → nI kp ||| nI 1 <<< (nI i &&& 31) = nI (kpS kp i) ∧ kpS kp i < 4 := by decide +kernel
theorem kp_bit : ∀ kp, kp < 4 → ∀ i, i < 2 → (nI kp >>> (nI i &&& 31) &&& nI 1 = 0 ↔ kp / 2 ^ i % 2 = 0) := by decide +kernel
theorem kp_set0 : ∀ kp, kp < 4 → ∀ i, i < 2 → ∀ j, j < 2 → (¬ kpS kp i / 2 ^ j % 2 = 1 ∨ j = i ∨ kp / 2 ^ j % 2 = 1) := by decide +kernel
theorem kp_set (kp : Nat) (hk : kp < 4) (i : Nat) (hi : i < 2) (j : Nat) (hj : j < 2) (h : kpS kp i / 2 ^ j % 2 = 1) (hne : j ≠ i) : kp / 2 ^ j % 2 = 1 := by
  rcases kp_set0 kp hk i hi j hj with z | z | z
  · exact absurd h z
  · exact absurd z hne
  · exact z
def imageR (x : Int32) : Int32 := if inB x (nI 0) (nI 1) = false then U2 else nI 1
def imageK (kp : Nat) (x : Int32) : Nat := if inB x (nI 0) (nI 1) = false then kp else kpS kp x.toNatClampNeg
def imageI (g : Nat → Int32) (gi : Nat → Nat → Int32) (x : Int32) : Nat → Nat → Int32 := if inB x (nI 0) (nI 1) = false then gi else fun j => if j = x.toNatClampNeg then g else gi j
def restR (kp : Nat) (x : Int32) : Int32 := if inB x (nI 0) (nI 1) = false then U2 else if kp / 2 ^ x.toNatClampNeg % 2 = 0 then U3 else nI 1
def restG (g : Nat → Int32) (kp : Nat) (gi : Nat → Nat → Int32) (x : Int32) : Nat → Int32 := if inB x (nI 0) (nI 1) = false then g else if kp / 2 ^ x.toNatClampNeg % 2 = 0 then g else gi x.toNatClampNeg
def costC (g : Nat → Int32) (c : Nat) : Int32 := costV g (gJ g (kL g c))
def wouldR (g : Nat → Int32) (card day minute station way : Int32) : Int32 := if tapRef g card day minute station way = 0 then costC (tapG g card day minute station way) card.toNatClampNeg - costC g card.toNatClampNeg + nI 100000 else tapRef g card day minute station way
def lagN (g : Nat → Int32) : Nat → Int32
  | 0 => 0
  | r + 1 => if g (415 + r) < g 414 then lagN g r + nI 1 else lagN g r
def allC (g : Nat → Int32) : Nat → Int32
  | 0 => 0
  | c + 1 => allC g c + costC g c
def countR (g : Nat → Int32) (kp : Nat) (what : Int32) : Int32 := if inB what (nI 0) (nI 3) = true then g (384 + what.toNatClampNeg) else if inB what (nI 10) (nI 13) = true then g (415 + (what - nI 10).toNatClampNeg) else if inB what (nI 20) (nI 27) = true then g (388 + (what - nI 20).toNatClampNeg) else if what = nI 4 then g 414 else if what = nI 5 then g 413 else if what = nI 6 then lagN g 4 else if what = nI 7 then allC g 4 else if what = nI 8 then nI kp else U2
theorem setG_tar {g : Nat → Int32} {c : Nat} {z : Int32} {m w : Nat → Int32} (hc : c < 4) : (∀ l, gJ (setG g c z m w) l = gJ g l) ∧ (∀ J, costV (setG g c z m w) J = costV g J) := by
  have h1 : zG (setG g c z m w) = zG g := by funext i; exact setG_o hc (by omega)
  have h2 : frG (setG g c z m w) = frG g := by
    funext i
    unfold frG
    split
    · rfl
    · exact setG_o hc (by omega)
  have h3 : crG (setG g c z m w) = crG g := by
    funext i
    unfold crG
    split
    · rfl
    · exact setG_o hc (by omega)
  have h4 : wrG (setG g c z m w) = wrG g := by
    funext i
    unfold wrG
    split
    · rfl
    · exact setG_o hc (by omega)
  have h5 : setG g c z m w 411 = g 411 := setG_o hc (by omega)
  have h6 : setG g c z m w 412 = g 412 := setG_o hc (by omega)
  refine ⟨fun l => ?_, fun J => ?_⟩
  · unfold gJ
    rw [h1, h6]
  · unfold costV gO gK
    rw [h2, h3, h4, h5]
section P6
variable {e n : Nat} {h h' : mz_H} {Q : mz_Q} {g : Nat → Int32} {kp : Nat} {gi : Nat → Nat → Int32}
theorem s_imageOf {i : Nat} (h2 : h 2 = .inr (10, [.ref 3, .ref 46, .ref 89, .int (nI kp), .ref 132, .ref 139])) (hi : i < 2) (H : Q (some (.ref (46 + 43 * i))) n h) : mz_wc (e + 1) 103 [.ref 2, .int (nI i)] n h Q := by
  refine mz_wc.enter (code := co_X10_imageOf) (idx := 103) rfl rfl (Nat.le_of_ble_eq_true rfl) rfl rfl ?_
  refine mz_WP.run 80 rfl ?_
  rcases (show i = 0 ∨ i = 1 by omega) with rfl | rfl
  · refine mz_WP.ifc rfl (fun c => ?_) (fun c => ?_)
    · exact absurd rfl c
    · refine mz_WP.run 80 rfl ?_
      refine mz_WP.getf rfl (h2) rfl (Nat.le_of_ble_eq_true rfl) ?_
      refine mz_WP.run 80 rfl ?_
      exact mz_WP.aret rfl rfl H
  · refine mz_WP.ifc rfl (fun c => ?_) (fun c => ?_)
    · refine mz_WP.run 80 rfl ?_
      refine mz_WP.getf rfl (h2) rfl (Nat.le_of_ble_eq_true rfl) ?_
      exact mz_WP.aret rfl rfl H
    · exact absurd (show ¬ nI 1 = 0 by decide) c
theorem fx2 : fxt 2 = none := rfl
theorem s_image {x : Int32} (C : CI h g kp gi) (H : ∀ h', CI h' g (imageK kp x) (imageI g gi x) → (∀ b, b < 2 ∨ 185 < b → h' b = h b) → Q (some (.int (imageR x))) n h') : mz_wc (e + 7) 96 [.ref 2, .int x] n h Q := by
  unfold imageK imageI imageR at H
  refine mz_wc.enter (code := co_X10_image) (idx := 96) rfl rfl (Nat.le_of_ble_eq_true rfl) rfl rfl ?_
  refine mz_WP.run 80 rfl ?_
  refine mz_WP.cs rfl (by decide) rfl (Nat.le_of_ble_eq_true rfl) rfl (s_isImage ?_)
  refine mz_WP.ifc rfl (fun c0 => ?_) (fun c0 => ?_)
  · have c0 := bI_t c0
    have n0 : ¬ inB x (nI 0) (nI 1) = false := by rw [c0]; decide
    rw [if_neg n0, if_neg n0, if_neg n0] at H
    obtain ⟨i, -, hi, rfl⟩ := inB_of (by decide) (by decide) c0
    rw [nI_clamp (by omega)] at H
    obtain ⟨F, B, h2, W, R, ⟨tz, tm, ts, tw, T⟩, S1, S2, hk4, hK⟩ := id C
    obtain ⟨k1, k2⟩ := kp_or kp hk4 i (by omega)
    refine mz_WP.run 80 rfl ?_
    refine mz_WP.cv rfl rfl (Nat.le_of_ble_eq_true rfl) rfl (h2) rfl (s_imageOf h2 (by omega) ?_)
    refine mz_WP.run 80 rfl ?_
    refine mz_WP.getf rfl (h2) rfl (Nat.le_of_ble_eq_true rfl) ?_
    have fin : ∀ h' : mz_H, Rep (46 + 43 * i) h' g → (∀ b, b < 46 + 43 * i ∨ 46 + 43 * i + 42 < b → h' b = h b) → Fx h' → mz_WP (mz_wc (e + 6)) (e + 6) 1 co_X10_image Q 22 [some (.ref 2), some (.int (nI i))] [] n h' 0 0 := by
      intro h' R' o' F'
      have h2' := (o' 2 (by omega)).trans h2
      refine mz_WP.run 80 rfl ?_
      refine mz_WP.getf rfl (h2') rfl (Nat.le_of_ble_eq_true rfl) ?_
      refine mz_WP.run 80 rfl ?_
      refine mz_WP.putf rfl (h2') (Nat.le_of_ble_eq_true rfl) (Nat.le_of_ble_eq_true rfl) rfl ?_
      show mz_WP _ _ _ _ _ _ _ _ _ (mz_up h' 2 (.inr (10, [.ref 3, .ref 46, .ref 89, .int (nI kp ||| nI 1 <<< (nI i &&& 31)), .ref 132, .ref 139]))) _ _
      rw [k1]
      refine mz_WP.run 80 rfl ?_
      have o2 : ∀ b, b ≠ 2 → (b < 46 + 43 * i ∨ 46 + 43 * i + 42 < b) → mz_up h' 2 (.inr (10, [.ref 3, .ref 46, .ref 89, .int (nI (kpS kp i)), .ref 132, .ref 139])) b = h b := fun b hb hb2 => (mz_up_n hb).trans (o' b hb2)
      have o3 : ∀ b, 46 + 43 * i ≤ b → mz_up h' 2 (.inr (10, [.ref 3, .ref 46, .ref 89, .int (nI (kpS kp i)), .ref 132, .ref 139])) b = h' b := fun b hb => mz_up_n (by omega)
      have RI : Rep (46 + 43 * i) (mz_up h' 2 (.inr (10, [.ref 3, .ref 46, .ref 89, .int (nI (kpS kp i)), .ref 132, .ref 139]))) g := R'.to (fun b x y => o3 b (by omega))
      have Sj : ∀ j, j < 2 → j ≠ i → Shp (46 + 43 * j) h → Shp (46 + 43 * j) (mz_up h' 2 (.inr (10, [.ref 3, .ref 46, .ref 89, .int (nI (kpS kp i)), .ref 132, .ref 139]))) := fun j hj hne Sh => Sh.to (fun b x y => o2 b (by omega) (by omega))
      have SA : ∀ j, j < 2 → Shp (46 + 43 * j) h → Shp (46 + 43 * j) (mz_up h' 2 (.inr (10, [.ref 3, .ref 46, .ref 89, .int (nI (kpS kp i)), .ref 132, .ref 139]))) := by
        intro j hj Sh
        by_cases e : j = i
        · subst e
          exact RI.shp
        · exact Sj j hj e Sh
      refine mz_WP.ret rfl rfl (H _ ⟨F'.up fx2, B.to (fun b x y => o2 b (by omega) (by omega)), mz_up_s, W, R.to (fun b x y => o2 b (by omega) (by omega)), ⟨tz, tm, ts, tw, T.to (fun b x y => o2 b (by omega) (by omega))⟩, SA 0 (by decide) S1, SA 1 (by decide) S2, k2, fun j hj hb => ?_⟩ (fun b hb => o2 b (by omega) (by omega)))
      by_cases e : j = i
      · subst e
        show WF (if j = j then g else gi j) ∧ Rep _ _ (if j = j then g else gi j)
        rw [if_pos rfl]
        exact ⟨W, RI⟩
      · show WF (if j = i then g else gi j) ∧ Rep _ _ (if j = i then g else gi j)
        rw [if_neg e]
        obtain ⟨q1, q2⟩ := hK j hj (kp_set kp hk4 i (by omega) j hj hb e)
        exact ⟨q1, q2.to (fun b x y => o2 b (by omega) (by omega))⟩
    rcases (show i = 0 ∨ i = 1 by omega) with rfl | rfl
    · refine mz_WP.cv rfl rfl (Nat.le_of_ble_eq_true rfl) rfl (F _ _ rfl) rfl (s_scpy (S := 46) (S2 := 3) F rfl rfl rfl (by decide) (by decide) S1 R (fun h' R' o' F' => fin h' R' o' F'))
    · refine mz_WP.cv rfl rfl (Nat.le_of_ble_eq_true rfl) rfl (F _ _ rfl) rfl (s_scpy (S := 89) (S2 := 3) F rfl rfl rfl (by decide) (by decide) S2 R (fun h' R' o' F' => fin h' R' o' F'))
  · have c0 := bI_f (Classical.byContradiction c0)
    rw [if_pos c0, if_pos c0, if_pos c0] at H
    refine mz_WP.run 80 rfl ?_
    exact mz_WP.ret rfl rfl (H h C (fun _ _ => rfl))
theorem s_restore {x : Int32} (C : CI h g kp gi) (H : ∀ h', CI h' (restG g kp gi x) kp gi → (∀ b, b < 2 ∨ 185 < b → h' b = h b) → Q (some (.int (restR kp x))) n h') : mz_wc (e + 7) 97 [.ref 2, .int x] n h Q := by
  unfold restG restR at H
  refine mz_wc.enter (code := co_X10_restore) (idx := 97) rfl rfl (Nat.le_of_ble_eq_true rfl) rfl rfl ?_
  refine mz_WP.run 80 rfl ?_
  refine mz_WP.cs rfl (by decide) rfl (Nat.le_of_ble_eq_true rfl) rfl (s_isImage ?_)
  refine mz_WP.ifc rfl (fun c0 => ?_) (fun c0 => ?_)
  · have c0 := bI_t c0
    have n0 : ¬ inB x (nI 0) (nI 1) = false := by rw [c0]; decide
    rw [if_neg n0, if_neg n0] at H
    obtain ⟨i, -, hi, rfl⟩ := inB_of (by decide) (by decide) c0
    rw [nI_clamp (by omega)] at H
    obtain ⟨F, B, h2, W, R, ⟨tz, tm, ts, tw, T⟩, S1, S2, hk4, hK⟩ := id C
    have hbit := kp_bit kp hk4 i (by omega)
    refine mz_WP.run 80 rfl ?_
    refine mz_WP.getf rfl (h2) rfl (Nat.le_of_ble_eq_true rfl) ?_
    refine mz_WP.run 80 rfl ?_
    refine mz_WP.ifc rfl (fun c1 => ?_) (fun c1 => ?_)
    · have c1 : ¬ kp / 2 ^ i % 2 = 0 := fun z => c1 (hbit.mpr z)
      rw [if_neg c1, if_neg c1] at H
      obtain ⟨W', R'⟩ := hK i (by omega) (by omega)
      refine mz_WP.run 80 rfl ?_
      refine mz_WP.getf rfl (h2) rfl (Nat.le_of_ble_eq_true rfl) ?_
      refine mz_WP.run 80 rfl ?_
      refine mz_WP.cv rfl rfl (Nat.le_of_ble_eq_true rfl) rfl (h2) rfl (s_imageOf h2 (by omega) ?_)
      have fin : ∀ h' : mz_H, Rep 3 h' (gi i) → (∀ b, b < 3 ∨ 3 + 42 < b → h' b = h b) → Fx h' → mz_WP (mz_wc (e + 6)) (e + 6) 1 co_X10_restore Q 36 [some (.ref 2), some (.int (nI i))] [] n h' 0 0 := by
        intro h' R' o' F'
        refine mz_WP.run 80 rfl ?_
        exact mz_WP.ret rfl rfl (H h' (C.now (fun b hb => o' b (by omega)) F' W' R') (fun b hb => o' b (by omega)))
      rcases (show i = 0 ∨ i = 1 by omega) with rfl | rfl
      · refine mz_WP.cv rfl rfl (Nat.le_of_ble_eq_true rfl) rfl (F _ _ rfl) rfl (s_scpy (S := 3) (S2 := 46) F rfl rfl rfl (by decide) (by decide) R.shp R' (fun h' R' o' F' => fin h' R' o' F'))
      · refine mz_WP.cv rfl rfl (Nat.le_of_ble_eq_true rfl) rfl (F _ _ rfl) rfl (s_scpy (S := 3) (S2 := 89) F rfl rfl rfl (by decide) (by decide) R.shp R' (fun h' R' o' F' => fin h' R' o' F'))
    · have c1 : kp / 2 ^ i % 2 = 0 := hbit.mp (Classical.byContradiction c1)
      rw [if_pos c1, if_pos c1] at H
      refine mz_WP.run 80 rfl ?_
      exact mz_WP.ret rfl rfl (H h C (fun _ _ => rfl))
  · have c0 := bI_f (Classical.byContradiction c0)
    rw [if_pos c0, if_pos c0] at H
    refine mz_WP.run 80 rfl ?_
    exact mz_WP.ret rfl rfl (H h C (fun _ _ => rfl))
theorem CI.trial {z : Int32} {m s w : Nat → Int32} (C : CI h g kp gi) : CI (tpH h 132 z m s w) g kp gi := by
  obtain ⟨c1, c2, c3, c4, c5, ⟨z0, m0, s0, w0, c6⟩, c7, c8, c9, c10⟩ := C
  have o : ∀ b, b < 132 ∨ 138 < b → tpH h 132 z m s w b = h b := fun b hb => tp_n (by omega) (by omega) (by omega) (by omega)
  exact ⟨tp_F c1 rfl rfl rfl rfl, c2.to (fun b x y => o b (by omega)), (o 2 (by omega)).trans c3, c4, c5.to (fun b x y => o b (by omega)), ⟨z, m, s, w, TA.tp c6.1⟩, c7.to (fun b x y => o b (by omega)), c8.to (fun b x y => o b (by omega)), c9, fun i hi hk => ⟨(c10 i hi hk).1, (c10 i hi hk).2.to (fun b x y => o b (by omega))⟩⟩
theorem s_would {card day minute station way : Int32} (C : CI h g kp gi) (H : ∀ h', CI h' g kp gi → (∀ b, b < 2 ∨ 185 < b → h' b = h b) → Q (some (.int (wouldR g card day minute station way))) n h') : mz_wc (e + 7) 92 [.ref 2, .int card, .int day, .int minute, .int station, .int way] n h Q := by
  unfold wouldR tapG at H
  refine mz_wc.enter (code := co_X10_would) (idx := 92) rfl rfl (Nat.le_of_ble_eq_true rfl) rfl rfl ?_
  refine mz_WP.run 80 rfl ?_
  refine mz_WP.cv rfl rfl (Nat.le_of_ble_eq_true rfl) rfl (C.2.2.1) rfl (s_refTap C ?_)
  refine mz_WP.run 80 rfl ?_
  refine mz_WP.ifc rfl (fun c0 => ?_) (fun c0 => ?_)
  · have c0 : tapRef g card day minute station way = 0 := c0
    rw [if_pos c0, if_pos c0] at H
    obtain ⟨c, d, mi, st, wy, hc, rfl, hd, rfl, hm, rfl, hs, rfl, hw, rfl, hf, hk⟩ := tapRef_ok c0
    rw [nI_clamp (by omega), (momG_n hd hm).1, pk_mul, nI_add] at H
    obtain ⟨k, Wc⟩ := C.2.2.2.1.1 c hc
    rw [Wc.k] at hf hk
    have e0 : costC g c = costV g (gJ g (gL g c k)) := by unfold costC kL; rw [Wc.k]
    refine mz_WP.run 80 rfl ?_
    refine mz_WP.cv rfl rfl (Nat.le_of_ble_eq_true rfl) rfl (C.2.2.1) rfl (s_reckon C hc Wc (fun h1 C1 o1 B1 => ?_))
    obtain ⟨-, -, -, ⟨cf, wf, wb, sr, iw, ⟨p1, p2, p3, p4, p5⟩, a1, -⟩⟩ := B1
    obtain ⟨F1, BB1, g1, W1, R1, ⟨tz, tm, ts, tw, TT⟩, -⟩ := id C1
    have a1 : cf 0 = costC g c := by rw [e0, a1]; rfl
    obtain ⟨k', Wc', m1, s1, w1, T, r⟩ := R1.1 c hc
    have hkk : k' = k := by rw [← Wc'.k, Wc.k]
    subst hkk
    refine mz_WP.run 80 rfl ?_
    refine mz_WP.getf rfl (g1) rfl (Nat.le_of_ble_eq_true rfl) ?_
    refine mz_WP.getf rfl (F1 _ _ rfl) rfl (Nat.le_of_ble_eq_true rfl) ?_
    refine mz_WP.cv rfl rfl (Nat.le_of_ble_eq_true rfl) rfl (F1 _ _ rfl) rfl (r_pcost F1 p1 ?_)
    rw [a1]
    refine mz_WP.run 80 rfl ?_
    refine mz_WP.getf rfl (g1) rfl (Nat.le_of_ble_eq_true rfl) ?_
    refine mz_WP.run 80 rfl ?_
    refine mz_WP.getf rfl (g1) rfl (Nat.le_of_ble_eq_true rfl) ?_
    refine mz_WP.run 80 rfl ?_
    refine mz_WP.cv rfl rfl (Nat.le_of_ble_eq_true rfl) rfl (F1 _ _ rfl) rfl (s_tapsOf F1 hc ?_)
    refine mz_WP.cv rfl rfl (Nat.le_of_ble_eq_true rfl) rfl (TT.2.1) rfl (r_tcpy TT T (by omega) (fun m' s' w' E => ?_))
    have C2 : CI (tpH h1 132 (nI k') m' s' w') g kp gi := C1.trial
    obtain ⟨F2, -, g2, -⟩ := id C2
    have TF := TT.1
    refine mz_WP.run 80 rfl ?_
    refine mz_WP.getf rfl (g2) rfl (Nat.le_of_ble_eq_true rfl) ?_
    refine mz_WP.run 80 rfl ?_
    refine mz_WP.cs rfl (by decide) rfl (Nat.le_of_ble_eq_true rfl) rfl (s_momentOf ?_)
    rw [pk_mul, nI_add]
    refine mz_WP.run 80 rfl ?_
    refine mz_WP.cv rfl rfl (Nat.le_of_ble_eq_true rfl) rfl (tp_o) rfl (s_tins TF hk (fun p hp hgt hle => ?_))
    have r' : ∀ j, j < k' → m' j = gm g c j ∧ s' j = gS g c j ∧ w' j = gY g c j := fun j hj => by
      have hkk := Wc.1
      rw [(E j (by omega)).1, (E j (by omega)).2.1, (E j (by omega)).2.2]
      exact r j hj
    have hip : p = ipos (gm g c) (nI (d * 1440 + mi)) k' := ipos_eq hp (fun j a b => by rw [← (r' j b).1]; exact hgt j a b) (by
      rcases hle with z | z
      · exact Or.inl z
      · by_cases e0 : p = 0
        · exact Or.inl e0
        · exact Or.inr (by rw [← (r' (p - 1) (by omega)).1]; exact z))
    have rows := add_rows (x := d * 1440 + mi) hc Wc hk hs hw r' hp hip
    have Wa := Wc.add hc hk (momG_n hd hm).2 hs hw (fnd_no hf)
    have C3 : CI (tpH h1 132 (nI (k' + 1)) (insf m' k' p (nI (d * 1440 + mi))) (insf s' k' p (nI st)) (insf w' k' p (nI wy))) g kp gi := C1.trial
    obtain ⟨F3, -, g3, -⟩ := id C3
    have T3 : TA (tpH h1 132 (nI (k' + 1)) (insf m' k' p (nI (d * 1440 + mi))) (insf s' k' p (nI st)) (insf w' k' p (nI wy))) 132 (nI (k' + 1)) (insf m' k' p (nI (d * 1440 + mi))) (insf s' k' p (nI st)) (insf w' k' p (nI wy)) := TA.tp TF
    obtain ⟨m3, s3, w3, TA3, r3, hs3, hm3⟩ := RepT.facts (h := tpH h1 132 (nI (k' + 1)) (insf m' k' p (nI (d * 1440 + mi))) (insf s' k' p (nI st)) (insf w' k' p (nI wy))) (t := 132) ⟨_, _, _, T3, rows⟩ Wa
    refine mz_WP.run 80 rfl ?_
    refine mz_WP.getf rfl (g3) rfl (Nat.le_of_ble_eq_true rfl) ?_
    refine mz_WP.run 80 rfl ?_
    refine mz_WP.getf rfl (g3) rfl (Nat.le_of_ble_eq_true rfl) ?_
    refine mz_WP.run 80 rfl ?_
    refine mz_WP.getf rfl (g3) rfl (Nat.le_of_ble_eq_true rfl) ?_
    refine mz_WP.getf rfl (F3 _ _ rfl) rfl (Nat.le_of_ble_eq_true rfl) ?_
    refine mz_WP.cv rfl rfl (Nat.le_of_ble_eq_true rfl) rfl (F3 _ _ rfl) rfl (r_breckon C3 TA3 (by decide) Wa.1 hs3 hm3 (fun h4 C4 o4 B4 => ?_))
    obtain ⟨-, -, -, ⟨cf4, wf4, wb4, sr4, iw4, ⟨x1, x2, x3, x4, x5⟩, b1, -⟩⟩ := B4
    obtain ⟨F4, -, g4, -⟩ := id C4
    have e4 : cf4 0 = costC (addG g c (nI (d * 1440 + mi)) (nI (2 * st + wy))) c := by
      rw [b1, vL_c r3]
      unfold costC kL
      rw [Wa.k]
      unfold addG
      rw [(setG_tar hc).1, (setG_tar hc).2]
      rfl
    refine mz_WP.run 80 rfl ?_
    refine mz_WP.getf rfl (g4) rfl (Nat.le_of_ble_eq_true rfl) ?_
    refine mz_WP.getf rfl (F4 _ _ rfl) rfl (Nat.le_of_ble_eq_true rfl) ?_
    refine mz_WP.cv rfl rfl (Nat.le_of_ble_eq_true rfl) rfl (F4 _ _ rfl) rfl (r_pcost F4 x1 ?_)
    rw [e4]
    refine mz_WP.run 80 rfl ?_
    have H4 := H h4 C4 (fun b hb => by rw [o4 b (by omega), tp_n (by omega) (by omega) (by omega) (by omega), o1 b (by omega)])
    generalize costC (addG g c (nI (d * 1440 + mi)) (nI (2 * st + wy))) c = u1 at H4 ⊢
    rw [e0] at H4
    unfold costV at H4
    exact mz_WP.ret rfl rfl H4
  · have c0 : ¬ tapRef g card day minute station way = 0 := c0
    rw [if_neg c0] at H
    refine mz_WP.run 80 rfl ?_
    exact mz_WP.ret rfl rfl (H h C (fun _ _ => rfl))
end P6
