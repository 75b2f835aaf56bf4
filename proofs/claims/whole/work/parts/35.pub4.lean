/-! the class: price, bar, hear, pass -/
def priceB (what w x : Int32) : Bool := if what = nI 4 then inB x (nI 0) (nI 200) else if what = nI 3 then inB x (nI 0) (nI 9999) else inB what (nI 0) (nI 2) && inB w (nI 1) (nI 5) && inB x (nI 0) (nI 9999)
def pIx (what w : Int32) : Nat := if what = nI 4 then 412 else if what = nI 3 then 411 else 395 + 5 * what.toNatClampNeg + w.toNatClampNeg
def priceR (g : Nat → Int32) (what w x : Int32) : Int32 := if priceB what w x = false then U2 else g (pIx what w)
def priceG (g : Nat → Int32) (what w x : Int32) : Nat → Int32 := if priceB what w x = false then g else upd g (pIx what w) x
def valA (fr cr wr : Nat → Int32) (mo ne i : Int32) : Nat → Int32
  | 0 => rat 6 fr i
  | 1 => rat 6 cr i
  | 2 => rat 6 wr i
  | 3 => mo
  | _ => ne
def putA (h : mz_H) (a : Nat) (fr cr wr : Nat → Int32) (mo ne i v : Int32) : Nat → mz_H
  | 0 => mz_up h (a + 4) (.inl (0, 6, rput 6 fr i v))
  | 1 => mz_up h (a + 6) (.inl (0, 6, rput 6 cr i v))
  | 2 => mz_up h (a + 8) (.inl (0, 6, rput 6 wr i v))
  | 3 => mz_up h a (.inr (9, [.ref (a + 1), .ref (a + 3), .ref (a + 5), .ref (a + 7), .int v, .int ne]))
  | _ => mz_up h a (.inr (9, [.ref (a + 1), .ref (a + 3), .ref (a + 5), .ref (a + 7), .int mo, .int v]))
def barCh (g : Nat → Int32) (card on : Int32) : Bool := !decide (g 413 >>> (card &&& 31) &&& nI 1 = on)
def barG (g : Nat → Int32) (card on : Int32) : Nat → Int32 := if inB card (nI 0) (nI 3) = false then g else if inB on (nI 0) (nI 1) = false then g else if barCh g card on = true then upd (upd g 413 (g 413 ^^^ nI 1 <<< (card &&& 31))) 414 (g 414 + nI 1) else g
def barR (g : Nat → Int32) (card on : Int32) : Int32 := if inB card (nI 0) (nI 3) = false then U1 else if inB on (nI 0) (nI 1) = false then U2 else barG g card on 414
def hearG (g : Nat → Int32) (rd : Int32) : Nat → Int32 := if inB rd (nI 0) (nI 3) = false then g else upd (upd g (415 + rd.toNatClampNeg) (g 414)) (419 + rd.toNatClampNeg) (g 413)
def hearR (g : Nat → Int32) (rd : Int32) : Int32 := if inB rd (nI 0) (nI 3) = false then U1 else g 414 - g (415 + rd.toNatClampNeg)
def passR (g : Nat → Int32) (rd card : Int32) : Int32 := if inB rd (nI 0) (nI 3) = false ∨ inB card (nI 0) (nI 3) = false then U1 else if g (419 + rd.toNatClampNeg) >>> (card &&& 31) &&& nI 1 = nI 1 then 0 else 1
theorem bar_1 : ∀ b, b < 16 → ∀ c, c < 4 → (nI b ||| nI 1 <<< (nI c &&& 31) = nI b ↔ nI b >>> (nI c &&& 31) &&& nI 1 = nI 1) ∧ (¬ nI b >>> (nI c &&& 31) &&& nI 1 = nI 1 → nI b ||| nI 1 <<< (nI c &&& 31) = nI b ^^^ nI 1 <<< (nI c &&& 31)) := by decide +kernel
theorem bar_0 : ∀ b, b < 16 → ∀ c, c < 4 → (nI b &&& (nI 1 <<< (nI c &&& 31) ^^^ nI 4294967295) = nI b ↔ nI b >>> (nI c &&& 31) &&& nI 1 = nI 0) ∧ (¬ nI b >>> (nI c &&& 31) &&& nI 1 = nI 0 → nI b &&& (nI 1 <<< (nI c &&& 31) ^^^ nI 4294967295) = nI b ^^^ nI 1 <<< (nI c &&& 31)) := by decide +kernel
theorem bar_x : ∀ b, b < 16 → ∀ c, c < 4 → ∃ b', b' < 16 ∧ nI b ^^^ nI 1 <<< (nI c &&& 31) = nI b' := by decide +kernel
section P4
variable {e n : Nat} {h h' : mz_H} {Q : mz_Q} {g g' : Nat → Int32} {kp : Nat} {gi : Nat → Nat → Int32} {a : Nat} {zr fr cr wr : Nat → Int32} {mo ne : Int32} {nb bb : Nat → Int32} {nu ba : Int32}
theorem s_valueOf {p : Nat} {i : Int32} (hp : p ≤ 4) (T : TrA h a zr fr cr wr mo ne) (H : Q (some (.int (valA fr cr wr mo ne i p))) n h) : mz_wc (e + 2) 74 [.ref a, .int (nI p), .int i] n h Q := by
  refine mz_wc.enter (code := co_X9_valueOf) (idx := 74) rfl rfl (Nat.le_of_ble_eq_true rfl) rfl rfl ?_
  refine mz_WP.run 80 rfl ?_
  match p, hp with
  | 0, _ =>
    refine mz_WP.tin (off := 31) rfl (by decide) (by decide) ?_
    refine mz_WP.run 80 rfl ?_
    refine mz_WP.getf rfl (T.1) rfl (Nat.le_of_ble_eq_true rfl) ?_
    refine mz_WP.run 80 rfl ?_
    refine mz_WP.cv rfl rfl (Nat.le_of_ble_eq_true rfl) rfl (T.2.1.2.1) rfl (s_at T.2.1.2.1 T.2.2.2.1 (by decide) ?_)
    exact mz_WP.ret rfl rfl H
  | 1, _ =>
    refine mz_WP.tin (off := 40) rfl (by decide) (by decide) ?_
    refine mz_WP.run 80 rfl ?_
    refine mz_WP.getf rfl (T.1) rfl (Nat.le_of_ble_eq_true rfl) ?_
    refine mz_WP.run 80 rfl ?_
    refine mz_WP.cv rfl rfl (Nat.le_of_ble_eq_true rfl) rfl (T.2.1.2.2.1) rfl (s_at T.2.1.2.2.1 T.2.2.2.2.1 (by decide) ?_)
    exact mz_WP.ret rfl rfl H
  | 2, _ =>
    refine mz_WP.tin (off := 49) rfl (by decide) (by decide) ?_
    refine mz_WP.run 80 rfl ?_
    refine mz_WP.getf rfl (T.1) rfl (Nat.le_of_ble_eq_true rfl) ?_
    refine mz_WP.run 80 rfl ?_
    refine mz_WP.cv rfl rfl (Nat.le_of_ble_eq_true rfl) rfl (T.2.1.2.2.2) rfl (s_at T.2.1.2.2.2 T.2.2.2.2.2 (by decide) ?_)
    exact mz_WP.ret rfl rfl H
  | 3, _ =>
    refine mz_WP.tin (off := 58) rfl (by decide) (by decide) ?_
    refine mz_WP.run 80 rfl ?_
    refine mz_WP.getf rfl (T.1) rfl (Nat.le_of_ble_eq_true rfl) ?_
    exact mz_WP.ret rfl rfl H
  | 4, _ =>
    refine mz_WP.tout rfl (by decide) ?_
    refine mz_WP.run 80 rfl ?_
    refine mz_WP.getf rfl (T.1) rfl (Nat.le_of_ble_eq_true rfl) ?_
    exact mz_WP.ret rfl rfl H
theorem s_putValue {p : Nat} {i v : Int32} (hp : p ≤ 4) (h2 : 2 ≤ a) (T : TrA h a zr fr cr wr mo ne) (H : Q none n (putA h a fr cr wr mo ne i v p)) : mz_wc (e + 2) 75 [.ref a, .int (nI p), .int i, .int v] n h Q := by
  refine mz_wc.enter (code := co_X9_putValue) (idx := 75) rfl rfl (Nat.le_of_ble_eq_true rfl) rfl rfl ?_
  refine mz_WP.run 80 rfl ?_
  match p, hp with
  | 0, _ =>
    refine mz_WP.tin (off := 31) rfl (by decide) (by decide) ?_
    refine mz_WP.run 80 rfl ?_
    refine mz_WP.getf rfl (T.1) rfl (Nat.le_of_ble_eq_true rfl) ?_
    refine mz_WP.run 80 rfl ?_
    refine mz_WP.cv rfl rfl (Nat.le_of_ble_eq_true rfl) rfl (T.2.1.2.1) rfl (s_put T.2.1.2.1 T.2.2.2.1 (by omega) (by decide) ?_)
    refine mz_WP.run 80 rfl ?_
    exact mz_WP.vret rfl rfl H
  | 1, _ =>
    refine mz_WP.tin (off := 43) rfl (by decide) (by decide) ?_
    refine mz_WP.run 80 rfl ?_
    refine mz_WP.getf rfl (T.1) rfl (Nat.le_of_ble_eq_true rfl) ?_
    refine mz_WP.run 80 rfl ?_
    refine mz_WP.cv rfl rfl (Nat.le_of_ble_eq_true rfl) rfl (T.2.1.2.2.1) rfl (s_put T.2.1.2.2.1 T.2.2.2.2.1 (by omega) (by decide) ?_)
    refine mz_WP.run 80 rfl ?_
    exact mz_WP.vret rfl rfl H
  | 2, _ =>
    refine mz_WP.tin (off := 55) rfl (by decide) (by decide) ?_
    refine mz_WP.run 80 rfl ?_
    refine mz_WP.getf rfl (T.1) rfl (Nat.le_of_ble_eq_true rfl) ?_
    refine mz_WP.run 80 rfl ?_
    refine mz_WP.cv rfl rfl (Nat.le_of_ble_eq_true rfl) rfl (T.2.1.2.2.2) rfl (s_put T.2.1.2.2.2 T.2.2.2.2.2 (by omega) (by decide) ?_)
    refine mz_WP.run 80 rfl ?_
    exact mz_WP.vret rfl rfl H
  | 3, _ =>
    refine mz_WP.tin (off := 67) rfl (by decide) (by decide) ?_
    refine mz_WP.run 80 rfl ?_
    refine mz_WP.putf rfl (T.1) (Nat.le_of_ble_eq_true rfl) (Nat.le_of_ble_eq_true rfl) rfl ?_
    refine mz_WP.run 80 rfl ?_
    exact mz_WP.vret rfl rfl H
  | 4, _ =>
    refine mz_WP.tout rfl (by decide) ?_
    refine mz_WP.run 80 rfl ?_
    refine mz_WP.putf rfl (T.1) (Nat.le_of_ble_eq_true rfl) (Nat.le_of_ble_eq_true rfl) rfl ?_
    exact mz_WP.vret rfl rfl H
theorem s_isPrice {what w x : Int32} (H : Q (some (.int (bI (priceB what w x)))) n h) : mz_wc (e + 3) 112 [.int what, .int w, .int x] n h Q := by
  refine mz_wc.enter (code := co_X10_isPrice) (idx := 112) rfl rfl (Nat.le_of_ble_eq_true rfl) rfl rfl ?_
  unfold priceB at H
  refine mz_WP.run 80 rfl ?_
  refine mz_WP.icmp rfl (fun c0 => ?_) (fun c0 => ?_)
  · have c0 : ¬ what = nI 4 := c0
    rw [if_neg c0] at H
    refine mz_WP.run 80 rfl ?_
    refine mz_WP.icmp rfl (fun c1 => ?_) (fun c1 => ?_)
    · have c1 : ¬ what = nI 3 := c1
      rw [if_neg c1] at H
      have no : (inB what (nI 0) (nI 2) && inB w (nI 1) (nI 5) && inB x (nI 0) (nI 9999)) = false → mz_WP (mz_wc (e + 2)) (e + 2) 2 co_X10_isPrice Q 59 [some (.int what), some (.int w), some (.int x)] [] n h 0 0 := by
        intro hb
        rw [hb] at H
        refine mz_WP.run 80 rfl ?_
        exact mz_WP.zret rfl rfl (Or.inl rfl) H
      refine mz_WP.run 80 rfl ?_
      refine mz_WP.cs rfl (by decide) rfl (Nat.le_of_ble_eq_true rfl) rfl (s_within ?_)
      refine mz_WP.ifc rfl (fun c2 => ?_) (fun c2 => ?_)
      · exact no (by rw [bI_f c2]; rfl)
      · have c2 := bI_t c2
        refine mz_WP.run 80 rfl ?_
        refine mz_WP.cs rfl (by decide) rfl (Nat.le_of_ble_eq_true rfl) rfl (s_isWidth ?_)
        refine mz_WP.ifc rfl (fun c3 => ?_) (fun c3 => ?_)
        · exact no (by rw [bI_f c3, Bool.and_false]; rfl)
        · have c3 := bI_t c3
          refine mz_WP.run 80 rfl ?_
          refine mz_WP.cs rfl (by decide) rfl (Nat.le_of_ble_eq_true rfl) rfl (s_within ?_)
          refine mz_WP.ifc rfl (fun c4 => ?_) (fun c4 => ?_)
          · exact no (by rw [bI_f c4, Bool.and_false])
          · rw [c2, c3, bI_t c4] at H
            refine mz_WP.run 80 rfl ?_
            refine mz_WP.run 80 rfl ?_
            exact mz_WP.zret rfl rfl (Or.inr rfl) H
    · have c1 : what = nI 3 := Classical.byContradiction c1
      rw [if_pos c1] at H
      refine mz_WP.run 80 rfl ?_
      refine mz_WP.cs rfl (by decide) rfl (Nat.le_of_ble_eq_true rfl) rfl (s_within ?_)
      exact mz_WP.zret rfl rfl (bI_01 _) H
  · have c0 : what = nI 4 := Classical.byContradiction c0
    rw [if_pos c0] at H
    refine mz_WP.run 80 rfl ?_
    refine mz_WP.cs rfl (by decide) rfl (Nat.le_of_ble_eq_true rfl) rfl (s_within ?_)
    exact mz_WP.zret rfl rfl (bI_01 _) H
theorem rat_upd {f f' : Nat → Int32} {q : Nat} {v : Int32} (hq : q < 6) (hf : rat 6 f = rat 6 f') {f2 : Nat → Int32} (h1 : f2 q = v) (h2 : ∀ j, j < 6 → j ≠ q → f2 j = f' j) : rat 6 (upd f q v) = rat 6 f2 := by
  refine rat_c (by decide) (fun j hj => ?_)
  by_cases e : j = q
  · subst e
    rw [updS, h1]
  · rw [updN e, h2 j hj e]
    have := congrFun hf (nI j)
    rw [rat_in hj (by decide), rat_in hj (by decide)] at this
    exact this
theorem s_price {what w x : Int32} (C : CI h g kp gi) (H : ∀ h', CI h' (priceG g what w x) kp gi → (∀ b, b < 2 ∨ 45 < b → h' b = h b) → Q (some (.int (priceR g what w x))) n h') : mz_wc (e + 7) 83 [.ref 2, .int what, .int w, .int x] n h Q := by
  unfold priceG priceR at H
  refine mz_wc.enter (code := co_X10_price) (idx := 83) rfl rfl (Nat.le_of_ble_eq_true rfl) rfl rfl ?_
  refine mz_WP.run 80 rfl ?_
  refine mz_WP.cs rfl (by decide) rfl (Nat.le_of_ble_eq_true rfl) rfl (s_isPrice ?_)
  refine mz_WP.ifc rfl (fun c0 => ?_) (fun c0 => ?_)
  · have c0 := bI_t c0
    have n0 : ¬ priceB what w x = false := by rw [c0]; decide
    rw [if_neg n0, if_neg n0] at H
    obtain ⟨F, B, h2, W, R, -⟩ := id C
    obtain ⟨R1, ⟨zr, fr, cr, wr, Tr, t1, t2, t3, t4⟩, R3⟩ := R
    -- what stays, whatever price it is
    have done : ∀ h' ix, 396 ≤ ix → ix ≤ 412 → (∀ b, b < 32 ∨ 40 < b → h' b = h b) → Fx h' → RepP h' 32 (upd g ix x) → CI h' (upd g ix x) kp gi := by
      intro h' ix i1 i2 hh F' RP
      refine C.now (fun b hb => hh b (by omega)) F' (W.up (by omega) (fun _ => by omega) (fun _ => by omega)) ⟨fun c hc => ?_, RP, (R3.to (fun b h1 h2 => hh b (by omega))).gg (fun q h1 h2 => updN (by omega))⟩
      obtain ⟨k, Wc, RT⟩ := R1 c hc
      exact ⟨k, Wc.gg hc (fun q hq => updN (by omega)), (RT.to (fun b h1 h2 => hh b (by omega))).gg hc Wc.1 (fun q hq => updN (by omega))⟩
    have zs : ∀ ix, 396 ≤ ix → rat 8 (zG g) = rat 8 (zG (upd g ix x)) := fun ix hi => rat_c (by decide) (fun j hj => by
      show g (388 + j) = upd g ix x (388 + j)
      rw [updN (by omega)])
    have fs : ∀ ix, ix < 396 ∨ 400 < ix → rat 6 (frG g) = rat 6 (frG (upd g ix x)) := fun ix hi => rat_c (by decide) (fun j hj => by
      unfold frG
      split
      · rfl
      · rw [updN (by omega)])
    have cs : ∀ ix, ix < 401 ∨ 405 < ix → rat 6 (crG g) = rat 6 (crG (upd g ix x)) := fun ix hi => rat_c (by decide) (fun j hj => by
      unfold crG
      split
      · rfl
      · rw [updN (by omega)])
    have ws : ∀ ix, ix < 406 ∨ 410 < ix → rat 6 (wrG g) = rat 6 (wrG (upd g ix x)) := fun ix hi => rat_c (by decide) (fun j hj => by
      unfold wrG
      split
      · rfl
      · rw [updN (by omega)])
    have fin : ∀ p, p ≤ 4 → what = nI p → valA fr cr wr (g 411) (g 412) w p = g (pIx what w) → (∀ b, b < 32 ∨ 40 < b → putA h 32 fr cr wr (g 411) (g 412) w x p b = h b) → CI (putA h 32 fr cr wr (g 411) (g 412) w x p) (upd g (pIx what w) x) kp gi → mz_WP (mz_wc (e + 6)) (e + 6) 1 co_X10_price Q 12 [some (.ref 2), some (.int what), some (.int w), some (.int x), none] [] n h 0 0 := by
      intro p hp hw hv hb hC
      subst hw
      refine mz_WP.run 80 rfl ?_
      refine mz_WP.getf rfl (h2) rfl (Nat.le_of_ble_eq_true rfl) ?_
      refine mz_WP.getf rfl (F _ _ rfl) rfl (Nat.le_of_ble_eq_true rfl) ?_
      refine mz_WP.run 80 rfl ?_
      refine mz_WP.cv rfl rfl (Nat.le_of_ble_eq_true rfl) rfl (Tr.1) rfl (s_valueOf hp Tr ?_)
      rw [hv]
      refine mz_WP.run 80 rfl ?_
      refine mz_WP.getf rfl (h2) rfl (Nat.le_of_ble_eq_true rfl) ?_
      refine mz_WP.getf rfl (F _ _ rfl) rfl (Nat.le_of_ble_eq_true rfl) ?_
      refine mz_WP.run 80 rfl ?_
      refine mz_WP.cv rfl rfl (Nat.le_of_ble_eq_true rfl) rfl (Tr.1) rfl (s_putValue hp (by decide) Tr ?_)
      refine mz_WP.run 80 rfl ?_
      exact mz_WP.ret rfl rfl (H _ hC (fun b hb2 => hb b (by omega)))
    by_cases w4 : what = nI 4
    · have hix : pIx what w = 412 := if_pos w4
      rw [hix] at fin
      refine fin 4 (by decide) w4 rfl (fun b hb => mz_up_n (by omega)) (done _ 412 (by decide) (by decide) (fun b hb => mz_up_n (by omega)) (F.up rfl) ⟨zr, fr, cr, wr, ?_, t1.trans (zs 412 (by decide)), t2.trans (fs 412 (by decide)), t3.trans (cs 412 (by decide)), t4.trans (ws 412 (by decide))⟩)
      rw [updN (show 411 ≠ 412 by decide), updS]
      exact Tr.u0
    · by_cases w3 : what = nI 3
      · have hix : pIx what w = 411 := by unfold pIx; rw [if_neg w4, if_pos w3]
        rw [hix] at fin
        refine fin 3 (by decide) w3 rfl (fun b hb => mz_up_n (by omega)) (done _ 411 (by decide) (by decide) (fun b hb => mz_up_n (by omega)) (F.up rfl) ⟨zr, fr, cr, wr, ?_, t1.trans (zs 411 (by decide)), t2.trans (fs 411 (by decide)), t3.trans (cs 411 (by decide)), t4.trans (ws 411 (by decide))⟩)
        rw [updN (show 412 ≠ 411 by decide), updS]
        exact Tr.u0
      · have hpb := c0
        unfold priceB at hpb
        rw [if_neg w4, if_neg w3] at hpb
        simp only [Bool.and_eq_true] at hpb
        obtain ⟨p, -, hp, hwp⟩ := inB_of (by decide) (by decide) hpb.1.1
        obtain ⟨q, hq1, hq2, hwq⟩ := inB_of (by decide) (by decide) hpb.1.2
        have hix : pIx what w = 395 + 5 * p + q := by
          unfold pIx
          rw [if_neg w4, if_neg w3, hwp, hwq, nI_clamp (by omega), nI_clamp (by omega)]
        rw [hix] at fin
        have vat : ∀ {f f' : Nat → Int32}, rat 6 f = rat 6 f' → rat 6 f w = f' q := fun hf => by rw [hf, hwq, rat_in (by omega) (by decide)]
        have pat : ∀ {f : Nat → Int32}, rput 6 f w x = upd f q x := fun {f} => by rw [hwq, rput_in (by omega) (by decide)]
        rcases (show p = 0 ∨ p = 1 ∨ p = 2 by omega) with rfl | rfl | rfl
        · refine fin 0 (by decide) hwp ?_ (fun b hb => mz_up_n (by omega)) (done _ (395 + 5 * 0 + q) (by omega) (by omega) (fun b hb => mz_up_n (by omega)) (F.up rfl) ⟨zr, upd fr q x, cr, wr, ?_, t1.trans (zs _ (by omega)), rat_upd (by omega) t2 ?_ (fun j hj hne => ?_), t3.trans (cs _ (by omega)), t4.trans (ws _ (by omega))⟩)
          · show rat 6 fr w = _
            rw [vat t2]
            unfold frG
            rw [if_neg (by omega)]
          · rw [updN (by omega), updN (by omega)]
            show TrA (mz_up h (32 + 4) (.inl (0, 6, rput 6 fr w x))) 32 zr (upd fr q x) cr wr (g 411) (g 412)
            rw [pat]
            exact Tr.u4
          · unfold frG
            rw [if_neg (by omega), show 395 + q = 395 + 5 * 0 + q by omega, updS]
          · unfold frG
            split
            · rfl
            · rw [updN (by omega)]
        · refine fin 1 (by decide) hwp ?_ (fun b hb => mz_up_n (by omega)) (done _ (395 + 5 * 1 + q) (by omega) (by omega) (fun b hb => mz_up_n (by omega)) (F.up rfl) ⟨zr, fr, upd cr q x, wr, ?_, t1.trans (zs _ (by omega)), t2.trans (fs _ (by omega)), rat_upd (by omega) t3 ?_ (fun j hj hne => ?_), t4.trans (ws _ (by omega))⟩)
          · show rat 6 cr w = _
            rw [vat t3]
            unfold crG
            rw [if_neg (by omega)]
          · rw [updN (by omega), updN (by omega)]
            show TrA (mz_up h (32 + 6) (.inl (0, 6, rput 6 cr w x))) 32 zr fr (upd cr q x) wr (g 411) (g 412)
            rw [pat]
            exact Tr.u6
          · unfold crG
            rw [if_neg (by omega), show 400 + q = 395 + 5 * 1 + q by omega, updS]
          · unfold crG
            split
            · rfl
            · rw [updN (by omega)]
        · refine fin 2 (by decide) hwp ?_ (fun b hb => mz_up_n (by omega)) (done _ (395 + 5 * 2 + q) (by omega) (by omega) (fun b hb => mz_up_n (by omega)) (F.up rfl) ⟨zr, fr, cr, upd wr q x, ?_, t1.trans (zs _ (by omega)), t2.trans (fs _ (by omega)), t3.trans (cs _ (by omega)), rat_upd (by omega) t4 ?_ (fun j hj hne => ?_)⟩)
          · show rat 6 wr w = _
            rw [vat t4]
            unfold wrG
            rw [if_neg (by omega)]
          · rw [updN (by omega), updN (by omega)]
            show TrA (mz_up h (32 + 8) (.inl (0, 6, rput 6 wr w x))) 32 zr fr cr (upd wr q x) (g 411) (g 412)
            rw [pat]
            exact Tr.u8
          · unfold wrG
            rw [if_neg (by omega), show 405 + q = 395 + 5 * 2 + q by omega, updS]
          · unfold wrG
            split
            · rfl
            · rw [updN (by omega)]
  · have c0 := bI_f (Classical.byContradiction c0)
    rw [if_pos c0, if_pos c0] at H
    refine mz_WP.run 80 rfl ?_
    exact mz_WP.ret rfl rfl (H h C (fun _ _ => rfl))
end P4
