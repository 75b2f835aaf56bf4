/-! the class: tap, untap, told -/
def momG (day minute : Int32) : Int32 := day * nI 1440 + minute
def tapRef (g : Nat → Int32) (card day minute station way : Int32) : Int32 := if inB card (nI 0) (nI 3) = false ∨ inB station (nI 0) (nI 7) = false then U1 else if inB day (nI 0) (nI 27) = false ∨ inB minute (nI 0) (nI 1439) = false ∨ inB way (nI 0) (nI 1) = false then U2 else match fnd (gm g card.toNatClampNeg) (momG day minute) (kOf g card.toNatClampNeg) with
  | some _ => U5
  | none => if kOf g card.toNatClampNeg < 48 then nI 0 else U4
def tapG (g : Nat → Int32) (card day minute station way : Int32) : Nat → Int32 := if tapRef g card day minute station way = 0 then addG g card.toNatClampNeg (momG day minute) (nI 2 * station + way) else g
def tapR (g : Nat → Int32) (card day minute station way : Int32) : Int32 := if tapRef g card day minute station way = 0 then nI (kOf g card.toNatClampNeg + 1) else tapRef g card day minute station way
def untapF (g : Nat → Int32) (card day minute : Int32) : Option Nat := fnd (gm g card.toNatClampNeg) (momG day minute) (kOf g card.toNatClampNeg)
def untapR (g : Nat → Int32) (card day minute : Int32) : Int32 := if inB card (nI 0) (nI 3) = false then U1 else if inB day (nI 0) (nI 27) = false ∨ inB minute (nI 0) (nI 1439) = false then U2 else match untapF g card day minute with
  | some _ => nI (kOf g card.toNatClampNeg - 1)
  | none => U5
def untapG (g : Nat → Int32) (card day minute : Int32) : Nat → Int32 := if inB card (nI 0) (nI 3) = false then g else if inB day (nI 0) (nI 27) = false ∨ inB minute (nI 0) (nI 1439) = false then g else match untapF g card day minute with
  | some p => rmG g card.toNatClampNeg p
  | none => g
def toldW (g : Nat → Int32) (c j : Nat) (what : Int32) : Int32 := if what = nI 0 then gm g c j / nI 1440 else if what = nI 1 then gm g c j - gm g c j / nI 1440 * nI 1440 else if what = nI 2 then gS g c j else gY g c j
def toldR (g : Nat → Int32) (card i what : Int32) : Int32 := if inB card (nI 0) (nI 3) = false then U1 else if inB what (nI 0) (nI 3) = false then U2 else if i < 0 ∨ g (384 + card.toNatClampNeg) ≤ i then NN else toldW g card.toNatClampNeg i.toNatClampNeg what
theorem momG_n {d m : Nat} (hd : d ≤ 27) (hm : m ≤ 1439) : momG (nI d) (nI m) = nI (d * 1440 + m) ∧ d * 1440 + m < 40320 := by
  unfold momG
  rw [pk_mul, nI_add]
  exact ⟨rfl, by omega⟩
section TT
variable {e n : Nat} {h : mz_H} {Q : mz_Q} {g : Nat → Int32} {kp : Nat} {gi : Nat → Nat → Int32}
/-- the class' find, by g -/
theorem r_find {c k : Nat} {v : Int32} {m s w : Nat → Int32} {t : Nat} (T : TA h t (nI k) m s w) (W : WFc g c k) (hm : ∀ j, j < k → m j = gm g c j) (H1 : ∀ p, fnd (gm g c) v k = some p → Q (some (.int (nI p))) n h) (H0 : fnd (gm g c) v k = none → Q (some (.int U1)) n h) : mz_wc (e + 2) 65 [.ref t, .int v] n h Q := by
  rw [← T.eq]
  refine s_tfind T.1 W.1 (fun j hj he hlt => ?_) (fun hn => ?_)
  · rw [T.eq]
    refine H1 j (fnd_s hj (by rw [← hm j hj]; exact he) (fun i hi hne => ?_))
    rcases Nat.lt_or_ge i j with z | z
    · rw [← hm i hi]
      exact hlt i z
    · rw [← he, hm j hj]
      exact (W.2.2.2.2 j i (by omega) hi).symm
  · rw [T.eq]
    exact H0 (fnd_n (fun j hj => by rw [← hm j hj]; exact hn j hj))
theorem s_refTap {card day minute station way : Int32} (C : CI h g kp gi) (H : Q (some (.int (tapRef g card day minute station way))) n h) : mz_wc (e + 3) 99 [.ref 2, .int card, .int day, .int minute, .int station, .int way] n h Q := by
  unfold tapRef at H
  refine mz_wc.enter (code := co_X10_refusalOfTap) (idx := 99) rfl rfl (Nat.le_of_ble_eq_true rfl) rfl rfl ?_
  have o1 : (inB card (nI 0) (nI 3) = false ∨ inB station (nI 0) (nI 7) = false) → mz_WP (mz_wc (e + 2)) (e + 2) 1 co_X10_refusalOfTap Q 15 [some (.ref 2), some (.int card), some (.int day), some (.int minute), some (.int station), some (.int way), none] [] n h 0 0 := by
    intro ho
    rw [if_pos ho] at H
    refine mz_WP.run 80 rfl ?_
    exact mz_WP.ret rfl rfl H
  refine mz_WP.run 80 rfl ?_
  refine mz_WP.cs rfl (by decide) rfl (Nat.le_of_ble_eq_true rfl) rfl (s_isCard ?_)
  refine mz_WP.ifc rfl (fun c0 => ?_) (fun c0 => ?_)
  · exact o1 (Or.inl (bI_f c0))
  · have c0 := bI_t c0
    refine mz_WP.run 80 rfl ?_
    refine mz_WP.cs rfl (by decide) rfl (Nat.le_of_ble_eq_true rfl) rfl (s_isStation ?_)
    refine mz_WP.ifc rfl (fun c1 => ?_) (fun c1 => ?_)
    · have c1 := bI_t c1
      rw [if_neg (fun z => z.elim (fun z => by rw [c0] at z; exact absurd z (by decide)) (fun z => by rw [c1] at z; exact absurd z (by decide)))] at H
      have o2 : (inB day (nI 0) (nI 27) = false ∨ inB minute (nI 0) (nI 1439) = false ∨ inB way (nI 0) (nI 1) = false) → mz_WP (mz_wc (e + 2)) (e + 2) 1 co_X10_refusalOfTap Q 41 [some (.ref 2), some (.int card), some (.int day), some (.int minute), some (.int station), some (.int way), none] [] n h 0 0 := by
        intro ho
        rw [if_pos ho] at H
        refine mz_WP.run 80 rfl ?_
        exact mz_WP.ret rfl rfl H
      refine mz_WP.run 80 rfl ?_
      refine mz_WP.cs rfl (by decide) rfl (Nat.le_of_ble_eq_true rfl) rfl (s_isDay ?_)
      refine mz_WP.ifc rfl (fun c2 => ?_) (fun c2 => ?_)
      · exact o2 (Or.inl (bI_f c2))
      · have c2 := bI_t c2
        refine mz_WP.run 80 rfl ?_
        refine mz_WP.cs rfl (by decide) rfl (Nat.le_of_ble_eq_true rfl) rfl (s_isMinute ?_)
        refine mz_WP.ifc rfl (fun c3 => ?_) (fun c3 => ?_)
        · exact o2 (Or.inr (Or.inl (bI_f c3)))
        · have c3 := bI_t c3
          refine mz_WP.run 80 rfl ?_
          refine mz_WP.cs rfl (by decide) rfl (Nat.le_of_ble_eq_true rfl) rfl (s_within ?_)
          refine mz_WP.ifc rfl (fun c4 => ?_) (fun c4 => ?_)
          · have c4 := bI_t c4
            rw [if_neg (fun z => z.elim (fun z => by rw [c2] at z; exact absurd z (by decide)) (fun z => z.elim (fun z => by rw [c3] at z; exact absurd z (by decide)) (fun z => by rw [c4] at z; exact absurd z (by decide))))] at H
            obtain ⟨c, -, hc, rfl⟩ := inB_of (by decide) (by decide) c0
            obtain ⟨F, B, h2, W, R, -⟩ := id C
            obtain ⟨k, Wc, m, s, w, T, r⟩ := R.1 c (by omega)
            rw [nI_clamp (by omega), Wc.k] at H
            refine mz_WP.run 80 rfl ?_
            refine mz_WP.getf rfl (h2) rfl (Nat.le_of_ble_eq_true rfl) ?_
            refine mz_WP.run 80 rfl ?_
            refine mz_WP.cv rfl rfl (Nat.le_of_ble_eq_true rfl) rfl (F _ _ rfl) rfl (s_tapsOf F (by omega) ?_)
            refine mz_WP.run 80 rfl ?_
            refine mz_WP.cs rfl (by decide) rfl (Nat.le_of_ble_eq_true rfl) rfl (s_momentOf ?_)
            refine mz_WP.cv rfl rfl (Nat.le_of_ble_eq_true rfl) rfl (T.2.1) rfl (r_find T Wc (fun j hj => (r j hj).1) (fun p hp => ?_) (fun hp => ?_))
            · have hp : fnd (gm g c) (momG day minute) k = some p := hp
              rw [hp] at H
              have := (fnd_lt hp).1
              have := Wc.1
              refine mz_WP.ifc rfl (fun c5 => ?_) (fun c5 => ?_)
              · exact absurd c5 (nI_pos (by omega))
              · refine mz_WP.run 80 rfl ?_
                exact mz_WP.ret rfl rfl H
            · have hp : fnd (gm g c) (momG day minute) k = none := hp
              rw [hp] at H
              dsimp only at H
              refine mz_WP.ifc rfl (fun c5 => ?_) (fun c5 => ?_)
              · refine mz_WP.run 80 rfl ?_
                refine mz_WP.cv rfl rfl (Nat.le_of_ble_eq_true rfl) rfl (T.2.1) rfl (r_tsize T ?_)
                refine mz_WP.run 80 rfl ?_
                have := Wc.1
                refine mz_WP.icmp rfl (fun c6 => ?_) (fun c6 => ?_)
                · have hk : k < 48 := (nI_ltI (by omega) (by decide)).mp c6
                  rw [if_pos hk] at H
                  refine mz_WP.run 80 rfl ?_
                  exact mz_WP.ret rfl rfl H
                · have hk : ¬ k < 48 := fun z => c6 (nI_lt z (by decide))
                  rw [if_neg hk] at H
                  refine mz_WP.run 80 rfl ?_
                  refine mz_WP.run 80 rfl ?_
                  exact mz_WP.ret rfl rfl H
              · exact absurd (show U1 < 0 by decide) c5
          · exact o2 (Or.inr (Or.inr (bI_f (Classical.byContradiction c4))))
    · exact o1 (Or.inr (bI_f (Classical.byContradiction c1)))
theorem tapRef_ok {card day minute station way : Int32} (hr : tapRef g card day minute station way = 0) : ∃ c d m st wy, c < 4 ∧ card = nI c ∧ d ≤ 27 ∧ day = nI d ∧ m ≤ 1439 ∧ minute = nI m ∧ st < 8 ∧ station = nI st ∧ wy < 2 ∧ way = nI wy ∧ fnd (gm g c) (nI (d * 1440 + m)) (kOf g c) = none ∧ kOf g c < 48 := by
  unfold tapRef at hr
  split at hr
  · exact absurd hr (by decide)
  · rename_i h1
    split at hr
    · exact absurd hr (by decide)
    · rename_i h2
      obtain ⟨c, -, hc, ec⟩ := inB_of (by decide) (by decide) (tF (fun z => h1 (Or.inl z)))
      obtain ⟨st, -, hs, es⟩ := inB_of (by decide) (by decide) (tF (fun z => h1 (Or.inr z)))
      obtain ⟨d, -, hd, ed⟩ := inB_of (by decide) (by decide) (tF (fun z => h2 (Or.inl z)))
      obtain ⟨m, -, hm, em⟩ := inB_of (by decide) (by decide) (tF (fun z => h2 (Or.inr (Or.inl z))))
      obtain ⟨wy, -, hw, ew⟩ := inB_of (by decide) (by decide) (tF (fun z => h2 (Or.inr (Or.inr z))))
      rw [ec, ed, em, (momG_n hd hm).1, nI_clamp (by omega)] at hr
      split at hr
      · exact absurd hr (by decide)
      · rename_i hf
        split at hr
        · rename_i hk
          exact ⟨c, d, m, st, wy, by omega, ec, hd, ed, hm, em, by omega, es, by omega, ew, hf, hk⟩
        · exact absurd hr (by decide)
theorem insf_c {f f' : Nat → Int32} {k p : Nat} {x : Int32} (hf : ∀ j, j < k → f j = f' j) (hp : p ≤ k) {j : Nat} (hj : j < k + 1) : insf f k p x j = insf f' k p x j := by
  unfold insf
  split
  · rfl
  · split
    · exact hf (j - 1) (by omega)
    · exact hf j (by omega)
theorem rmf_c {f f' : Nat → Int32} {k p : Nat} (hf : ∀ j, j < k → f j = f' j) {j : Nat} (hj : j < k - 1) : rmf f k p j = rmf f' k p j := by
  unfold rmf
  split
  · exact hf (j + 1) (by omega)
  · exact hf j (by omega)
/-- what insertion makes of the three rows, beside addG -/
theorem add_rows {c k : Nat} {x st wy p : Nat} {m s w : Nat → Int32} (hc : c < 4) (Wc : WFc g c k) (hk : k < 48) (hs : st < 8) (hw : wy < 2) (r : ∀ j, j < k → m j = gm g c j ∧ s j = gS g c j ∧ w j = gY g c j) (hp : p ≤ k) (hip : p = ipos (gm g c) (nI x) k) : ∀ j, j < k + 1 → insf m k p (nI x) j = gm (addG g c (nI x) (nI (2 * st + wy))) c j ∧ insf s k p (nI st) j = gS (addG g c (nI x) (nI (2 * st + wy))) c j ∧ insf w k p (nI wy) j = gY (addG g c (nI x) (nI (2 * st + wy))) c j := by
  intro j hj
  have e1 : gm (addG g c (nI x) (nI (2 * st + wy))) c j = insf (gm g c) k p (nI x) j := by
    unfold addG
    rw [setG_m hc (by omega), Wc.k, ← hip]
  have e2 : gw (addG g c (nI x) (nI (2 * st + wy))) c j = insf (gw g c) k p (nI (2 * st + wy)) j := by
    unfold addG
    rw [setG_w hc (by omega), Wc.k, ← hip]
  have e3 : gS (addG g c (nI x) (nI (2 * st + wy))) c j = insf (gS g c) k p (nI st) j := by
    show gw (addG g c (nI x) (nI (2 * st + wy))) c j / nI 2 = _
    rw [e2]
    unfold insf
    split
    · exact (gsy hs hw).1
    · split <;> rfl
  have e4 : gY (addG g c (nI x) (nI (2 * st + wy))) c j = insf (gY g c) k p (nI wy) j := by
    show gw (addG g c (nI x) (nI (2 * st + wy))) c j - gw (addG g c (nI x) (nI (2 * st + wy))) c j / nI 2 * nI 2 = _
    rw [e2]
    unfold insf
    split
    · exact (gsy hs hw).2
    · split <;> rfl
  rw [e1, e3, e4]
  exact ⟨insf_c (fun j hj => (r j hj).1) hp hj, insf_c (fun j hj => (r j hj).2.1) hp hj, insf_c (fun j hj => (r j hj).2.2) hp hj⟩
theorem s_tap {card day minute station way : Int32} (C : CI h g kp gi) (H : ∀ h', CI h' (tapG g card day minute station way) kp gi → (∀ b, b < 2 ∨ 45 < b → h' b = h b) → Q (some (.int (tapR g card day minute station way))) n h') : mz_wc (e + 7) 84 [.ref 2, .int card, .int day, .int minute, .int station, .int way] n h Q := by
  unfold tapR tapG at H
  refine mz_wc.enter (code := co_X10_tap) (idx := 84) rfl rfl (Nat.le_of_ble_eq_true rfl) rfl rfl ?_
  refine mz_WP.run 80 rfl ?_
  refine mz_WP.cv rfl rfl (Nat.le_of_ble_eq_true rfl) rfl (C.2.2.1) rfl (s_refTap C ?_)
  refine mz_WP.run 80 rfl ?_
  refine mz_WP.ifc rfl (fun c0 => ?_) (fun c0 => ?_)
  · have c0 : tapRef g card day minute station way = 0 := c0
    rw [if_pos c0, if_pos c0] at H
    obtain ⟨c, d, m, st, wy, hc, rfl, hd, rfl, hm, rfl, hs, rfl, hw, rfl, hf, hk⟩ := tapRef_ok c0
    rw [nI_clamp (by omega), (momG_n hd hm).1, pk_mul, nI_add] at H
    obtain ⟨F, B, h2, W, R, -⟩ := id C
    obtain ⟨k, Wc, m1, s1, w1, T, r⟩ := R.1 c hc
    rw [Wc.k] at H hf hk
    refine mz_WP.run 80 rfl ?_
    refine mz_WP.getf rfl (h2) rfl (Nat.le_of_ble_eq_true rfl) ?_
    refine mz_WP.run 80 rfl ?_
    refine mz_WP.cv rfl rfl (Nat.le_of_ble_eq_true rfl) rfl (F _ _ rfl) rfl (s_tapsOf F hc ?_)
    refine mz_WP.run 80 rfl ?_
    refine mz_WP.cs rfl (by decide) rfl (Nat.le_of_ble_eq_true rfl) rfl (s_momentOf ?_)
    rw [pk_mul, nI_add]
    refine mz_WP.run 80 rfl ?_
    have ins : mz_wc (e + 6) 66 [.ref (3 + 1 + 7 * c), .int (nI (d * 1440 + m)), .int (nI st), .int (nI wy)] n (tpH h (3 + 1 + 7 * c) (nI k) m1 s1 w1) (fun v n' h' => mz_WP (mz_wc (e + 6)) (e + 6) 1 co_X10_tap Q 45 [some (.ref 2), some (.int (nI c)), some (.int (nI d)), some (.int (nI m)), some (.int (nI st)), some (.int (nI wy)), some (.int (tapRef g (nI c) (nI d) (nI m) (nI st) (nI wy))), some (.ref (3 + 1 + 7 * c))] (v.toList ++ []) n' h' 0 0) := by
      refine s_tins T.1 hk (fun p hp hgt hle => ?_)
      have hip : p = ipos (gm g c) (nI (d * 1440 + m)) k := ipos_eq hp (fun j a b => by rw [← (r j b).1]; exact hgt j a b) (by
        rcases hle with z | z
        · exact Or.inl z
        · by_cases e0 : p = 0
          · exact Or.inl e0
          · exact Or.inr (by rw [← (r (p - 1) (by omega)).1]; exact z))
      have CI' : CI (tpH h (3 + 1 + 7 * c) (nI (k + 1)) (insf m1 k p (nI (d * 1440 + m))) (insf s1 k p (nI st)) (insf w1 k p (nI wy))) (addG g c (nI (d * 1440 + m)) (nI (2 * st + wy))) kp gi := C.card hc T.1 (Wc.add hc hk (momG_n hd hm).2 hs hw (fnd_no hf)) (add_rows hc Wc hk hs hw r hp hip)
      refine mz_WP.run 80 rfl ?_
      refine mz_WP.cv rfl rfl (Nat.le_of_ble_eq_true rfl) rfl (tp_o) rfl (s_tsize ?_)
      exact mz_WP.ret rfl rfl (H _ CI' (fun b hb => tp_n (by omega) (by omega) (by omega) (by omega)))
    rw [T.eq] at ins
    refine mz_WP.cv rfl rfl (Nat.le_of_ble_eq_true rfl) rfl (T.2.1) rfl (ins)
  · have c0 : ¬ tapRef g card day minute station way = 0 := c0
    rw [if_neg c0, if_neg c0] at H
    refine mz_WP.run 80 rfl ?_
    exact mz_WP.ret rfl rfl (H h C (fun _ _ => rfl))
theorem s_untap {card day minute : Int32} (C : CI h g kp gi) (H : ∀ h', CI h' (untapG g card day minute) kp gi → (∀ b, b < 2 ∨ 45 < b → h' b = h b) → Q (some (.int (untapR g card day minute))) n h') : mz_wc (e + 7) 85 [.ref 2, .int card, .int day, .int minute] n h Q := by
  unfold untapR untapG at H
  refine mz_wc.enter (code := co_X10_untap) (idx := 85) rfl rfl (Nat.le_of_ble_eq_true rfl) rfl rfl ?_
  refine mz_WP.run 80 rfl ?_
  refine mz_WP.cs rfl (by decide) rfl (Nat.le_of_ble_eq_true rfl) rfl (s_isCard ?_)
  refine mz_WP.ifc rfl (fun c0 => ?_) (fun c0 => ?_)
  · have c0 := bI_t c0
    have n0 : ¬ inB card (nI 0) (nI 3) = false := by rw [c0]; decide
    rw [if_neg n0, if_neg n0] at H
    have o2 : (inB day (nI 0) (nI 27) = false ∨ inB minute (nI 0) (nI 1439) = false) → mz_WP (mz_wc (e + 6)) (e + 6) 1 co_X10_untap Q 23 [some (.ref 2), some (.int card), some (.int day), some (.int minute), none, none] [] n h 0 0 := by
      intro ho
      rw [if_pos ho, if_pos ho] at H
      refine mz_WP.run 80 rfl ?_
      exact mz_WP.ret rfl rfl (H h C (fun _ _ => rfl))
    refine mz_WP.run 80 rfl ?_
    refine mz_WP.cs rfl (by decide) rfl (Nat.le_of_ble_eq_true rfl) rfl (s_isDay ?_)
    refine mz_WP.ifc rfl (fun c1 => ?_) (fun c1 => ?_)
    · exact o2 (Or.inl (bI_f c1))
    · have c1 := bI_t c1
      refine mz_WP.run 80 rfl ?_
      refine mz_WP.cs rfl (by decide) rfl (Nat.le_of_ble_eq_true rfl) rfl (s_isMinute ?_)
      refine mz_WP.ifc rfl (fun c2 => ?_) (fun c2 => ?_)
      · have c2 := bI_t c2
        have n2 : ¬ (inB day (nI 0) (nI 27) = false ∨ inB minute (nI 0) (nI 1439) = false) := fun z => z.elim (fun z => by rw [c1] at z; exact absurd z (by decide)) (fun z => by rw [c2] at z; exact absurd z (by decide))
        rw [if_neg n2, if_neg n2] at H
        obtain ⟨c, -, hc, rfl⟩ := inB_of (by decide) (by decide) c0
        obtain ⟨F, B, h2, W, R, -⟩ := id C
        obtain ⟨k, Wc, m1, s1, w1, T, r⟩ := R.1 c (by omega)
        unfold untapF at H
        rw [nI_clamp (by omega), Wc.k] at H
        have hk := Wc.1
        refine mz_WP.run 80 rfl ?_
        refine mz_WP.getf rfl (h2) rfl (Nat.le_of_ble_eq_true rfl) ?_
        refine mz_WP.run 80 rfl ?_
        refine mz_WP.cv rfl rfl (Nat.le_of_ble_eq_true rfl) rfl (F _ _ rfl) rfl (s_tapsOf F (by omega) ?_)
        refine mz_WP.run 80 rfl ?_
        refine mz_WP.cs rfl (by decide) rfl (Nat.le_of_ble_eq_true rfl) rfl (s_momentOf ?_)
        refine mz_WP.cv rfl rfl (Nat.le_of_ble_eq_true rfl) rfl (T.2.1) rfl (r_find T Wc (fun j hj => (r j hj).1) (fun p hp => ?_) (fun hp => ?_))
        · have hp : fnd (gm g c) (momG day minute) k = some p := hp
          rw [hp] at H
          dsimp only at H
          have hpk := (fnd_lt hp).1
          refine mz_WP.run 80 rfl ?_
          refine mz_WP.ifc rfl (fun c5 => ?_) (fun c5 => ?_)
          · refine mz_WP.run 80 rfl ?_
            have rem : mz_wc (e + 6) 67 [.ref (3 + 1 + 7 * c), .int (nI p)] n (tpH h (3 + 1 + 7 * c) (nI k) m1 s1 w1) (fun v n' h' => mz_WP (mz_wc (e + 6)) (e + 6) 1 co_X10_untap Q 63 [some (.ref 2), some (.int (nI c)), some (.int day), some (.int minute), some (.ref (3 + 1 + 7 * c)), some (.int (nI p))] (v.toList ++ []) n' h' 0 0) := by
              refine s_trem T.1 hk hpk ?_
              have hr : ∀ j, j < k - 1 → rmf m1 k p j = gm (rmG g c p) c j ∧ rmf s1 k p j = gS (rmG g c p) c j ∧ rmf w1 k p j = gY (rmG g c p) c j := by
                intro j hj
                have e1 : gm (rmG g c p) c j = rmf (gm g c) k p j := by
                  unfold rmG
                  rw [setG_m (by omega) (by omega), Wc.k]
                have e2 : gw (rmG g c p) c j = rmf (gw g c) k p j := by
                  unfold rmG
                  rw [setG_w (by omega) (by omega), Wc.k]
                have e3 : gS (rmG g c p) c j = rmf (gS g c) k p j := by
                  show gw (rmG g c p) c j / nI 2 = _
                  rw [e2]
                  unfold rmf
                  split <;> rfl
                have e4 : gY (rmG g c p) c j = rmf (gY g c) k p j := by
                  show gw (rmG g c p) c j - gw (rmG g c p) c j / nI 2 * nI 2 = _
                  rw [e2]
                  unfold rmf
                  split <;> rfl
                rw [e1, e3, e4]
                exact ⟨rmf_c (fun j hj => (r j hj).1) hj, rmf_c (fun j hj => (r j hj).2.1) hj, rmf_c (fun j hj => (r j hj).2.2) hj⟩
              have CI' : CI (tpH h (3 + 1 + 7 * c) (nI (k - 1)) (rmf m1 k p) (rmf s1 k p) (rmf w1 k p)) (rmG g c p) kp gi := C.card (by omega) T.1 (Wc.rm (by omega) hpk) hr
              refine mz_WP.run 80 rfl ?_
              refine mz_WP.cv rfl rfl (Nat.le_of_ble_eq_true rfl) rfl (tp_o) rfl (s_tsize ?_)
              exact mz_WP.ret rfl rfl (H _ CI' (fun b hb => tp_n (by omega) (by omega) (by omega) (by omega)))
            rw [T.eq] at rem
            refine mz_WP.cv rfl rfl (Nat.le_of_ble_eq_true rfl) rfl (T.2.1) rfl (rem)
          · exact absurd (nI_pos' (by omega)) c5
        · have hp : fnd (gm g c) (momG day minute) k = none := hp
          rw [hp] at H
          dsimp only at H
          refine mz_WP.run 80 rfl ?_
          refine mz_WP.ifc rfl (fun c5 => ?_) (fun c5 => ?_)
          · exact absurd c5 (show ¬ 0 ≤ U1 by decide)
          · refine mz_WP.run 80 rfl ?_
            exact mz_WP.ret rfl rfl (H h C (fun _ _ => rfl))
      · exact o2 (Or.inr (bI_f (Classical.byContradiction c2)))
  · have c0 := bI_f (Classical.byContradiction c0)
    rw [if_pos c0, if_pos c0] at H
    refine mz_WP.run 80 rfl ?_
    exact mz_WP.ret rfl rfl (H h C (fun _ _ => rfl))
theorem s_told {card i what : Int32} (C : CI h g kp gi) (H : Q (some (.int (toldR g card i what))) n h) : mz_wc (e + 7) 86 [.ref 2, .int card, .int i, .int what] n h Q := by
  unfold toldR at H
  refine mz_wc.enter (code := co_X10_told) (idx := 86) rfl rfl (Nat.le_of_ble_eq_true rfl) rfl rfl ?_
  refine mz_WP.run 80 rfl ?_
  refine mz_WP.cs rfl (by decide) rfl (Nat.le_of_ble_eq_true rfl) rfl (s_isCard ?_)
  refine mz_WP.ifc rfl (fun c0 => ?_) (fun c0 => ?_)
  · have c0 := bI_t c0
    rw [if_neg (by rw [c0]; decide)] at H
    refine mz_WP.run 80 rfl ?_
    refine mz_WP.cs rfl (by decide) rfl (Nat.le_of_ble_eq_true rfl) rfl (s_within ?_)
    refine mz_WP.ifc rfl (fun c1 => ?_) (fun c1 => ?_)
    · have c1 := bI_t c1
      rw [if_neg (by rw [c1]; decide)] at H
      obtain ⟨c, -, hc, rfl⟩ := inB_of (by decide) (by decide) c0
      obtain ⟨q, -, hq, rfl⟩ := inB_of (by decide) (by decide) c1
      obtain ⟨F, B, h2, W, R, -⟩ := id C
      obtain ⟨k, Wc, m1, s1, w1, T, r⟩ := R.1 c (by omega)
      have hk := Wc.1
      rw [nI_clamp (by omega), Wc.2.1] at H
      have none' : (i < 0 ∨ nI k ≤ i) → mz_WP (mz_wc (e + 6)) (e + 6) 1 co_X10_told Q 44 [some (.ref 2), some (.int (nI c)), some (.int i), some (.int (nI q)), some (.ref (3 + 1 + 7 * c))] [] n h 0 0 := by
        intro ho
        rw [if_pos ho] at H
        refine mz_WP.run 80 rfl ?_
        exact mz_WP.ret rfl rfl H
      refine mz_WP.run 80 rfl ?_
      refine mz_WP.getf rfl (h2) rfl (Nat.le_of_ble_eq_true rfl) ?_
      refine mz_WP.run 80 rfl ?_
      refine mz_WP.cv rfl rfl (Nat.le_of_ble_eq_true rfl) rfl (F _ _ rfl) rfl (s_tapsOf F (by omega) ?_)
      refine mz_WP.run 80 rfl ?_
      refine mz_WP.ifc rfl (fun c2 => ?_) (fun c2 => ?_)
      · exact none' (Or.inl c2)
      · have c2 : ¬ i < 0 := c2
        refine mz_WP.run 80 rfl ?_
        refine mz_WP.cv rfl rfl (Nat.le_of_ble_eq_true rfl) rfl (T.2.1) rfl (r_tsize T ?_)
        refine mz_WP.icmp rfl (fun c3 => ?_) (fun c3 => ?_)
        · have c3 : i < nI k := c3
          obtain ⟨j, hj, rfl⟩ := nI_of c2
          have hjk := (nI_ltI hj (by omega)).mp c3
          rw [if_neg (fun z => z.elim c2 (fun z => Int32.not_le.mpr c3 z)), nI_clamp hj] at H
          obtain ⟨r1, r2, r3⟩ := r j hjk
          unfold toldW at H
          refine mz_WP.run 80 rfl ?_
          rcases (show q = 0 ∨ q = 1 ∨ q = 2 ∨ q = 3 by omega) with rfl | rfl | rfl | rfl
          · refine mz_WP.tin (off := 28) rfl (by decide) (by decide) ?_
            refine mz_WP.run 80 rfl ?_
            refine mz_WP.cv rfl rfl (Nat.le_of_ble_eq_true rfl) rfl (T.2.1) rfl (r_tmom T ?_)
            rw [rat_in (by omega) (by decide), r1]
            refine mz_WP.cs rfl (by decide) rfl (Nat.le_of_ble_eq_true rfl) rfl (s_dayOf ?_)
            exact mz_WP.ret rfl rfl H
          · refine mz_WP.tin (off := 38) rfl (by decide) (by decide) ?_
            refine mz_WP.run 80 rfl ?_
            refine mz_WP.cv rfl rfl (Nat.le_of_ble_eq_true rfl) rfl (T.2.1) rfl (r_tmom T ?_)
            rw [rat_in (by omega) (by decide), r1]
            refine mz_WP.cs rfl (by decide) rfl (Nat.le_of_ble_eq_true rfl) rfl (s_minuteOf ?_)
            exact mz_WP.ret rfl rfl H
          · refine mz_WP.tin (off := 48) rfl (by decide) (by decide) ?_
            refine mz_WP.run 80 rfl ?_
            refine mz_WP.cv rfl rfl (Nat.le_of_ble_eq_true rfl) rfl (T.2.1) rfl (r_tsta T ?_)
            rw [rat_in (by omega) (by decide), r2]
            exact mz_WP.ret rfl rfl H
          · refine mz_WP.tout rfl (by decide) ?_
            refine mz_WP.run 80 rfl ?_
            refine mz_WP.cv rfl rfl (Nat.le_of_ble_eq_true rfl) rfl (T.2.1) rfl (r_tway T ?_)
            rw [rat_in (by omega) (by decide), r3]
            exact mz_WP.ret rfl rfl H
        · exact none' (Or.inr (Int32.not_lt.mp c3))
    · have c1 := bI_f (Classical.byContradiction c1)
      rw [if_pos c1] at H
      refine mz_WP.run 80 rfl ?_
      exact mz_WP.ret rfl rfl H
  · have c0 := bI_f (Classical.byContradiction c0)
    rw [if_pos c0] at H
    refine mz_WP.run 80 rfl ?_
    exact mz_WP.ret rfl rfl H
end TT
