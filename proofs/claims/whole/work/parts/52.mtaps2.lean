/-! the reference: refusal, add, remove, tap, untap, told -/
section MT2
variable {e n : Nat} {h : mz_H} {Q : mz_Q} {g : Nat → Int32} {r j : Int32}
theorem mom_eq {day minute : Int32} : nI 1440 * day + minute = momG day minute := by
  unfold momG
  rw [Int32.mul_comm]
theorem m_refusal {card day minute station way : Int32} (W : WF g) (ho : h 186 = mo r j) (hg : h 187 = .inl (0, 423, g)) (H : Q (some (.int (tapRef g card day minute station way))) n h) : mz_wc (e + 3) 128 [.ref 186, .int card, .int day, .int minute, .int station, .int way] n h Q := by
  refine mz_wc.enter (code := co_X11_refusal) (idx := 128) rfl rfl (Nat.le_of_ble_eq_true rfl) rfl rfl ?_
  refine mz_WP.run 80 rfl ?_
  have o1 : (inB card (nI 0) (nI 3) = false ∨ inB station (nI 0) (nI 7) = false) → mz_WP (mz_wc (e + 2)) (e + 2) 1 co_X11_refusal Q 15 [some (.ref 186), some (.int card), some (.int day), some (.int minute), some (.int station), some (.int way)] [] n h 0 0 := by
    intro hh
    rw [tapRef, if_pos hh] at H
    refine mz_WP.run 80 rfl ?_
    exact mz_WP.ret rfl rfl H
  refine mz_WP.cs rfl (by decide) rfl (Nat.le_of_ble_eq_true rfl) rfl (m_isCard ?_)
  refine mz_WP.ifc rfl (fun c1 => ?_) (fun c1 => ?_)
  · exact o1 (Or.inl (bI_f c1))
  have c1 := bI_t c1
  refine mz_WP.run 80 rfl ?_
  refine mz_WP.cs rfl (by decide) rfl (Nat.le_of_ble_eq_true rfl) rfl (m_isStation ?_)
  refine mz_WP.ifc rfl (fun c2 => ?_) (fun c2 => ?_)
  rotate_left
  · exact o1 (Or.inr (bI_f (Classical.byContradiction c2)))
  have c2 := bI_t c2
  have n1 : ¬ (inB card (nI 0) (nI 3) = false ∨ inB station (nI 0) (nI 7) = false) := by
    rw [c1, c2]
    decide
  rw [tapRef, if_neg n1] at H
  have o2 : (inB day (nI 0) (nI 27) = false ∨ inB minute (nI 0) (nI 1439) = false ∨ inB way (nI 0) (nI 1) = false) → mz_WP (mz_wc (e + 2)) (e + 2) 1 co_X11_refusal Q 45 [some (.ref 186), some (.int card), some (.int day), some (.int minute), some (.int station), some (.int way)] [] n h 0 0 := by
    intro hh
    rw [if_pos hh] at H
    refine mz_WP.run 80 rfl ?_
    exact mz_WP.ret rfl rfl H
  refine mz_WP.run 80 rfl ?_
  refine mz_WP.cs rfl (by decide) rfl (Nat.le_of_ble_eq_true rfl) rfl (m_isDay ?_)
  refine mz_WP.ifc rfl (fun c3 => ?_) (fun c3 => ?_)
  · exact o2 (Or.inl (bI_f c3))
  have c3 := bI_t c3
  refine mz_WP.run 80 rfl ?_
  refine mz_WP.cs rfl (by decide) rfl (Nat.le_of_ble_eq_true rfl) rfl (m_in ?_)
  refine mz_WP.ifc rfl (fun c4 => ?_) (fun c4 => ?_)
  · exact o2 (Or.inr (Or.inl (bI_f c4)))
  have c4 := bI_t c4
  refine mz_WP.run 80 rfl ?_
  refine mz_WP.cs rfl (by decide) rfl (Nat.le_of_ble_eq_true rfl) rfl (m_in ?_)
  refine mz_WP.ifc rfl (fun c5 => ?_) (fun c5 => ?_)
  rotate_left
  · exact o2 (Or.inr (Or.inr (bI_f (Classical.byContradiction c5))))
  have c5 := bI_t c5
  have n2 : ¬ (inB day (nI 0) (nI 27) = false ∨ inB minute (nI 0) (nI 1439) = false ∨ inB way (nI 0) (nI 1) = false) := by
    rw [c3, c4, c5]
    decide
  rw [if_neg n2] at H
  obtain ⟨c, -, hc, rfl⟩ := inB_of (by decide) (by omega) c1
  have hc : c < 4 := by omega
  rw [nI_clamp (by omega)] at H
  obtain ⟨k, Wc⟩ := W.1 c hc
  rw [Wc.k] at H
  have hk := Wc.1
  refine mz_WP.run 80 rfl ?_
  rw [mom_eq]
  refine mz_WP.cv rfl rfl (Nat.le_of_ble_eq_true rfl) rfl (ho) rfl (m_tapAt ho hg hc hk Wc.2.1 ?_)
  refine mz_WP.ifc rfl (fun c6 => ?_) (fun c6 => ?_)
  · have hn := (fndI_neg hk).mp c6
    rw [hn] at H
    refine mz_WP.run 80 rfl ?_
    refine mz_WP.getf rfl (ho) rfl (Nat.le_of_ble_eq_true rfl) ?_
    refine mz_WP.run 80 rfl ?_
    refine mz_WP.alN rfl hg (nI_add _ _) (by omega) (by decide) ?_
    rw [Wc.2.1]
    refine mz_WP.run 80 rfl ?_
    refine mz_WP.icmp rfl (fun c7 => ?_) (fun c7 => ?_)
    · have c7 : ¬ nI k = nI 48 := c7
      have : k < 48 := by
        rcases Nat.lt_or_ge k 48 with z | z
        · exact z
        · exact absurd (by rw [show k = 48 by omega]) c7
      have H : Q (some (.int (if k < 48 then nI 0 else U4))) n h := H
      rw [if_pos this] at H
      refine mz_WP.run 80 rfl ?_
      exact mz_WP.ret rfl rfl H
    · have c7 : nI k = nI 48 := Classical.byContradiction c7
      have : k = 48 := (nI_eq (by omega) (by omega)).mp c7
      have H : Q (some (.int (if k < 48 then nI 0 else U4))) n h := H
      rw [if_neg (by omega)] at H
      refine mz_WP.run 80 rfl ?_
      refine mz_WP.run 80 rfl ?_
      exact mz_WP.ret rfl rfl H
  · have hn : ∃ p, fnd (gm g c) (momG day minute) k = some p := by
      cases hf : fnd (gm g c) (momG day minute) k with
      | none => exact absurd ((fndI_neg hk).mpr hf) c6
      | some p => exact ⟨p, rfl⟩
    obtain ⟨p, hp⟩ := hn
    rw [hp] at H
    refine mz_WP.run 80 rfl ?_
    exact mz_WP.ret rfl rfl H
theorem setG_um {c i : Nat} {z v : Int32} {m w : Nat → Int32} (hc : c < 4) (hi : i < 48) : upd (setG g c z m w) (48 * c + i) v = setG g c z (upd m i v) w := by
  funext b
  unfold upd setG
  by_cases hb : b = 48 * c + i
  · subst hb
    rw [if_pos rfl, if_neg (by omega), if_pos (by omega)]
    exact (if_pos (by omega)).symm
  · rw [if_neg hb]
    by_cases h1 : b = 384 + c
    · rw [if_pos h1, if_pos h1]
    · rw [if_neg h1, if_neg h1]
      by_cases h2 : 48 * c ≤ b ∧ b < 48 * c + 48
      · rw [if_pos h2, if_pos h2]
        exact (if_neg (by omega)).symm
      · rw [if_neg h2, if_neg h2]
theorem setG_uw {c i : Nat} {z v : Int32} {m w : Nat → Int32} (hc : c < 4) (hi : i < 48) : upd (setG g c z m w) (192 + 48 * c + i) v = setG g c z m (upd w i v) := by
  funext b
  unfold upd setG
  by_cases hb : b = 192 + 48 * c + i
  · subst hb
    rw [if_pos rfl, if_neg (by omega), if_neg (by omega), if_pos (by omega)]
    exact (if_pos (by omega)).symm
  · rw [if_neg hb]
    by_cases h1 : b = 384 + c
    · rw [if_pos h1, if_pos h1]
    · rw [if_neg h1, if_neg h1]
      by_cases h2 : 48 * c ≤ b ∧ b < 48 * c + 48
      · rw [if_pos h2, if_pos h2]
      · rw [if_neg h2, if_neg h2]
        by_cases h3 : 192 + 48 * c ≤ b ∧ b < 192 + 48 * c + 48
        · rw [if_pos h3, if_pos h3]
          exact (if_neg (by omega)).symm
        · rw [if_neg h3, if_neg h3]
theorem setG_uz {c : Nat} {v : Int32} (hc : c < 4) : upd g (384 + c) v = setG g c v (gm g c) (gw g c) := by
  funext b
  unfold upd setG gm gw
  by_cases h1 : b = 384 + c
  · rw [if_pos h1, if_pos h1]
  · rw [if_neg h1, if_neg h1]
    by_cases h2 : 48 * c ≤ b ∧ b < 48 * c + 48
    · rw [if_pos h2, show 48 * c + (b - 48 * c) = b by omega]
    · rw [if_neg h2]
      by_cases h3 : 192 + 48 * c ≤ b ∧ b < 192 + 48 * c + 48
      · rw [if_pos h3, show 192 + 48 * c + (b - (192 + 48 * c)) = b by omega]
      · rw [if_neg h3]
theorem setG_m1 {c i : Nat} {z : Int32} {m w : Nat → Int32} (hc : c < 4) (hi : i < 48) : setG g c z m w (48 * c + i) = m i := setG_m hc hi
theorem setG_w1 {c i : Nat} {z : Int32} {m w : Nat → Int32} (hc : c < 4) (hi : i < 48) : setG g c z m w (192 + 48 * c + i) = w i := setG_w hc hi
theorem ix0p {c i : Nat} : nI 0 + nI 48 * nI c + nI (i + 1) - nI 1 = nI (48 * c + i) := by
  rw [ix0, pk_sub (by omega)]
  congr 1
theorem ix192p {c i : Nat} : nI 192 + nI 48 * nI c + nI (i + 1) - nI 1 = nI (192 + 48 * c + i) := by
  rw [ix192, pk_sub (by omega)]
  congr 1
theorem ix0s {c i : Nat} : nI 0 + nI 48 * nI c + nI i + nI 1 = nI (48 * c + (i + 1)) := by
  rw [ix0, nI_add]
  congr 1
theorem ix192s {c i : Nat} : nI 192 + nI 48 * nI c + nI i + nI 1 = nI (192 + 48 * c + (i + 1)) := by
  rw [ix192, nI_add]
  congr 1
theorem m_add {c k : Nat} {x y : Int32} (ho : h 186 = mo r j) (hg : h 187 = .inl (0, 423, g)) (hc : c < 4) (hk : k < 48) (hgk : g (384 + c) = nI k) (H : Q none n (mz_up h 187 (.inl (0, 423, addG g c x y)))) : mz_wc (e + 2) 129 [.ref 186, .int (nI c), .int x, .int y] n h Q := by
  have hkO : kOf g c = k := by
    unfold kOf
    rw [hgk, nI_clamp (by omega)]
  have ho' : ∀ {z : mz_C}, mz_up h 187 z 186 = mo r j := fun {z} => (mz_up_n (by omega)).trans ho
  refine mz_wc.enter (code := co_X11_add) (idx := 129) rfl rfl (Nat.le_of_ble_eq_true rfl) rfl rfl ?_
  refine mz_WP.run 80 rfl ?_
  refine mz_WP.getf rfl (ho) rfl (Nat.le_of_ble_eq_true rfl) ?_
  refine mz_WP.run 80 rfl ?_
  refine mz_WP.alN rfl hg (nI_add _ _) (by omega) (by decide) ?_
  rw [hgk]
  refine mz_WP.run 80 rfl ?_
  refine mz_WP.getf rfl (ho) rfl (Nat.le_of_ble_eq_true rfl) ?_
  refine mz_WP.run 80 rfl ?_
  refine mz_WP.alN rfl hg (nI_add _ _) (by omega) (by decide) ?_
  rw [hgk]
  refine mz_WP.run 80 rfl ?_
  refine mz_WP.asN rfl hg (by omega) (nI_add _ _) (by omega) (by decide) ?_
  rw [nI_add, setG_uz hc]
  have out : ∀ p, p ≤ k → p = ipos (gm g c) x k → mz_WP (mz_wc (e + 1)) (e + 1) 0 co_X11_add Q 114 [some (.ref 186), some (.int (nI c)), some (.int x), some (.int y), some (.int (nI p))] [] n (mz_up h 187 (.inl (0, 423, setG g c (nI (k + 1)) (shf (gm g c) k p) (shf (gw g c) k p)))) 0 0 := by
    intro p hp he
    refine mz_WP.run 80 rfl ?_
    refine mz_WP.getf rfl (ho') rfl (Nat.le_of_ble_eq_true rfl) ?_
    refine mz_WP.run 80 rfl ?_
    refine mz_WP.asN rfl mz_up_s (by omega) ix0 (by omega) (by decide) ?_
    rw [mz_up_up, setG_um hc (by omega)]
    refine mz_WP.run 80 rfl ?_
    refine mz_WP.getf rfl (ho') rfl (Nat.le_of_ble_eq_true rfl) ?_
    refine mz_WP.run 80 rfl ?_
    refine mz_WP.asN rfl mz_up_s (by omega) ix192 (by omega) (by decide) ?_
    rw [mz_up_up, setG_uw hc (by omega), shf_e, shf_e]
    unfold addG at H
    rw [hkO, ← he] at H
    exact mz_WP.vret rfl rfl H
  have loop : ∀ p, p ≤ k → (∀ i, p ≤ i → i < k → x < gm g c i) → mz_WP (mz_wc (e + 1)) (e + 1) 0 co_X11_add Q 26 [some (.ref 186), some (.int (nI c)), some (.int x), some (.int y), some (.int (nI p))] [] n (mz_up h 187 (.inl (0, 423, setG g c (nI (k + 1)) (shf (gm g c) k p) (shf (gw g c) k p)))) 0 0 := by
    intro p
    induction p with
    | zero =>
      intro hp hlt
      refine mz_WP.run 80 rfl ?_
      refine mz_WP.ifc rfl (fun c0 => ?_) (fun c0 => ?_)
      · exact out _ hp (ipos_eq hp hlt (Or.inl rfl))
      · exact absurd (by decide : nI 0 ≤ 0) c0
    | succ p ih =>
      intro hp hlt
      refine mz_WP.run 80 rfl ?_
      refine mz_WP.ifc rfl (fun c0 => ?_) (fun c0 => ?_)
      · exact absurd c0 (nI_nle (by omega) (by omega))
      · refine mz_WP.run 80 rfl ?_
        rw [pk_sub (by omega), show p + 1 - 1 = p by omega]
        refine mz_WP.cv rfl rfl (Nat.le_of_ble_eq_true rfl) rfl (ho') rfl (m_when ho' mz_up_s hc (by omega) ?_)
        rw [setG_m hc (by omega), show shf (gm g c) k (p + 1) p = gm g c p from if_neg (by omega)]
        refine mz_WP.run 80 rfl ?_
        refine mz_WP.icmp rfl (fun c1 => ?_) (fun c1 => ?_)
        · exact out _ hp (ipos_eq hp hlt (Or.inr c1))
        · have c1 : x < gm g c p := Int32.not_le.mp c1
          refine mz_WP.run 80 rfl ?_
          refine mz_WP.getf rfl (ho') rfl (Nat.le_of_ble_eq_true rfl) ?_
          refine mz_WP.run 80 rfl ?_
          refine mz_WP.getf rfl (ho') rfl (Nat.le_of_ble_eq_true rfl) ?_
          refine mz_WP.run 80 rfl ?_
          refine mz_WP.alN rfl mz_up_s ix0p (by omega) (by decide) ?_
          rw [setG_m1 hc (by omega)]
          refine mz_WP.asN rfl mz_up_s (by omega) ix0 (by omega) (by decide) ?_
          rw [mz_up_up, setG_um hc (by omega), shf_s hp]
          refine mz_WP.run 80 rfl ?_
          refine mz_WP.getf rfl (ho') rfl (Nat.le_of_ble_eq_true rfl) ?_
          refine mz_WP.run 80 rfl ?_
          refine mz_WP.getf rfl (ho') rfl (Nat.le_of_ble_eq_true rfl) ?_
          refine mz_WP.run 80 rfl ?_
          refine mz_WP.alN rfl mz_up_s ix192p (by omega) (by decide) ?_
          rw [setG_w1 hc (by omega)]
          refine mz_WP.asN rfl mz_up_s (by omega) ix192 (by omega) (by decide) ?_
          rw [mz_up_up, setG_uw hc (by omega), shf_s hp]
          refine mz_WP.run 80 rfl ?_
          have nx := ih (by omega) (fun i h1 h2 => by
            by_cases hip : i = p
            · subst hip
              exact c1
            · exact hlt i (by omega) h2)
          have ep : nI (p + 1) + nI 4294967295 = nI p := by
            rw [show nI 4294967295 = -1 by decide]
            exact pk_m1 p
          rw [ep]
          exact nx
  have := loop k (Nat.le_refl k) (fun i h1 h2 => by omega)
  rw [shf_0, shf_0] at this
  exact this
theorem m_remove {c k p : Nat} (ho : h 186 = mo r j) (hg : h 187 = .inl (0, 423, g)) (hc : c < 4) (hk : k ≤ 48) (hp : p < k) (hgk : g (384 + c) = nI k) (H : Q none n (mz_up h 187 (.inl (0, 423, rmG g c p)))) : mz_wc (e + 1) 130 [.ref 186, .int (nI c), .int (nI p)] n h Q := by
  have hkO : kOf g c = k := by
    unfold kOf
    rw [hgk, nI_clamp (by omega)]
  have ho' : ∀ {z : mz_C}, mz_up h 187 z 186 = mo r j := fun {z} => (mz_up_n (by omega)).trans ho
  refine mz_wc.enter (code := co_X11_remove) (idx := 130) rfl rfl (Nat.le_of_ble_eq_true rfl) rfl rfl ?_
  refine mz_WP.run 80 rfl ?_
  refine mz_WP.getf rfl (ho) rfl (Nat.le_of_ble_eq_true rfl) ?_
  refine mz_WP.run 80 rfl ?_
  refine mz_WP.alN rfl hg (nI_add _ _) (by omega) (by decide) ?_
  rw [hgk]
  refine mz_WP.run 80 rfl ?_
  refine mz_WP.asN rfl hg (by omega) (nI_add _ _) (by omega) (by decide) ?_
  rw [pk_sub (by omega), setG_uz hc]
  refine mz_WP.run 2 rfl ?_
  have loop : ∀ q i, i + q = k - 1 → p ≤ i → mz_WP (mz_wc e) e 0 co_X11_remove Q 16 [some (.ref 186), some (.int (nI c)), some (.int (nI p)), some (.int (nI i))] [] n (mz_up h 187 (.inl (0, 423, setG g c (nI (k - 1)) (rmf (gm g c) (i + 1) p) (rmf (gw g c) (i + 1) p)))) 0 0 := by
    intro q
    induction q with
    | zero =>
      intro i hi hpi
      have hi : i = k - 1 := by omega
      subst hi
      refine mz_WP.run 80 rfl ?_
      refine mz_WP.getf rfl (ho') rfl (Nat.le_of_ble_eq_true rfl) ?_
      refine mz_WP.run 80 rfl ?_
      refine mz_WP.alN rfl mz_up_s (nI_add _ _) (by omega) (by decide) ?_
      rw [setG_k]
      refine mz_WP.icmp rfl (fun cc => ?_) (fun cc => ?_)
      · rw [show k - 1 + 1 = k by omega]
        unfold rmG at H
        rw [hkO] at H
        exact mz_WP.vret rfl rfl H
      · exact absurd (nI_le (Nat.le_refl _) (by omega)) cc
    | succ q ih =>
      intro i hi hpi
      refine mz_WP.run 80 rfl ?_
      refine mz_WP.getf rfl (ho') rfl (Nat.le_of_ble_eq_true rfl) ?_
      refine mz_WP.run 80 rfl ?_
      refine mz_WP.alN rfl mz_up_s (nI_add _ _) (by omega) (by decide) ?_
      rw [setG_k]
      refine mz_WP.icmp rfl (fun cc => ?_) (fun cc => ?_)
      · exact absurd cc (nI_ge (by omega) (by omega))
      · refine mz_WP.run 80 rfl ?_
        refine mz_WP.getf rfl (ho') rfl (Nat.le_of_ble_eq_true rfl) ?_
        refine mz_WP.run 80 rfl ?_
        refine mz_WP.getf rfl (ho') rfl (Nat.le_of_ble_eq_true rfl) ?_
        refine mz_WP.run 80 rfl ?_
        refine mz_WP.alN rfl mz_up_s ix0s (by omega) (by decide) ?_
        rw [setG_m1 hc (by omega)]
        refine mz_WP.asN rfl mz_up_s (by omega) ix0 (by omega) (by decide) ?_
        rw [mz_up_up, setG_um hc (by omega), show upd (rmf (gm g c) (i + 1) p) i (rmf (gm g c) (i + 1) p (i + 1)) = rmf (gm g c) (i + 1 + 1) p from rmf_s (by omega)]
        refine mz_WP.run 80 rfl ?_
        refine mz_WP.getf rfl (ho') rfl (Nat.le_of_ble_eq_true rfl) ?_
        refine mz_WP.run 80 rfl ?_
        refine mz_WP.getf rfl (ho') rfl (Nat.le_of_ble_eq_true rfl) ?_
        refine mz_WP.run 80 rfl ?_
        refine mz_WP.alN rfl mz_up_s ix192s (by omega) (by decide) ?_
        rw [setG_w1 hc (by omega)]
        refine mz_WP.asN rfl mz_up_s (by omega) ix192 (by omega) (by decide) ?_
        rw [mz_up_up, setG_uw hc (by omega), show upd (rmf (gw g c) (i + 1) p) i (rmf (gw g c) (i + 1) p (i + 1)) = rmf (gw g c) (i + 1 + 1) p from rmf_s (by omega)]
        refine mz_WP.run 80 rfl ?_
        have nx := ih (i + 1) (by omega) (by omega)
        rw [nI_succ] at nx
        exact nx
  have := loop (k - 1 - p) p (by omega) (Nat.le_refl p)
  rw [rmf_0, rmf_0] at this
  exact this
theorem m_tap {card day minute station way : Int32} (W : WF g) (ho : h 186 = mo r j) (hg : h 187 = .inl (0, 423, g)) (H : Q (some (.int (tapR g card day minute station way))) n (mz_up h 187 (.inl (0, 423, tapG g card day minute station way)))) : mz_wc (e + 4) 131 [.ref 186, .int card, .int day, .int minute, .int station, .int way] n h Q := by
  refine mz_wc.enter (code := co_X11_tap) (idx := 131) rfl rfl (Nat.le_of_ble_eq_true rfl) rfl rfl ?_
  refine mz_WP.run 80 rfl ?_
  refine mz_WP.cv rfl rfl (Nat.le_of_ble_eq_true rfl) rfl (ho) rfl (m_refusal W ho hg ?_)
  refine mz_WP.run 80 rfl ?_
  refine mz_WP.ifc rfl (fun cc => ?_) (fun cc => ?_)
  · have cc : tapRef g card day minute station way = 0 := cc
    rw [tapR, tapG, if_pos cc, if_pos cc] at H
    obtain ⟨c, d, m, st, wy, hc, rfl, -, -, -, -, -, -, -, -, -, hk⟩ := tapRef_ok cc
    rw [nI_clamp (by omega)] at H
    obtain ⟨k, Wc⟩ := W.1 c hc
    have hk : k < 48 := by
      rw [Wc.k] at hk
      exact hk
    refine mz_WP.run 80 rfl ?_
    rw [mom_eq]
    refine mz_WP.cv rfl rfl (Nat.le_of_ble_eq_true rfl) rfl (ho) rfl (m_add ho hg hc hk Wc.2.1 ?_)
    refine mz_WP.run 80 rfl ?_
    refine mz_WP.getf rfl ((mz_up_n (by omega)).trans ho) rfl (Nat.le_of_ble_eq_true rfl) ?_
    refine mz_WP.run 80 rfl ?_
    refine mz_WP.alN rfl mz_up_s (nI_add _ _) (by omega) (by decide) ?_
    unfold addG
    rw [setG_k]
    exact mz_WP.ret rfl rfl H
  · have cc : ¬ tapRef g card day minute station way = 0 := cc
    rw [tapR, tapG, if_neg cc, if_neg cc, mz_up_id hg] at H
    refine mz_WP.run 80 rfl ?_
    exact mz_WP.ret rfl rfl H
theorem m_untap {card day minute : Int32} (W : WF g) (ho : h 186 = mo r j) (hg : h 187 = .inl (0, 423, g)) (H : Q (some (.int (untapR g card day minute))) n (mz_up h 187 (.inl (0, 423, untapG g card day minute)))) : mz_wc (e + 3) 132 [.ref 186, .int card, .int day, .int minute] n h Q := by
  refine mz_wc.enter (code := co_X11_untap) (idx := 132) rfl rfl (Nat.le_of_ble_eq_true rfl) rfl rfl ?_
  refine mz_WP.run 80 rfl ?_
  refine mz_WP.cs rfl (by decide) rfl (Nat.le_of_ble_eq_true rfl) rfl (m_isCard ?_)
  refine mz_WP.ifc rfl (fun c1 => ?_) (fun c1 => ?_)
  rotate_left
  · have c1 := bI_f (Classical.byContradiction c1)
    rw [untapR, untapG, if_pos c1, if_pos c1, mz_up_id hg] at H
    refine mz_WP.run 80 rfl ?_
    exact mz_WP.ret rfl rfl H
  have c1 := bI_t c1
  have c1f : ¬ inB card (nI 0) (nI 3) = false := by
    rw [c1]
    decide
  rw [untapR, untapG, if_neg c1f, if_neg c1f] at H
  have o2 : (inB day (nI 0) (nI 27) = false ∨ inB minute (nI 0) (nI 1439) = false) → mz_WP (mz_wc (e + 2)) (e + 2) 1 co_X11_untap Q 27 [some (.ref 186), some (.int card), some (.int day), some (.int minute), none] [] n h 0 0 := by
    intro hh
    rw [if_pos hh, if_pos hh, mz_up_id hg] at H
    refine mz_WP.run 80 rfl ?_
    exact mz_WP.ret rfl rfl H
  refine mz_WP.run 80 rfl ?_
  refine mz_WP.cs rfl (by decide) rfl (Nat.le_of_ble_eq_true rfl) rfl (m_isDay ?_)
  refine mz_WP.ifc rfl (fun c2 => ?_) (fun c2 => ?_)
  · exact o2 (Or.inl (bI_f c2))
  have c2 := bI_t c2
  refine mz_WP.run 80 rfl ?_
  refine mz_WP.cs rfl (by decide) rfl (Nat.le_of_ble_eq_true rfl) rfl (m_in ?_)
  refine mz_WP.ifc rfl (fun c3 => ?_) (fun c3 => ?_)
  rotate_left
  · exact o2 (Or.inr (bI_f (Classical.byContradiction c3)))
  have c3 := bI_t c3
  have n2 : ¬ (inB day (nI 0) (nI 27) = false ∨ inB minute (nI 0) (nI 1439) = false) := by
    rw [c2, c3]
    decide
  rw [if_neg n2, if_neg n2] at H
  obtain ⟨c, -, hc, rfl⟩ := inB_of (by decide) (by omega) c1
  have hc : c < 4 := by omega
  obtain ⟨k, Wc⟩ := W.1 c hc
  have hk := Wc.1
  rw [untapF, nI_clamp (by omega), Wc.k] at H
  refine mz_WP.run 80 rfl ?_
  rw [mom_eq]
  refine mz_WP.cv rfl rfl (Nat.le_of_ble_eq_true rfl) rfl (ho) rfl (m_tapAt ho hg hc hk Wc.2.1 ?_)
  refine mz_WP.run 80 rfl ?_
  cases hf : fnd (gm g c) (momG day minute) k with
  | none =>
    rw [hf] at H
    have H : Q (some (.int U5)) n (mz_up h 187 (.inl (0, 423, g))) := H
    rw [mz_up_id hg] at H
    refine mz_WP.ifc rfl (fun c4 => ?_) (fun c4 => ?_)
    · exact absurd ((fndI_neg hk).mpr hf) (Int32.not_lt.mpr c4)
    · refine mz_WP.run 80 rfl ?_
      exact mz_WP.ret rfl rfl H
  | some p =>
    rw [hf] at H
    have H : Q (some (.int (nI (k - 1)))) n (mz_up h 187 (.inl (0, 423, rmG g c p))) := H
    have hI : fndI (gm g c) (momG day minute) k = nI p := by
      unfold fndI
      rw [hf]
    have hp := (fnd_lt hf).1
    rw [hI]
    refine mz_WP.ifc rfl (fun c4 => ?_) (fun c4 => ?_)
    · refine mz_WP.run 80 rfl ?_
      refine mz_WP.cv rfl rfl (Nat.le_of_ble_eq_true rfl) rfl (ho) rfl (m_remove ho hg hc hk hp Wc.2.1 ?_)
      refine mz_WP.run 80 rfl ?_
      refine mz_WP.getf rfl ((mz_up_n (by omega)).trans ho) rfl (Nat.le_of_ble_eq_true rfl) ?_
      refine mz_WP.run 80 rfl ?_
      refine mz_WP.alN rfl mz_up_s (nI_add _ _) (by omega) (by decide) ?_
      unfold rmG
      rw [setG_k, Wc.k]
      unfold rmG at H
      rw [Wc.k] at H
      exact mz_WP.ret rfl rfl H
    · exact absurd (nI_pos' (by omega)) c4
theorem m_told {card i what : Int32} (W : WF g) (ho : h 186 = mo r j) (hg : h 187 = .inl (0, 423, g)) (H : Q (some (.int (toldR g card i what))) n h) : mz_wc (e + 3) 133 [.ref 186, .int card, .int i, .int what] n h Q := by
  refine mz_wc.enter (code := co_X11_told) (idx := 133) rfl rfl (Nat.le_of_ble_eq_true rfl) rfl rfl ?_
  refine mz_WP.run 80 rfl ?_
  refine mz_WP.cs rfl (by decide) rfl (Nat.le_of_ble_eq_true rfl) rfl (m_isCard ?_)
  refine mz_WP.ifc rfl (fun c1 => ?_) (fun c1 => ?_)
  rotate_left
  · have c1 := bI_f (Classical.byContradiction c1)
    rw [toldR, if_pos c1] at H
    refine mz_WP.run 80 rfl ?_
    exact mz_WP.ret rfl rfl H
  have c1 := bI_t c1
  have c1f : ¬ inB card (nI 0) (nI 3) = false := by
    rw [c1]
    decide
  rw [toldR, if_neg c1f] at H
  refine mz_WP.run 80 rfl ?_
  refine mz_WP.cs rfl (by decide) rfl (Nat.le_of_ble_eq_true rfl) rfl (m_in ?_)
  refine mz_WP.ifc rfl (fun c2 => ?_) (fun c2 => ?_)
  rotate_left
  · have c2 := bI_f (Classical.byContradiction c2)
    rw [if_pos c2] at H
    refine mz_WP.run 80 rfl ?_
    exact mz_WP.ret rfl rfl H
  have c2 := bI_t c2
  have c2f : ¬ inB what (nI 0) (nI 3) = false := by
    rw [c2]
    decide
  rw [if_neg c2f] at H
  obtain ⟨c, -, hc, rfl⟩ := inB_of (by decide) (by omega) c1
  have hc : c < 4 := by omega
  obtain ⟨k, Wc⟩ := W.1 c hc
  have hk := Wc.1
  rw [nI_clamp (by omega), Wc.2.1] at H
  refine mz_WP.run 80 rfl ?_
  refine mz_WP.getf rfl (ho) rfl (Nat.le_of_ble_eq_true rfl) ?_
  refine mz_WP.run 80 rfl ?_
  refine mz_WP.alN rfl hg (nI_add _ _) (by omega) (by decide) ?_
  rw [Wc.2.1]
  refine mz_WP.run 80 rfl ?_
  have hcond : (inB i (nI 0) (nI k - nI 1) = false) ↔ (i < 0 ∨ nI k ≤ i) := by
    unfold inB
    have e0 : nI 0 = 0 := nI_0
    rw [e0]
    by_cases h0 : i < 0
    · rw [decide_eq_true h0]
      exact ⟨fun _ => Or.inl h0, fun _ => rfl⟩
    · rw [decide_eq_false h0]
      obtain ⟨q, hq, rfl⟩ := nI_of h0
      have hlt : (nI k - nI 1 < nI q) ↔ nI k ≤ nI q := by
        cases k with
        | zero =>
          rw [nI_leI (by omega) hq]
          refine ⟨fun _ => by omega, fun _ => ?_⟩
          have e1 : nI 0 - nI 1 < nI 0 := by decide
          exact Int32.lt_of_lt_of_le e1 (nI_le (by omega) hq)
        | succ k =>
          rw [pk_sub (by omega), nI_leI (by omega) hq, nI_ltI (by omega) hq]
          omega
      by_cases h1 : nI k ≤ nI q
      · rw [decide_eq_true (hlt.mpr h1)]
        exact ⟨fun _ => Or.inr h1, fun _ => rfl⟩
      · rw [decide_eq_false (fun z => h1 (hlt.mp z))]
        exact ⟨fun z => (by cases z), fun z => (Or.elim z (fun z => absurd z h0) (fun z => absurd z h1))⟩
  refine mz_WP.cs rfl (by decide) rfl (Nat.le_of_ble_eq_true rfl) rfl (m_in ?_)
  refine mz_WP.ifc rfl (fun c3 => ?_) (fun c3 => ?_)
  rotate_left
  · have c3 := bI_f (Classical.byContradiction c3)
    rw [if_pos (hcond.mp c3)] at H
    refine mz_WP.run 80 rfl ?_
    exact mz_WP.ret rfl rfl H
  have c3 := bI_t c3
  have c3f : ¬ (i < 0 ∨ nI k ≤ i) := fun z => by
    rw [hcond.mpr z] at c3
    cases c3
  rw [if_neg c3f] at H
  obtain ⟨q, hq, rfl⟩ := nI_of (fun z => c3f (Or.inl z))
  have hqk : q < k := by
    have h9 : ¬ nI k ≤ nI q := fun z => c3f (Or.inr z)
    rw [nI_leI (by omega) hq] at h9
    omega
  rw [nI_clamp hq] at H
  have hq8 : q < 48 := by omega
  unfold toldW at H
  refine mz_WP.run 80 rfl ?_
  refine mz_WP.ifc rfl (fun c4 => ?_) (fun c4 => ?_)
  · have c4 : ¬ what = nI 0 := c4
    rw [if_neg c4] at H
    refine mz_WP.run 80 rfl ?_
    refine mz_WP.icmp rfl (fun c5 => ?_) (fun c5 => ?_)
    · have c5 : ¬ what = nI 1 := c5
      rw [if_neg c5] at H
      refine mz_WP.run 80 rfl ?_
      refine mz_WP.icmp rfl (fun c6 => ?_) (fun c6 => ?_)
      · have c6 : ¬ what = nI 2 := c6
        rw [if_neg c6] at H
        refine mz_WP.run 80 rfl ?_
        refine mz_WP.cv rfl rfl (Nat.le_of_ble_eq_true rfl) rfl (ho) rfl (m_isIn ho hg hc hq8 ?_)
        obtain ⟨a, b, ha, hb, hw⟩ := Wc.2.2.2.1 q hqk
        have hy : gY g c q = nI b := by
          unfold gY
          rw [hw, (gsy ha hb).2]
        rw [hy] at H ⊢
        match b, hb with
        | 0, _ =>
          refine mz_WP.ifc rfl (fun c7 => ?_) (fun c7 => ?_)
          · exact absurd c7 (by show ¬ bI (decide (nI 0 = 0)) = 0; decide)
          · refine mz_WP.run 80 rfl ?_
            refine mz_WP.run 80 rfl ?_
            exact mz_WP.ret rfl rfl H
        | 1, _ =>
          refine mz_WP.ifc rfl (fun c7 => ?_) (fun c7 => ?_)
          · refine mz_WP.run 80 rfl ?_
            exact mz_WP.ret rfl rfl H
          · exact absurd (by show bI (decide (nI 1 = 0)) = 0; decide) c7
      · have c6 : what = nI 2 := Classical.byContradiction c6
        rw [if_pos c6] at H
        refine mz_WP.run 80 rfl ?_
        refine mz_WP.cv rfl rfl (Nat.le_of_ble_eq_true rfl) rfl (ho) rfl (m_sta ho hg hc hq8 ?_)
        refine mz_WP.run 80 rfl ?_
        exact mz_WP.ret rfl rfl H
    · have c5 : what = nI 1 := Classical.byContradiction c5
      rw [if_pos c5] at H
      refine mz_WP.run 80 rfl ?_
      refine mz_WP.cv rfl rfl (Nat.le_of_ble_eq_true rfl) rfl (ho) rfl (m_when ho hg hc hq8 ?_)
      refine mz_WP.run 80 rfl ?_
      refine mz_WP.rem rfl (by decide) ?_
      refine mz_WP.run 80 rfl ?_
      exact mz_WP.ret rfl rfl H
  · have c4 : what = nI 0 := Classical.byContradiction c4
    rw [if_pos c4] at H
    refine mz_WP.run 80 rfl ?_
    refine mz_WP.cv rfl rfl (Nat.le_of_ble_eq_true rfl) rfl (ho) rfl (m_when ho hg hc hq8 ?_)
    refine mz_WP.run 80 rfl ?_
    refine mz_WP.div rfl (by decide) ?_
    refine mz_WP.run 80 rfl ?_
    exact mz_WP.ret rfl rfl H
end MT2
