/-! Row: the loops -/
def rfill (m : Nat) (f : Nat → Int32) (v : Int32) : Nat → Int32 := fun j => if j < m then v else f j
def rcpy (m : Nat) (f g : Nat → Int32) : Nat → Int32 := fun j => if j < m then g j else f j
def rsum (f : Nat → Int32) : Nat → Int32
  | 0 => 0
  | k + 1 => rsum f k + f k
theorem rfill_s {i : Nat} {f : Nat → Int32} {v : Int32} : upd (rfill i f v) i v = rfill (i + 1) f v := by
  funext j
  unfold upd rfill
  by_cases h1 : j = i
  · subst h1
    rw [if_pos rfl, if_pos (by omega)]
  · rw [if_neg h1]
    by_cases h2 : j < i
    · rw [if_pos h2, if_pos (by omega)]
    · rw [if_neg h2, if_neg (by omega)]
theorem rcpy_s {i : Nat} {f g : Nat → Int32} : upd (rcpy i f g) i (g i) = rcpy (i + 1) f g := by
  funext j
  unfold upd rcpy
  by_cases h1 : j = i
  · subst h1
    rw [if_pos rfl, if_pos (by omega)]
  · rw [if_neg h1]
    by_cases h2 : j < i
    · rw [if_pos h2, if_pos (by omega)]
    · rw [if_neg h2, if_neg (by omega)]
theorem rfill_0 {f : Nat → Int32} {v : Int32} : rfill 0 f v = f := by
  funext j
  exact if_neg (by omega)
theorem rcpy_0 {f g : Nat → Int32} : rcpy 0 f g = f := by
  funext j
  exact if_neg (by omega)
section ROW2
variable {e n : Nat} {h : mz_H} {Q : mz_Q} {r a m : Nat} {f : Nat → Int32}
theorem s_fill {v : Int32} (hr : h r = .inr (6, [.ref a])) (ha : h a = .inl (0, m, f)) (h2 : 2 ≤ a) (hm : m < 2 ^ 31) (H : Q none n (mz_up h a (.inl (0, m, rfill m f v)))) : mz_wc (e + 1) 54 [.ref r, .int v] n h Q := by
  have hra : r ≠ a := fun z => by rw [z, ha] at hr; cases hr
  refine mz_wc.enter (code := co_X6_fill) (idx := 54) rfl rfl (Nat.le_of_ble_eq_true rfl) rfl rfl ?_
  refine mz_WP.run 2 rfl ?_
  have loop : ∀ k i, i + k = m → mz_WP (mz_wc e) e 0 co_X6_fill Q 2 [some (.ref r), some (.int v), some (.int (nI i))] [] n (mz_up h a (.inl (0, m, rfill i f v))) 0 0 := by
    intro k
    induction k with
    | zero =>
      intro i hi
      have hi : i = m := by omega
      subst hi
      refine mz_WP.run 80 rfl ?_
      refine mz_WP.getf rfl ((mz_up_n hra).trans hr) rfl (Nat.le_of_ble_eq_true rfl) ?_
      refine mz_WP.alen rfl mz_up_s ?_
      refine mz_WP.icmp rfl (fun c => ?_) (fun c => ?_)
      · exact mz_WP.vret rfl rfl H
      · exact absurd (nI_le (Nat.le_refl _) hm) c
    | succ k ih =>
      intro i hi
      refine mz_WP.run 80 rfl ?_
      refine mz_WP.getf rfl ((mz_up_n hra).trans hr) rfl (Nat.le_of_ble_eq_true rfl) ?_
      refine mz_WP.alen rfl mz_up_s ?_
      refine mz_WP.icmp rfl (fun c => ?_) (fun c => ?_)
      · exact absurd c (nI_ge (by omega) hm)
      · refine mz_WP.run 80 rfl ?_
        refine mz_WP.getf rfl ((mz_up_n hra).trans hr) rfl (Nat.le_of_ble_eq_true rfl) ?_
        refine mz_WP.run 80 rfl ?_
        refine mz_WP.ast rfl mz_up_s h2 (vp_in_nI (by omega) (by omega)) ?_
        refine mz_WP.run 80 rfl ?_
        rw [mz_up_up, nI_clamp (by omega), rfill_s]
        have := ih (i + 1) (by omega)
        rw [nI_succ] at this
        exact this
  have := loop m 0 (by omega)
  rw [rfill_0, mz_up_id ha] at this
  exact this
theorem s_sum (hr : h r = .inr (6, [.ref a])) (ha : h a = .inl (0, m, f)) (hm : m < 2 ^ 31) (H : Q (some (.int (rsum f m))) n h) : mz_wc (e + 1) 55 [.ref r] n h Q := by
  refine mz_wc.enter (code := co_X6_sum) (idx := 55) rfl rfl (Nat.le_of_ble_eq_true rfl) rfl rfl ?_
  refine mz_WP.run 4 rfl ?_
  have loop : ∀ k i, i + k = m → mz_WP (mz_wc e) e 1 co_X6_sum Q 4 [some (.ref r), some (.int (rsum f i)), some (.int (nI i))] [] n h 0 0 := by
    intro k
    induction k with
    | zero =>
      intro i hi
      have hi : i = m := by omega
      subst hi
      refine mz_WP.run 80 rfl ?_
      refine mz_WP.getf rfl (hr) rfl (Nat.le_of_ble_eq_true rfl) ?_
      refine mz_WP.alen rfl ha ?_
      refine mz_WP.icmp rfl (fun c => ?_) (fun c => ?_)
      · refine mz_WP.run 80 rfl ?_
        exact mz_WP.ret rfl rfl H
      · exact absurd (nI_le (Nat.le_refl _) hm) c
    | succ k ih =>
      intro i hi
      refine mz_WP.run 80 rfl ?_
      refine mz_WP.getf rfl (hr) rfl (Nat.le_of_ble_eq_true rfl) ?_
      refine mz_WP.alen rfl ha ?_
      refine mz_WP.icmp rfl (fun c => ?_) (fun c => ?_)
      · exact absurd c (nI_ge (by omega) hm)
      · refine mz_WP.run 80 rfl ?_
        refine mz_WP.getf rfl (hr) rfl (Nat.le_of_ble_eq_true rfl) ?_
        refine mz_WP.run 80 rfl ?_
        refine mz_WP.ald rfl ha (vp_in_nI (by omega) (by omega)) ?_
        refine mz_WP.run 80 rfl ?_
        rw [nI_clamp (by omega)]
        have := ih (i + 1) (by omega)
        rw [nI_succ] at this
        exact this
  exact loop m 0 (by omega)
theorem s_cpy {r2 a2 : Nat} {g : Nat → Int32} (hr : h r = .inr (6, [.ref a])) (ha : h a = .inl (0, m, f)) (h2 : 2 ≤ a) (hm : m < 2 ^ 31) (hr2 : h r2 = .inr (6, [.ref a2])) (ha2 : h a2 = .inl (0, m, g)) (hne : a2 ≠ a) (H : Q none n (mz_up h a (.inl (0, m, rcpy m f g)))) : mz_wc (e + 2) 56 [.ref r, .ref r2] n h Q := by
  have hra : r ≠ a := fun z => by rw [z, ha] at hr; cases hr
  have hra2 : r2 ≠ a := fun z => by rw [z, ha] at hr2; cases hr2
  refine mz_wc.enter (code := co_X6_copyFrom) (idx := 56) rfl rfl (Nat.le_of_ble_eq_true rfl) rfl rfl ?_
  refine mz_WP.run 2 rfl ?_
  have loop : ∀ k i, i + k = m → mz_WP (mz_wc (e + 1)) (e + 1) 0 co_X6_copyFrom Q 2 [some (.ref r), some (.ref r2), some (.int (nI i))] [] n (mz_up h a (.inl (0, m, rcpy i f g))) 0 0 := by
    intro k
    induction k with
    | zero =>
      intro i hi
      have hi : i = m := by omega
      subst hi
      refine mz_WP.run 80 rfl ?_
      refine mz_WP.getf rfl ((mz_up_n hra).trans hr) rfl (Nat.le_of_ble_eq_true rfl) ?_
      refine mz_WP.alen rfl mz_up_s ?_
      refine mz_WP.icmp rfl (fun c => ?_) (fun c => ?_)
      · exact mz_WP.vret rfl rfl H
      · exact absurd (nI_le (Nat.le_refl _) hm) c
    | succ k ih =>
      intro i hi
      refine mz_WP.run 80 rfl ?_
      refine mz_WP.getf rfl ((mz_up_n hra).trans hr) rfl (Nat.le_of_ble_eq_true rfl) ?_
      refine mz_WP.alen rfl mz_up_s ?_
      refine mz_WP.icmp rfl (fun c => ?_) (fun c => ?_)
      · exact absurd c (nI_ge (by omega) hm)
      · refine mz_WP.run 80 rfl ?_
        refine mz_WP.getf rfl ((mz_up_n hra).trans hr) rfl (Nat.le_of_ble_eq_true rfl) ?_
        refine mz_WP.run 80 rfl ?_
        refine mz_WP.cv rfl rfl (Nat.le_of_ble_eq_true rfl) rfl ((mz_up_n hra2).trans hr2) rfl (s_at ((mz_up_n hra2).trans hr2) ((mz_up_n hne).trans ha2) hm ?_)
        rw [rat_in (by omega) hm]
        refine mz_WP.ast rfl mz_up_s h2 (vp_in_nI (by omega) (by omega)) ?_
        refine mz_WP.run 80 rfl ?_
        rw [mz_up_up, nI_clamp (by omega), rcpy_s]
        have := ih (i + 1) (by omega)
        rw [nI_succ] at this
        exact this
  have := loop m 0 (by omega)
  rw [rcpy_0, mz_up_id ha] at this
  exact this
end ROW2
