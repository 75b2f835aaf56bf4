/-! Row -/
theorem mz_up_s {h : mz_H} {a : Nat} {x : mz_C} : mz_up h a x a = x := if_pos rfl
theorem mz_up_n {h : mz_H} {a b : Nat} {x : mz_C} (hb : b ≠ a) : mz_up h a x b = h b := if_neg hb
theorem mz_up_up {h : mz_H} {a : Nat} {x y : mz_C} : mz_up (mz_up h a x) a y = mz_up h a y := by
  funext b
  by_cases e : b = a
  · subst e; rw [mz_up_s, mz_up_s]
  · rw [mz_up_n e, mz_up_n e, mz_up_n e]
theorem mz_up_id {h : mz_H} {a : Nat} {x : mz_C} (hx : h a = x) : mz_up h a x = h := by
  funext b
  by_cases e : b = a
  · subst e; rw [mz_up_s, hx]
  · rw [mz_up_n e]
def rat (m : Nat) (f : Nat → Int32) (i : Int32) : Int32 := if i < 0 then 0 else if nI m ≤ i then 0 else f i.toNatClampNeg
def rput (m : Nat) (f : Nat → Int32) (i v : Int32) : Nat → Int32 := if i < 0 then f else if nI m ≤ i then f else upd f i.toNatClampNeg v
theorem rat_in {m : Nat} {f : Nat → Int32} {k : Nat} (hk : k < m) (hm : m < 2 ^ 31) : rat m f (nI k) = f k := by
  unfold rat
  rw [if_neg (nI_pos (by omega)), if_neg (nI_ge hk hm), nI_clamp (by omega)]
theorem rput_in {m : Nat} {f : Nat → Int32} {k : Nat} {v : Int32} (hk : k < m) (hm : m < 2 ^ 31) : rput m f (nI k) v = upd f k v := by
  unfold rput
  rw [if_neg (nI_pos (by omega)), if_neg (nI_ge hk hm), nI_clamp (by omega)]
theorem vp_in_of2 {m : Nat} {i : Int32} (hm : m < 2 ^ 31) (h0 : ¬ i < 0) (h1 : ¬ nI m ≤ i) : vp_in i m := by
  obtain ⟨j, hj, rfl⟩ := nI_of h0
  rw [nI_leI hm hj] at h1
  exact vp_in_nI (by omega) (by omega)
section ROW
variable {e n : Nat} {h : mz_H} {Q : mz_Q} {r a m : Nat} {f : Nat → Int32}
theorem s_at {i : Int32} (hr : h r = .inr (6, [.ref a])) (ha : h a = .inl (0, m, f)) (hm : m < 2 ^ 31) (H : Q (some (.int (rat m f i))) n h) : mz_wc (e + 1) 51 [.ref r, .int i] n h Q := by
  refine mz_wc.enter (code := co_X6_at) (idx := 51) rfl rfl (Nat.le_of_ble_eq_true rfl) rfl rfl ?_
  refine mz_WP.run 80 rfl ?_
  refine mz_WP.ifc rfl (fun c => ?_) (fun c => ?_)
  · have c : i < 0 := c
    rw [rat, if_pos c] at H
    refine mz_WP.run 80 rfl ?_
    exact mz_WP.ret rfl rfl H
  · have c : ¬ i < 0 := c
    refine mz_WP.run 80 rfl ?_
    refine mz_WP.getf rfl (hr) rfl (Nat.le_of_ble_eq_true rfl) ?_
    refine mz_WP.alen rfl ha ?_
    refine mz_WP.icmp rfl (fun c2 => ?_) (fun c2 => ?_)
    · have c2 : nI m ≤ i := c2
      rw [rat, if_neg c, if_pos c2] at H
      refine mz_WP.run 80 rfl ?_
      exact mz_WP.ret rfl rfl H
    · have c2 : ¬ nI m ≤ i := c2
      rw [rat, if_neg c, if_neg c2] at H
      refine mz_WP.run 80 rfl ?_
      refine mz_WP.getf rfl (hr) rfl (Nat.le_of_ble_eq_true rfl) ?_
      refine mz_WP.run 80 rfl ?_
      refine mz_WP.ald rfl ha (vp_in_of2 hm c c2) ?_
      refine mz_WP.run 80 rfl ?_
      exact mz_WP.ret rfl rfl H
theorem s_put {i v : Int32} (hr : h r = .inr (6, [.ref a])) (ha : h a = .inl (0, m, f)) (h2 : 2 ≤ a) (hm : m < 2 ^ 31) (H : Q none n (mz_up h a (.inl (0, m, rput m f i v)))) : mz_wc (e + 1) 52 [.ref r, .int i, .int v] n h Q := by
  refine mz_wc.enter (code := co_X6_put) (idx := 52) rfl rfl (Nat.le_of_ble_eq_true rfl) rfl rfl ?_
  refine mz_WP.run 80 rfl ?_
  refine mz_WP.ifc rfl (fun c => ?_) (fun c => ?_)
  · have c : i < 0 := c
    rw [rput, if_pos c, mz_up_id ha] at H
    refine mz_WP.run 80 rfl ?_
    exact mz_WP.vret rfl rfl H
  · have c : ¬ i < 0 := c
    refine mz_WP.run 80 rfl ?_
    refine mz_WP.getf rfl (hr) rfl (Nat.le_of_ble_eq_true rfl) ?_
    refine mz_WP.alen rfl ha ?_
    refine mz_WP.icmp rfl (fun c2 => ?_) (fun c2 => ?_)
    · have c2 : nI m ≤ i := c2
      rw [rput, if_neg c, if_pos c2, mz_up_id ha] at H
      refine mz_WP.run 80 rfl ?_
      exact mz_WP.vret rfl rfl H
    · have c2 : ¬ nI m ≤ i := c2
      rw [rput, if_neg c, if_neg c2] at H
      refine mz_WP.run 80 rfl ?_
      refine mz_WP.getf rfl (hr) rfl (Nat.le_of_ble_eq_true rfl) ?_
      refine mz_WP.run 80 rfl ?_
      refine mz_WP.ast rfl ha h2 (vp_in_of2 hm c c2) ?_
      refine mz_WP.run 80 rfl ?_
      exact mz_WP.vret rfl rfl H
theorem s_add {i v : Int32} (hr : h r = .inr (6, [.ref a])) (ha : h a = .inl (0, m, f)) (h2 : 2 ≤ a) (hm : m < 2 ^ 31) (H : Q none n (mz_up h a (.inl (0, m, rput m f i (rat m f i + v))))) : mz_wc (e + 2) 53 [.ref r, .int i, .int v] n h Q := by
  refine mz_wc.enter (code := co_X6_add) (idx := 53) rfl rfl (Nat.le_of_ble_eq_true rfl) rfl rfl ?_
  refine mz_WP.run 80 rfl ?_
  refine mz_WP.cv rfl rfl (Nat.le_of_ble_eq_true rfl) rfl (hr) rfl (s_at hr ha hm ?_)
  refine mz_WP.run 80 rfl ?_
  refine mz_WP.cv rfl rfl (Nat.le_of_ble_eq_true rfl) rfl (hr) rfl (s_put hr ha h2 hm ?_)
  refine mz_WP.run 80 rfl ?_
  exact mz_WP.vret rfl rfl H
end ROW
