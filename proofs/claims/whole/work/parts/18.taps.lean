/-! Taps: an object t with its three rows -/
def tpH (h0 : mz_H) (t : Nat) (z : Int32) (m s w : Nat → Int32) : mz_H := fun b => if b = t then .inr (8, [.ref (t + 1), .ref (t + 3), .ref (t + 5), .int z]) else if b = t + 2 then .inl (0, 48, m) else if b = t + 4 then .inl (0, 48, s) else if b = t + 6 then .inl (0, 48, w) else h0 b
def tpF (h0 : mz_H) (t : Nat) : Prop := 2 ≤ t ∧ h0 (t + 1) = .inr (6, [.ref (t + 2)]) ∧ h0 (t + 3) = .inr (6, [.ref (t + 4)]) ∧ h0 (t + 5) = .inr (6, [.ref (t + 6)])
def shf (f : Nat → Int32) (k p : Nat) : Nat → Int32 := fun j => if p < j ∧ j ≤ k then f (j - 1) else f j
def insf (f : Nat → Int32) (k p : Nat) (x : Int32) : Nat → Int32 := fun j => if j = p then x else if p < j ∧ j ≤ k then f (j - 1) else f j
def rmf (f : Nat → Int32) (k p : Nat) : Nat → Int32 := fun j => if p ≤ j ∧ j + 1 < k then f (j + 1) else f j
theorem shf_0 {f : Nat → Int32} {k : Nat} : shf f k k = f := by
  funext j
  exact if_neg (by omega)
theorem shf_s {f : Nat → Int32} {k p : Nat} (hp : p + 1 ≤ k) : upd (shf f k (p + 1)) (p + 1) (shf f k (p + 1) p) = shf f k p := by
  funext j
  unfold upd shf
  by_cases h1 : j = p + 1
  · subst h1
    rw [if_pos rfl, if_neg (by omega), if_pos (by omega)]
    rfl
  · rw [if_neg h1]
    by_cases h2 : p + 1 < j ∧ j ≤ k
    · rw [if_pos h2, if_pos (by omega)]
    · rw [if_neg h2, if_neg (by omega)]
theorem shf_e {f : Nat → Int32} {k p : Nat} {x : Int32} : upd (shf f k p) p x = insf f k p x := rfl
theorem rmf_0 {f : Nat → Int32} {p : Nat} : rmf f (p + 1) p = f := by
  funext j
  exact if_neg (by omega)
theorem rmf_s {f : Nat → Int32} {i p : Nat} (hp : p < i) : upd (rmf f i p) (i - 1) (rmf f i p i) = rmf f (i + 1) p := by
  funext j
  unfold upd rmf
  by_cases h1 : j = i - 1
  · subst h1
    rw [if_pos rfl, if_neg (by omega), if_pos (by omega), show i - 1 + 1 = i by omega]
  · rw [if_neg h1]
    by_cases h2 : p ≤ j ∧ j + 1 < i
    · rw [if_pos h2, if_pos (by omega)]
    · rw [if_neg h2, if_neg (by omega)]
section TP
variable {e n : Nat} {h : mz_H} {Q : mz_Q} {t : Nat} {z : Int32} {m s w : Nat → Int32}
theorem tp_o : tpH h t z m s w t = .inr (8, [.ref (t + 1), .ref (t + 3), .ref (t + 5), .int z]) := if_pos rfl
theorem tp_1 (F : tpF h t) : tpH h t z m s w (t + 1) = .inr (6, [.ref (t + 2)]) := by
  unfold tpH
  rw [if_neg (by omega), if_neg (by omega), if_neg (by omega), if_neg (by omega)]
  exact F.2.1
theorem tp_3 (F : tpF h t) : tpH h t z m s w (t + 3) = .inr (6, [.ref (t + 4)]) := by
  unfold tpH
  rw [if_neg (by omega), if_neg (by omega), if_neg (by omega), if_neg (by omega)]
  exact F.2.2.1
theorem tp_5 (F : tpF h t) : tpH h t z m s w (t + 5) = .inr (6, [.ref (t + 6)]) := by
  unfold tpH
  rw [if_neg (by omega), if_neg (by omega), if_neg (by omega), if_neg (by omega)]
  exact F.2.2.2
theorem tp_2 : tpH h t z m s w (t + 2) = .inl (0, 48, m) := by
  unfold tpH
  rw [if_neg (by omega), if_pos rfl]
theorem tp_4 : tpH h t z m s w (t + 4) = .inl (0, 48, s) := by
  unfold tpH
  rw [if_neg (by omega), if_neg (by omega), if_pos rfl]
theorem tp_6 : tpH h t z m s w (t + 6) = .inl (0, 48, w) := by
  unfold tpH
  rw [if_neg (by omega), if_neg (by omega), if_neg (by omega), if_pos rfl]
theorem tp_n {b : Nat} (h0 : b ≠ t) (h2 : b ≠ t + 2) (h4 : b ≠ t + 4) (h6 : b ≠ t + 6) : tpH h t z m s w b = h b := by
  unfold tpH
  rw [if_neg h0, if_neg h2, if_neg h4, if_neg h6]
theorem tp_u0 {z' : Int32} : mz_up (tpH h t z m s w) t (.inr (8, [.ref (t + 1), .ref (t + 3), .ref (t + 5), .int z'])) = tpH h t z' m s w := by
  funext b
  unfold mz_up tpH
  by_cases hb : b = t
  · rw [if_pos hb, if_pos hb]
  · rw [if_neg hb, if_neg hb, if_neg hb]
theorem tp_u2 {m' : Nat → Int32} : mz_up (tpH h t z m s w) (t + 2) (.inl (0, 48, m')) = tpH h t z m' s w := by
  funext b
  unfold mz_up tpH
  by_cases hb : b = t + 2
  · subst hb
    rw [if_pos rfl, if_neg (by omega), if_pos rfl]
  · rw [if_neg hb, if_neg hb, if_neg hb]
theorem tp_u4 {m' : Nat → Int32} : mz_up (tpH h t z m s w) (t + 4) (.inl (0, 48, m')) = tpH h t z m m' w := by
  funext b
  unfold mz_up tpH
  by_cases hb : b = t + 4
  · subst hb
    rw [if_pos rfl, if_neg (by omega), if_neg (by omega), if_pos rfl]
  · rw [if_neg hb, if_neg hb, if_neg hb]
theorem tp_u6 {m' : Nat → Int32} : mz_up (tpH h t z m s w) (t + 6) (.inl (0, 48, m')) = tpH h t z m s m' := by
  funext b
  unfold mz_up tpH
  by_cases hb : b = t + 6
  · subst hb
    rw [if_pos rfl, if_neg (by omega), if_neg (by omega), if_neg (by omega), if_pos rfl]
  · rw [if_neg hb, if_neg hb, if_neg hb]
theorem s_tsize (H : Q (some (.int z)) n (tpH h t z m s w)) : mz_wc (e + 1) 61 [.ref t] n (tpH h t z m s w) Q := by
  refine mz_wc.enter (code := co_X8_size) (idx := 61) rfl rfl (Nat.le_of_ble_eq_true rfl) rfl rfl ?_
  refine mz_WP.run 80 rfl ?_
  refine mz_WP.getf rfl (tp_o) rfl (Nat.le_of_ble_eq_true rfl) ?_
  exact mz_WP.ret rfl rfl H
theorem s_tmom {i : Int32} (F : tpF h t) (H : Q (some (.int (rat 48 m i))) n (tpH h t z m s w)) : mz_wc (e + 2) 62 [.ref t, .int i] n (tpH h t z m s w) Q := by
  refine mz_wc.enter (code := co_X8_moment) (idx := 62) rfl rfl (Nat.le_of_ble_eq_true rfl) rfl rfl ?_
  refine mz_WP.run 80 rfl ?_
  refine mz_WP.getf rfl (tp_o) rfl (Nat.le_of_ble_eq_true rfl) ?_
  refine mz_WP.run 80 rfl ?_
  refine mz_WP.cv rfl rfl (Nat.le_of_ble_eq_true rfl) rfl (tp_1 F) rfl (s_at (tp_1 F) tp_2 (by decide) ?_)
  exact mz_WP.ret rfl rfl H
theorem s_tsta {i : Int32} (F : tpF h t) (H : Q (some (.int (rat 48 s i))) n (tpH h t z m s w)) : mz_wc (e + 2) 63 [.ref t, .int i] n (tpH h t z m s w) Q := by
  refine mz_wc.enter (code := co_X8_station) (idx := 63) rfl rfl (Nat.le_of_ble_eq_true rfl) rfl rfl ?_
  refine mz_WP.run 80 rfl ?_
  refine mz_WP.getf rfl (tp_o) rfl (Nat.le_of_ble_eq_true rfl) ?_
  refine mz_WP.run 80 rfl ?_
  refine mz_WP.cv rfl rfl (Nat.le_of_ble_eq_true rfl) rfl (tp_3 F) rfl (s_at (tp_3 F) tp_4 (by decide) ?_)
  exact mz_WP.ret rfl rfl H
theorem s_tway {i : Int32} (F : tpF h t) (H : Q (some (.int (rat 48 w i))) n (tpH h t z m s w)) : mz_wc (e + 2) 64 [.ref t, .int i] n (tpH h t z m s w) Q := by
  refine mz_wc.enter (code := co_X8_way) (idx := 64) rfl rfl (Nat.le_of_ble_eq_true rfl) rfl rfl ?_
  refine mz_WP.run 80 rfl ?_
  refine mz_WP.getf rfl (tp_o) rfl (Nat.le_of_ble_eq_true rfl) ?_
  refine mz_WP.run 80 rfl ?_
  refine mz_WP.cv rfl rfl (Nat.le_of_ble_eq_true rfl) rfl (tp_5 F) rfl (s_at (tp_5 F) tp_6 (by decide) ?_)
  exact mz_WP.ret rfl rfl H
theorem s_tmove {i j : Int32} (F : tpF h t) (H : Q none n (tpH h t z (rput 48 m j (rat 48 m i)) (rput 48 s j (rat 48 s i)) (rput 48 w j (rat 48 w i)))) : mz_wc (e + 2) 68 [.ref t, .int i, .int j] n (tpH h t z m s w) Q := by
  have h2 := F.1
  refine mz_wc.enter (code := co_X8_move) (idx := 68) rfl rfl (Nat.le_of_ble_eq_true rfl) rfl rfl ?_
  refine mz_WP.run 80 rfl ?_
  refine mz_WP.getf rfl (tp_o) rfl (Nat.le_of_ble_eq_true rfl) ?_
  refine mz_WP.run 80 rfl ?_
  refine mz_WP.getf rfl (tp_o) rfl (Nat.le_of_ble_eq_true rfl) ?_
  refine mz_WP.run 80 rfl ?_
  refine mz_WP.cv rfl rfl (Nat.le_of_ble_eq_true rfl) rfl (tp_1 F) rfl (s_at (tp_1 F) tp_2 (by decide) ?_)
  refine mz_WP.cv rfl rfl (Nat.le_of_ble_eq_true rfl) rfl (tp_1 F) rfl (s_put (tp_1 F) tp_2 (by omega) (by decide) ?_)
  rw [tp_u2]
  refine mz_WP.run 80 rfl ?_
  refine mz_WP.getf rfl (tp_o) rfl (Nat.le_of_ble_eq_true rfl) ?_
  refine mz_WP.run 80 rfl ?_
  refine mz_WP.getf rfl (tp_o) rfl (Nat.le_of_ble_eq_true rfl) ?_
  refine mz_WP.run 80 rfl ?_
  refine mz_WP.cv rfl rfl (Nat.le_of_ble_eq_true rfl) rfl (tp_3 F) rfl (s_at (tp_3 F) tp_4 (by decide) ?_)
  refine mz_WP.cv rfl rfl (Nat.le_of_ble_eq_true rfl) rfl (tp_3 F) rfl (s_put (tp_3 F) tp_4 (by omega) (by decide) ?_)
  rw [tp_u4]
  refine mz_WP.run 80 rfl ?_
  refine mz_WP.getf rfl (tp_o) rfl (Nat.le_of_ble_eq_true rfl) ?_
  refine mz_WP.run 80 rfl ?_
  refine mz_WP.getf rfl (tp_o) rfl (Nat.le_of_ble_eq_true rfl) ?_
  refine mz_WP.run 80 rfl ?_
  refine mz_WP.cv rfl rfl (Nat.le_of_ble_eq_true rfl) rfl (tp_5 F) rfl (s_at (tp_5 F) tp_6 (by decide) ?_)
  refine mz_WP.cv rfl rfl (Nat.le_of_ble_eq_true rfl) rfl (tp_5 F) rfl (s_put (tp_5 F) tp_6 (by omega) (by decide) ?_)
  rw [tp_u6]
  exact mz_WP.vret rfl rfl H
theorem s_tfind {k : Nat} {v : Int32} (F : tpF h t) (hk : k ≤ 48) (H1 : ∀ j, j < k → m j = v → (∀ i, i < j → m i ≠ v) → Q (some (.int (nI j))) n (tpH h t (nI k) m s w)) (H2 : (∀ j, j < k → m j ≠ v) → Q (some (.int (nI 4294967295))) n (tpH h t (nI k) m s w)) : mz_wc (e + 2) 65 [.ref t, .int v] n (tpH h t (nI k) m s w) Q := by
  refine mz_wc.enter (code := co_X8_find) (idx := 65) rfl rfl (Nat.le_of_ble_eq_true rfl) rfl rfl ?_
  refine mz_WP.run 2 rfl ?_
  have loop : ∀ q i, i + q = k → (∀ j, j < i → m j ≠ v) → mz_WP (mz_wc (e + 1)) (e + 1) 1 co_X8_find Q 2 [some (.ref t), some (.int v), some (.int (nI i))] [] n (tpH h t (nI k) m s w) 0 0 := by
    intro q
    induction q with
    | zero =>
      intro i hi hn
      have hi : i = k := by omega
      subst hi
      refine mz_WP.run 80 rfl ?_
      refine mz_WP.getf rfl (tp_o) rfl (Nat.le_of_ble_eq_true rfl) ?_
      refine mz_WP.icmp rfl (fun c => ?_) (fun c => ?_)
      · refine mz_WP.run 80 rfl ?_
        exact mz_WP.ret rfl rfl (H2 hn)
      · exact absurd (nI_le (Nat.le_refl _) (by omega)) c
    | succ q ih =>
      intro i hi hn
      refine mz_WP.run 80 rfl ?_
      refine mz_WP.getf rfl (tp_o) rfl (Nat.le_of_ble_eq_true rfl) ?_
      refine mz_WP.icmp rfl (fun c => ?_) (fun c => ?_)
      · exact absurd c (nI_ge (by omega) (by omega))
      · refine mz_WP.run 80 rfl ?_
        refine mz_WP.getf rfl (tp_o) rfl (Nat.le_of_ble_eq_true rfl) ?_
        refine mz_WP.run 80 rfl ?_
        refine mz_WP.cv rfl rfl (Nat.le_of_ble_eq_true rfl) rfl (tp_1 F) rfl (s_at (tp_1 F) tp_2 (by decide) ?_)
        rw [rat_in (by omega) (by decide)]
        refine mz_WP.run 80 rfl ?_
        refine mz_WP.icmp rfl (fun c2 => ?_) (fun c2 => ?_)
        · have c2 : ¬ m i = v := c2
          refine mz_WP.run 80 rfl ?_
          have := ih (i + 1) (by omega) (fun j hj => by
            by_cases hji : j = i
            · subst hji; exact c2
            · exact hn j (by omega))
          rw [nI_succ] at this
          exact this
        · have c2 : m i = v := Classical.byContradiction c2
          refine mz_WP.run 80 rfl ?_
          exact mz_WP.ret rfl rfl (H1 i (by omega) c2 hn)
  exact loop k 0 (by omega) (fun j hj => by omega)
end TP
