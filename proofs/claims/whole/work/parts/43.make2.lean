/-! the makers of the class, on -/
def tfz (a b i : Nat) : Nat → Int32 := fun j => if 1 ≤ j ∧ j < i then nI (a + b * j) else 0
theorem tfz_1 {a b : Nat} : zf = tfz a b 1 := by
  funext j
  exact (if_neg (by omega)).symm
theorem tfz_s {a b i : Nat} (hi : 1 ≤ i) : upd (tfz a b i) i (nI a + nI b * nI i) = tfz a b (i + 1) := by
  funext j
  unfold upd tfz
  by_cases h1 : j = i
  · subst h1
    rw [if_pos rfl, if_pos (by omega), ← nI_add, pk_mul]
  · rw [if_neg h1]
    by_cases h2 : 1 ≤ j ∧ j < i
    · rw [if_pos h2, if_pos (by omega)]
    · rw [if_neg h2, if_neg (by omega)]
section MK3
variable {e d rk n : Nat} {code : List mz_I} {h : mz_H} {Q : mz_Q} {L : List (Option Value)} {bc bs : Nat}
/-- an object into a field of the object at t -/
theorem mk_obj {t ci y cp cp3 cp4 len1 len3 len4 y0 y3 pc pc1 pc2 cj idx mc ms : Nat} {fs : List Value} (ha : h t = .inr (ci, fs)) (hr0 : mz_run code 1 pc L [] = (pc1, L, [.ref t])) (l1 : mz_lk code pc1 = some (.new cp, len1, cj, y0)) (hcj : cj < 12) (hr2 : mz_run code 1 (pc1 + 3) L [.ref (n + 2), .ref t] = (pc2, L, [.ref (n + 2), .ref (n + 2), .ref t])) (l3 : mz_lk code pc2 = some (.invokespecial cp3, len3, idx, y3)) (hy3 : ¬ y3 = 6) (hnp : mz_np.getD idx 0 = 0) (hal : mz_al idx [.ref (n + 2)] = (mc, ms)) (l4 : mz_lk code (pc2 + 3) = some (.putfield cp4, len4, ci, y)) (b1 : 1 + mc ≤ bc) (b2 : mz_N cj + ms ≤ bs) (hy : y < mz_N ci) (hy2 : y < fs.length) (ht : mz_vt (mz_ty ci y) (.ref (n + 2)) = true) (H : mz_wc e idx [.ref (n + 2)] (n + 1) (mz_up h (n + 2) (.inr (cj, mz_df cj))) (fun v n' h' => v = none ∧ h' t = .inr (ci, fs) ∧ mz_WP (mz_wc e) d rk code Q (pc2 + 6) L [] n' (mz_up h' t (.inr (ci, fs.set y (.ref (n + 2))))) (bc - (1 + mc)) (bs - (mz_N cj + ms)))) : mz_WP (mz_wc e) d rk code Q pc L [] n h bc bs := by
  refine mz_WP.run 1 hr0 ?_
  refine mz_WP.new l1 hcj (by omega) (by omega) ?_
  refine mz_WP.run 1 hr2 ?_
  refine mz_WP.ci (as := [.ref (n + 2)]) (r := [.ref (n + 2), .ref t]) (mc := mc) (ms := ms) l3 hy3 (by rw [hnp]; rfl) (Nat.le_of_ble_eq_true rfl) rfl hal (by omega) (by omega) ?_
  refine mz_wc_mono e _ _ _ _ _ _ (fun v n' h' q => ?_) H
  obtain ⟨rfl, q1, q2⟩ := q
  refine mz_WP.putf l4 q1 hy hy2 ht ?_
  rw [show bc - 1 - mc = bc - (1 + mc) by omega, show bs - mz_N cj - ms = bs - (mz_N cj + ms) by omega]
  exact q2
end MK3
section MK4
variable {e n : Nat} {h : mz_H} {Q : mz_Q}
def RowAt (h : mz_H) (a k : Nat) : Prop := h a = .inr (6, [.ref (a + 1)]) ∧ h (a + 1) = .inl (0, k, zf)

theorem s_blinit (ht : h (n + 1) = .inr (0, mz_df 0)) (H : ∀ h', BlA h' (n + 1) zf zf (nI 0) (nI 0) → (∀ b, b < n + 1 ∨ n + 1 + 4 < b → h' b = h b) → Q none (n + 4) h') : mz_wc (e + 3) 0 [.ref (n + 1)] n h Q := by
  refine mz_wc.enter (code := co_X0_init) (idx := 0) rfl rfl (Nat.le_of_ble_eq_true rfl) rfl rfl ?_
  refine mz_WP.run 80 rfl ?_
  refine mz_WP.oi rfl rfl (by omega) (Nat.le_of_ble_eq_true rfl) ?_
  refine mk_row (t := n + 1) (i := 0) (ln := fun j => ([4, 4] : List Nat).getD j 0) (h0 := h) (by omega) ht RI.z (fun _ _ => rfl) rfl rfl rfl rfl (by decide) rfl rfl (by decide) (by decide) (by decide) (Nat.le_of_ble_eq_true rfl) (Nat.le_of_ble_eq_true rfl) rfl (fun h1 a1 R1 o1 => ?_)
  refine mk_row (t := n + 1) (i := 1) (by omega) a1 R1 o1 rfl rfl rfl rfl (by decide) rfl rfl (by decide) (by decide) (by decide) (Nat.le_of_ble_eq_true rfl) (Nat.le_of_ble_eq_true rfl) rfl (fun h2 a2 R2 o2 => ?_)
  refine mz_WP.run 80 rfl ?_
  refine mz_WP.putf rfl (a2) (Nat.le_of_ble_eq_true rfl) (Nat.le_of_ble_eq_true rfl) rfl ?_
  refine mz_WP.run 80 rfl ?_
  refine mz_WP.putf rfl (mz_up_s) (Nat.le_of_ble_eq_true rfl) (Nat.le_of_ble_eq_true rfl) rfl ?_
  refine mz_WP.vret rfl rfl (H _ ⟨mz_up_s, ⟨?_, ?_⟩, ?_, ?_⟩ (fun b hb => (mz_up_n (by omega)).trans ((mz_up_n (by omega)).trans (o2 b (by omega)))))
  · exact (mz_up_n (by omega)).trans ((mz_up_n (by omega)).trans (R2 0 (by decide)).1)
  · exact (mz_up_n (by omega)).trans ((mz_up_n (by omega)).trans (R2 1 (by decide)).1)
  · exact (mz_up_n (by omega)).trans ((mz_up_n (by omega)).trans (R2 0 (by decide)).2)
  · exact (mz_up_n (by omega)).trans ((mz_up_n (by omega)).trans (R2 1 (by decide)).2)
theorem s_init2 (ht : h (n + 1) = .inr (2, mz_df 2)) (H : ∀ h', h' (n + 1) = .inr (2, [.ref (n + 1 + 1 + 2 * 0), .ref (n + 1 + 1 + 2 * 1), .ref (n + 1 + 1 + 2 * 2)]) → RI h' (n + 1) 3 (fun j => ([28, 28, 28] : List Nat).getD j 0) → (∀ b, b < n + 1 ∨ n + 1 + 6 < b → h' b = h b) → Q none (n + 6) h') : mz_wc (e + 3) 11 [.ref (n + 1)] n h Q := by
  refine mz_wc.enter (code := co_X2_init) (idx := 11) rfl rfl (Nat.le_of_ble_eq_true rfl) rfl rfl ?_
  refine mz_WP.run 80 rfl ?_
  refine mz_WP.oi rfl rfl (by omega) (Nat.le_of_ble_eq_true rfl) ?_
  refine mk_row (t := n + 1) (i := 0) (ln := fun j => ([28, 28, 28] : List Nat).getD j 0) (h0 := h) (by omega) ht RI.z (fun _ _ => rfl) rfl rfl rfl rfl (by decide) rfl rfl (by decide) (by decide) (by decide) (Nat.le_of_ble_eq_true rfl) (Nat.le_of_ble_eq_true rfl) rfl (fun h1 a1 R1 o1 => ?_)
  refine mk_row (t := n + 1) (i := 1) (by omega) a1 R1 o1 rfl rfl rfl rfl (by decide) rfl rfl (by decide) (by decide) (by decide) (Nat.le_of_ble_eq_true rfl) (Nat.le_of_ble_eq_true rfl) rfl (fun h2 a2 R2 o2 => ?_)
  refine mk_row (t := n + 1) (i := 2) (by omega) a2 R2 o2 rfl rfl rfl rfl (by decide) rfl rfl (by decide) (by decide) (by decide) (Nat.le_of_ble_eq_true rfl) (Nat.le_of_ble_eq_true rfl) rfl (fun h3 a3 R3 o3 => ?_)
  exact mz_WP.vret rfl rfl (H _ a3 R3 o3)
theorem s_init3 (ht : h (n + 1) = .inr (3, mz_df 3)) (H : ∀ h', h' (n + 1) = .inr (3, [.ref (n + 1 + 1 + 2 * 0), .ref (n + 1 + 1 + 2 * 1), .ref (n + 1 + 1 + 2 * 2), .ref (n + 1 + 1 + 2 * 3), .ref (n + 1 + 1 + 2 * 4), .ref (n + 1 + 1 + 2 * 5), .int (nI 0)]) → RI h' (n + 1) 6 (fun j => ([48, 48, 48, 48, 48, 48] : List Nat).getD j 0) → (∀ b, b < n + 1 ∨ n + 1 + 12 < b → h' b = h b) → Q none (n + 12) h') : mz_wc (e + 3) 19 [.ref (n + 1)] n h Q := by
  refine mz_wc.enter (code := co_X3_init) (idx := 19) rfl rfl (Nat.le_of_ble_eq_true rfl) rfl rfl ?_
  refine mz_WP.run 80 rfl ?_
  refine mz_WP.oi rfl rfl (by omega) (Nat.le_of_ble_eq_true rfl) ?_
  refine mk_row (t := n + 1) (i := 0) (ln := fun j => ([48, 48, 48, 48, 48, 48] : List Nat).getD j 0) (h0 := h) (by omega) ht RI.z (fun _ _ => rfl) rfl rfl rfl rfl (by decide) rfl rfl (by decide) (by decide) (by decide) (Nat.le_of_ble_eq_true rfl) (Nat.le_of_ble_eq_true rfl) rfl (fun h1 a1 R1 o1 => ?_)
  refine mk_row (t := n + 1) (i := 1) (by omega) a1 R1 o1 rfl rfl rfl rfl (by decide) rfl rfl (by decide) (by decide) (by decide) (Nat.le_of_ble_eq_true rfl) (Nat.le_of_ble_eq_true rfl) rfl (fun h2 a2 R2 o2 => ?_)
  refine mk_row (t := n + 1) (i := 2) (by omega) a2 R2 o2 rfl rfl rfl rfl (by decide) rfl rfl (by decide) (by decide) (by decide) (Nat.le_of_ble_eq_true rfl) (Nat.le_of_ble_eq_true rfl) rfl (fun h3 a3 R3 o3 => ?_)
  refine mk_row (t := n + 1) (i := 3) (by omega) a3 R3 o3 rfl rfl rfl rfl (by decide) rfl rfl (by decide) (by decide) (by decide) (Nat.le_of_ble_eq_true rfl) (Nat.le_of_ble_eq_true rfl) rfl (fun h4 a4 R4 o4 => ?_)
  refine mk_row (t := n + 1) (i := 4) (by omega) a4 R4 o4 rfl rfl rfl rfl (by decide) rfl rfl (by decide) (by decide) (by decide) (Nat.le_of_ble_eq_true rfl) (Nat.le_of_ble_eq_true rfl) rfl (fun h5 a5 R5 o5 => ?_)
  refine mk_row (t := n + 1) (i := 5) (by omega) a5 R5 o5 rfl rfl rfl rfl (by decide) rfl rfl (by decide) (by decide) (by decide) (Nat.le_of_ble_eq_true rfl) (Nat.le_of_ble_eq_true rfl) rfl (fun h6 a6 R6 o6 => ?_)
  refine mz_WP.run 80 rfl ?_
  refine mz_WP.putf rfl (a6) (Nat.le_of_ble_eq_true rfl) (Nat.le_of_ble_eq_true rfl) rfl ?_
  exact mz_WP.vret rfl rfl (H _ mz_up_s (fun j hj => ⟨(mz_up_n (by omega)).trans (R6 j hj).1, (mz_up_n (by omega)).trans (R6 j hj).2⟩) (fun b hb => (mz_up_n (by omega)).trans (o6 b (by omega))))
theorem s_init5 (ht : h (n + 1) = .inr (5, mz_df 5)) (H : ∀ h', h' (n + 1) = .inr (5, [.ref (n + 1 + 1 + 2 * 0), .ref (n + 1 + 1 + 2 * 1), .ref (n + 1 + 1 + 2 * 2), .ref (n + 1 + 1 + 2 * 3), .ref (n + 1 + 1 + 2 * 4), .ref (n + 1 + 1 + 2 * 5), .ref (n + 1 + 1 + 2 * 6), .int (nI 0)]) → RI h' (n + 1) 7 (fun j => ([48, 48, 48, 48, 48, 8, 8] : List Nat).getD j 0) → (∀ b, b < n + 1 ∨ n + 1 + 14 < b → h' b = h b) → Q none (n + 14) h') : mz_wc (e + 3) 38 [.ref (n + 1)] n h Q := by
  refine mz_wc.enter (code := co_X5_init) (idx := 38) rfl rfl (Nat.le_of_ble_eq_true rfl) rfl rfl ?_
  refine mz_WP.run 80 rfl ?_
  refine mz_WP.oi rfl rfl (by omega) (Nat.le_of_ble_eq_true rfl) ?_
  refine mk_row (t := n + 1) (i := 0) (ln := fun j => ([48, 48, 48, 48, 48, 8, 8] : List Nat).getD j 0) (h0 := h) (by omega) ht RI.z (fun _ _ => rfl) rfl rfl rfl rfl (by decide) rfl rfl (by decide) (by decide) (by decide) (Nat.le_of_ble_eq_true rfl) (Nat.le_of_ble_eq_true rfl) rfl (fun h1 a1 R1 o1 => ?_)
  refine mk_row (t := n + 1) (i := 1) (by omega) a1 R1 o1 rfl rfl rfl rfl (by decide) rfl rfl (by decide) (by decide) (by decide) (Nat.le_of_ble_eq_true rfl) (Nat.le_of_ble_eq_true rfl) rfl (fun h2 a2 R2 o2 => ?_)
  refine mk_row (t := n + 1) (i := 2) (by omega) a2 R2 o2 rfl rfl rfl rfl (by decide) rfl rfl (by decide) (by decide) (by decide) (Nat.le_of_ble_eq_true rfl) (Nat.le_of_ble_eq_true rfl) rfl (fun h3 a3 R3 o3 => ?_)
  refine mk_row (t := n + 1) (i := 3) (by omega) a3 R3 o3 rfl rfl rfl rfl (by decide) rfl rfl (by decide) (by decide) (by decide) (Nat.le_of_ble_eq_true rfl) (Nat.le_of_ble_eq_true rfl) rfl (fun h4 a4 R4 o4 => ?_)
  refine mk_row (t := n + 1) (i := 4) (by omega) a4 R4 o4 rfl rfl rfl rfl (by decide) rfl rfl (by decide) (by decide) (by decide) (Nat.le_of_ble_eq_true rfl) (Nat.le_of_ble_eq_true rfl) rfl (fun h5 a5 R5 o5 => ?_)
  refine mk_row (t := n + 1) (i := 5) (by omega) a5 R5 o5 rfl rfl rfl rfl (by decide) rfl rfl (by decide) (by decide) (by decide) (Nat.le_of_ble_eq_true rfl) (Nat.le_of_ble_eq_true rfl) rfl (fun h6 a6 R6 o6 => ?_)
  refine mk_row (t := n + 1) (i := 6) (by omega) a6 R6 o6 rfl rfl rfl rfl (by decide) rfl rfl (by decide) (by decide) (by decide) (Nat.le_of_ble_eq_true rfl) (Nat.le_of_ble_eq_true rfl) rfl (fun h7 a7 R7 o7 => ?_)
  refine mz_WP.run 80 rfl ?_
  refine mz_WP.putf rfl (a7) (Nat.le_of_ble_eq_true rfl) (Nat.le_of_ble_eq_true rfl) rfl ?_
  exact mz_WP.vret rfl rfl (H _ mz_up_s (fun j hj => ⟨(mz_up_n (by omega)).trans (R7 j hj).1, (mz_up_n (by omega)).trans (R7 j hj).2⟩) (fun b hb => (mz_up_n (by omega)).trans (o7 b (by omega))))
theorem s_init4 (ht : h (n + 1) = .inr (4, mz_df 4)) (H : ∀ h', h' (n + 1) = .inr (4, [.ref (n + 1 + 1 + 2 * 0), .ref (n + 1 + 1 + 2 * 1), .ref (n + 1 + 1 + 2 * 2), .ref (n + 1 + 1 + 2 * 3), .ref (n + 1 + 1 + 2 * 4)]) → RI h' (n + 1) 5 (fun j => ([29, 29, 28, 4, 28] : List Nat).getD j 0) → (∀ b, b < n + 1 ∨ n + 1 + 10 < b → h' b = h b) → Q none (n + 10) h') : mz_wc (e + 3) 30 [.ref (n + 1)] n h Q := by
  refine mz_wc.enter (code := co_X4_init) (idx := 30) rfl rfl (Nat.le_of_ble_eq_true rfl) rfl rfl ?_
  refine mz_WP.run 80 rfl ?_
  refine mz_WP.oi rfl rfl (by omega) (Nat.le_of_ble_eq_true rfl) ?_
  refine mk_row (t := n + 1) (i := 0) (ln := fun j => ([29, 29, 28, 4, 28] : List Nat).getD j 0) (h0 := h) (by omega) ht RI.z (fun _ _ => rfl) rfl rfl rfl rfl (by decide) rfl rfl (by decide) (by decide) (by decide) (Nat.le_of_ble_eq_true rfl) (Nat.le_of_ble_eq_true rfl) rfl (fun h1 a1 R1 o1 => ?_)
  refine mk_row (t := n + 1) (i := 1) (by omega) a1 R1 o1 rfl rfl rfl rfl (by decide) rfl rfl (by decide) (by decide) (by decide) (Nat.le_of_ble_eq_true rfl) (Nat.le_of_ble_eq_true rfl) rfl (fun h2 a2 R2 o2 => ?_)
  refine mk_row (t := n + 1) (i := 2) (by omega) a2 R2 o2 rfl rfl rfl rfl (by decide) rfl rfl (by decide) (by decide) (by decide) (Nat.le_of_ble_eq_true rfl) (Nat.le_of_ble_eq_true rfl) rfl (fun h3 a3 R3 o3 => ?_)
  refine mk_row (t := n + 1) (i := 3) (by omega) a3 R3 o3 rfl rfl rfl rfl (by decide) rfl rfl (by decide) (by decide) (by decide) (Nat.le_of_ble_eq_true rfl) (Nat.le_of_ble_eq_true rfl) rfl (fun h4 a4 R4 o4 => ?_)
  refine mk_row (t := n + 1) (i := 4) (by omega) a4 R4 o4 rfl rfl rfl rfl (by decide) rfl rfl (by decide) (by decide) (by decide) (Nat.le_of_ble_eq_true rfl) (Nat.le_of_ble_eq_true rfl) rfl (fun h5 a5 R5 o5 => ?_)
  exact mz_WP.vret rfl rfl (H _ a5 R5 o5)
end MK4
