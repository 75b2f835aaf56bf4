/-! the makers of the class -/
def zf : Nat → Int32 := fun _ => 0
def RI (h : mz_H) (t i : Nat) (ln : Nat → Nat) : Prop := ∀ j, j < i → h (t + 1 + 2 * j) = .inr (6, [.ref (t + 2 + 2 * j)]) ∧ h (t + 2 + 2 * j) = .inl (0, ln j, zf)
section MK
variable {e d rk n : Nat} {code : List mz_I} {h h0 : mz_H} {Q : mz_Q} {L : List (Option Value)} {bc bs : Nat}
theorem s_rowinit {k : Nat} (hk : k ≤ 1000) (hr : h (n + 1) = .inr (6, [.null])) (H : ∀ h', h' (n + 1) = .inr (6, [.ref (n + 2)]) → h' (n + 2) = .inl (0, k, zf) → (∀ b, b ≠ n + 1 → b ≠ n + 2 → h' b = h b) → Q none (n + 1) h') : mz_wc (e + 2) 50 [.ref (n + 1), .int (nI k)] n h Q := by
  have hck : (nI k).toNatClampNeg = k := nI_clamp (by omega)
  refine mz_wc.enter (code := co_X6_init) (idx := 50) rfl rfl (Nat.le_of_ble_eq_true rfl) rfl rfl ?_
  refine mz_WP.run 80 rfl ?_
  refine mz_WP.oi rfl rfl (by omega) (Nat.le_of_ble_eq_true rfl) ?_
  refine mz_WP.run 80 rfl ?_
  refine mz_WP.ifc rfl (fun c => ?_) (fun c => ?_)
  · refine mz_WP.run 80 rfl ?_
    refine mz_WP.newI rfl (nI_pos (by omega)) (by rw [hck]; exact hk) (Nat.le_refl 1) (Nat.le_refl _) ?_
    rw [hck]
    refine mz_WP.putf rfl ((mz_up_n (by omega)).trans hr) (Nat.le_of_ble_eq_true rfl) (Nat.le_of_ble_eq_true rfl) rfl ?_
    refine mz_WP.vret rfl rfl (H _ mz_up_s ((mz_up_n (by omega)).trans mz_up_s) (fun b h1 h2 => (mz_up_n h1).trans (mz_up_n h2)))
  · exact absurd (nI_pos' (by omega)) c
/-- a row into a field of the object at t, whose i rows stand already -/
theorem mk_row {t i k ci y cp cp3 cp4 len1 len3 len4 y0 y3 pc pc1 pc2 : Nat} {ln : Nat → Nat} {fs : List Value} (hn : n + 1 = t + 2 * i) (ha : h t = .inr (ci, fs)) (R : RI h t i ln) (o : ∀ b, b < t ∨ t + 2 * i < b → h b = h0 b) (hr0 : mz_run code 1 pc L [] = (pc1, L, [.ref t])) (l1 : mz_lk code pc1 = some (.new cp, len1, 6, y0)) (hr2 : mz_run code 2 (pc1 + 3) L [.ref (n + 2), .ref t] = (pc2, L, [.int (nI k), .ref (n + 2), .ref (n + 2), .ref t])) (l3 : mz_lk code pc2 = some (.invokespecial cp3, len3, 50, y3)) (hy3 : ¬ y3 = 6) (l4 : mz_lk code (pc2 + 3) = some (.putfield cp4, len4, ci, y)) (hk : ln i = k) (hk2 : k ≤ 1000) (b1 : 2 ≤ bc) (b2 : 1 + k ≤ bs) (hy : y < mz_N ci) (hy2 : y < fs.length) (ht : mz_vt (mz_ty ci y) (.ref 0) = true) (H : ∀ h', h' t = .inr (ci, fs.set y (.ref (t + 1 + 2 * i))) → RI h' t (i + 1) ln → (∀ b, b < t ∨ t + 2 * (i + 1) < b → h' b = h0 b) → mz_WP (mz_wc (e + 2)) d rk code Q (pc2 + 6) L [] (n + 2) h' (bc - 2) (bs - (1 + k))) : mz_WP (mz_wc (e + 2)) d rk code Q pc L [] n h bc bs := by
  have hck : (nI k).toNatClampNeg = k := nI_clamp (by omega)
  refine mz_WP.run 1 hr0 ?_
  refine mz_WP.new l1 (by decide) (by omega) (by show 1 ≤ bs; omega) ?_
  refine mz_WP.run 2 hr2 ?_
  refine mz_WP.ci (as := [.ref (n + 1 + 1), .int (nI k)]) (r := [.ref (n + 2), .ref t]) (mc := 1) (ms := k) l3 hy3 rfl (Nat.le_of_ble_eq_true rfl) rfl (by show (1, (nI k).toNatClampNeg) = _; rw [hck]) (by omega) (by show k ≤ bs - 1; omega) ?_
  refine s_rowinit hk2 mz_up_s (fun h' e1 e2 e3 => ?_)
  have htv : mz_vt (mz_ty ci y) (.ref (n + 2)) = true := by
    revert ht
    cases mz_ty ci y <;> exact id
  have hat : h' t = .inr (ci, fs) := (e3 t (by omega) (by omega)).trans ((mz_up_n (by omega)).trans ha)
  refine mz_WP.putf l4 hat hy hy2 htv ?_
  have hfin := H (mz_up h' t (.inr (ci, fs.set y (.ref (n + 2))))) (by rw [mz_up_s, show t + 1 + 2 * i = n + 2 by omega]) (fun j hj => ?_) (fun b hb => ?_)
  · rw [show bc - 2 = bc - 1 - 1 by omega, show bs - (1 + k) = bs - mz_N 6 - k by show _ = bs - 1 - k; omega] at hfin
    exact hfin
  · rw [mz_up_n (by omega), mz_up_n (by omega)]
    by_cases hji : j = i
    · subst hji
      rw [show t + 1 + 2 * j = n + 1 + 1 by omega, show t + 2 + 2 * j = n + 1 + 2 by omega, hk]
      exact ⟨e1, e2⟩
    · rw [e3 _ (by omega) (by omega), e3 _ (by omega) (by omega), mz_up_n (by omega), mz_up_n (by omega)]
      exact R j (by omega)
  · rw [mz_up_n (by omega), e3 b (by omega) (by omega), mz_up_n (by omega)]
    exact o b (by omega)
end MK
section MK2
variable {e n : Nat} {h : mz_H} {Q : mz_Q}
theorem RI.z {t : Nat} {ln : Nat → Nat} : RI h t 0 ln := fun j hj => by omega
theorem s_tapinit (hn : 1 ≤ n) (ht : h (n + 1) = .inr (8, mz_df 8)) (H : ∀ h', TA h' (n + 1) (nI 0) zf zf zf → (∀ b, b < n + 1 ∨ n + 1 + 6 < b → h' b = h b) → Q none (n + 6) h') : mz_wc (e + 3) 60 [.ref (n + 1)] n h Q := by
  refine mz_wc.enter (code := co_X8_init) (idx := 60) rfl rfl (Nat.le_of_ble_eq_true rfl) rfl rfl ?_
  refine mz_WP.run 80 rfl ?_
  refine mz_WP.oi rfl rfl (by omega) (Nat.le_of_ble_eq_true rfl) ?_
  refine mk_row (t := n + 1) (i := 0) (ln := fun _ => 48) (h0 := h) (by omega) ht RI.z (fun _ _ => rfl) rfl rfl rfl rfl (by decide) rfl rfl (by decide) (by decide) (by decide) (Nat.le_of_ble_eq_true rfl) (Nat.le_of_ble_eq_true rfl) rfl (fun h1 a1 R1 o1 => ?_)
  refine mk_row (t := n + 1) (i := 1) (by omega) a1 R1 o1 rfl rfl rfl rfl (by decide) rfl rfl (by decide) (by decide) (by decide) (Nat.le_of_ble_eq_true rfl) (Nat.le_of_ble_eq_true rfl) rfl (fun h2 a2 R2 o2 => ?_)
  refine mk_row (t := n + 1) (i := 2) (by omega) a2 R2 o2 rfl rfl rfl rfl (by decide) rfl rfl (by decide) (by decide) (by decide) (Nat.le_of_ble_eq_true rfl) (Nat.le_of_ble_eq_true rfl) rfl (fun h3 a3 R3 o3 => ?_)
  refine mz_WP.run 80 rfl ?_
  refine mz_WP.putf rfl (a3) (Nat.le_of_ble_eq_true rfl) (Nat.le_of_ble_eq_true rfl) rfl ?_
  refine mz_WP.vret rfl rfl (H _ ⟨⟨?_, ?_, ?_, ?_⟩, ?_, ?_, ?_, ?_⟩ (fun b hb => (mz_up_n (by omega)).trans (o3 b (by omega))))
  · omega
  · exact (mz_up_n (by omega)).trans (R3 0 (by decide)).1
  · exact (mz_up_n (by omega)).trans (R3 1 (by decide)).1
  · exact (mz_up_n (by omega)).trans (R3 2 (by decide)).1
  · exact mz_up_s
  · exact (mz_up_n (by omega)).trans (R3 0 (by decide)).2
  · exact (mz_up_n (by omega)).trans (R3 1 (by decide)).2
  · exact (mz_up_n (by omega)).trans (R3 2 (by decide)).2
end MK2
