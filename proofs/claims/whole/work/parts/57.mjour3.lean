/-! the reference: the width of a journey; journeys laid -/
section MJ2
variable {e n : Nat} {h : mz_H} {Q : mz_Q} {g : Nat → Int32} {r j : Int32} {kd st sp bg en lm jo fi le wi co : Nat → Int32}
theorem zmin_f {a b : Int32} (h : a ≤ b) : zmin a b = a := if_neg (Int32.not_lt.mpr h)
theorem zmin_t {a b : Int32} (h : ¬ a ≤ b) : zmin a b = b := if_pos (Int32.not_le.mp h)
theorem zmax_f {a b : Int32} (h : b ≤ a) : zmax a b = a := if_neg (Int32.not_lt.mpr h)
theorem zmax_t {a b : Int32} (h : ¬ b ≤ a) : zmax a b = b := if_pos (Int32.not_le.mp h)
theorem m_width {l : List Rde} {jj f c : Nat} (ho : h 186 = mo r j) (hg : h 187 = .inl (0, 423, g)) (h1 : h 191 = .inl (0, 48, st)) (h2 : h 192 = .inl (0, 48, sp)) (h5 : h 195 = .inl (1, 48, lm)) (h7 : h 197 = .inl (0, 48, fi)) (h8 : h 198 = .inl (0, 48, le)) (hf : fi jj = nI f) (hle : le jj = nI c) (hjj : jj < 48) (hfc : f + c ≤ l.length) (hc1 : 1 ≤ c) (hl : l.length ≤ 48) (R : RepA l st sp bg en kd) (M : LmP l lm) (RPs : ∀ p ∈ l, RP p) (hz : znP (rat 8 (zG g))) (H : Q (some (.int (jwid (jseg (rat 8 (zG g)) l f c)))) n h) : mz_wc (e + 2) 140 [.ref 186, .int (nI jj)] n h Q := by
  refine mz_wc.enter (code := co_X11_widthOf) (idx := 140) rfl rfl (Nat.le_of_ble_eq_true rfl) rfl rfl ?_
  refine mz_WP.run 80 rfl ?_
  refine mz_WP.getf rfl (ho) rfl (Nat.le_of_ble_eq_true rfl) ?_
  refine mz_WP.run 80 rfl ?_
  refine mz_WP.alN rfl h7 rfl hjj (by decide) ?_
  rw [hf]
  refine mz_WP.run 1 rfl ?_
  have loop : ∀ q i x5 x6, i + q = c → mz_WP (mz_wc (e + 1)) (e + 1) 1 co_X11_widthOf Q 12 [some (.ref 186), some (.int (nI jj)), some (.int (jseg (rat 8 (zG g)) l f i).2.2.1), some (.int (jseg (rat 8 (zG g)) l f i).2.2.2), some (.int (nI (f + i))), x5, x6] [] n h 0 0 := by
    intro q
    induction q with
    | zero =>
      intro i x5 x6 hi
      have hi : i = c := by omega
      subst hi
      refine mz_WP.run 80 rfl ?_
      refine mz_WP.getf rfl (ho) rfl (Nat.le_of_ble_eq_true rfl) ?_
      refine mz_WP.run 80 rfl ?_
      refine mz_WP.alN rfl h7 rfl hjj (by decide) ?_
      refine mz_WP.run 80 rfl ?_
      refine mz_WP.getf rfl (ho) rfl (Nat.le_of_ble_eq_true rfl) ?_
      refine mz_WP.run 80 rfl ?_
      refine mz_WP.alN rfl h8 rfl hjj (by decide) ?_
      rw [hf, hle]
      refine mz_WP.run 80 rfl ?_
      rw [nI_add]
      refine mz_WP.icmp rfl (fun cc => ?_) (fun cc => ?_)
      · refine mz_WP.run 80 rfl ?_
        exact mz_WP.ret rfl rfl H
      · exact absurd (nI_le (Nat.le_refl _) (by omega)) cc
    | succ q ih =>
      intro i x5 x6 hi
      obtain ⟨p, hp⟩ := geti (show f + i < l.length by omega)
      obtain ⟨a1, a2, a3, a4, a5⟩ := R _ p hp
      have hm := M _ p hp
      have hRP := RPs p (List.mem_of_getElem? hp)
      refine mz_WP.run 80 rfl ?_
      refine mz_WP.getf rfl (ho) rfl (Nat.le_of_ble_eq_true rfl) ?_
      refine mz_WP.run 80 rfl ?_
      refine mz_WP.alN rfl h7 rfl hjj (by decide) ?_
      refine mz_WP.run 80 rfl ?_
      refine mz_WP.getf rfl (ho) rfl (Nat.le_of_ble_eq_true rfl) ?_
      refine mz_WP.run 80 rfl ?_
      refine mz_WP.alN rfl h8 rfl hjj (by decide) ?_
      rw [hf, hle]
      refine mz_WP.run 80 rfl ?_
      rw [nI_add]
      refine mz_WP.icmp rfl (fun cc => ?_) (fun cc => ?_)
      · exact absurd cc (nI_ge (by omega) (by omega))
      refine mz_WP.run 80 rfl ?_
      refine mz_WP.getf rfl (ho) rfl (Nat.le_of_ble_eq_true rfl) ?_
      refine mz_WP.run 80 rfl ?_
      refine mz_WP.blN rfl h5 rfl (by omega) (by decide) ?_
      rw [hm]
      refine mz_WP.ifc rfl (fun cl => ?_) (fun cl => ?_)
      rotate_left
      · have cl := bI_t cl
        obtain ⟨w, -, -, w3, w4⟩ := jseg_w hz RPs hfc hc1
        rw [w3, w4 ⟨i, p, by omega, hp, cl⟩] at H
        refine mz_WP.run 80 rfl ?_
        exact mz_WP.ret rfl rfl H
      have cl := bI_f cl
      obtain ⟨a, b, ha, hb, ea, eb⟩ := hRP.st cl
      have hs := jseg_s (zn := rat 8 (zG g)) hp
      have za : zoneA (rat 8 (zG g)) p = rat 8 (zG g) (nI a) := by
        unfold zoneA
        rw [cl, if_neg (by decide), ea]
      have zz : zoneZ (rat 8 (zG g)) p = rat 8 (zG g) (nI b) := by
        unfold zoneZ
        rw [cl, if_neg (by decide), eb]
      have nx := fun x5 x6 => ih (i + 1) x5 x6 (by omega)
      rw [hs] at nx
      have nx : ∀ x5 x6, mz_WP (mz_wc (e + 1)) (e + 1) 1 co_X11_widthOf Q 12 [some (.ref 186), some (.int (nI jj)), some (.int (zmin (zmin (jseg (rat 8 (zG g)) l f i).2.2.1 (zoneA (rat 8 (zG g)) p)) (zoneZ (rat 8 (zG g)) p))), some (.int (zmax (zmax (jseg (rat 8 (zG g)) l f i).2.2.2 (zoneA (rat 8 (zG g)) p)) (zoneZ (rat 8 (zG g)) p))), some (.int (nI (f + i + 1))), x5, x6] [] n h 0 0 := nx
      rw [za, zz] at nx
      generalize hA : rat 8 (zG g) (nI a) = A at nx
      generalize hB : rat 8 (zG g) (nI b) = B at nx
      generalize (jseg (rat 8 (zG g)) l f i).2.2.1 = L0 at nx ⊢
      generalize (jseg (rat 8 (zG g)) l f i).2.2.2 = M0 at nx ⊢
      refine mz_WP.run 80 rfl ?_
      refine mz_WP.getf rfl (ho) rfl (Nat.le_of_ble_eq_true rfl) ?_
      refine mz_WP.run 80 rfl ?_
      refine mz_WP.alN rfl h1 rfl (by omega) (by decide) ?_
      rw [a2, ea]
      refine mz_WP.cv rfl rfl (Nat.le_of_ble_eq_true rfl) rfl (ho) rfl (m_zoneOf ho hg ha ?_)
      rw [hA]
      refine mz_WP.run 80 rfl ?_
      refine mz_WP.getf rfl (ho) rfl (Nat.le_of_ble_eq_true rfl) ?_
      refine mz_WP.run 80 rfl ?_
      refine mz_WP.alN rfl h2 rfl (by omega) (by decide) ?_
      rw [a3, eb]
      refine mz_WP.cv rfl rfl (Nat.le_of_ble_eq_true rfl) rfl (ho) rfl (m_zoneOf ho hg hb ?_)
      rw [hB]
      have k4 : mz_WP (mz_wc (e + 1)) (e + 1) 1 co_X11_widthOf Q 107 [some (.ref 186), some (.int (nI jj)), some (.int (zmin (zmin L0 A) B)), some (.int (zmax M0 A)), some (.int (nI (f + i))), some (.int A), some (.int B)] [] n h 0 0 := by
        have nx := nx (some (.int A)) (some (.int B))
        rw [nI_succ (f + i)] at nx
        refine mz_WP.run 80 rfl ?_
        refine mz_WP.icmp rfl (fun c => ?_) (fun c => ?_)
        · rw [zmax_f c] at nx
          refine mz_WP.run 80 rfl ?_
          exact nx
        · rw [zmax_t c] at nx
          refine mz_WP.run 80 rfl ?_
          refine mz_WP.run 80 rfl ?_
          exact nx
      have k3 : mz_WP (mz_wc (e + 1)) (e + 1) 1 co_X11_widthOf Q 94 [some (.ref 186), some (.int (nI jj)), some (.int (zmin (zmin L0 A) B)), some (.int M0), some (.int (nI (f + i))), some (.int A), some (.int B)] [] n h 0 0 := by
        refine mz_WP.run 80 rfl ?_
        refine mz_WP.icmp rfl (fun c => ?_) (fun c => ?_)
        · rw [zmax_f c] at k4
          refine mz_WP.run 2 rfl ?_
          exact k4
        · rw [zmax_t c] at k4
          refine mz_WP.run 2 rfl ?_
          refine mz_WP.run 1 rfl ?_
          exact k4
      have k2 : mz_WP (mz_wc (e + 1)) (e + 1) 1 co_X11_widthOf Q 81 [some (.ref 186), some (.int (nI jj)), some (.int (zmin L0 A)), some (.int M0), some (.int (nI (f + i))), some (.int A), some (.int B)] [] n h 0 0 := by
        refine mz_WP.run 80 rfl ?_
        refine mz_WP.icmp rfl (fun c => ?_) (fun c => ?_)
        · rw [zmin_f c] at k3
          refine mz_WP.run 2 rfl ?_
          exact k3
        · rw [zmin_t c] at k3
          refine mz_WP.run 2 rfl ?_
          refine mz_WP.run 1 rfl ?_
          exact k3
      refine mz_WP.run 80 rfl ?_
      refine mz_WP.icmp rfl (fun c => ?_) (fun c => ?_)
      · rw [zmin_f c] at k2
        refine mz_WP.run 2 rfl ?_
        exact k2
      · rw [zmin_t c] at k2
        refine mz_WP.run 2 rfl ?_
        refine mz_WP.run 1 rfl ?_
        exact k2
  exact loop c 0 _ _ (by omega)
end MJ2
