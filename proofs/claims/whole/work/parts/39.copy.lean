/-! the class: copies of all that lasts -/
section CP
variable {e n : Nat} {h : mz_H} {Q : mz_Q} {g : Nat → Int32} {t t2 : Nat} {z z2 : Int32} {m s w m2 s2 w2 : Nat → Int32} {a a2 : Nat}
theorem tp_F (F : Fx h) (f0 : fxt t = none) (f2 : fxt (t + 2) = none) (f4 : fxt (t + 4) = none) (f6 : fxt (t + 6) = none) : Fx (tpH h t z m s w) := by
  intro b x hx
  have hne : ∀ q, fxt q = none → b ≠ q := fun q hq e => by rw [e, hq] at hx; cases hx
  rw [tp_n (hne _ f0) (hne _ f2) (hne _ f4) (hne _ f6)]
  exact F b x hx
theorem s_tcpy (F : tpF h t) (T2 : TA h t2 z2 m2 s2 w2) (hd : t + 6 < t2 ∨ t2 + 6 < t) (H : Q none n (tpH h t z2 (rcpy 48 m m2) (rcpy 48 s s2) (rcpy 48 w w2))) : mz_wc (e + 3) 70 [.ref t, .ref t2] n (tpH h t z m s w) Q := by
  have h2 := F.1
  have T : ∀ {z m s w}, TA (tpH h t z m s w) t2 z2 m2 s2 w2 := T2.to (fun b h1 h2 => tp_n (by omega) (by omega) (by omega) (by omega))
  refine mz_wc.enter (code := co_X8_copyFrom) (idx := 70) rfl rfl (Nat.le_of_ble_eq_true rfl) rfl rfl ?_
  refine mz_WP.run 80 rfl ?_
  refine mz_WP.getf rfl (tp_o) rfl (Nat.le_of_ble_eq_true rfl) ?_
  refine mz_WP.run 80 rfl ?_
  refine mz_WP.getf rfl (T.2.1) rfl (Nat.le_of_ble_eq_true rfl) ?_
  refine mz_WP.cv rfl rfl (Nat.le_of_ble_eq_true rfl) rfl (tp_1 F) rfl (s_cpy (tp_1 F) tp_2 (by omega) (by decide) T.1.2.1 T.2.2.1 (by omega) ?_)
  rw [tp_u2]
  refine mz_WP.run 80 rfl ?_
  refine mz_WP.getf rfl (tp_o) rfl (Nat.le_of_ble_eq_true rfl) ?_
  refine mz_WP.run 80 rfl ?_
  refine mz_WP.getf rfl (T.2.1) rfl (Nat.le_of_ble_eq_true rfl) ?_
  refine mz_WP.cv rfl rfl (Nat.le_of_ble_eq_true rfl) rfl (tp_3 F) rfl (s_cpy (tp_3 F) tp_4 (by omega) (by decide) T.1.2.2.1 T.2.2.2.1 (by omega) ?_)
  rw [tp_u4]
  refine mz_WP.run 80 rfl ?_
  refine mz_WP.getf rfl (tp_o) rfl (Nat.le_of_ble_eq_true rfl) ?_
  refine mz_WP.run 80 rfl ?_
  refine mz_WP.getf rfl (T.2.1) rfl (Nat.le_of_ble_eq_true rfl) ?_
  refine mz_WP.cv rfl rfl (Nat.le_of_ble_eq_true rfl) rfl (tp_5 F) rfl (s_cpy (tp_5 F) tp_6 (by omega) (by decide) T.1.2.2.2 T.2.2.2.2 (by omega) ?_)
  rw [tp_u6]
  refine mz_WP.run 80 rfl ?_
  refine mz_WP.getf rfl (T.2.1) rfl (Nat.le_of_ble_eq_true rfl) ?_
  refine mz_WP.putf rfl (tp_o) (Nat.le_of_ble_eq_true rfl) (Nat.le_of_ble_eq_true rfl) rfl ?_
  refine mz_WP.vret rfl rfl ?_
  show Q none n (mz_up _ t (.inr (8, [.ref (t + 1), .ref (t + 3), .ref (t + 5), .int z2])))
  rw [tp_u0]
  exact H
theorem r_tcpy (T1 : TA h t z m s w) (T2 : TA h t2 z2 m2 s2 w2) (hd : t + 6 < t2 ∨ t2 + 6 < t) (H : ∀ m' s' w' : Nat → Int32, (∀ j, j < 48 → m' j = m2 j ∧ s' j = s2 j ∧ w' j = w2 j) → Q none n (tpH h t z2 m' s' w')) : mz_wc (e + 3) 70 [.ref t, .ref t2] n h Q := by
  have := s_tcpy (e := e) (n := n) (Q := Q) (z := z) (m := m) (s := s) (w := w) T1.1 T2 hd (H _ _ _ (fun j hj => ⟨if_pos hj, if_pos hj, if_pos hj⟩))
  rw [T1.eq] at this
  exact this
theorem rat_cpy {m : Nat} (hm : m < 2 ^ 31) {f g : Nat → Int32} : rat m (rcpy m f g) = rat m g := rat_c hm (fun j hj => if_pos hj)
theorem s_prcpy {zr fr cr wr zr2 fr2 cr2 wr2 : Nat → Int32} {mo ne mo2 ne2 : Int32} (T : TrA h a zr fr cr wr mo ne) (T2 : TrA h a2 zr2 fr2 cr2 wr2 mo2 ne2) (h2 : 2 ≤ a) (hd : a + 8 < a2 ∨ a2 + 8 < a) (fx : fxt a = none ∧ fxt (a + 2) = none ∧ fxt (a + 4) = none ∧ fxt (a + 6) = none ∧ fxt (a + 8) = none) (H : ∀ h', TrA h' a (rcpy 8 zr zr2) (rcpy 6 fr fr2) (rcpy 6 cr cr2) (rcpy 6 wr wr2) mo2 ne2 → (∀ b, b < a ∨ a + 8 < b → h' b = h b) → (Fx h → Fx h') → Q none n h') : mz_wc (e + 3) 80 [.ref a, .ref a2] n h Q := by
  obtain ⟨x0, x2, x4, x6, x8⟩ := fx
  refine mz_wc.enter (code := co_X9_copyFrom) (idx := 80) rfl rfl (Nat.le_of_ble_eq_true rfl) rfl rfl ?_
  refine mz_WP.run 80 rfl ?_
  refine mz_WP.getf rfl (T.1) rfl (Nat.le_of_ble_eq_true rfl) ?_
  refine mz_WP.run 80 rfl ?_
  refine mz_WP.getf rfl (T2.1) rfl (Nat.le_of_ble_eq_true rfl) ?_
  refine mz_WP.cv rfl rfl (Nat.le_of_ble_eq_true rfl) rfl (T.2.1.1) rfl (s_cpy T.2.1.1 T.2.2.1 (by omega) (by decide) T2.2.1.1 T2.2.2.1 (by omega) ?_)
  have U1 := T.u2 (f := rcpy 8 zr zr2)
  have o1 : ∀ b, b < a ∨ a + 8 < b → mz_up h (a + 2) (.inl (0, 8, rcpy 8 zr zr2)) b = h b := fun b hb => mz_up_n (by omega)
  have f1 : Fx h → Fx (mz_up h (a + 2) (.inl (0, 8, rcpy 8 zr zr2))) := fun F => F.up x2
  have V1 := T2.to (h' := mz_up h (a + 2) (.inl (0, 8, rcpy 8 zr zr2))) (fun b h1 h2 => o1 b (by omega))
  generalize mz_up h (a + 2) (.inl (0, 8, rcpy 8 zr zr2)) = h1 at U1 o1 f1 V1 ⊢
  refine mz_WP.run 80 rfl ?_
  refine mz_WP.getf rfl (U1.1) rfl (Nat.le_of_ble_eq_true rfl) ?_
  refine mz_WP.run 80 rfl ?_
  refine mz_WP.getf rfl (V1.1) rfl (Nat.le_of_ble_eq_true rfl) ?_
  refine mz_WP.cv rfl rfl (Nat.le_of_ble_eq_true rfl) rfl (U1.2.1.2.1) rfl (s_cpy U1.2.1.2.1 U1.2.2.2.1 (by omega) (by decide) V1.2.1.2.1 V1.2.2.2.1 (by omega) ?_)
  have U2 := U1.u4 (f := rcpy 6 fr fr2)
  have o2 : ∀ b, b < a ∨ a + 8 < b → mz_up h1 (a + 4) (.inl (0, 6, rcpy 6 fr fr2)) b = h b := fun b hb => (mz_up_n (by omega)).trans (o1 b hb)
  have f2 : Fx h → Fx (mz_up h1 (a + 4) (.inl (0, 6, rcpy 6 fr fr2))) := fun F => (f1 F).up x4
  have V2 := T2.to (h' := mz_up h1 (a + 4) (.inl (0, 6, rcpy 6 fr fr2))) (fun b h1 h2 => o2 b (by omega))
  generalize mz_up h1 (a + 4) (.inl (0, 6, rcpy 6 fr fr2)) = h2 at U2 o2 f2 V2 ⊢
  refine mz_WP.run 80 rfl ?_
  refine mz_WP.getf rfl (U2.1) rfl (Nat.le_of_ble_eq_true rfl) ?_
  refine mz_WP.run 80 rfl ?_
  refine mz_WP.getf rfl (V2.1) rfl (Nat.le_of_ble_eq_true rfl) ?_
  refine mz_WP.cv rfl rfl (Nat.le_of_ble_eq_true rfl) rfl (U2.2.1.2.2.1) rfl (s_cpy U2.2.1.2.2.1 U2.2.2.2.2.1 (by omega) (by decide) V2.2.1.2.2.1 V2.2.2.2.2.1 (by omega) ?_)
  have U3 := U2.u6 (f := rcpy 6 cr cr2)
  have o3 : ∀ b, b < a ∨ a + 8 < b → mz_up h2 (a + 6) (.inl (0, 6, rcpy 6 cr cr2)) b = h b := fun b hb => (mz_up_n (by omega)).trans (o2 b hb)
  have f3 : Fx h → Fx (mz_up h2 (a + 6) (.inl (0, 6, rcpy 6 cr cr2))) := fun F => (f2 F).up x6
  have V3 := T2.to (h' := mz_up h2 (a + 6) (.inl (0, 6, rcpy 6 cr cr2))) (fun b h1 h2 => o3 b (by omega))
  generalize mz_up h2 (a + 6) (.inl (0, 6, rcpy 6 cr cr2)) = h3 at U3 o3 f3 V3 ⊢
  refine mz_WP.run 80 rfl ?_
  refine mz_WP.getf rfl (U3.1) rfl (Nat.le_of_ble_eq_true rfl) ?_
  refine mz_WP.run 80 rfl ?_
  refine mz_WP.getf rfl (V3.1) rfl (Nat.le_of_ble_eq_true rfl) ?_
  refine mz_WP.cv rfl rfl (Nat.le_of_ble_eq_true rfl) rfl (U3.2.1.2.2.2) rfl (s_cpy U3.2.1.2.2.2 U3.2.2.2.2.2 (by omega) (by decide) V3.2.1.2.2.2 V3.2.2.2.2.2 (by omega) ?_)
  have U4 := U3.u8 (f := rcpy 6 wr wr2)
  have o4 : ∀ b, b < a ∨ a + 8 < b → mz_up h3 (a + 8) (.inl (0, 6, rcpy 6 wr wr2)) b = h b := fun b hb => (mz_up_n (by omega)).trans (o3 b hb)
  have f4 : Fx h → Fx (mz_up h3 (a + 8) (.inl (0, 6, rcpy 6 wr wr2))) := fun F => (f3 F).up x8
  have V4 := T2.to (h' := mz_up h3 (a + 8) (.inl (0, 6, rcpy 6 wr wr2))) (fun b h1 h2 => o4 b (by omega))
  generalize mz_up h3 (a + 8) (.inl (0, 6, rcpy 6 wr wr2)) = h4 at U4 o4 f4 V4 ⊢
  refine mz_WP.run 80 rfl ?_
  refine mz_WP.getf rfl (V4.1) rfl (Nat.le_of_ble_eq_true rfl) ?_
  refine mz_WP.putf rfl (U4.1) (Nat.le_of_ble_eq_true rfl) (Nat.le_of_ble_eq_true rfl) rfl ?_
  show mz_WP _ _ _ _ _ _ _ _ _ (mz_up h4 a (.inr (9, [.ref (a + 1), .ref (a + 3), .ref (a + 5), .ref (a + 7), .int mo2, .int ne]))) _ _
  have U5' := U4.u0 (x := mo2) (y := ne)
  have V5 := V4.to (h' := mz_up h4 a (.inr (9, [.ref (a + 1), .ref (a + 3), .ref (a + 5), .ref (a + 7), .int mo2, .int ne]))) (fun b h1 h2 => mz_up_n (by omega))
  refine mz_WP.run 80 rfl ?_
  refine mz_WP.getf rfl (V5.1) rfl (Nat.le_of_ble_eq_true rfl) ?_
  refine mz_WP.putf rfl (U5'.1) (Nat.le_of_ble_eq_true rfl) (Nat.le_of_ble_eq_true rfl) rfl ?_
  refine mz_WP.vret rfl rfl ?_
  show Q none n (mz_up _ a (.inr (9, [.ref (a + 1), .ref (a + 3), .ref (a + 5), .ref (a + 7), .int mo2, .int ne2])))
  rw [mz_up_up]
  exact H _ U4.u0 (fun b hb => (mz_up_n (by omega)).trans (o4 b hb)) (fun F => (f4 F).up x0)
theorem s_blcpy {nb bb nb2 bb2 : Nat → Int32} {nu ba nu2 ba2 : Int32} (T : BlA h a nb bb nu ba) (T2 : BlA h a2 nb2 bb2 nu2 ba2) (h2 : 2 ≤ a) (hd : a + 4 < a2 ∨ a2 + 4 < a) (fx : fxt a = none ∧ fxt (a + 2) = none ∧ fxt (a + 4) = none) (H : ∀ h', BlA h' a (rcpy 4 nb nb2) (rcpy 4 bb bb2) nu2 ba2 → (∀ b, b < a ∨ a + 4 < b → h' b = h b) → (Fx h → Fx h') → Q none n h') : mz_wc (e + 3) 8 [.ref a, .ref a2] n h Q := by
  obtain ⟨x0, x2, x4⟩ := fx
  refine mz_wc.enter (code := co_X0_copyFrom) (idx := 8) rfl rfl (Nat.le_of_ble_eq_true rfl) rfl rfl ?_
  refine mz_WP.run 80 rfl ?_
  refine mz_WP.getf rfl (T.1) rfl (Nat.le_of_ble_eq_true rfl) ?_
  refine mz_WP.run 80 rfl ?_
  refine mz_WP.getf rfl (T2.1) rfl (Nat.le_of_ble_eq_true rfl) ?_
  refine mz_WP.cv rfl rfl (Nat.le_of_ble_eq_true rfl) rfl (T.2.1.1) rfl (s_cpy T.2.1.1 T.2.2.1 (by omega) (by decide) T2.2.1.1 T2.2.2.1 (by omega) ?_)
  have U1 := T.u2 (f := rcpy 4 nb nb2)
  have o1 : ∀ b, b < a ∨ a + 4 < b → mz_up h (a + 2) (.inl (0, 4, rcpy 4 nb nb2)) b = h b := fun b hb => mz_up_n (by omega)
  have f1 : Fx h → Fx (mz_up h (a + 2) (.inl (0, 4, rcpy 4 nb nb2))) := fun F => F.up x2
  have V1 := T2.to (h' := mz_up h (a + 2) (.inl (0, 4, rcpy 4 nb nb2))) (fun b h1 h2 => o1 b (by omega))
  generalize mz_up h (a + 2) (.inl (0, 4, rcpy 4 nb nb2)) = h1 at U1 o1 f1 V1 ⊢
  refine mz_WP.run 80 rfl ?_
  refine mz_WP.getf rfl (U1.1) rfl (Nat.le_of_ble_eq_true rfl) ?_
  refine mz_WP.run 80 rfl ?_
  refine mz_WP.getf rfl (V1.1) rfl (Nat.le_of_ble_eq_true rfl) ?_
  refine mz_WP.cv rfl rfl (Nat.le_of_ble_eq_true rfl) rfl (U1.2.1.2) rfl (s_cpy U1.2.1.2 U1.2.2.2 (by omega) (by decide) V1.2.1.2 V1.2.2.2 (by omega) ?_)
  have U2 := U1.u4 (f := rcpy 4 bb bb2)
  have o2 : ∀ b, b < a ∨ a + 4 < b → mz_up h1 (a + 4) (.inl (0, 4, rcpy 4 bb bb2)) b = h b := fun b hb => (mz_up_n (by omega)).trans (o1 b hb)
  have f2 : Fx h → Fx (mz_up h1 (a + 4) (.inl (0, 4, rcpy 4 bb bb2))) := fun F => (f1 F).up x4
  have V2 := T2.to (h' := mz_up h1 (a + 4) (.inl (0, 4, rcpy 4 bb bb2))) (fun b h1 h2 => o2 b (by omega))
  generalize mz_up h1 (a + 4) (.inl (0, 4, rcpy 4 bb bb2)) = h2 at U2 o2 f2 V2 ⊢
  refine mz_WP.run 80 rfl ?_
  refine mz_WP.getf rfl (V2.1) rfl (Nat.le_of_ble_eq_true rfl) ?_
  refine mz_WP.putf rfl (U2.1) (Nat.le_of_ble_eq_true rfl) (Nat.le_of_ble_eq_true rfl) rfl ?_
  show mz_WP _ _ _ _ _ _ _ _ _ (mz_up h2 a (.inr (0, [.ref (a + 1), .ref (a + 3), .int nu2, .int ba]))) _ _
  have U5' := U2.u0 (x := nu2) (y := ba)
  have V5 := V2.to (h' := mz_up h2 a (.inr (0, [.ref (a + 1), .ref (a + 3), .int nu2, .int ba]))) (fun b h1 h2 => mz_up_n (by omega))
  refine mz_WP.run 80 rfl ?_
  refine mz_WP.getf rfl (V5.1) rfl (Nat.le_of_ble_eq_true rfl) ?_
  refine mz_WP.putf rfl (U5'.1) (Nat.le_of_ble_eq_true rfl) (Nat.le_of_ble_eq_true rfl) rfl ?_
  refine mz_WP.vret rfl rfl ?_
  show Q none n (mz_up _ a (.inr (0, [.ref (a + 1), .ref (a + 3), .int nu2, .int ba2])))
  rw [mz_up_up]
  exact H _ U2.u0 (fun b hb => (mz_up_n (by omega)).trans (o2 b hb)) (fun F => (f2 F).up x0)
def NXS (S : Nat) : Bool := [1, 3, 5, 7, 8, 10, 12, 14, 15, 17, 19, 21, 22, 24, 26, 28, 29, 31, 33, 35, 37, 38, 40, 42].all (fun i => (fxt (S + i)).isNone)
theorem NXS_g {S i : Nat} (N : NXS S = true) (hi : i ∈ [1, 3, 5, 7, 8, 10, 12, 14, 15, 17, 19, 21, 22, 24, 26, 28, 29, 31, 33, 35, 37, 38, 40, 42]) : fxt (S + i) = none := Option.isNone_iff_eq_none.mp (List.all_eq_true.mp N i hi)
def stO (S : Nat) : mz_C := .inr (7, [.ref (S + 1), .ref (S + 8), .ref (S + 15), .ref (S + 22), .ref (S + 29), .ref (S + 38)])
theorem s_scpy {S S2 : Nat} (F : Fx h) (N : NXS S = true) (hS : fxt S = some (stO S)) (hS2 : fxt S2 = some (stO S2)) (h2 : 2 ≤ S) (hd : S + 42 < S2 ∨ S2 + 42 < S) (Sh : Shp S h) (R : Rep S2 h g) (H : ∀ h', Rep S h' g → (∀ b, b < S ∨ S + 42 < b → h' b = h b) → Fx h' → Q none n h') : mz_wc (e + 4) 59 [.ref S, .ref S2] n h Q := by
  obtain ⟨A1, ⟨zr, fr, cr, wr, mr, ne, Tr⟩, nb, bb, nu, ba, Bl⟩ := Sh
  obtain ⟨R1, ⟨zr2, fr2, cr2, wr2, Tr2, t1, t2, t3, t4⟩, nb2, bb2, Bl2, rb⟩ := R
  obtain ⟨z0, m0, s0, w0, T0⟩ := A1 0 (by decide)
  obtain ⟨z1, m1, s1, w1, T1⟩ := A1 1 (by decide)
  obtain ⟨z2, m2, s2, w2, T2⟩ := A1 2 (by decide)
  obtain ⟨z3, m3, s3, w3, T3⟩ := A1 3 (by decide)
  obtain ⟨k0, W0, p0, q0, r0, V0, e0⟩ := R1 0 (by decide)
  obtain ⟨k1, W1, p1, q1, r1, V1, e1⟩ := R1 1 (by decide)
  obtain ⟨k2, W2, p2, q2, r2, V2, e2⟩ := R1 2 (by decide)
  obtain ⟨k3, W3, p3, q3, r3, V3, e3⟩ := R1 3 (by decide)
  have T0 : TA h (S + 1) z0 m0 s0 w0 := T0
  have T1 : TA h (S + 8) z1 m1 s1 w1 := T1
  have T2 : TA h (S + 15) z2 m2 s2 w2 := T2
  have T3 : TA h (S + 22) z3 m3 s3 w3 := T3
  have V0 : TA h (S2 + 1) (nI k0) p0 q0 r0 := V0
  have V1 : TA h (S2 + 8) (nI k1) p1 q1 r1 := V1
  have V2 : TA h (S2 + 15) (nI k2) p2 q2 r2 := V2
  have V3 : TA h (S2 + 22) (nI k3) p3 q3 r3 := V3
  refine mz_wc.enter (code := co_X7_copyFrom) (idx := 59) rfl rfl (Nat.le_of_ble_eq_true rfl) rfl rfl ?_
  refine mz_WP.run 80 rfl ?_
  refine mz_WP.getf rfl (F _ _ hS) rfl (Nat.le_of_ble_eq_true rfl) ?_
  refine mz_WP.run 80 rfl ?_
  refine mz_WP.getf rfl (F _ _ hS2) rfl (Nat.le_of_ble_eq_true rfl) ?_
  refine mz_WP.cv rfl rfl (Nat.le_of_ble_eq_true rfl) rfl (T0.2.1) rfl (r_tcpy T0 V0 (by omega) (fun a0 b0 c0 E0 => ?_))
  have X0 : TA (tpH h (S + 1) (nI k0) a0 b0 c0) (S + 1) (nI k0) a0 b0 c0 := TA.tp T0.1
  have o0 : ∀ b, b < S + 1 ∨ S + 1 + 6 < b → tpH h (S + 1) (nI k0) a0 b0 c0 b = h b := fun b hb => tp_n (by omega) (by omega) (by omega) (by omega)
  have F0 : Fx (tpH h (S + 1) (nI k0) a0 b0 c0) := tp_F F (NXS_g N (by decide)) (NXS_g (i := 3) N (by decide)) (NXS_g (i := 5) N (by decide)) (NXS_g (i := 7) N (by decide))
  generalize tpH h (S + 1) (nI k0) a0 b0 c0 = h0 at X0 o0 F0 ⊢
  refine mz_WP.run 80 rfl ?_
  refine mz_WP.getf rfl (F0 _ _ hS) rfl (Nat.le_of_ble_eq_true rfl) ?_
  refine mz_WP.run 80 rfl ?_
  refine mz_WP.getf rfl (F0 _ _ hS2) rfl (Nat.le_of_ble_eq_true rfl) ?_
  have T1 := T1.to (h' := h0) (fun b x y => o0 b (by omega))
  have V1 := V1.to (h' := h0) (fun b x y => o0 b (by omega))
  refine mz_WP.cv rfl rfl (Nat.le_of_ble_eq_true rfl) rfl (T1.2.1) rfl (r_tcpy T1 V1 (by omega) (fun a1 b1 c1 E1 => ?_))
  have X1 : TA (tpH h0 (S + 8) (nI k1) a1 b1 c1) (S + 8) (nI k1) a1 b1 c1 := TA.tp T1.1
  have o1 : ∀ b, b < S + 8 ∨ S + 8 + 6 < b → tpH h0 (S + 8) (nI k1) a1 b1 c1 b = h0 b := fun b hb => tp_n (by omega) (by omega) (by omega) (by omega)
  have F1 : Fx (tpH h0 (S + 8) (nI k1) a1 b1 c1) := tp_F F0 (NXS_g N (by decide)) (NXS_g (i := 10) N (by decide)) (NXS_g (i := 12) N (by decide)) (NXS_g (i := 14) N (by decide))
  generalize tpH h0 (S + 8) (nI k1) a1 b1 c1 = h1 at X1 o1 F1 ⊢
  refine mz_WP.run 80 rfl ?_
  refine mz_WP.getf rfl (F1 _ _ hS) rfl (Nat.le_of_ble_eq_true rfl) ?_
  refine mz_WP.run 80 rfl ?_
  refine mz_WP.getf rfl (F1 _ _ hS2) rfl (Nat.le_of_ble_eq_true rfl) ?_
  have T2 := T2.to (h' := h1) (fun b x y => (o1 b (by omega)).trans (o0 b (by omega)))
  have V2 := V2.to (h' := h1) (fun b x y => (o1 b (by omega)).trans (o0 b (by omega)))
  refine mz_WP.cv rfl rfl (Nat.le_of_ble_eq_true rfl) rfl (T2.2.1) rfl (r_tcpy T2 V2 (by omega) (fun a2 b2 c2 E2 => ?_))
  have X2 : TA (tpH h1 (S + 15) (nI k2) a2 b2 c2) (S + 15) (nI k2) a2 b2 c2 := TA.tp T2.1
  have o2 : ∀ b, b < S + 15 ∨ S + 15 + 6 < b → tpH h1 (S + 15) (nI k2) a2 b2 c2 b = h1 b := fun b hb => tp_n (by omega) (by omega) (by omega) (by omega)
  have F2 : Fx (tpH h1 (S + 15) (nI k2) a2 b2 c2) := tp_F F1 (NXS_g N (by decide)) (NXS_g (i := 17) N (by decide)) (NXS_g (i := 19) N (by decide)) (NXS_g (i := 21) N (by decide))
  generalize tpH h1 (S + 15) (nI k2) a2 b2 c2 = h2' at X2 o2 F2 ⊢
  refine mz_WP.run 80 rfl ?_
  refine mz_WP.getf rfl (F2 _ _ hS) rfl (Nat.le_of_ble_eq_true rfl) ?_
  refine mz_WP.run 80 rfl ?_
  refine mz_WP.getf rfl (F2 _ _ hS2) rfl (Nat.le_of_ble_eq_true rfl) ?_
  have T3 := T3.to (h' := h2') (fun b x y => ((o2 b (by omega)).trans (o1 b (by omega))).trans (o0 b (by omega)))
  have V3 := V3.to (h' := h2') (fun b x y => ((o2 b (by omega)).trans (o1 b (by omega))).trans (o0 b (by omega)))
  refine mz_WP.cv rfl rfl (Nat.le_of_ble_eq_true rfl) rfl (T3.2.1) rfl (r_tcpy T3 V3 (by omega) (fun a3 b3 c3 E3 => ?_))
  have X3 : TA (tpH h2' (S + 22) (nI k3) a3 b3 c3) (S + 22) (nI k3) a3 b3 c3 := TA.tp T3.1
  have o3 : ∀ b, b < S + 22 ∨ S + 22 + 6 < b → tpH h2' (S + 22) (nI k3) a3 b3 c3 b = h2' b := fun b hb => tp_n (by omega) (by omega) (by omega) (by omega)
  have F3 : Fx (tpH h2' (S + 22) (nI k3) a3 b3 c3) := tp_F F2 (NXS_g N (by decide)) (NXS_g (i := 24) N (by decide)) (NXS_g (i := 26) N (by decide)) (NXS_g (i := 28) N (by decide))
  generalize tpH h2' (S + 22) (nI k3) a3 b3 c3 = h3 at X3 o3 F3 ⊢
  have p3 : ∀ b, b < S + 1 ∨ S + 28 < b → h3 b = h b := fun b hb => (((o3 b (by omega)).trans (o2 b (by omega))).trans (o1 b (by omega))).trans (o0 b (by omega))
  refine mz_WP.run 80 rfl ?_
  refine mz_WP.getf rfl (F3 _ _ hS) rfl (Nat.le_of_ble_eq_true rfl) ?_
  refine mz_WP.run 80 rfl ?_
  refine mz_WP.getf rfl (F3 _ _ hS2) rfl (Nat.le_of_ble_eq_true rfl) ?_
  have Tr := Tr.to (h' := h3) (fun b x y => p3 b (by omega))
  have Tr2 := Tr2.to (h' := h3) (fun b x y => p3 b (by omega))
  refine mz_WP.cv rfl rfl (Nat.le_of_ble_eq_true rfl) rfl (Tr.1) rfl (s_prcpy Tr Tr2 (by omega) (by omega) ⟨NXS_g N (by decide), NXS_g (i := 31) N (by decide), NXS_g (i := 33) N (by decide), NXS_g (i := 35) N (by decide), NXS_g (i := 37) N (by decide)⟩ (fun h4 X4 o4 F4 => ?_))
  have F4 := F4 F3
  refine mz_WP.run 80 rfl ?_
  refine mz_WP.getf rfl (F4 _ _ hS) rfl (Nat.le_of_ble_eq_true rfl) ?_
  refine mz_WP.run 80 rfl ?_
  refine mz_WP.getf rfl (F4 _ _ hS2) rfl (Nat.le_of_ble_eq_true rfl) ?_
  have Bl := Bl.to (h' := h4) (fun b x y => (o4 b (by omega)).trans (p3 b (by omega)))
  have Bl2 := Bl2.to (h' := h4) (fun b x y => (o4 b (by omega)).trans (p3 b (by omega)))
  refine mz_WP.cv rfl rfl (Nat.le_of_ble_eq_true rfl) rfl (Bl.1) rfl (s_blcpy Bl Bl2 (by omega) (by omega) ⟨NXS_g N (by decide), NXS_g (i := 40) N (by decide), NXS_g (i := 42) N (by decide)⟩ (fun h5 X5 o5 F5 => ?_))
  refine mz_WP.vret rfl rfl (H h5 ⟨fun c hc => ?_, ?_, ?_⟩ (fun b hb => ((o5 b (by omega)).trans (o4 b (by omega))).trans (p3 b (by omega))) (F5 F4))
  · have p5 : ∀ b, b < S + 29 → h5 b = h3 b := fun b hb => (o5 b (by omega)).trans (o4 b (by omega))
    rcases (show c = 0 ∨ c = 1 ∨ c = 2 ∨ c = 3 by omega) with rfl | rfl | rfl | rfl
    · refine ⟨k0, W0, a0, b0, c0, X0.to (fun b x y => (((p5 b (by omega)).trans (o3 b (by omega))).trans (o2 b (by omega))).trans (o1 b (by omega))), fun j hj => ?_⟩
      have hk := W0.1
      rw [(E0 j (by omega)).1, (E0 j (by omega)).2.1, (E0 j (by omega)).2.2]
      exact e0 j hj
    · refine ⟨k1, W1, a1, b1, c1, X1.to (fun b x y => ((p5 b (by omega)).trans (o3 b (by omega))).trans (o2 b (by omega))), fun j hj => ?_⟩
      have hk := W1.1
      rw [(E1 j (by omega)).1, (E1 j (by omega)).2.1, (E1 j (by omega)).2.2]
      exact e1 j hj
    · refine ⟨k2, W2, a2, b2, c2, X2.to (fun b x y => (p5 b (by omega)).trans (o3 b (by omega))), fun j hj => ?_⟩
      have hk := W2.1
      rw [(E2 j (by omega)).1, (E2 j (by omega)).2.1, (E2 j (by omega)).2.2]
      exact e2 j hj
    · refine ⟨k3, W3, a3, b3, c3, X3.to (fun b x y => p5 b (by omega)), fun j hj => ?_⟩
      have hk := W3.1
      rw [(E3 j (by omega)).1, (E3 j (by omega)).2.1, (E3 j (by omega)).2.2]
      exact e3 j hj
  · exact ⟨_, _, _, _, X4.to (fun b x y => o5 b (by omega)), (rat_cpy (by decide)).trans t1, (rat_cpy (by decide)).trans t2, (rat_cpy (by decide)).trans t3, (rat_cpy (by decide)).trans t4⟩
  · exact ⟨_, _, X5, fun r hr => by
      have z1 : rcpy 4 nb nb2 r = nb2 r := if_pos hr
      have z2 : rcpy 4 bb bb2 r = bb2 r := if_pos hr
      rw [z1, z2]
      exact rb r hr⟩
end CP
