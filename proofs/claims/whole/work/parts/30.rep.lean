/-! what the class holds, beside the reference's row g of numbers -/
theorem inB_of {x : Int32} {a b : Nat} (hb : b < 2 ^ 31) (hab : a ≤ b) (h : inB x (nI a) (nI b) = true) : ∃ j, a ≤ j ∧ j ≤ b ∧ x = nI j := by
  unfold inB at h
  simp only [Bool.and_eq_true, Bool.not_eq_true', decide_eq_false_iff_not] at h
  obtain ⟨h1, h2⟩ := h
  have h0 : ¬ x < 0 := fun z => h1 (Int32.lt_of_lt_of_le z (nI_pos' (by omega)))
  obtain ⟨j, hj, rfl⟩ := nI_of h0
  rw [nI_ltI hj (by omega)] at h1
  rw [nI_ltI hb hj] at h2
  exact ⟨j, by omega, by omega, rfl⟩
theorem inB_in {a b j : Nat} (hb : b < 2 ^ 31) (h1 : a ≤ j) (h2 : j ≤ b) : inB (nI j) (nI a) (nI b) = true := by
  unfold inB
  rw [decide_eq_false (nI_nlt h1 (by omega)), decide_eq_false (nI_nlt h2 hb)]
  rfl
theorem mz_WP.tin {e d rk : Nat} {code : List mz_I} {Q : mz_Q} {pc : Nat} {L : List (Option Value)} {n : Nat} {h : mz_H} {bc bs : Nat} {df lo hi off : Int} {offs : Array Int} {len x y : Nat} {a : Int32} {r : List Value} (hl : mz_lk code pc = some (.tableswitch df lo hi offs, len, x, y)) (h1 : ¬ (a.toInt < lo ∨ hi < a.toInt)) (ho : offs[(a.toInt - lo).toNat]? = some off) (H : mz_WP (mz_wc e) d rk code Q ((pc : Int) + off).toNat L r n h bc bs) : mz_WP (mz_wc e) d rk code Q pc L (.int a :: r) n h bc bs := by
  refine mz_WP.tsw hl (fun z => absurd z h1) (fun o _ _ z => ?_)
  rw [ho] at z
  cases z
  exact H
theorem mz_WP.tout {e d rk : Nat} {code : List mz_I} {Q : mz_Q} {pc : Nat} {L : List (Option Value)} {n : Nat} {h : mz_H} {bc bs : Nat} {df lo hi : Int} {offs : Array Int} {len x y : Nat} {a : Int32} {r : List Value} (hl : mz_lk code pc = some (.tableswitch df lo hi offs, len, x, y)) (h1 : a.toInt < lo ∨ hi < a.toInt) (H : mz_WP (mz_wc e) d rk code Q ((pc : Int) + df).toNat L r n h bc bs) : mz_WP (mz_wc e) d rk code Q pc L (.int a :: r) n h bc bs := by
  refine mz_WP.tsw hl (fun z => H) (fun o z1 z2 _ => ?_)
  rcases h1 with z | z
  · exact absurd z z1
  · exact absurd z z2
/-! the row g -/
def gm (g : Nat → Int32) (c : Nat) : Nat → Int32 := fun j => g (48 * c + j)
def gw (g : Nat → Int32) (c : Nat) : Nat → Int32 := fun j => g (192 + 48 * c + j)
def gS (g : Nat → Int32) (c : Nat) : Nat → Int32 := fun j => gw g c j / nI 2
def gY (g : Nat → Int32) (c : Nat) : Nat → Int32 := fun j => gw g c j - gw g c j / nI 2 * nI 2
def zG (g : Nat → Int32) : Nat → Int32 := fun i => g (388 + i)
def frG (g : Nat → Int32) : Nat → Int32 := fun i => if i = 0 then 0 else g (395 + i)
def crG (g : Nat → Int32) : Nat → Int32 := fun i => if i = 0 then 0 else g (400 + i)
def wrG (g : Nat → Int32) : Nat → Int32 := fun i => if i = 0 then 0 else g (405 + i)
def WFc (g : Nat → Int32) (c k : Nat) : Prop := k ≤ 48 ∧ g (384 + c) = nI k ∧ (∀ j, j < k → ∃ x, x < 40320 ∧ gm g c j = nI x) ∧ (∀ j, j < k → ∃ a b, a < 8 ∧ b < 2 ∧ gw g c j = nI (2 * a + b)) ∧ (∀ i j, i < j → j < k → gm g c i ≠ gm g c j)
def WF (g : Nat → Int32) : Prop := (∀ c, c < 4 → ∃ k, WFc g c k) ∧ (∀ i, i < 8 → ∃ z, 1 ≤ z ∧ z ≤ 5 ∧ g (388 + i) = nI z) ∧ (∃ b, b < 16 ∧ g 413 = nI b) ∧ (∀ r, r < 4 → ∃ b, b < 16 ∧ g (419 + r) = nI b)
/-- one card's taps -/
def RepT (h : mz_H) (t : Nat) (g : Nat → Int32) (c k : Nat) : Prop := ∃ m s w : Nat → Int32, TA h t (nI k) m s w ∧ ∀ j, j < k → m j = gm g c j ∧ s j = gS g c j ∧ w j = gY g c j
/-- the list at a -/
def BlA (h : mz_H) (a : Nat) (nb bb : Nat → Int32) (nu ba : Int32) : Prop := h a = .inr (0, [.ref (a + 1), .ref (a + 3), .int nu, .int ba]) ∧ (h (a + 1) = .inr (6, [.ref (a + 2)]) ∧ h (a + 3) = .inr (6, [.ref (a + 4)])) ∧ h (a + 2) = .inl (0, 4, nb) ∧ h (a + 4) = .inl (0, 4, bb)
def RepP (h : mz_H) (a : Nat) (g : Nat → Int32) : Prop := ∃ zr fr cr wr : Nat → Int32, TrA h a zr fr cr wr (g 411) (g 412) ∧ rat 8 zr = rat 8 (zG g) ∧ rat 6 fr = rat 6 (frG g) ∧ rat 6 cr = rat 6 (crG g) ∧ rat 6 wr = rat 6 (wrG g)
def RepB (h : mz_H) (a : Nat) (g : Nat → Int32) : Prop := ∃ nb bb : Nat → Int32, BlA h a nb bb (g 414) (g 413) ∧ ∀ r, r < 4 → nb r = g (415 + r) ∧ bb r = g (419 + r)
def Rep (S : Nat) (h : mz_H) (g : Nat → Int32) : Prop := (∀ c, c < 4 → ∃ k, WFc g c k ∧ RepT h (S + 1 + 7 * c) g c k) ∧ RepP h (S + 29) g ∧ RepB h (S + 38) g
def Shp (S : Nat) (h : mz_H) : Prop := (∀ c, c < 4 → ∃ z m s w, TA h (S + 1 + 7 * c) z m s w) ∧ (∃ zr fr cr wr mr ne, TrA h (S + 29) zr fr cr wr mr ne) ∧ (∃ nb bb nu ba, BlA h (S + 38) nb bb nu ba)
theorem Rep.shp {S : Nat} {h : mz_H} {g : Nat → Int32} (R : Rep S h g) : Shp S h := by
  obtain ⟨r1, ⟨zr, fr, cr, wr, r2, -⟩, nb, bb, r3, -⟩ := R
  refine ⟨fun c hc => ?_, ⟨zr, fr, cr, wr, _, _, r2⟩, nb, bb, _, _, r3⟩
  obtain ⟨k, -, m, s, w, T, -⟩ := r1 c hc
  exact ⟨_, m, s, w, T⟩
theorem BlA.to {h h' : mz_H} {a : Nat} {nb bb : Nat → Int32} {nu ba : Int32} (T : BlA h a nb bb nu ba) (hh : ∀ b, a ≤ b → b ≤ a + 4 → h' b = h b) : BlA h' a nb bb nu ba := by
  obtain ⟨e0, ⟨e1, e3⟩, e2, e4⟩ := T
  exact ⟨(hh _ (by omega) (by omega)).trans e0, ⟨(hh _ (by omega) (by omega)).trans e1, (hh _ (by omega) (by omega)).trans e3⟩, (hh _ (by omega) (by omega)).trans e2, (hh _ (by omega) (by omega)).trans e4⟩
theorem RepT.to {h h' : mz_H} {t : Nat} {g : Nat → Int32} {c k : Nat} (R : RepT h t g c k) (hh : ∀ b, t ≤ b → b ≤ t + 6 → h' b = h b) : RepT h' t g c k := by
  obtain ⟨m, s, w, T, r⟩ := R
  exact ⟨m, s, w, T.to hh, r⟩
theorem RepP.to {h h' : mz_H} {a : Nat} {g : Nat → Int32} (R : RepP h a g) (hh : ∀ b, a ≤ b → b ≤ a + 8 → h' b = h b) : RepP h' a g := by
  obtain ⟨zr, fr, cr, wr, T, r⟩ := R
  exact ⟨zr, fr, cr, wr, T.to hh, r⟩
theorem RepB.to {h h' : mz_H} {a : Nat} {g : Nat → Int32} (R : RepB h a g) (hh : ∀ b, a ≤ b → b ≤ a + 4 → h' b = h b) : RepB h' a g := by
  obtain ⟨nb, bb, T, r⟩ := R
  exact ⟨nb, bb, T.to hh, r⟩
theorem Rep.to {S : Nat} {h h' : mz_H} {g : Nat → Int32} (R : Rep S h g) (hh : ∀ b, S ≤ b → b ≤ S + 42 → h' b = h b) : Rep S h' g := by
  refine ⟨fun c hc => ?_, R.2.1.to (fun b h1 h2 => hh b (by omega) (by omega)), R.2.2.to (fun b h1 h2 => hh b (by omega) (by omega))⟩
  obtain ⟨k, w, r⟩ := R.1 c hc
  exact ⟨k, w, r.to (fun b h1 h2 => hh b (by omega) (by omega))⟩
theorem Shp.to {S : Nat} {h h' : mz_H} (R : Shp S h) (hh : ∀ b, S ≤ b → b ≤ S + 42 → h' b = h b) : Shp S h' := by
  obtain ⟨r1, ⟨zr, fr, cr, wr, mr, ne, r2⟩, nb, bb, nu, ba, r3⟩ := R
  refine ⟨fun c hc => ?_, ⟨zr, fr, cr, wr, mr, ne, r2.to (fun b h1 h2 => hh b (by omega) (by omega))⟩, nb, bb, nu, ba, r3.to (fun b h1 h2 => hh b (by omega) (by omega))⟩
  obtain ⟨z, m, s, w, T⟩ := r1 c hc
  exact ⟨z, m, s, w, T.to (fun b h1 h2 => hh b (by omega) (by omega))⟩
/-- the class, all of it: g the present, gi the kept -/
def CI (h : mz_H) (g : Nat → Int32) (kp : Nat) (gi : Nat → Nat → Int32) : Prop := Fx h ∧ BS h ∧ h 2 = .inr (10, [.ref 3, .ref 46, .ref 89, .int (nI kp), .ref 132, .ref 139]) ∧ WF g ∧ Rep 3 h g ∧ (∃ z m s w, TA h 132 z m s w) ∧ Shp 46 h ∧ Shp 89 h ∧ (kp < 4 ∧ ∀ i, i < 2 → kp / 2 ^ i % 2 = 1 → WF (gi i) ∧ Rep (46 + 43 * i) h (gi i))
/-- what the bill alone changed -/
theorem CI.bill {h h' : mz_H} {g : Nat → Int32} {kp : Nat} {gi : Nat → Nat → Int32} (C : CI h g kp gi) (F : Fx h') (B : BS h') (hh : ∀ b, b < 140 ∨ 185 < b → h' b = h b) : CI h' g kp gi := by
  obtain ⟨c1, c2, c3, c4, c5, ⟨z, m, s, w, c6⟩, c7, c8, c9, c10⟩ := C
  refine ⟨F, B, (hh 2 (by omega)).trans c3, c4, c5.to (fun b _ h2 => hh b (by omega)), ⟨z, m, s, w, c6.to (fun b _ h2 => hh b (by omega))⟩, c7.to (fun b _ h2 => hh b (by omega)), c8.to (fun b _ h2 => hh b (by omega)), c9, fun i hi hk => ⟨(c10 i hi hk).1, (c10 i hi hk).2.to (fun b _ h2 => hh b (by omega))⟩⟩
/-! the pure values, by g -/
def gL (g : Nat → Int32) (c k : Nat) : List Rde := vL k (gm g c) (gS g c) (gY g c)
def gJ (g : Nat → Int32) (l : List Rde) : List Jrn := vJ (g 412) (rat 8 (zG g)) l
def gO (g : Nat → Int32) (J : List Jrn) : Nat → Int32 := vO (frG g) (crG g) (g 411) J
def gK (g : Nat → Int32) (J : List Jrn) : Nat → Int32 := vK (wrG g) J
theorem wholeB_c {k : Nat} {m w m' w' : Nat → Int32} (hm : ∀ j, j < k → m j = m' j) (hw : ∀ j, j < k → w j = w' j) {j : Nat} (hj : j < k) : wholeB k m w j = wholeB k m' w' j := by
  unfold wholeB
  by_cases h1 : j + 1 < k
  · rw [hm j hj, hm (j + 1) h1, hw j hj, hw (j + 1) h1]
  · rw [decide_eq_false h1, Bool.false_and, Bool.false_and, Bool.false_and, Bool.false_and, Bool.false_and, Bool.false_and]
theorem rl_c {k : Nat} {m s w m' s' w' : Nat → Int32} (hm : ∀ j, j < k → m j = m' j) (hs : ∀ j, j < k → s j = s' j) (hw : ∀ j, j < k → w j = w' j) : ∀ i, i ≤ k → rl k m s w i = rl k m' s' w' i
  | 0, _ => rfl
  | i + 1, hi => by
    have ih := rl_c hm hs hw i (by omega)
    have e1 := wholeB_c hm hw (show i < k by omega)
    have e2 : behind k m w i = behind k m' w' i := by
      cases i with
      | zero => rfl
      | succ j => exact wholeB_c hm hw (by omega)
    have e3 : rideOf k m s w (rl k m s w i) i = rideOf k m' s' w' (rl k m' s' w' i) i := by
      rw [ih]
      unfold rideOf
      rw [e1]
      by_cases hb : wholeB k m' w' i = true
      · rw [if_pos hb, if_pos hb]
        have hlt := (wholeB_iff.mp hb).1
        rw [hm i (by omega), hm (i + 1) hlt, hs i (by omega), hs (i + 1) hlt]
      · rw [if_neg hb, if_neg hb, hm i (by omega), hs i (by omega), hw i (by omega)]
    show (if wholeB k m w i = false ∧ behind k m w i = true then rl k m s w i else rl k m s w i ++ [rideOf k m s w (rl k m s w i) i]) = (if wholeB k m' w' i = false ∧ behind k m' w' i = true then rl k m' s' w' i else rl k m' s' w' i ++ [rideOf k m' s' w' (rl k m' s' w' i) i])
    rw [e1, e2, e3, ih]
theorem vL_c {k : Nat} {m s w m' s' w' : Nat → Int32} (hh : ∀ j, j < k → m j = m' j ∧ s j = s' j ∧ w j = w' j) : vL k m s w = vL k m' s' w' := rl_c (fun j hj => (hh j hj).1) (fun j hj => (hh j hj).2.1) (fun j hj => (hh j hj).2.2) k (Nat.le_refl k)
theorem jcost_c {fr fr' : Nat → Int32} (h : rat 6 fr = rat 6 fr') : jcost fr = jcost fr' := by
  funext mr q
  unfold jcost
  rw [h]
theorem dsm_c {fr fr' : Nat → Int32} (h : rat 6 fr = rat 6 fr') : dsm fr = dsm fr' := by
  funext mr J d
  unfold dsm
  rw [jcost_c h]
theorem vO_c {fr fr' cr cr' : Nat → Int32} (h : rat 6 fr = rat 6 fr') (h2 : rat 6 cr = rat 6 cr') : vO fr cr = vO fr' cr' := by
  funext mr J d
  unfold vO dow
  rw [dsm_c h, h2]
theorem vK_c {wr wr' : Nat → Int32} (h : rat 6 wr = rat 6 wr') : vK wr = vK wr' := by
  funext J d
  unfold vK wkc
  rw [h]
theorem gsy {a b : Nat} (ha : a < 8) (hb : b < 2) : nI (2 * a + b) / nI 2 = nI a ∧ nI (2 * a + b) - nI (2 * a + b) / nI 2 * nI 2 = nI b := by
  refine ⟨?_, ?_⟩
  · rw [pk_div (by omega) (by omega) (by omega), show (2 * a + b) / 2 = a by omega]
  · rw [pk_rem (by omega) (by omega) (by omega), show (2 * a + b) % 2 = b by omega]
section RC
variable {e n : Nat} {h : mz_H} {Q : mz_Q} {g : Nat → Int32} {kp : Nat} {gi : Nat → Nat → Int32}
theorem s_tapsOf {c : Nat} (F : Fx h) (hc : c < 4) (H : Q (some (.ref (3 + 1 + 7 * c))) n h) : mz_wc (e + 1) 58 [.ref 3, .int (nI c)] n h Q := by
  refine mz_wc.enter (code := co_X7_tapsOf) (idx := 58) rfl rfl (Nat.le_of_ble_eq_true rfl) rfl rfl ?_
  refine mz_WP.run 80 rfl ?_
  match c, hc with
  | 0, _ =>
    refine mz_WP.tin (off := 27) rfl (by decide) (by decide) ?_
    refine mz_WP.run 80 rfl ?_
    refine mz_WP.getf rfl (F _ _ rfl) rfl (Nat.le_of_ble_eq_true rfl) ?_
    exact mz_WP.aret rfl rfl H
  | 1, _ =>
    refine mz_WP.tin (off := 32) rfl (by decide) (by decide) ?_
    refine mz_WP.run 80 rfl ?_
    refine mz_WP.getf rfl (F _ _ rfl) rfl (Nat.le_of_ble_eq_true rfl) ?_
    exact mz_WP.aret rfl rfl H
  | 2, _ =>
    refine mz_WP.tin (off := 37) rfl (by decide) (by decide) ?_
    refine mz_WP.run 80 rfl ?_
    refine mz_WP.getf rfl (F _ _ rfl) rfl (Nat.le_of_ble_eq_true rfl) ?_
    exact mz_WP.aret rfl rfl H
  | 3, _ =>
    refine mz_WP.tout rfl (by decide) ?_
    refine mz_WP.run 80 rfl ?_
    refine mz_WP.getf rfl (F _ _ rfl) rfl (Nat.le_of_ble_eq_true rfl) ?_
    exact mz_WP.aret rfl rfl H
/-- what is known of the bill, for the taps T -/
def BlR (h : mz_H) (g : Nat → Int32) (l : List Rde) : Prop := RdR h l ∧ JyR h (frG g) (g 411) (g 412) (rat 8 (zG g)) l ∧ DyR h (frG g) (crG g) (g 411) (gJ g l) ∧ PlR h (gO g (gJ g l)) (gK g (gJ g l))
theorem r_breckon {t k : Nat} {m s w : Nat → Int32} (C : CI h g kp gi) (T : TA h t (nI k) m s w) (ht : t + 6 < 139) (hk : k ≤ 48) (hs : ∀ j, j < k → ∃ a, a < 8 ∧ s j = nI a) (hm : ∀ j, j < k → ∃ x, x < 40320 ∧ m j = nI x) (H : ∀ h', CI h' g kp gi → (∀ b, b < 140 ∨ 185 < b → h' b = h b) → BlR h' g (vL k m s w) → Q none n h') : mz_wc (e + 5) 10 [.ref 139, .ref t, .ref 32] n h Q := by
  obtain ⟨F, B, -, -, R, -⟩ := id C
  obtain ⟨-, ⟨zr, fr, cr, wr, Tr, t1, t2, t3, t4⟩, -⟩ := R
  refine s_breckon F B T ht hk hs hm Tr (fun h' F' B' hh b1 b2 b3 b4 => H h' (C.bill F' B' hh) hh ⟨b1, ?_, ?_, ?_⟩)
  · rw [t1] at b2
    unfold JyR at b2 ⊢
    rw [jcost_c t2] at b2
    exact b2
  · rw [t1] at b3
    unfold DyR at b3 ⊢
    rw [dsm_c t2, vO_c t2 t3] at b3
    exact b3
  · rw [t1, vO_c t2 t3, vK_c t4] at b4
    exact b4
theorem RepT.facts {t c k : Nat} (R : RepT h t g c k) (W : WFc g c k) : ∃ m s w : Nat → Int32, TA h t (nI k) m s w ∧ (∀ j, j < k → m j = gm g c j ∧ s j = gS g c j ∧ w j = gY g c j) ∧ (∀ j, j < k → ∃ a, a < 8 ∧ s j = nI a) ∧ (∀ j, j < k → ∃ x, x < 40320 ∧ m j = nI x) := by
  obtain ⟨m, s, w, T, r⟩ := R
  refine ⟨m, s, w, T, r, fun j hj => ?_, fun j hj => ?_⟩
  · obtain ⟨a, b, ha, hb, hw⟩ := W.2.2.2.1 j hj
    refine ⟨a, ha, ?_⟩
    rw [(r j hj).2.1]
    unfold gS
    rw [hw, (gsy ha hb).1]
  · obtain ⟨x, hx, hw⟩ := W.2.2.1 j hj
    exact ⟨x, hx, by rw [(r j hj).1, hw]⟩
theorem s_reckon {c k : Nat} (C : CI h g kp gi) (hc : c < 4) (W : WFc g c k) (H : ∀ h', CI h' g kp gi → (∀ b, b < 140 ∨ 185 < b → h' b = h b) → BlR h' g (gL g c k) → Q none n h') : mz_wc (e + 6) 101 [.ref 2, .int (nI c)] n h Q := by
  obtain ⟨F, B, h2, -, R, -⟩ := id C
  obtain ⟨k', W', RT⟩ := R.1 c hc
  have hk : k' = k := (nI_eq (by have := W'.1; omega) (by have := W.1; omega)).mp (W'.2.1.symm.trans W.2.1)
  subst hk
  obtain ⟨m, s, w, T, r, hs, hm⟩ := RT.facts W
  obtain ⟨zr, fr, cr, wr, Tr, -⟩ := R.2.1
  refine mz_wc.enter (code := co_X10_reckon) (idx := 101) rfl rfl (Nat.le_of_ble_eq_true rfl) rfl rfl ?_
  refine mz_WP.run 80 rfl ?_
  refine mz_WP.getf rfl (h2) rfl (Nat.le_of_ble_eq_true rfl) ?_
  refine mz_WP.run 80 rfl ?_
  refine mz_WP.getf rfl (h2) rfl (Nat.le_of_ble_eq_true rfl) ?_
  refine mz_WP.run 80 rfl ?_
  refine mz_WP.cv rfl rfl (Nat.le_of_ble_eq_true rfl) rfl (F _ _ rfl) rfl (s_tapsOf F hc ?_)
  refine mz_WP.run 80 rfl ?_
  refine mz_WP.getf rfl (h2) rfl (Nat.le_of_ble_eq_true rfl) ?_
  refine mz_WP.getf rfl (F _ _ rfl) rfl (Nat.le_of_ble_eq_true rfl) ?_
  refine mz_WP.cv rfl rfl (Nat.le_of_ble_eq_true rfl) rfl (F _ _ rfl) rfl (r_breckon C T (by omega) W.1 hs hm (fun h' C' hh b => ?_))
  refine mz_WP.vret rfl rfl (H h' C' hh ?_)
  rw [vL_c r] at b
  exact b
end RC
