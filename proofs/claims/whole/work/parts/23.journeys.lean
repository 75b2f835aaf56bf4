/-! Journeys -/
abbrev Jrn : Type := Int32 × Nat × Int32 × Int32
def zmin (a b : Int32) : Int32 := if b < a then b else a
def zmax (a b : Int32) : Int32 := if a < b then b else a
def goR (near : Int32) (p r : Rde) : Bool := decide (r.1 = 0) && decide (p.1 = 0) && decide (r.2.2.2.1 / nI 1440 = p.2.2.2.2 / nI 1440) && decide (r.2.2.2.1 - p.2.2.2.2 ≤ near) && decide (r.2.1 = p.2.2.1)
def zoneA (zn : Int32 → Int32) (r : Rde) : Int32 := if lameB r.2.1 r.2.2.1 then 1 else zn r.2.1
def zoneZ (zn : Int32 → Int32) (r : Rde) : Int32 := if lameB r.2.1 r.2.2.1 then 5 else zn r.2.2.1
def jtake (zn : Int32 → Int32) (r : Rde) (q : Jrn) : Jrn := (q.1, q.2.1 + 1, zmin (zmin q.2.2.1 (zoneA zn r)) (zoneZ zn r), zmax (zmax q.2.2.2 (zoneA zn r)) (zoneZ zn r))
def jmod (J : List Jrn) (f : Jrn → Jrn) : List Jrn := match J[J.length - 1]? with
  | some q => J.set (J.length - 1) (f q)
  | none => J
def goes (near : Int32) (l : List Rde) (J : List Jrn) (i : Nat) (r : Rde) : Bool := match i with
  | 0 => false
  | j + 1 => match l[j]?, J[J.length - 1]? with
    | some p, some q => decide (nI q.2.1 < nI 3) && goR near p r
    | _, _ => false
/-- the journeys that the first i rides make -/
def jl (near : Int32) (zn : Int32 → Int32) (l : List Rde) : Nat → List Jrn
  | 0 => []
  | i + 1 => match l[i]? with
    | none => jl near zn l i
    | some r => if goes near l (jl near zn l i) i r = true then jmod (jl near zn l i) (jtake zn r) else jl near zn l i ++ [jtake zn r (r.2.2.2.1, 0, 5, 1)]
theorem jmod_len (J : List Jrn) (f : Jrn → Jrn) : (jmod J f).length = J.length := by
  unfold jmod
  split
  · exact List.length_set
  · rfl
theorem jmod_app (J : List Jrn) (q : Jrn) (f : Jrn → Jrn) : jmod (J ++ [q]) f = J ++ [f q] := by
  unfold jmod
  have e : (J ++ [q])[(J ++ [q]).length - 1]? = some q := by
    rw [List.length_append, List.length_singleton, Nat.add_sub_cancel, List.getElem?_append_right (Nat.le_refl _), Nat.sub_self]
    rfl
  rw [e]
  dsimp only
  rw [List.length_append, List.length_singleton, Nat.add_sub_cancel, List.set_append_right _ _ (Nat.le_refl _), Nat.sub_self]
  rfl
theorem jl_len (near : Int32) (zn : Int32 → Int32) (l : List Rde) : ∀ i, (jl near zn l i).length ≤ i
  | 0 => Nat.le_refl 0
  | i + 1 => by
    have ih := jl_len near zn l i
    unfold jl
    split
    · omega
    · split
      · rw [jmod_len]; omega
      · rw [List.length_append, List.length_singleton]; omega
def JRep (J : List Jrn) (mo rc lz gz : Nat → Int32) : Prop := ∀ j q, J[j]? = some q → mo j = q.1 ∧ rc j = nI q.2.1 ∧ lz j = q.2.2.1 ∧ gz j = q.2.2.2
theorem JRep.app {J : List Jrn} {mo rc lz gz : Nat → Int32} (R : JRep J mo rc lz gz) {c : Nat} (hc : J.length = c) {x : Int32} : JRep (J ++ [(x, 0, 5, 1)]) (upd mo c x) (upd rc c (nI 0)) (upd lz c (nI 5)) (upd gz c (nI 1)) := by
  intro j q hq
  by_cases hj : j < J.length
  · rw [List.getElem?_append_left hj] at hq
    obtain ⟨a1, a2, a3, a4⟩ := R j q hq
    have hne : j ≠ c := by omega
    rw [updN hne, updN hne, updN hne, updN hne]
    exact ⟨a1, a2, a3, a4⟩
  · rw [List.getElem?_append_right (by omega)] at hq
    have hz : j - J.length < 1 := (List.getElem?_eq_some_iff.mp hq).1
    have hjc : j = c := by omega
    rw [show j - J.length = 0 by omega] at hq
    cases hq
    subst hjc
    rw [updS, updS, updS, updS]
    exact ⟨rfl, rfl, rfl, rfl⟩
theorem updU {f : Nat → Int32} {k : Nat} {x y : Int32} : upd (upd f k x) k y = upd f k y := by
  funext j
  by_cases hj : j = k
  · subst hj; rw [updS, updS]
  · rw [updN hj, updN hj, updN hj]
theorem JRep.mod {J : List Jrn} {mo rc lz gz : Nat → Int32} (R : JRep J mo rc lz gz) {c : Nat} (hc : J.length = c + 1) {zn : Int32 → Int32} {r : Rde} : JRep (jmod J (jtake zn r)) mo (upd rc c (rc c + nI 1)) (upd lz c (zmin (zmin (lz c) (zoneA zn r)) (zoneZ zn r))) (upd gz c (zmax (zmax (gz c) (zoneA zn r)) (zoneZ zn r))) := by
  obtain ⟨p, hp⟩ : ∃ p, J[c]? = some p := ⟨_, List.getElem?_eq_getElem (by omega)⟩
  obtain ⟨b1, b2, b3, b4⟩ := R c p hp
  intro j q hq
  unfold jmod at hq
  rw [show J.length - 1 = c by omega, hp] at hq
  dsimp only at hq
  by_cases hj : j = c
  · subst hj
    rw [List.getElem?_set_self (by omega)] at hq
    cases hq
    rw [updS, updS, updS, b2, b3, b4]
    exact ⟨b1, nI_add _ _, rfl, rfl⟩
  · rw [List.getElem?_set_ne (fun z => hj z.symm)] at hq
    obtain ⟨a1, a2, a3, a4⟩ := R j q hq
    rw [updN hj, updN hj, updN hj]
    exact ⟨a1, a2, a3, a4⟩
def jcost (fr : Nat → Int32) (mr : Int32) (q : Jrn) : Int32 := rat 6 fr (q.2.2.2 - q.2.2.1 + nI 1) + (if busyB q.1 then mr else 0)
def goI (near : Int32) (kd bs es bm em : Nat → Int32) : Nat → Bool
  | 0 => false
  | i + 1 => goR near (kd i, bs i, es i, bm i, em i) (kd (i + 1), bs (i + 1), es (i + 1), bm (i + 1), em (i + 1))
section JY
variable {e n : Nat} {h : mz_H} {Q : mz_Q} {z : Int32} {mo rc lz gz co jr : Nat → Int32} {bs es bm em kd : Nat → Int32} {zr fr cr wr : Nat → Int32} {mr ne : Int32} {k : Nat}
theorem s_goesOn {j : Nat} {near : Int32} (F : Fx h) (R : RdA h k bs es bm em kd) (hj : j < 48) (H : Q (some (.int (bI (goI near kd bs es bm em j)))) n h) : mz_wc (e + 2) 49 [.ref 140, .int (nI j), .int near] n h Q := by
  refine mz_wc.enter (code := co_X5_goesOn) (idx := 49) rfl rfl (Nat.le_of_ble_eq_true rfl) rfl rfl ?_
  have no : goI near kd bs es bm em j = false → mz_WP (mz_wc (e + 1)) (e + 1) 2 co_X5_goesOn Q 28 [some (.ref 140), some (.int (nI j)), some (.int near), none, none] [] n h 0 0 := by
    intro hb
    rw [hb] at H
    refine mz_WP.run 80 rfl ?_
    exact mz_WP.zret rfl rfl (Or.inl rfl) H
  refine mz_WP.run 80 rfl ?_
  cases j with
  | zero =>
    refine mz_WP.ifc rfl (fun c => ?_) (fun c => ?_)
    · exact no rfl
    · exact absurd (show nI 0 ≤ 0 from Int32.le_refl _) c
  | succ i =>
    refine mz_WP.ifc rfl (fun c => ?_) (fun c => ?_)
    · exact absurd c (nI_nle (by omega) (by omega))
    · refine mz_WP.run 80 rfl ?_
      refine mz_WP.getf rfl (R.1) rfl (Nat.le_of_ble_eq_true rfl) ?_
      refine mz_WP.run 80 rfl ?_
      refine mz_WP.cv rfl rfl (Nat.le_of_ble_eq_true rfl) rfl (F _ _ rfl) rfl (s_at (F _ _ rfl) R.2.2.2.2.2 (by decide) ?_)
      rw [rat_in (by omega) (by decide)]
      refine mz_WP.ifc rfl (fun c1 => ?_) (fun c1 => ?_)
      · have c1 : ¬ kd (i + 1) = 0 := c1
        exact no (by show goR _ _ _ = false; unfold goR; rw [decide_eq_false c1]; rfl)
      · have c1 : kd (i + 1) = 0 := Classical.byContradiction c1
        refine mz_WP.run 80 rfl ?_
        refine mz_WP.getf rfl (R.1) rfl (Nat.le_of_ble_eq_true rfl) ?_
        refine mz_WP.run 80 rfl ?_
        refine mz_WP.cv rfl rfl (Nat.le_of_ble_eq_true rfl) rfl (F _ _ rfl) rfl (s_at (F _ _ rfl) R.2.2.2.2.2 (by decide) ?_)
        rw [show nI (i + 1) - nI 1 = nI i from nI_pred i, rat_in (by omega) (by decide)]
        refine mz_WP.ifc rfl (fun c2 => ?_) (fun c2 => ?_)
        · have c2 : kd i = 0 := c2
          refine mz_WP.run 80 rfl ?_
          refine mz_WP.getf rfl (R.1) rfl (Nat.le_of_ble_eq_true rfl) ?_
          refine mz_WP.run 80 rfl ?_
          refine mz_WP.cv rfl rfl (Nat.le_of_ble_eq_true rfl) rfl (F _ _ rfl) rfl (s_at (F _ _ rfl) R.2.2.2.1 (by decide) ?_)
          rw [rat_in (by omega) (by decide)]
          refine mz_WP.run 80 rfl ?_
          refine mz_WP.getf rfl (R.1) rfl (Nat.le_of_ble_eq_true rfl) ?_
          refine mz_WP.run 80 rfl ?_
          refine mz_WP.cv rfl rfl (Nat.le_of_ble_eq_true rfl) rfl (F _ _ rfl) rfl (s_at (F _ _ rfl) R.2.2.2.2.1 (by decide) ?_)
          rw [show nI (i + 1) - nI 1 = nI i from nI_pred i, rat_in (by omega) (by decide)]
          refine mz_WP.run 80 rfl ?_
          refine mz_WP.cs rfl (by decide) rfl (Nat.le_of_ble_eq_true rfl) rfl (s_dayOf ?_)
          refine mz_WP.run 80 rfl ?_
          refine mz_WP.cs rfl (by decide) rfl (Nat.le_of_ble_eq_true rfl) rfl (s_dayOf ?_)
          have no2 : goR near (kd i, bs i, es i, bm i, em i) (kd (i + 1), bs (i + 1), es (i + 1), bm (i + 1), em (i + 1)) = false → mz_WP (mz_wc (e + 1)) (e + 1) 2 co_X5_goesOn Q 96 [some (.ref 140), some (.int (nI (i + 1))), some (.int near), some (.int (bm (i + 1))), some (.int (em i))] [] n h 0 0 := by
            intro hb
            have H : Q (some (.int (bI (goR near (kd i, bs i, es i, bm i, em i) (kd (i + 1), bs (i + 1), es (i + 1), bm (i + 1), em (i + 1)))))) n h := H
            rw [hb] at H
            refine mz_WP.run 80 rfl ?_
            exact mz_WP.zret rfl rfl (Or.inl rfl) H
          refine mz_WP.icmp rfl (fun c3 => ?_) (fun c3 => ?_)
          · have c3 : ¬ bm (i + 1) / nI 1440 = em i / nI 1440 := c3
            exact no2 (by unfold goR; rw [decide_eq_false c3, Bool.and_false, Bool.false_and, Bool.false_and])
          · have c3 : bm (i + 1) / nI 1440 = em i / nI 1440 := Classical.byContradiction c3
            refine mz_WP.run 80 rfl ?_
            refine mz_WP.icmp rfl (fun c4 => ?_) (fun c4 => ?_)
            · have c4 : near < bm (i + 1) - em i := c4
              exact no2 (by unfold goR; rw [decide_eq_false (Int32.not_le.mpr c4), Bool.and_false, Bool.false_and])
            · have c4 : bm (i + 1) - em i ≤ near := Int32.not_lt.mp c4
              refine mz_WP.run 80 rfl ?_
              refine mz_WP.getf rfl (R.1) rfl (Nat.le_of_ble_eq_true rfl) ?_
              refine mz_WP.run 80 rfl ?_
              refine mz_WP.cv rfl rfl (Nat.le_of_ble_eq_true rfl) rfl (F _ _ rfl) rfl (s_at (F _ _ rfl) R.2.1 (by decide) ?_)
              rw [rat_in (by omega) (by decide)]
              refine mz_WP.run 80 rfl ?_
              refine mz_WP.getf rfl (R.1) rfl (Nat.le_of_ble_eq_true rfl) ?_
              refine mz_WP.run 80 rfl ?_
              refine mz_WP.cv rfl rfl (Nat.le_of_ble_eq_true rfl) rfl (F _ _ rfl) rfl (s_at (F _ _ rfl) R.2.2.1 (by decide) ?_)
              rw [show nI (i + 1) - nI 1 = nI i from nI_pred i, rat_in (by omega) (by decide)]
              refine mz_WP.icmp rfl (fun c5 => ?_) (fun c5 => ?_)
              · have c5 : ¬ bs (i + 1) = es i := c5
                exact no2 (by unfold goR; rw [decide_eq_false c5, Bool.and_false])
              · have c5 : bs (i + 1) = es i := Classical.byContradiction c5
                have hb : goR near (kd i, bs i, es i, bm i, em i) (kd (i + 1), bs (i + 1), es (i + 1), bm (i + 1), em (i + 1)) = true := by
                  unfold goR
                  rw [decide_eq_true c1, decide_eq_true c2, decide_eq_true c3, decide_eq_true c4, decide_eq_true c5]
                  rfl
                have H : Q (some (.int (bI (goR near (kd i, bs i, es i, bm i, em i) (kd (i + 1), bs (i + 1), es (i + 1), bm (i + 1), em (i + 1)))))) n h := H
                rw [hb] at H
                refine mz_WP.run 80 rfl ?_
                refine mz_WP.run 80 rfl ?_
                exact mz_WP.zret rfl rfl (Or.inr rfl) H
        · have c2 : ¬ kd i = 0 := c2
          exact no (by show goR _ _ _ = false; unfold goR; rw [decide_eq_false c2, Bool.and_false, Bool.false_and, Bool.false_and, Bool.false_and])
theorem s_jopen {c : Nat} {x : Int32} (F : Fx h) (hc : c < 48) (H : Q none n (jyH h (nI (c + 1)) (upd mo c x) (upd rc c (nI 0)) (upd lz c (nI 5)) (upd gz c (nI 1)) co jr)) : mz_wc (e + 2) 21 [.ref 155, .int x] n (jyH h (nI c) mo rc lz gz co jr) Q := by
  refine mz_wc.enter (code := co_X3_open) (idx := 21) rfl rfl (Nat.le_of_ble_eq_true rfl) rfl rfl ?_
  refine mz_WP.run 80 rfl ?_
  refine mz_WP.getf rfl (rfl) rfl (Nat.le_of_ble_eq_true rfl) ?_
  refine mz_WP.run 80 rfl ?_
  refine mz_WP.getf rfl (rfl) rfl (Nat.le_of_ble_eq_true rfl) ?_
  refine mz_WP.run 80 rfl ?_
  refine mz_WP.cv rfl rfl (Nat.le_of_ble_eq_true rfl) rfl (jy_F F _ _ rfl) rfl (s_put (jy_F F _ _ rfl) rfl (by decide) (by decide) ?_)
  rw [jy_u1, rput_in hc (by decide)]
  refine mz_WP.run 80 rfl ?_
  refine mz_WP.getf rfl (rfl) rfl (Nat.le_of_ble_eq_true rfl) ?_
  refine mz_WP.run 80 rfl ?_
  refine mz_WP.getf rfl (rfl) rfl (Nat.le_of_ble_eq_true rfl) ?_
  refine mz_WP.run 80 rfl ?_
  refine mz_WP.cv rfl rfl (Nat.le_of_ble_eq_true rfl) rfl (jy_F F _ _ rfl) rfl (s_put (jy_F F _ _ rfl) rfl (by decide) (by decide) ?_)
  rw [jy_u2, rput_in hc (by decide)]
  refine mz_WP.run 80 rfl ?_
  refine mz_WP.getf rfl (rfl) rfl (Nat.le_of_ble_eq_true rfl) ?_
  refine mz_WP.run 80 rfl ?_
  refine mz_WP.getf rfl (rfl) rfl (Nat.le_of_ble_eq_true rfl) ?_
  refine mz_WP.run 80 rfl ?_
  refine mz_WP.cv rfl rfl (Nat.le_of_ble_eq_true rfl) rfl (jy_F F _ _ rfl) rfl (s_put (jy_F F _ _ rfl) rfl (by decide) (by decide) ?_)
  rw [jy_u3, rput_in hc (by decide)]
  refine mz_WP.run 80 rfl ?_
  refine mz_WP.getf rfl (rfl) rfl (Nat.le_of_ble_eq_true rfl) ?_
  refine mz_WP.run 80 rfl ?_
  refine mz_WP.getf rfl (rfl) rfl (Nat.le_of_ble_eq_true rfl) ?_
  refine mz_WP.run 80 rfl ?_
  refine mz_WP.cv rfl rfl (Nat.le_of_ble_eq_true rfl) rfl (jy_F F _ _ rfl) rfl (s_put (jy_F F _ _ rfl) rfl (by decide) (by decide) ?_)
  rw [jy_u4, rput_in hc (by decide)]
  refine mz_WP.run 80 rfl ?_
  refine mz_WP.getf rfl (rfl) rfl (Nat.le_of_ble_eq_true rfl) ?_
  refine mz_WP.run 80 rfl ?_
  refine mz_WP.putf rfl (rfl) (Nat.le_of_ble_eq_true rfl) (Nat.le_of_ble_eq_true rfl) rfl ?_
  refine mz_WP.vret rfl rfl ?_
  show Q none n (mz_up _ 155 (.inr (3, [.ref 156, .ref 158, .ref 160, .ref 162, .ref 164, .ref 166, .int (nI c + nI 1)])))
  rw [jy_u0, nI_add]
  exact H
theorem s_jzone {c : Nat} {x : Int32} (F : Fx h) (hc : c < 48) (H : Q none n (jyH h z mo rc (upd lz c (zmin (lz c) x)) (upd gz c (zmax (gz c) x)) co jr)) : mz_wc (e + 2) 23 [.ref 155, .int (nI c), .int x] n (jyH h z mo rc lz gz co jr) Q := by
  refine mz_wc.enter (code := co_X3_takeZone) (idx := 23) rfl rfl (Nat.le_of_ble_eq_true rfl) rfl rfl ?_
  refine mz_WP.run 80 rfl ?_
  refine mz_WP.getf rfl (rfl) rfl (Nat.le_of_ble_eq_true rfl) ?_
  refine mz_WP.run 80 rfl ?_
  refine mz_WP.getf rfl (rfl) rfl (Nat.le_of_ble_eq_true rfl) ?_
  refine mz_WP.run 80 rfl ?_
  refine mz_WP.cv rfl rfl (Nat.le_of_ble_eq_true rfl) rfl (jy_F F _ _ rfl) rfl (s_at (jy_F F _ _ rfl) rfl (by decide) ?_)
  rw [rat_in hc (by decide)]
  refine mz_WP.run 80 rfl ?_
  refine mz_WP.mn rfl rfl (by omega) (Nat.le_of_ble_eq_true rfl) ?_
  refine mz_WP.cv rfl rfl (Nat.le_of_ble_eq_true rfl) rfl (jy_F F _ _ rfl) rfl (s_put (jy_F F _ _ rfl) rfl (by decide) (by decide) ?_)
  rw [jy_u3, rput_in hc (by decide)]
  refine mz_WP.run 80 rfl ?_
  refine mz_WP.getf rfl (rfl) rfl (Nat.le_of_ble_eq_true rfl) ?_
  refine mz_WP.run 80 rfl ?_
  refine mz_WP.getf rfl (rfl) rfl (Nat.le_of_ble_eq_true rfl) ?_
  refine mz_WP.run 80 rfl ?_
  refine mz_WP.cv rfl rfl (Nat.le_of_ble_eq_true rfl) rfl (jy_F F _ _ rfl) rfl (s_at (jy_F F _ _ rfl) rfl (by decide) ?_)
  rw [rat_in hc (by decide)]
  refine mz_WP.run 80 rfl ?_
  refine mz_WP.mx rfl rfl (by omega) (Nat.le_of_ble_eq_true rfl) ?_
  refine mz_WP.cv rfl rfl (Nat.le_of_ble_eq_true rfl) rfl (jy_F F _ _ rfl) rfl (s_put (jy_F F _ _ rfl) rfl (by decide) (by decide) ?_)
  rw [jy_u4, rput_in hc (by decide)]
  exact mz_WP.vret rfl rfl H
theorem RdA.jy (R : RdA h k bs es bm em kd) : RdA (jyH h z mo rc lz gz co jr) k bs es bm em kd := R.to (fun b _ h2 => jy_lt (by omega))
theorem TrA.jy (T : TrA h 32 zr fr cr wr mr ne) : TrA (jyH h z mo rc lz gz co jr) 32 zr fr cr wr mr ne := T.to (fun b _ h2 => jy_lt (by omega))
theorem s_takeRide {c i : Nat} {r : Rde} (F : Fx h) (R : RdA h k bs es bm em kd) (T : TrA h 32 zr fr cr wr mr ne) (hc : c < 48) (hi : i < 48) (h1 : bs i = r.2.1) (h2 : es i = r.2.2.1) (H : Q none n (jyH h (nI (c + 1)) mo (upd rc c (rc c + nI 1)) (upd lz c (zmin (zmin (lz c) (zoneA (rat 8 zr) r)) (zoneZ (rat 8 zr) r))) (upd gz c (zmax (zmax (gz c) (zoneA (rat 8 zr) r)) (zoneZ (rat 8 zr) r))) co (upd jr i (nI c)))) : mz_wc (e + 3) 22 [.ref 155, .ref 140, .int (nI i), .ref 32] n (jyH h (nI (c + 1)) mo rc lz gz co jr) Q := by
  refine mz_wc.enter (code := co_X3_takeRide) (idx := 22) rfl rfl (Nat.le_of_ble_eq_true rfl) rfl rfl ?_
  refine mz_WP.run 80 rfl ?_
  refine mz_WP.getf rfl (rfl) rfl (Nat.le_of_ble_eq_true rfl) ?_
  refine mz_WP.run 80 rfl ?_
  refine mz_WP.getf rfl (rfl) rfl (Nat.le_of_ble_eq_true rfl) ?_
  refine mz_WP.run 80 rfl ?_
  rw [show nI (c + 1) - nI 1 = nI c from nI_pred c]
  refine mz_WP.cv rfl rfl (Nat.le_of_ble_eq_true rfl) rfl (jy_F F _ _ rfl) rfl (s_put (jy_F F _ _ rfl) rfl (by decide) (by decide) ?_)
  rw [jy_u6, rput_in hi (by decide)]
  refine mz_WP.run 80 rfl ?_
  refine mz_WP.getf rfl (rfl) rfl (Nat.le_of_ble_eq_true rfl) ?_
  refine mz_WP.run 80 rfl ?_
  refine mz_WP.cv rfl rfl (Nat.le_of_ble_eq_true rfl) rfl (jy_F F _ _ rfl) rfl (s_add (jy_F F _ _ rfl) rfl (by decide) (by decide) ?_)
  rw [jy_u2, rput_in hc (by decide), rat_in hc (by decide)]
  refine mz_WP.run 80 rfl ?_
  refine mz_WP.cv rfl rfl (Nat.le_of_ble_eq_true rfl) rfl (R.jy.1) rfl (s_rlame (jy_F F) R.jy ?_)
  rw [rat_in hi (by decide), rat_in hi (by decide), h1, h2]
  refine mz_WP.ifc rfl (fun c1 => ?_) (fun c1 => ?_)
  · have c1 := bI_f c1
    refine mz_WP.run 80 rfl ?_
    refine mz_WP.cv rfl rfl (Nat.le_of_ble_eq_true rfl) rfl (R.jy.1) rfl (s_rbs (jy_F F) R.jy ?_)
    rw [rat_in hi (by decide), h1]
    refine mz_WP.cv rfl rfl (Nat.le_of_ble_eq_true rfl) rfl (T.jy.1) rfl (s_zoneOf T.jy ?_)
    refine mz_WP.cv rfl rfl (Nat.le_of_ble_eq_true rfl) rfl (rfl) rfl (s_jzone F hc ?_)
    refine mz_WP.run 80 rfl ?_
    refine mz_WP.cv rfl rfl (Nat.le_of_ble_eq_true rfl) rfl (R.jy.1) rfl (s_res (jy_F F) R.jy ?_)
    rw [rat_in hi (by decide), h2]
    refine mz_WP.cv rfl rfl (Nat.le_of_ble_eq_true rfl) rfl (T.jy.1) rfl (s_zoneOf T.jy ?_)
    refine mz_WP.cv rfl rfl (Nat.le_of_ble_eq_true rfl) rfl (rfl) rfl (s_jzone F hc ?_)
    refine mz_WP.vret rfl rfl ?_
    rw [updS, updS, updU, updU]
    have ea : zoneA (rat 8 zr) r = rat 8 zr r.2.1 := by unfold zoneA; rw [c1]; rfl
    have ez : zoneZ (rat 8 zr) r = rat 8 zr r.2.2.1 := by unfold zoneZ; rw [c1]; rfl
    rw [ea, ez] at H
    exact H
  · have c1 := bI_t c1
    refine mz_WP.run 80 rfl ?_
    refine mz_WP.cv rfl rfl (Nat.le_of_ble_eq_true rfl) rfl (rfl) rfl (s_jzone F hc ?_)
    refine mz_WP.run 80 rfl ?_
    refine mz_WP.cv rfl rfl (Nat.le_of_ble_eq_true rfl) rfl (rfl) rfl (s_jzone F hc ?_)
    refine mz_WP.run 80 rfl ?_
    refine mz_WP.vret rfl rfl ?_
    rw [updS, updS, updU, updU]
    have ea : zoneA (rat 8 zr) r = 1 := by unfold zoneA; rw [c1]; rfl
    have ez : zoneZ (rat 8 zr) r = 5 := by unfold zoneZ; rw [c1]; rfl
    rw [ea, ez] at H
    exact H
theorem s_jwidth {j : Nat} (F : Fx h) (hj : j < 48) (H : Q (some (.int (gz j - lz j + nI 1))) n (jyH h z mo rc lz gz co jr)) : mz_wc (e + 2) 27 [.ref 155, .int (nI j)] n (jyH h z mo rc lz gz co jr) Q := by
  refine mz_wc.enter (code := co_X3_width) (idx := 27) rfl rfl (Nat.le_of_ble_eq_true rfl) rfl rfl ?_
  refine mz_WP.run 80 rfl ?_
  refine mz_WP.getf rfl (rfl) rfl (Nat.le_of_ble_eq_true rfl) ?_
  refine mz_WP.run 80 rfl ?_
  refine mz_WP.cv rfl rfl (Nat.le_of_ble_eq_true rfl) rfl (jy_F F _ _ rfl) rfl (s_at (jy_F F _ _ rfl) rfl (by decide) ?_)
  rw [rat_in hj (by decide)]
  refine mz_WP.run 80 rfl ?_
  refine mz_WP.getf rfl (rfl) rfl (Nat.le_of_ble_eq_true rfl) ?_
  refine mz_WP.run 80 rfl ?_
  refine mz_WP.cv rfl rfl (Nat.le_of_ble_eq_true rfl) rfl (jy_F F _ _ rfl) rfl (s_at (jy_F F _ _ rfl) rfl (by decide) ?_)
  rw [rat_in hj (by decide)]
  refine mz_WP.run 80 rfl ?_
  exact mz_WP.ret rfl rfl H
end JY
