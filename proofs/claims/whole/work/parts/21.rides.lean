/-! Rides -/
abbrev Rde : Type := Int32 × Int32 × Int32 × Int32 × Int32
def NN : Int32 := nI 4294967290
def lastE (l : List Rde) (x : Int32) : Int32 := l.foldl (fun a r => if r.1 = 0 ∧ r.2.1 = x then r.2.2.1 else a) NN
def lastB (l : List Rde) (x : Int32) : Int32 := l.foldl (fun a r => if r.1 = 0 ∧ r.2.2.1 = x then r.2.1 else a) NN
theorem lastE_app {l : List Rde} {r : Rde} {x : Int32} : lastE (l ++ [r]) x = if r.1 = 0 ∧ r.2.1 = x then r.2.2.1 else lastE l x := by
  unfold lastE
  rw [List.foldl_append]
  rfl
theorem lastB_app {l : List Rde} {r : Rde} {x : Int32} : lastB (l ++ [r]) x = if r.1 = 0 ∧ r.2.2.1 = x then r.2.1 else lastB l x := by
  unfold lastB
  rw [List.foldl_append]
  rfl
def RepA (l : List Rde) (bs es bm em kd : Nat → Int32) : Prop := ∀ j r, l[j]? = some r → kd j = r.1 ∧ bs j = r.2.1 ∧ es j = r.2.2.1 ∧ bm j = r.2.2.2.1 ∧ em j = r.2.2.2.2
def RepL (l : List Rde) (le lb : Nat → Int32) : Prop := ∀ q, q < 8 → le q = lastE l (nI q) ∧ lb q = lastB l (nI q)
theorem updS {f : Nat → Int32} {k : Nat} {x : Int32} : upd f k x k = x := if_pos rfl
theorem updN {f : Nat → Int32} {k j : Nat} {x : Int32} (h : j ≠ k) : upd f k x j = f j := if_neg h
theorem RepA.app {l : List Rde} {bs es bm em kd : Nat → Int32} (R : RepA l bs es bm em kd) {c : Nat} (hc : l.length = c) (r : Rde) : RepA (l ++ [r]) (upd bs c r.2.1) (upd es c r.2.2.1) (upd bm c r.2.2.2.1) (upd em c r.2.2.2.2) (upd kd c r.1) := by
  intro j q hq
  by_cases hj : j < l.length
  · rw [List.getElem?_append_left hj] at hq
    obtain ⟨a1, a2, a3, a4, a5⟩ := R j q hq
    have hne : j ≠ c := by omega
    rw [updN hne, updN hne, updN hne, updN hne, updN hne]
    exact ⟨a1, a2, a3, a4, a5⟩
  · rw [List.getElem?_append_right (by omega)] at hq
    have hz : j - l.length < 1 := (List.getElem?_eq_some_iff.mp hq).1
    have hjc : j = c := by omega
    rw [show j - l.length = 0 by omega] at hq
    cases hq
    subst hjc
    rw [updS, updS, updS, updS, updS]
    exact ⟨rfl, rfl, rfl, rfl, rfl⟩
theorem RepL.lack {l : List Rde} {le lb : Nat → Int32} (R : RepL l le lb) {r : Rde} (hr : ¬ r.1 = 0) : RepL (l ++ [r]) le lb := by
  intro q hq
  rw [lastE_app, lastB_app, if_neg (fun z => hr z.1), if_neg (fun z => hr z.1)]
  exact R q hq
theorem RepL.whole {l : List Rde} {le lb : Nat → Int32} (R : RepL l le lb) {a b : Nat} (ha : a < 8) (hb : b < 8) {x y : Int32} : RepL (l ++ [(0, nI a, nI b, x, y)]) (upd le a (nI b)) (upd lb b (nI a)) := by
  intro q hq
  obtain ⟨r1, r2⟩ := R q hq
  rw [lastE_app, lastB_app]
  refine ⟨?_, ?_⟩
  · by_cases h1 : q = a
    · subst h1
      rw [updS, if_pos ⟨rfl, rfl⟩]
    · rw [updN h1, if_neg (fun z => h1 ((nI_eq (by omega) (by omega)).mp z.2).symm)]
      exact r1
  · by_cases h1 : q = b
    · subst h1
      rw [updS, if_pos ⟨rfl, rfl⟩]
    · rw [updN h1, if_neg (fun z => h1 ((nI_eq (by omega) (by omega)).mp z.2).symm)]
      exact r2
def wholeB (k : Nat) (m w : Nat → Int32) (j : Nat) : Bool := decide (j + 1 < k) && decide (w j = 0) && decide (w (j + 1) = 1) && decide (m j / nI 1440 = m (j + 1) / nI 1440)
theorem wholeB_iff {k : Nat} {m w : Nat → Int32} {j : Nat} : wholeB k m w j = true ↔ wholeP k m w j := by
  unfold wholeB wholeP
  simp only [Bool.and_eq_true, decide_eq_true_eq]
  constructor
  · intro ⟨⟨⟨a, b⟩, c⟩, d⟩
    exact ⟨a, b, c, d⟩
  · intro ⟨a, b, c, d⟩
    exact ⟨⟨⟨a, b⟩, c⟩, d⟩
def rideOf (k : Nat) (m s w : Nat → Int32) (l : List Rde) (i : Nat) : Rde := if wholeB k m w i = true then (0, s i, s (i + 1), m i, m (i + 1)) else if w i = 0 then (1, s i, lastE l (s i), m i, m i) else (2, lastB l (s i), s i, m i, m i)
def behind (k : Nat) (m w : Nat → Int32) : Nat → Bool
  | 0 => false
  | i + 1 => wholeB k m w i
/-- the rides that the first i taps make -/
def rl (k : Nat) (m s w : Nat → Int32) : Nat → List Rde
  | 0 => []
  | i + 1 => if wholeB k m w i = false ∧ behind k m w i = true then rl k m s w i else rl k m s w i ++ [rideOf k m s w (rl k m s w i) i]
theorem rl_len (k : Nat) (m s w : Nat → Int32) : ∀ i, (rl k m s w i).length ≤ i
  | 0 => Nat.le_refl 0
  | i + 1 => by
    have ih := rl_len k m s w i
    unfold rl
    split
    · omega
    · rw [List.length_append, List.length_singleton]
      omega
section RD
variable {e n : Nat} {h : mz_H} {Q : mz_Q} {t : Nat} {z : Int32} {m s w : Nat → Int32} {bs es bm em kd le lb : Nat → Int32}
theorem r_tsize (T : TA h t z m s w) (H : Q (some (.int z)) n h) : mz_wc (e + 1) 61 [.ref t] n h Q := by
  rw [← T.eq]
  exact s_tsize (by rw [T.eq]; exact H)
theorem r_tmom {i : Int32} (T : TA h t z m s w) (H : Q (some (.int (rat 48 m i))) n h) : mz_wc (e + 2) 62 [.ref t, .int i] n h Q := by
  rw [← T.eq]
  exact s_tmom T.1 (by rw [T.eq]; exact H)
theorem r_tsta {i : Int32} (T : TA h t z m s w) (H : Q (some (.int (rat 48 s i))) n h) : mz_wc (e + 2) 63 [.ref t, .int i] n h Q := by
  rw [← T.eq]
  exact s_tsta T.1 (by rw [T.eq]; exact H)
theorem r_tway {i : Int32} (T : TA h t z m s w) (H : Q (some (.int (rat 48 w i))) n h) : mz_wc (e + 2) 64 [.ref t, .int i] n h Q := by
  rw [← T.eq]
  exact s_tway T.1 (by rw [T.eq]; exact H)
theorem r_twhole {k j : Nat} (T : TA h t (nI k) m s w) (hk : k ≤ 48) (hj : j < k) (H1 : wholeB k m w j = true → Q (some (.int 1)) n h) (H0 : wholeB k m w j = false → Q (some (.int 0)) n h) : mz_wc (e + 2) 69 [.ref t, .int (nI j)] n h Q := by
  rw [← T.eq]
  exact s_twhole T.1 hk hj (fun q => by rw [T.eq]; exact H1 (wholeB_iff.mpr q)) (fun q => by rw [T.eq]; exact H0 (Bool.eq_false_iff.mpr (fun z => q (wholeB_iff.mp z))))
theorem r_twholeN {k : Nat} (T : TA h t (nI k) m s w) (H0 : Q (some (.int 0)) n h) : mz_wc (e + 2) 69 [.ref t, .int (nI 0 - nI 1)] n h Q := by
  rw [← T.eq]
  exact s_twholeN (by rw [T.eq]; exact H0)
theorem TA.rd (T : TA h t z m s w) (ht : t + 6 < 140) {z2 : Int32} : TA (rdH h z2 bs es bm em kd le lb) t z m s w := T.to (fun b _ h2 => rd_lt (by omega))
theorem s_addRide {k : Nat} {a b c f g : Int32} (F : Fx h) (hk : k < 48) (H : Q none n (rdH h (nI (k + 1)) (upd bs k b) (upd es k c) (upd bm k f) (upd em k g) (upd kd k a) le lb)) : mz_wc (e + 2) 42 [.ref 140, .int a, .int b, .int c, .int f, .int g] n (rdH h (nI k) bs es bm em kd le lb) Q := by
  refine mz_wc.enter (code := co_X5_addRide) (idx := 42) rfl rfl (Nat.le_of_ble_eq_true rfl) rfl rfl ?_
  refine mz_WP.run 80 rfl ?_
  refine mz_WP.getf rfl (rfl) rfl (Nat.le_of_ble_eq_true rfl) ?_
  refine mz_WP.run 80 rfl ?_
  refine mz_WP.getf rfl (rfl) rfl (Nat.le_of_ble_eq_true rfl) ?_
  refine mz_WP.run 80 rfl ?_
  refine mz_WP.cv rfl rfl (Nat.le_of_ble_eq_true rfl) rfl (rd_F F _ _ rfl) rfl (s_put (rd_F F _ _ rfl) rfl (by decide) (by decide) ?_)
  rw [rd_u5, rput_in hk (by decide)]
  refine mz_WP.run 80 rfl ?_
  refine mz_WP.getf rfl (rfl) rfl (Nat.le_of_ble_eq_true rfl) ?_
  refine mz_WP.run 80 rfl ?_
  refine mz_WP.getf rfl (rfl) rfl (Nat.le_of_ble_eq_true rfl) ?_
  refine mz_WP.run 80 rfl ?_
  refine mz_WP.cv rfl rfl (Nat.le_of_ble_eq_true rfl) rfl (rd_F F _ _ rfl) rfl (s_put (rd_F F _ _ rfl) rfl (by decide) (by decide) ?_)
  rw [rd_u1, rput_in hk (by decide)]
  refine mz_WP.run 80 rfl ?_
  refine mz_WP.getf rfl (rfl) rfl (Nat.le_of_ble_eq_true rfl) ?_
  refine mz_WP.run 80 rfl ?_
  refine mz_WP.getf rfl (rfl) rfl (Nat.le_of_ble_eq_true rfl) ?_
  refine mz_WP.run 80 rfl ?_
  refine mz_WP.cv rfl rfl (Nat.le_of_ble_eq_true rfl) rfl (rd_F F _ _ rfl) rfl (s_put (rd_F F _ _ rfl) rfl (by decide) (by decide) ?_)
  rw [rd_u2, rput_in hk (by decide)]
  refine mz_WP.run 80 rfl ?_
  refine mz_WP.getf rfl (rfl) rfl (Nat.le_of_ble_eq_true rfl) ?_
  refine mz_WP.run 80 rfl ?_
  refine mz_WP.getf rfl (rfl) rfl (Nat.le_of_ble_eq_true rfl) ?_
  refine mz_WP.run 80 rfl ?_
  refine mz_WP.cv rfl rfl (Nat.le_of_ble_eq_true rfl) rfl (rd_F F _ _ rfl) rfl (s_put (rd_F F _ _ rfl) rfl (by decide) (by decide) ?_)
  rw [rd_u3, rput_in hk (by decide)]
  refine mz_WP.run 80 rfl ?_
  refine mz_WP.getf rfl (rfl) rfl (Nat.le_of_ble_eq_true rfl) ?_
  refine mz_WP.run 80 rfl ?_
  refine mz_WP.getf rfl (rfl) rfl (Nat.le_of_ble_eq_true rfl) ?_
  refine mz_WP.run 80 rfl ?_
  refine mz_WP.cv rfl rfl (Nat.le_of_ble_eq_true rfl) rfl (rd_F F _ _ rfl) rfl (s_put (rd_F F _ _ rfl) rfl (by decide) (by decide) ?_)
  rw [rd_u4, rput_in hk (by decide)]
  refine mz_WP.run 80 rfl ?_
  refine mz_WP.getf rfl (rfl) rfl (Nat.le_of_ble_eq_true rfl) ?_
  refine mz_WP.run 80 rfl ?_
  refine mz_WP.putf rfl (rfl) (Nat.le_of_ble_eq_true rfl) (Nat.le_of_ble_eq_true rfl) rfl ?_
  refine mz_WP.vret rfl rfl ?_
  show Q none n (mz_up _ 140 (.inr (5, [.ref 141, .ref 143, .ref 145, .ref 147, .ref 149, .ref 151, .ref 153, .int (nI k + nI 1)])))
  rw [rd_u0, nI_add]
  exact H
theorem s_addWhole {k c i a b : Nat} (F : Fx h) (T : TA h t (nI k) m s w) (ht : t + 6 < 140) (hk : k ≤ 48) (hc : c < 48) (hi : i + 1 < k) (ha : s i = nI a) (ha8 : a < 8) (hb : s (i + 1) = nI b) (hb8 : b < 8) (H : Q none n (rdH h (nI (c + 1)) (upd bs c (nI a)) (upd es c (nI b)) (upd bm c (m i)) (upd em c (m (i + 1))) (upd kd c 0) (upd le a (nI b)) (upd lb b (nI a)))) : mz_wc (e + 3) 40 [.ref 140, .ref t, .int (nI i)] n (rdH h (nI c) bs es bm em kd le lb) Q := by
  refine mz_wc.enter (code := co_X5_addWhole) (idx := 40) rfl rfl (Nat.le_of_ble_eq_true rfl) rfl rfl ?_
  refine mz_WP.run 80 rfl ?_
  refine mz_WP.cv rfl rfl (Nat.le_of_ble_eq_true rfl) rfl ((T.rd ht).2.1) rfl (r_tsta (T.rd ht) ?_)
  rw [rat_in (by omega) (by decide), ha]
  refine mz_WP.run 80 rfl ?_
  refine mz_WP.cv rfl rfl (Nat.le_of_ble_eq_true rfl) rfl ((T.rd ht).2.1) rfl (r_tsta (T.rd ht) ?_)
  rw [nI_add, rat_in (by omega) (by decide), hb]
  refine mz_WP.run 80 rfl ?_
  refine mz_WP.getf rfl (rfl) rfl (Nat.le_of_ble_eq_true rfl) ?_
  refine mz_WP.run 80 rfl ?_
  refine mz_WP.cv rfl rfl (Nat.le_of_ble_eq_true rfl) rfl (rd_F F _ _ rfl) rfl (s_put (rd_F F _ _ rfl) rfl (by decide) (by decide) ?_)
  rw [rd_u6, rput_in ha8 (by decide)]
  refine mz_WP.run 80 rfl ?_
  refine mz_WP.getf rfl (rfl) rfl (Nat.le_of_ble_eq_true rfl) ?_
  refine mz_WP.run 80 rfl ?_
  refine mz_WP.cv rfl rfl (Nat.le_of_ble_eq_true rfl) rfl (rd_F F _ _ rfl) rfl (s_put (rd_F F _ _ rfl) rfl (by decide) (by decide) ?_)
  rw [rd_u7, rput_in hb8 (by decide)]
  refine mz_WP.run 80 rfl ?_
  refine mz_WP.cv rfl rfl (Nat.le_of_ble_eq_true rfl) rfl ((T.rd ht).2.1) rfl (r_tmom (T.rd ht) ?_)
  rw [rat_in (by omega) (by decide)]
  refine mz_WP.run 80 rfl ?_
  refine mz_WP.cv rfl rfl (Nat.le_of_ble_eq_true rfl) rfl ((T.rd ht).2.1) rfl (r_tmom (T.rd ht) ?_)
  rw [nI_add, rat_in (by omega) (by decide)]
  refine mz_WP.cv rfl rfl (Nat.le_of_ble_eq_true rfl) rfl (rfl) rfl (s_addRide F hc ?_)
  exact mz_WP.vret rfl rfl H
theorem s_addLack {k c i a : Nat} (F : Fx h) (T : TA h t (nI k) m s w) (ht : t + 6 < 140) (hk : k ≤ 48) (hc : c < 48) (hi : i < k) (ha : s i = nI a) (ha8 : a < 8) (H0 : w i = 0 → Q none n (rdH h (nI (c + 1)) (upd bs c (nI a)) (upd es c (le a)) (upd bm c (m i)) (upd em c (m i)) (upd kd c 1) le lb)) (H1 : ¬ w i = 0 → Q none n (rdH h (nI (c + 1)) (upd bs c (lb a)) (upd es c (nI a)) (upd bm c (m i)) (upd em c (m i)) (upd kd c 2) le lb)) : mz_wc (e + 3) 41 [.ref 140, .ref t, .int (nI i)] n (rdH h (nI c) bs es bm em kd le lb) Q := by
  refine mz_wc.enter (code := co_X5_addLacking) (idx := 41) rfl rfl (Nat.le_of_ble_eq_true rfl) rfl rfl ?_
  refine mz_WP.run 80 rfl ?_
  refine mz_WP.cv rfl rfl (Nat.le_of_ble_eq_true rfl) rfl ((T.rd ht).2.1) rfl (r_tsta (T.rd ht) ?_)
  rw [rat_in (by omega) (by decide), ha]
  refine mz_WP.run 80 rfl ?_
  refine mz_WP.cv rfl rfl (Nat.le_of_ble_eq_true rfl) rfl ((T.rd ht).2.1) rfl (r_tmom (T.rd ht) ?_)
  rw [rat_in (by omega) (by decide)]
  refine mz_WP.run 80 rfl ?_
  refine mz_WP.cv rfl rfl (Nat.le_of_ble_eq_true rfl) rfl ((T.rd ht).2.1) rfl (r_tway (T.rd ht) ?_)
  rw [rat_in (by omega) (by decide)]
  refine mz_WP.ifc rfl (fun c => ?_) (fun c => ?_)
  · have c : ¬ w i = 0 := c
    refine mz_WP.run 80 rfl ?_
    refine mz_WP.getf rfl (rfl) rfl (Nat.le_of_ble_eq_true rfl) ?_
    refine mz_WP.run 80 rfl ?_
    refine mz_WP.cv rfl rfl (Nat.le_of_ble_eq_true rfl) rfl (rd_F F _ _ rfl) rfl (s_at (rd_F F _ _ rfl) rfl (by decide) ?_)
    rw [rat_in ha8 (by decide)]
    refine mz_WP.run 80 rfl ?_
    refine mz_WP.cv rfl rfl (Nat.le_of_ble_eq_true rfl) rfl (rfl) rfl (s_addRide F hc ?_)
    exact mz_WP.vret rfl rfl (H1 c)
  · have c : w i = 0 := Classical.byContradiction c
    refine mz_WP.run 80 rfl ?_
    refine mz_WP.getf rfl (rfl) rfl (Nat.le_of_ble_eq_true rfl) ?_
    refine mz_WP.run 80 rfl ?_
    refine mz_WP.cv rfl rfl (Nat.le_of_ble_eq_true rfl) rfl (rd_F F _ _ rfl) rfl (s_at (rd_F F _ _ rfl) rfl (by decide) ?_)
    rw [rat_in ha8 (by decide)]
    refine mz_WP.run 80 rfl ?_
    refine mz_WP.cv rfl rfl (Nat.le_of_ble_eq_true rfl) rfl (rfl) rfl (s_addRide F hc ?_)
    refine mz_WP.run 80 rfl ?_
    exact mz_WP.vret rfl rfl (H0 c)
theorem s_rbuild {k : Nat} (F : Fx h) (T : TA h t (nI k) m s w) (ht : t + 6 < 140) (hk : k ≤ 48) (hs : ∀ j, j < k → ∃ a, a < 8 ∧ s j = nI a) (H : ∀ bs es bm em kd le lb, RepA (rl k m s w k) bs es bm em kd → Q none n (rdH h (nI (rl k m s w k).length) bs es bm em kd le lb)) : mz_wc (e + 4) 39 [.ref 140, .ref t] n (rdH h z bs es bm em kd le lb) Q := by
  refine mz_wc.enter (code := co_X5_build) (idx := 39) rfl rfl (Nat.le_of_ble_eq_true rfl) rfl rfl ?_
  refine mz_WP.run 80 rfl ?_
  refine mz_WP.putf rfl (rfl) (Nat.le_of_ble_eq_true rfl) (Nat.le_of_ble_eq_true rfl) rfl ?_
  show mz_WP _ _ _ _ _ _ _ _ _ (mz_up _ 140 (.inr (5, [.ref 141, .ref 143, .ref 145, .ref 147, .ref 149, .ref 151, .ref 153, .int (nI 0)]))) _ _
  rw [rd_u0]
  refine mz_WP.run 80 rfl ?_
  refine mz_WP.getf rfl (rfl) rfl (Nat.le_of_ble_eq_true rfl) ?_
  refine mz_WP.run 80 rfl ?_
  refine mz_WP.cv rfl rfl (Nat.le_of_ble_eq_true rfl) rfl (rd_F F _ _ rfl) rfl (s_fill (rd_F F _ _ rfl) rfl (by decide) (by decide) ?_)
  rw [rd_u6]
  refine mz_WP.run 80 rfl ?_
  refine mz_WP.getf rfl (rfl) rfl (Nat.le_of_ble_eq_true rfl) ?_
  refine mz_WP.run 80 rfl ?_
  refine mz_WP.cv rfl rfl (Nat.le_of_ble_eq_true rfl) rfl (rd_F F _ _ rfl) rfl (s_fill (rd_F F _ _ rfl) rfl (by decide) (by decide) ?_)
  rw [rd_u7]
  refine mz_WP.run 2 rfl ?_
  have loop : ∀ q i, i + q = k → ∀ bs es bm em kd le lb, RepA (rl k m s w i) bs es bm em kd → RepL (rl k m s w i) le lb → mz_WP (mz_wc (e + 3)) (e + 3) 0 co_X5_build Q 25 [some (.ref 140), some (.ref t), some (.int (nI i))] [] n (rdH h (nI (rl k m s w i).length) bs es bm em kd le lb) 0 0 := by
    intro q
    induction q with
    | zero =>
      intro i hi bs es bm em kd le lb RA RL
      have hi : i = k := by omega
      subst hi
      refine mz_WP.run 80 rfl ?_
      refine mz_WP.cv rfl rfl (Nat.le_of_ble_eq_true rfl) rfl ((T.rd ht).2.1) rfl (r_tsize (T.rd ht) ?_)
      refine mz_WP.icmp rfl (fun c => ?_) (fun c => ?_)
      · exact mz_WP.vret rfl rfl (H bs es bm em kd le lb RA)
      · exact absurd (nI_le (Nat.le_refl _) (by omega)) c
    | succ q ih =>
      intro i hi bs es bm em kd le lb RA RL
      have hl := rl_len k m s w i
      obtain ⟨a, ha8, ha⟩ := hs i (by omega)
      refine mz_WP.run 80 rfl ?_
      refine mz_WP.cv rfl rfl (Nat.le_of_ble_eq_true rfl) rfl ((T.rd ht).2.1) rfl (r_tsize (T.rd ht) ?_)
      refine mz_WP.icmp rfl (fun c => ?_) (fun c => ?_)
      · exact absurd c (nI_ge (by omega) (by omega))
      · refine mz_WP.run 80 rfl ?_
        have next : ∀ bs es bm em kd le lb, RepA (rl k m s w (i + 1)) bs es bm em kd → RepL (rl k m s w (i + 1)) le lb → mz_WP (mz_wc (e + 3)) (e + 3) 0 co_X5_build Q 66 [some (.ref 140), some (.ref t), some (.int (nI i))] [] n (rdH h (nI (rl k m s w (i + 1)).length) bs es bm em kd le lb) 0 0 := by
          intro bs es bm em kd le lb RA RL
          refine mz_WP.run 80 rfl ?_
          have := ih (i + 1) (by omega) bs es bm em kd le lb RA RL
          rw [nI_succ] at this
          exact this
        refine mz_WP.cv rfl rfl (Nat.le_of_ble_eq_true rfl) rfl ((T.rd ht).2.1) rfl (r_twhole (T.rd ht) hk (by omega) (fun hw => ?_) (fun hw => ?_))
        · refine mz_WP.ifc rfl (fun c => ?_) (fun c => ?_)
          · exact absurd c (show ¬ (1 : Int32) = 0 by decide)
          · refine mz_WP.run 80 rfl ?_
            have hw2 := wholeB_iff.mp hw
            obtain ⟨b, hb8, hb⟩ := hs (i + 1) hw2.1
            refine mz_WP.cv rfl rfl (Nat.le_of_ble_eq_true rfl) rfl (rfl) rfl (s_addWhole F T ht hk (by omega) hw2.1 ha ha8 hb hb8 ?_)
            refine mz_WP.run 80 rfl ?_
            have hrl : rl k m s w (i + 1) = rl k m s w i ++ [(0, nI a, nI b, m i, m (i + 1))] := by
              show (if wholeB k m w i = false ∧ behind k m w i = true then rl k m s w i else rl k m s w i ++ [rideOf k m s w (rl k m s w i) i]) = _
              rw [if_neg (fun z => by rw [hw] at z; exact absurd z.1 (by decide))]
              unfold rideOf
              rw [if_pos hw, ha, hb]
            have := next _ _ _ _ _ _ _ (by rw [hrl]; exact RA.app rfl (0, nI a, nI b, m i, m (i + 1))) (by rw [hrl]; exact RL.whole ha8 hb8)
            rw [hrl, List.length_append, List.length_singleton] at this
            exact this
        · refine mz_WP.ifc rfl (fun c => ?_) (fun c => ?_)
          · refine mz_WP.run 80 rfl ?_
            have fin : behind k m w i = false → mz_WP (mz_wc (e + 3)) (e + 3) 0 co_X5_build Q 60 [some (.ref 140), some (.ref t), some (.int (nI i))] [] n (rdH h (nI (rl k m s w i).length) bs es bm em kd le lb) 0 0 := by
              intro hbh
              refine mz_WP.run 80 rfl ?_
              have hrl : rl k m s w (i + 1) = rl k m s w i ++ [rideOf k m s w (rl k m s w i) i] := by
                show (if wholeB k m w i = false ∧ behind k m w i = true then rl k m s w i else rl k m s w i ++ [rideOf k m s w (rl k m s w i) i]) = _
                rw [if_neg (fun z => by rw [hbh] at z; exact absurd z.2 (by decide))]
              refine mz_WP.cv rfl rfl (Nat.le_of_ble_eq_true rfl) rfl (rfl) rfl (s_addLack F T ht hk (by omega) (by omega) ha ha8 (fun hw0 => ?_) (fun hw0 => ?_))
              · have hro : rideOf k m s w (rl k m s w i) i = (1, nI a, le a, m i, m i) := by
                  unfold rideOf
                  rw [if_neg (by rw [hw]; decide), if_pos hw0, ha, (RL a ha8).1]
                rw [hro] at hrl
                have := next _ _ _ _ _ _ _ (by rw [hrl]; exact RA.app rfl (1, nI a, le a, m i, m i)) (by rw [hrl]; exact RL.lack (show ¬ (1 : Int32) = 0 by decide))
                rw [hrl, List.length_append, List.length_singleton] at this
                exact this
              · have hro : rideOf k m s w (rl k m s w i) i = (2, lb a, nI a, m i, m i) := by
                  unfold rideOf
                  rw [if_neg (by rw [hw]; decide), if_neg hw0, ha, (RL a ha8).2]
                rw [hro] at hrl
                have := next _ _ _ _ _ _ _ (by rw [hrl]; exact RA.app rfl (2, lb a, nI a, m i, m i)) (by rw [hrl]; exact RL.lack (show ¬ (2 : Int32) = 0 by decide))
                rw [hrl, List.length_append, List.length_singleton] at this
                exact this
            cases i with
            | zero =>
              refine mz_WP.cv rfl rfl (Nat.le_of_ble_eq_true rfl) rfl ((T.rd ht).2.1) rfl (r_twholeN (T.rd ht) ?_)
              refine mz_WP.ifc rfl (fun c => ?_) (fun c => ?_)
              · exact absurd rfl c
              · exact fin rfl
            | succ j =>
              rw [show nI (j + 1) - nI 1 = nI j from nI_pred j]
              refine mz_WP.cv rfl rfl (Nat.le_of_ble_eq_true rfl) rfl ((T.rd ht).2.1) rfl (r_twhole (T.rd ht) hk (by omega) (fun hw3 => ?_) (fun hw3 => ?_))
              · refine mz_WP.ifc rfl (fun c => ?_) (fun c => ?_)
                · have hrl : rl k m s w (j + 1 + 1) = rl k m s w (j + 1) := by
                    show (if wholeB k m w (j + 1) = false ∧ behind k m w (j + 1) = true then rl k m s w (j + 1) else rl k m s w (j + 1) ++ [rideOf k m s w (rl k m s w (j + 1)) (j + 1)]) = _
                    rw [if_pos ⟨hw, hw3⟩]
                  have := next bs es bm em kd le lb (by rw [hrl]; exact RA) (by rw [hrl]; exact RL)
                  rw [hrl] at this
                  exact this
                · exact absurd (show ¬ (1 : Int32) = 0 by decide) c
              · refine mz_WP.ifc rfl (fun c => ?_) (fun c => ?_)
                · exact absurd rfl c
                · exact fin hw3
          · exact absurd rfl c
  exact loop k 0 (by omega) _ _ _ _ _ _ _ (fun j r hr => by simp [rl] at hr) (fun q hq => ⟨if_pos hq, if_pos hq⟩)
end RD
