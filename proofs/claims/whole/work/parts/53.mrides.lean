/-! the reference: rides -/
theorem tk {α : Type} : ∀ {l : List α} {i : Nat} {r : α}, l[i]? = some r → l.take (i + 1) = l.take i ++ [r]
  | [], i, r, h => by cases h
  | a :: l, 0, r, h => by cases h; rfl
  | a :: l, i + 1, r, h => congrArg (a :: ·) (tk (l := l) (i := i) h)
theorem geti {α : Type} {l : List α} {i : Nat} (h : i < l.length) : ∃ r, l[i]? = some r := ⟨_, List.getElem?_eq_getElem h⟩
def stP (x : Int32) : Prop := x = NN ∨ ∃ a, a < 8 ∧ x = nI a
theorem stP.neg {x : Int32} (h : stP x) : x < 0 ↔ x = NN := by
  rcases h with rfl | ⟨a, ha, rfl⟩
  · exact ⟨fun _ => rfl, fun _ => (by decide : NN < 0)⟩
  · refine ⟨fun z => absurd z (nI_pos (by omega)), fun z => ?_⟩
    have : ∀ a, a < 8 → ¬ nI a = NN := by decide
    exact absurd z (this a ha)
def RP (r : Rde) : Prop := stP r.2.1 ∧ stP r.2.2.1 ∧ (r.1 = 0 → r.2.2.2.1 / nI 1440 = r.2.2.2.2 / nI 1440)
theorem lastE_P {l : List Rde} (h : ∀ r ∈ l, RP r) (x : Int32) : stP (lastE l x) := by
  unfold lastE
  have gen : ∀ (l : List Rde) (a : Int32), (∀ r ∈ l, RP r) → stP a → stP (l.foldl (fun a r => if r.1 = 0 ∧ r.2.1 = x then r.2.2.1 else a) a) := by
    intro l
    induction l with
    | nil => exact fun a _ ha => ha
    | cons r l ih =>
      intro a hl ha
      refine ih _ (fun q hq => hl q (List.mem_cons_of_mem _ hq)) ?_
      dsimp only
      by_cases hh : r.1 = 0 ∧ r.2.1 = x
      · rw [if_pos hh]
        exact (hl r List.mem_cons_self).2.1
      · rw [if_neg hh]
        exact ha
  exact gen l NN h (Or.inl rfl)
theorem lastB_P {l : List Rde} (h : ∀ r ∈ l, RP r) (x : Int32) : stP (lastB l x) := by
  unfold lastB
  have gen : ∀ (l : List Rde) (a : Int32), (∀ r ∈ l, RP r) → stP a → stP (l.foldl (fun a r => if r.1 = 0 ∧ r.2.2.1 = x then r.2.1 else a) a) := by
    intro l
    induction l with
    | nil => exact fun a _ ha => ha
    | cons r l ih =>
      intro a hl ha
      refine ih _ (fun q hq => hl q (List.mem_cons_of_mem _ hq)) ?_
      dsimp only
      by_cases hh : r.1 = 0 ∧ r.2.2.1 = x
      · rw [if_pos hh]
        exact (hl r List.mem_cons_self).1
      · rw [if_neg hh]
        exact ha
  exact gen l NN h (Or.inl rfl)
theorem rl_RP {k : Nat} {m s w : Nat → Int32} (hs : ∀ j, j < k → ∃ a, a < 8 ∧ s j = nI a) : ∀ i, i ≤ k → ∀ r ∈ rl k m s w i, RP r
  | 0, _, r, hr => by cases hr
  | i + 1, hi, r, hr => by
    have ih := rl_RP (m := m) (w := w) hs i (by omega)
    unfold rl at hr
    split at hr
    · exact ih r hr
    · rcases List.mem_append.mp hr with hr | hr
      · exact ih r hr
      · have hr : r = rideOf k m s w (rl k m s w i) i := List.mem_singleton.mp hr
        subst hr
        unfold rideOf
        by_cases hb : wholeB k m w i = true
        · rw [if_pos hb]
          obtain ⟨h1, -, -, h4⟩ := wholeB_iff.mp hb
          exact ⟨Or.inr (hs i (by omega)), Or.inr (hs (i + 1) h1), fun _ => h4⟩
        · rw [if_neg hb]
          by_cases hw : w i = 0
          · rw [if_pos hw]
            exact ⟨Or.inr (hs i (by omega)), lastE_P ih _, fun _ => rfl⟩
          · rw [if_neg hw]
            exact ⟨lastB_P ih _, Or.inr (hs i (by omega)), fun _ => rfl⟩
section MR
variable {e n : Nat} {h : mz_H} {Q : mz_Q} {g : Nat → Int32} {r j : Int32} {kd st sp bg en lm : Nat → Int32}
theorem m_mendE {l : List Rde} {x : Int32} (ho : h 186 = mo (nI l.length) j) (hk : h 190 = .inl (0, 48, kd)) (h1 : h 191 = .inl (0, 48, st)) (h2 : h 192 = .inl (0, 48, sp)) (hl : l.length ≤ 48) (R : RepA l st sp bg en kd) (H : Q (some (.int (lastE l x))) n h) : mz_wc (e + 1) 134 [.ref 186, .int (nI 1), .int x] n h Q := by
  refine mz_wc.enter (code := co_X11_mended) (idx := 134) rfl rfl (Nat.le_of_ble_eq_true rfl) rfl rfl ?_
  refine mz_WP.run 4 rfl ?_
  have loop : ∀ q i, i + q = l.length → mz_WP (mz_wc e) e 1 co_X11_mended Q 6 [some (.ref 186), some (.int (nI 1)), some (.int x), some (.int (lastE (l.take i) x)), some (.int (nI i))] [] n h 0 0 := by
    intro q
    induction q with
    | zero =>
      intro i hi
      have hi : i = l.length := by omega
      subst hi
      refine mz_WP.run 80 rfl ?_
      refine mz_WP.getf rfl (ho) rfl (Nat.le_of_ble_eq_true rfl) ?_
      refine mz_WP.icmp rfl (fun cc => ?_) (fun cc => ?_)
      · rw [List.take_length]
        refine mz_WP.run 80 rfl ?_
        exact mz_WP.ret rfl rfl H
      · exact absurd (nI_le (Nat.le_refl _) (by omega)) cc
    | succ q ih =>
      intro i hi
      refine mz_WP.run 80 rfl ?_
      refine mz_WP.getf rfl (ho) rfl (Nat.le_of_ble_eq_true rfl) ?_
      refine mz_WP.icmp rfl (fun cc => ?_) (fun cc => ?_)
      · exact absurd cc (nI_ge (by omega) (by omega))
      obtain ⟨p, hp⟩ := geti (show i < l.length by omega)
      obtain ⟨a1, a2, a3, -, -⟩ := R i p hp
      have nx := ih (i + 1) (by omega)
      rw [nI_succ i, tk hp, lastE_app] at nx
      refine mz_WP.run 80 rfl ?_
      refine mz_WP.getf rfl (ho) rfl (Nat.le_of_ble_eq_true rfl) ?_
      refine mz_WP.run 80 rfl ?_
      refine mz_WP.alN rfl hk rfl (by omega) (by decide) ?_
      rw [a1]
      refine mz_WP.ifc rfl (fun c1 => ?_) (fun c1 => ?_)
      · have c1 : ¬ p.1 = 0 := c1
        rw [if_neg (fun z => c1 z.1)] at nx
        refine mz_WP.run 80 rfl ?_
        exact nx
      · have c1 : p.1 = 0 := Classical.byContradiction c1
        refine mz_WP.run 80 rfl ?_
        refine mz_WP.ifc rfl (fun c2 => ?_) (fun c2 => ?_)
        · exact absurd c2 (by show ¬ nI 1 = 0; decide)
        · refine mz_WP.run 80 rfl ?_
          refine mz_WP.getf rfl (ho) rfl (Nat.le_of_ble_eq_true rfl) ?_
          refine mz_WP.run 80 rfl ?_
          refine mz_WP.alN rfl h1 rfl (by omega) (by decide) ?_
          rw [a2]
          refine mz_WP.run 80 rfl ?_
          refine mz_WP.run 80 rfl ?_
          refine mz_WP.icmp rfl (fun c3 => ?_) (fun c3 => ?_)
          · have c3 : ¬ p.2.1 = x := c3
            rw [if_neg (fun z => c3 z.2)] at nx
            refine mz_WP.run 80 rfl ?_
            exact nx
          · have c3 : p.2.1 = x := Classical.byContradiction c3
            rw [if_pos ⟨c1, c3⟩] at nx
            refine mz_WP.run 80 rfl ?_
            refine mz_WP.ifc rfl (fun c4 => ?_) (fun c4 => ?_)
            · exact absurd c4 (by show ¬ nI 1 = 0; decide)
            · refine mz_WP.run 80 rfl ?_
              refine mz_WP.getf rfl (ho) rfl (Nat.le_of_ble_eq_true rfl) ?_
              refine mz_WP.run 80 rfl ?_
              refine mz_WP.alN rfl h2 rfl (by omega) (by decide) ?_
              rw [a3]
              refine mz_WP.run 80 rfl ?_
              refine mz_WP.run 80 rfl ?_
              exact nx
  exact loop l.length 0 (by omega)
theorem m_mendB {l : List Rde} {x : Int32} (ho : h 186 = mo (nI l.length) j) (hk : h 190 = .inl (0, 48, kd)) (h1 : h 191 = .inl (0, 48, st)) (h2 : h 192 = .inl (0, 48, sp)) (hl : l.length ≤ 48) (R : RepA l st sp bg en kd) (H : Q (some (.int (lastB l x))) n h) : mz_wc (e + 1) 134 [.ref 186, .int (nI 0), .int x] n h Q := by
  refine mz_wc.enter (code := co_X11_mended) (idx := 134) rfl rfl (Nat.le_of_ble_eq_true rfl) rfl rfl ?_
  refine mz_WP.run 4 rfl ?_
  have loop : ∀ q i, i + q = l.length → mz_WP (mz_wc e) e 1 co_X11_mended Q 6 [some (.ref 186), some (.int (nI 0)), some (.int x), some (.int (lastB (l.take i) x)), some (.int (nI i))] [] n h 0 0 := by
    intro q
    induction q with
    | zero =>
      intro i hi
      have hi : i = l.length := by omega
      subst hi
      refine mz_WP.run 80 rfl ?_
      refine mz_WP.getf rfl (ho) rfl (Nat.le_of_ble_eq_true rfl) ?_
      refine mz_WP.icmp rfl (fun cc => ?_) (fun cc => ?_)
      · rw [List.take_length]
        refine mz_WP.run 80 rfl ?_
        exact mz_WP.ret rfl rfl H
      · exact absurd (nI_le (Nat.le_refl _) (by omega)) cc
    | succ q ih =>
      intro i hi
      refine mz_WP.run 80 rfl ?_
      refine mz_WP.getf rfl (ho) rfl (Nat.le_of_ble_eq_true rfl) ?_
      refine mz_WP.icmp rfl (fun cc => ?_) (fun cc => ?_)
      · exact absurd cc (nI_ge (by omega) (by omega))
      obtain ⟨p, hp⟩ := geti (show i < l.length by omega)
      obtain ⟨a1, a2, a3, -, -⟩ := R i p hp
      have nx := ih (i + 1) (by omega)
      rw [nI_succ i, tk hp, lastB_app] at nx
      refine mz_WP.run 80 rfl ?_
      refine mz_WP.getf rfl (ho) rfl (Nat.le_of_ble_eq_true rfl) ?_
      refine mz_WP.run 80 rfl ?_
      refine mz_WP.alN rfl hk rfl (by omega) (by decide) ?_
      rw [a1]
      refine mz_WP.ifc rfl (fun c1 => ?_) (fun c1 => ?_)
      · have c1 : ¬ p.1 = 0 := c1
        rw [if_neg (fun z => c1 z.1)] at nx
        refine mz_WP.run 80 rfl ?_
        exact nx
      · have c1 : p.1 = 0 := Classical.byContradiction c1
        refine mz_WP.run 80 rfl ?_
        refine mz_WP.ifc rfl (fun c2 => ?_) (fun c2 => ?_)
        · refine mz_WP.run 80 rfl ?_
          refine mz_WP.getf rfl (ho) rfl (Nat.le_of_ble_eq_true rfl) ?_
          refine mz_WP.run 80 rfl ?_
          refine mz_WP.alN rfl h2 rfl (by omega) (by decide) ?_
          rw [a3]
          refine mz_WP.run 80 rfl ?_
          refine mz_WP.icmp rfl (fun c3 => ?_) (fun c3 => ?_)
          · have c3 : ¬ p.2.2.1 = x := c3
            rw [if_neg (fun z => c3 z.2)] at nx
            refine mz_WP.run 80 rfl ?_
            exact nx
          · have c3 : p.2.2.1 = x := Classical.byContradiction c3
            rw [if_pos ⟨c1, c3⟩] at nx
            refine mz_WP.run 80 rfl ?_
            refine mz_WP.ifc rfl (fun c4 => ?_) (fun c4 => ?_)
            · refine mz_WP.run 80 rfl ?_
              refine mz_WP.getf rfl (ho) rfl (Nat.le_of_ble_eq_true rfl) ?_
              refine mz_WP.run 80 rfl ?_
              refine mz_WP.alN rfl h1 rfl (by omega) (by decide) ?_
              rw [a2]
              refine mz_WP.run 80 rfl ?_
              exact nx
            · exact absurd (by show nI 0 = 0; decide) c4
        · exact absurd (by show nI 0 = 0; decide) c2
  exact loop l.length 0 (by omega)
def LmP (l : List Rde) (lm : Nat → Int32) : Prop := ∀ i r, l[i]? = some r → lm i = bI (lameB r.2.1 r.2.2.1)
theorem LmP.app {l : List Rde} (R : LmP l lm) {c : Nat} (hc : l.length = c) (p : Rde) : LmP (l ++ [p]) (upd lm c (bI (lameB p.2.1 p.2.2.1))) := by
  intro i q hq
  by_cases hj : i < l.length
  · rw [List.getElem?_append_left hj] at hq
    rw [updN (by omega)]
    exact R i q hq
  · rw [List.getElem?_append_right (by omega)] at hq
    have hz : i - l.length < 1 := (List.getElem?_eq_some_iff.mp hq).1
    have hjc : i = c := by omega
    rw [show i - l.length = 0 by omega] at hq
    cases hq
    subst hjc
    rw [updS]
theorem m_addRide {k : Nat} {a b c f d : Int32} (hk : k < 48) (hb : stP b) (hc : stP c) (H : Q none n (mrH h (nI (k + 1)) j (upd kd k a) (upd st k b) (upd sp k c) (upd bg k f) (upd en k d) (upd lm k (bI (lameB b c))))) : mz_wc (e + 1) 135 [.ref 186, .int a, .int b, .int c, .int f, .int d] n (mrH h (nI k) j kd st sp bg en lm) Q := by
  refine mz_wc.enter (code := co_X11_addRide) (idx := 135) rfl rfl (Nat.le_of_ble_eq_true rfl) rfl rfl ?_
  refine mz_WP.run 80 rfl ?_
  refine mz_WP.getf rfl (rfl) rfl (Nat.le_of_ble_eq_true rfl) ?_
  refine mz_WP.run 80 rfl ?_
  refine mz_WP.getf rfl (rfl) rfl (Nat.le_of_ble_eq_true rfl) ?_
  refine mz_WP.run 80 rfl ?_
  refine mz_WP.asN rfl rfl (by omega) rfl hk (by decide) ?_
  rw [mr_u1]
  refine mz_WP.run 80 rfl ?_
  refine mz_WP.getf rfl (rfl) rfl (Nat.le_of_ble_eq_true rfl) ?_
  refine mz_WP.run 80 rfl ?_
  refine mz_WP.getf rfl (rfl) rfl (Nat.le_of_ble_eq_true rfl) ?_
  refine mz_WP.run 80 rfl ?_
  refine mz_WP.asN rfl rfl (by omega) rfl hk (by decide) ?_
  rw [mr_u2]
  refine mz_WP.run 80 rfl ?_
  refine mz_WP.getf rfl (rfl) rfl (Nat.le_of_ble_eq_true rfl) ?_
  refine mz_WP.run 80 rfl ?_
  refine mz_WP.getf rfl (rfl) rfl (Nat.le_of_ble_eq_true rfl) ?_
  refine mz_WP.run 80 rfl ?_
  refine mz_WP.asN rfl rfl (by omega) rfl hk (by decide) ?_
  rw [mr_u3]
  refine mz_WP.run 80 rfl ?_
  refine mz_WP.getf rfl (rfl) rfl (Nat.le_of_ble_eq_true rfl) ?_
  refine mz_WP.run 80 rfl ?_
  refine mz_WP.getf rfl (rfl) rfl (Nat.le_of_ble_eq_true rfl) ?_
  refine mz_WP.run 80 rfl ?_
  refine mz_WP.asN rfl rfl (by omega) rfl hk (by decide) ?_
  rw [mr_u4]
  refine mz_WP.run 80 rfl ?_
  refine mz_WP.getf rfl (rfl) rfl (Nat.le_of_ble_eq_true rfl) ?_
  refine mz_WP.run 80 rfl ?_
  refine mz_WP.getf rfl (rfl) rfl (Nat.le_of_ble_eq_true rfl) ?_
  refine mz_WP.run 80 rfl ?_
  refine mz_WP.asN rfl rfl (by omega) rfl hk (by decide) ?_
  rw [mr_u5]
  refine mz_WP.run 80 rfl ?_
  refine mz_WP.getf rfl (rfl) rfl (Nat.le_of_ble_eq_true rfl) ?_
  refine mz_WP.run 80 rfl ?_
  refine mz_WP.getf rfl (rfl) rfl (Nat.le_of_ble_eq_true rfl) ?_
  refine mz_WP.run 80 rfl ?_
  have fin : ∀ t : Bool, lameB b c = t → mz_WP (mz_wc e) e 0 co_X11_addRide Q 73 [some (.ref 186), some (.int a), some (.int b), some (.int c), some (.int f), some (.int d)] [.int (bI t), .int (nI k), .ref 195] n (mrH h (nI k) j (upd kd k a) (upd st k b) (upd sp k c) (upd bg k f) (upd en k d) lm) 0 0 := by
    intro t ht
    refine mz_WP.bsN t rfl rfl (by omega) rfl hk (by decide) rfl ?_
    rw [mr_u6, ← ht]
    refine mz_WP.run 80 rfl ?_
    refine mz_WP.getf rfl (rfl) rfl (Nat.le_of_ble_eq_true rfl) ?_
    refine mz_WP.run 80 rfl ?_
    rw [nI_add]
    refine mz_WP.putf rfl (rfl) (Nat.le_of_ble_eq_true rfl) (Nat.le_of_ble_eq_true rfl) rfl ?_
    refine mz_WP.vret rfl rfl ?_
    rw [← mr_u0] at H
    exact H
  refine mz_WP.ifc rfl (fun c1 => ?_) (fun c1 => ?_)
  · have c1 : b = NN := hb.neg.mp c1
    refine mz_WP.run 80 rfl ?_
    refine mz_WP.run 80 rfl ?_
    exact fin true (by unfold lameB; rw [decide_eq_true c1]; rfl)
  · have c1 : ¬ b = NN := fun z => c1 (hb.neg.mpr z)
    refine mz_WP.run 80 rfl ?_
    refine mz_WP.ifc rfl (fun c2 => ?_) (fun c2 => ?_)
    · have c2 : ¬ c = NN := fun z => absurd (hc.neg.mpr z) (Int32.not_lt.mpr c2)
      refine mz_WP.run 80 rfl ?_
      exact fin false (by unfold lameB; rw [decide_eq_false c1, decide_eq_false c2]; rfl)
    · have c2 : c = NN := hc.neg.mp (Int32.not_le.mp c2)
      refine mz_WP.run 80 rfl ?_
      refine mz_WP.run 80 rfl ?_
      exact fin true (by unfold lameB; rw [decide_eq_true c2, Bool.or_true])
end MR
