/-! the reference: days -/
def dRows (h : mz_H) (su wd ow la wk iw : Nat → Int32) : Prop := h 201 = .inl (0, 28, su) ∧ h 202 = .inl (0, 28, wd) ∧ h 203 = .inl (0, 28, ow) ∧ h 204 = .inl (0, 36, la) ∧ h 205 = .inl (0, 36, wk) ∧ h 206 = .inl (1, 36, iw)
/-- what stands when the days of the rides l are laid -/
def MD (h : mz_H) (g : Nat → Int32) (l : List Rde) : Prop := MJ h g l ∧ ∃ su wd ow la wk iw : Nat → Int32, dRows h su wd ow la wk iw ∧ (∀ d, d < 28 → su d = dsm (frG g) (g 411) (gJ g l) d ∧ wd d = dwd (gJ g l) d ∧ ow d = gO g (gJ g l) d) ∧ la 0 = (dpv (gO g (gJ g l)) (gK g (gJ g l)) 0).1 ∧ wk 0 = (dpv (gO g (gJ g l)) (gK g (gJ g l)) 0).2.1 ∧ (∀ d, d < 28 → iw d = bI (bgn (gO g (gJ g l)) (gK g (gJ g l)) d))
def widP (J : List Jrn) : Prop := ∀ q ∈ J, ∃ w, 1 ≤ w ∧ w ≤ 5 ∧ jwid q = nI w
def ddP (a b : Int32) : Prop := (a = 0 ∧ b = 0) ∨ ∃ w, 1 ≤ w ∧ w ≤ 5 ∧ b = nI w
theorem dd_gen {fr : Nat → Int32} {mr : Int32} {d : Nat} : ∀ (J : List Jrn) (a b : Int32), widP J → ddP a b → ddP (J.foldl (fun a q => if q.1 / nI 1440 = nI d then a + jcost fr mr q else a) a) (J.foldl (fun a q => if q.1 / nI 1440 = nI d then zmax a (jwid q) else a) b)
  | [], _, _, _, h => h
  | q :: J, a, b, hw, h => by
    refine dd_gen J _ _ (fun q hq => hw q (List.mem_cons_of_mem _ hq)) ?_
    dsimp only
    by_cases hh : q.1 / nI 1440 = nI d
    · rw [if_pos hh, if_pos hh]
      obtain ⟨w, w1, w2, w3⟩ := hw q List.mem_cons_self
      refine Or.inr ?_
      rw [w3]
      rcases h with ⟨-, h⟩ | ⟨v, v1, v2, h⟩
      · rw [h, ← nI_0, zmax_n (by omega) (by omega)]
        exact ⟨max 0 w, by omega, by omega, rfl⟩
      · rw [h, zmax_n (by omega) (by omega)]
        exact ⟨max v w, by omega, by omega, rfl⟩
    · rw [if_neg hh, if_neg hh]
      exact h
theorem dd_P {fr : Nat → Int32} {mr : Int32} {d : Nat} {J : List Jrn} (hw : widP J) : ddP (dsm fr mr J d) (dwd J d) := dd_gen J 0 0 hw (Or.inl ⟨rfl, rfl⟩)
theorem wmx_P {f : Nat → Int32} : ∀ (k d : Nat) (x : Int32), (∀ j, d ≤ j → j < d + k → ∃ w, w ≤ 5 ∧ f j = nI w) → (∃ w, w ≤ 5 ∧ x = nI w) → ∃ w, w ≤ 5 ∧ wmx f k d x = nI w
  | 0, _, _, _, hx => hx
  | k + 1, d, x, hf, hx => by
    refine wmx_P k (d + 1) _ (fun j h1 h2 => hf j (by omega) (by omega)) ?_
    obtain ⟨a, a1, a2⟩ := hx
    obtain ⟨b, b1, b2⟩ := hf d (by omega) (by omega)
    rw [a2, b2, zmax_n (by omega) (by omega)]
    exact ⟨max a b, by omega, rfl⟩
section MDy
variable {e n : Nat} {h : mz_H} {Q : mz_Q} {g : Nat → Int32} {r j : Int32} {su wd ow la wk iw : Nat → Int32}
theorem m_weekAt {d : Nat} (ho : h 186 = mo r j) (hg : h 187 = .inl (0, 423, g)) (hw : h 202 = .inl (0, 28, wd)) (hd : d ≤ 21) (hP : ∀ j, j < 28 → ∃ w, w ≤ 5 ∧ wd j = nI w) (H : Q (some (.int (wkc (wrG g) wd d))) n h) : mz_wc (e + 1) 144 [.ref 186, .int (nI d)] n h Q := by
  refine mz_wc.enter (code := co_X11_weekAt) (idx := 144) rfl rfl (Nat.le_of_ble_eq_true rfl) rfl rfl ?_
  refine mz_WP.run 4 rfl ?_
  have loop : ∀ q i x, i + q = d + 7 → wmx wd q i x = wmx wd 7 d 0 → mz_WP (mz_wc e) e 1 co_X11_weekAt Q 4 [some (.ref 186), some (.int (nI d)), some (.int x), some (.int (nI i))] [] n h 0 0 := by
    intro q
    induction q with
    | zero =>
      intro i x hi hx
      have hx : x = wmx wd 7 d 0 := hx
      obtain ⟨w, w1, w2⟩ := wmx_P (f := wd) 7 d 0 (fun j h1 h2 => hP j (by omega)) ⟨0, by omega, nI_0.symm⟩
      unfold wkc at H
      rw [← hx] at H w2
      refine mz_WP.run 80 rfl ?_
      rw [nI_add]
      refine mz_WP.icmp rfl (fun c => ?_) (fun c => ?_)
      · refine mz_WP.run 80 rfl ?_
        refine mz_WP.ifc rfl (fun c1 => ?_) (fun c1 => ?_)
        · have c1 : ¬ x = 0 := c1
          rw [if_neg c1, w2, rat_in (by omega) (by decide)] at H
          have hw0 : ¬ w = 0 := fun z => c1 (by rw [w2, z, nI_0])
          unfold wrG at H
          rw [if_neg hw0] at H
          refine mz_WP.run 80 rfl ?_
          refine mz_WP.getf rfl (ho) rfl (Nat.le_of_ble_eq_true rfl) ?_
          refine mz_WP.run 80 rfl ?_
          refine mz_WP.alN (k := 405 + w) rfl hg (by rw [w2, nI_add, pk_sub (by omega)]; congr 1; omega) (by omega) (by decide) ?_
          exact mz_WP.ret rfl rfl H
        · have c1 : x = 0 := Classical.byContradiction c1
          rw [if_pos c1] at H
          refine mz_WP.run 80 rfl ?_
          refine mz_WP.run 80 rfl ?_
          exact mz_WP.ret rfl rfl H
      · exact absurd (nI_le (by omega) (by omega)) c
    | succ q ih =>
      intro i x hi hx
      have hx : wmx wd q (i + 1) (zmax x (wd i)) = wmx wd 7 d 0 := hx
      have nx := ih (i + 1) (zmax x (wd i)) (by omega) hx
      rw [nI_succ i] at nx
      refine mz_WP.run 80 rfl ?_
      rw [nI_add]
      refine mz_WP.icmp rfl (fun c => ?_) (fun c => ?_)
      · exact absurd c (nI_ge (by omega) (by omega))
      · refine mz_WP.run 80 rfl ?_
        refine mz_WP.getf rfl (ho) rfl (Nat.le_of_ble_eq_true rfl) ?_
        refine mz_WP.run 80 rfl ?_
        refine mz_WP.alN rfl hw rfl (by omega) (by decide) ?_
        refine mz_WP.run 80 rfl ?_
        refine mz_WP.icmp rfl (fun c1 => ?_) (fun c1 => ?_)
        · rw [zmax_f c1] at nx
          refine mz_WP.run 80 rfl ?_
          exact nx
        · rw [zmax_t c1] at nx
          refine mz_WP.run 80 rfl ?_
          refine mz_WP.getf rfl (ho) rfl (Nat.le_of_ble_eq_true rfl) ?_
          refine mz_WP.run 80 rfl ?_
          refine mz_WP.alN rfl hw rfl (by omega) (by decide) ?_
          refine mz_WP.run 80 rfl ?_
          refine mz_WP.run 80 rfl ?_
          exact nx
  exact loop 7 d 0 rfl rfl
end MDy
