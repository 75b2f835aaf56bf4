/-! Plan -/
abbrev Dpv : Type := Int32 × Int32 × Bool
def dstep (ow wk : Int32) (w : Bool) (a b : Dpv) : Dpv := if w = true ∧ (wk + b.1 < ow + a.1 ∨ (wk + b.1 = ow + a.1 ∧ nI 1 + b.2.1 ≤ a.2.1)) then (wk + b.1, nI 1 + b.2.1, true) else (ow + a.1, a.2.1, false)
/-- from the last day backwards: the values of the days 28 - r to 28 -/
def dpl (ow wk : Nat → Int32) : Nat → List Dpv
  | 0 => [(0, 0, false)]
  | r + 1 => dstep (ow (27 - r)) (wk (27 - r)) (decide (6 ≤ r)) ((dpl ow wk r).getD 0 (0, 0, false)) ((dpl ow wk r).getD 6 (0, 0, false)) :: dpl ow wk r
theorem dpl_len (ow wk : Nat → Int32) : ∀ r, (dpl ow wk r).length = r + 1
  | 0 => rfl
  | r + 1 => congrArg Nat.succ (dpl_len ow wk r)
def PRep (l : List Dpv) (d : Nat) (cf wf wb : Nat → Int32) : Prop := ∀ j v, l[j]? = some v → cf (d + j) = v.1 ∧ wf (d + j) = v.2.1 ∧ (d + j < 28 → wb (d + j) = bI v.2.2)
def wkc (wr wd : Nat → Int32) (d : Nat) : Int32 := if wmx wd 7 d 0 = 0 then 0 else rat 6 wr (wmx wd 7 d 0)
section PL
variable {e n : Nat} {h : mz_H} {Q : mz_Q} {cf wf wb sr iw : Nat → Int32} {sm wd ow : Nat → Int32} {zr fr cr wr : Nat → Int32} {mr ne : Int32}
theorem DyA.pl (R : DyA h sm wd ow) : DyA (plH h cf wf wb sr iw) sm wd ow := R.to (fun b _ h2 => pl_lt (by omega))
theorem TrA.pl (T : TrA h 32 zr fr cr wr mr ne) : TrA (plH h cf wf wb sr iw) 32 zr fr cr wr mr ne := T.to (fun b _ h2 => pl_lt (by omega))
theorem s_weigh {d : Nat} {x : Int32} (F : Fx h) (hd : d + 7 ≤ 28) (H1 : (x + cf (d + 7) < cf d ∨ (x + cf (d + 7) = cf d ∧ nI 1 + wf (d + 7) ≤ wf d)) → Q none n (plH h (upd cf d (x + cf (d + 7))) (upd wf d (nI 1 + wf (d + 7))) (upd wb d (nI 1)) sr iw)) (H0 : ¬ (x + cf (d + 7) < cf d ∨ (x + cf (d + 7) = cf d ∧ nI 1 + wf (d + 7) ≤ wf d)) → Q none n (plH h cf wf wb sr iw)) : mz_wc (e + 2) 32 [.ref 175, .int (nI d), .int x] n (plH h cf wf wb sr iw) Q := by
  have F' : ∀ {cf wf wb sr iw : Nat → Int32}, Fx (plH h cf wf wb sr iw) := pl_F F
  refine mz_wc.enter (code := co_X4_weighWeek) (idx := 32) rfl rfl (Nat.le_of_ble_eq_true rfl) rfl rfl ?_
  refine mz_WP.run 80 rfl ?_
  refine mz_WP.getf rfl (F' _ _ rfl) rfl (Nat.le_of_ble_eq_true rfl) ?_
  refine mz_WP.run 80 rfl ?_
  rw [nI_add]
  refine mz_WP.cv rfl rfl (Nat.le_of_ble_eq_true rfl) rfl (F' _ _ rfl) rfl (s_at (F' _ _ rfl) rfl (by decide) ?_)
  rw [rat_in (by omega) (by decide)]
  refine mz_WP.run 80 rfl ?_
  refine mz_WP.getf rfl (F' _ _ rfl) rfl (Nat.le_of_ble_eq_true rfl) ?_
  refine mz_WP.run 80 rfl ?_
  rw [nI_add]
  refine mz_WP.cv rfl rfl (Nat.le_of_ble_eq_true rfl) rfl (F' _ _ rfl) rfl (s_at (F' _ _ rfl) rfl (by decide) ?_)
  rw [rat_in (by omega) (by decide)]
  refine mz_WP.run 80 rfl ?_
  refine mz_WP.getf rfl (F' _ _ rfl) rfl (Nat.le_of_ble_eq_true rfl) ?_
  refine mz_WP.run 80 rfl ?_
  refine mz_WP.cv rfl rfl (Nat.le_of_ble_eq_true rfl) rfl (F' _ _ rfl) rfl (s_at (F' _ _ rfl) rfl (by decide) ?_)
  rw [rat_in (by omega) (by decide)]
  have k90 : ∀ x5 x6 : Option Value, (x + cf (d + 7) < cf d ∨ (x + cf (d + 7) = cf d ∧ nI 1 + wf (d + 7) ≤ wf d)) → mz_WP (mz_wc (e + 1)) (e + 1) 0 co_X4_weighWeek Q 90 [some (.ref 175), some (.int (nI d)), some (.int x), some (.int (x + cf (d + 7))), some (.int (nI 1 + wf (d + 7))), x5, x6] [] n (plH h cf wf wb sr iw) 0 0 := by
    intro x5 x6 hc
    refine mz_WP.run 80 rfl ?_
    refine mz_WP.getf rfl (F' _ _ rfl) rfl (Nat.le_of_ble_eq_true rfl) ?_
    refine mz_WP.run 80 rfl ?_
    refine mz_WP.cv rfl rfl (Nat.le_of_ble_eq_true rfl) rfl (F' _ _ rfl) rfl (s_put (F' _ _ rfl) rfl (by decide) (by decide) ?_)
    rw [pl_u1, rput_in (by omega) (by decide)]
    refine mz_WP.run 80 rfl ?_
    refine mz_WP.getf rfl (F' _ _ rfl) rfl (Nat.le_of_ble_eq_true rfl) ?_
    refine mz_WP.run 80 rfl ?_
    refine mz_WP.cv rfl rfl (Nat.le_of_ble_eq_true rfl) rfl (F' _ _ rfl) rfl (s_put (F' _ _ rfl) rfl (by decide) (by decide) ?_)
    rw [pl_u2, rput_in (by omega) (by decide)]
    refine mz_WP.run 80 rfl ?_
    refine mz_WP.getf rfl (F' _ _ rfl) rfl (Nat.le_of_ble_eq_true rfl) ?_
    refine mz_WP.run 80 rfl ?_
    refine mz_WP.cv rfl rfl (Nat.le_of_ble_eq_true rfl) rfl (F' _ _ rfl) rfl (s_put (F' _ _ rfl) rfl (by decide) (by decide) ?_)
    rw [pl_u3, rput_in (by omega) (by decide)]
    exact mz_WP.vret rfl rfl (H1 hc)
  have k48 : ∀ b5 : Bool, (b5 = true ↔ x + cf (d + 7) < cf d) → mz_WP (mz_wc (e + 1)) (e + 1) 0 co_X4_weighWeek Q 48 [some (.ref 175), some (.int (nI d)), some (.int x), some (.int (x + cf (d + 7))), some (.int (nI 1 + wf (d + 7))), some (.int (bI b5)), none] [] n (plH h cf wf wb sr iw) 0 0 := by
    intro b5 h5
    have k80 : ∀ b6 : Bool, (b6 = true ↔ (x + cf (d + 7) = cf d ∧ nI 1 + wf (d + 7) ≤ wf d)) → mz_WP (mz_wc (e + 1)) (e + 1) 0 co_X4_weighWeek Q 80 [some (.ref 175), some (.int (nI d)), some (.int x), some (.int (x + cf (d + 7))), some (.int (nI 1 + wf (d + 7))), some (.int (bI b5)), some (.int (bI b6))] [] n (plH h cf wf wb sr iw) 0 0 := by
      intro b6 h6
      refine mz_WP.run 80 rfl ?_
      refine mz_WP.ifc rfl (fun c => ?_) (fun c => ?_)
      · exact k90 _ _ (Or.inl (h5.mp (bI_t c)))
      · have c := bI_f (Classical.byContradiction c)
        refine mz_WP.run 80 rfl ?_
        refine mz_WP.ifc rfl (fun c2 => ?_) (fun c2 => ?_)
        · refine mz_WP.vret rfl rfl (H0 (fun q => ?_))
          rcases q with q | q
          · have := h5.mpr q
            rw [c] at this
            exact absurd this (by decide)
          · have := h6.mpr q
            rw [bI_f c2] at this
            exact absurd this (by decide)
        · exact k90 _ _ (Or.inr (h6.mp (bI_t c2)))
    have k77 : ¬ (x + cf (d + 7) = cf d ∧ nI 1 + wf (d + 7) ≤ wf d) → mz_WP (mz_wc (e + 1)) (e + 1) 0 co_X4_weighWeek Q 77 [some (.ref 175), some (.int (nI d)), some (.int x), some (.int (x + cf (d + 7))), some (.int (nI 1 + wf (d + 7))), some (.int (bI b5)), none] [] n (plH h cf wf wb sr iw) 0 0 := by
      intro hn
      refine mz_WP.run 2 rfl ?_
      exact k80 false ⟨fun z => absurd z (by decide), fun z => absurd z hn⟩
    refine mz_WP.run 80 rfl ?_
    refine mz_WP.getf rfl (F' _ _ rfl) rfl (Nat.le_of_ble_eq_true rfl) ?_
    refine mz_WP.run 80 rfl ?_
    refine mz_WP.cv rfl rfl (Nat.le_of_ble_eq_true rfl) rfl (F' _ _ rfl) rfl (s_at (F' _ _ rfl) rfl (by decide) ?_)
    rw [rat_in (by omega) (by decide)]
    refine mz_WP.icmp rfl (fun c => ?_) (fun c => ?_)
    · exact k77 (fun q => c q.1)
    · have c : x + cf (d + 7) = cf d := Classical.byContradiction c
      refine mz_WP.run 80 rfl ?_
      refine mz_WP.getf rfl (F' _ _ rfl) rfl (Nat.le_of_ble_eq_true rfl) ?_
      refine mz_WP.run 80 rfl ?_
      refine mz_WP.cv rfl rfl (Nat.le_of_ble_eq_true rfl) rfl (F' _ _ rfl) rfl (s_at (F' _ _ rfl) rfl (by decide) ?_)
      rw [rat_in (by omega) (by decide)]
      refine mz_WP.icmp rfl (fun c2 => ?_) (fun c2 => ?_)
      · have c2 : wf d < nI 1 + wf (d + 7) := c2
        exact k77 (fun q => Int32.not_le.mpr c2 q.2)
      · have c2 : nI 1 + wf (d + 7) ≤ wf d := Int32.not_lt.mp c2
        refine mz_WP.run 80 rfl ?_
        refine mz_WP.run 1 rfl ?_
        exact k80 true ⟨fun _ => ⟨c, c2⟩, fun _ => rfl⟩
  refine mz_WP.icmp rfl (fun c => ?_) (fun c => ?_)
  · have c : cf d ≤ x + cf (d + 7) := c
    refine mz_WP.run 2 rfl ?_
    exact k48 false ⟨fun z => absurd z (by decide), fun z => absurd c (Int32.not_le.mpr z)⟩
  · have c : x + cf (d + 7) < cf d := Int32.not_le.mp c
    refine mz_WP.run 80 rfl ?_
    refine mz_WP.run 1 rfl ?_
    exact k48 true ⟨fun _ => c, fun _ => rfl⟩
theorem PRep.get {l : List Dpv} {d j : Nat} (P : PRep l d cf wf wb) (hj : j < l.length) : cf (d + j) = (l.getD j (0, 0, false)).1 ∧ wf (d + j) = (l.getD j (0, 0, false)).2.1 := by
  have := P j _ (List.getElem?_eq_getElem hj)
  have hg : l.getD j (0, 0, false) = l[j] := by rw [List.getD_eq_getElem?_getD, List.getElem?_eq_getElem hj]; rfl
  rw [hg]
  exact ⟨this.1, this.2.1⟩
end PL
