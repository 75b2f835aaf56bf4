/-! rows to walk the little machine with -/
def mz_det (ins : Instr) (x pc : Nat) (L : List (Option Value)) (st : List Value) : Option (Nat × List (Option Value) × List Value) := match ins with
  | .iconst _ => some (pc + 1, L, .int (nI x) :: st)
  | .bipush _ => some (pc + 2, L, .int (nI x) :: st)
  | .sipush _ => some (pc + 3, L, .int (nI x) :: st)
  | .ldc _ => some (pc + 2, L, .int (nI x) :: st)
  | .iload_n k => match mz_nth L k.val with
    | some (.int i) => some (pc + 1, L, .int i :: st)
    | _ => none
  | .iload k => match mz_nth L k with
    | some (.int i) => some (pc + 2, L, .int i :: st)
    | _ => none
  | .aload_n k => match mz_nth L k.val with
    | some (.ref i) => some (pc + 1, L, .ref i :: st)
    | _ => none
  | .aload k => match mz_nth L k with
    | some (.ref i) => some (pc + 2, L, .ref i :: st)
    | _ => none
  | .istore_n k => match st with
    | .int i :: r => match mz_put L k.val (.int i) with
      | some L' => some (pc + 1, L', r)
      | none => none
    | _ => none
  | .istore k => match st with
    | .int i :: r => match mz_put L k (.int i) with
      | some L' => some (pc + 2, L', r)
      | none => none
    | _ => none
  | .astore_n k => match st with
    | .ref i :: r => match mz_put L k.val (.ref i) with
      | some L' => some (pc + 1, L', r)
      | none => none
    | _ => none
  | .astore k => match st with
    | .ref i :: r => match mz_put L k (.ref i) with
      | some L' => some (pc + 2, L', r)
      | none => none
    | _ => none
  | .iinc k _ => match mz_nth L k with
    | some (.int i) => match mz_put L k (.int (i + nI x)) with
      | some L' => some (pc + 3, L', st)
      | none => none
    | _ => none
  | .iadd => match st with
    | .int b :: .int a :: r => some (pc + 1, L, .int (a + b) :: r)
    | _ => none
  | .isub => match st with
    | .int b :: .int a :: r => some (pc + 1, L, .int (a - b) :: r)
    | _ => none
  | .imul => match st with
    | .int b :: .int a :: r => some (pc + 1, L, .int (a * b) :: r)
    | _ => none
  | .iand => match st with
    | .int b :: .int a :: r => some (pc + 1, L, .int (a &&& b) :: r)
    | _ => none
  | .ior => match st with
    | .int b :: .int a :: r => some (pc + 1, L, .int (a ||| b) :: r)
    | _ => none
  | .ixor => match st with
    | .int b :: .int a :: r => some (pc + 1, L, .int (a ^^^ b) :: r)
    | _ => none
  | .ishl => match st with
    | .int b :: .int a :: r => some (pc + 1, L, .int (a <<< (b &&& 31)) :: r)
    | _ => none
  | .ishr => match st with
    | .int b :: .int a :: r => some (pc + 1, L, .int (a >>> (b &&& 31)) :: r)
    | _ => none
  | .dup => match st with
    | v :: r => some (pc + 1, L, v :: v :: r)
    | _ => none
  | .dup2 => match st with
    | v :: w :: r => some (pc + 1, L, v :: w :: v :: w :: r)
    | _ => none
  | .getstatic _ => some (pc + 3, L, .ref 0 :: st)
  | _ => none
/-- on, up to what isn't plain; behind a goto it stops -/
def mz_run (code : List mz_I) : Nat → Nat → List (Option Value) → List Value → Nat × List (Option Value) × List Value
  | 0, pc, L, st => (pc, L, st)
  | k + 1, pc, L, st => match mz_lk code pc with
    | some (ins, _, x, _) => match ins with
      | .goto _ => (x, L, st)
      | _ => match mz_det ins x pc L st with
        | some (pc', L', st') => mz_run code k pc' L' st'
        | none => (pc, L, st)
    | none => (pc, L, st)
section ST
variable {e d rk : Nat} {code : List mz_I} {Q : mz_Q} {pc : Nat} {L : List (Option Value)} {st : List Value} {n : Nat} {h : mz_H} {bc bs : Nat}
set_option maxHeartbeats 4000000 in
theorem mz_det_step {X : mz_X} {K : mz_K} {ins : Instr} {len x y pc' : Nat} {L' : List (Option Value)} {st' : List Value} (hl : mz_lk code pc = some (ins, len, x, y)) (hd : mz_det ins x pc L st = some (pc', L', st')) (H : X pc' L' st' n h bc bs) : mz_step K d rk code Q X pc L st n h bc bs := by
  unfold mz_step
  rw [hl]
  unfold mz_det at hd
  cases ins
  case iconst => cases hd; exact H
  case bipush => cases hd; exact H
  case sipush => cases hd; exact H
  case ldc => cases hd; exact H
  case getstatic => cases hd; exact H
  all_goals first
    | (exfalso; cases hd; done)
    | skip
  all_goals (dsimp only at hd ⊢; try unfold mz_st2)
  all_goals (split at hd <;> first
    | (exfalso; cases hd; done)
    | (cases hd; exact H)
    | (cases hd; simp_all; done)
    | (rename_i hz; rw [hz]; split at hd <;> first
      | (exfalso; cases hd; done)
      | (rename_i hz2; dsimp only; rw [hz2]; cases hd; exact H))
    | (split at hd <;> first
      | (exfalso; cases hd; done)
      | (rename_i hz2; dsimp only; rw [hz2]; cases hd; exact H)))
theorem mz_WP.run {pc' : Nat} {L' : List (Option Value)} {st' : List Value} (k : Nat) (hr : mz_run code k pc L st = (pc', L', st')) (H : mz_WP (mz_wc e) d rk code Q pc' L' st' n h bc bs) : mz_WP (mz_wc e) d rk code Q pc L st n h bc bs := by
  induction k generalizing pc L st with
  | zero => cases hr; exact H
  | succ k ih =>
    unfold mz_run at hr
    split at hr
    · rename_i ins len x y hl
      split at hr
      · cases hr
        refine mz_WP.step ?_
        unfold mz_step
        rw [hl]
        exact H
      · split at hr
        · rename_i p1 L1 s1 hd
          exact mz_WP.step (mz_det_step hl hd (ih hr))
        · cases hr; exact H
    · cases hr; exact H
theorem mz_WP.icmp {c : ClassFile.Cond} {off : Int} {len x y : Nat} {a b : Int32} {r : List Value} (hl : mz_lk code pc = some (.if_icmp c off, len, x, y)) (ht : mz_cmp c a b → mz_WP (mz_wc e) d rk code Q x L r n h bc bs) (hf : ¬ mz_cmp c a b → mz_WP (mz_wc e) d rk code Q (pc + 3) L r n h bc bs) : mz_WP (mz_wc e) d rk code Q pc L (.int b :: .int a :: r) n h bc bs := by
  refine mz_WP.step ?_
  unfold mz_step
  rw [hl]
  exact ⟨ht, hf⟩
theorem mz_WP.ifc {c : ClassFile.Cond} {off : Int} {len x y : Nat} {a : Int32} {r : List Value} (hl : mz_lk code pc = some (.ifCond c off, len, x, y)) (ht : mz_cmp c a 0 → mz_WP (mz_wc e) d rk code Q x L r n h bc bs) (hf : ¬ mz_cmp c a 0 → mz_WP (mz_wc e) d rk code Q (pc + 3) L r n h bc bs) : mz_WP (mz_wc e) d rk code Q pc L (.int a :: r) n h bc bs := by
  refine mz_WP.step ?_
  unfold mz_step
  rw [hl]
  exact ⟨ht, hf⟩
theorem mz_WP.div {len x y : Nat} {a b : Int32} {r : List Value} (hl : mz_lk code pc = some (.idiv, len, x, y)) (hb : ¬ b = 0) (H : mz_WP (mz_wc e) d rk code Q (pc + 1) L (.int (a / b) :: r) n h bc bs) : mz_WP (mz_wc e) d rk code Q pc L (.int b :: .int a :: r) n h bc bs := by
  refine mz_WP.step ?_
  unfold mz_step
  rw [hl]
  exact ⟨hb, H⟩
theorem mz_WP.rem {len x y : Nat} {a b : Int32} {r : List Value} (hl : mz_lk code pc = some (.irem, len, x, y)) (hb : ¬ b = 0) (H : mz_WP (mz_wc e) d rk code Q (pc + 1) L (.int (a - a / b * b) :: r) n h bc bs) : mz_WP (mz_wc e) d rk code Q pc L (.int b :: .int a :: r) n h bc bs := by
  refine mz_WP.step ?_
  unfold mz_step
  rw [hl]
  exact ⟨hb, H⟩
theorem mz_WP.getf {cp len x y a : Nat} {fs r : List Value} {v : Value} (hl : mz_lk code pc = some (.getfield cp, len, x, y)) (ha : h a = .inr (x, fs)) (hv : fs[y]? = some v) (hy : y < mz_N x) (H : mz_WP (mz_wc e) d rk code Q (pc + 3) L (v :: r) n h bc bs) : mz_WP (mz_wc e) d rk code Q pc L (.ref a :: r) n h bc bs := by
  refine mz_WP.step ?_
  unfold mz_step
  rw [hl]
  dsimp only
  rw [ha]
  dsimp only
  rw [hv]
  exact ⟨rfl, hy, H⟩
theorem mz_WP.putf {cp len x y a : Nat} {fs r : List Value} {v : Value} (hl : mz_lk code pc = some (.putfield cp, len, x, y)) (ha : h a = .inr (x, fs)) (hy : y < mz_N x) (hy2 : y < fs.length) (ht : mz_vt (mz_ty x y) v = true) (H : mz_WP (mz_wc e) d rk code Q (pc + 3) L r n (mz_up h a (.inr (x, fs.set y v))) bc bs) : mz_WP (mz_wc e) d rk code Q pc L (v :: .ref a :: r) n h bc bs := by
  refine mz_WP.step ?_
  unfold mz_step
  rw [hl]
  dsimp only
  rw [ha]
  exact ⟨rfl, hy, hy2, ht, H⟩
theorem mz_WP.ald {len x y a m : Nat} {f : Nat → Int32} {i : Int32} {r : List Value} (hl : mz_lk code pc = some (.iaload, len, x, y)) (ha : h a = .inl (0, m, f)) (hi : vp_in i m) (H : mz_WP (mz_wc e) d rk code Q (pc + 1) L (.int (f i.toNatClampNeg) :: r) n h bc bs) : mz_WP (mz_wc e) d rk code Q pc L (.int i :: .ref a :: r) n h bc bs := by
  refine mz_WP.step ?_
  unfold mz_step
  rw [hl]
  dsimp only
  rw [ha]
  exact ⟨hi, H⟩
theorem mz_WP.bld {len x y a m : Nat} {f : Nat → Int32} {i : Int32} {r : List Value} (hl : mz_lk code pc = some (.baload, len, x, y)) (ha : h a = .inl (1, m, f)) (hi : vp_in i m) (H : mz_WP (mz_wc e) d rk code Q (pc + 1) L (.int (f i.toNatClampNeg) :: r) n h bc bs) : mz_WP (mz_wc e) d rk code Q pc L (.int i :: .ref a :: r) n h bc bs := by
  refine mz_WP.step ?_
  unfold mz_step
  rw [hl]
  dsimp only
  rw [ha]
  exact ⟨hi, H⟩
theorem mz_WP.ast {len x y a m : Nat} {f : Nat → Int32} {i v : Int32} {r : List Value} (hl : mz_lk code pc = some (.iastore, len, x, y)) (ha : h a = .inl (0, m, f)) (h2 : 2 ≤ a) (hi : vp_in i m) (H : mz_WP (mz_wc e) d rk code Q (pc + 1) L r n (mz_up h a (.inl (0, m, upd f i.toNatClampNeg v))) bc bs) : mz_WP (mz_wc e) d rk code Q pc L (.int v :: .int i :: .ref a :: r) n h bc bs := by
  refine mz_WP.step ?_
  unfold mz_step
  rw [hl]
  dsimp only
  rw [ha]
  exact ⟨h2, hi, H⟩
theorem mz_WP.bst {len x y a m : Nat} {f : Nat → Int32} {i v : Int32} {r : List Value} (hl : mz_lk code pc = some (.bastore, len, x, y)) (ha : h a = .inl (1, m, f)) (h2 : 2 ≤ a) (hi : vp_in i m) (H : mz_WP (mz_wc e) d rk code Q (pc + 1) L r n (mz_up h a (.inl (1, m, upd f i.toNatClampNeg (vp_nar .boolean v)))) bc bs) : mz_WP (mz_wc e) d rk code Q pc L (.int v :: .int i :: .ref a :: r) n h bc bs := by
  refine mz_WP.step ?_
  unfold mz_step
  rw [hl]
  dsimp only
  rw [ha]
  exact ⟨h2, hi, H⟩
theorem mz_WP.alen {len x y a t m : Nat} {f : Nat → Int32} {r : List Value} (hl : mz_lk code pc = some (.arraylength, len, x, y)) (ha : h a = .inl (t, m, f)) (H : mz_WP (mz_wc e) d rk code Q (pc + 1) L (.int (nI m) :: r) n h bc bs) : mz_WP (mz_wc e) d rk code Q pc L (.ref a :: r) n h bc bs := by
  refine mz_WP.step ?_
  unfold mz_step
  rw [hl]
  dsimp only
  rw [ha]
  exact H
theorem mz_WP.tsw {df lo hi : Int} {offs : Array Int} {len x y : Nat} {a : Int32} {r : List Value} (hl : mz_lk code pc = some (.tableswitch df lo hi offs, len, x, y)) (h1 : (a.toInt < lo ∨ hi < a.toInt) → mz_WP (mz_wc e) d rk code Q ((pc : Int) + df).toNat L r n h bc bs) (h2 : ∀ off, ¬ a.toInt < lo → ¬ hi < a.toInt → offs[(a.toInt - lo).toNat]? = some off → mz_WP (mz_wc e) d rk code Q ((pc : Int) + off).toNat L r n h bc bs) : mz_WP (mz_wc e) d rk code Q pc L (.int a :: r) n h bc bs := by
  refine mz_WP.step ?_
  unfold mz_step
  rw [hl]
  exact ⟨h1, h2⟩
theorem mz_WP.newI {len x y : Nat} {k : Int32} {r : List Value} (hl : mz_lk code pc = some (.newarray .int, len, x, y)) (h1 : ¬ k < 0) (h2 : k.toNatClampNeg ≤ 1000) (h3 : 1 ≤ bc) (h4 : k.toNatClampNeg ≤ bs) (H : mz_WP (mz_wc e) d rk code Q (pc + 2) L (.ref (n + 2) :: r) (n + 1) (mz_up h (n + 2) (.inl (0, k.toNatClampNeg, fun _ => 0))) (bc - 1) (bs - k.toNatClampNeg)) : mz_WP (mz_wc e) d rk code Q pc L (.int k :: r) n h bc bs := by
  refine mz_WP.step ?_
  unfold mz_step
  rw [hl]
  exact ⟨h1, h2, h3, h4, H⟩
theorem mz_WP.newB {len x y : Nat} {k : Int32} {r : List Value} (hl : mz_lk code pc = some (.newarray .boolean, len, x, y)) (h1 : ¬ k < 0) (h2 : k.toNatClampNeg ≤ 1000) (h3 : 1 ≤ bc) (h4 : k.toNatClampNeg ≤ bs) (H : mz_WP (mz_wc e) d rk code Q (pc + 2) L (.ref (n + 2) :: r) (n + 1) (mz_up h (n + 2) (.inl (1, k.toNatClampNeg, fun _ => 0))) (bc - 1) (bs - k.toNatClampNeg)) : mz_WP (mz_wc e) d rk code Q pc L (.int k :: r) n h bc bs := by
  refine mz_WP.step ?_
  unfold mz_step
  rw [hl]
  exact ⟨h1, h2, h3, h4, H⟩
theorem mz_WP.new {cp len x y : Nat} (hl : mz_lk code pc = some (.new cp, len, x, y)) (h1 : x < 12) (h3 : 1 ≤ bc) (h4 : mz_N x ≤ bs) (H : mz_WP (mz_wc e) d rk code Q (pc + 3) L (.ref (n + 2) :: st) (n + 1) (mz_up h (n + 2) (.inr (x, mz_df x))) (bc - 1) (bs - mz_N x)) : mz_WP (mz_wc e) d rk code Q pc L st n h bc bs := by
  refine mz_WP.step ?_
  unfold mz_step
  rw [hl]
  exact ⟨h1, h3, h4, H⟩
/-- a call of a method of the receiver's kind that makes nothing -/
theorem mz_WP.cv {cp len x y : Nat} {as r fs as' : List Value} {a : Nat} (hl : mz_lk code pc = some (.invokevirtual cp, len, x, y)) (hs : mz_spl (mz_np.getD x 0 + 1) st [] = some (as, r)) (h8 : r.length ≤ 8) (ha : as = .ref a :: as') (hr : h a = .inr (mz_own x, fs)) (hal : mz_al x as = (0, 0)) (H : mz_wc e x as n h (fun v n' h' => mz_WP (mz_wc e) d rk code Q (pc + 3) L (v.toList ++ r) n' h' bc bs)) : mz_WP (mz_wc e) d rk code Q pc L st n h bc bs := by
  refine mz_WP.step ?_
  unfold mz_step
  rw [hl]
  show mz_inv _ _ _ _ _ _ _ _ _ _ _ _
  unfold mz_inv
  rw [hs]
  refine ⟨h8, fun _ => ⟨a, as', fs, ha, hr⟩, fun z => absurd z (by decide), by rw [hal]; exact Nat.zero_le _, by rw [hal]; exact Nat.zero_le _, ?_⟩
  rw [hal]
  exact H
theorem mz_WP.cs {cp len x y : Nat} {as r : List Value} (hl : mz_lk code pc = some (.invokestatic cp, len, x, y)) (hy : y = 2 ∨ y = 3) (hs : mz_spl (mz_np.getD x 0) st [] = some (as, r)) (h8 : r.length ≤ 8) (hal : mz_al x as = (0, 0)) (H : mz_wc e x as n h (fun v n' h' => mz_WP (mz_wc e) d rk code Q (pc + 3) L (v.toList ++ r) n' h' bc bs)) : mz_WP (mz_wc e) d rk code Q pc L st n h bc bs := by
  refine mz_WP.step ?_
  unfold mz_step
  rw [hl]
  dsimp only
  rw [if_neg (by omega), if_neg (by omega)]
  unfold mz_inv
  rw [hs]
  refine ⟨h8, fun z => absurd z (by decide), fun z => absurd z (by decide), by rw [hal]; exact Nat.zero_le _, by rw [hal]; exact Nat.zero_le _, ?_⟩
  rw [hal]
  exact H
/-- a maker -/
theorem mz_WP.ci {cp len x y mc ms : Nat} {as r as' : List Value} {a : Nat} (hl : mz_lk code pc = some (.invokespecial cp, len, x, y)) (hy : ¬ y = 6) (hs : mz_spl (mz_np.getD x 0 + 1) st [] = some (as, r)) (h8 : r.length ≤ 8) (ha : as = .ref a :: as') (hal : mz_al x as = (mc, ms)) (hb1 : mc ≤ bc) (hb2 : ms ≤ bs) (H : mz_wc e x as n h (fun v n' h' => mz_WP (mz_wc e) d rk code Q (pc + 3) L (v.toList ++ r) n' h' (bc - mc) (bs - ms))) : mz_WP (mz_wc e) d rk code Q pc L st n h bc bs := by
  refine mz_WP.step ?_
  unfold mz_step
  rw [hl]
  dsimp only
  rw [if_neg hy]
  unfold mz_inv
  rw [hs]
  refine ⟨h8, fun z => absurd z (by decide), fun _ => ⟨a, as', ha⟩, by rw [hal]; exact hb1, by rw [hal]; exact hb2, ?_⟩
  rw [hal]
  exact H
theorem mz_WP.oi {cp len x y a : Nat} {r : List Value} (hl : mz_lk code pc = some (.invokespecial cp, len, x, y)) (hy : y = 6) (hd : 1 ≤ d) (h8 : r.length ≤ 8) (H : mz_WP (mz_wc e) d rk code Q (pc + 3) L r n h bc bs) : mz_WP (mz_wc e) d rk code Q pc L (.ref a :: r) n h bc bs := by
  refine mz_WP.step ?_
  unfold mz_step
  rw [hl]
  dsimp only
  rw [if_pos hy]
  exact ⟨hd, h8, H⟩
theorem mz_WP.mx {cp len x y : Nat} {a b : Int32} {r : List Value} (hl : mz_lk code pc = some (.invokestatic cp, len, x, y)) (hy : y = 7) (hd : 1 ≤ d) (h8 : r.length ≤ 8) (H : mz_WP (mz_wc e) d rk code Q (pc + 3) L (.int (if a < b then b else a) :: r) n h bc bs) : mz_WP (mz_wc e) d rk code Q pc L (.int b :: .int a :: r) n h bc bs := by
  refine mz_WP.step ?_
  unfold mz_step
  rw [hl]
  dsimp only
  rw [if_pos hy]
  exact ⟨hd, h8, H⟩
theorem mz_WP.mn {cp len x y : Nat} {a b : Int32} {r : List Value} (hl : mz_lk code pc = some (.invokestatic cp, len, x, y)) (hy : y = 8) (hd : 1 ≤ d) (h8 : r.length ≤ 8) (H : mz_WP (mz_wc e) d rk code Q (pc + 3) L (.int (if b < a then b else a) :: r) n h bc bs) : mz_WP (mz_wc e) d rk code Q pc L (.int b :: .int a :: r) n h bc bs := by
  refine mz_WP.step ?_
  unfold mz_step
  rw [hl]
  dsimp only
  rw [if_neg (by omega), if_pos hy]
  exact ⟨hd, h8, H⟩
theorem mz_WP.ret {len x y : Nat} {v : Int32} (hl : mz_lk code pc = some (.ireturn, len, x, y)) (hr : rk = 1) (H : Q (some (.int v)) n h) : mz_WP (mz_wc e) d rk code Q pc L [.int v] n h bc bs := by
  refine mz_WP.step ?_
  unfold mz_step
  rw [hl]
  exact ⟨Or.inl hr, H⟩
theorem mz_WP.zret {len x y : Nat} {v : Int32} (hl : mz_lk code pc = some (.ireturn, len, x, y)) (hr : rk = 2) (hv : v = 0 ∨ v = 1) (H : Q (some (.int v)) n h) : mz_WP (mz_wc e) d rk code Q pc L [.int v] n h bc bs := by
  refine mz_WP.step ?_
  unfold mz_step
  rw [hl]
  exact ⟨Or.inr ⟨hr, hv⟩, H⟩
theorem mz_WP.aret {len x y a : Nat} (hl : mz_lk code pc = some (.areturn, len, x, y)) (hr : rk = 3) (H : Q (some (.ref a)) n h) : mz_WP (mz_wc e) d rk code Q pc L [.ref a] n h bc bs := by
  refine mz_WP.step ?_
  unfold mz_step
  rw [hl]
  exact ⟨hr, H⟩
theorem mz_WP.vret {len x y : Nat} (hl : mz_lk code pc = some (.return_, len, x, y)) (hr : rk = 0) (H : Q none n h) : mz_WP (mz_wc e) d rk code Q pc L [] n h bc bs := by
  refine mz_WP.step ?_
  unfold mz_step
  rw [hl]
  exact ⟨hr, H⟩
/-- into a method -/
theorem mz_wc.enter {idx maxL mc ms own kd rt : Nat} {y : MethodName} {bytes : ByteArray} {ret : Option FieldType} {as : List Value} {L0 : List (Option Value)} (hM : mz_tab[idx]? = some (y, bytes, maxL, ret, own, kd, code)) (hr : mz_rk ret = rt) (hl : as.length ≤ maxL) (hL : mz_ini maxL as = L0) (hal : mz_al idx as = (mc, ms)) (H : mz_WP (mz_wc e) e rt code Q 0 L0 [] n h mc ms) : mz_wc (e + 1) idx as n h Q := by
  show match mz_tab[idx]? with
    | some M => as.length ≤ M.2.2.1 ∧ mz_WP (mz_wc e) e (mz_rk M.2.2.2.1) M.2.2.2.2.2.2 Q 0 (mz_ini M.2.2.1 as) [] n h (mz_al idx as).1 (mz_al idx as).2
    | none => False
  rw [hM, hal]
  subst hr
  subst hL
  exact ⟨hl, H⟩
end ST
