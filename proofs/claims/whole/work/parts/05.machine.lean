/-! THE LITTLE MACHINE: cells by number, values as the machine's own (a reference is a cell's number); what one instruction asks -/
abbrev mz_C : Type := (Nat × Nat × (Nat → Int32)) ⊕ (Nat × List Value)
abbrev mz_H : Type := Nat → mz_C
abbrev mz_Q : Type := Option Value → Nat → mz_H → Prop
abbrev mz_K : Type := Nat → List Value → Nat → mz_H → mz_Q → Prop
abbrev mz_X : Type := Nat → List (Option Value) → List Value → Nat → mz_H → Nat → Nat → Prop
def mz_up (h : mz_H) (a : Nat) (x : mz_C) : mz_H := fun b => if b = a then x else h b
def mz_lk : List mz_I → Nat → Option (Instr × Nat × Nat × Nat)
  | [], _ => none
  | e :: r, pc => match Nat.beq e.1 pc with
    | true => some e.2
    | false => mz_lk r pc
def mz_nth : List (Option Value) → Nat → Option Value
  | [], _ => none
  | a :: _, 0 => a
  | _ :: r, k + 1 => mz_nth r k
def mz_put : List (Option Value) → Nat → Value → Option (List (Option Value))
  | [], _, _ => none
  | _ :: r, 0, v => some (some v :: r)
  | a :: r, k + 1, v => match mz_put r k v with
    | some r' => some (a :: r')
    | none => none
def mz_spl : Nat → List Value → List Value → Option (List Value × List Value)
  | 0, st, acc => some (acc, st)
  | k + 1, v :: r, acc => mz_spl k r (v :: acc)
  | _ + 1, [], _ => none
def mz_cmp (c : ClassFile.Cond) (a b : Int32) : Prop := match c with
  | .eq => a = b
  | .ne => ¬ a = b
  | .lt => a < b
  | .ge => b ≤ a
  | .gt => b < a
  | .le => a ≤ b
/-- how many cells and slots a method makes at most -/
def mz_al (idx : Nat) (as : List Value) : Nat × Nat := match idx with
  | 50 => match as with
    | [_, .int k] => (1, k.toNatClampNeg)
    | _ => (1, 0)
  | 0 => (4, 10)
  | 11 => (6, 87)
  | 19 => (12, 294)
  | 30 => (10, 123)
  | 38 => (14, 263)
  | 60 => (6, 147)
  | 71 => (8, 30)
  | 57 => (42, 654)
  | 9 => (46, 790)
  | 81 => (183, 2925)
  | 117 => (20, 1991)
  | _ => (0, 0)
def mz_df (i : Nat) : List Value := (List.range (mz_N i)).map (fun k => match mz_ty i k with
  | .int => Value.int 0
  | _ => Value.null)
def mz_vt : FieldType → Value → Bool
  | .int, .int _ => true
  | .object _, .ref _ => true
  | .object _, .null => true
  | .array _, .ref _ => true
  | .array _, .null => true
  | _, _ => false
def mz_own (idx : Nat) : Nat := match mz_tab[idx]? with
  | some M => M.2.2.2.2.1
  | none => 99
def mz_st2 (st : List Value) (P : Int32 → Int32 → List Value → Prop) : Prop := match st with
  | .int b :: .int a :: r => P a b r
  | _ => False
/-- a call: kinds 0, 1 (receiver of the method's own kind), 2, 3 (none), 4, 5 (a maker) -/
def mz_inv (K : mz_K) (X : mz_X) (pc : Nat) (L : List (Option Value)) (st : List Value) (n : Nat) (h : mz_H) (bc bs idx k rc : Nat) : Prop := match mz_spl k st [] with
  | none => False
  | some (as, r) => r.length ≤ 8 ∧ (rc = 1 → ∃ a as' fs, as = .ref a :: as' ∧ h a = .inr (mz_own idx, fs)) ∧ (rc = 2 → ∃ a as', as = .ref a :: as') ∧ (mz_al idx as).1 ≤ bc ∧ (mz_al idx as).2 ≤ bs ∧ K idx as n h (fun v n' h' => X (pc + 3) L (v.toList ++ r) n' h' (bc - (mz_al idx as).1) (bs - (mz_al idx as).2))
def mz_step (K : mz_K) (d rk : Nat) (code : List mz_I) (Q : mz_Q) (X : mz_X) (pc : Nat) (L : List (Option Value)) (st : List Value) (n : Nat) (h : mz_H) (bc bs : Nat) : Prop :=
  match mz_lk code pc with
  | none => False
  | some (ins, _, x, y) => match ins with
    | .iconst _ => X (pc + 1) L (.int (nI x) :: st) n h bc bs
    | .bipush _ => X (pc + 2) L (.int (nI x) :: st) n h bc bs
    | .sipush _ => X (pc + 3) L (.int (nI x) :: st) n h bc bs
    | .ldc _ => X (pc + 2) L (.int (nI x) :: st) n h bc bs
    | .iload_n k => match mz_nth L k.val with
      | some (.int i) => X (pc + 1) L (.int i :: st) n h bc bs
      | _ => False
    | .iload k => match mz_nth L k with
      | some (.int i) => X (pc + 2) L (.int i :: st) n h bc bs
      | _ => False
    | .aload_n k => match mz_nth L k.val with
      | some (.ref i) => X (pc + 1) L (.ref i :: st) n h bc bs
      | _ => False
    | .aload k => match mz_nth L k with
      | some (.ref i) => X (pc + 2) L (.ref i :: st) n h bc bs
      | _ => False
    | .istore_n k => match st with
      | .int i :: r => match mz_put L k.val (.int i) with
        | some L' => X (pc + 1) L' r n h bc bs
        | none => False
      | _ => False
    | .istore k => match st with
      | .int i :: r => match mz_put L k (.int i) with
        | some L' => X (pc + 2) L' r n h bc bs
        | none => False
      | _ => False
    | .astore_n k => match st with
      | .ref i :: r => match mz_put L k.val (.ref i) with
        | some L' => X (pc + 1) L' r n h bc bs
        | none => False
      | _ => False
    | .astore k => match st with
      | .ref i :: r => match mz_put L k (.ref i) with
        | some L' => X (pc + 2) L' r n h bc bs
        | none => False
      | _ => False
    | .iinc k _ => match mz_nth L k with
      | some (.int i) => match mz_put L k (.int (i + nI x)) with
        | some L' => X (pc + 3) L' st n h bc bs
        | none => False
      | _ => False
    | .iadd => mz_st2 st fun a b r => X (pc + 1) L (.int (a + b) :: r) n h bc bs
    | .isub => mz_st2 st fun a b r => X (pc + 1) L (.int (a - b) :: r) n h bc bs
    | .imul => mz_st2 st fun a b r => X (pc + 1) L (.int (a * b) :: r) n h bc bs
    | .iand => mz_st2 st fun a b r => X (pc + 1) L (.int (a &&& b) :: r) n h bc bs
    | .ior => mz_st2 st fun a b r => X (pc + 1) L (.int (a ||| b) :: r) n h bc bs
    | .ixor => mz_st2 st fun a b r => X (pc + 1) L (.int (a ^^^ b) :: r) n h bc bs
    | .ishl => mz_st2 st fun a b r => X (pc + 1) L (.int (a <<< (b &&& 31)) :: r) n h bc bs
    | .ishr => mz_st2 st fun a b r => X (pc + 1) L (.int (a >>> (b &&& 31)) :: r) n h bc bs
    | .idiv => mz_st2 st fun a b r => ¬ b = 0 ∧ X (pc + 1) L (.int (a / b) :: r) n h bc bs
    | .irem => mz_st2 st fun a b r => ¬ b = 0 ∧ X (pc + 1) L (.int (a - a / b * b) :: r) n h bc bs
    | .dup => match st with
      | v :: r => X (pc + 1) L (v :: v :: r) n h bc bs
      | _ => False
    | .dup2 => match st with
      | v :: w :: r => X (pc + 1) L (v :: w :: v :: w :: r) n h bc bs
      | _ => False
    | .goto _ => X x L st n h bc bs
    | .ifCond c _ => match st with
      | .int a :: r => (mz_cmp c a 0 → X x L r n h bc bs) ∧ (¬ mz_cmp c a 0 → X (pc + 3) L r n h bc bs)
      | _ => False
    | .if_icmp c _ => mz_st2 st fun a b r => (mz_cmp c a b → X x L r n h bc bs) ∧ (¬ mz_cmp c a b → X (pc + 3) L r n h bc bs)
    | .tableswitch dflt lo hi offs => match st with
      | .int a :: r => ((a.toInt < lo ∨ hi < a.toInt) → X ((pc : Int) + dflt).toNat L r n h bc bs) ∧ (∀ off, ¬ a.toInt < lo → ¬ hi < a.toInt → offs[(a.toInt - lo).toNat]? = some off → X ((pc : Int) + off).toNat L r n h bc bs)
      | _ => False
    | .getfield _ => match st with
      | .ref a :: r => match h a with
        | .inr (ci, fs) => match fs[y]? with
          | some v => ci = x ∧ y < mz_N x ∧ X (pc + 3) L (v :: r) n h bc bs
          | none => False
        | _ => False
      | _ => False
    | .putfield _ => match st with
      | v :: .ref a :: r => match h a with
        | .inr (ci, fs) => ci = x ∧ y < mz_N x ∧ y < fs.length ∧ mz_vt (mz_ty x y) v = true ∧ X (pc + 3) L r n (mz_up h a (.inr (ci, fs.set y v))) bc bs
        | _ => False
      | _ => False
    | .iaload => match st with
      | .int i :: .ref a :: r => match h a with
        | .inl (0, m, f) => vp_in i m ∧ X (pc + 1) L (.int (f i.toNatClampNeg) :: r) n h bc bs
        | _ => False
      | _ => False
    | .baload => match st with
      | .int i :: .ref a :: r => match h a with
        | .inl (1, m, f) => vp_in i m ∧ X (pc + 1) L (.int (f i.toNatClampNeg) :: r) n h bc bs
        | _ => False
      | _ => False
    | .iastore => match st with
      | .int v :: .int i :: .ref a :: r => match h a with
        | .inl (0, m, f) => 2 ≤ a ∧ vp_in i m ∧ X (pc + 1) L r n (mz_up h a (.inl (0, m, upd f i.toNatClampNeg v))) bc bs
        | _ => False
      | _ => False
    | .bastore => match st with
      | .int v :: .int i :: .ref a :: r => match h a with
        | .inl (1, m, f) => 2 ≤ a ∧ vp_in i m ∧ X (pc + 1) L r n (mz_up h a (.inl (1, m, upd f i.toNatClampNeg (vp_nar .boolean v)))) bc bs
        | _ => False
      | _ => False
    | .arraylength => match st with
      | .ref a :: r => match h a with
        | .inl (_, m, _) => X (pc + 1) L (.int (nI m) :: r) n h bc bs
        | _ => False
      | _ => False
    | .newarray t => match st with
      | .int k :: r => ¬ k < 0 ∧ k.toNatClampNeg ≤ 1000 ∧ 1 ≤ bc ∧ k.toNatClampNeg ≤ bs ∧ (match t with
        | .int => X (pc + 2) L (.ref (n + 2) :: r) (n + 1) (mz_up h (n + 2) (.inl (0, k.toNatClampNeg, fun _ => 0))) (bc - 1) (bs - k.toNatClampNeg)
        | .boolean => X (pc + 2) L (.ref (n + 2) :: r) (n + 1) (mz_up h (n + 2) (.inl (1, k.toNatClampNeg, fun _ => 0))) (bc - 1) (bs - k.toNatClampNeg)
        | _ => False)
      | _ => False
    | .new _ => x < 12 ∧ 1 ≤ bc ∧ mz_N x ≤ bs ∧ X (pc + 3) L (.ref (n + 2) :: st) (n + 1) (mz_up h (n + 2) (.inr (x, mz_df x))) (bc - 1) (bs - mz_N x)
    | .getstatic _ => X (pc + 3) L (.ref 0 :: st) n h bc bs
    | .invokevirtual _ => mz_inv K X pc L st n h bc bs x (mz_np.getD x 0 + 1) 1
    | .invokestatic _ => if y = 7 then 1 ≤ d ∧ mz_st2 st fun a b r => r.length ≤ 8 ∧ X (pc + 3) L (.int (if a < b then b else a) :: r) n h bc bs
      else if y = 8 then 1 ≤ d ∧ mz_st2 st fun a b r => r.length ≤ 8 ∧ X (pc + 3) L (.int (if b < a then b else a) :: r) n h bc bs
      else mz_inv K X pc L st n h bc bs x (mz_np.getD x 0) 0
    | .invokespecial _ => if y = 6 then 1 ≤ d ∧ (match st with
        | .ref _ :: r => r.length ≤ 8 ∧ X (pc + 3) L r n h bc bs
        | _ => False)
      else mz_inv K X pc L st n h bc bs x (mz_np.getD x 0 + 1) 2
    | .ireturn => match st with
      | [.int v] => (rk = 1 ∨ (rk = 2 ∧ (v = 0 ∨ v = 1))) ∧ Q (some (.int v)) n h
      | _ => False
    | .areturn => match st with
      | [.ref a] => rk = 3 ∧ Q (some (.ref a)) n h
      | _ => False
    | .return_ => match st with
      | [] => rk = 0 ∧ Q none n h
      | _ => False
    | _ => False
/-- the least predicate that every step carries -/
def mz_WP (K : mz_K) (d rk : Nat) (code : List mz_I) (Q : mz_Q) : mz_X := fun pc L st n h bc bs => ∀ X : mz_X, (∀ pc L st n h bc bs, mz_step K d rk code Q X pc L st n h bc bs → X pc L st n h bc bs) → X pc L st n h bc bs
def mz_rk (r : Option FieldType) : Nat := match r with
  | none => 0
  | some .int => 1
  | some .boolean => 2
  | some _ => 3
def mz_ini : Nat → List Value → List (Option Value)
  | 0, _ => []
  | k + 1, [] => none :: mz_ini k []
  | k + 1, v :: r => some v :: mz_ini k r
/-- a method's body, with calls at most d deep below it -/
def mz_wc : Nat → mz_K
  | 0 => fun _ _ _ _ _ => False
  | d + 1 => fun idx as n h Q => match mz_tab[idx]? with
    | some M => as.length ≤ M.2.2.1 ∧ mz_WP (mz_wc d) d (mz_rk M.2.2.2.1) M.2.2.2.2.2.2 Q 0 (mz_ini M.2.2.1 as) [] n h (mz_al idx as).1 (mz_al idx as).2
    | none => False
def mz_mono (K : mz_K) : Prop := ∀ idx as n h (Q Q' : mz_Q), (∀ r n h, Q r n h → Q' r n h) → K idx as n h Q → K idx as n h Q'
theorem mz_st2_mono {st : List Value} {P P' : Int32 → Int32 → List Value → Prop} (h : ∀ a b r, P a b r → P' a b r) : mz_st2 st P → mz_st2 st P' := by
  unfold mz_st2
  split
  · exact h _ _ _
  · exact id
theorem mz_inv_mono {K : mz_K} (hK : mz_mono K) {X X' : mz_X} (hX : ∀ pc L st n h bc bs, X pc L st n h bc bs → X' pc L st n h bc bs) {pc : Nat} {L : List (Option Value)} {st : List Value} {n : Nat} {h : mz_H} {bc bs idx k rc : Nat} : mz_inv K X pc L st n h bc bs idx k rc → mz_inv K X' pc L st n h bc bs idx k rc := by
  unfold mz_inv
  split
  · exact id
  · exact fun ⟨a, b, b2, c, e, f⟩ => ⟨a, b, b2, c, e, hK _ _ _ _ _ _ (fun r n h q => hX _ _ _ _ _ _ _ q) f⟩
set_option maxHeartbeats 4000000 in
theorem mz_step_mono {K : mz_K} (hK : mz_mono K) {d rk : Nat} {code : List mz_I} {Q Q' : mz_Q} (hQ : ∀ r n h, Q r n h → Q' r n h) {X X' : mz_X} (hX : ∀ pc L st n h bc bs, X pc L st n h bc bs → X' pc L st n h bc bs) {pc : Nat} {L : List (Option Value)} {st : List Value} {n : Nat} {h : mz_H} {bc bs : Nat} : mz_step K d rk code Q X pc L st n h bc bs → mz_step K d rk code Q' X' pc L st n h bc bs := by
  unfold mz_step
  cases mz_lk code pc with
  | none => exact id
  | some q =>
    obtain ⟨ins, len, x, y⟩ := q
    cases ins
    all_goals first
      | exact id
      | exact hX _ _ _ _ _ _ _
      | exact mz_st2_mono fun a b r => hX _ _ _ _ _ _ _
      | exact mz_st2_mono fun a b r q => ⟨q.1, hX _ _ _ _ _ _ _ q.2⟩
      | exact mz_st2_mono fun a b r q => ⟨fun z => hX _ _ _ _ _ _ _ (q.1 z), fun z => hX _ _ _ _ _ _ _ (q.2 z)⟩
      | exact mz_inv_mono hK hX
      | skip
    case iload_n k => dsimp only; split <;> first | exact id | exact hX _ _ _ _ _ _ _
    case iload k => dsimp only; split <;> first | exact id | exact hX _ _ _ _ _ _ _
    case aload_n k => dsimp only; split <;> first | exact id | exact hX _ _ _ _ _ _ _
    case aload k => dsimp only; split <;> first | exact id | exact hX _ _ _ _ _ _ _
    case istore_n k => dsimp only; split <;> (try split) <;> first | exact id | exact hX _ _ _ _ _ _ _
    case istore k => dsimp only; split <;> (try split) <;> first | exact id | exact hX _ _ _ _ _ _ _
    case astore_n k => dsimp only; split <;> (try split) <;> first | exact id | exact hX _ _ _ _ _ _ _
    case astore k => dsimp only; split <;> (try split) <;> first | exact id | exact hX _ _ _ _ _ _ _
    case iinc k i => dsimp only; split <;> (try split) <;> first | exact id | exact hX _ _ _ _ _ _ _
    case dup => dsimp only; split <;> first | exact id | exact hX _ _ _ _ _ _ _
    case dup2 => dsimp only; split <;> first | exact id | exact hX _ _ _ _ _ _ _
    case ifCond c o => dsimp only; split <;> first | exact id | exact fun q => ⟨fun z => hX _ _ _ _ _ _ _ (q.1 z), fun z => hX _ _ _ _ _ _ _ (q.2 z)⟩
    case tableswitch a b c o => dsimp only; split <;> first | exact id | exact fun q => ⟨fun z => hX _ _ _ _ _ _ _ (q.1 z), fun z1 z2 z3 z4 => hX _ _ _ _ _ _ _ (q.2 z1 z2 z3 z4)⟩
    case getfield i => dsimp only; split <;> (try split) <;> (try split) <;> first | exact id | exact fun q => ⟨q.1, q.2.1, hX _ _ _ _ _ _ _ q.2.2⟩
    case putfield i => dsimp only; split <;> (try split) <;> first | exact id | exact fun q => ⟨q.1, q.2.1, q.2.2.1, q.2.2.2.1, hX _ _ _ _ _ _ _ q.2.2.2.2⟩
    case iaload => dsimp only; split <;> (try split) <;> first | exact id | exact fun q => ⟨q.1, hX _ _ _ _ _ _ _ q.2⟩
    case baload => dsimp only; split <;> (try split) <;> first | exact id | exact fun q => ⟨q.1, hX _ _ _ _ _ _ _ q.2⟩
    case iastore => dsimp only; split <;> (try split) <;> first | exact id | exact fun q => ⟨q.1, q.2.1, hX _ _ _ _ _ _ _ q.2.2⟩
    case bastore => dsimp only; split <;> (try split) <;> first | exact id | exact fun q => ⟨q.1, q.2.1, hX _ _ _ _ _ _ _ q.2.2⟩
    case arraylength => dsimp only; split <;> (try split) <;> first | exact id | exact hX _ _ _ _ _ _ _
    case newarray t => dsimp only; split <;> first | exact id | exact fun q => ⟨q.1, q.2.1, q.2.2.1, q.2.2.2.1, by have z := q.2.2.2.2; revert z; cases t <;> first | exact id | exact hX _ _ _ _ _ _ _⟩
    case new i => exact fun q => ⟨q.1, q.2.1, q.2.2.1, hX _ _ _ _ _ _ _ q.2.2.2⟩
    case invokestatic i =>
      dsimp only
      split
      · exact fun q => ⟨q.1, mz_st2_mono (fun a b r z => ⟨z.1, hX _ _ _ _ _ _ _ z.2⟩) q.2⟩
      · split
        · exact fun q => ⟨q.1, mz_st2_mono (fun a b r z => ⟨z.1, hX _ _ _ _ _ _ _ z.2⟩) q.2⟩
        · exact mz_inv_mono hK hX
    case invokespecial i =>
      dsimp only
      split
      · split <;> first | exact id | exact fun q => ⟨q.1, q.2.1, hX _ _ _ _ _ _ _ q.2.2⟩
      · exact mz_inv_mono hK hX
    case ireturn => dsimp only; split <;> first | exact id | exact fun q => ⟨q.1, hQ _ _ _ q.2⟩
    case areturn => dsimp only; split <;> first | exact id | exact fun q => ⟨q.1, hQ _ _ _ q.2⟩
    case return_ => dsimp only; split <;> first | exact id | exact fun q => ⟨q.1, hQ _ _ _ q.2⟩
theorem mz_WP_mono {K : mz_K} (hK : mz_mono K) {d rk : Nat} {code : List mz_I} {Q Q' : mz_Q} (hQ : ∀ r n h, Q r n h → Q' r n h) {pc : Nat} {L : List (Option Value)} {st : List Value} {n : Nat} {h : mz_H} {bc bs : Nat} (H : mz_WP K d rk code Q pc L st n h bc bs) : mz_WP K d rk code Q' pc L st n h bc bs :=
  fun X hX => H X fun pc L st n h bc bs q => hX pc L st n h bc bs (mz_step_mono hK hQ (fun _ _ _ _ _ _ _ z => z) q)
theorem mz_wc_mono : ∀ d, mz_mono (mz_wc d)
  | 0 => fun _ _ _ _ _ _ _ h => h.elim
  | d + 1 => fun idx as n h Q Q' hQ H => by
    show match mz_tab[idx]? with
      | some M => as.length ≤ M.2.2.1 ∧ mz_WP (mz_wc d) d (mz_rk M.2.2.2.1) M.2.2.2.2.2.2 Q' 0 (mz_ini M.2.2.1 as) [] n h (mz_al idx as).1 (mz_al idx as).2
      | none => False
    have H : match mz_tab[idx]? with
      | some M => as.length ≤ M.2.2.1 ∧ mz_WP (mz_wc d) d (mz_rk M.2.2.2.1) M.2.2.2.2.2.2 Q 0 (mz_ini M.2.2.1 as) [] n h (mz_al idx as).1 (mz_al idx as).2
      | none => False := H
    revert H
    cases mz_tab[idx]? with
    | none => exact id
    | some M => exact fun H => ⟨H.1, mz_WP_mono (mz_wc_mono d) hQ H.2⟩
/-- one step -/
theorem mz_WP.step {d' d rk : Nat} {code : List mz_I} {Q : mz_Q} {pc : Nat} {L : List (Option Value)} {st : List Value} {n : Nat} {h : mz_H} {bc bs : Nat} (H : mz_step (mz_wc d') d rk code Q (mz_WP (mz_wc d') d rk code Q) pc L st n h bc bs) : mz_WP (mz_wc d') d rk code Q pc L st n h bc bs :=
  fun X hX => hX _ _ _ _ _ _ _ (mz_step_mono (mz_wc_mono d') (fun _ _ _ z => z) (fun _ _ _ _ _ _ _ z => z X hX) H)
