/-! every step of the little machine, and so every method -/
section MZ4
variable {p : Program} {l : Launch} {e : Env} {R : Room} {s : State} {m : MethodId} {args : Array Value} {below : List Frame} {meth : Method} {c : Code} {Qf : State → Prop}
variable {cc : ByteArray} {nL own kind d rk : Nat} {D : va_G} {aI aB : ClassId} {A : Nat → Prop} {φ0 : List Nat} {L1 : Nat} {xs : Nat → Int32} {code : List mz_I} {K : mz_K} {Q : mz_Q}
def mz_rets (rk : Nat) (ins : Instr) (st : List Value) (r : Option Value) : Prop := (∃ v, ins = .ireturn ∧ st = [.int v] ∧ r = some (.int v) ∧ (rk = 1 ∨ (rk = 2 ∧ (v = 0 ∨ v = 1)))) ∨ (∃ a, ins = .areturn ∧ st = [.ref a] ∧ r = some (.ref a) ∧ rk = 3) ∨ (ins = .return_ ∧ st = [] ∧ r = none ∧ rk = 0)
def mz_Ret (p : Program) (l : Launch) (e : Env) (R : Room) (s : State) (m : MethodId) (args : Array Value) (below : List Frame) (meth : Method) (c : Code) (Qf : State → Prop) (cc : ByteArray) (nL rk : Nat) (D : va_G) (aI aB : ClassId) (A : Nat → Prop) (φ0 : List Nat) (L1 : Nat) (xs : Nat → Int32) (Q : mz_Q) : Prop := ∀ (pc : Nat) (ins : Instr) (r : Option Value) (L : List (Option Value)) (st : List Value) (n : Nat) (h : mz_H) (bc bs : Nat) (φ : List Nat) (ls : Array Slot) (H : Heap) (locs : List Loc) (cells slots : Nat), decode cc pc = .ok (ins, 1) → mz_sim R s nL D aI aB A φ0 L1 xs L st n h bc bs φ ls H locs cells slots → mz_rets rk ins st r → Q r n h → W p l e R s m args below meth c H locs cells slots Qf (F0 m pc ls (st.map (mz_mv φ)))
theorem mz_st2E {st : List Value} {P : Int32 → Int32 → List Value → Prop} (h : mz_st2 st P) : ∃ a b r, st = .int b :: .int a :: r ∧ P a b r := by
  unfold mz_st2 at h
  split at h
  · exact ⟨_, _, _, rfl, h⟩
  · exact h.elim
theorem mz_cons1 {st : List Value} {n : Nat} {v : Value} (h : ∀ w ∈ st, mz_clv n w) (hv : mz_clv n v) : ∀ w ∈ v :: st, mz_clv n w := mz_cs hv h
variable {L : List (Option Value)} {st : List Value} {n : Nat} {h : mz_H} {bc bs : Nat} {φ : List Nat} {ls : Array Slot} {H : Heap} {locs : List Loc} {cells slots pc : Nat}
theorem mz_sim.nth (q : mz_sim R s nL D aI aB A φ0 L1 xs L st n h bc bs φ ls H locs cells slots) {i : Nat} {v : Value} (hv : mz_nth L i = some v) : ls[i]? = some (.val (mz_mv φ v)) ∧ mz_clv (n + 2) v := ⟨q.1.2.2.2 i v hv, q.2.2.1.2.2.2 i v hv⟩
set_option maxHeartbeats 8000000 in
theorem mz_walk (C0 : mz_ctx p R s m args meth c cc nL own kind d D aI aB A φ0 L1 xs code) (hK : mz_Snd d K) (hret : mz_Ret p l e R s m args below meth c Qf cc nL rk D aI aB A φ0 L1 xs Q) : ∀ pc L st n h bc bs, mz_step K d rk code Q (mz_XW p l e R s m args below meth c Qf nL D aI aB A φ0 L1 xs) pc L st n h bc bs → mz_XW p l e R s m args below meth c Qf nL D aI aB A φ0 L1 xs pc L st n h bc bs := by
  intro pc L st n h bc bs hstep φ ls H locs cells slots q
  unfold mz_step at hstep
  cases hlk : mz_lk code pc with
  | none => rw [hlk] at hstep; exact hstep.elim
  | some t =>
    obtain ⟨ins, len, x, y⟩ := t
    rw [hlk] at hstep
    obtain ⟨hd, hk⟩ := C0.2.2.2.2.2.2.2.2.2.2.2.1 pc _ hlk
    obtain ⟨hx, hb, hml, hown, hts, hnw, hK0, hA, hRO, hR, hi2, hcode, hφ⟩ := id C0
    have hcl := q.clst
    have hbud := q.2.2.2.2
    cases ins
    case iconst i =>
      simp only [mz_chk, Bool.and_eq_true, beq_iff_eq, decide_eq_true_eq] at hk
      obtain ⟨rfl, hk⟩ := hk
      exact lv_iconst hx hb hd hk (hstep φ ls H locs cells slots (q.stk (mz_cons1 hcl trivial)))
    case bipush i =>
      simp only [mz_chk, Bool.and_eq_true, beq_iff_eq, decide_eq_true_eq] at hk
      obtain ⟨rfl, hk⟩ := hk
      exact lv_bipush hx hb hd hk (hstep φ ls H locs cells slots (q.stk (mz_cons1 hcl trivial)))
    case sipush i =>
      simp only [mz_chk, Bool.and_eq_true, beq_iff_eq, decide_eq_true_eq] at hk
      obtain ⟨rfl, hk⟩ := hk
      exact lv_sipush hx hb hd hk (hstep φ ls H locs cells slots (q.stk (mz_cons1 hcl trivial)))
    case ldc i =>
      simp only [mz_chk, Bool.and_eq_true, beq_iff_eq, decide_eq_true_eq, List.contains_eq_mem] at hk
      obtain ⟨rfl, hk⟩ := hk
      exact lv_ldc hx hb hown (hts _ (mz_KLw hk)) hd (hstep φ ls H locs cells slots (q.stk (mz_cons1 hcl trivial)))
    case iload_n k =>
      have hl : len = 1 := by simpa [mz_chk, mz_ln] using hk
      subst hl
      dsimp only at hstep
      split at hstep
      · rename_i i hi
        exact lv_iload_n hx hb hd rfl (q.nth hi).1 (hstep φ ls H locs cells slots (q.stk (mz_cons1 hcl trivial)))
      · exact hstep.elim
    case iload k =>
      have hl : len = 2 := by simpa [mz_chk, mz_ln] using hk
      subst hl
      dsimp only at hstep
      split at hstep
      · rename_i i hi
        exact lv_iload hx hb hd (q.nth hi).1 (hstep φ ls H locs cells slots (q.stk (mz_cons1 hcl trivial)))
      · exact hstep.elim
    case aload_n k =>
      have hl : len = 1 := by simpa [mz_chk, mz_ln] using hk
      subst hl
      dsimp only at hstep
      split at hstep
      · rename_i i hi
        exact lv_aload_n hx hb hd rfl (q.nth hi).1 (hstep φ ls H locs cells slots (q.stk (mz_cons1 hcl (q.nth hi).2)))
      · exact hstep.elim
    case aload k =>
      have hl : len = 2 := by simpa [mz_chk, mz_ln] using hk
      subst hl
      dsimp only at hstep
      split at hstep
      · rename_i i hi
        exact lv_aload hx hb hd (q.nth hi).1 (hstep φ ls H locs cells slots (q.stk (mz_cons1 hcl (q.nth hi).2)))
      · exact hstep.elim
    case istore_n k =>
      have hl : len = 1 := by simpa [mz_chk, mz_ln] using hk
      subst hl
      dsimp only at hstep
      split at hstep
      · split at hstep
        · rename_i hp
          have hps := mz_put_spec hp
          exact lv_istore_n hx hb hd rfl q.1.has (by rw [← q.1.2.2.1]; exact hps.1) rfl fun ls' hl' => hstep φ ls' H locs cells slots (q.lput hp (q.1.put hp rfl hl') trivial (mz_tl hcl))
        · exact hstep.elim
      · exact hstep.elim
    case istore k =>
      have hl : len = 2 := by simpa [mz_chk, mz_ln] using hk
      subst hl
      dsimp only at hstep
      split at hstep
      · split at hstep
        · rename_i hp
          have hps := mz_put_spec hp
          exact lv_istore hx hb hd q.1.has (by rw [← q.1.2.2.1]; exact hps.1) rfl fun ls' hl' => hstep φ ls' H locs cells slots (q.lput hp (q.1.put hp rfl hl') trivial (mz_tl hcl))
        · exact hstep.elim
      · exact hstep.elim
    case astore_n k =>
      have hl : len = 1 := by simpa [mz_chk, mz_ln] using hk
      subst hl
      dsimp only at hstep
      split at hstep
      · split at hstep
        · rename_i hp
          have hps := mz_put_spec hp
          exact lv_astore_n hx hb hd rfl q.1.has (by rw [← q.1.2.2.1]; exact hps.1) rfl fun ls' hl' => hstep φ ls' H locs cells slots (q.lput hp (q.1.put hp rfl hl') (hcl _ List.mem_cons_self) (mz_tl hcl))
        · exact hstep.elim
      · exact hstep.elim
    case astore k =>
      have hl : len = 2 := by simpa [mz_chk, mz_ln] using hk
      subst hl
      dsimp only at hstep
      split at hstep
      · split at hstep
        · rename_i hp
          have hps := mz_put_spec hp
          exact lv_astore hx hb hd q.1.has (by rw [← q.1.2.2.1]; exact hps.1) rfl fun ls' hl' => hstep φ ls' H locs cells slots (q.lput hp (q.1.put hp rfl hl') (hcl _ List.mem_cons_self) (mz_tl hcl))
        · exact hstep.elim
      · exact hstep.elim
    case iinc k i =>
      simp only [mz_chk, Bool.and_eq_true, beq_iff_eq, decide_eq_true_eq] at hk
      obtain ⟨rfl, hk⟩ := hk
      dsimp only at hstep
      split at hstep
      · rename_i j hj
        split at hstep
        · rename_i hp
          have hps := mz_put_spec hp
          obtain ⟨w, hw⟩ := List.getElem?_of_mem (mz_lv_mem (φ := φ) hj)
          exact lv_iinc hx hb hd q.1.has (k := w) hw (by rw [hk]) (by rw [← q.1.2.2.1]; exact hps.1) rfl fun ls' hl' => hstep φ ls' H locs cells slots (q.lput hp (q.1.put hp rfl hl') trivial hcl)
        · exact hstep.elim
      · exact hstep.elim
    case iadd =>
      have hl : len = 1 := by simpa [mz_chk, mz_ln] using hk
      subst hl
      obtain ⟨a, b, r, rfl, hstep⟩ := mz_st2E hstep
      exact lv_iadd hx hb hd (hstep φ ls H locs cells slots (q.stk (mz_cons1 (mz_tl (mz_tl hcl)) trivial)))
    case isub =>
      have hl : len = 1 := by simpa [mz_chk, mz_ln] using hk
      subst hl
      obtain ⟨a, b, r, rfl, hstep⟩ := mz_st2E hstep
      exact lv_isub hx hb hd (hstep φ ls H locs cells slots (q.stk (mz_cons1 (mz_tl (mz_tl hcl)) trivial)))
    case imul =>
      have hl : len = 1 := by simpa [mz_chk, mz_ln] using hk
      subst hl
      obtain ⟨a, b, r, rfl, hstep⟩ := mz_st2E hstep
      exact lv_imul hx hb hd (hstep φ ls H locs cells slots (q.stk (mz_cons1 (mz_tl (mz_tl hcl)) trivial)))
    case iand =>
      have hl : len = 1 := by simpa [mz_chk, mz_ln] using hk
      subst hl
      obtain ⟨a, b, r, rfl, hstep⟩ := mz_st2E hstep
      exact lv_iand hx hb hd (hstep φ ls H locs cells slots (q.stk (mz_cons1 (mz_tl (mz_tl hcl)) trivial)))
    case ior =>
      have hl : len = 1 := by simpa [mz_chk, mz_ln] using hk
      subst hl
      obtain ⟨a, b, r, rfl, hstep⟩ := mz_st2E hstep
      exact lv_ior hx hb hd (hstep φ ls H locs cells slots (q.stk (mz_cons1 (mz_tl (mz_tl hcl)) trivial)))
    case ixor =>
      have hl : len = 1 := by simpa [mz_chk, mz_ln] using hk
      subst hl
      obtain ⟨a, b, r, rfl, hstep⟩ := mz_st2E hstep
      exact lv_ixor hx hb hd (hstep φ ls H locs cells slots (q.stk (mz_cons1 (mz_tl (mz_tl hcl)) trivial)))
    case ishl =>
      have hl : len = 1 := by simpa [mz_chk, mz_ln] using hk
      subst hl
      obtain ⟨a, b, r, rfl, hstep⟩ := mz_st2E hstep
      exact lv_ishl hx hb hd (hstep φ ls H locs cells slots (q.stk (mz_cons1 (mz_tl (mz_tl hcl)) trivial)))
    case ishr =>
      have hl : len = 1 := by simpa [mz_chk, mz_ln] using hk
      subst hl
      obtain ⟨a, b, r, rfl, hstep⟩ := mz_st2E hstep
      exact lv_ishr hx hb hd (hstep φ ls H locs cells slots (q.stk (mz_cons1 (mz_tl (mz_tl hcl)) trivial)))
    case idiv =>
      have hl : len = 1 := by simpa [mz_chk, mz_ln] using hk
      subst hl
      obtain ⟨a, b, r, rfl, hne, hstep⟩ := mz_st2E hstep
      exact lv_idiv hx hb hd hne (hstep φ ls H locs cells slots (q.stk (mz_cons1 (mz_tl (mz_tl hcl)) trivial)))
    case irem =>
      have hl : len = 1 := by simpa [mz_chk, mz_ln] using hk
      subst hl
      obtain ⟨a, b, r, rfl, hne, hstep⟩ := mz_st2E hstep
      exact lv_irem hx hb hd hne (hstep φ ls H locs cells slots (q.stk (mz_cons1 (mz_tl (mz_tl hcl)) trivial)))
    case dup =>
      have hl : len = 1 := by simpa [mz_chk, mz_ln] using hk
      subst hl
      dsimp only at hstep
      split at hstep
      · exact lv_dup hx hb hd (mz_mv_cat _ _) (hstep φ ls H locs cells slots (q.stk (mz_cons1 hcl (hcl _ List.mem_cons_self))))
      · exact hstep.elim
    case dup2 =>
      have hl : len = 1 := by simpa [mz_chk, mz_ln] using hk
      subst hl
      dsimp only at hstep
      split at hstep
      · exact lv_dup2_11 hx hb hd (mz_mv_cat _ _) (mz_mv_cat _ _) (hstep φ ls H locs cells slots (q.stk (mz_cons1 (mz_cons1 hcl (hcl _ (List.mem_cons_of_mem _ List.mem_cons_self))) (hcl _ List.mem_cons_self))))
      · exact hstep.elim
    case goto o =>
      simp only [mz_chk, Bool.and_eq_true, beq_iff_eq, decide_eq_true_eq] at hk
      obtain ⟨rfl, hk⟩ := hk
      exact lv_goto hx hb hd hk (hstep φ ls H locs cells slots q)
    case ifCond cd o =>
      simp only [mz_chk, Bool.and_eq_true, beq_iff_eq, decide_eq_true_eq] at hk
      obtain ⟨rfl, hk⟩ := hk
      dsimp only at hstep
      split at hstep
      · have ht := fun z => hstep.1 z φ ls H locs cells slots (q.stk (mz_tl hcl))
        have hf := fun z => hstep.2 z φ ls H locs cells slots (q.stk (mz_tl hcl))
        cases cd
        · exact lv_if_eq hx hb hd hk ht hf
        · exact lv_if_ne hx hb hd hk ht (fun z => hf (fun w => w z))
        · exact lv_if_lt hx hb hd hk ht hf
        · exact lv_if_ge hx hb hd hk ht hf
        · exact lv_if_gt hx hb hd hk ht hf
        · exact lv_if_le hx hb hd hk ht hf
      · exact hstep.elim
    case if_icmp cd o =>
      simp only [mz_chk, Bool.and_eq_true, beq_iff_eq, decide_eq_true_eq] at hk
      obtain ⟨rfl, hk⟩ := hk
      obtain ⟨a, b, r, rfl, hstep⟩ := mz_st2E hstep
      have ht := fun z => hstep.1 z φ ls H locs cells slots (q.stk (mz_tl (mz_tl hcl)))
      have hf := fun z => hstep.2 z φ ls H locs cells slots (q.stk (mz_tl (mz_tl hcl)))
      cases cd
      · exact lv_icmp_eq hx hb hd hk ht hf
      · exact lv_icmp_ne hx hb hd hk ht (fun z => hf (fun w => w z))
      · exact lv_icmp_lt hx hb hd hk ht hf
      · exact lv_icmp_ge hx hb hd hk ht hf
      · exact lv_icmp_gt hx hb hd hk ht hf
      · exact lv_icmp_le hx hb hd hk ht hf
    case tableswitch df lo hi offs =>
      simp only [mz_chk, Bool.and_eq_true, decide_eq_true_eq] at hk
      obtain ⟨⟨k1, k2⟩, k3⟩ := hk
      dsimp only at hstep
      split at hstep
      · rename_i st a r
        by_cases ho : a.toInt < lo ∨ hi < a.toInt
        · exact lv_tableOut hx hb hd ho (by omega) (hstep.1 ho φ ls H locs cells slots (q.stk (mz_tl hcl)))
        · have h1 : ¬ a.toInt < lo := fun z => ho (Or.inl z)
          have h2 : ¬ hi < a.toInt := fun z => ho (Or.inr z)
          have hlt : (a.toInt - lo).toNat < offs.size := by omega
          have hoff : offs[(a.toInt - lo).toNat]? = some offs[(a.toInt - lo).toNat] := Array.getElem?_eq_getElem hlt
          have h0 : 0 ≤ (pc : Int) + offs[(a.toInt - lo).toNat] := by
            have z := Array.all_eq_true.mp k2 _ hlt
            simpa using z
          exact lv_tableIn hx hb hd h1 h2 hoff (by omega) (hstep.2 _ h1 h2 hoff φ ls H locs cells slots (q.stk (mz_tl hcl)))
      · exact hstep.elim
    case getfield i =>
      dsimp only at hstep
      split at hstep
      · split at hstep
        · rename_i hha
          split at hstep
          · rename_i hv
            obtain ⟨rfl, hy, hstep⟩ := hstep
            have hl : len = 3 := by
              simp only [mz_chk, Bool.and_eq_true, beq_iff_eq] at hk
              exact hk.1
            exact sd_get C0 hd hk hha hv hy q hstep
          · exact hstep.elim
        · exact hstep.elim
      · exact hstep.elim
    case putfield i =>
      dsimp only at hstep
      split at hstep
      · split at hstep
        · rename_i hha
          obtain ⟨rfl, hy, hl, ht, hstep⟩ := hstep
          exact sd_put C0 hd hk hha hl hy ht q hstep
        · exact hstep.elim
      · exact hstep.elim
    case iaload =>
      have hl : len = 1 := by simpa [mz_chk, mz_ln] using hk
      subst hl
      dsimp only at hstep
      split at hstep
      · split at hstep
        · rename_i hha
          exact sd_iald C0 hd hha hstep.1 q hstep.2
        · exact hstep.elim
      · exact hstep.elim
    case baload =>
      have hl : len = 1 := by simpa [mz_chk, mz_ln] using hk
      subst hl
      dsimp only at hstep
      split at hstep
      · split at hstep
        · rename_i hha
          exact sd_bald C0 hd hha hstep.1 q hstep.2
        · exact hstep.elim
      · exact hstep.elim
    case iastore =>
      have hl : len = 1 := by simpa [mz_chk, mz_ln] using hk
      subst hl
      dsimp only at hstep
      split at hstep
      · split at hstep
        · rename_i hha
          exact sd_iast C0 hd hha hstep.1 hstep.2.1 q hstep.2.2
        · exact hstep.elim
      · exact hstep.elim
    case bastore =>
      have hl : len = 1 := by simpa [mz_chk, mz_ln] using hk
      subst hl
      dsimp only at hstep
      split at hstep
      · split at hstep
        · rename_i hha
          exact sd_bast C0 hd hha hstep.1 hstep.2.1 q hstep.2.2
        · exact hstep.elim
      · exact hstep.elim
    case arraylength =>
      have hl : len = 1 := by simpa [mz_chk, mz_ln] using hk
      subst hl
      dsimp only at hstep
      split at hstep
      · split at hstep
        · rename_i hha
          exact sd_alen C0 hd hha q hstep
        · exact hstep.elim
      · exact hstep.elim
    case newarray t =>
      have hl : len = 2 := by simpa [mz_chk, mz_ln] using hk
      subst hl
      dsimp only at hstep
      split at hstep
      · obtain ⟨k1, k2, k3, k4, hstep⟩ := hstep
        cases t
        case int => exact sd_newI C0 hd k1 k2 k3 k4 q hstep
        case boolean => exact sd_newB C0 hd k1 k2 k3 k4 q hstep
        all_goals exact hstep.elim
      · exact hstep.elim
    case new i =>
      obtain ⟨k1, k2, k3, hstep⟩ := hstep
      exact sd_new C0 hd hk k1 k2 k3 q hstep
    case getstatic i =>
      simp only [mz_chk, Bool.and_eq_true, beq_iff_eq, decide_eq_true_eq, List.contains_eq_mem, mz_GS, List.mem_singleton, Prod.mk.injEq] at hk
      obtain ⟨rfl, rfl, rfl⟩ := hk
      have hkk := hstep φ ls H locs cells slots (q.stk (mz_cons1 hcl (show 0 < n + 2 by omega)))
      obtain ⟨e0, e1⟩ := q.ad0 hφ
      have hZ := hRO.2.1
      rw [← e0] at hZ
      exact va_gets hx hb hZ q.2.1.2.2 hown (hts _ (mz_mem mz_GSok rfl)) (fun _ z => z) hd hkk
    case invokevirtual i =>
      simp only [mz_chk, Bool.and_eq_true, Bool.or_eq_true, beq_iff_eq, decide_eq_true_eq, List.contains_eq_mem] at hk
      obtain ⟨⟨rfl, hm⟩, hy⟩ := hk
      exact sd_inv C0 hK (Or.inl ⟨rfl, hy⟩) hd hm (by rcases hy with rfl | rfl <;> rfl) (by rcases hy with rfl | rfl <;> rfl) q hstep
    case invokestatic i =>
      simp only [mz_chk, Bool.and_eq_true, Bool.or_eq_true, beq_iff_eq, decide_eq_true_eq, List.contains_eq_mem] at hk
      obtain ⟨⟨rfl, hm⟩, hy⟩ := hk
      dsimp only at hstep
      have hsz : c.maxLocals = ls.size := by rw [hml, q.1.1]
      split at hstep
      · rename_i hy7
        obtain ⟨hd1, hstep⟩ := hstep
        obtain ⟨a, b, r, rfl, hr8, hstep⟩ := mz_st2E hstep
        have hx8 : x = 998 := by omega
        have hl := hts _ (mz_MLw0 hm (by omega))
        rw [hx8] at hl
        exact va_mmax hx hb hsz hown hl (hts _ (mz_mem mz_mathok.2.1 rfl)) (hts _ (mz_mem mz_mathok.1 rfl)) (hts _ (mz_mem mz_mathok.2.2.1 rfl)) (by omega) (by rw [mz_rroom]; omega) (by omega) (by omega) hd (hstep φ ls H locs cells slots (q.stk (mz_cons1 (mz_tl (mz_tl hcl)) trivial)))
      · split at hstep
        · rename_i hy8
          obtain ⟨hd1, hstep⟩ := hstep
          obtain ⟨a, b, r, rfl, hr8, hstep⟩ := mz_st2E hstep
          have hx8 : x = 997 := by omega
          have hl := hts _ (mz_MLw0 hm (by omega))
          rw [hx8] at hl
          exact va_mmin hx hb hsz hown hl (hts _ (mz_mem mz_mathok.2.2.2.1 rfl)) (hts _ (mz_mem mz_mathok.1 rfl)) (hts _ (mz_mem mz_mathok.2.2.2.2 rfl)) (by omega) (by rw [mz_rroom]; omega) (by omega) (by omega) hd (hstep φ ls H locs cells slots (q.stk (mz_cons1 (mz_tl (mz_tl hcl)) trivial)))
        · have hy2 : y = 2 ∨ y = 3 := by omega
          exact sd_inv C0 hK (Or.inr (Or.inl ⟨rfl, hy2⟩)) hd hm (by rcases hy2 with rfl | rfl <;> rfl) (by rcases hy2 with rfl | rfl <;> rfl) q hstep
    case invokespecial i =>
      simp only [mz_chk, Bool.and_eq_true, Bool.or_eq_true, beq_iff_eq, decide_eq_true_eq, List.contains_eq_mem] at hk
      obtain ⟨⟨rfl, hm⟩, hy⟩ := hk
      dsimp only at hstep
      split at hstep
      · rename_i hy6
        obtain ⟨hd1, hstep⟩ := hstep
        split at hstep
        · obtain ⟨hr8, hstep⟩ := hstep
          have hx8 : x = 999 := by omega
          have hl := hts _ (mz_MLw0 hm (by omega))
          rw [hx8] at hl
          refine W.objInit hx hb hown hl (hts _ (mz_mem mz_objok.1 rfl)) (hts _ (mz_mem mz_objok.2 rfl)) rfl (by show ls.size = _; rw [hml, q.1.1]) rfl hd (by omega) ?_ (hstep φ ls H locs cells slots (q.stk (mz_tl hcl)))
          rw [mz_rroom]
          show 2 * 0 + _ + 12 ≤ _
          omega
        · exact hstep.elim
      · have hy2 : y = 4 ∨ y = 5 := by omega
        exact sd_inv C0 hK (Or.inr (Or.inr ⟨rfl, hy2⟩)) hd hm (by rcases hy2 with rfl | rfl <;> rfl) (by rcases hy2 with rfl | rfl <;> rfl) q hstep
    case ireturn =>
      have hl : len = 1 := by simpa [mz_chk, mz_ln] using hk
      subst hl
      dsimp only at hstep
      split at hstep
      · exact hret pc _ _ L _ n h bc bs φ ls H locs cells slots hd q (Or.inl ⟨_, rfl, rfl, rfl, hstep.1⟩) hstep.2
      · exact hstep.elim
    case areturn =>
      have hl : len = 1 := by simpa [mz_chk, mz_ln] using hk
      subst hl
      dsimp only at hstep
      split at hstep
      · exact hret pc _ _ L _ n h bc bs φ ls H locs cells slots hd q (Or.inr (Or.inl ⟨_, rfl, rfl, rfl, hstep.1⟩)) hstep.2
      · exact hstep.elim
    case return_ =>
      have hl : len = 1 := by simpa [mz_chk, mz_ln] using hk
      subst hl
      dsimp only at hstep
      split at hstep
      · exact hret pc _ _ L _ n h bc bs φ ls H locs cells slots hd q (Or.inr (Or.inr ⟨rfl, rfl, rfl, hstep.1⟩)) hstep.2
      · exact hstep.elim
    all_goals exact hstep.elim
end MZ4
