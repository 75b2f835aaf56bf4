/-! the tables' words that a method may carry, the nest mates' words, and the checks -/
def mz_gw : List Cond := lw_tbl.filter goodWord
def mz_isN : Cond → Bool
  | .fieldLinkNest .. => true
  | .methodLinkNest .. => true
  | _ => false
def mz_nw : List Cond := lw_tbl.filter mz_isN
def mz_ok1 (i : Nat) (w : Cond) : Bool := decide (lw_tbl[i]? = some w)
theorem mz_mem {i : Nat} {w : Cond} (h : mz_ok1 i w = true) (g : goodWord w = true) : w ∈ mz_gw :=
  List.mem_filter.mpr ⟨List.mem_of_getElem? (of_decide_eq_true h), g⟩
theorem mz_memN {i : Nat} {w : Cond} (h : mz_ok1 i w = true) (g : mz_isN w = true) : w ∈ mz_nw :=
  List.mem_filter.mpr ⟨List.mem_of_getElem? (of_decide_eq_true h), g⟩
def mz_fw (e : Nat × Nat × Nat × Nat × Nat) : Cond := if e.2.2.2.2 = 0 then .fieldLink (mz_RN e.1) e.2.1 (mz_RN e.2.2.1) (mz_F e.2.2.1 e.2.2.2.1).2.1 (mz_F e.2.2.1 e.2.2.2.1).2.2.1 else .fieldLinkNest (mz_RN e.1) e.2.1 (mz_RN e.2.2.1) (mz_F e.2.2.1 e.2.2.2.1).2.1 (mz_F e.2.2.1 e.2.2.2.1).2.2.1 "TapLedger"
def mz_y (idx : Nat) : MethodName := match mz_tab[idx]? with
  | some M => M.1
  | none => if idx = 998 then Lib.Math.max.name else if idx = 997 then Lib.Math.min.name else objectInit
def mz_mw (e : Nat × Nat × Nat × Nat) : Cond := if e.2.2.2 = 1 ∨ e.2.2.2 = 3 ∨ e.2.2.2 = 5 then .methodLinkNest (mz_RN e.1) e.2.1 (mz_y e.2.2.1) "TapLedger" else .methodLink (mz_RN e.1) e.2.1 (mz_y e.2.2.1)
def mz_ln : Instr → Nat
  | .bipush _ | .iload _ | .aload _ | .istore _ | .astore _ | .ldc _ | .newarray _ => 2
  | .sipush _ | .iinc _ _ | .getfield _ | .putfield _ | .getstatic _ | .invokevirtual _ | .invokestatic _ | .invokespecial _ | .new _ | .goto _ | .if_icmp _ _ | .ifCond _ _ => 3
  | _ => 1
def mz_chk (own kind : Nat) (e : mz_I) : Bool := match e.2.1 with
  | .getfield cp => e.2.2.1 == 3 && (mz_FL.contains (own, cp, e.2.2.2.1, e.2.2.2.2, 0) || mz_FL.contains (own, cp, e.2.2.2.1, e.2.2.2.2, 1))
  | .putfield cp => e.2.2.1 == 3 && mz_FL.contains (own, cp, e.2.2.2.1, e.2.2.2.2, 0) && (!(mz_F e.2.2.2.1 e.2.2.2.2).2.2.2 || (kind == 2 && e.2.2.2.1 == own))
  | .invokevirtual cp => e.2.2.1 == 3 && mz_ML.contains (own, cp, e.2.2.2.1, e.2.2.2.2) && (e.2.2.2.2 == 0 || e.2.2.2.2 == 1)
  | .invokestatic cp => e.2.2.1 == 3 && mz_ML.contains (own, cp, e.2.2.2.1, e.2.2.2.2) && (e.2.2.2.2 == 2 || e.2.2.2.2 == 3 || (e.2.2.2.2 == 7 && e.2.2.2.1 == 998) || (e.2.2.2.2 == 8 && e.2.2.2.1 == 997))
  | .invokespecial cp => e.2.2.1 == 3 && mz_ML.contains (own, cp, e.2.2.2.1, e.2.2.2.2) && (e.2.2.2.2 == 4 || e.2.2.2.2 == 5 || (e.2.2.2.2 == 6 && e.2.2.2.1 == 999))
  | .new cp => e.2.2.1 == 3 && mz_CL.contains (own, cp, e.2.2.2.1)
  | .ldc cp => e.2.2.1 == 2 && mz_KL.contains (own, cp, e.2.2.2.1)
  | .getstatic cp => e.2.2.1 == 3 && mz_GS.contains (own, cp)
  | .iconst i => e.2.2.1 == 1 && decide (Int32.ofInt i = nI e.2.2.2.1)
  | .bipush i => e.2.2.1 == 2 && decide ((Int8.ofInt i).toInt32 = nI e.2.2.2.1)
  | .sipush i => e.2.2.1 == 3 && decide ((Int16.ofInt i).toInt32 = nI e.2.2.2.1)
  | .iinc _ i => e.2.2.1 == 3 && decide (Int32.ofInt i = nI e.2.2.2.1)
  | .if_icmp _ off | .ifCond _ off | .goto off => e.2.2.1 == 3 && decide ((e.1 : Int) + off = (e.2.2.2.1 : Int))
  | .tableswitch d lo hi offs => decide (0 ≤ (e.1 : Int) + d) && offs.all (fun f => decide (0 ≤ (e.1 : Int) + f)) && decide ((offs.size : Int) = hi - lo + 1)
  | i => e.2.2.1 == mz_ln i
/-- a method's own words, by their places; its code, instruction by instruction -/
def mz_chkW (M : mz_M) (np : Nat) (p : Nat × Nat × Nat × Nat) : Bool :=
  mz_ok1 p.2.1 (.initialized M.1.cls) && mz_ok1 p.2.2.1 (if M.2.2.2.2.2.1 = 1 then .static M.1 else .instanceMethod M.1) && (M.2.2.2.2.2.1 != 0 || mz_ok1 p.2.2.2 (.selects M.1.cls M.1 M.1)) &&
  decide (M.1.cls = mz_RN M.2.2.2.2.1) && plainName M.1.cls && decide (M.1.cls ≠ "java/lang/invoke/MethodHandle") && decide (M.1.cls ≠ "java/lang/invoke/VarHandle") && (M.2.2.2.2.2.1 != 2 || decide (M.1.name = "<init>")) && decide ((parseMethodDescriptor M.1.desc).map (fun d => d.parameters.length) = some np) && decide (M.2.2.1 ≤ 11) && decide (M.2.2.2.2.2.1 < 3)
def mz_chkC (own kind : Nat) (bytes : ByteArray) (code : List mz_I) : Bool := code.all (fun e => decide (decode bytes e.1 = .ok (e.2.1, e.2.2.1)) && mz_chk own kind e)

def mz_np : List Nat := [0, 0, 0, 1, 2, 2, 1, 0, 1, 0, 2, 0, 2, 1, 1, 1, 0, 0, 1, 0, 2, 1, 3, 2, 0, 1, 1, 1, 1, 1, 0, 2, 2, 0, 0, 0, 1, 1, 0, 1, 2, 2, 5, 0, 1, 1, 1, 1, 1, 2, 1, 1, 2, 2, 1, 0, 1, 0, 1, 1, 0, 0, 1, 1, 1, 1, 3, 1, 2, 1, 1, 0, 1, 2, 2, 3, 0, 2, 2, 1, 1, 0, 2, 3, 5, 3, 3, 3, 3, 3, 2, 2, 5, 2, 1, 2, 1, 1, 1, 5, 3, 1, 0, 1, 3, 1, 1, 1, 1, 1, 1, 1, 3, 2, 1, 1, 1, 0, 3, 1, 1, 1, 2, 3, 2, 2, 2, 2, 5, 3, 2, 5, 3, 3, 2, 5, 1, 1, 1, 1, 1, 1, 3, 3, 1, 1, 1, 1, 3, 2, 2, 5, 2, 1, 2, 1, 1, 0, 0, 1]
theorem mz_FLok : (mz_FL.zip mz_FP).all (fun q => mz_ok1 q.2 (mz_fw q.1)) = true := by decide +kernel
theorem mz_MLok : (mz_ML.zip mz_MP).all (fun q => mz_ok1 q.2 (mz_mw q.1)) = true := by decide +kernel
theorem mz_CLok : (mz_CL.zip mz_CP).all (fun q => mz_ok1 q.2 (.classLink (mz_RN q.1.1) q.1.2.1 (mz_RN q.1.2.2))) = true := by decide +kernel
theorem mz_KLok : (mz_KL.zip mz_KP).all (fun q => mz_ok1 q.2 (.constant (mz_RN q.1.1) q.1.2.1 (nI q.1.2.2))) = true := by decide +kernel
theorem mz_GSok : mz_ok1 99 (.fieldLink (mz_RN 9) 36 (mz_RN 9) "FIRST_ZONES" "[I") = true := by decide +kernel
def mz_lp : List (List Nat) := [[136, 138, 140, 142], [287, 289, 291, 293], [248, 250, 252], [222, 224, 226, 228, 230, 232, 234], [268, 270, 272, 274, 276], [190, 192, 194, 196, 198, 200, 202, 204], [74], [153, 155, 157, 159, 161, 163], [82, 84, 86, 88], [111, 113, 115, 117, 119, 121], [302, 304, 306, 308, 310, 312], [796, 798, 800, 802, 804, 806, 808, 810, 812, 814, 816, 818, 820, 822, 824, 826, 828, 830, 832, 834, 836, 838]]
def mz_ip : List Nat := [125, 169, 238, 208, 256, 175, 68, 56, 62, 92, 48, 769]
def mz_jp : List Nat := [39, 40, 43, 42, 44, 41, 37, 35, 36, 38, 34, 45]
theorem mz_clsok : (List.range 12).all (fun i => (List.range (mz_N i)).all (fun k => mz_ok1 ((mz_lp.getD i []).getD k 0) (u_lay (mz_RN i) (mz_F i) k) && decide (parseFieldDescriptor (mz_F i k).2.2.1 = some (mz_ty i k)) && (List.range (mz_N i)).all (fun j => j == k || decide ((mz_F i k).2.1 ≠ (mz_F i j).2.1)) && decide ((mz_F i k).1 = mz_RN i)) && mz_ok1 (mz_ip.getD i 0) (.instantiable (mz_RN i) (mz_N i)) && mz_ok1 (mz_jp.getD i 0) (.initialized (mz_RN i))) = true := by decide +kernel
theorem mz_objok : mz_ok1 53 (.instanceMethod objectInit) = true ∧ mz_ok1 54 (.code objectInit ⟨#[0xb1]⟩ 1 none) = true := by decide +kernel
theorem mz_mathok : mz_ok1 46 (.initialized "java/lang/Math") = true ∧ mz_ok1 522 (.static Lib.Math.max.name) = true ∧ mz_ok1 523 (.code Lib.Math.max.name Lib.Math.max.code 2 (some .int)) = true ∧ mz_ok1 519 (.static Lib.Math.min.name) = true ∧ mz_ok1 520 (.code Lib.Math.min.name Lib.Math.min.code 2 (some .int)) = true := by decide +kernel
theorem mz_arrok : mz_ok1 77 (.arrayClass .int) = true ∧ mz_ok1 841 (.arrayClass .boolean) = true := by decide +kernel
set_option maxRecDepth 20000 in
theorem wc_X0_init : lw_tbl[128]? = some (.code mm_X0_init.1 mm_X0_init.2.1 mm_X0_init.2.2.1 mm_X0_init.2.2.2.1) := rfl
set_option maxRecDepth 20000 in
theorem wc_X0_number : lw_tbl[696]? = some (.code mm_X0_number.1 mm_X0_number.2.1 mm_X0_number.2.2.1 mm_X0_number.2.2.2.1) := rfl
set_option maxRecDepth 20000 in
theorem wc_X0_barred : lw_tbl[759]? = some (.code mm_X0_barred.1 mm_X0_barred.2.1 mm_X0_barred.2.2.1 mm_X0_barred.2.2.2.1) := rfl
set_option maxRecDepth 20000 in
theorem wc_X0_numberAt : lw_tbl[707]? = some (.code mm_X0_numberAt.1 mm_X0_numberAt.2.1 mm_X0_numberAt.2.2.1 mm_X0_numberAt.2.2.2.1) := rfl
set_option maxRecDepth 20000 in
theorem wc_X0_isBarredAt : lw_tbl[721]? = some (.code mm_X0_isBarredAt.1 mm_X0_isBarredAt.2.1 mm_X0_isBarredAt.2.2.1 mm_X0_isBarredAt.2.2.2.1) := rfl
set_option maxRecDepth 20000 in
theorem wc_X0_putBarred : lw_tbl[692]? = some (.code mm_X0_putBarred.1 mm_X0_putBarred.2.1 mm_X0_putBarred.2.2.1 mm_X0_putBarred.2.2.2.1) := rfl
set_option maxRecDepth 20000 in
theorem wc_X0_bringTo : lw_tbl[712]? = some (.code mm_X0_bringTo.1 mm_X0_bringTo.2.1 mm_X0_bringTo.2.2.1 mm_X0_bringTo.2.2.2.1) := rfl
set_option maxRecDepth 20000 in
theorem wc_X0_laggards : lw_tbl[763]? = some (.code mm_X0_laggards.1 mm_X0_laggards.2.1 mm_X0_laggards.2.2.1 mm_X0_laggards.2.2.2.1) := rfl
set_option maxRecDepth 20000 in
theorem wc_X0_copyFrom : lw_tbl[746]? = some (.code mm_X0_copyFrom.1 mm_X0_copyFrom.2.1 mm_X0_copyFrom.2.2.1 mm_X0_copyFrom.2.2.2.1) := rfl
set_option maxRecDepth 20000 in
theorem wc_X1_init : lw_tbl[172]? = some (.code mm_X1_init.1 mm_X1_init.2.1 mm_X1_init.2.2.1 mm_X1_init.2.2.2.1) := rfl
set_option maxRecDepth 20000 in
theorem wc_X1_reckon : lw_tbl[441]? = some (.code mm_X1_reckon.1 mm_X1_reckon.2.1 mm_X1_reckon.2.2.1 mm_X1_reckon.2.2.2.1) := rfl
set_option maxRecDepth 20000 in
theorem wc_X2_init : lw_tbl[241]? = some (.code mm_X2_init.1 mm_X2_init.2.1 mm_X2_init.2.2.1 mm_X2_init.2.2.2.1) := rfl
set_option maxRecDepth 20000 in
theorem wc_X2_build : lw_tbl[547]? = some (.code mm_X2_build.1 mm_X2_build.2.1 mm_X2_build.2.2.1 mm_X2_build.2.2.2.1) := rfl
set_option maxRecDepth 20000 in
theorem wc_X2_sum : lw_tbl[630]? = some (.code mm_X2_sum.1 mm_X2_sum.2.1 mm_X2_sum.2.2.1 mm_X2_sum.2.2.2.1) := rfl
set_option maxRecDepth 20000 in
theorem wc_X2_width : lw_tbl[634]? = some (.code mm_X2_width.1 mm_X2_width.2.1 mm_X2_width.2.2.1 mm_X2_width.2.2.2.1) := rfl
set_option maxRecDepth 20000 in
theorem wc_X2_owed : lw_tbl[580]? = some (.code mm_X2_owed.1 mm_X2_owed.2.1 mm_X2_owed.2.2.1 mm_X2_owed.2.2.2.1) := rfl
set_option maxRecDepth 20000 in
theorem wc_X2_allSums : lw_tbl[671]? = some (.code mm_X2_allSums.1 mm_X2_allSums.2.1 mm_X2_allSums.2.2.1 mm_X2_allSums.2.2.2.1) := rfl
set_option maxRecDepth 20000 in
theorem wc_X2_allOwed : lw_tbl[663]? = some (.code mm_X2_allOwed.1 mm_X2_allOwed.2.1 mm_X2_allOwed.2.2.1 mm_X2_allOwed.2.2.2.1) := rfl
set_option maxRecDepth 20000 in
theorem wc_X2_widthOfWeek : lw_tbl[585]? = some (.code mm_X2_widthOfWeek.1 mm_X2_widthOfWeek.2.1 mm_X2_widthOfWeek.2.2.1 mm_X2_widthOfWeek.2.2.2.1) := rfl
set_option maxRecDepth 20000 in
theorem wc_X3_init : lw_tbl[211]? = some (.code mm_X3_init.1 mm_X3_init.2.1 mm_X3_init.2.2.1 mm_X3_init.2.2.2.1) := rfl
set_option maxRecDepth 20000 in
theorem wc_X3_build : lw_tbl[476]? = some (.code mm_X3_build.1 mm_X3_build.2.1 mm_X3_build.2.2.1 mm_X3_build.2.2.2.1) := rfl
set_option maxRecDepth 20000 in
theorem wc_X3_open : lw_tbl[498]? = some (.code mm_X3_open.1 mm_X3_open.2.1 mm_X3_open.2.2.1 mm_X3_open.2.2.2.1) := rfl
set_option maxRecDepth 20000 in
theorem wc_X3_takeRide : lw_tbl[503]? = some (.code mm_X3_takeRide.1 mm_X3_takeRide.2.1 mm_X3_takeRide.2.2.1 mm_X3_takeRide.2.2.2.1) := rfl
set_option maxRecDepth 20000 in
theorem wc_X3_takeZone : lw_tbl[517]? = some (.code mm_X3_takeZone.1 mm_X3_takeZone.2.1 mm_X3_takeZone.2.2.1 mm_X3_takeZone.2.2.2.1) := rfl
set_option maxRecDepth 20000 in
theorem wc_X3_size : lw_tbl[552]? = some (.code mm_X3_size.1 mm_X3_size.2.1 mm_X3_size.2.2.1 mm_X3_size.2.2.2.1) := rfl
set_option maxRecDepth 20000 in
theorem wc_X3_moment : lw_tbl[556]? = some (.code mm_X3_moment.1 mm_X3_moment.2.1 mm_X3_moment.2.2.1 mm_X3_moment.2.2.2.1) := rfl
set_option maxRecDepth 20000 in
theorem wc_X3_ridesIn : lw_tbl[619]? = some (.code mm_X3_ridesIn.1 mm_X3_ridesIn.2.1 mm_X3_ridesIn.2.2.1 mm_X3_ridesIn.2.2.2.1) := rfl
set_option maxRecDepth 20000 in
theorem wc_X3_width : lw_tbl[536]? = some (.code mm_X3_width.1 mm_X3_width.2.1 mm_X3_width.2.2.1 mm_X3_width.2.2.2.1) := rfl
set_option maxRecDepth 20000 in
theorem wc_X3_cost : lw_tbl[561]? = some (.code mm_X3_cost.1 mm_X3_cost.2.1 mm_X3_cost.2.2.1 mm_X3_cost.2.2.2.1) := rfl
set_option maxRecDepth 20000 in
theorem wc_X3_journeyOfRide : lw_tbl[609]? = some (.code mm_X3_journeyOfRide.1 mm_X3_journeyOfRide.2.1 mm_X3_journeyOfRide.2.2.1 mm_X3_journeyOfRide.2.2.2.1) := rfl
set_option maxRecDepth 20000 in
theorem wc_X4_init : lw_tbl[259]? = some (.code mm_X4_init.1 mm_X4_init.2.1 mm_X4_init.2.2.1 mm_X4_init.2.2.2.1) := rfl
set_option maxRecDepth 20000 in
theorem wc_X4_build : lw_tbl[575]? = some (.code mm_X4_build.1 mm_X4_build.2.1 mm_X4_build.2.2.1 mm_X4_build.2.2.2.1) := rfl
set_option maxRecDepth 20000 in
theorem wc_X4_weighWeek : lw_tbl[593]? = some (.code mm_X4_weighWeek.1 mm_X4_weighWeek.2.1 mm_X4_weighWeek.2.2.1 mm_X4_weighWeek.2.2.2.1) := rfl
set_option maxRecDepth 20000 in
theorem wc_X4_markWeeks : lw_tbl[597]? = some (.code mm_X4_markWeeks.1 mm_X4_markWeeks.2.1 mm_X4_markWeeks.2.2.1 mm_X4_markWeeks.2.2.2.1) := rfl
set_option maxRecDepth 20000 in
theorem wc_X4_cost : lw_tbl[647]? = some (.code mm_X4_cost.1 mm_X4_cost.2.1 mm_X4_cost.2.2.1 mm_X4_cost.2.2.2.1) := rfl
set_option maxRecDepth 20000 in
theorem wc_X4_weeks : lw_tbl[651]? = some (.code mm_X4_weeks.1 mm_X4_weeks.2.1 mm_X4_weeks.2.2.1 mm_X4_weeks.2.2.2.1) := rfl
set_option maxRecDepth 20000 in
theorem wc_X4_start : lw_tbl[655]? = some (.code mm_X4_start.1 mm_X4_start.2.1 mm_X4_start.2.2.1 mm_X4_start.2.2.2.1) := rfl
set_option maxRecDepth 20000 in
theorem wc_X4_isInWeek : lw_tbl[639]? = some (.code mm_X4_isInWeek.1 mm_X4_isInWeek.2.1 mm_X4_isInWeek.2.2.1 mm_X4_isInWeek.2.2.2.1) := rfl
set_option maxRecDepth 20000 in
theorem wc_X5_init : lw_tbl[178]? = some (.code mm_X5_init.1 mm_X5_init.2.1 mm_X5_init.2.2.1 mm_X5_init.2.2.2.1) := rfl
set_option maxRecDepth 20000 in
theorem wc_X5_build : lw_tbl[445]? = some (.code mm_X5_build.1 mm_X5_build.2.1 mm_X5_build.2.2.1 mm_X5_build.2.2.2.1) := rfl
set_option maxRecDepth 20000 in
theorem wc_X5_addWhole : lw_tbl[459]? = some (.code mm_X5_addWhole.1 mm_X5_addWhole.2.1 mm_X5_addWhole.2.2.1 mm_X5_addWhole.2.2.2.1) := rfl
set_option maxRecDepth 20000 in
theorem wc_X5_addLacking : lw_tbl[470]? = some (.code mm_X5_addLacking.1 mm_X5_addLacking.2.1 mm_X5_addLacking.2.2.1 mm_X5_addLacking.2.2.2.1) := rfl
set_option maxRecDepth 20000 in
theorem wc_X5_addRide : lw_tbl[466]? = some (.code mm_X5_addRide.1 mm_X5_addRide.2.1 mm_X5_addRide.2.2.1 mm_X5_addRide.2.2.2.1) := rfl
set_option maxRecDepth 20000 in
theorem wc_X5_size : lw_tbl[480]? = some (.code mm_X5_size.1 mm_X5_size.2.1 mm_X5_size.2.2.1 mm_X5_size.2.2.2.1) := rfl
set_option maxRecDepth 20000 in
theorem wc_X5_beginStation : lw_tbl[527]? = some (.code mm_X5_beginStation.1 mm_X5_beginStation.2.1 mm_X5_beginStation.2.2.1 mm_X5_beginStation.2.2.2.1) := rfl
set_option maxRecDepth 20000 in
theorem wc_X5_endStation : lw_tbl[532]? = some (.code mm_X5_endStation.1 mm_X5_endStation.2.1 mm_X5_endStation.2.2.1 mm_X5_endStation.2.2.2.1) := rfl
set_option maxRecDepth 20000 in
theorem wc_X5_beginMoment : lw_tbl[494]? = some (.code mm_X5_beginMoment.1 mm_X5_beginMoment.2.1 mm_X5_beginMoment.2.2.1 mm_X5_beginMoment.2.2.2.1) := rfl
set_option maxRecDepth 20000 in
theorem wc_X5_kind : lw_tbl[604]? = some (.code mm_X5_kind.1 mm_X5_kind.2.1 mm_X5_kind.2.2.1 mm_X5_kind.2.2.2.1) := rfl
set_option maxRecDepth 20000 in
theorem wc_X5_isLame : lw_tbl[513]? = some (.code mm_X5_isLame.1 mm_X5_isLame.2.1 mm_X5_isLame.2.2.1 mm_X5_isLame.2.2.2.1) := rfl
set_option maxRecDepth 20000 in
theorem wc_X5_goesOn : lw_tbl[489]? = some (.code mm_X5_goesOn.1 mm_X5_goesOn.2.1 mm_X5_goesOn.2.2.1 mm_X5_goesOn.2.2.2.1) := rfl
set_option maxRecDepth 20000 in
theorem wc_X6_init : lw_tbl[71]? = some (.code mm_X6_init.1 mm_X6_init.2.1 mm_X6_init.2.2.1 mm_X6_init.2.2.2.1) := rfl
set_option maxRecDepth 20000 in
theorem wc_X6_at : lw_tbl[335]? = some (.code mm_X6_at.1 mm_X6_at.2.1 mm_X6_at.2.2.1 mm_X6_at.2.2.2.1) := rfl
set_option maxRecDepth 20000 in
theorem wc_X6_put : lw_tbl[104]? = some (.code mm_X6_put.1 mm_X6_put.2.1 mm_X6_put.2.2.1 mm_X6_put.2.2.2.1) := rfl
set_option maxRecDepth 20000 in
theorem wc_X6_add : lw_tbl[507]? = some (.code mm_X6_add.1 mm_X6_add.2.1 mm_X6_add.2.2.1 mm_X6_add.2.2.2.1) := rfl
set_option maxRecDepth 20000 in
theorem wc_X6_fill : lw_tbl[449]? = some (.code mm_X6_fill.1 mm_X6_fill.2.1 mm_X6_fill.2.2.1 mm_X6_fill.2.2.2.1) := rfl
set_option maxRecDepth 20000 in
theorem wc_X6_sum : lw_tbl[667]? = some (.code mm_X6_sum.1 mm_X6_sum.2.1 mm_X6_sum.2.2.1 mm_X6_sum.2.2.2.1) := rfl
set_option maxRecDepth 20000 in
theorem wc_X6_copyFrom : lw_tbl[683]? = some (.code mm_X6_copyFrom.1 mm_X6_copyFrom.2.1 mm_X6_copyFrom.2.2.1 mm_X6_copyFrom.2.2.2.1) := rfl
set_option maxRecDepth 20000 in
theorem wc_X7_init : lw_tbl[59]? = some (.code mm_X7_init.1 mm_X7_init.2.1 mm_X7_init.2.2.1 mm_X7_init.2.2.2.1) := rfl
set_option maxRecDepth 20000 in
theorem wc_X7_tapsOf : lw_tbl[375]? = some (.code mm_X7_tapsOf.1 mm_X7_tapsOf.2.1 mm_X7_tapsOf.2.2.1 mm_X7_tapsOf.2.2.2.1) := rfl
set_option maxRecDepth 20000 in
theorem wc_X7_copyFrom : lw_tbl[736]? = some (.code mm_X7_copyFrom.1 mm_X7_copyFrom.2.1 mm_X7_copyFrom.2.2.1 mm_X7_copyFrom.2.2.2.1) := rfl
set_option maxRecDepth 20000 in
theorem wc_X8_init : lw_tbl[65]? = some (.code mm_X8_init.1 mm_X8_init.2.1 mm_X8_init.2.2.1 mm_X8_init.2.2.2.1) := rfl
set_option maxRecDepth 20000 in
theorem wc_X8_size : lw_tbl[387]? = some (.code mm_X8_size.1 mm_X8_size.2.1 mm_X8_size.2.2.1 mm_X8_size.2.2.2.1) := rfl
set_option maxRecDepth 20000 in
theorem wc_X8_moment : lw_tbl[412]? = some (.code mm_X8_moment.1 mm_X8_moment.2.1 mm_X8_moment.2.2.1 mm_X8_moment.2.2.2.1) := rfl
set_option maxRecDepth 20000 in
theorem wc_X8_station : lw_tbl[422]? = some (.code mm_X8_station.1 mm_X8_station.2.1 mm_X8_station.2.2.1 mm_X8_station.2.2.2.1) := rfl
set_option maxRecDepth 20000 in
theorem wc_X8_way : lw_tbl[426]? = some (.code mm_X8_way.1 mm_X8_way.2.1 mm_X8_way.2.2.1 mm_X8_way.2.2.2.1) := rfl
set_option maxRecDepth 20000 in
theorem wc_X8_find : lw_tbl[382]? = some (.code mm_X8_find.1 mm_X8_find.2.1 mm_X8_find.2.2.1 mm_X8_find.2.2.2.1) := rfl
set_option maxRecDepth 20000 in
theorem wc_X8_insert : lw_tbl[391]? = some (.code mm_X8_insert.1 mm_X8_insert.2.1 mm_X8_insert.2.2.1 mm_X8_insert.2.2.2.1) := rfl
set_option maxRecDepth 20000 in
theorem wc_X8_remove : lw_tbl[404]? = some (.code mm_X8_remove.1 mm_X8_remove.2.1 mm_X8_remove.2.2.1 mm_X8_remove.2.2.2.1) := rfl
set_option maxRecDepth 20000 in
theorem wc_X8_move : lw_tbl[395]? = some (.code mm_X8_move.1 mm_X8_move.2.1 mm_X8_move.2.2.1 mm_X8_move.2.2.2.1) := rfl
set_option maxRecDepth 20000 in
theorem wc_X8_isWholeFrom : lw_tbl[454]? = some (.code mm_X8_isWholeFrom.1 mm_X8_isWholeFrom.2.1 mm_X8_isWholeFrom.2.2.1 mm_X8_isWholeFrom.2.2.2.1) := rfl
set_option maxRecDepth 20000 in
theorem wc_X8_copyFrom : lw_tbl[679]? = some (.code mm_X8_copyFrom.1 mm_X8_copyFrom.2.1 mm_X8_copyFrom.2.2.1 mm_X8_copyFrom.2.2.2.1) := rfl
set_option maxRecDepth 20000 in
theorem wc_X9_init : lw_tbl[95]? = some (.code mm_X9_init.1 mm_X9_init.2.1 mm_X9_init.2.2.1 mm_X9_init.2.2.2.1) := rfl
set_option maxRecDepth 20000 in
theorem wc_X9_zoneOf : lw_tbl[331]? = some (.code mm_X9_zoneOf.1 mm_X9_zoneOf.2.1 mm_X9_zoneOf.2.2.1 mm_X9_zoneOf.2.2.2.1) := rfl
set_option maxRecDepth 20000 in
theorem wc_X9_putZone : lw_tbl[339]? = some (.code mm_X9_putZone.1 mm_X9_putZone.2.1 mm_X9_putZone.2.2.1 mm_X9_putZone.2.2.2.1) := rfl
set_option maxRecDepth 20000 in
theorem wc_X9_valueOf : lw_tbl[350]? = some (.code mm_X9_valueOf.1 mm_X9_valueOf.2.1 mm_X9_valueOf.2.2.1 mm_X9_valueOf.2.2.2.1) := rfl
set_option maxRecDepth 20000 in
theorem wc_X9_putValue : lw_tbl[354]? = some (.code mm_X9_putValue.1 mm_X9_putValue.2.1 mm_X9_putValue.2.2.1 mm_X9_putValue.2.2.2.1) := rfl
set_option maxRecDepth 20000 in
theorem wc_X9_near : lw_tbl[485]? = some (.code mm_X9_near.1 mm_X9_near.2.1 mm_X9_near.2.2.1 mm_X9_near.2.2.2.1) := rfl
set_option maxRecDepth 20000 in
theorem wc_X9_journeyCost : lw_tbl[543]? = some (.code mm_X9_journeyCost.1 mm_X9_journeyCost.2.1 mm_X9_journeyCost.2.2.1 mm_X9_journeyCost.2.2.2.1) := rfl
set_option maxRecDepth 20000 in
theorem wc_X9_capped : lw_tbl[570]? = some (.code mm_X9_capped.1 mm_X9_capped.2.1 mm_X9_capped.2.2.1 mm_X9_capped.2.2.2.1) := rfl
set_option maxRecDepth 20000 in
theorem wc_X9_weekCost : lw_tbl[589]? = some (.code mm_X9_weekCost.1 mm_X9_weekCost.2.1 mm_X9_weekCost.2.2.1 mm_X9_weekCost.2.2.2.1) := rfl
set_option maxRecDepth 20000 in
theorem wc_X9_copyFrom : lw_tbl[741]? = some (.code mm_X9_copyFrom.1 mm_X9_copyFrom.2.1 mm_X9_copyFrom.2.2.1 mm_X9_copyFrom.2.2.2.1) := rfl
set_option maxRecDepth 20000 in
theorem wc_X10_init : lw_tbl[51]? = some (.code mm_X10_init.1 mm_X10_init.2.1 mm_X10_init.2.2.1 mm_X10_init.2.2.2.1) := rfl
set_option maxRecDepth 20000 in
theorem wc_X10_zone : lw_tbl[318]? = some (.code mm_X10_zone.1 mm_X10_zone.2.1 mm_X10_zone.2.2.1 mm_X10_zone.2.2.2.1) := rfl
set_option maxRecDepth 20000 in
theorem wc_X10_price : lw_tbl[343]? = some (.code mm_X10_price.1 mm_X10_price.2.1 mm_X10_price.2.2.1 mm_X10_price.2.2.2.1) := rfl
set_option maxRecDepth 20000 in
theorem wc_X10_tap : lw_tbl[358]? = some (.code mm_X10_tap.1 mm_X10_tap.2.1 mm_X10_tap.2.2.1 mm_X10_tap.2.2.2.1) := rfl
set_option maxRecDepth 20000 in
theorem wc_X10_untap : lw_tbl[400]? = some (.code mm_X10_untap.1 mm_X10_untap.2.1 mm_X10_untap.2.2.1 mm_X10_untap.2.2.2.1) := rfl
set_option maxRecDepth 20000 in
theorem wc_X10_told : lw_tbl[408]? = some (.code mm_X10_told.1 mm_X10_told.2.1 mm_X10_told.2.2.1 mm_X10_told.2.2.2.1) := rfl
set_option maxRecDepth 20000 in
theorem wc_X10_ride : lw_tbl[430]? = some (.code mm_X10_ride.1 mm_X10_ride.2.1 mm_X10_ride.2.2.1 mm_X10_ride.2.2.2.1) := rfl
set_option maxRecDepth 20000 in
theorem wc_X10_journey : lw_tbl[613]? = some (.code mm_X10_journey.1 mm_X10_journey.2.1 mm_X10_journey.2.2.1 mm_X10_journey.2.2.2.1) := rfl
set_option maxRecDepth 20000 in
theorem wc_X10_day : lw_tbl[626]? = some (.code mm_X10_day.1 mm_X10_day.2.1 mm_X10_day.2.2.1 mm_X10_day.2.2.2.1) := rfl
set_option maxRecDepth 20000 in
theorem wc_X10_best : lw_tbl[643]? = some (.code mm_X10_best.1 mm_X10_best.2.1 mm_X10_best.2.2.1 mm_X10_best.2.2.2.1) := rfl
set_option maxRecDepth 20000 in
theorem wc_X10_saved : lw_tbl[659]? = some (.code mm_X10_saved.1 mm_X10_saved.2.1 mm_X10_saved.2.2.1 mm_X10_saved.2.2.2.1) := rfl
set_option maxRecDepth 20000 in
theorem wc_X10_would : lw_tbl[675]? = some (.code mm_X10_would.1 mm_X10_would.2.1 mm_X10_would.2.2.1 mm_X10_would.2.2.2.1) := rfl
set_option maxRecDepth 20000 in
theorem wc_X10_bar : lw_tbl[688]? = some (.code mm_X10_bar.1 mm_X10_bar.2.1 mm_X10_bar.2.2.1 mm_X10_bar.2.2.2.1) := rfl
set_option maxRecDepth 20000 in
theorem wc_X10_hear : lw_tbl[700]? = some (.code mm_X10_hear.1 mm_X10_hear.2.1 mm_X10_hear.2.2.1 mm_X10_hear.2.2.2.1) := rfl
set_option maxRecDepth 20000 in
theorem wc_X10_pass : lw_tbl[717]? = some (.code mm_X10_pass.1 mm_X10_pass.2.1 mm_X10_pass.2.2.1 mm_X10_pass.2.2.2.1) := rfl
set_option maxRecDepth 20000 in
theorem wc_X10_image : lw_tbl[725]? = some (.code mm_X10_image.1 mm_X10_image.2.1 mm_X10_image.2.2.1 mm_X10_image.2.2.2.1) := rfl
set_option maxRecDepth 20000 in
theorem wc_X10_restore : lw_tbl[751]? = some (.code mm_X10_restore.1 mm_X10_restore.2.1 mm_X10_restore.2.2.1 mm_X10_restore.2.2.2.1) := rfl
set_option maxRecDepth 20000 in
theorem wc_X10_count : lw_tbl[755]? = some (.code mm_X10_count.1 mm_X10_count.2.1 mm_X10_count.2.2.1 mm_X10_count.2.2.2.1) := rfl
set_option maxRecDepth 20000 in
theorem wc_X10_refusalOfTap : lw_tbl[362]? = some (.code mm_X10_refusalOfTap.1 mm_X10_refusalOfTap.2.1 mm_X10_refusalOfTap.2.2.1 mm_X10_refusalOfTap.2.2.2.1) := rfl
set_option maxRecDepth 20000 in
theorem wc_X10_refusalOfPart : lw_tbl[433]? = some (.code mm_X10_refusalOfPart.1 mm_X10_refusalOfPart.2.1 mm_X10_refusalOfPart.2.2.1 mm_X10_refusalOfPart.2.2.2.1) := rfl
set_option maxRecDepth 20000 in
theorem wc_X10_reckon : lw_tbl[437]? = some (.code mm_X10_reckon.1 mm_X10_reckon.2.1 mm_X10_reckon.2.2.1 mm_X10_reckon.2.2.2.1) := rfl
set_option maxRecDepth 20000 in
theorem wc_X10_costOfAllCards : lw_tbl[767]? = some (.code mm_X10_costOfAllCards.1 mm_X10_costOfAllCards.2.1 mm_X10_costOfAllCards.2.2.1 mm_X10_costOfAllCards.2.2.2.1) := rfl
set_option maxRecDepth 20000 in
theorem wc_X10_imageOf : lw_tbl[732]? = some (.code mm_X10_imageOf.1 mm_X10_imageOf.2.1 mm_X10_imageOf.2.2.1 mm_X10_imageOf.2.2.2.1) := rfl
set_option maxRecDepth 20000 in
theorem wc_X10_isWithin : lw_tbl[324]? = some (.code mm_X10_isWithin.1 mm_X10_isWithin.2.1 mm_X10_isWithin.2.2.1 mm_X10_isWithin.2.2.2.1) := rfl
set_option maxRecDepth 20000 in
theorem wc_X10_isCard : lw_tbl[365]? = some (.code mm_X10_isCard.1 mm_X10_isCard.2.1 mm_X10_isCard.2.2.1 mm_X10_isCard.2.2.2.1) := rfl
set_option maxRecDepth 20000 in
theorem wc_X10_isStation : lw_tbl[321]? = some (.code mm_X10_isStation.1 mm_X10_isStation.2.1 mm_X10_isStation.2.2.1 mm_X10_isStation.2.2.2.1) := rfl
set_option maxRecDepth 20000 in
theorem wc_X10_isReader : lw_tbl[703]? = some (.code mm_X10_isReader.1 mm_X10_isReader.2.1 mm_X10_isReader.2.2.1 mm_X10_isReader.2.2.2.1) := rfl
set_option maxRecDepth 20000 in
theorem wc_X10_isImage : lw_tbl[728]? = some (.code mm_X10_isImage.1 mm_X10_isImage.2.1 mm_X10_isImage.2.2.1 mm_X10_isImage.2.2.2.1) := rfl
set_option maxRecDepth 20000 in
theorem wc_X10_isDay : lw_tbl[368]? = some (.code mm_X10_isDay.1 mm_X10_isDay.2.1 mm_X10_isDay.2.2.1 mm_X10_isDay.2.2.2.1) := rfl
set_option maxRecDepth 20000 in
theorem wc_X10_isMinute : lw_tbl[371]? = some (.code mm_X10_isMinute.1 mm_X10_isMinute.2.1 mm_X10_isMinute.2.2.1 mm_X10_isMinute.2.2.2.1) := rfl
set_option maxRecDepth 20000 in
theorem wc_X10_isWidth : lw_tbl[327]? = some (.code mm_X10_isWidth.1 mm_X10_isWidth.2.1 mm_X10_isWidth.2.2.1 mm_X10_isWidth.2.2.2.1) := rfl
set_option maxRecDepth 20000 in
theorem wc_X10_isPrice : lw_tbl[346]? = some (.code mm_X10_isPrice.1 mm_X10_isPrice.2.1 mm_X10_isPrice.2.2.1 mm_X10_isPrice.2.2.2.1) := rfl
set_option maxRecDepth 20000 in
theorem wc_X10_momentOf : lw_tbl[378]? = some (.code mm_X10_momentOf.1 mm_X10_momentOf.2.1 mm_X10_momentOf.2.2.1 mm_X10_momentOf.2.2.2.1) := rfl
set_option maxRecDepth 20000 in
theorem wc_X10_dayOf : lw_tbl[415]? = some (.code mm_X10_dayOf.1 mm_X10_dayOf.2.1 mm_X10_dayOf.2.2.1 mm_X10_dayOf.2.2.2.1) := rfl
set_option maxRecDepth 20000 in
theorem wc_X10_minuteOf : lw_tbl[418]? = some (.code mm_X10_minuteOf.1 mm_X10_minuteOf.2.1 mm_X10_minuteOf.2.2.1 mm_X10_minuteOf.2.2.2.1) := rfl
set_option maxRecDepth 20000 in
theorem wc_X10_isBusy : lw_tbl[539]? = some (.code mm_X10_isBusy.1 mm_X10_isBusy.2.1 mm_X10_isBusy.2.2.1 mm_X10_isBusy.2.2.2.1) := rfl
set_option maxRecDepth 20000 in
theorem wc_X11_init : lw_tbl[772]? = some (.code mm_X11_init.1 mm_X11_init.2.1 mm_X11_init.2.2.1 mm_X11_init.2.2.2.1) := rfl
set_option maxRecDepth 20000 in
theorem wc_X11_in : lw_tbl[851]? = some (.code mm_X11_in.1 mm_X11_in.2.1 mm_X11_in.2.2.1 mm_X11_in.2.2.2.1) := rfl
set_option maxRecDepth 20000 in
theorem wc_X11_isCard : lw_tbl[866]? = some (.code mm_X11_isCard.1 mm_X11_isCard.2.1 mm_X11_isCard.2.2.1 mm_X11_isCard.2.2.2.1) := rfl
set_option maxRecDepth 20000 in
theorem wc_X11_isStation : lw_tbl[848]? = some (.code mm_X11_isStation.1 mm_X11_isStation.2.1 mm_X11_isStation.2.2.1 mm_X11_isStation.2.2.2.1) := rfl
set_option maxRecDepth 20000 in
theorem wc_X11_isDay : lw_tbl[869]? = some (.code mm_X11_isDay.1 mm_X11_isDay.2.1 mm_X11_isDay.2.2.1 mm_X11_isDay.2.2.2.1) := rfl
set_option maxRecDepth 20000 in
theorem wc_X11_zone : lw_tbl[845]? = some (.code mm_X11_zone.1 mm_X11_zone.2.1 mm_X11_zone.2.2.1 mm_X11_zone.2.2.2.1) := rfl
set_option maxRecDepth 20000 in
theorem wc_X11_price : lw_tbl[855]? = some (.code mm_X11_price.1 mm_X11_price.2.1 mm_X11_price.2.2.1 mm_X11_price.2.2.2.1) := rfl
set_option maxRecDepth 20000 in
theorem wc_X11_when : lw_tbl[877]? = some (.code mm_X11_when.1 mm_X11_when.2.1 mm_X11_when.2.2.1 mm_X11_when.2.2.2.1) := rfl
set_option maxRecDepth 20000 in
theorem wc_X11_stationOf : lw_tbl[897]? = some (.code mm_X11_stationOf.1 mm_X11_stationOf.2.1 mm_X11_stationOf.2.2.1 mm_X11_stationOf.2.2.2.1) := rfl
set_option maxRecDepth 20000 in
theorem wc_X11_isIn : lw_tbl[901]? = some (.code mm_X11_isIn.1 mm_X11_isIn.2.1 mm_X11_isIn.2.2.1 mm_X11_isIn.2.2.2.1) := rfl
set_option maxRecDepth 20000 in
theorem wc_X11_tapAt : lw_tbl[873]? = some (.code mm_X11_tapAt.1 mm_X11_tapAt.2.1 mm_X11_tapAt.2.2.1 mm_X11_tapAt.2.2.2.1) := rfl
set_option maxRecDepth 20000 in
theorem wc_X11_refusal : lw_tbl[863]? = some (.code mm_X11_refusal.1 mm_X11_refusal.2.1 mm_X11_refusal.2.2.1 mm_X11_refusal.2.2.2.1) := rfl
set_option maxRecDepth 20000 in
theorem wc_X11_add : lw_tbl[881]? = some (.code mm_X11_add.1 mm_X11_add.2.1 mm_X11_add.2.2.1 mm_X11_add.2.2.2.1) := rfl
set_option maxRecDepth 20000 in
theorem wc_X11_remove : lw_tbl[889]? = some (.code mm_X11_remove.1 mm_X11_remove.2.1 mm_X11_remove.2.2.1 mm_X11_remove.2.2.2.1) := rfl
set_option maxRecDepth 20000 in
theorem wc_X11_tap : lw_tbl[859]? = some (.code mm_X11_tap.1 mm_X11_tap.2.1 mm_X11_tap.2.2.1 mm_X11_tap.2.2.2.1) := rfl
set_option maxRecDepth 20000 in
theorem wc_X11_untap : lw_tbl[885]? = some (.code mm_X11_untap.1 mm_X11_untap.2.1 mm_X11_untap.2.2.1 mm_X11_untap.2.2.2.1) := rfl
set_option maxRecDepth 20000 in
theorem wc_X11_told : lw_tbl[893]? = some (.code mm_X11_told.1 mm_X11_told.2.1 mm_X11_told.2.2.1 mm_X11_told.2.2.2.1) := rfl
set_option maxRecDepth 20000 in
theorem wc_X11_mended : lw_tbl[917]? = some (.code mm_X11_mended.1 mm_X11_mended.2.1 mm_X11_mended.2.2.1 mm_X11_mended.2.2.2.1) := rfl
set_option maxRecDepth 20000 in
theorem wc_X11_addRide : lw_tbl[921]? = some (.code mm_X11_addRide.1 mm_X11_addRide.2.1 mm_X11_addRide.2.2.1 mm_X11_addRide.2.2.2.1) := rfl
set_option maxRecDepth 20000 in
theorem wc_X11_layRides : lw_tbl[913]? = some (.code mm_X11_layRides.1 mm_X11_layRides.2.1 mm_X11_layRides.2.2.1 mm_X11_layRides.2.2.2.1) := rfl
set_option maxRecDepth 20000 in
theorem wc_X11_goesOn : lw_tbl[925]? = some (.code mm_X11_goesOn.1 mm_X11_goesOn.2.1 mm_X11_goesOn.2.2.1 mm_X11_goesOn.2.2.2.1) := rfl
set_option maxRecDepth 20000 in
theorem wc_X11_isBusy : lw_tbl[936]? = some (.code mm_X11_isBusy.1 mm_X11_isBusy.2.1 mm_X11_isBusy.2.2.1 mm_X11_isBusy.2.2.2.1) := rfl
set_option maxRecDepth 20000 in
theorem wc_X11_zoneOf : lw_tbl[933]? = some (.code mm_X11_zoneOf.1 mm_X11_zoneOf.2.1 mm_X11_zoneOf.2.2.1 mm_X11_zoneOf.2.2.2.1) := rfl
set_option maxRecDepth 20000 in
theorem wc_X11_widthOf : lw_tbl[929]? = some (.code mm_X11_widthOf.1 mm_X11_widthOf.2.1 mm_X11_widthOf.2.2.1 mm_X11_widthOf.2.2.2.1) := rfl
set_option maxRecDepth 20000 in
theorem wc_X11_layJourneys : lw_tbl[909]? = some (.code mm_X11_layJourneys.1 mm_X11_layJourneys.2.1 mm_X11_layJourneys.2.2.1 mm_X11_layJourneys.2.2.2.1) := rfl
set_option maxRecDepth 20000 in
theorem wc_X11_ride : lw_tbl[905]? = some (.code mm_X11_ride.1 mm_X11_ride.2.1 mm_X11_ride.2.2.1 mm_X11_ride.2.2.2.1) := rfl
set_option maxRecDepth 20000 in
theorem wc_X11_journey : lw_tbl[940]? = some (.code mm_X11_journey.1 mm_X11_journey.2.1 mm_X11_journey.2.2.1 mm_X11_journey.2.2.2.1) := rfl
set_option maxRecDepth 20000 in
theorem wc_X11_weekAt : lw_tbl[952]? = some (.code mm_X11_weekAt.1 mm_X11_weekAt.2.1 mm_X11_weekAt.2.2.1 mm_X11_weekAt.2.2.2.1) := rfl
set_option maxRecDepth 20000 in
theorem wc_X11_layDays : lw_tbl[948]? = some (.code mm_X11_layDays.1 mm_X11_layDays.2.1 mm_X11_layDays.2.2.1 mm_X11_layDays.2.2.2.1) := rfl
set_option maxRecDepth 20000 in
theorem wc_X11_weekOf : lw_tbl[960]? = some (.code mm_X11_weekOf.1 mm_X11_weekOf.2.1 mm_X11_weekOf.2.2.1 mm_X11_weekOf.2.2.2.1) := rfl
set_option maxRecDepth 20000 in
theorem wc_X11_isOfWeek : lw_tbl[956]? = some (.code mm_X11_isOfWeek.1 mm_X11_isOfWeek.2.1 mm_X11_isOfWeek.2.2.1 mm_X11_isOfWeek.2.2.2.1) := rfl
set_option maxRecDepth 20000 in
theorem wc_X11_day : lw_tbl[944]? = some (.code mm_X11_day.1 mm_X11_day.2.1 mm_X11_day.2.2.1 mm_X11_day.2.2.2.1) := rfl
set_option maxRecDepth 20000 in
theorem wc_X11_best : lw_tbl[964]? = some (.code mm_X11_best.1 mm_X11_best.2.1 mm_X11_best.2.2.1 mm_X11_best.2.2.2.1) := rfl
set_option maxRecDepth 20000 in
theorem wc_X11_saved : lw_tbl[968]? = some (.code mm_X11_saved.1 mm_X11_saved.2.1 mm_X11_saved.2.2.1 mm_X11_saved.2.2.2.1) := rfl
set_option maxRecDepth 20000 in
theorem wc_X11_would : lw_tbl[972]? = some (.code mm_X11_would.1 mm_X11_would.2.1 mm_X11_would.2.2.1 mm_X11_would.2.2.2.1) := rfl
set_option maxRecDepth 20000 in
theorem wc_X11_bar : lw_tbl[977]? = some (.code mm_X11_bar.1 mm_X11_bar.2.1 mm_X11_bar.2.2.1 mm_X11_bar.2.2.2.1) := rfl
set_option maxRecDepth 20000 in
theorem wc_X11_hear : lw_tbl[981]? = some (.code mm_X11_hear.1 mm_X11_hear.2.1 mm_X11_hear.2.2.1 mm_X11_hear.2.2.2.1) := rfl
set_option maxRecDepth 20000 in
theorem wc_X11_pass : lw_tbl[985]? = some (.code mm_X11_pass.1 mm_X11_pass.2.1 mm_X11_pass.2.2.1 mm_X11_pass.2.2.2.1) := rfl
set_option maxRecDepth 20000 in
theorem wc_X11_image : lw_tbl[989]? = some (.code mm_X11_image.1 mm_X11_image.2.1 mm_X11_image.2.2.1 mm_X11_image.2.2.2.1) := rfl
set_option maxRecDepth 20000 in
theorem wc_X11_restore : lw_tbl[993]? = some (.code mm_X11_restore.1 mm_X11_restore.2.1 mm_X11_restore.2.2.1 mm_X11_restore.2.2.2.1) := rfl
set_option maxRecDepth 20000 in
theorem wc_X11_lagging : lw_tbl[1001]? = some (.code mm_X11_lagging.1 mm_X11_lagging.2.1 mm_X11_lagging.2.2.1 mm_X11_lagging.2.2.2.1) := rfl
set_option maxRecDepth 20000 in
theorem wc_X11_allBest : lw_tbl[1005]? = some (.code mm_X11_allBest.1 mm_X11_allBest.2.1 mm_X11_allBest.2.2.1 mm_X11_allBest.2.2.2.1) := rfl
set_option maxRecDepth 20000 in
theorem wc_X11_count : lw_tbl[997]? = some (.code mm_X11_count.1 mm_X11_count.2.1 mm_X11_count.2.2.1 mm_X11_count.2.2.2.1) := rfl
theorem wk_X0_init : mz_chkW mm_X0_init 0 (128, 39, 127, 0) = true := by decide +kernel
theorem wk_X0_number : mz_chkW mm_X0_number 0 (696, 39, 694, 695) = true := by decide +kernel
theorem wk_X0_barred : mz_chkW mm_X0_barred 0 (759, 39, 757, 758) = true := by decide +kernel
theorem wk_X0_numberAt : mz_chkW mm_X0_numberAt 1 (707, 39, 705, 706) = true := by decide +kernel
theorem wk_X0_isBarredAt : mz_chkW mm_X0_isBarredAt 2 (721, 39, 719, 720) = true := by decide +kernel
theorem wk_X0_putBarred : mz_chkW mm_X0_putBarred 2 (692, 39, 690, 691) = true := by decide +kernel
theorem wk_X0_bringTo : mz_chkW mm_X0_bringTo 1 (712, 39, 710, 711) = true := by decide +kernel
theorem wk_X0_laggards : mz_chkW mm_X0_laggards 0 (763, 39, 761, 762) = true := by decide +kernel
theorem wk_X0_copyFrom : mz_chkW mm_X0_copyFrom 1 (746, 39, 744, 745) = true := by decide +kernel
theorem wk_X1_init : mz_chkW mm_X1_init 0 (172, 40, 171, 0) = true := by decide +kernel
theorem wk_X1_reckon : mz_chkW mm_X1_reckon 2 (441, 40, 439, 440) = true := by decide +kernel
theorem wk_X2_init : mz_chkW mm_X2_init 0 (241, 43, 240, 0) = true := by decide +kernel
theorem wk_X2_build : mz_chkW mm_X2_build 2 (547, 43, 545, 546) = true := by decide +kernel
theorem wk_X2_sum : mz_chkW mm_X2_sum 1 (630, 43, 628, 629) = true := by decide +kernel
theorem wk_X2_width : mz_chkW mm_X2_width 1 (634, 43, 632, 633) = true := by decide +kernel
theorem wk_X2_owed : mz_chkW mm_X2_owed 1 (580, 43, 578, 579) = true := by decide +kernel
theorem wk_X2_allSums : mz_chkW mm_X2_allSums 0 (671, 43, 669, 670) = true := by decide +kernel
theorem wk_X2_allOwed : mz_chkW mm_X2_allOwed 0 (663, 43, 661, 662) = true := by decide +kernel
theorem wk_X2_widthOfWeek : mz_chkW mm_X2_widthOfWeek 1 (585, 43, 583, 584) = true := by decide +kernel
theorem wk_X3_init : mz_chkW mm_X3_init 0 (211, 42, 210, 0) = true := by decide +kernel
theorem wk_X3_build : mz_chkW mm_X3_build 2 (476, 42, 474, 475) = true := by decide +kernel
theorem wk_X3_open : mz_chkW mm_X3_open 1 (498, 42, 497, 6) = true := by decide +kernel
theorem wk_X3_takeRide : mz_chkW mm_X3_takeRide 3 (503, 42, 502, 7) = true := by decide +kernel
theorem wk_X3_takeZone : mz_chkW mm_X3_takeZone 2 (517, 42, 516, 8) = true := by decide +kernel
theorem wk_X3_size : mz_chkW mm_X3_size 0 (552, 42, 550, 551) = true := by decide +kernel
theorem wk_X3_moment : mz_chkW mm_X3_moment 1 (556, 42, 554, 555) = true := by decide +kernel
theorem wk_X3_ridesIn : mz_chkW mm_X3_ridesIn 1 (619, 42, 617, 618) = true := by decide +kernel
theorem wk_X3_width : mz_chkW mm_X3_width 1 (536, 42, 534, 535) = true := by decide +kernel
theorem wk_X3_cost : mz_chkW mm_X3_cost 1 (561, 42, 559, 560) = true := by decide +kernel
theorem wk_X3_journeyOfRide : mz_chkW mm_X3_journeyOfRide 1 (609, 42, 607, 608) = true := by decide +kernel
theorem wk_X4_init : mz_chkW mm_X4_init 0 (259, 44, 258, 0) = true := by decide +kernel
theorem wk_X4_build : mz_chkW mm_X4_build 2 (575, 44, 573, 574) = true := by decide +kernel
theorem wk_X4_weighWeek : mz_chkW mm_X4_weighWeek 2 (593, 44, 592, 9) = true := by decide +kernel
theorem wk_X4_markWeeks : mz_chkW mm_X4_markWeeks 0 (597, 44, 596, 10) = true := by decide +kernel
theorem wk_X4_cost : mz_chkW mm_X4_cost 0 (647, 44, 645, 646) = true := by decide +kernel
theorem wk_X4_weeks : mz_chkW mm_X4_weeks 0 (651, 44, 649, 650) = true := by decide +kernel
theorem wk_X4_start : mz_chkW mm_X4_start 1 (655, 44, 653, 654) = true := by decide +kernel
theorem wk_X4_isInWeek : mz_chkW mm_X4_isInWeek 1 (639, 44, 637, 638) = true := by decide +kernel
theorem wk_X5_init : mz_chkW mm_X5_init 0 (178, 41, 177, 0) = true := by decide +kernel
theorem wk_X5_build : mz_chkW mm_X5_build 1 (445, 41, 443, 444) = true := by decide +kernel
theorem wk_X5_addWhole : mz_chkW mm_X5_addWhole 2 (459, 41, 458, 3) = true := by decide +kernel
theorem wk_X5_addLacking : mz_chkW mm_X5_addLacking 2 (470, 41, 469, 5) = true := by decide +kernel
theorem wk_X5_addRide : mz_chkW mm_X5_addRide 5 (466, 41, 465, 4) = true := by decide +kernel
theorem wk_X5_size : mz_chkW mm_X5_size 0 (480, 41, 478, 479) = true := by decide +kernel
theorem wk_X5_beginStation : mz_chkW mm_X5_beginStation 1 (527, 41, 525, 526) = true := by decide +kernel
theorem wk_X5_endStation : mz_chkW mm_X5_endStation 1 (532, 41, 530, 531) = true := by decide +kernel
theorem wk_X5_beginMoment : mz_chkW mm_X5_beginMoment 1 (494, 41, 492, 493) = true := by decide +kernel
theorem wk_X5_kind : mz_chkW mm_X5_kind 1 (604, 41, 602, 603) = true := by decide +kernel
theorem wk_X5_isLame : mz_chkW mm_X5_isLame 1 (513, 41, 511, 512) = true := by decide +kernel
theorem wk_X5_goesOn : mz_chkW mm_X5_goesOn 2 (489, 41, 487, 488) = true := by decide +kernel
theorem wk_X6_init : mz_chkW mm_X6_init 1 (71, 37, 70, 0) = true := by decide +kernel
theorem wk_X6_at : mz_chkW mm_X6_at 1 (335, 37, 333, 334) = true := by decide +kernel
theorem wk_X6_put : mz_chkW mm_X6_put 2 (104, 37, 102, 103) = true := by decide +kernel
theorem wk_X6_add : mz_chkW mm_X6_add 2 (507, 37, 505, 506) = true := by decide +kernel
theorem wk_X6_fill : mz_chkW mm_X6_fill 1 (449, 37, 447, 448) = true := by decide +kernel
theorem wk_X6_sum : mz_chkW mm_X6_sum 0 (667, 37, 665, 666) = true := by decide +kernel
theorem wk_X6_copyFrom : mz_chkW mm_X6_copyFrom 1 (683, 37, 681, 682) = true := by decide +kernel
theorem wk_X7_init : mz_chkW mm_X7_init 0 (59, 35, 58, 0) = true := by decide +kernel
theorem wk_X7_tapsOf : mz_chkW mm_X7_tapsOf 1 (375, 35, 373, 374) = true := by decide +kernel
theorem wk_X7_copyFrom : mz_chkW mm_X7_copyFrom 1 (736, 35, 734, 735) = true := by decide +kernel
theorem wk_X8_init : mz_chkW mm_X8_init 0 (65, 36, 64, 0) = true := by decide +kernel
theorem wk_X8_size : mz_chkW mm_X8_size 0 (387, 36, 385, 386) = true := by decide +kernel
theorem wk_X8_moment : mz_chkW mm_X8_moment 1 (412, 36, 410, 411) = true := by decide +kernel
theorem wk_X8_station : mz_chkW mm_X8_station 1 (422, 36, 420, 421) = true := by decide +kernel
theorem wk_X8_way : mz_chkW mm_X8_way 1 (426, 36, 424, 425) = true := by decide +kernel
theorem wk_X8_find : mz_chkW mm_X8_find 1 (382, 36, 380, 381) = true := by decide +kernel
theorem wk_X8_insert : mz_chkW mm_X8_insert 3 (391, 36, 389, 390) = true := by decide +kernel
theorem wk_X8_remove : mz_chkW mm_X8_remove 1 (404, 36, 402, 403) = true := by decide +kernel
theorem wk_X8_move : mz_chkW mm_X8_move 2 (395, 36, 394, 1) = true := by decide +kernel
theorem wk_X8_isWholeFrom : mz_chkW mm_X8_isWholeFrom 1 (454, 36, 452, 453) = true := by decide +kernel
theorem wk_X8_copyFrom : mz_chkW mm_X8_copyFrom 1 (679, 36, 677, 678) = true := by decide +kernel
theorem wk_X9_init : mz_chkW mm_X9_init 0 (95, 38, 94, 0) = true := by decide +kernel
theorem wk_X9_zoneOf : mz_chkW mm_X9_zoneOf 1 (331, 38, 329, 330) = true := by decide +kernel
theorem wk_X9_putZone : mz_chkW mm_X9_putZone 2 (339, 38, 337, 338) = true := by decide +kernel
theorem wk_X9_valueOf : mz_chkW mm_X9_valueOf 2 (350, 38, 348, 349) = true := by decide +kernel
theorem wk_X9_putValue : mz_chkW mm_X9_putValue 3 (354, 38, 352, 353) = true := by decide +kernel
theorem wk_X9_near : mz_chkW mm_X9_near 0 (485, 38, 483, 484) = true := by decide +kernel
theorem wk_X9_journeyCost : mz_chkW mm_X9_journeyCost 2 (543, 38, 541, 542) = true := by decide +kernel
theorem wk_X9_capped : mz_chkW mm_X9_capped 2 (570, 38, 568, 569) = true := by decide +kernel
theorem wk_X9_weekCost : mz_chkW mm_X9_weekCost 1 (589, 38, 587, 588) = true := by decide +kernel
theorem wk_X9_copyFrom : mz_chkW mm_X9_copyFrom 1 (741, 38, 739, 740) = true := by decide +kernel
theorem wk_X10_init : mz_chkW mm_X10_init 0 (51, 34, 50, 0) = true := by decide +kernel
theorem wk_X10_zone : mz_chkW mm_X10_zone 2 (318, 34, 316, 317) = true := by decide +kernel
theorem wk_X10_price : mz_chkW mm_X10_price 3 (343, 34, 341, 342) = true := by decide +kernel
theorem wk_X10_tap : mz_chkW mm_X10_tap 5 (358, 34, 356, 357) = true := by decide +kernel
theorem wk_X10_untap : mz_chkW mm_X10_untap 3 (400, 34, 398, 399) = true := by decide +kernel
theorem wk_X10_told : mz_chkW mm_X10_told 3 (408, 34, 406, 407) = true := by decide +kernel
theorem wk_X10_ride : mz_chkW mm_X10_ride 3 (430, 34, 428, 429) = true := by decide +kernel
theorem wk_X10_journey : mz_chkW mm_X10_journey 3 (613, 34, 611, 612) = true := by decide +kernel
theorem wk_X10_day : mz_chkW mm_X10_day 3 (626, 34, 624, 625) = true := by decide +kernel
theorem wk_X10_best : mz_chkW mm_X10_best 2 (643, 34, 641, 642) = true := by decide +kernel
theorem wk_X10_saved : mz_chkW mm_X10_saved 2 (659, 34, 657, 658) = true := by decide +kernel
theorem wk_X10_would : mz_chkW mm_X10_would 5 (675, 34, 673, 674) = true := by decide +kernel
theorem wk_X10_bar : mz_chkW mm_X10_bar 2 (688, 34, 686, 687) = true := by decide +kernel
theorem wk_X10_hear : mz_chkW mm_X10_hear 1 (700, 34, 698, 699) = true := by decide +kernel
theorem wk_X10_pass : mz_chkW mm_X10_pass 2 (717, 34, 715, 716) = true := by decide +kernel
theorem wk_X10_image : mz_chkW mm_X10_image 1 (725, 34, 723, 724) = true := by decide +kernel
theorem wk_X10_restore : mz_chkW mm_X10_restore 1 (751, 34, 749, 750) = true := by decide +kernel
theorem wk_X10_count : mz_chkW mm_X10_count 1 (755, 34, 753, 754) = true := by decide +kernel
theorem wk_X10_refusalOfTap : mz_chkW mm_X10_refusalOfTap 5 (362, 34, 361, 0) = true := by decide +kernel
theorem wk_X10_refusalOfPart : mz_chkW mm_X10_refusalOfPart 3 (433, 34, 432, 0) = true := by decide +kernel
theorem wk_X10_reckon : mz_chkW mm_X10_reckon 1 (437, 34, 436, 2) = true := by decide +kernel
theorem wk_X10_costOfAllCards : mz_chkW mm_X10_costOfAllCards 0 (767, 34, 766, 12) = true := by decide +kernel
theorem wk_X10_imageOf : mz_chkW mm_X10_imageOf 1 (732, 34, 731, 11) = true := by decide +kernel
theorem wk_X10_isWithin : mz_chkW mm_X10_isWithin 3 (324, 34, 323, 0) = true := by decide +kernel
theorem wk_X10_isCard : mz_chkW mm_X10_isCard 1 (365, 34, 364, 0) = true := by decide +kernel
theorem wk_X10_isStation : mz_chkW mm_X10_isStation 1 (321, 34, 320, 0) = true := by decide +kernel
theorem wk_X10_isReader : mz_chkW mm_X10_isReader 1 (703, 34, 702, 0) = true := by decide +kernel
theorem wk_X10_isImage : mz_chkW mm_X10_isImage 1 (728, 34, 727, 0) = true := by decide +kernel
theorem wk_X10_isDay : mz_chkW mm_X10_isDay 1 (368, 34, 367, 0) = true := by decide +kernel
theorem wk_X10_isMinute : mz_chkW mm_X10_isMinute 1 (371, 34, 370, 0) = true := by decide +kernel
theorem wk_X10_isWidth : mz_chkW mm_X10_isWidth 1 (327, 34, 326, 0) = true := by decide +kernel
theorem wk_X10_isPrice : mz_chkW mm_X10_isPrice 3 (346, 34, 345, 0) = true := by decide +kernel
theorem wk_X10_momentOf : mz_chkW mm_X10_momentOf 2 (378, 34, 377, 0) = true := by decide +kernel
theorem wk_X10_dayOf : mz_chkW mm_X10_dayOf 1 (415, 34, 414, 0) = true := by decide +kernel
theorem wk_X10_minuteOf : mz_chkW mm_X10_minuteOf 1 (418, 34, 417, 0) = true := by decide +kernel
theorem wk_X10_isBusy : mz_chkW mm_X10_isBusy 1 (539, 34, 538, 0) = true := by decide +kernel
theorem wk_X11_init : mz_chkW mm_X11_init 0 (772, 45, 771, 0) = true := by decide +kernel
theorem wk_X11_in : mz_chkW mm_X11_in 3 (851, 45, 850, 0) = true := by decide +kernel
theorem wk_X11_isCard : mz_chkW mm_X11_isCard 1 (866, 45, 865, 0) = true := by decide +kernel
theorem wk_X11_isStation : mz_chkW mm_X11_isStation 1 (848, 45, 847, 0) = true := by decide +kernel
theorem wk_X11_isDay : mz_chkW mm_X11_isDay 1 (869, 45, 868, 0) = true := by decide +kernel
theorem wk_X11_zone : mz_chkW mm_X11_zone 2 (845, 45, 843, 844) = true := by decide +kernel
theorem wk_X11_price : mz_chkW mm_X11_price 3 (855, 45, 853, 854) = true := by decide +kernel
theorem wk_X11_when : mz_chkW mm_X11_when 2 (877, 45, 876, 15) = true := by decide +kernel
theorem wk_X11_stationOf : mz_chkW mm_X11_stationOf 2 (897, 45, 896, 18) = true := by decide +kernel
theorem wk_X11_isIn : mz_chkW mm_X11_isIn 2 (901, 45, 900, 19) = true := by decide +kernel
theorem wk_X11_tapAt : mz_chkW mm_X11_tapAt 2 (873, 45, 872, 14) = true := by decide +kernel
theorem wk_X11_refusal : mz_chkW mm_X11_refusal 5 (863, 45, 862, 13) = true := by decide +kernel
theorem wk_X11_add : mz_chkW mm_X11_add 3 (881, 45, 880, 16) = true := by decide +kernel
theorem wk_X11_remove : mz_chkW mm_X11_remove 2 (889, 45, 888, 17) = true := by decide +kernel
theorem wk_X11_tap : mz_chkW mm_X11_tap 5 (859, 45, 857, 858) = true := by decide +kernel
theorem wk_X11_untap : mz_chkW mm_X11_untap 3 (885, 45, 883, 884) = true := by decide +kernel
theorem wk_X11_told : mz_chkW mm_X11_told 3 (893, 45, 891, 892) = true := by decide +kernel
theorem wk_X11_mended : mz_chkW mm_X11_mended 2 (917, 45, 916, 22) = true := by decide +kernel
theorem wk_X11_addRide : mz_chkW mm_X11_addRide 5 (921, 45, 920, 23) = true := by decide +kernel
theorem wk_X11_layRides : mz_chkW mm_X11_layRides 1 (913, 45, 912, 21) = true := by decide +kernel
theorem wk_X11_goesOn : mz_chkW mm_X11_goesOn 1 (925, 45, 924, 24) = true := by decide +kernel
theorem wk_X11_isBusy : mz_chkW mm_X11_isBusy 1 (936, 45, 935, 0) = true := by decide +kernel
theorem wk_X11_zoneOf : mz_chkW mm_X11_zoneOf 1 (933, 45, 932, 26) = true := by decide +kernel
theorem wk_X11_widthOf : mz_chkW mm_X11_widthOf 1 (929, 45, 928, 25) = true := by decide +kernel
theorem wk_X11_layJourneys : mz_chkW mm_X11_layJourneys 1 (909, 45, 908, 20) = true := by decide +kernel
theorem wk_X11_ride : mz_chkW mm_X11_ride 3 (905, 45, 903, 904) = true := by decide +kernel
theorem wk_X11_journey : mz_chkW mm_X11_journey 3 (940, 45, 938, 939) = true := by decide +kernel
theorem wk_X11_weekAt : mz_chkW mm_X11_weekAt 1 (952, 45, 951, 28) = true := by decide +kernel
theorem wk_X11_layDays : mz_chkW mm_X11_layDays 1 (948, 45, 947, 27) = true := by decide +kernel
theorem wk_X11_weekOf : mz_chkW mm_X11_weekOf 1 (960, 45, 959, 30) = true := by decide +kernel
theorem wk_X11_isOfWeek : mz_chkW mm_X11_isOfWeek 1 (956, 45, 955, 29) = true := by decide +kernel
theorem wk_X11_day : mz_chkW mm_X11_day 3 (944, 45, 942, 943) = true := by decide +kernel
theorem wk_X11_best : mz_chkW mm_X11_best 2 (964, 45, 962, 963) = true := by decide +kernel
theorem wk_X11_saved : mz_chkW mm_X11_saved 2 (968, 45, 966, 967) = true := by decide +kernel
theorem wk_X11_would : mz_chkW mm_X11_would 5 (972, 45, 970, 971) = true := by decide +kernel
theorem wk_X11_bar : mz_chkW mm_X11_bar 2 (977, 45, 975, 976) = true := by decide +kernel
theorem wk_X11_hear : mz_chkW mm_X11_hear 1 (981, 45, 979, 980) = true := by decide +kernel
theorem wk_X11_pass : mz_chkW mm_X11_pass 2 (985, 45, 983, 984) = true := by decide +kernel
theorem wk_X11_image : mz_chkW mm_X11_image 1 (989, 45, 987, 988) = true := by decide +kernel
theorem wk_X11_restore : mz_chkW mm_X11_restore 1 (993, 45, 991, 992) = true := by decide +kernel
theorem wk_X11_lagging : mz_chkW mm_X11_lagging 0 (1001, 45, 1000, 31) = true := by decide +kernel
theorem wk_X11_allBest : mz_chkW mm_X11_allBest 0 (1005, 45, 1004, 32) = true := by decide +kernel
theorem wk_X11_count : mz_chkW mm_X11_count 1 (997, 45, 995, 996) = true := by decide +kernel
set_option maxRecDepth 20000 in
theorem mz_codes : ∀ M ∈ mz_tab, Cond.code M.1 M.2.1 M.2.2.1 M.2.2.2.1 ∈ lw_tbl := by
  unfold mz_tab
  exact List.forall_mem_cons.mpr ⟨List.mem_of_getElem? wc_X0_init, List.forall_mem_cons.mpr ⟨List.mem_of_getElem? wc_X0_number, List.forall_mem_cons.mpr ⟨List.mem_of_getElem? wc_X0_barred, List.forall_mem_cons.mpr ⟨List.mem_of_getElem? wc_X0_numberAt, List.forall_mem_cons.mpr ⟨List.mem_of_getElem? wc_X0_isBarredAt, List.forall_mem_cons.mpr ⟨List.mem_of_getElem? wc_X0_putBarred, List.forall_mem_cons.mpr ⟨List.mem_of_getElem? wc_X0_bringTo, List.forall_mem_cons.mpr ⟨List.mem_of_getElem? wc_X0_laggards, List.forall_mem_cons.mpr ⟨List.mem_of_getElem? wc_X0_copyFrom, List.forall_mem_cons.mpr ⟨List.mem_of_getElem? wc_X1_init, List.forall_mem_cons.mpr ⟨List.mem_of_getElem? wc_X1_reckon, List.forall_mem_cons.mpr ⟨List.mem_of_getElem? wc_X2_init, List.forall_mem_cons.mpr ⟨List.mem_of_getElem? wc_X2_build, List.forall_mem_cons.mpr ⟨List.mem_of_getElem? wc_X2_sum, List.forall_mem_cons.mpr ⟨List.mem_of_getElem? wc_X2_width, List.forall_mem_cons.mpr ⟨List.mem_of_getElem? wc_X2_owed, List.forall_mem_cons.mpr ⟨List.mem_of_getElem? wc_X2_allSums, List.forall_mem_cons.mpr ⟨List.mem_of_getElem? wc_X2_allOwed, List.forall_mem_cons.mpr ⟨List.mem_of_getElem? wc_X2_widthOfWeek, List.forall_mem_cons.mpr ⟨List.mem_of_getElem? wc_X3_init, List.forall_mem_cons.mpr ⟨List.mem_of_getElem? wc_X3_build, List.forall_mem_cons.mpr ⟨List.mem_of_getElem? wc_X3_open, List.forall_mem_cons.mpr ⟨List.mem_of_getElem? wc_X3_takeRide, List.forall_mem_cons.mpr ⟨List.mem_of_getElem? wc_X3_takeZone, List.forall_mem_cons.mpr ⟨List.mem_of_getElem? wc_X3_size, List.forall_mem_cons.mpr ⟨List.mem_of_getElem? wc_X3_moment, List.forall_mem_cons.mpr ⟨List.mem_of_getElem? wc_X3_ridesIn, List.forall_mem_cons.mpr ⟨List.mem_of_getElem? wc_X3_width, List.forall_mem_cons.mpr ⟨List.mem_of_getElem? wc_X3_cost, List.forall_mem_cons.mpr ⟨List.mem_of_getElem? wc_X3_journeyOfRide, List.forall_mem_cons.mpr ⟨List.mem_of_getElem? wc_X4_init, List.forall_mem_cons.mpr ⟨List.mem_of_getElem? wc_X4_build, List.forall_mem_cons.mpr ⟨List.mem_of_getElem? wc_X4_weighWeek, List.forall_mem_cons.mpr ⟨List.mem_of_getElem? wc_X4_markWeeks, List.forall_mem_cons.mpr ⟨List.mem_of_getElem? wc_X4_cost, List.forall_mem_cons.mpr ⟨List.mem_of_getElem? wc_X4_weeks, List.forall_mem_cons.mpr ⟨List.mem_of_getElem? wc_X4_start, List.forall_mem_cons.mpr ⟨List.mem_of_getElem? wc_X4_isInWeek, List.forall_mem_cons.mpr ⟨List.mem_of_getElem? wc_X5_init, List.forall_mem_cons.mpr ⟨List.mem_of_getElem? wc_X5_build, List.forall_mem_cons.mpr ⟨List.mem_of_getElem? wc_X5_addWhole, List.forall_mem_cons.mpr ⟨List.mem_of_getElem? wc_X5_addLacking, List.forall_mem_cons.mpr ⟨List.mem_of_getElem? wc_X5_addRide, List.forall_mem_cons.mpr ⟨List.mem_of_getElem? wc_X5_size, List.forall_mem_cons.mpr ⟨List.mem_of_getElem? wc_X5_beginStation, List.forall_mem_cons.mpr ⟨List.mem_of_getElem? wc_X5_endStation, List.forall_mem_cons.mpr ⟨List.mem_of_getElem? wc_X5_beginMoment, List.forall_mem_cons.mpr ⟨List.mem_of_getElem? wc_X5_kind, List.forall_mem_cons.mpr ⟨List.mem_of_getElem? wc_X5_isLame, List.forall_mem_cons.mpr ⟨List.mem_of_getElem? wc_X5_goesOn, List.forall_mem_cons.mpr ⟨List.mem_of_getElem? wc_X6_init, List.forall_mem_cons.mpr ⟨List.mem_of_getElem? wc_X6_at, List.forall_mem_cons.mpr ⟨List.mem_of_getElem? wc_X6_put, List.forall_mem_cons.mpr ⟨List.mem_of_getElem? wc_X6_add, List.forall_mem_cons.mpr ⟨List.mem_of_getElem? wc_X6_fill, List.forall_mem_cons.mpr ⟨List.mem_of_getElem? wc_X6_sum, List.forall_mem_cons.mpr ⟨List.mem_of_getElem? wc_X6_copyFrom, List.forall_mem_cons.mpr ⟨List.mem_of_getElem? wc_X7_init, List.forall_mem_cons.mpr ⟨List.mem_of_getElem? wc_X7_tapsOf, List.forall_mem_cons.mpr ⟨List.mem_of_getElem? wc_X7_copyFrom, List.forall_mem_cons.mpr ⟨List.mem_of_getElem? wc_X8_init, List.forall_mem_cons.mpr ⟨List.mem_of_getElem? wc_X8_size, List.forall_mem_cons.mpr ⟨List.mem_of_getElem? wc_X8_moment, List.forall_mem_cons.mpr ⟨List.mem_of_getElem? wc_X8_station, List.forall_mem_cons.mpr ⟨List.mem_of_getElem? wc_X8_way, List.forall_mem_cons.mpr ⟨List.mem_of_getElem? wc_X8_find, List.forall_mem_cons.mpr ⟨List.mem_of_getElem? wc_X8_insert, List.forall_mem_cons.mpr ⟨List.mem_of_getElem? wc_X8_remove, List.forall_mem_cons.mpr ⟨List.mem_of_getElem? wc_X8_move, List.forall_mem_cons.mpr ⟨List.mem_of_getElem? wc_X8_isWholeFrom, List.forall_mem_cons.mpr ⟨List.mem_of_getElem? wc_X8_copyFrom, List.forall_mem_cons.mpr ⟨List.mem_of_getElem? wc_X9_init, List.forall_mem_cons.mpr ⟨List.mem_of_getElem? wc_X9_zoneOf, List.forall_mem_cons.mpr ⟨List.mem_of_getElem? wc_X9_putZone, List.forall_mem_cons.mpr ⟨List.mem_of_getElem? wc_X9_valueOf, List.forall_mem_cons.mpr ⟨List.mem_of_getElem? wc_X9_putValue, List.forall_mem_cons.mpr ⟨List.mem_of_getElem? wc_X9_near, List.forall_mem_cons.mpr ⟨List.mem_of_getElem? wc_X9_journeyCost, List.forall_mem_cons.mpr ⟨List.mem_of_getElem? wc_X9_capped, List.forall_mem_cons.mpr ⟨List.mem_of_getElem? wc_X9_weekCost, List.forall_mem_cons.mpr ⟨List.mem_of_getElem? wc_X9_copyFrom, List.forall_mem_cons.mpr ⟨List.mem_of_getElem? wc_X10_init, List.forall_mem_cons.mpr ⟨List.mem_of_getElem? wc_X10_zone, List.forall_mem_cons.mpr ⟨List.mem_of_getElem? wc_X10_price, List.forall_mem_cons.mpr ⟨List.mem_of_getElem? wc_X10_tap, List.forall_mem_cons.mpr ⟨List.mem_of_getElem? wc_X10_untap, List.forall_mem_cons.mpr ⟨List.mem_of_getElem? wc_X10_told, List.forall_mem_cons.mpr ⟨List.mem_of_getElem? wc_X10_ride, List.forall_mem_cons.mpr ⟨List.mem_of_getElem? wc_X10_journey, List.forall_mem_cons.mpr ⟨List.mem_of_getElem? wc_X10_day, List.forall_mem_cons.mpr ⟨List.mem_of_getElem? wc_X10_best, List.forall_mem_cons.mpr ⟨List.mem_of_getElem? wc_X10_saved, List.forall_mem_cons.mpr ⟨List.mem_of_getElem? wc_X10_would, List.forall_mem_cons.mpr ⟨List.mem_of_getElem? wc_X10_bar, List.forall_mem_cons.mpr ⟨List.mem_of_getElem? wc_X10_hear, List.forall_mem_cons.mpr ⟨List.mem_of_getElem? wc_X10_pass, List.forall_mem_cons.mpr ⟨List.mem_of_getElem? wc_X10_image, List.forall_mem_cons.mpr ⟨List.mem_of_getElem? wc_X10_restore, List.forall_mem_cons.mpr ⟨List.mem_of_getElem? wc_X10_count, List.forall_mem_cons.mpr ⟨List.mem_of_getElem? wc_X10_refusalOfTap, List.forall_mem_cons.mpr ⟨List.mem_of_getElem? wc_X10_refusalOfPart, List.forall_mem_cons.mpr ⟨List.mem_of_getElem? wc_X10_reckon, List.forall_mem_cons.mpr ⟨List.mem_of_getElem? wc_X10_costOfAllCards, List.forall_mem_cons.mpr ⟨List.mem_of_getElem? wc_X10_imageOf, List.forall_mem_cons.mpr ⟨List.mem_of_getElem? wc_X10_isWithin, List.forall_mem_cons.mpr ⟨List.mem_of_getElem? wc_X10_isCard, List.forall_mem_cons.mpr ⟨List.mem_of_getElem? wc_X10_isStation, List.forall_mem_cons.mpr ⟨List.mem_of_getElem? wc_X10_isReader, List.forall_mem_cons.mpr ⟨List.mem_of_getElem? wc_X10_isImage, List.forall_mem_cons.mpr ⟨List.mem_of_getElem? wc_X10_isDay, List.forall_mem_cons.mpr ⟨List.mem_of_getElem? wc_X10_isMinute, List.forall_mem_cons.mpr ⟨List.mem_of_getElem? wc_X10_isWidth, List.forall_mem_cons.mpr ⟨List.mem_of_getElem? wc_X10_isPrice, List.forall_mem_cons.mpr ⟨List.mem_of_getElem? wc_X10_momentOf, List.forall_mem_cons.mpr ⟨List.mem_of_getElem? wc_X10_dayOf, List.forall_mem_cons.mpr ⟨List.mem_of_getElem? wc_X10_minuteOf, List.forall_mem_cons.mpr ⟨List.mem_of_getElem? wc_X10_isBusy, List.forall_mem_cons.mpr ⟨List.mem_of_getElem? wc_X11_init, List.forall_mem_cons.mpr ⟨List.mem_of_getElem? wc_X11_in, List.forall_mem_cons.mpr ⟨List.mem_of_getElem? wc_X11_isCard, List.forall_mem_cons.mpr ⟨List.mem_of_getElem? wc_X11_isStation, List.forall_mem_cons.mpr ⟨List.mem_of_getElem? wc_X11_isDay, List.forall_mem_cons.mpr ⟨List.mem_of_getElem? wc_X11_zone, List.forall_mem_cons.mpr ⟨List.mem_of_getElem? wc_X11_price, List.forall_mem_cons.mpr ⟨List.mem_of_getElem? wc_X11_when, List.forall_mem_cons.mpr ⟨List.mem_of_getElem? wc_X11_stationOf, List.forall_mem_cons.mpr ⟨List.mem_of_getElem? wc_X11_isIn, List.forall_mem_cons.mpr ⟨List.mem_of_getElem? wc_X11_tapAt, List.forall_mem_cons.mpr ⟨List.mem_of_getElem? wc_X11_refusal, List.forall_mem_cons.mpr ⟨List.mem_of_getElem? wc_X11_add, List.forall_mem_cons.mpr ⟨List.mem_of_getElem? wc_X11_remove, List.forall_mem_cons.mpr ⟨List.mem_of_getElem? wc_X11_tap, List.forall_mem_cons.mpr ⟨List.mem_of_getElem? wc_X11_untap, List.forall_mem_cons.mpr ⟨List.mem_of_getElem? wc_X11_told, List.forall_mem_cons.mpr ⟨List.mem_of_getElem? wc_X11_mended, List.forall_mem_cons.mpr ⟨List.mem_of_getElem? wc_X11_addRide, List.forall_mem_cons.mpr ⟨List.mem_of_getElem? wc_X11_layRides, List.forall_mem_cons.mpr ⟨List.mem_of_getElem? wc_X11_goesOn, List.forall_mem_cons.mpr ⟨List.mem_of_getElem? wc_X11_isBusy, List.forall_mem_cons.mpr ⟨List.mem_of_getElem? wc_X11_zoneOf, List.forall_mem_cons.mpr ⟨List.mem_of_getElem? wc_X11_widthOf, List.forall_mem_cons.mpr ⟨List.mem_of_getElem? wc_X11_layJourneys, List.forall_mem_cons.mpr ⟨List.mem_of_getElem? wc_X11_ride, List.forall_mem_cons.mpr ⟨List.mem_of_getElem? wc_X11_journey, List.forall_mem_cons.mpr ⟨List.mem_of_getElem? wc_X11_weekAt, List.forall_mem_cons.mpr ⟨List.mem_of_getElem? wc_X11_layDays, List.forall_mem_cons.mpr ⟨List.mem_of_getElem? wc_X11_weekOf, List.forall_mem_cons.mpr ⟨List.mem_of_getElem? wc_X11_isOfWeek, List.forall_mem_cons.mpr ⟨List.mem_of_getElem? wc_X11_day, List.forall_mem_cons.mpr ⟨List.mem_of_getElem? wc_X11_best, List.forall_mem_cons.mpr ⟨List.mem_of_getElem? wc_X11_saved, List.forall_mem_cons.mpr ⟨List.mem_of_getElem? wc_X11_would, List.forall_mem_cons.mpr ⟨List.mem_of_getElem? wc_X11_bar, List.forall_mem_cons.mpr ⟨List.mem_of_getElem? wc_X11_hear, List.forall_mem_cons.mpr ⟨List.mem_of_getElem? wc_X11_pass, List.forall_mem_cons.mpr ⟨List.mem_of_getElem? wc_X11_image, List.forall_mem_cons.mpr ⟨List.mem_of_getElem? wc_X11_restore, List.forall_mem_cons.mpr ⟨List.mem_of_getElem? wc_X11_lagging, List.forall_mem_cons.mpr ⟨List.mem_of_getElem? wc_X11_allBest, List.forall_mem_cons.mpr ⟨List.mem_of_getElem? wc_X11_count, fun _ h => absurd h List.not_mem_nil⟩⟩⟩⟩⟩⟩⟩⟩⟩⟩⟩⟩⟩⟩⟩⟩⟩⟩⟩⟩⟩⟩⟩⟩⟩⟩⟩⟩⟩⟩⟩⟩⟩⟩⟩⟩⟩⟩⟩⟩⟩⟩⟩⟩⟩⟩⟩⟩⟩⟩⟩⟩⟩⟩⟩⟩⟩⟩⟩⟩⟩⟩⟩⟩⟩⟩⟩⟩⟩⟩⟩⟩⟩⟩⟩⟩⟩⟩⟩⟩⟩⟩⟩⟩⟩⟩⟩⟩⟩⟩⟩⟩⟩⟩⟩⟩⟩⟩⟩⟩⟩⟩⟩⟩⟩⟩⟩⟩⟩⟩⟩⟩⟩⟩⟩⟩⟩⟩⟩⟩⟩⟩⟩⟩⟩⟩⟩⟩⟩⟩⟩⟩⟩⟩⟩⟩⟩⟩⟩⟩⟩⟩⟩⟩⟩⟩⟩⟩⟩⟩⟩⟩⟩⟩⟩⟩⟩⟩⟩⟩
set_option maxRecDepth 20000 in
theorem mz_Wok : ∀ q ∈ mz_tab.zip mz_np, ∃ p, mz_chkW q.1 q.2 p = true := by
  show ∀ q ∈ [(mm_X0_init, 0), (mm_X0_number, 0), (mm_X0_barred, 0), (mm_X0_numberAt, 1), (mm_X0_isBarredAt, 2), (mm_X0_putBarred, 2), (mm_X0_bringTo, 1), (mm_X0_laggards, 0), (mm_X0_copyFrom, 1), (mm_X1_init, 0), (mm_X1_reckon, 2), (mm_X2_init, 0), (mm_X2_build, 2), (mm_X2_sum, 1), (mm_X2_width, 1), (mm_X2_owed, 1), (mm_X2_allSums, 0), (mm_X2_allOwed, 0), (mm_X2_widthOfWeek, 1), (mm_X3_init, 0), (mm_X3_build, 2), (mm_X3_open, 1), (mm_X3_takeRide, 3), (mm_X3_takeZone, 2), (mm_X3_size, 0), (mm_X3_moment, 1), (mm_X3_ridesIn, 1), (mm_X3_width, 1), (mm_X3_cost, 1), (mm_X3_journeyOfRide, 1), (mm_X4_init, 0), (mm_X4_build, 2), (mm_X4_weighWeek, 2), (mm_X4_markWeeks, 0), (mm_X4_cost, 0), (mm_X4_weeks, 0), (mm_X4_start, 1), (mm_X4_isInWeek, 1), (mm_X5_init, 0), (mm_X5_build, 1), (mm_X5_addWhole, 2), (mm_X5_addLacking, 2), (mm_X5_addRide, 5), (mm_X5_size, 0), (mm_X5_beginStation, 1), (mm_X5_endStation, 1), (mm_X5_beginMoment, 1), (mm_X5_kind, 1), (mm_X5_isLame, 1), (mm_X5_goesOn, 2), (mm_X6_init, 1), (mm_X6_at, 1), (mm_X6_put, 2), (mm_X6_add, 2), (mm_X6_fill, 1), (mm_X6_sum, 0), (mm_X6_copyFrom, 1), (mm_X7_init, 0), (mm_X7_tapsOf, 1), (mm_X7_copyFrom, 1), (mm_X8_init, 0), (mm_X8_size, 0), (mm_X8_moment, 1), (mm_X8_station, 1), (mm_X8_way, 1), (mm_X8_find, 1), (mm_X8_insert, 3), (mm_X8_remove, 1), (mm_X8_move, 2), (mm_X8_isWholeFrom, 1), (mm_X8_copyFrom, 1), (mm_X9_init, 0), (mm_X9_zoneOf, 1), (mm_X9_putZone, 2), (mm_X9_valueOf, 2), (mm_X9_putValue, 3), (mm_X9_near, 0), (mm_X9_journeyCost, 2), (mm_X9_capped, 2), (mm_X9_weekCost, 1), (mm_X9_copyFrom, 1), (mm_X10_init, 0), (mm_X10_zone, 2), (mm_X10_price, 3), (mm_X10_tap, 5), (mm_X10_untap, 3), (mm_X10_told, 3), (mm_X10_ride, 3), (mm_X10_journey, 3), (mm_X10_day, 3), (mm_X10_best, 2), (mm_X10_saved, 2), (mm_X10_would, 5), (mm_X10_bar, 2), (mm_X10_hear, 1), (mm_X10_pass, 2), (mm_X10_image, 1), (mm_X10_restore, 1), (mm_X10_count, 1), (mm_X10_refusalOfTap, 5), (mm_X10_refusalOfPart, 3), (mm_X10_reckon, 1), (mm_X10_costOfAllCards, 0), (mm_X10_imageOf, 1), (mm_X10_isWithin, 3), (mm_X10_isCard, 1), (mm_X10_isStation, 1), (mm_X10_isReader, 1), (mm_X10_isImage, 1), (mm_X10_isDay, 1), (mm_X10_isMinute, 1), (mm_X10_isWidth, 1), (mm_X10_isPrice, 3), (mm_X10_momentOf, 2), (mm_X10_dayOf, 1), (mm_X10_minuteOf, 1), (mm_X10_isBusy, 1), (mm_X11_init, 0), (mm_X11_in, 3), (mm_X11_isCard, 1), (mm_X11_isStation, 1), (mm_X11_isDay, 1), (mm_X11_zone, 2), (mm_X11_price, 3), (mm_X11_when, 2), (mm_X11_stationOf, 2), (mm_X11_isIn, 2), (mm_X11_tapAt, 2), (mm_X11_refusal, 5), (mm_X11_add, 3), (mm_X11_remove, 2), (mm_X11_tap, 5), (mm_X11_untap, 3), (mm_X11_told, 3), (mm_X11_mended, 2), (mm_X11_addRide, 5), (mm_X11_layRides, 1), (mm_X11_goesOn, 1), (mm_X11_isBusy, 1), (mm_X11_zoneOf, 1), (mm_X11_widthOf, 1), (mm_X11_layJourneys, 1), (mm_X11_ride, 3), (mm_X11_journey, 3), (mm_X11_weekAt, 1), (mm_X11_layDays, 1), (mm_X11_weekOf, 1), (mm_X11_isOfWeek, 1), (mm_X11_day, 3), (mm_X11_best, 2), (mm_X11_saved, 2), (mm_X11_would, 5), (mm_X11_bar, 2), (mm_X11_hear, 1), (mm_X11_pass, 2), (mm_X11_image, 1), (mm_X11_restore, 1), (mm_X11_lagging, 0), (mm_X11_allBest, 0), (mm_X11_count, 1)], _
  exact List.forall_mem_cons.mpr ⟨⟨_, wk_X0_init⟩, List.forall_mem_cons.mpr ⟨⟨_, wk_X0_number⟩, List.forall_mem_cons.mpr ⟨⟨_, wk_X0_barred⟩, List.forall_mem_cons.mpr ⟨⟨_, wk_X0_numberAt⟩, List.forall_mem_cons.mpr ⟨⟨_, wk_X0_isBarredAt⟩, List.forall_mem_cons.mpr ⟨⟨_, wk_X0_putBarred⟩, List.forall_mem_cons.mpr ⟨⟨_, wk_X0_bringTo⟩, List.forall_mem_cons.mpr ⟨⟨_, wk_X0_laggards⟩, List.forall_mem_cons.mpr ⟨⟨_, wk_X0_copyFrom⟩, List.forall_mem_cons.mpr ⟨⟨_, wk_X1_init⟩, List.forall_mem_cons.mpr ⟨⟨_, wk_X1_reckon⟩, List.forall_mem_cons.mpr ⟨⟨_, wk_X2_init⟩, List.forall_mem_cons.mpr ⟨⟨_, wk_X2_build⟩, List.forall_mem_cons.mpr ⟨⟨_, wk_X2_sum⟩, List.forall_mem_cons.mpr ⟨⟨_, wk_X2_width⟩, List.forall_mem_cons.mpr ⟨⟨_, wk_X2_owed⟩, List.forall_mem_cons.mpr ⟨⟨_, wk_X2_allSums⟩, List.forall_mem_cons.mpr ⟨⟨_, wk_X2_allOwed⟩, List.forall_mem_cons.mpr ⟨⟨_, wk_X2_widthOfWeek⟩, List.forall_mem_cons.mpr ⟨⟨_, wk_X3_init⟩, List.forall_mem_cons.mpr ⟨⟨_, wk_X3_build⟩, List.forall_mem_cons.mpr ⟨⟨_, wk_X3_open⟩, List.forall_mem_cons.mpr ⟨⟨_, wk_X3_takeRide⟩, List.forall_mem_cons.mpr ⟨⟨_, wk_X3_takeZone⟩, List.forall_mem_cons.mpr ⟨⟨_, wk_X3_size⟩, List.forall_mem_cons.mpr ⟨⟨_, wk_X3_moment⟩, List.forall_mem_cons.mpr ⟨⟨_, wk_X3_ridesIn⟩, List.forall_mem_cons.mpr ⟨⟨_, wk_X3_width⟩, List.forall_mem_cons.mpr ⟨⟨_, wk_X3_cost⟩, List.forall_mem_cons.mpr ⟨⟨_, wk_X3_journeyOfRide⟩, List.forall_mem_cons.mpr ⟨⟨_, wk_X4_init⟩, List.forall_mem_cons.mpr ⟨⟨_, wk_X4_build⟩, List.forall_mem_cons.mpr ⟨⟨_, wk_X4_weighWeek⟩, List.forall_mem_cons.mpr ⟨⟨_, wk_X4_markWeeks⟩, List.forall_mem_cons.mpr ⟨⟨_, wk_X4_cost⟩, List.forall_mem_cons.mpr ⟨⟨_, wk_X4_weeks⟩, List.forall_mem_cons.mpr ⟨⟨_, wk_X4_start⟩, List.forall_mem_cons.mpr ⟨⟨_, wk_X4_isInWeek⟩, List.forall_mem_cons.mpr ⟨⟨_, wk_X5_init⟩, List.forall_mem_cons.mpr ⟨⟨_, wk_X5_build⟩, List.forall_mem_cons.mpr ⟨⟨_, wk_X5_addWhole⟩, List.forall_mem_cons.mpr ⟨⟨_, wk_X5_addLacking⟩, List.forall_mem_cons.mpr ⟨⟨_, wk_X5_addRide⟩, List.forall_mem_cons.mpr ⟨⟨_, wk_X5_size⟩, List.forall_mem_cons.mpr ⟨⟨_, wk_X5_beginStation⟩, List.forall_mem_cons.mpr ⟨⟨_, wk_X5_endStation⟩, List.forall_mem_cons.mpr ⟨⟨_, wk_X5_beginMoment⟩, List.forall_mem_cons.mpr ⟨⟨_, wk_X5_kind⟩, List.forall_mem_cons.mpr ⟨⟨_, wk_X5_isLame⟩, List.forall_mem_cons.mpr ⟨⟨_, wk_X5_goesOn⟩, List.forall_mem_cons.mpr ⟨⟨_, wk_X6_init⟩, List.forall_mem_cons.mpr ⟨⟨_, wk_X6_at⟩, List.forall_mem_cons.mpr ⟨⟨_, wk_X6_put⟩, List.forall_mem_cons.mpr ⟨⟨_, wk_X6_add⟩, List.forall_mem_cons.mpr ⟨⟨_, wk_X6_fill⟩, List.forall_mem_cons.mpr ⟨⟨_, wk_X6_sum⟩, List.forall_mem_cons.mpr ⟨⟨_, wk_X6_copyFrom⟩, List.forall_mem_cons.mpr ⟨⟨_, wk_X7_init⟩, List.forall_mem_cons.mpr ⟨⟨_, wk_X7_tapsOf⟩, List.forall_mem_cons.mpr ⟨⟨_, wk_X7_copyFrom⟩, List.forall_mem_cons.mpr ⟨⟨_, wk_X8_init⟩, List.forall_mem_cons.mpr ⟨⟨_, wk_X8_size⟩, List.forall_mem_cons.mpr ⟨⟨_, wk_X8_moment⟩, List.forall_mem_cons.mpr ⟨⟨_, wk_X8_station⟩, List.forall_mem_cons.mpr ⟨⟨_, wk_X8_way⟩, List.forall_mem_cons.mpr ⟨⟨_, wk_X8_find⟩, List.forall_mem_cons.mpr ⟨⟨_, wk_X8_insert⟩, List.forall_mem_cons.mpr ⟨⟨_, wk_X8_remove⟩, List.forall_mem_cons.mpr ⟨⟨_, wk_X8_move⟩, List.forall_mem_cons.mpr ⟨⟨_, wk_X8_isWholeFrom⟩, List.forall_mem_cons.mpr ⟨⟨_, wk_X8_copyFrom⟩, List.forall_mem_cons.mpr ⟨⟨_, wk_X9_init⟩, List.forall_mem_cons.mpr ⟨⟨_, wk_X9_zoneOf⟩, List.forall_mem_cons.mpr ⟨⟨_, wk_X9_putZone⟩, List.forall_mem_cons.mpr ⟨⟨_, wk_X9_valueOf⟩, List.forall_mem_cons.mpr ⟨⟨_, wk_X9_putValue⟩, List.forall_mem_cons.mpr ⟨⟨_, wk_X9_near⟩, List.forall_mem_cons.mpr ⟨⟨_, wk_X9_journeyCost⟩, List.forall_mem_cons.mpr ⟨⟨_, wk_X9_capped⟩, List.forall_mem_cons.mpr ⟨⟨_, wk_X9_weekCost⟩, List.forall_mem_cons.mpr ⟨⟨_, wk_X9_copyFrom⟩, List.forall_mem_cons.mpr ⟨⟨_, wk_X10_init⟩, List.forall_mem_cons.mpr ⟨⟨_, wk_X10_zone⟩, List.forall_mem_cons.mpr ⟨⟨_, wk_X10_price⟩, List.forall_mem_cons.mpr ⟨⟨_, wk_X10_tap⟩, List.forall_mem_cons.mpr ⟨⟨_, wk_X10_untap⟩, List.forall_mem_cons.mpr ⟨⟨_, wk_X10_told⟩, List.forall_mem_cons.mpr ⟨⟨_, wk_X10_ride⟩, List.forall_mem_cons.mpr ⟨⟨_, wk_X10_journey⟩, List.forall_mem_cons.mpr ⟨⟨_, wk_X10_day⟩, List.forall_mem_cons.mpr ⟨⟨_, wk_X10_best⟩, List.forall_mem_cons.mpr ⟨⟨_, wk_X10_saved⟩, List.forall_mem_cons.mpr ⟨⟨_, wk_X10_would⟩, List.forall_mem_cons.mpr ⟨⟨_, wk_X10_bar⟩, List.forall_mem_cons.mpr ⟨⟨_, wk_X10_hear⟩, List.forall_mem_cons.mpr ⟨⟨_, wk_X10_pass⟩, List.forall_mem_cons.mpr ⟨⟨_, wk_X10_image⟩, List.forall_mem_cons.mpr ⟨⟨_, wk_X10_restore⟩, List.forall_mem_cons.mpr ⟨⟨_, wk_X10_count⟩, List.forall_mem_cons.mpr ⟨⟨_, wk_X10_refusalOfTap⟩, List.forall_mem_cons.mpr ⟨⟨_, wk_X10_refusalOfPart⟩, List.forall_mem_cons.mpr ⟨⟨_, wk_X10_reckon⟩, List.forall_mem_cons.mpr ⟨⟨_, wk_X10_costOfAllCards⟩, List.forall_mem_cons.mpr ⟨⟨_, wk_X10_imageOf⟩, List.forall_mem_cons.mpr ⟨⟨_, wk_X10_isWithin⟩, List.forall_mem_cons.mpr ⟨⟨_, wk_X10_isCard⟩, List.forall_mem_cons.mpr ⟨⟨_, wk_X10_isStation⟩, List.forall_mem_cons.mpr ⟨⟨_, wk_X10_isReader⟩, List.forall_mem_cons.mpr ⟨⟨_, wk_X10_isImage⟩, List.forall_mem_cons.mpr ⟨⟨_, wk_X10_isDay⟩, List.forall_mem_cons.mpr ⟨⟨_, wk_X10_isMinute⟩, List.forall_mem_cons.mpr ⟨⟨_, wk_X10_isWidth⟩, List.forall_mem_cons.mpr ⟨⟨_, wk_X10_isPrice⟩, List.forall_mem_cons.mpr ⟨⟨_, wk_X10_momentOf⟩, List.forall_mem_cons.mpr ⟨⟨_, wk_X10_dayOf⟩, List.forall_mem_cons.mpr ⟨⟨_, wk_X10_minuteOf⟩, List.forall_mem_cons.mpr ⟨⟨_, wk_X10_isBusy⟩, List.forall_mem_cons.mpr ⟨⟨_, wk_X11_init⟩, List.forall_mem_cons.mpr ⟨⟨_, wk_X11_in⟩, List.forall_mem_cons.mpr ⟨⟨_, wk_X11_isCard⟩, List.forall_mem_cons.mpr ⟨⟨_, wk_X11_isStation⟩, List.forall_mem_cons.mpr ⟨⟨_, wk_X11_isDay⟩, List.forall_mem_cons.mpr ⟨⟨_, wk_X11_zone⟩, List.forall_mem_cons.mpr ⟨⟨_, wk_X11_price⟩, List.forall_mem_cons.mpr ⟨⟨_, wk_X11_when⟩, List.forall_mem_cons.mpr ⟨⟨_, wk_X11_stationOf⟩, List.forall_mem_cons.mpr ⟨⟨_, wk_X11_isIn⟩, List.forall_mem_cons.mpr ⟨⟨_, wk_X11_tapAt⟩, List.forall_mem_cons.mpr ⟨⟨_, wk_X11_refusal⟩, List.forall_mem_cons.mpr ⟨⟨_, wk_X11_add⟩, List.forall_mem_cons.mpr ⟨⟨_, wk_X11_remove⟩, List.forall_mem_cons.mpr ⟨⟨_, wk_X11_tap⟩, List.forall_mem_cons.mpr ⟨⟨_, wk_X11_untap⟩, List.forall_mem_cons.mpr ⟨⟨_, wk_X11_told⟩, List.forall_mem_cons.mpr ⟨⟨_, wk_X11_mended⟩, List.forall_mem_cons.mpr ⟨⟨_, wk_X11_addRide⟩, List.forall_mem_cons.mpr ⟨⟨_, wk_X11_layRides⟩, List.forall_mem_cons.mpr ⟨⟨_, wk_X11_goesOn⟩, List.forall_mem_cons.mpr ⟨⟨_, wk_X11_isBusy⟩, List.forall_mem_cons.mpr ⟨⟨_, wk_X11_zoneOf⟩, List.forall_mem_cons.mpr ⟨⟨_, wk_X11_widthOf⟩, List.forall_mem_cons.mpr ⟨⟨_, wk_X11_layJourneys⟩, List.forall_mem_cons.mpr ⟨⟨_, wk_X11_ride⟩, List.forall_mem_cons.mpr ⟨⟨_, wk_X11_journey⟩, List.forall_mem_cons.mpr ⟨⟨_, wk_X11_weekAt⟩, List.forall_mem_cons.mpr ⟨⟨_, wk_X11_layDays⟩, List.forall_mem_cons.mpr ⟨⟨_, wk_X11_weekOf⟩, List.forall_mem_cons.mpr ⟨⟨_, wk_X11_isOfWeek⟩, List.forall_mem_cons.mpr ⟨⟨_, wk_X11_day⟩, List.forall_mem_cons.mpr ⟨⟨_, wk_X11_best⟩, List.forall_mem_cons.mpr ⟨⟨_, wk_X11_saved⟩, List.forall_mem_cons.mpr ⟨⟨_, wk_X11_would⟩, List.forall_mem_cons.mpr ⟨⟨_, wk_X11_bar⟩, List.forall_mem_cons.mpr ⟨⟨_, wk_X11_hear⟩, List.forall_mem_cons.mpr ⟨⟨_, wk_X11_pass⟩, List.forall_mem_cons.mpr ⟨⟨_, wk_X11_image⟩, List.forall_mem_cons.mpr ⟨⟨_, wk_X11_restore⟩, List.forall_mem_cons.mpr ⟨⟨_, wk_X11_lagging⟩, List.forall_mem_cons.mpr ⟨⟨_, wk_X11_allBest⟩, List.forall_mem_cons.mpr ⟨⟨_, wk_X11_count⟩, fun _ h => absurd h List.not_mem_nil⟩⟩⟩⟩⟩⟩⟩⟩⟩⟩⟩⟩⟩⟩⟩⟩⟩⟩⟩⟩⟩⟩⟩⟩⟩⟩⟩⟩⟩⟩⟩⟩⟩⟩⟩⟩⟩⟩⟩⟩⟩⟩⟩⟩⟩⟩⟩⟩⟩⟩⟩⟩⟩⟩⟩⟩⟩⟩⟩⟩⟩⟩⟩⟩⟩⟩⟩⟩⟩⟩⟩⟩⟩⟩⟩⟩⟩⟩⟩⟩⟩⟩⟩⟩⟩⟩⟩⟩⟩⟩⟩⟩⟩⟩⟩⟩⟩⟩⟩⟩⟩⟩⟩⟩⟩⟩⟩⟩⟩⟩⟩⟩⟩⟩⟩⟩⟩⟩⟩⟩⟩⟩⟩⟩⟩⟩⟩⟩⟩⟩⟩⟩⟩⟩⟩⟩⟩⟩⟩⟩⟩⟩⟩⟩⟩⟩⟩⟩⟩⟩⟩⟩⟩⟩⟩⟩⟩⟩⟩⟩
theorem ck_X0_init : mz_chkC 0 2 prog_2_method_1_code co_X0_init = true := by decide +kernel
theorem ck_X0_number : mz_chkC 0 0 prog_2_method_2_code co_X0_number = true := by decide +kernel
theorem ck_X0_barred : mz_chkC 0 0 prog_2_method_3_code co_X0_barred = true := by decide +kernel
theorem ck_X0_numberAt : mz_chkC 0 0 prog_2_method_4_code co_X0_numberAt = true := by decide +kernel
theorem ck_X0_isBarredAt : mz_chkC 0 0 prog_2_method_5_code co_X0_isBarredAt = true := by decide +kernel
theorem ck_X0_putBarred : mz_chkC 0 0 prog_2_method_6_code co_X0_putBarred = true := by decide +kernel
theorem ck_X0_bringTo : mz_chkC 0 0 prog_2_method_7_code co_X0_bringTo = true := by decide +kernel
theorem ck_X0_laggards : mz_chkC 0 0 prog_2_method_8_code co_X0_laggards = true := by decide +kernel
theorem ck_X0_copyFrom : mz_chkC 0 0 prog_2_method_9_code co_X0_copyFrom = true := by decide +kernel
theorem ck_X1_init : mz_chkC 1 2 prog_3_method_1_code co_X1_init = true := by decide +kernel
theorem ck_X1_reckon : mz_chkC 1 0 prog_3_method_2_code co_X1_reckon = true := by decide +kernel
theorem ck_X2_init : mz_chkC 2 2 prog_4_method_1_code co_X2_init = true := by decide +kernel
theorem ck_X2_build : mz_chkC 2 0 prog_4_method_2_code co_X2_build = true := by decide +kernel
theorem ck_X2_sum : mz_chkC 2 0 prog_4_method_3_code co_X2_sum = true := by decide +kernel
theorem ck_X2_width : mz_chkC 2 0 prog_4_method_4_code co_X2_width = true := by decide +kernel
theorem ck_X2_owed : mz_chkC 2 0 prog_4_method_5_code co_X2_owed = true := by decide +kernel
theorem ck_X2_allSums : mz_chkC 2 0 prog_4_method_6_code co_X2_allSums = true := by decide +kernel
theorem ck_X2_allOwed : mz_chkC 2 0 prog_4_method_7_code co_X2_allOwed = true := by decide +kernel
theorem ck_X2_widthOfWeek : mz_chkC 2 0 prog_4_method_8_code co_X2_widthOfWeek = true := by decide +kernel
theorem ck_X3_init : mz_chkC 3 2 prog_5_method_1_code co_X3_init = true := by decide +kernel
theorem ck_X3_build : mz_chkC 3 0 prog_5_method_2_code co_X3_build = true := by decide +kernel
theorem ck_X3_open : mz_chkC 3 0 prog_5_method_3_code co_X3_open = true := by decide +kernel
theorem ck_X3_takeRide : mz_chkC 3 0 prog_5_method_4_code co_X3_takeRide = true := by decide +kernel
theorem ck_X3_takeZone : mz_chkC 3 0 prog_5_method_5_code co_X3_takeZone = true := by decide +kernel
theorem ck_X3_size : mz_chkC 3 0 prog_5_method_6_code co_X3_size = true := by decide +kernel
theorem ck_X3_moment : mz_chkC 3 0 prog_5_method_7_code co_X3_moment = true := by decide +kernel
theorem ck_X3_ridesIn : mz_chkC 3 0 prog_5_method_8_code co_X3_ridesIn = true := by decide +kernel
theorem ck_X3_width : mz_chkC 3 0 prog_5_method_9_code co_X3_width = true := by decide +kernel
theorem ck_X3_cost : mz_chkC 3 0 prog_5_method_10_code co_X3_cost = true := by decide +kernel
theorem ck_X3_journeyOfRide : mz_chkC 3 0 prog_5_method_11_code co_X3_journeyOfRide = true := by decide +kernel
theorem ck_X4_init : mz_chkC 4 2 prog_6_method_1_code co_X4_init = true := by decide +kernel
theorem ck_X4_build : mz_chkC 4 0 prog_6_method_2_code co_X4_build = true := by decide +kernel
theorem ck_X4_weighWeek : mz_chkC 4 0 prog_6_method_3_code co_X4_weighWeek = true := by decide +kernel
theorem ck_X4_markWeeks : mz_chkC 4 0 prog_6_method_4_code co_X4_markWeeks = true := by decide +kernel
theorem ck_X4_cost : mz_chkC 4 0 prog_6_method_5_code co_X4_cost = true := by decide +kernel
theorem ck_X4_weeks : mz_chkC 4 0 prog_6_method_6_code co_X4_weeks = true := by decide +kernel
theorem ck_X4_start : mz_chkC 4 0 prog_6_method_7_code co_X4_start = true := by decide +kernel
theorem ck_X4_isInWeek : mz_chkC 4 0 prog_6_method_8_code co_X4_isInWeek = true := by decide +kernel
theorem ck_X5_init : mz_chkC 5 2 prog_7_method_1_code co_X5_init = true := by decide +kernel
theorem ck_X5_build : mz_chkC 5 0 prog_7_method_2_code co_X5_build = true := by decide +kernel
theorem ck_X5_addWhole : mz_chkC 5 0 prog_7_method_3_code co_X5_addWhole = true := by decide +kernel
theorem ck_X5_addLacking : mz_chkC 5 0 prog_7_method_4_code co_X5_addLacking = true := by decide +kernel
theorem ck_X5_addRide : mz_chkC 5 0 prog_7_method_5_code co_X5_addRide = true := by decide +kernel
theorem ck_X5_size : mz_chkC 5 0 prog_7_method_6_code co_X5_size = true := by decide +kernel
theorem ck_X5_beginStation : mz_chkC 5 0 prog_7_method_7_code co_X5_beginStation = true := by decide +kernel
theorem ck_X5_endStation : mz_chkC 5 0 prog_7_method_8_code co_X5_endStation = true := by decide +kernel
theorem ck_X5_beginMoment : mz_chkC 5 0 prog_7_method_9_code co_X5_beginMoment = true := by decide +kernel
theorem ck_X5_kind : mz_chkC 5 0 prog_7_method_10_code co_X5_kind = true := by decide +kernel
theorem ck_X5_isLame : mz_chkC 5 0 prog_7_method_11_code co_X5_isLame = true := by decide +kernel
theorem ck_X5_goesOn : mz_chkC 5 0 prog_7_method_12_code co_X5_goesOn = true := by decide +kernel
theorem ck_X6_init : mz_chkC 6 2 prog_8_method_1_code co_X6_init = true := by decide +kernel
theorem ck_X6_at : mz_chkC 6 0 prog_8_method_2_code co_X6_at = true := by decide +kernel
theorem ck_X6_put : mz_chkC 6 0 prog_8_method_3_code co_X6_put = true := by decide +kernel
theorem ck_X6_add : mz_chkC 6 0 prog_8_method_4_code co_X6_add = true := by decide +kernel
theorem ck_X6_fill : mz_chkC 6 0 prog_8_method_5_code co_X6_fill = true := by decide +kernel
theorem ck_X6_sum : mz_chkC 6 0 prog_8_method_6_code co_X6_sum = true := by decide +kernel
theorem ck_X6_copyFrom : mz_chkC 6 0 prog_8_method_7_code co_X6_copyFrom = true := by decide +kernel
theorem ck_X7_init : mz_chkC 7 2 prog_9_method_1_code co_X7_init = true := by decide +kernel
theorem ck_X7_tapsOf : mz_chkC 7 0 prog_9_method_2_code co_X7_tapsOf = true := by decide +kernel
theorem ck_X7_copyFrom : mz_chkC 7 0 prog_9_method_3_code co_X7_copyFrom = true := by decide +kernel
theorem ck_X8_init : mz_chkC 8 2 prog_10_method_1_code co_X8_init = true := by decide +kernel
theorem ck_X8_size : mz_chkC 8 0 prog_10_method_2_code co_X8_size = true := by decide +kernel
theorem ck_X8_moment : mz_chkC 8 0 prog_10_method_3_code co_X8_moment = true := by decide +kernel
theorem ck_X8_station : mz_chkC 8 0 prog_10_method_4_code co_X8_station = true := by decide +kernel
theorem ck_X8_way : mz_chkC 8 0 prog_10_method_5_code co_X8_way = true := by decide +kernel
theorem ck_X8_find : mz_chkC 8 0 prog_10_method_6_code co_X8_find = true := by decide +kernel
theorem ck_X8_insert : mz_chkC 8 0 prog_10_method_7_code co_X8_insert = true := by decide +kernel
theorem ck_X8_remove : mz_chkC 8 0 prog_10_method_8_code co_X8_remove = true := by decide +kernel
theorem ck_X8_move : mz_chkC 8 0 prog_10_method_9_code co_X8_move = true := by decide +kernel
theorem ck_X8_isWholeFrom : mz_chkC 8 0 prog_10_method_10_code co_X8_isWholeFrom = true := by decide +kernel
theorem ck_X8_copyFrom : mz_chkC 8 0 prog_10_method_11_code co_X8_copyFrom = true := by decide +kernel
theorem ck_X9_init : mz_chkC 9 2 prog_11_method_1_code co_X9_init = true := by decide +kernel
theorem ck_X9_zoneOf : mz_chkC 9 0 prog_11_method_2_code co_X9_zoneOf = true := by decide +kernel
theorem ck_X9_putZone : mz_chkC 9 0 prog_11_method_3_code co_X9_putZone = true := by decide +kernel
theorem ck_X9_valueOf : mz_chkC 9 0 prog_11_method_4_code co_X9_valueOf = true := by decide +kernel
theorem ck_X9_putValue : mz_chkC 9 0 prog_11_method_5_code co_X9_putValue = true := by decide +kernel
theorem ck_X9_near : mz_chkC 9 0 prog_11_method_6_code co_X9_near = true := by decide +kernel
theorem ck_X9_journeyCost : mz_chkC 9 0 prog_11_method_7_code co_X9_journeyCost = true := by decide +kernel
theorem ck_X9_capped : mz_chkC 9 0 prog_11_method_8_code co_X9_capped = true := by decide +kernel
theorem ck_X9_weekCost : mz_chkC 9 0 prog_11_method_9_code co_X9_weekCost = true := by decide +kernel
theorem ck_X9_copyFrom : mz_chkC 9 0 prog_11_method_10_code co_X9_copyFrom = true := by decide +kernel
theorem ck_X10_init : mz_chkC 10 2 prog_1_method_1_code co_X10_init = true := by decide +kernel
theorem ck_X10_zone : mz_chkC 10 0 prog_1_method_2_code co_X10_zone = true := by decide +kernel
theorem ck_X10_price : mz_chkC 10 0 prog_1_method_3_code co_X10_price = true := by decide +kernel
theorem ck_X10_tap : mz_chkC 10 0 prog_1_method_4_code co_X10_tap = true := by decide +kernel
theorem ck_X10_untap : mz_chkC 10 0 prog_1_method_5_code co_X10_untap = true := by decide +kernel
theorem ck_X10_told : mz_chkC 10 0 prog_1_method_6_code co_X10_told = true := by decide +kernel
theorem ck_X10_ride : mz_chkC 10 0 prog_1_method_7_code co_X10_ride = true := by decide +kernel
theorem ck_X10_journey : mz_chkC 10 0 prog_1_method_8_code co_X10_journey = true := by decide +kernel
theorem ck_X10_day : mz_chkC 10 0 prog_1_method_9_code co_X10_day = true := by decide +kernel
theorem ck_X10_best : mz_chkC 10 0 prog_1_method_10_code co_X10_best = true := by decide +kernel
theorem ck_X10_saved : mz_chkC 10 0 prog_1_method_11_code co_X10_saved = true := by decide +kernel
theorem ck_X10_would : mz_chkC 10 0 prog_1_method_12_code co_X10_would = true := by decide +kernel
theorem ck_X10_bar : mz_chkC 10 0 prog_1_method_13_code co_X10_bar = true := by decide +kernel
theorem ck_X10_hear : mz_chkC 10 0 prog_1_method_14_code co_X10_hear = true := by decide +kernel
theorem ck_X10_pass : mz_chkC 10 0 prog_1_method_15_code co_X10_pass = true := by decide +kernel
theorem ck_X10_image : mz_chkC 10 0 prog_1_method_16_code co_X10_image = true := by decide +kernel
theorem ck_X10_restore : mz_chkC 10 0 prog_1_method_17_code co_X10_restore = true := by decide +kernel
theorem ck_X10_count : mz_chkC 10 0 prog_1_method_18_code co_X10_count = true := by decide +kernel
theorem ck_X10_refusalOfTap : mz_chkC 10 0 prog_1_method_19_code co_X10_refusalOfTap = true := by decide +kernel
theorem ck_X10_refusalOfPart : mz_chkC 10 1 prog_1_method_20_code co_X10_refusalOfPart = true := by decide +kernel
theorem ck_X10_reckon : mz_chkC 10 0 prog_1_method_21_code co_X10_reckon = true := by decide +kernel
theorem ck_X10_costOfAllCards : mz_chkC 10 0 prog_1_method_22_code co_X10_costOfAllCards = true := by decide +kernel
theorem ck_X10_imageOf : mz_chkC 10 0 prog_1_method_23_code co_X10_imageOf = true := by decide +kernel
theorem ck_X10_isWithin : mz_chkC 10 1 prog_1_method_24_code co_X10_isWithin = true := by decide +kernel
theorem ck_X10_isCard : mz_chkC 10 1 prog_1_method_25_code co_X10_isCard = true := by decide +kernel
theorem ck_X10_isStation : mz_chkC 10 1 prog_1_method_26_code co_X10_isStation = true := by decide +kernel
theorem ck_X10_isReader : mz_chkC 10 1 prog_1_method_27_code co_X10_isReader = true := by decide +kernel
theorem ck_X10_isImage : mz_chkC 10 1 prog_1_method_28_code co_X10_isImage = true := by decide +kernel
theorem ck_X10_isDay : mz_chkC 10 1 prog_1_method_29_code co_X10_isDay = true := by decide +kernel
theorem ck_X10_isMinute : mz_chkC 10 1 prog_1_method_30_code co_X10_isMinute = true := by decide +kernel
theorem ck_X10_isWidth : mz_chkC 10 1 prog_1_method_31_code co_X10_isWidth = true := by decide +kernel
theorem ck_X10_isPrice : mz_chkC 10 1 prog_1_method_32_code co_X10_isPrice = true := by decide +kernel
theorem ck_X10_momentOf : mz_chkC 10 1 prog_1_method_33_code co_X10_momentOf = true := by decide +kernel
theorem ck_X10_dayOf : mz_chkC 10 1 prog_1_method_34_code co_X10_dayOf = true := by decide +kernel
theorem ck_X10_minuteOf : mz_chkC 10 1 prog_1_method_35_code co_X10_minuteOf = true := by decide +kernel
theorem ck_X10_isBusy : mz_chkC 10 1 prog_1_method_36_code co_X10_isBusy = true := by decide +kernel
theorem ck_X11_init : mz_chkC 11 2 prog_13_method_1_code co_X11_init = true := by decide +kernel
theorem ck_X11_in : mz_chkC 11 1 prog_13_method_2_code co_X11_in = true := by decide +kernel
theorem ck_X11_isCard : mz_chkC 11 1 prog_13_method_3_code co_X11_isCard = true := by decide +kernel
theorem ck_X11_isStation : mz_chkC 11 1 prog_13_method_4_code co_X11_isStation = true := by decide +kernel
theorem ck_X11_isDay : mz_chkC 11 1 prog_13_method_5_code co_X11_isDay = true := by decide +kernel
theorem ck_X11_zone : mz_chkC 11 0 prog_13_method_6_code co_X11_zone = true := by decide +kernel
theorem ck_X11_price : mz_chkC 11 0 prog_13_method_7_code co_X11_price = true := by decide +kernel
theorem ck_X11_when : mz_chkC 11 0 prog_13_method_8_code co_X11_when = true := by decide +kernel
theorem ck_X11_stationOf : mz_chkC 11 0 prog_13_method_9_code co_X11_stationOf = true := by decide +kernel
theorem ck_X11_isIn : mz_chkC 11 0 prog_13_method_10_code co_X11_isIn = true := by decide +kernel
theorem ck_X11_tapAt : mz_chkC 11 0 prog_13_method_11_code co_X11_tapAt = true := by decide +kernel
theorem ck_X11_refusal : mz_chkC 11 0 prog_13_method_12_code co_X11_refusal = true := by decide +kernel
theorem ck_X11_add : mz_chkC 11 0 prog_13_method_13_code co_X11_add = true := by decide +kernel
theorem ck_X11_remove : mz_chkC 11 0 prog_13_method_14_code co_X11_remove = true := by decide +kernel
theorem ck_X11_tap : mz_chkC 11 0 prog_13_method_15_code co_X11_tap = true := by decide +kernel
theorem ck_X11_untap : mz_chkC 11 0 prog_13_method_16_code co_X11_untap = true := by decide +kernel
theorem ck_X11_told : mz_chkC 11 0 prog_13_method_17_code co_X11_told = true := by decide +kernel
theorem ck_X11_mended : mz_chkC 11 0 prog_13_method_18_code co_X11_mended = true := by decide +kernel
theorem ck_X11_addRide : mz_chkC 11 0 prog_13_method_19_code co_X11_addRide = true := by decide +kernel
theorem ck_X11_layRides : mz_chkC 11 0 prog_13_method_20_code co_X11_layRides = true := by decide +kernel
theorem ck_X11_goesOn : mz_chkC 11 0 prog_13_method_21_code co_X11_goesOn = true := by decide +kernel
theorem ck_X11_isBusy : mz_chkC 11 1 prog_13_method_22_code co_X11_isBusy = true := by decide +kernel
theorem ck_X11_zoneOf : mz_chkC 11 0 prog_13_method_23_code co_X11_zoneOf = true := by decide +kernel
theorem ck_X11_widthOf : mz_chkC 11 0 prog_13_method_24_code co_X11_widthOf = true := by decide +kernel
theorem ck_X11_layJourneys : mz_chkC 11 0 prog_13_method_25_code co_X11_layJourneys = true := by decide +kernel
theorem ck_X11_ride : mz_chkC 11 0 prog_13_method_26_code co_X11_ride = true := by decide +kernel
theorem ck_X11_journey : mz_chkC 11 0 prog_13_method_27_code co_X11_journey = true := by decide +kernel
theorem ck_X11_weekAt : mz_chkC 11 0 prog_13_method_28_code co_X11_weekAt = true := by decide +kernel
theorem ck_X11_layDays : mz_chkC 11 0 prog_13_method_29_code co_X11_layDays = true := by decide +kernel
theorem ck_X11_weekOf : mz_chkC 11 0 prog_13_method_30_code co_X11_weekOf = true := by decide +kernel
theorem ck_X11_isOfWeek : mz_chkC 11 0 prog_13_method_31_code co_X11_isOfWeek = true := by decide +kernel
theorem ck_X11_day : mz_chkC 11 0 prog_13_method_32_code co_X11_day = true := by decide +kernel
theorem ck_X11_best : mz_chkC 11 0 prog_13_method_33_code co_X11_best = true := by decide +kernel
theorem ck_X11_saved : mz_chkC 11 0 prog_13_method_34_code co_X11_saved = true := by decide +kernel
theorem ck_X11_would : mz_chkC 11 0 prog_13_method_35_code co_X11_would = true := by decide +kernel
theorem ck_X11_bar : mz_chkC 11 0 prog_13_method_36_code co_X11_bar = true := by decide +kernel
theorem ck_X11_hear : mz_chkC 11 0 prog_13_method_37_code co_X11_hear = true := by decide +kernel
theorem ck_X11_pass : mz_chkC 11 0 prog_13_method_38_code co_X11_pass = true := by decide +kernel
theorem ck_X11_image : mz_chkC 11 0 prog_13_method_39_code co_X11_image = true := by decide +kernel
theorem ck_X11_restore : mz_chkC 11 0 prog_13_method_40_code co_X11_restore = true := by decide +kernel
theorem ck_X11_lagging : mz_chkC 11 0 prog_13_method_41_code co_X11_lagging = true := by decide +kernel
theorem ck_X11_allBest : mz_chkC 11 0 prog_13_method_42_code co_X11_allBest = true := by decide +kernel
theorem ck_X11_count : mz_chkC 11 0 prog_13_method_43_code co_X11_count = true := by decide +kernel
set_option maxRecDepth 20000 in
theorem mz_Cok : ∀ M ∈ mz_tab, mz_chkC M.2.2.2.2.1 M.2.2.2.2.2.1 M.2.1 M.2.2.2.2.2.2 = true := by
  unfold mz_tab
  exact List.forall_mem_cons.mpr ⟨ck_X0_init, List.forall_mem_cons.mpr ⟨ck_X0_number, List.forall_mem_cons.mpr ⟨ck_X0_barred, List.forall_mem_cons.mpr ⟨ck_X0_numberAt, List.forall_mem_cons.mpr ⟨ck_X0_isBarredAt, List.forall_mem_cons.mpr ⟨ck_X0_putBarred, List.forall_mem_cons.mpr ⟨ck_X0_bringTo, List.forall_mem_cons.mpr ⟨ck_X0_laggards, List.forall_mem_cons.mpr ⟨ck_X0_copyFrom, List.forall_mem_cons.mpr ⟨ck_X1_init, List.forall_mem_cons.mpr ⟨ck_X1_reckon, List.forall_mem_cons.mpr ⟨ck_X2_init, List.forall_mem_cons.mpr ⟨ck_X2_build, List.forall_mem_cons.mpr ⟨ck_X2_sum, List.forall_mem_cons.mpr ⟨ck_X2_width, List.forall_mem_cons.mpr ⟨ck_X2_owed, List.forall_mem_cons.mpr ⟨ck_X2_allSums, List.forall_mem_cons.mpr ⟨ck_X2_allOwed, List.forall_mem_cons.mpr ⟨ck_X2_widthOfWeek, List.forall_mem_cons.mpr ⟨ck_X3_init, List.forall_mem_cons.mpr ⟨ck_X3_build, List.forall_mem_cons.mpr ⟨ck_X3_open, List.forall_mem_cons.mpr ⟨ck_X3_takeRide, List.forall_mem_cons.mpr ⟨ck_X3_takeZone, List.forall_mem_cons.mpr ⟨ck_X3_size, List.forall_mem_cons.mpr ⟨ck_X3_moment, List.forall_mem_cons.mpr ⟨ck_X3_ridesIn, List.forall_mem_cons.mpr ⟨ck_X3_width, List.forall_mem_cons.mpr ⟨ck_X3_cost, List.forall_mem_cons.mpr ⟨ck_X3_journeyOfRide, List.forall_mem_cons.mpr ⟨ck_X4_init, List.forall_mem_cons.mpr ⟨ck_X4_build, List.forall_mem_cons.mpr ⟨ck_X4_weighWeek, List.forall_mem_cons.mpr ⟨ck_X4_markWeeks, List.forall_mem_cons.mpr ⟨ck_X4_cost, List.forall_mem_cons.mpr ⟨ck_X4_weeks, List.forall_mem_cons.mpr ⟨ck_X4_start, List.forall_mem_cons.mpr ⟨ck_X4_isInWeek, List.forall_mem_cons.mpr ⟨ck_X5_init, List.forall_mem_cons.mpr ⟨ck_X5_build, List.forall_mem_cons.mpr ⟨ck_X5_addWhole, List.forall_mem_cons.mpr ⟨ck_X5_addLacking, List.forall_mem_cons.mpr ⟨ck_X5_addRide, List.forall_mem_cons.mpr ⟨ck_X5_size, List.forall_mem_cons.mpr ⟨ck_X5_beginStation, List.forall_mem_cons.mpr ⟨ck_X5_endStation, List.forall_mem_cons.mpr ⟨ck_X5_beginMoment, List.forall_mem_cons.mpr ⟨ck_X5_kind, List.forall_mem_cons.mpr ⟨ck_X5_isLame, List.forall_mem_cons.mpr ⟨ck_X5_goesOn, List.forall_mem_cons.mpr ⟨ck_X6_init, List.forall_mem_cons.mpr ⟨ck_X6_at, List.forall_mem_cons.mpr ⟨ck_X6_put, List.forall_mem_cons.mpr ⟨ck_X6_add, List.forall_mem_cons.mpr ⟨ck_X6_fill, List.forall_mem_cons.mpr ⟨ck_X6_sum, List.forall_mem_cons.mpr ⟨ck_X6_copyFrom, List.forall_mem_cons.mpr ⟨ck_X7_init, List.forall_mem_cons.mpr ⟨ck_X7_tapsOf, List.forall_mem_cons.mpr ⟨ck_X7_copyFrom, List.forall_mem_cons.mpr ⟨ck_X8_init, List.forall_mem_cons.mpr ⟨ck_X8_size, List.forall_mem_cons.mpr ⟨ck_X8_moment, List.forall_mem_cons.mpr ⟨ck_X8_station, List.forall_mem_cons.mpr ⟨ck_X8_way, List.forall_mem_cons.mpr ⟨ck_X8_find, List.forall_mem_cons.mpr ⟨ck_X8_insert, List.forall_mem_cons.mpr ⟨ck_X8_remove, List.forall_mem_cons.mpr ⟨ck_X8_move, List.forall_mem_cons.mpr ⟨ck_X8_isWholeFrom, List.forall_mem_cons.mpr ⟨ck_X8_copyFrom, List.forall_mem_cons.mpr ⟨ck_X9_init, List.forall_mem_cons.mpr ⟨ck_X9_zoneOf, List.forall_mem_cons.mpr ⟨ck_X9_putZone, List.forall_mem_cons.mpr ⟨ck_X9_valueOf, List.forall_mem_cons.mpr ⟨ck_X9_putValue, List.forall_mem_cons.mpr ⟨ck_X9_near, List.forall_mem_cons.mpr ⟨ck_X9_journeyCost, List.forall_mem_cons.mpr ⟨ck_X9_capped, List.forall_mem_cons.mpr ⟨ck_X9_weekCost, List.forall_mem_cons.mpr ⟨ck_X9_copyFrom, List.forall_mem_cons.mpr ⟨ck_X10_init, List.forall_mem_cons.mpr ⟨ck_X10_zone, List.forall_mem_cons.mpr ⟨ck_X10_price, List.forall_mem_cons.mpr ⟨ck_X10_tap, List.forall_mem_cons.mpr ⟨ck_X10_untap, List.forall_mem_cons.mpr ⟨ck_X10_told, List.forall_mem_cons.mpr ⟨ck_X10_ride, List.forall_mem_cons.mpr ⟨ck_X10_journey, List.forall_mem_cons.mpr ⟨ck_X10_day, List.forall_mem_cons.mpr ⟨ck_X10_best, List.forall_mem_cons.mpr ⟨ck_X10_saved, List.forall_mem_cons.mpr ⟨ck_X10_would, List.forall_mem_cons.mpr ⟨ck_X10_bar, List.forall_mem_cons.mpr ⟨ck_X10_hear, List.forall_mem_cons.mpr ⟨ck_X10_pass, List.forall_mem_cons.mpr ⟨ck_X10_image, List.forall_mem_cons.mpr ⟨ck_X10_restore, List.forall_mem_cons.mpr ⟨ck_X10_count, List.forall_mem_cons.mpr ⟨ck_X10_refusalOfTap, List.forall_mem_cons.mpr ⟨ck_X10_refusalOfPart, List.forall_mem_cons.mpr ⟨ck_X10_reckon, List.forall_mem_cons.mpr ⟨ck_X10_costOfAllCards, List.forall_mem_cons.mpr ⟨ck_X10_imageOf, List.forall_mem_cons.mpr ⟨ck_X10_isWithin, List.forall_mem_cons.mpr ⟨ck_X10_isCard, List.forall_mem_cons.mpr ⟨ck_X10_isStation, List.forall_mem_cons.mpr ⟨ck_X10_isReader, List.forall_mem_cons.mpr ⟨ck_X10_isImage, List.forall_mem_cons.mpr ⟨ck_X10_isDay, List.forall_mem_cons.mpr ⟨ck_X10_isMinute, List.forall_mem_cons.mpr ⟨ck_X10_isWidth, List.forall_mem_cons.mpr ⟨ck_X10_isPrice, List.forall_mem_cons.mpr ⟨ck_X10_momentOf, List.forall_mem_cons.mpr ⟨ck_X10_dayOf, List.forall_mem_cons.mpr ⟨ck_X10_minuteOf, List.forall_mem_cons.mpr ⟨ck_X10_isBusy, List.forall_mem_cons.mpr ⟨ck_X11_init, List.forall_mem_cons.mpr ⟨ck_X11_in, List.forall_mem_cons.mpr ⟨ck_X11_isCard, List.forall_mem_cons.mpr ⟨ck_X11_isStation, List.forall_mem_cons.mpr ⟨ck_X11_isDay, List.forall_mem_cons.mpr ⟨ck_X11_zone, List.forall_mem_cons.mpr ⟨ck_X11_price, List.forall_mem_cons.mpr ⟨ck_X11_when, List.forall_mem_cons.mpr ⟨ck_X11_stationOf, List.forall_mem_cons.mpr ⟨ck_X11_isIn, List.forall_mem_cons.mpr ⟨ck_X11_tapAt, List.forall_mem_cons.mpr ⟨ck_X11_refusal, List.forall_mem_cons.mpr ⟨ck_X11_add, List.forall_mem_cons.mpr ⟨ck_X11_remove, List.forall_mem_cons.mpr ⟨ck_X11_tap, List.forall_mem_cons.mpr ⟨ck_X11_untap, List.forall_mem_cons.mpr ⟨ck_X11_told, List.forall_mem_cons.mpr ⟨ck_X11_mended, List.forall_mem_cons.mpr ⟨ck_X11_addRide, List.forall_mem_cons.mpr ⟨ck_X11_layRides, List.forall_mem_cons.mpr ⟨ck_X11_goesOn, List.forall_mem_cons.mpr ⟨ck_X11_isBusy, List.forall_mem_cons.mpr ⟨ck_X11_zoneOf, List.forall_mem_cons.mpr ⟨ck_X11_widthOf, List.forall_mem_cons.mpr ⟨ck_X11_layJourneys, List.forall_mem_cons.mpr ⟨ck_X11_ride, List.forall_mem_cons.mpr ⟨ck_X11_journey, List.forall_mem_cons.mpr ⟨ck_X11_weekAt, List.forall_mem_cons.mpr ⟨ck_X11_layDays, List.forall_mem_cons.mpr ⟨ck_X11_weekOf, List.forall_mem_cons.mpr ⟨ck_X11_isOfWeek, List.forall_mem_cons.mpr ⟨ck_X11_day, List.forall_mem_cons.mpr ⟨ck_X11_best, List.forall_mem_cons.mpr ⟨ck_X11_saved, List.forall_mem_cons.mpr ⟨ck_X11_would, List.forall_mem_cons.mpr ⟨ck_X11_bar, List.forall_mem_cons.mpr ⟨ck_X11_hear, List.forall_mem_cons.mpr ⟨ck_X11_pass, List.forall_mem_cons.mpr ⟨ck_X11_image, List.forall_mem_cons.mpr ⟨ck_X11_restore, List.forall_mem_cons.mpr ⟨ck_X11_lagging, List.forall_mem_cons.mpr ⟨ck_X11_allBest, List.forall_mem_cons.mpr ⟨ck_X11_count, fun _ h => absurd h List.not_mem_nil⟩⟩⟩⟩⟩⟩⟩⟩⟩⟩⟩⟩⟩⟩⟩⟩⟩⟩⟩⟩⟩⟩⟩⟩⟩⟩⟩⟩⟩⟩⟩⟩⟩⟩⟩⟩⟩⟩⟩⟩⟩⟩⟩⟩⟩⟩⟩⟩⟩⟩⟩⟩⟩⟩⟩⟩⟩⟩⟩⟩⟩⟩⟩⟩⟩⟩⟩⟩⟩⟩⟩⟩⟩⟩⟩⟩⟩⟩⟩⟩⟩⟩⟩⟩⟩⟩⟩⟩⟩⟩⟩⟩⟩⟩⟩⟩⟩⟩⟩⟩⟩⟩⟩⟩⟩⟩⟩⟩⟩⟩⟩⟩⟩⟩⟩⟩⟩⟩⟩⟩⟩⟩⟩⟩⟩⟩⟩⟩⟩⟩⟩⟩⟩⟩⟩⟩⟩⟩⟩⟩⟩⟩⟩⟩⟩⟩⟩⟩⟩⟩⟩⟩⟩⟩⟩⟩⟩⟩⟩⟩
