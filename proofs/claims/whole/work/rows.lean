section
-- ===== PART A: goes FIRST, ahead of the names: the tables' words, and 'selects' of the private methods out of them =====
/-- a private method of a class that the tables say can be made, by its rows of tables_1 -/
def lw_okq (q : MethodName × Nat) : Prop := (q.1.cls ≠ "java/lang/invoke/MethodHandle" ∧ q.1.cls ≠ "java/lang/invoke/VarHandle") ∧ Cond.instantiable q.1.cls q.2 ∈ tables_1 ∧ Cond.privateMethod q.1 ∈ tables_1 ∧ Cond.instanceMethod q.1 ∈ tables_1
theorem lw_p0 : lw_okq (⟨"TapLedger", "refusalOfTap", "(IIIII)I"⟩, 6) := ⟨⟨by decide +kernel, by decide +kernel⟩, List.mem_of_getElem? (i := 15) (by decide +kernel), List.mem_of_getElem? (i := 327) (by decide +kernel), List.mem_of_getElem? (i := 328) (by decide +kernel)⟩
theorem lw_p1 : lw_okq (⟨"TapLedger$Taps", "move", "(II)V"⟩, 4) := ⟨⟨by decide +kernel, by decide +kernel⟩, List.mem_of_getElem? (i := 29) (by decide +kernel), List.mem_of_getElem? (i := 360) (by decide +kernel), List.mem_of_getElem? (i := 361) (by decide +kernel)⟩
theorem lw_p2 : lw_okq (⟨"TapLedger", "reckon", "(I)V"⟩, 6) := ⟨⟨by decide +kernel, by decide +kernel⟩, List.mem_of_getElem? (i := 15) (by decide +kernel), List.mem_of_getElem? (i := 402) (by decide +kernel), List.mem_of_getElem? (i := 403) (by decide +kernel)⟩
theorem lw_p3 : lw_okq (⟨"TapLedger$Rides", "addWhole", "(LTapLedger$Taps;I)V"⟩, 8) := ⟨⟨by decide +kernel, by decide +kernel⟩, List.mem_of_getElem? (i := 142) (by decide +kernel), List.mem_of_getElem? (i := 424) (by decide +kernel), List.mem_of_getElem? (i := 425) (by decide +kernel)⟩
theorem lw_p4 : lw_okq (⟨"TapLedger$Rides", "addRide", "(IIIII)V"⟩, 8) := ⟨⟨by decide +kernel, by decide +kernel⟩, List.mem_of_getElem? (i := 142) (by decide +kernel), List.mem_of_getElem? (i := 431) (by decide +kernel), List.mem_of_getElem? (i := 432) (by decide +kernel)⟩
theorem lw_p5 : lw_okq (⟨"TapLedger$Rides", "addLacking", "(LTapLedger$Taps;I)V"⟩, 8) := ⟨⟨by decide +kernel, by decide +kernel⟩, List.mem_of_getElem? (i := 142) (by decide +kernel), List.mem_of_getElem? (i := 435) (by decide +kernel), List.mem_of_getElem? (i := 436) (by decide +kernel)⟩
theorem lw_p6 : lw_okq (⟨"TapLedger$Journeys", "open", "(I)V"⟩, 7) := ⟨⟨by decide +kernel, by decide +kernel⟩, List.mem_of_getElem? (i := 175) (by decide +kernel), List.mem_of_getElem? (i := 463) (by decide +kernel), List.mem_of_getElem? (i := 464) (by decide +kernel)⟩
theorem lw_p7 : lw_okq (⟨"TapLedger$Journeys", "takeRide", "(LTapLedger$Rides;ILTapLedger$Tariff;)V"⟩, 7) := ⟨⟨by decide +kernel, by decide +kernel⟩, List.mem_of_getElem? (i := 175) (by decide +kernel), List.mem_of_getElem? (i := 468) (by decide +kernel), List.mem_of_getElem? (i := 469) (by decide +kernel)⟩
theorem lw_p8 : lw_okq (⟨"TapLedger$Journeys", "takeZone", "(II)V"⟩, 7) := ⟨⟨by decide +kernel, by decide +kernel⟩, List.mem_of_getElem? (i := 175) (by decide +kernel), List.mem_of_getElem? (i := 482) (by decide +kernel), List.mem_of_getElem? (i := 483) (by decide +kernel)⟩
theorem lw_p9 : lw_okq (⟨"TapLedger$Plan", "weighWeek", "(II)V"⟩, 5) := ⟨⟨by decide +kernel, by decide +kernel⟩, List.mem_of_getElem? (i := 223) (by decide +kernel), List.mem_of_getElem? (i := 558) (by decide +kernel), List.mem_of_getElem? (i := 559) (by decide +kernel)⟩
theorem lw_p10 : lw_okq (⟨"TapLedger$Plan", "markWeeks", "()V"⟩, 5) := ⟨⟨by decide +kernel, by decide +kernel⟩, List.mem_of_getElem? (i := 223) (by decide +kernel), List.mem_of_getElem? (i := 562) (by decide +kernel), List.mem_of_getElem? (i := 563) (by decide +kernel)⟩
theorem lw_p11 : lw_okq (⟨"TapLedger", "imageOf", "(I)LTapLedger$State;"⟩, 6) := ⟨⟨by decide +kernel, by decide +kernel⟩, List.mem_of_getElem? (i := 15) (by decide +kernel), List.mem_of_getElem? (i := 697) (by decide +kernel), List.mem_of_getElem? (i := 698) (by decide +kernel)⟩
theorem lw_p12 : lw_okq (⟨"TapLedger", "costOfAllCards", "()I"⟩, 6) := ⟨⟨by decide +kernel, by decide +kernel⟩, List.mem_of_getElem? (i := 15) (by decide +kernel), List.mem_of_getElem? (i := 732) (by decide +kernel), List.mem_of_getElem? (i := 733) (by decide +kernel)⟩
theorem lw_p13 : lw_okq (⟨"TapLedgerModel", "refusal", "(IIIII)I"⟩, 22) := ⟨⟨by decide +kernel, by decide +kernel⟩, List.mem_of_getElem? (i := 736) (by decide +kernel), List.mem_of_getElem? (i := 828) (by decide +kernel), List.mem_of_getElem? (i := 829) (by decide +kernel)⟩
theorem lw_p14 : lw_okq (⟨"TapLedgerModel", "tapAt", "(II)I"⟩, 22) := ⟨⟨by decide +kernel, by decide +kernel⟩, List.mem_of_getElem? (i := 736) (by decide +kernel), List.mem_of_getElem? (i := 838) (by decide +kernel), List.mem_of_getElem? (i := 839) (by decide +kernel)⟩
theorem lw_p15 : lw_okq (⟨"TapLedgerModel", "when", "(II)I"⟩, 22) := ⟨⟨by decide +kernel, by decide +kernel⟩, List.mem_of_getElem? (i := 736) (by decide +kernel), List.mem_of_getElem? (i := 842) (by decide +kernel), List.mem_of_getElem? (i := 843) (by decide +kernel)⟩
def lw_privs_1 : List (MethodName × Nat) := [(⟨"TapLedger", "refusalOfTap", "(IIIII)I"⟩, 6), (⟨"TapLedger$Taps", "move", "(II)V"⟩, 4), (⟨"TapLedger", "reckon", "(I)V"⟩, 6), (⟨"TapLedger$Rides", "addWhole", "(LTapLedger$Taps;I)V"⟩, 8), (⟨"TapLedger$Rides", "addRide", "(IIIII)V"⟩, 8), (⟨"TapLedger$Rides", "addLacking", "(LTapLedger$Taps;I)V"⟩, 8), (⟨"TapLedger$Journeys", "open", "(I)V"⟩, 7), (⟨"TapLedger$Journeys", "takeRide", "(LTapLedger$Rides;ILTapLedger$Tariff;)V"⟩, 7), (⟨"TapLedger$Journeys", "takeZone", "(II)V"⟩, 7), (⟨"TapLedger$Plan", "weighWeek", "(II)V"⟩, 5), (⟨"TapLedger$Plan", "markWeeks", "()V"⟩, 5), (⟨"TapLedger", "imageOf", "(I)LTapLedger$State;"⟩, 6), (⟨"TapLedger", "costOfAllCards", "()I"⟩, 6), (⟨"TapLedgerModel", "refusal", "(IIIII)I"⟩, 22), (⟨"TapLedgerModel", "tapAt", "(II)I"⟩, 22), (⟨"TapLedgerModel", "when", "(II)I"⟩, 22)]
theorem lw_r1 : ∀ q ∈ lw_privs_1, lw_okq q := List.forall_mem_cons.mpr ⟨lw_p0, List.forall_mem_cons.mpr ⟨lw_p1, List.forall_mem_cons.mpr ⟨lw_p2, List.forall_mem_cons.mpr ⟨lw_p3, List.forall_mem_cons.mpr ⟨lw_p4, List.forall_mem_cons.mpr ⟨lw_p5, List.forall_mem_cons.mpr ⟨lw_p6, List.forall_mem_cons.mpr ⟨lw_p7, List.forall_mem_cons.mpr ⟨lw_p8, List.forall_mem_cons.mpr ⟨lw_p9, List.forall_mem_cons.mpr ⟨lw_p10, List.forall_mem_cons.mpr ⟨lw_p11, List.forall_mem_cons.mpr ⟨lw_p12, List.forall_mem_cons.mpr ⟨lw_p13, List.forall_mem_cons.mpr ⟨lw_p14, List.forall_mem_cons.mpr ⟨lw_p15, fun _ h => absurd h List.not_mem_nil⟩⟩⟩⟩⟩⟩⟩⟩⟩⟩⟩⟩⟩⟩⟩⟩
theorem lw_p16 : lw_okq (⟨"TapLedgerModel", "add", "(III)V"⟩, 22) := ⟨⟨by decide +kernel, by decide +kernel⟩, List.mem_of_getElem? (i := 736) (by decide +kernel), List.mem_of_getElem? (i := 846) (by decide +kernel), List.mem_of_getElem? (i := 847) (by decide +kernel)⟩
theorem lw_p17 : lw_okq (⟨"TapLedgerModel", "remove", "(II)V"⟩, 22) := ⟨⟨by decide +kernel, by decide +kernel⟩, List.mem_of_getElem? (i := 736) (by decide +kernel), List.mem_of_getElem? (i := 854) (by decide +kernel), List.mem_of_getElem? (i := 855) (by decide +kernel)⟩
theorem lw_p18 : lw_okq (⟨"TapLedgerModel", "stationOf", "(II)I"⟩, 22) := ⟨⟨by decide +kernel, by decide +kernel⟩, List.mem_of_getElem? (i := 736) (by decide +kernel), List.mem_of_getElem? (i := 862) (by decide +kernel), List.mem_of_getElem? (i := 863) (by decide +kernel)⟩
theorem lw_p19 : lw_okq (⟨"TapLedgerModel", "isIn", "(II)Z"⟩, 22) := ⟨⟨by decide +kernel, by decide +kernel⟩, List.mem_of_getElem? (i := 736) (by decide +kernel), List.mem_of_getElem? (i := 866) (by decide +kernel), List.mem_of_getElem? (i := 867) (by decide +kernel)⟩
theorem lw_p20 : lw_okq (⟨"TapLedgerModel", "layJourneys", "(I)V"⟩, 22) := ⟨⟨by decide +kernel, by decide +kernel⟩, List.mem_of_getElem? (i := 736) (by decide +kernel), List.mem_of_getElem? (i := 874) (by decide +kernel), List.mem_of_getElem? (i := 875) (by decide +kernel)⟩
theorem lw_p21 : lw_okq (⟨"TapLedgerModel", "layRides", "(I)V"⟩, 22) := ⟨⟨by decide +kernel, by decide +kernel⟩, List.mem_of_getElem? (i := 736) (by decide +kernel), List.mem_of_getElem? (i := 878) (by decide +kernel), List.mem_of_getElem? (i := 879) (by decide +kernel)⟩
theorem lw_p22 : lw_okq (⟨"TapLedgerModel", "mended", "(ZI)I"⟩, 22) := ⟨⟨by decide +kernel, by decide +kernel⟩, List.mem_of_getElem? (i := 736) (by decide +kernel), List.mem_of_getElem? (i := 882) (by decide +kernel), List.mem_of_getElem? (i := 883) (by decide +kernel)⟩
theorem lw_p23 : lw_okq (⟨"TapLedgerModel", "addRide", "(IIIII)V"⟩, 22) := ⟨⟨by decide +kernel, by decide +kernel⟩, List.mem_of_getElem? (i := 736) (by decide +kernel), List.mem_of_getElem? (i := 886) (by decide +kernel), List.mem_of_getElem? (i := 887) (by decide +kernel)⟩
theorem lw_p24 : lw_okq (⟨"TapLedgerModel", "goesOn", "(I)Z"⟩, 22) := ⟨⟨by decide +kernel, by decide +kernel⟩, List.mem_of_getElem? (i := 736) (by decide +kernel), List.mem_of_getElem? (i := 890) (by decide +kernel), List.mem_of_getElem? (i := 891) (by decide +kernel)⟩
theorem lw_p25 : lw_okq (⟨"TapLedgerModel", "widthOf", "(I)I"⟩, 22) := ⟨⟨by decide +kernel, by decide +kernel⟩, List.mem_of_getElem? (i := 736) (by decide +kernel), List.mem_of_getElem? (i := 894) (by decide +kernel), List.mem_of_getElem? (i := 895) (by decide +kernel)⟩
theorem lw_p26 : lw_okq (⟨"TapLedgerModel", "zoneOf", "(I)I"⟩, 22) := ⟨⟨by decide +kernel, by decide +kernel⟩, List.mem_of_getElem? (i := 736) (by decide +kernel), List.mem_of_getElem? (i := 898) (by decide +kernel), List.mem_of_getElem? (i := 899) (by decide +kernel)⟩
theorem lw_p27 : lw_okq (⟨"TapLedgerModel", "layDays", "(I)V"⟩, 22) := ⟨⟨by decide +kernel, by decide +kernel⟩, List.mem_of_getElem? (i := 736) (by decide +kernel), List.mem_of_getElem? (i := 913) (by decide +kernel), List.mem_of_getElem? (i := 914) (by decide +kernel)⟩
theorem lw_p28 : lw_okq (⟨"TapLedgerModel", "weekAt", "(I)I"⟩, 22) := ⟨⟨by decide +kernel, by decide +kernel⟩, List.mem_of_getElem? (i := 736) (by decide +kernel), List.mem_of_getElem? (i := 917) (by decide +kernel), List.mem_of_getElem? (i := 918) (by decide +kernel)⟩
theorem lw_p29 : lw_okq (⟨"TapLedgerModel", "isOfWeek", "(I)Z"⟩, 22) := ⟨⟨by decide +kernel, by decide +kernel⟩, List.mem_of_getElem? (i := 736) (by decide +kernel), List.mem_of_getElem? (i := 921) (by decide +kernel), List.mem_of_getElem? (i := 922) (by decide +kernel)⟩
theorem lw_p30 : lw_okq (⟨"TapLedgerModel", "weekOf", "(I)I"⟩, 22) := ⟨⟨by decide +kernel, by decide +kernel⟩, List.mem_of_getElem? (i := 736) (by decide +kernel), List.mem_of_getElem? (i := 925) (by decide +kernel), List.mem_of_getElem? (i := 926) (by decide +kernel)⟩
theorem lw_p31 : lw_okq (⟨"TapLedgerModel", "lagging", "()I"⟩, 22) := ⟨⟨by decide +kernel, by decide +kernel⟩, List.mem_of_getElem? (i := 736) (by decide +kernel), List.mem_of_getElem? (i := 966) (by decide +kernel), List.mem_of_getElem? (i := 967) (by decide +kernel)⟩
def lw_privs_2 : List (MethodName × Nat) := [(⟨"TapLedgerModel", "add", "(III)V"⟩, 22), (⟨"TapLedgerModel", "remove", "(II)V"⟩, 22), (⟨"TapLedgerModel", "stationOf", "(II)I"⟩, 22), (⟨"TapLedgerModel", "isIn", "(II)Z"⟩, 22), (⟨"TapLedgerModel", "layJourneys", "(I)V"⟩, 22), (⟨"TapLedgerModel", "layRides", "(I)V"⟩, 22), (⟨"TapLedgerModel", "mended", "(ZI)I"⟩, 22), (⟨"TapLedgerModel", "addRide", "(IIIII)V"⟩, 22), (⟨"TapLedgerModel", "goesOn", "(I)Z"⟩, 22), (⟨"TapLedgerModel", "widthOf", "(I)I"⟩, 22), (⟨"TapLedgerModel", "zoneOf", "(I)I"⟩, 22), (⟨"TapLedgerModel", "layDays", "(I)V"⟩, 22), (⟨"TapLedgerModel", "weekAt", "(I)I"⟩, 22), (⟨"TapLedgerModel", "isOfWeek", "(I)Z"⟩, 22), (⟨"TapLedgerModel", "weekOf", "(I)I"⟩, 22), (⟨"TapLedgerModel", "lagging", "()I"⟩, 22)]
theorem lw_r2 : ∀ q ∈ lw_privs_2, lw_okq q := List.forall_mem_cons.mpr ⟨lw_p16, List.forall_mem_cons.mpr ⟨lw_p17, List.forall_mem_cons.mpr ⟨lw_p18, List.forall_mem_cons.mpr ⟨lw_p19, List.forall_mem_cons.mpr ⟨lw_p20, List.forall_mem_cons.mpr ⟨lw_p21, List.forall_mem_cons.mpr ⟨lw_p22, List.forall_mem_cons.mpr ⟨lw_p23, List.forall_mem_cons.mpr ⟨lw_p24, List.forall_mem_cons.mpr ⟨lw_p25, List.forall_mem_cons.mpr ⟨lw_p26, List.forall_mem_cons.mpr ⟨lw_p27, List.forall_mem_cons.mpr ⟨lw_p28, List.forall_mem_cons.mpr ⟨lw_p29, List.forall_mem_cons.mpr ⟨lw_p30, List.forall_mem_cons.mpr ⟨lw_p31, fun _ h => absurd h List.not_mem_nil⟩⟩⟩⟩⟩⟩⟩⟩⟩⟩⟩⟩⟩⟩⟩⟩
theorem lw_p32 : lw_okq (⟨"TapLedgerModel", "allBest", "()I"⟩, 22) := ⟨⟨by decide +kernel, by decide +kernel⟩, List.mem_of_getElem? (i := 736) (by decide +kernel), List.mem_of_getElem? (i := 970) (by decide +kernel), List.mem_of_getElem? (i := 971) (by decide +kernel)⟩
def lw_privs_3 : List (MethodName × Nat) := [(⟨"TapLedgerModel", "allBest", "()I"⟩, 22)]
theorem lw_r3 : ∀ q ∈ lw_privs_3, lw_okq q := List.forall_mem_cons.mpr ⟨lw_p32, fun _ h => absurd h List.not_mem_nil⟩
def lw_privs : List (MethodName × Nat) := lw_privs_1 ++ (lw_privs_2 ++ (lw_privs_3))
def lw_tbl : List Cond := k2_sels lw_privs ++ tables_1
theorem lw_privs_ok : ∀ q ∈ lw_privs, lw_okq q := by
  show ∀ q ∈ lw_privs_1 ++ (lw_privs_2 ++ (lw_privs_3)), lw_okq q
  exact List.forall_mem_append.mpr ⟨lw_r1, List.forall_mem_append.mpr ⟨lw_r2, lw_r3⟩⟩
end
section
/-! names: the classes, their fields; by program (wip/whole/gen.py) -/
def mz_RN (i : Nat) : String := match i with
  | 0 => "TapLedger$BarList"
  | 1 => "TapLedger$Bill"
  | 2 => "TapLedger$Days"
  | 3 => "TapLedger$Journeys"
  | 4 => "TapLedger$Plan"
  | 5 => "TapLedger$Rides"
  | 6 => "TapLedger$Row"
  | 7 => "TapLedger$State"
  | 8 => "TapLedger$Taps"
  | 9 => "TapLedger$Tariff"
  | 10 => "TapLedger"
  | 11 => "TapLedgerModel"
  | 12 => "TapLedgerLaw"
  | _ => "java/lang/Math"
def mz_T0 : u_T := fun k => match k with
  | 0 => ("TapLedger$BarList", "numbersAt", "LTapLedger$Row;", true)
  | 1 => ("TapLedger$BarList", "barredAt", "LTapLedger$Row;", true)
  | 2 => ("TapLedger$BarList", "number", "I", false)
  | _ => ("TapLedger$BarList", "barred", "I", false)
def mz_T1 : u_T := fun k => match k with
  | 0 => ("TapLedger$Bill", "rides", "LTapLedger$Rides;", true)
  | 1 => ("TapLedger$Bill", "journeys", "LTapLedger$Journeys;", true)
  | 2 => ("TapLedger$Bill", "days", "LTapLedger$Days;", true)
  | _ => ("TapLedger$Bill", "plan", "LTapLedger$Plan;", true)
def mz_T2 : u_T := fun k => match k with
  | 0 => ("TapLedger$Days", "sums", "LTapLedger$Row;", true)
  | 1 => ("TapLedger$Days", "widths", "LTapLedger$Row;", true)
  | _ => ("TapLedger$Days", "owes", "LTapLedger$Row;", true)
def mz_T3 : u_T := fun k => match k with
  | 0 => ("TapLedger$Journeys", "moments", "LTapLedger$Row;", true)
  | 1 => ("TapLedger$Journeys", "rideCounts", "LTapLedger$Row;", true)
  | 2 => ("TapLedger$Journeys", "leastZones", "LTapLedger$Row;", true)
  | 3 => ("TapLedger$Journeys", "greatestZones", "LTapLedger$Row;", true)
  | 4 => ("TapLedger$Journeys", "costs", "LTapLedger$Row;", true)
  | 5 => ("TapLedger$Journeys", "journeysOfRides", "LTapLedger$Row;", true)
  | _ => ("TapLedger$Journeys", "size", "I", false)
def mz_T4 : u_T := fun k => match k with
  | 0 => ("TapLedger$Plan", "costsFrom", "LTapLedger$Row;", true)
  | 1 => ("TapLedger$Plan", "weeksFrom", "LTapLedger$Row;", true)
  | 2 => ("TapLedger$Plan", "weekBegins", "LTapLedger$Row;", true)
  | 3 => ("TapLedger$Plan", "starts", "LTapLedger$Row;", true)
  | _ => ("TapLedger$Plan", "inWeek", "LTapLedger$Row;", true)
def mz_T5 : u_T := fun k => match k with
  | 0 => ("TapLedger$Rides", "beginStations", "LTapLedger$Row;", true)
  | 1 => ("TapLedger$Rides", "endStations", "LTapLedger$Row;", true)
  | 2 => ("TapLedger$Rides", "beginMoments", "LTapLedger$Row;", true)
  | 3 => ("TapLedger$Rides", "endMoments", "LTapLedger$Row;", true)
  | 4 => ("TapLedger$Rides", "kinds", "LTapLedger$Row;", true)
  | 5 => ("TapLedger$Rides", "lastEnds", "LTapLedger$Row;", true)
  | 6 => ("TapLedger$Rides", "lastBegins", "LTapLedger$Row;", true)
  | _ => ("TapLedger$Rides", "size", "I", false)
def mz_T6 : u_T := fun k => match k with
  | _ => ("TapLedger$Row", "cells", "[I", true)
def mz_T7 : u_T := fun k => match k with
  | 0 => ("TapLedger$State", "card0", "LTapLedger$Taps;", true)
  | 1 => ("TapLedger$State", "card1", "LTapLedger$Taps;", true)
  | 2 => ("TapLedger$State", "card2", "LTapLedger$Taps;", true)
  | 3 => ("TapLedger$State", "card3", "LTapLedger$Taps;", true)
  | 4 => ("TapLedger$State", "tariff", "LTapLedger$Tariff;", true)
  | _ => ("TapLedger$State", "list", "LTapLedger$BarList;", true)
def mz_T8 : u_T := fun k => match k with
  | 0 => ("TapLedger$Taps", "moments", "LTapLedger$Row;", true)
  | 1 => ("TapLedger$Taps", "stations", "LTapLedger$Row;", true)
  | 2 => ("TapLedger$Taps", "ways", "LTapLedger$Row;", true)
  | _ => ("TapLedger$Taps", "size", "I", false)
def mz_T9 : u_T := fun k => match k with
  | 0 => ("TapLedger$Tariff", "zones", "LTapLedger$Row;", true)
  | 1 => ("TapLedger$Tariff", "fares", "LTapLedger$Row;", true)
  | 2 => ("TapLedger$Tariff", "caps", "LTapLedger$Row;", true)
  | 3 => ("TapLedger$Tariff", "weeks", "LTapLedger$Row;", true)
  | 4 => ("TapLedger$Tariff", "more", "I", false)
  | _ => ("TapLedger$Tariff", "near", "I", false)
def mz_T10 : u_T := fun k => match k with
  | 0 => ("TapLedger", "now", "LTapLedger$State;", true)
  | 1 => ("TapLedger", "firstImage", "LTapLedger$State;", true)
  | 2 => ("TapLedger", "secondImage", "LTapLedger$State;", true)
  | 3 => ("TapLedger", "keptImages", "I", false)
  | 4 => ("TapLedger", "trial", "LTapLedger$Taps;", true)
  | _ => ("TapLedger", "bill", "LTapLedger$Bill;", true)
def mz_T11 : u_T := fun k => match k with
  | 0 => ("TapLedgerModel", "state", "[I", true)
  | 1 => ("TapLedgerModel", "images", "[I", true)
  | 2 => ("TapLedgerModel", "isKept", "[Z", true)
  | 3 => ("TapLedgerModel", "kind", "[I", true)
  | 4 => ("TapLedgerModel", "start", "[I", true)
  | 5 => ("TapLedgerModel", "stop", "[I", true)
  | 6 => ("TapLedgerModel", "begin", "[I", true)
  | 7 => ("TapLedgerModel", "end", "[I", true)
  | 8 => ("TapLedgerModel", "isLame", "[Z", true)
  | 9 => ("TapLedgerModel", "journeyOf", "[I", true)
  | 10 => ("TapLedgerModel", "rides", "I", false)
  | 11 => ("TapLedgerModel", "firsts", "[I", true)
  | 12 => ("TapLedgerModel", "lengths", "[I", true)
  | 13 => ("TapLedgerModel", "widths", "[I", true)
  | 14 => ("TapLedgerModel", "costs", "[I", true)
  | 15 => ("TapLedgerModel", "journeys", "I", false)
  | 16 => ("TapLedgerModel", "sums", "[I", true)
  | 17 => ("TapLedgerModel", "wide", "[I", true)
  | 18 => ("TapLedgerModel", "owed", "[I", true)
  | 19 => ("TapLedgerModel", "least", "[I", true)
  | 20 => ("TapLedgerModel", "weeks", "[I", true)
  | _ => ("TapLedgerModel", "isWeek", "[Z", true)
abbrev mz_cls : List vw_C := [(mz_RN 0, mz_T0, 4), (mz_RN 1, mz_T1, 4), (mz_RN 2, mz_T2, 3), (mz_RN 3, mz_T3, 7), (mz_RN 4, mz_T4, 5), (mz_RN 5, mz_T5, 8), (mz_RN 6, mz_T6, 1), (mz_RN 7, mz_T7, 6), (mz_RN 8, mz_T8, 4), (mz_RN 9, mz_T9, 6), (mz_RN 10, mz_T10, 6), (mz_RN 11, mz_T11, 22)]
def mz_F (i : Nat) : u_T := match i with
  | 0 => mz_T0
  | 1 => mz_T1
  | 2 => mz_T2
  | 3 => mz_T3
  | 4 => mz_T4
  | 5 => mz_T5
  | 6 => mz_T6
  | 7 => mz_T7
  | 8 => mz_T8
  | 9 => mz_T9
  | 10 => mz_T10
  | _ => mz_T11
def mz_N (i : Nat) : Nat := match i with
  | 0 => 4
  | 1 => 4
  | 2 => 3
  | 3 => 7
  | 4 => 5
  | 5 => 8
  | 6 => 1
  | 7 => 6
  | 8 => 4
  | 9 => 6
  | 10 => 6
  | _ => 22
def mz_ty (i : Nat) : Nat → FieldType := fun k => match i, k with
  | 0, 0 => .object "TapLedger$Row"
  | 0, 1 => .object "TapLedger$Row"
  | 0, 2 => .int
  | 0, 3 => .int
  | 1, 0 => .object "TapLedger$Rides"
  | 1, 1 => .object "TapLedger$Journeys"
  | 1, 2 => .object "TapLedger$Days"
  | 1, 3 => .object "TapLedger$Plan"
  | 2, 0 => .object "TapLedger$Row"
  | 2, 1 => .object "TapLedger$Row"
  | 2, 2 => .object "TapLedger$Row"
  | 3, 0 => .object "TapLedger$Row"
  | 3, 1 => .object "TapLedger$Row"
  | 3, 2 => .object "TapLedger$Row"
  | 3, 3 => .object "TapLedger$Row"
  | 3, 4 => .object "TapLedger$Row"
  | 3, 5 => .object "TapLedger$Row"
  | 3, 6 => .int
  | 4, 0 => .object "TapLedger$Row"
  | 4, 1 => .object "TapLedger$Row"
  | 4, 2 => .object "TapLedger$Row"
  | 4, 3 => .object "TapLedger$Row"
  | 4, 4 => .object "TapLedger$Row"
  | 5, 0 => .object "TapLedger$Row"
  | 5, 1 => .object "TapLedger$Row"
  | 5, 2 => .object "TapLedger$Row"
  | 5, 3 => .object "TapLedger$Row"
  | 5, 4 => .object "TapLedger$Row"
  | 5, 5 => .object "TapLedger$Row"
  | 5, 6 => .object "TapLedger$Row"
  | 5, 7 => .int
  | 6, 0 => .array .int
  | 7, 0 => .object "TapLedger$Taps"
  | 7, 1 => .object "TapLedger$Taps"
  | 7, 2 => .object "TapLedger$Taps"
  | 7, 3 => .object "TapLedger$Taps"
  | 7, 4 => .object "TapLedger$Tariff"
  | 7, 5 => .object "TapLedger$BarList"
  | 8, 0 => .object "TapLedger$Row"
  | 8, 1 => .object "TapLedger$Row"
  | 8, 2 => .object "TapLedger$Row"
  | 8, 3 => .int
  | 9, 0 => .object "TapLedger$Row"
  | 9, 1 => .object "TapLedger$Row"
  | 9, 2 => .object "TapLedger$Row"
  | 9, 3 => .object "TapLedger$Row"
  | 9, 4 => .int
  | 9, 5 => .int
  | 10, 0 => .object "TapLedger$State"
  | 10, 1 => .object "TapLedger$State"
  | 10, 2 => .object "TapLedger$State"
  | 10, 3 => .int
  | 10, 4 => .object "TapLedger$Taps"
  | 10, 5 => .object "TapLedger$Bill"
  | 11, 0 => .array .int
  | 11, 1 => .array .int
  | 11, 2 => .array .boolean
  | 11, 3 => .array .int
  | 11, 4 => .array .int
  | 11, 5 => .array .int
  | 11, 6 => .array .int
  | 11, 7 => .array .int
  | 11, 8 => .array .boolean
  | 11, 9 => .array .int
  | 11, 10 => .int
  | 11, 11 => .array .int
  | 11, 12 => .array .int
  | 11, 13 => .array .int
  | 11, 14 => .array .int
  | 11, 15 => .int
  | 11, 16 => .array .int
  | 11, 17 => .array .int
  | 11, 18 => .array .int
  | 11, 19 => .array .int
  | 11, 20 => .array .int
  | 11, 21 => .array .boolean
  | _, _ => .int
abbrev mz_I : Type := Nat × Instr × Nat × Nat × Nat
abbrev mz_M : Type := MethodName × ByteArray × Nat × Option FieldType × Nat × Nat × List mz_I
def co_X0_init : List mz_I := [(0, .aload_n 0, 1, 0, 0), (1, .invokespecial 3, 3, 999, 6), (4, .aload_n 0, 1, 0, 0), (5, .new 9, 3, 6, 0), (8, .dup, 1, 0, 0), (9, .iconst 4, 1, 4, 0), (10, .invokespecial 11, 3, 50, 4), (13, .putfield 14, 3, 0, 0),
  (16, .aload_n 0, 1, 0, 0), (17, .new 9, 3, 6, 0), (20, .dup, 1, 0, 0), (21, .iconst 4, 1, 4, 0), (22, .invokespecial 11, 3, 50, 4), (25, .putfield 20, 3, 0, 1), (28, .aload_n 0, 1, 0, 0), (29, .iconst 0, 1, 0, 0),
  (30, .putfield 23, 3, 0, 2), (33, .aload_n 0, 1, 0, 0), (34, .iconst 0, 1, 0, 0), (35, .putfield 27, 3, 0, 3), (38, .return_, 1, 0, 0)]
def co_X0_number : List mz_I := [(0, .aload_n 0, 1, 0, 0), (1, .getfield 23, 3, 0, 2), (4, .ireturn, 1, 0, 0)]
def co_X0_barred : List mz_I := [(0, .aload_n 0, 1, 0, 0), (1, .getfield 27, 3, 0, 3), (4, .ireturn, 1, 0, 0)]
def co_X0_numberAt : List mz_I := [(0, .aload_n 0, 1, 0, 0), (1, .getfield 14, 3, 0, 0), (4, .iload_n 1, 1, 0, 0), (5, .invokevirtual 30, 3, 51, 0), (8, .ireturn, 1, 0, 0)]
def co_X0_isBarredAt : List mz_I := [(0, .aload_n 0, 1, 0, 0), (1, .getfield 20, 3, 0, 1), (4, .iload_n 1, 1, 0, 0), (5, .invokevirtual 30, 3, 51, 0), (8, .iload_n 2, 1, 0, 0), (9, .ishr, 1, 0, 0), (10, .iconst 1, 1, 1, 0), (11, .iand, 1, 0, 0),
  (12, .iconst 1, 1, 1, 0), (13, .if_icmp .ne 7, 3, 20, 0), (16, .iconst 1, 1, 1, 0), (17, .goto 4, 3, 21, 0), (20, .iconst 0, 1, 0, 0), (21, .ireturn, 1, 0, 0)]
def co_X0_putBarred : List mz_I := [(0, .iload_n 2, 1, 0, 0), (1, .ifCond .eq 14, 3, 15, 0), (4, .aload_n 0, 1, 0, 0), (5, .getfield 27, 3, 0, 3), (8, .iconst 1, 1, 1, 0), (9, .iload_n 1, 1, 0, 0), (10, .ishl, 1, 0, 0), (11, .ior, 1, 0, 0),
  (12, .goto 13, 3, 25, 0), (15, .aload_n 0, 1, 0, 0), (16, .getfield 27, 3, 0, 3), (19, .iconst 1, 1, 1, 0), (20, .iload_n 1, 1, 0, 0), (21, .ishl, 1, 0, 0), (22, .iconst (-1), 1, 4294967295, 0), (23, .ixor, 1, 0, 0),
  (24, .iand, 1, 0, 0), (25, .istore_n 3, 1, 0, 0), (26, .iload_n 3, 1, 0, 0), (27, .aload_n 0, 1, 0, 0), (28, .getfield 27, 3, 0, 3), (31, .if_icmp .eq 18, 3, 49, 0), (34, .aload_n 0, 1, 0, 0), (35, .iload_n 3, 1, 0, 0),
  (36, .putfield 27, 3, 0, 3), (39, .aload_n 0, 1, 0, 0), (40, .dup, 1, 0, 0), (41, .getfield 23, 3, 0, 2), (44, .iconst 1, 1, 1, 0), (45, .iadd, 1, 0, 0), (46, .putfield 23, 3, 0, 2), (49, .return_, 1, 0, 0)]
def co_X0_bringTo : List mz_I := [(0, .aload_n 0, 1, 0, 0), (1, .getfield 14, 3, 0, 0), (4, .iload_n 1, 1, 0, 0), (5, .aload_n 0, 1, 0, 0), (6, .getfield 23, 3, 0, 2), (9, .invokevirtual 34, 3, 52, 0), (12, .aload_n 0, 1, 0, 0), (13, .getfield 20, 3, 0, 1),
  (16, .iload_n 1, 1, 0, 0), (17, .aload_n 0, 1, 0, 0), (18, .getfield 27, 3, 0, 3), (21, .invokevirtual 34, 3, 52, 0), (24, .return_, 1, 0, 0)]
def co_X0_laggards : List mz_I := [(0, .iconst 0, 1, 0, 0), (1, .istore_n 1, 1, 0, 0), (2, .iconst 0, 1, 0, 0), (3, .istore_n 2, 1, 0, 0), (4, .iload_n 2, 1, 0, 0), (5, .iconst 4, 1, 4, 0), (6, .if_icmp .ge 27, 3, 33, 0), (9, .aload_n 0, 1, 0, 0),
  (10, .getfield 14, 3, 0, 0), (13, .iload_n 2, 1, 0, 0), (14, .invokevirtual 30, 3, 51, 0), (17, .aload_n 0, 1, 0, 0), (18, .getfield 23, 3, 0, 2), (21, .if_icmp .ge 6, 3, 27, 0), (24, .iinc 1 1, 3, 1, 0), (27, .iinc 2 1, 3, 1, 0),
  (30, .goto (-26), 3, 4, 0), (33, .iload_n 1, 1, 0, 0), (34, .ireturn, 1, 0, 0)]
def co_X0_copyFrom : List mz_I := [(0, .aload_n 0, 1, 0, 0), (1, .getfield 14, 3, 0, 0), (4, .aload_n 1, 1, 0, 0), (5, .getfield 14, 3, 0, 0), (8, .invokevirtual 38, 3, 56, 0), (11, .aload_n 0, 1, 0, 0), (12, .getfield 20, 3, 0, 1), (15, .aload_n 1, 1, 0, 0),
  (16, .getfield 20, 3, 0, 1), (19, .invokevirtual 38, 3, 56, 0), (22, .aload_n 0, 1, 0, 0), (23, .aload_n 1, 1, 0, 0), (24, .getfield 23, 3, 0, 2), (27, .putfield 23, 3, 0, 2), (30, .aload_n 0, 1, 0, 0), (31, .aload_n 1, 1, 0, 0),
  (32, .getfield 27, 3, 0, 3), (35, .putfield 27, 3, 0, 3), (38, .return_, 1, 0, 0)]
def co_X1_init : List mz_I := [(0, .aload_n 0, 1, 0, 0), (1, .invokespecial 1, 3, 999, 6), (4, .aload_n 0, 1, 0, 0), (5, .new 7, 3, 5, 0), (8, .dup, 1, 0, 0), (9, .invokespecial 9, 3, 38, 5), (12, .putfield 10, 3, 1, 0), (15, .aload_n 0, 1, 0, 0),
  (16, .new 16, 3, 3, 0), (19, .dup, 1, 0, 0), (20, .invokespecial 18, 3, 19, 5), (23, .putfield 19, 3, 1, 1), (26, .aload_n 0, 1, 0, 0), (27, .new 23, 3, 2, 0), (30, .dup, 1, 0, 0), (31, .invokespecial 25, 3, 11, 5),
  (34, .putfield 26, 3, 1, 2), (37, .aload_n 0, 1, 0, 0), (38, .new 30, 3, 4, 0), (41, .dup, 1, 0, 0), (42, .invokespecial 32, 3, 30, 5), (45, .putfield 33, 3, 1, 3), (48, .return_, 1, 0, 0)]
def co_X1_reckon : List mz_I := [(0, .aload_n 0, 1, 0, 0), (1, .getfield 10, 3, 1, 0), (4, .aload_n 1, 1, 0, 0), (5, .invokevirtual 37, 3, 39, 0), (8, .aload_n 0, 1, 0, 0), (9, .getfield 19, 3, 1, 1), (12, .aload_n 0, 1, 0, 0), (13, .getfield 10, 3, 1, 0),
  (16, .aload_n 2, 1, 0, 0), (17, .invokevirtual 41, 3, 20, 0), (20, .aload_n 0, 1, 0, 0), (21, .getfield 26, 3, 1, 2), (24, .aload_n 0, 1, 0, 0), (25, .getfield 19, 3, 1, 1), (28, .aload_n 2, 1, 0, 0), (29, .invokevirtual 44, 3, 12, 0),
  (32, .aload_n 0, 1, 0, 0), (33, .getfield 33, 3, 1, 3), (36, .aload_n 0, 1, 0, 0), (37, .getfield 26, 3, 1, 2), (40, .aload_n 2, 1, 0, 0), (41, .invokevirtual 47, 3, 31, 0), (44, .return_, 1, 0, 0)]
def co_X2_init : List mz_I := [(0, .aload_n 0, 1, 0, 0), (1, .invokespecial 3, 3, 999, 6), (4, .aload_n 0, 1, 0, 0), (5, .new 9, 3, 6, 0), (8, .dup, 1, 0, 0), (9, .bipush 28, 2, 28, 0), (11, .invokespecial 11, 3, 50, 4), (14, .putfield 14, 3, 2, 0),
  (17, .aload_n 0, 1, 0, 0), (18, .new 9, 3, 6, 0), (21, .dup, 1, 0, 0), (22, .bipush 28, 2, 28, 0), (24, .invokespecial 11, 3, 50, 4), (27, .putfield 20, 3, 2, 1), (30, .aload_n 0, 1, 0, 0), (31, .new 9, 3, 6, 0),
  (34, .dup, 1, 0, 0), (35, .bipush 28, 2, 28, 0), (37, .invokespecial 11, 3, 50, 4), (40, .putfield 23, 3, 2, 2), (43, .return_, 1, 0, 0)]
def co_X2_build : List mz_I := [(0, .aload_n 0, 1, 0, 0), (1, .getfield 14, 3, 2, 0), (4, .iconst 0, 1, 0, 0), (5, .invokevirtual 26, 3, 54, 0), (8, .aload_n 0, 1, 0, 0), (9, .getfield 20, 3, 2, 1), (12, .iconst 0, 1, 0, 0), (13, .invokevirtual 26, 3, 54, 0),
  (16, .iconst 0, 1, 0, 0), (17, .istore_n 3, 1, 0, 0), (18, .iload_n 3, 1, 0, 0), (19, .aload_n 1, 1, 0, 0), (20, .invokevirtual 29, 3, 24, 0), (23, .if_icmp .ge 59, 3, 82, 0), (26, .aload_n 1, 1, 0, 0), (27, .iload_n 3, 1, 0, 0),
  (28, .invokevirtual 35, 3, 25, 0), (31, .invokestatic 39, 3, 114, 3), (34, .istore 4, 2, 0, 0), (36, .aload_n 0, 1, 0, 0), (37, .getfield 14, 3, 2, 0), (40, .iload 4, 2, 0, 0), (42, .aload_n 1, 1, 0, 0), (43, .iload_n 3, 1, 0, 0),
  (44, .invokevirtual 42, 3, 28, 0), (47, .invokevirtual 45, 3, 53, 0), (50, .aload_n 0, 1, 0, 0), (51, .getfield 20, 3, 2, 1), (54, .iload 4, 2, 0, 0), (56, .aload_n 0, 1, 0, 0), (57, .getfield 20, 3, 2, 1), (60, .iload 4, 2, 0, 0),
  (62, .invokevirtual 49, 3, 51, 0), (65, .aload_n 1, 1, 0, 0), (66, .iload_n 3, 1, 0, 0), (67, .invokevirtual 52, 3, 27, 0), (70, .invokestatic 55, 3, 998, 7), (73, .invokevirtual 61, 3, 52, 0), (76, .iinc 3 1, 3, 1, 0), (79, .goto (-61), 3, 18, 0),
  (82, .iconst 0, 1, 0, 0), (83, .istore_n 3, 1, 0, 0), (84, .iload_n 3, 1, 0, 0), (85, .bipush 28, 2, 28, 0), (87, .if_icmp .ge 37, 3, 124, 0), (90, .aload_n 0, 1, 0, 0), (91, .getfield 23, 3, 2, 2), (94, .iload_n 3, 1, 0, 0),
  (95, .aload_n 2, 1, 0, 0), (96, .aload_n 0, 1, 0, 0), (97, .getfield 14, 3, 2, 0), (100, .iload_n 3, 1, 0, 0), (101, .invokevirtual 49, 3, 51, 0), (104, .aload_n 0, 1, 0, 0), (105, .getfield 20, 3, 2, 1), (108, .iload_n 3, 1, 0, 0),
  (109, .invokevirtual 49, 3, 51, 0), (112, .invokevirtual 64, 3, 78, 0), (115, .invokevirtual 61, 3, 52, 0), (118, .iinc 3 1, 3, 1, 0), (121, .goto (-37), 3, 84, 0), (124, .return_, 1, 0, 0)]
def co_X2_sum : List mz_I := [(0, .aload_n 0, 1, 0, 0), (1, .getfield 14, 3, 2, 0), (4, .iload_n 1, 1, 0, 0), (5, .invokevirtual 49, 3, 51, 0), (8, .ireturn, 1, 0, 0)]
def co_X2_width : List mz_I := [(0, .aload_n 0, 1, 0, 0), (1, .getfield 20, 3, 2, 1), (4, .iload_n 1, 1, 0, 0), (5, .invokevirtual 49, 3, 51, 0), (8, .ireturn, 1, 0, 0)]
def co_X2_owed : List mz_I := [(0, .aload_n 0, 1, 0, 0), (1, .getfield 23, 3, 2, 2), (4, .iload_n 1, 1, 0, 0), (5, .invokevirtual 49, 3, 51, 0), (8, .ireturn, 1, 0, 0)]
def co_X2_allSums : List mz_I := [(0, .aload_n 0, 1, 0, 0), (1, .getfield 14, 3, 2, 0), (4, .invokevirtual 69, 3, 55, 0), (7, .ireturn, 1, 0, 0)]
def co_X2_allOwed : List mz_I := [(0, .aload_n 0, 1, 0, 0), (1, .getfield 23, 3, 2, 2), (4, .invokevirtual 69, 3, 55, 0), (7, .ireturn, 1, 0, 0)]
def co_X2_widthOfWeek : List mz_I := [(0, .iconst 0, 1, 0, 0), (1, .istore_n 2, 1, 0, 0), (2, .iload_n 1, 1, 0, 0), (3, .istore_n 3, 1, 0, 0), (4, .iload_n 3, 1, 0, 0), (5, .iload_n 1, 1, 0, 0), (6, .bipush 7, 2, 7, 0), (8, .iadd, 1, 0, 0),
  (9, .if_icmp .ge 22, 3, 31, 0), (12, .iload_n 2, 1, 0, 0), (13, .aload_n 0, 1, 0, 0), (14, .getfield 20, 3, 2, 1), (17, .iload_n 3, 1, 0, 0), (18, .invokevirtual 49, 3, 51, 0), (21, .invokestatic 55, 3, 998, 7), (24, .istore_n 2, 1, 0, 0),
  (25, .iinc 3 1, 3, 1, 0), (28, .goto (-24), 3, 4, 0), (31, .iload_n 2, 1, 0, 0), (32, .ireturn, 1, 0, 0)]
def co_X3_init : List mz_I := [(0, .aload_n 0, 1, 0, 0), (1, .invokespecial 3, 3, 999, 6), (4, .aload_n 0, 1, 0, 0), (5, .new 9, 3, 6, 0), (8, .dup, 1, 0, 0), (9, .bipush 48, 2, 48, 0), (11, .invokespecial 11, 3, 50, 4), (14, .putfield 14, 3, 3, 0),
  (17, .aload_n 0, 1, 0, 0), (18, .new 9, 3, 6, 0), (21, .dup, 1, 0, 0), (22, .bipush 48, 2, 48, 0), (24, .invokespecial 11, 3, 50, 4), (27, .putfield 20, 3, 3, 1), (30, .aload_n 0, 1, 0, 0), (31, .new 9, 3, 6, 0),
  (34, .dup, 1, 0, 0), (35, .bipush 48, 2, 48, 0), (37, .invokespecial 11, 3, 50, 4), (40, .putfield 23, 3, 3, 2), (43, .aload_n 0, 1, 0, 0), (44, .new 9, 3, 6, 0), (47, .dup, 1, 0, 0), (48, .bipush 48, 2, 48, 0),
  (50, .invokespecial 11, 3, 50, 4), (53, .putfield 26, 3, 3, 3), (56, .aload_n 0, 1, 0, 0), (57, .new 9, 3, 6, 0), (60, .dup, 1, 0, 0), (61, .bipush 48, 2, 48, 0), (63, .invokespecial 11, 3, 50, 4), (66, .putfield 29, 3, 3, 4),
  (69, .aload_n 0, 1, 0, 0), (70, .new 9, 3, 6, 0), (73, .dup, 1, 0, 0), (74, .bipush 48, 2, 48, 0), (76, .invokespecial 11, 3, 50, 4), (79, .putfield 32, 3, 3, 5), (82, .aload_n 0, 1, 0, 0), (83, .iconst 0, 1, 0, 0),
  (84, .putfield 35, 3, 3, 6), (87, .return_, 1, 0, 0)]
def co_X3_build : List mz_I := [(0, .aload_n 0, 1, 0, 0), (1, .iconst 0, 1, 0, 0), (2, .putfield 35, 3, 3, 6), (5, .iconst 0, 1, 0, 0), (6, .istore_n 3, 1, 0, 0), (7, .iload_n 3, 1, 0, 0), (8, .aload_n 1, 1, 0, 0), (9, .invokevirtual 39, 3, 43, 0),
  (12, .if_icmp .ge 73, 3, 85, 0), (15, .aload_n 0, 1, 0, 0), (16, .getfield 35, 3, 3, 6), (19, .ifCond .le 36, 3, 55, 0), (22, .aload_n 0, 1, 0, 0), (23, .getfield 20, 3, 3, 1), (26, .aload_n 0, 1, 0, 0), (27, .getfield 35, 3, 3, 6),
  (30, .iconst 1, 1, 1, 0), (31, .isub, 1, 0, 0), (32, .invokevirtual 44, 3, 51, 0), (35, .iconst 3, 1, 3, 0), (36, .if_icmp .ge 19, 3, 55, 0), (39, .aload_n 1, 1, 0, 0), (40, .iload_n 3, 1, 0, 0), (41, .aload_n 2, 1, 0, 0),
  (42, .invokevirtual 48, 3, 76, 0), (45, .invokevirtual 53, 3, 49, 0), (48, .ifCond .eq 7, 3, 55, 0), (51, .iconst 1, 1, 1, 0), (52, .goto 4, 3, 56, 0), (55, .iconst 0, 1, 0, 0), (56, .istore 4, 2, 0, 0), (58, .iload 4, 2, 0, 0),
  (60, .ifCond .ne 12, 3, 72, 0), (63, .aload_n 0, 1, 0, 0), (64, .aload_n 1, 1, 0, 0), (65, .iload_n 3, 1, 0, 0), (66, .invokevirtual 57, 3, 46, 0), (69, .invokevirtual 60, 3, 21, 0), (72, .aload_n 0, 1, 0, 0), (73, .aload_n 1, 1, 0, 0),
  (74, .iload_n 3, 1, 0, 0), (75, .aload_n 2, 1, 0, 0), (76, .invokevirtual 63, 3, 22, 0), (79, .iinc 3 1, 3, 1, 0), (82, .goto (-75), 3, 7, 0), (85, .iconst 0, 1, 0, 0), (86, .istore_n 3, 1, 0, 0), (87, .iload_n 3, 1, 0, 0),
  (88, .aload_n 0, 1, 0, 0), (89, .getfield 35, 3, 3, 6), (92, .if_icmp .ge 37, 3, 129, 0), (95, .aload_n 0, 1, 0, 0), (96, .getfield 29, 3, 3, 4), (99, .iload_n 3, 1, 0, 0), (100, .aload_n 2, 1, 0, 0), (101, .aload_n 0, 1, 0, 0),
  (102, .iload_n 3, 1, 0, 0), (103, .invokevirtual 67, 3, 27, 0), (106, .aload_n 0, 1, 0, 0), (107, .getfield 14, 3, 3, 0), (110, .iload_n 3, 1, 0, 0), (111, .invokevirtual 44, 3, 51, 0), (114, .invokestatic 70, 3, 116, 3), (117, .invokevirtual 74, 3, 77, 0),
  (120, .invokevirtual 78, 3, 52, 0), (123, .iinc 3 1, 3, 1, 0), (126, .goto (-39), 3, 87, 0), (129, .return_, 1, 0, 0)]
def co_X3_open : List mz_I := [(0, .aload_n 0, 1, 0, 0), (1, .getfield 14, 3, 3, 0), (4, .aload_n 0, 1, 0, 0), (5, .getfield 35, 3, 3, 6), (8, .iload_n 1, 1, 0, 0), (9, .invokevirtual 78, 3, 52, 0), (12, .aload_n 0, 1, 0, 0), (13, .getfield 20, 3, 3, 1),
  (16, .aload_n 0, 1, 0, 0), (17, .getfield 35, 3, 3, 6), (20, .iconst 0, 1, 0, 0), (21, .invokevirtual 78, 3, 52, 0), (24, .aload_n 0, 1, 0, 0), (25, .getfield 23, 3, 3, 2), (28, .aload_n 0, 1, 0, 0), (29, .getfield 35, 3, 3, 6),
  (32, .iconst 5, 1, 5, 0), (33, .invokevirtual 78, 3, 52, 0), (36, .aload_n 0, 1, 0, 0), (37, .getfield 26, 3, 3, 3), (40, .aload_n 0, 1, 0, 0), (41, .getfield 35, 3, 3, 6), (44, .iconst 1, 1, 1, 0), (45, .invokevirtual 78, 3, 52, 0),
  (48, .aload_n 0, 1, 0, 0), (49, .dup, 1, 0, 0), (50, .getfield 35, 3, 3, 6), (53, .iconst 1, 1, 1, 0), (54, .iadd, 1, 0, 0), (55, .putfield 35, 3, 3, 6), (58, .return_, 1, 0, 0)]
def co_X3_takeRide : List mz_I := [(0, .aload_n 0, 1, 0, 0), (1, .getfield 35, 3, 3, 6), (4, .iconst 1, 1, 1, 0), (5, .isub, 1, 0, 0), (6, .istore 4, 2, 0, 0), (8, .aload_n 0, 1, 0, 0), (9, .getfield 32, 3, 3, 5), (12, .iload_n 2, 1, 0, 0),
  (13, .iload 4, 2, 0, 0), (15, .invokevirtual 78, 3, 52, 0), (18, .aload_n 0, 1, 0, 0), (19, .getfield 20, 3, 3, 1), (22, .iload 4, 2, 0, 0), (24, .iconst 1, 1, 1, 0), (25, .invokevirtual 82, 3, 53, 0), (28, .aload_n 1, 1, 0, 0),
  (29, .iload_n 2, 1, 0, 0), (30, .invokevirtual 85, 3, 48, 0), (33, .ifCond .eq 20, 3, 53, 0), (36, .aload_n 0, 1, 0, 0), (37, .iload 4, 2, 0, 0), (39, .iconst 1, 1, 1, 0), (40, .invokevirtual 88, 3, 23, 0), (43, .aload_n 0, 1, 0, 0),
  (44, .iload 4, 2, 0, 0), (46, .iconst 5, 1, 5, 0), (47, .invokevirtual 88, 3, 23, 0), (50, .goto 33, 3, 83, 0), (53, .aload_n 0, 1, 0, 0), (54, .iload 4, 2, 0, 0), (56, .aload_n 3, 1, 0, 0), (57, .aload_n 1, 1, 0, 0),
  (58, .iload_n 2, 1, 0, 0), (59, .invokevirtual 91, 3, 44, 0), (62, .invokevirtual 94, 3, 72, 0), (65, .invokevirtual 88, 3, 23, 0), (68, .aload_n 0, 1, 0, 0), (69, .iload 4, 2, 0, 0), (71, .aload_n 3, 1, 0, 0), (72, .aload_n 1, 1, 0, 0),
  (73, .iload_n 2, 1, 0, 0), (74, .invokevirtual 97, 3, 45, 0), (77, .invokevirtual 94, 3, 72, 0), (80, .invokevirtual 88, 3, 23, 0), (83, .return_, 1, 0, 0)]
def co_X3_takeZone : List mz_I := [(0, .aload_n 0, 1, 0, 0), (1, .getfield 23, 3, 3, 2), (4, .iload_n 1, 1, 0, 0), (5, .aload_n 0, 1, 0, 0), (6, .getfield 23, 3, 3, 2), (9, .iload_n 1, 1, 0, 0), (10, .invokevirtual 44, 3, 51, 0), (13, .iload_n 2, 1, 0, 0),
  (14, .invokestatic 100, 3, 997, 8), (17, .invokevirtual 78, 3, 52, 0), (20, .aload_n 0, 1, 0, 0), (21, .getfield 26, 3, 3, 3), (24, .iload_n 1, 1, 0, 0), (25, .aload_n 0, 1, 0, 0), (26, .getfield 26, 3, 3, 3), (29, .iload_n 1, 1, 0, 0),
  (30, .invokevirtual 44, 3, 51, 0), (33, .iload_n 2, 1, 0, 0), (34, .invokestatic 106, 3, 998, 7), (37, .invokevirtual 78, 3, 52, 0), (40, .return_, 1, 0, 0)]
def co_X3_size : List mz_I := [(0, .aload_n 0, 1, 0, 0), (1, .getfield 35, 3, 3, 6), (4, .ireturn, 1, 0, 0)]
def co_X3_moment : List mz_I := [(0, .aload_n 0, 1, 0, 0), (1, .getfield 14, 3, 3, 0), (4, .iload_n 1, 1, 0, 0), (5, .invokevirtual 44, 3, 51, 0), (8, .ireturn, 1, 0, 0)]
def co_X3_ridesIn : List mz_I := [(0, .aload_n 0, 1, 0, 0), (1, .getfield 20, 3, 3, 1), (4, .iload_n 1, 1, 0, 0), (5, .invokevirtual 44, 3, 51, 0), (8, .ireturn, 1, 0, 0)]
def co_X3_width : List mz_I := [(0, .aload_n 0, 1, 0, 0), (1, .getfield 26, 3, 3, 3), (4, .iload_n 1, 1, 0, 0), (5, .invokevirtual 44, 3, 51, 0), (8, .aload_n 0, 1, 0, 0), (9, .getfield 23, 3, 3, 2), (12, .iload_n 1, 1, 0, 0), (13, .invokevirtual 44, 3, 51, 0),
  (16, .isub, 1, 0, 0), (17, .iconst 1, 1, 1, 0), (18, .iadd, 1, 0, 0), (19, .ireturn, 1, 0, 0)]
def co_X3_cost : List mz_I := [(0, .aload_n 0, 1, 0, 0), (1, .getfield 29, 3, 3, 4), (4, .iload_n 1, 1, 0, 0), (5, .invokevirtual 44, 3, 51, 0), (8, .ireturn, 1, 0, 0)]
def co_X3_journeyOfRide : List mz_I := [(0, .aload_n 0, 1, 0, 0), (1, .getfield 32, 3, 3, 5), (4, .iload_n 1, 1, 0, 0), (5, .invokevirtual 44, 3, 51, 0), (8, .ireturn, 1, 0, 0)]
def co_X4_init : List mz_I := [(0, .aload_n 0, 1, 0, 0), (1, .invokespecial 3, 3, 999, 6), (4, .aload_n 0, 1, 0, 0), (5, .new 9, 3, 6, 0), (8, .dup, 1, 0, 0), (9, .bipush 29, 2, 29, 0), (11, .invokespecial 11, 3, 50, 4), (14, .putfield 14, 3, 4, 0),
  (17, .aload_n 0, 1, 0, 0), (18, .new 9, 3, 6, 0), (21, .dup, 1, 0, 0), (22, .bipush 29, 2, 29, 0), (24, .invokespecial 11, 3, 50, 4), (27, .putfield 20, 3, 4, 1), (30, .aload_n 0, 1, 0, 0), (31, .new 9, 3, 6, 0),
  (34, .dup, 1, 0, 0), (35, .bipush 28, 2, 28, 0), (37, .invokespecial 11, 3, 50, 4), (40, .putfield 23, 3, 4, 2), (43, .aload_n 0, 1, 0, 0), (44, .new 9, 3, 6, 0), (47, .dup, 1, 0, 0), (48, .iconst 4, 1, 4, 0),
  (49, .invokespecial 11, 3, 50, 4), (52, .putfield 26, 3, 4, 3), (55, .aload_n 0, 1, 0, 0), (56, .new 9, 3, 6, 0), (59, .dup, 1, 0, 0), (60, .bipush 28, 2, 28, 0), (62, .invokespecial 11, 3, 50, 4), (65, .putfield 29, 3, 4, 4),
  (68, .return_, 1, 0, 0)]
def co_X4_build : List mz_I := [(0, .aload_n 0, 1, 0, 0), (1, .getfield 14, 3, 4, 0), (4, .bipush 28, 2, 28, 0), (6, .iconst 0, 1, 0, 0), (7, .invokevirtual 32, 3, 52, 0), (10, .aload_n 0, 1, 0, 0), (11, .getfield 20, 3, 4, 1), (14, .bipush 28, 2, 28, 0),
  (16, .iconst 0, 1, 0, 0), (17, .invokevirtual 32, 3, 52, 0), (20, .bipush 27, 2, 27, 0), (22, .istore_n 3, 1, 0, 0), (23, .iload_n 3, 1, 0, 0), (24, .ifCond .lt 83, 3, 107, 0), (27, .aload_n 0, 1, 0, 0), (28, .getfield 14, 3, 4, 0),
  (31, .iload_n 3, 1, 0, 0), (32, .aload_n 1, 1, 0, 0), (33, .iload_n 3, 1, 0, 0), (34, .invokevirtual 36, 3, 15, 0), (37, .aload_n 0, 1, 0, 0), (38, .getfield 14, 3, 4, 0), (41, .iload_n 3, 1, 0, 0), (42, .iconst 1, 1, 1, 0),
  (43, .iadd, 1, 0, 0), (44, .invokevirtual 42, 3, 51, 0), (47, .iadd, 1, 0, 0), (48, .invokevirtual 32, 3, 52, 0), (51, .aload_n 0, 1, 0, 0), (52, .getfield 20, 3, 4, 1), (55, .iload_n 3, 1, 0, 0), (56, .aload_n 0, 1, 0, 0),
  (57, .getfield 20, 3, 4, 1), (60, .iload_n 3, 1, 0, 0), (61, .iconst 1, 1, 1, 0), (62, .iadd, 1, 0, 0), (63, .invokevirtual 42, 3, 51, 0), (66, .invokevirtual 32, 3, 52, 0), (69, .aload_n 0, 1, 0, 0), (70, .getfield 23, 3, 4, 2),
  (73, .iload_n 3, 1, 0, 0), (74, .iconst 0, 1, 0, 0), (75, .invokevirtual 32, 3, 52, 0), (78, .iload_n 3, 1, 0, 0), (79, .bipush 7, 2, 7, 0), (81, .iadd, 1, 0, 0), (82, .bipush 28, 2, 28, 0), (84, .if_icmp .gt 17, 3, 101, 0),
  (87, .aload_n 0, 1, 0, 0), (88, .iload_n 3, 1, 0, 0), (89, .aload_n 2, 1, 0, 0), (90, .aload_n 1, 1, 0, 0), (91, .iload_n 3, 1, 0, 0), (92, .invokevirtual 45, 3, 18, 0), (95, .invokevirtual 48, 3, 79, 0), (98, .invokevirtual 53, 3, 32, 0),
  (101, .iinc 3 (-1), 3, 4294967295, 0), (104, .goto (-81), 3, 23, 0), (107, .aload_n 0, 1, 0, 0), (108, .invokevirtual 56, 3, 33, 0), (111, .return_, 1, 0, 0)]
def co_X4_weighWeek : List mz_I := [(0, .iload_n 2, 1, 0, 0), (1, .aload_n 0, 1, 0, 0), (2, .getfield 14, 3, 4, 0), (5, .iload_n 1, 1, 0, 0), (6, .bipush 7, 2, 7, 0), (8, .iadd, 1, 0, 0), (9, .invokevirtual 42, 3, 51, 0), (12, .iadd, 1, 0, 0),
  (13, .istore_n 3, 1, 0, 0), (14, .iconst 1, 1, 1, 0), (15, .aload_n 0, 1, 0, 0), (16, .getfield 20, 3, 4, 1), (19, .iload_n 1, 1, 0, 0), (20, .bipush 7, 2, 7, 0), (22, .iadd, 1, 0, 0), (23, .invokevirtual 42, 3, 51, 0),
  (26, .iadd, 1, 0, 0), (27, .istore 4, 2, 0, 0), (29, .iload_n 3, 1, 0, 0), (30, .aload_n 0, 1, 0, 0), (31, .getfield 14, 3, 4, 0), (34, .iload_n 1, 1, 0, 0), (35, .invokevirtual 42, 3, 51, 0), (38, .if_icmp .ge 7, 3, 45, 0),
  (41, .iconst 1, 1, 1, 0), (42, .goto 4, 3, 46, 0), (45, .iconst 0, 1, 0, 0), (46, .istore 5, 2, 0, 0), (48, .iload_n 3, 1, 0, 0), (49, .aload_n 0, 1, 0, 0), (50, .getfield 14, 3, 4, 0), (53, .iload_n 1, 1, 0, 0),
  (54, .invokevirtual 42, 3, 51, 0), (57, .if_icmp .ne 20, 3, 77, 0), (60, .iload 4, 2, 0, 0), (62, .aload_n 0, 1, 0, 0), (63, .getfield 20, 3, 4, 1), (66, .iload_n 1, 1, 0, 0), (67, .invokevirtual 42, 3, 51, 0), (70, .if_icmp .gt 7, 3, 77, 0),
  (73, .iconst 1, 1, 1, 0), (74, .goto 4, 3, 78, 0), (77, .iconst 0, 1, 0, 0), (78, .istore 6, 2, 0, 0), (80, .iload 5, 2, 0, 0), (82, .ifCond .ne 8, 3, 90, 0), (85, .iload 6, 2, 0, 0), (87, .ifCond .eq 31, 3, 118, 0),
  (90, .aload_n 0, 1, 0, 0), (91, .getfield 14, 3, 4, 0), (94, .iload_n 1, 1, 0, 0), (95, .iload_n 3, 1, 0, 0), (96, .invokevirtual 32, 3, 52, 0), (99, .aload_n 0, 1, 0, 0), (100, .getfield 20, 3, 4, 1), (103, .iload_n 1, 1, 0, 0),
  (104, .iload 4, 2, 0, 0), (106, .invokevirtual 32, 3, 52, 0), (109, .aload_n 0, 1, 0, 0), (110, .getfield 23, 3, 4, 2), (113, .iload_n 1, 1, 0, 0), (114, .iconst 1, 1, 1, 0), (115, .invokevirtual 32, 3, 52, 0), (118, .return_, 1, 0, 0)]
def co_X4_markWeeks : List mz_I := [(0, .iconst 0, 1, 0, 0), (1, .istore_n 1, 1, 0, 0), (2, .iconst 0, 1, 0, 0), (3, .istore_n 2, 1, 0, 0), (4, .iconst 0, 1, 0, 0), (5, .istore_n 3, 1, 0, 0), (6, .iload_n 3, 1, 0, 0), (7, .bipush 28, 2, 28, 0),
  (9, .if_icmp .ge 61, 3, 70, 0), (12, .iload_n 3, 1, 0, 0), (13, .iload_n 2, 1, 0, 0), (14, .if_icmp .lt 32, 3, 46, 0), (17, .aload_n 0, 1, 0, 0), (18, .getfield 23, 3, 4, 2), (21, .iload_n 3, 1, 0, 0), (22, .invokevirtual 42, 3, 51, 0),
  (25, .iconst 1, 1, 1, 0), (26, .if_icmp .ne 20, 3, 46, 0), (29, .aload_n 0, 1, 0, 0), (30, .getfield 26, 3, 4, 3), (33, .iload_n 1, 1, 0, 0), (34, .iload_n 3, 1, 0, 0), (35, .invokevirtual 32, 3, 52, 0), (38, .iinc 1 1, 3, 1, 0),
  (41, .iload_n 3, 1, 0, 0), (42, .bipush 7, 2, 7, 0), (44, .iadd, 1, 0, 0), (45, .istore_n 2, 1, 0, 0), (46, .aload_n 0, 1, 0, 0), (47, .getfield 29, 3, 4, 4), (50, .iload_n 3, 1, 0, 0), (51, .iload_n 3, 1, 0, 0),
  (52, .iload_n 2, 1, 0, 0), (53, .if_icmp .ge 7, 3, 60, 0), (56, .iconst 1, 1, 1, 0), (57, .goto 4, 3, 61, 0), (60, .iconst 0, 1, 0, 0), (61, .invokevirtual 32, 3, 52, 0), (64, .iinc 3 1, 3, 1, 0), (67, .goto (-61), 3, 6, 0),
  (70, .return_, 1, 0, 0)]
def co_X4_cost : List mz_I := [(0, .aload_n 0, 1, 0, 0), (1, .getfield 14, 3, 4, 0), (4, .iconst 0, 1, 0, 0), (5, .invokevirtual 42, 3, 51, 0), (8, .ireturn, 1, 0, 0)]
def co_X4_weeks : List mz_I := [(0, .aload_n 0, 1, 0, 0), (1, .getfield 20, 3, 4, 1), (4, .iconst 0, 1, 0, 0), (5, .invokevirtual 42, 3, 51, 0), (8, .ireturn, 1, 0, 0)]
def co_X4_start : List mz_I := [(0, .aload_n 0, 1, 0, 0), (1, .getfield 26, 3, 4, 3), (4, .iload_n 1, 1, 0, 0), (5, .invokevirtual 42, 3, 51, 0), (8, .ireturn, 1, 0, 0)]
def co_X4_isInWeek : List mz_I := [(0, .aload_n 0, 1, 0, 0), (1, .getfield 29, 3, 4, 4), (4, .iload_n 1, 1, 0, 0), (5, .invokevirtual 42, 3, 51, 0), (8, .iconst 1, 1, 1, 0), (9, .if_icmp .ne 7, 3, 16, 0), (12, .iconst 1, 1, 1, 0), (13, .goto 4, 3, 17, 0),
  (16, .iconst 0, 1, 0, 0), (17, .ireturn, 1, 0, 0)]
def co_X5_init : List mz_I := [(0, .aload_n 0, 1, 0, 0), (1, .invokespecial 3, 3, 999, 6), (4, .aload_n 0, 1, 0, 0), (5, .new 9, 3, 6, 0), (8, .dup, 1, 0, 0), (9, .bipush 48, 2, 48, 0), (11, .invokespecial 11, 3, 50, 4), (14, .putfield 14, 3, 5, 0),
  (17, .aload_n 0, 1, 0, 0), (18, .new 9, 3, 6, 0), (21, .dup, 1, 0, 0), (22, .bipush 48, 2, 48, 0), (24, .invokespecial 11, 3, 50, 4), (27, .putfield 20, 3, 5, 1), (30, .aload_n 0, 1, 0, 0), (31, .new 9, 3, 6, 0),
  (34, .dup, 1, 0, 0), (35, .bipush 48, 2, 48, 0), (37, .invokespecial 11, 3, 50, 4), (40, .putfield 23, 3, 5, 2), (43, .aload_n 0, 1, 0, 0), (44, .new 9, 3, 6, 0), (47, .dup, 1, 0, 0), (48, .bipush 48, 2, 48, 0),
  (50, .invokespecial 11, 3, 50, 4), (53, .putfield 26, 3, 5, 3), (56, .aload_n 0, 1, 0, 0), (57, .new 9, 3, 6, 0), (60, .dup, 1, 0, 0), (61, .bipush 48, 2, 48, 0), (63, .invokespecial 11, 3, 50, 4), (66, .putfield 29, 3, 5, 4),
  (69, .aload_n 0, 1, 0, 0), (70, .new 9, 3, 6, 0), (73, .dup, 1, 0, 0), (74, .bipush 8, 2, 8, 0), (76, .invokespecial 11, 3, 50, 4), (79, .putfield 32, 3, 5, 5), (82, .aload_n 0, 1, 0, 0), (83, .new 9, 3, 6, 0),
  (86, .dup, 1, 0, 0), (87, .bipush 8, 2, 8, 0), (89, .invokespecial 11, 3, 50, 4), (92, .putfield 35, 3, 5, 6), (95, .aload_n 0, 1, 0, 0), (96, .iconst 0, 1, 0, 0), (97, .putfield 38, 3, 5, 7), (100, .return_, 1, 0, 0)]
def co_X5_build : List mz_I := [(0, .aload_n 0, 1, 0, 0), (1, .iconst 0, 1, 0, 0), (2, .putfield 38, 3, 5, 7), (5, .aload_n 0, 1, 0, 0), (6, .getfield 32, 3, 5, 5), (9, .bipush (-6), 2, 4294967290, 0), (11, .invokevirtual 42, 3, 54, 0), (14, .aload_n 0, 1, 0, 0),
  (15, .getfield 35, 3, 5, 6), (18, .bipush (-6), 2, 4294967290, 0), (20, .invokevirtual 42, 3, 54, 0), (23, .iconst 0, 1, 0, 0), (24, .istore_n 2, 1, 0, 0), (25, .iload_n 2, 1, 0, 0), (26, .aload_n 1, 1, 0, 0), (27, .invokevirtual 45, 3, 61, 0),
  (30, .if_icmp .ge 42, 3, 72, 0), (33, .aload_n 1, 1, 0, 0), (34, .iload_n 2, 1, 0, 0), (35, .invokevirtual 50, 3, 69, 0), (38, .ifCond .eq 12, 3, 50, 0), (41, .aload_n 0, 1, 0, 0), (42, .aload_n 1, 1, 0, 0), (43, .iload_n 2, 1, 0, 0),
  (44, .invokevirtual 54, 3, 40, 0), (47, .goto 19, 3, 66, 0), (50, .aload_n 1, 1, 0, 0), (51, .iload_n 2, 1, 0, 0), (52, .iconst 1, 1, 1, 0), (53, .isub, 1, 0, 0), (54, .invokevirtual 50, 3, 69, 0), (57, .ifCond .ne 9, 3, 66, 0),
  (60, .aload_n 0, 1, 0, 0), (61, .aload_n 1, 1, 0, 0), (62, .iload_n 2, 1, 0, 0), (63, .invokevirtual 58, 3, 41, 0), (66, .iinc 2 1, 3, 1, 0), (69, .goto (-44), 3, 25, 0), (72, .return_, 1, 0, 0)]
def co_X5_addWhole : List mz_I := [(0, .aload_n 1, 1, 0, 0), (1, .iload_n 2, 1, 0, 0), (2, .invokevirtual 61, 3, 63, 0), (5, .istore_n 3, 1, 0, 0), (6, .aload_n 1, 1, 0, 0), (7, .iload_n 2, 1, 0, 0), (8, .iconst 1, 1, 1, 0), (9, .iadd, 1, 0, 0),
  (10, .invokevirtual 61, 3, 63, 0), (13, .istore 4, 2, 0, 0), (15, .aload_n 0, 1, 0, 0), (16, .getfield 32, 3, 5, 5), (19, .iload_n 3, 1, 0, 0), (20, .iload 4, 2, 0, 0), (22, .invokevirtual 65, 3, 52, 0), (25, .aload_n 0, 1, 0, 0),
  (26, .getfield 35, 3, 5, 6), (29, .iload 4, 2, 0, 0), (31, .iload_n 3, 1, 0, 0), (32, .invokevirtual 65, 3, 52, 0), (35, .aload_n 0, 1, 0, 0), (36, .iconst 0, 1, 0, 0), (37, .iload_n 3, 1, 0, 0), (38, .iload 4, 2, 0, 0),
  (40, .aload_n 1, 1, 0, 0), (41, .iload_n 2, 1, 0, 0), (42, .invokevirtual 69, 3, 62, 0), (45, .aload_n 1, 1, 0, 0), (46, .iload_n 2, 1, 0, 0), (47, .iconst 1, 1, 1, 0), (48, .iadd, 1, 0, 0), (49, .invokevirtual 69, 3, 62, 0),
  (52, .invokevirtual 72, 3, 42, 0), (55, .return_, 1, 0, 0)]
def co_X5_addLacking : List mz_I := [(0, .aload_n 1, 1, 0, 0), (1, .iload_n 2, 1, 0, 0), (2, .invokevirtual 61, 3, 63, 0), (5, .istore_n 3, 1, 0, 0), (6, .aload_n 1, 1, 0, 0), (7, .iload_n 2, 1, 0, 0), (8, .invokevirtual 69, 3, 62, 0), (11, .istore 4, 2, 0, 0),
  (13, .aload_n 1, 1, 0, 0), (14, .iload_n 2, 1, 0, 0), (15, .invokevirtual 76, 3, 64, 0), (18, .ifCond .ne 24, 3, 42, 0), (21, .aload_n 0, 1, 0, 0), (22, .iconst 1, 1, 1, 0), (23, .iload_n 3, 1, 0, 0), (24, .aload_n 0, 1, 0, 0),
  (25, .getfield 32, 3, 5, 5), (28, .iload_n 3, 1, 0, 0), (29, .invokevirtual 79, 3, 51, 0), (32, .iload 4, 2, 0, 0), (34, .iload 4, 2, 0, 0), (36, .invokevirtual 72, 3, 42, 0), (39, .goto 21, 3, 60, 0), (42, .aload_n 0, 1, 0, 0),
  (43, .iconst 2, 1, 2, 0), (44, .aload_n 0, 1, 0, 0), (45, .getfield 35, 3, 5, 6), (48, .iload_n 3, 1, 0, 0), (49, .invokevirtual 79, 3, 51, 0), (52, .iload_n 3, 1, 0, 0), (53, .iload 4, 2, 0, 0), (55, .iload 4, 2, 0, 0),
  (57, .invokevirtual 72, 3, 42, 0), (60, .return_, 1, 0, 0)]
def co_X5_addRide : List mz_I := [(0, .aload_n 0, 1, 0, 0), (1, .getfield 29, 3, 5, 4), (4, .aload_n 0, 1, 0, 0), (5, .getfield 38, 3, 5, 7), (8, .iload_n 1, 1, 0, 0), (9, .invokevirtual 65, 3, 52, 0), (12, .aload_n 0, 1, 0, 0), (13, .getfield 14, 3, 5, 0),
  (16, .aload_n 0, 1, 0, 0), (17, .getfield 38, 3, 5, 7), (20, .iload_n 2, 1, 0, 0), (21, .invokevirtual 65, 3, 52, 0), (24, .aload_n 0, 1, 0, 0), (25, .getfield 20, 3, 5, 1), (28, .aload_n 0, 1, 0, 0), (29, .getfield 38, 3, 5, 7),
  (32, .iload_n 3, 1, 0, 0), (33, .invokevirtual 65, 3, 52, 0), (36, .aload_n 0, 1, 0, 0), (37, .getfield 23, 3, 5, 2), (40, .aload_n 0, 1, 0, 0), (41, .getfield 38, 3, 5, 7), (44, .iload 4, 2, 0, 0), (46, .invokevirtual 65, 3, 52, 0),
  (49, .aload_n 0, 1, 0, 0), (50, .getfield 26, 3, 5, 3), (53, .aload_n 0, 1, 0, 0), (54, .getfield 38, 3, 5, 7), (57, .iload 5, 2, 0, 0), (59, .invokevirtual 65, 3, 52, 0), (62, .aload_n 0, 1, 0, 0), (63, .dup, 1, 0, 0),
  (64, .getfield 38, 3, 5, 7), (67, .iconst 1, 1, 1, 0), (68, .iadd, 1, 0, 0), (69, .putfield 38, 3, 5, 7), (72, .return_, 1, 0, 0)]
def co_X5_size : List mz_I := [(0, .aload_n 0, 1, 0, 0), (1, .getfield 38, 3, 5, 7), (4, .ireturn, 1, 0, 0)]
def co_X5_beginStation : List mz_I := [(0, .aload_n 0, 1, 0, 0), (1, .getfield 14, 3, 5, 0), (4, .iload_n 1, 1, 0, 0), (5, .invokevirtual 79, 3, 51, 0), (8, .ireturn, 1, 0, 0)]
def co_X5_endStation : List mz_I := [(0, .aload_n 0, 1, 0, 0), (1, .getfield 20, 3, 5, 1), (4, .iload_n 1, 1, 0, 0), (5, .invokevirtual 79, 3, 51, 0), (8, .ireturn, 1, 0, 0)]
def co_X5_beginMoment : List mz_I := [(0, .aload_n 0, 1, 0, 0), (1, .getfield 23, 3, 5, 2), (4, .iload_n 1, 1, 0, 0), (5, .invokevirtual 79, 3, 51, 0), (8, .ireturn, 1, 0, 0)]
def co_X5_kind : List mz_I := [(0, .aload_n 0, 1, 0, 0), (1, .getfield 29, 3, 5, 4), (4, .iload_n 1, 1, 0, 0), (5, .invokevirtual 79, 3, 51, 0), (8, .ireturn, 1, 0, 0)]
def co_X5_isLame : List mz_I := [(0, .aload_n 0, 1, 0, 0), (1, .getfield 14, 3, 5, 0), (4, .iload_n 1, 1, 0, 0), (5, .invokevirtual 79, 3, 51, 0), (8, .bipush (-6), 2, 4294967290, 0), (10, .if_icmp .eq 16, 3, 26, 0), (13, .aload_n 0, 1, 0, 0), (14, .getfield 20, 3, 5, 1),
  (17, .iload_n 1, 1, 0, 0), (18, .invokevirtual 79, 3, 51, 0), (21, .bipush (-6), 2, 4294967290, 0), (23, .if_icmp .ne 7, 3, 30, 0), (26, .iconst 1, 1, 1, 0), (27, .goto 4, 3, 31, 0), (30, .iconst 0, 1, 0, 0), (31, .ireturn, 1, 0, 0)]
def co_X5_goesOn : List mz_I := [(0, .iload_n 1, 1, 0, 0), (1, .ifCond .le 27, 3, 28, 0), (4, .aload_n 0, 1, 0, 0), (5, .getfield 29, 3, 5, 4), (8, .iload_n 1, 1, 0, 0), (9, .invokevirtual 79, 3, 51, 0), (12, .ifCond .ne 16, 3, 28, 0), (15, .aload_n 0, 1, 0, 0),
  (16, .getfield 29, 3, 5, 4), (19, .iload_n 1, 1, 0, 0), (20, .iconst 1, 1, 1, 0), (21, .isub, 1, 0, 0), (22, .invokevirtual 79, 3, 51, 0), (25, .ifCond .eq 5, 3, 30, 0), (28, .iconst 0, 1, 0, 0), (29, .ireturn, 1, 0, 0),
  (30, .aload_n 0, 1, 0, 0), (31, .getfield 23, 3, 5, 2), (34, .iload_n 1, 1, 0, 0), (35, .invokevirtual 79, 3, 51, 0), (38, .istore_n 3, 1, 0, 0), (39, .aload_n 0, 1, 0, 0), (40, .getfield 26, 3, 5, 3), (43, .iload_n 1, 1, 0, 0),
  (44, .iconst 1, 1, 1, 0), (45, .isub, 1, 0, 0), (46, .invokevirtual 79, 3, 51, 0), (49, .istore 4, 2, 0, 0), (51, .iload_n 3, 1, 0, 0), (52, .invokestatic 82, 3, 114, 3), (55, .iload 4, 2, 0, 0), (57, .invokestatic 82, 3, 114, 3),
  (60, .if_icmp .ne 36, 3, 96, 0), (63, .iload_n 3, 1, 0, 0), (64, .iload 4, 2, 0, 0), (66, .isub, 1, 0, 0), (67, .iload_n 2, 1, 0, 0), (68, .if_icmp .gt 28, 3, 96, 0), (71, .aload_n 0, 1, 0, 0), (72, .getfield 14, 3, 5, 0),
  (75, .iload_n 1, 1, 0, 0), (76, .invokevirtual 79, 3, 51, 0), (79, .aload_n 0, 1, 0, 0), (80, .getfield 20, 3, 5, 1), (83, .iload_n 1, 1, 0, 0), (84, .iconst 1, 1, 1, 0), (85, .isub, 1, 0, 0), (86, .invokevirtual 79, 3, 51, 0),
  (89, .if_icmp .ne 7, 3, 96, 0), (92, .iconst 1, 1, 1, 0), (93, .goto 4, 3, 97, 0), (96, .iconst 0, 1, 0, 0), (97, .ireturn, 1, 0, 0)]
def co_X6_init : List mz_I := [(0, .aload_n 0, 1, 0, 0), (1, .invokespecial 1, 3, 999, 6), (4, .aload_n 0, 1, 0, 0), (5, .iload_n 1, 1, 0, 0), (6, .ifCond .ge 7, 3, 13, 0), (9, .iconst 0, 1, 0, 0), (10, .goto 4, 3, 14, 0), (13, .iload_n 1, 1, 0, 0),
  (14, .newarray .int, 2, 0, 0), (16, .putfield 7, 3, 6, 0), (19, .return_, 1, 0, 0)]
def co_X6_at : List mz_I := [(0, .iload_n 1, 1, 0, 0), (1, .ifCond .lt 21, 3, 22, 0), (4, .iload_n 1, 1, 0, 0), (5, .aload_n 0, 1, 0, 0), (6, .getfield 7, 3, 6, 0), (9, .arraylength, 1, 0, 0), (10, .if_icmp .ge 12, 3, 22, 0), (13, .aload_n 0, 1, 0, 0),
  (14, .getfield 7, 3, 6, 0), (17, .iload_n 1, 1, 0, 0), (18, .iaload, 1, 0, 0), (19, .goto 4, 3, 23, 0), (22, .iconst 0, 1, 0, 0), (23, .ireturn, 1, 0, 0)]
def co_X6_put : List mz_I := [(0, .iload_n 1, 1, 0, 0), (1, .ifCond .lt 19, 3, 20, 0), (4, .iload_n 1, 1, 0, 0), (5, .aload_n 0, 1, 0, 0), (6, .getfield 7, 3, 6, 0), (9, .arraylength, 1, 0, 0), (10, .if_icmp .ge 10, 3, 20, 0), (13, .aload_n 0, 1, 0, 0),
  (14, .getfield 7, 3, 6, 0), (17, .iload_n 1, 1, 0, 0), (18, .iload_n 2, 1, 0, 0), (19, .iastore, 1, 0, 0), (20, .return_, 1, 0, 0)]
def co_X6_add : List mz_I := [(0, .aload_n 0, 1, 0, 0), (1, .iload_n 1, 1, 0, 0), (2, .aload_n 0, 1, 0, 0), (3, .iload_n 1, 1, 0, 0), (4, .invokevirtual 13, 3, 51, 0), (7, .iload_n 2, 1, 0, 0), (8, .iadd, 1, 0, 0), (9, .invokevirtual 17, 3, 52, 0),
  (12, .return_, 1, 0, 0)]
def co_X6_fill : List mz_I := [(0, .iconst 0, 1, 0, 0), (1, .istore_n 2, 1, 0, 0), (2, .iload_n 2, 1, 0, 0), (3, .aload_n 0, 1, 0, 0), (4, .getfield 7, 3, 6, 0), (7, .arraylength, 1, 0, 0), (8, .if_icmp .ge 16, 3, 24, 0), (11, .aload_n 0, 1, 0, 0),
  (12, .getfield 7, 3, 6, 0), (15, .iload_n 2, 1, 0, 0), (16, .iload_n 1, 1, 0, 0), (17, .iastore, 1, 0, 0), (18, .iinc 2 1, 3, 1, 0), (21, .goto (-19), 3, 2, 0), (24, .return_, 1, 0, 0)]
def co_X6_sum : List mz_I := [(0, .iconst 0, 1, 0, 0), (1, .istore_n 1, 1, 0, 0), (2, .iconst 0, 1, 0, 0), (3, .istore_n 2, 1, 0, 0), (4, .iload_n 2, 1, 0, 0), (5, .aload_n 0, 1, 0, 0), (6, .getfield 7, 3, 6, 0), (9, .arraylength, 1, 0, 0),
  (10, .if_icmp .ge 18, 3, 28, 0), (13, .iload_n 1, 1, 0, 0), (14, .aload_n 0, 1, 0, 0), (15, .getfield 7, 3, 6, 0), (18, .iload_n 2, 1, 0, 0), (19, .iaload, 1, 0, 0), (20, .iadd, 1, 0, 0), (21, .istore_n 1, 1, 0, 0),
  (22, .iinc 2 1, 3, 1, 0), (25, .goto (-21), 3, 4, 0), (28, .iload_n 1, 1, 0, 0), (29, .ireturn, 1, 0, 0)]
def co_X6_copyFrom : List mz_I := [(0, .iconst 0, 1, 0, 0), (1, .istore_n 2, 1, 0, 0), (2, .iload_n 2, 1, 0, 0), (3, .aload_n 0, 1, 0, 0), (4, .getfield 7, 3, 6, 0), (7, .arraylength, 1, 0, 0), (8, .if_icmp .ge 20, 3, 28, 0), (11, .aload_n 0, 1, 0, 0),
  (12, .getfield 7, 3, 6, 0), (15, .iload_n 2, 1, 0, 0), (16, .aload_n 1, 1, 0, 0), (17, .iload_n 2, 1, 0, 0), (18, .invokevirtual 13, 3, 51, 0), (21, .iastore, 1, 0, 0), (22, .iinc 2 1, 3, 1, 0), (25, .goto (-23), 3, 2, 0),
  (28, .return_, 1, 0, 0)]
def co_X7_init : List mz_I := [(0, .aload_n 0, 1, 0, 0), (1, .invokespecial 1, 3, 999, 6), (4, .aload_n 0, 1, 0, 0), (5, .new 7, 3, 8, 0), (8, .dup, 1, 0, 0), (9, .invokespecial 9, 3, 60, 5), (12, .putfield 10, 3, 7, 0), (15, .aload_n 0, 1, 0, 0),
  (16, .new 7, 3, 8, 0), (19, .dup, 1, 0, 0), (20, .invokespecial 9, 3, 60, 5), (23, .putfield 16, 3, 7, 1), (26, .aload_n 0, 1, 0, 0), (27, .new 7, 3, 8, 0), (30, .dup, 1, 0, 0), (31, .invokespecial 9, 3, 60, 5),
  (34, .putfield 19, 3, 7, 2), (37, .aload_n 0, 1, 0, 0), (38, .new 7, 3, 8, 0), (41, .dup, 1, 0, 0), (42, .invokespecial 9, 3, 60, 5), (45, .putfield 22, 3, 7, 3), (48, .aload_n 0, 1, 0, 0), (49, .new 25, 3, 9, 0),
  (52, .dup, 1, 0, 0), (53, .invokespecial 27, 3, 71, 4), (56, .putfield 28, 3, 7, 4), (59, .aload_n 0, 1, 0, 0), (60, .new 32, 3, 0, 0), (63, .dup, 1, 0, 0), (64, .invokespecial 34, 3, 0, 5), (67, .putfield 35, 3, 7, 5),
  (70, .return_, 1, 0, 0)]
def co_X7_tapsOf : List mz_I := [(0, .iload_n 1, 1, 0, 0), (1, .tableswitch 42 0 2 #[27, 32, 37], 27, 0, 0), (28, .aload_n 0, 1, 0, 0), (29, .getfield 10, 3, 7, 0), (32, .areturn, 1, 0, 0), (33, .aload_n 0, 1, 0, 0), (34, .getfield 16, 3, 7, 1), (37, .areturn, 1, 0, 0),
  (38, .aload_n 0, 1, 0, 0), (39, .getfield 19, 3, 7, 2), (42, .areturn, 1, 0, 0), (43, .aload_n 0, 1, 0, 0), (44, .getfield 22, 3, 7, 3), (47, .areturn, 1, 0, 0)]
def co_X7_copyFrom : List mz_I := [(0, .aload_n 0, 1, 0, 0), (1, .getfield 10, 3, 7, 0), (4, .aload_n 1, 1, 0, 0), (5, .getfield 10, 3, 7, 0), (8, .invokevirtual 39, 3, 70, 0), (11, .aload_n 0, 1, 0, 0), (12, .getfield 16, 3, 7, 1), (15, .aload_n 1, 1, 0, 0),
  (16, .getfield 16, 3, 7, 1), (19, .invokevirtual 39, 3, 70, 0), (22, .aload_n 0, 1, 0, 0), (23, .getfield 19, 3, 7, 2), (26, .aload_n 1, 1, 0, 0), (27, .getfield 19, 3, 7, 2), (30, .invokevirtual 39, 3, 70, 0), (33, .aload_n 0, 1, 0, 0),
  (34, .getfield 22, 3, 7, 3), (37, .aload_n 1, 1, 0, 0), (38, .getfield 22, 3, 7, 3), (41, .invokevirtual 39, 3, 70, 0), (44, .aload_n 0, 1, 0, 0), (45, .getfield 28, 3, 7, 4), (48, .aload_n 1, 1, 0, 0), (49, .getfield 28, 3, 7, 4),
  (52, .invokevirtual 43, 3, 80, 0), (55, .aload_n 0, 1, 0, 0), (56, .getfield 35, 3, 7, 5), (59, .aload_n 1, 1, 0, 0), (60, .getfield 35, 3, 7, 5), (63, .invokevirtual 46, 3, 8, 0), (66, .return_, 1, 0, 0)]
def co_X8_init : List mz_I := [(0, .aload_n 0, 1, 0, 0), (1, .invokespecial 3, 3, 999, 6), (4, .aload_n 0, 1, 0, 0), (5, .new 9, 3, 6, 0), (8, .dup, 1, 0, 0), (9, .bipush 48, 2, 48, 0), (11, .invokespecial 11, 3, 50, 4), (14, .putfield 14, 3, 8, 0),
  (17, .aload_n 0, 1, 0, 0), (18, .new 9, 3, 6, 0), (21, .dup, 1, 0, 0), (22, .bipush 48, 2, 48, 0), (24, .invokespecial 11, 3, 50, 4), (27, .putfield 20, 3, 8, 1), (30, .aload_n 0, 1, 0, 0), (31, .new 9, 3, 6, 0),
  (34, .dup, 1, 0, 0), (35, .bipush 48, 2, 48, 0), (37, .invokespecial 11, 3, 50, 4), (40, .putfield 23, 3, 8, 2), (43, .aload_n 0, 1, 0, 0), (44, .iconst 0, 1, 0, 0), (45, .putfield 26, 3, 8, 3), (48, .return_, 1, 0, 0)]
def co_X8_size : List mz_I := [(0, .aload_n 0, 1, 0, 0), (1, .getfield 26, 3, 8, 3), (4, .ireturn, 1, 0, 0)]
def co_X8_moment : List mz_I := [(0, .aload_n 0, 1, 0, 0), (1, .getfield 14, 3, 8, 0), (4, .iload_n 1, 1, 0, 0), (5, .invokevirtual 30, 3, 51, 0), (8, .ireturn, 1, 0, 0)]
def co_X8_station : List mz_I := [(0, .aload_n 0, 1, 0, 0), (1, .getfield 20, 3, 8, 1), (4, .iload_n 1, 1, 0, 0), (5, .invokevirtual 30, 3, 51, 0), (8, .ireturn, 1, 0, 0)]
def co_X8_way : List mz_I := [(0, .aload_n 0, 1, 0, 0), (1, .getfield 23, 3, 8, 2), (4, .iload_n 1, 1, 0, 0), (5, .invokevirtual 30, 3, 51, 0), (8, .ireturn, 1, 0, 0)]
def co_X8_find : List mz_I := [(0, .iconst 0, 1, 0, 0), (1, .istore_n 2, 1, 0, 0), (2, .iload_n 2, 1, 0, 0), (3, .aload_n 0, 1, 0, 0), (4, .getfield 26, 3, 8, 3), (7, .if_icmp .ge 23, 3, 30, 0), (10, .aload_n 0, 1, 0, 0), (11, .getfield 14, 3, 8, 0),
  (14, .iload_n 2, 1, 0, 0), (15, .invokevirtual 30, 3, 51, 0), (18, .iload_n 1, 1, 0, 0), (19, .if_icmp .ne 5, 3, 24, 0), (22, .iload_n 2, 1, 0, 0), (23, .ireturn, 1, 0, 0), (24, .iinc 2 1, 3, 1, 0), (27, .goto (-25), 3, 2, 0),
  (30, .iconst (-1), 1, 4294967295, 0), (31, .ireturn, 1, 0, 0)]
def co_X8_insert : List mz_I := [(0, .aload_n 0, 1, 0, 0), (1, .getfield 26, 3, 8, 3), (4, .bipush 48, 2, 48, 0), (6, .if_icmp .lt 4, 3, 10, 0), (9, .return_, 1, 0, 0), (10, .aload_n 0, 1, 0, 0), (11, .getfield 26, 3, 8, 3), (14, .istore 4, 2, 0, 0),
  (16, .iload 4, 2, 0, 0), (18, .ifCond .le 34, 3, 52, 0), (21, .aload_n 0, 1, 0, 0), (22, .getfield 14, 3, 8, 0), (25, .iload 4, 2, 0, 0), (27, .iconst 1, 1, 1, 0), (28, .isub, 1, 0, 0), (29, .invokevirtual 30, 3, 51, 0),
  (32, .iload_n 1, 1, 0, 0), (33, .if_icmp .le 19, 3, 52, 0), (36, .aload_n 0, 1, 0, 0), (37, .iload 4, 2, 0, 0), (39, .iconst 1, 1, 1, 0), (40, .isub, 1, 0, 0), (41, .iload 4, 2, 0, 0), (43, .invokevirtual 34, 3, 68, 0),
  (46, .iinc 4 (-1), 3, 4294967295, 0), (49, .goto (-33), 3, 16, 0), (52, .aload_n 0, 1, 0, 0), (53, .getfield 14, 3, 8, 0), (56, .iload 4, 2, 0, 0), (58, .iload_n 1, 1, 0, 0), (59, .invokevirtual 38, 3, 52, 0), (62, .aload_n 0, 1, 0, 0),
  (63, .getfield 20, 3, 8, 1), (66, .iload 4, 2, 0, 0), (68, .iload_n 2, 1, 0, 0), (69, .invokevirtual 38, 3, 52, 0), (72, .aload_n 0, 1, 0, 0), (73, .getfield 23, 3, 8, 2), (76, .iload 4, 2, 0, 0), (78, .iload_n 3, 1, 0, 0),
  (79, .invokevirtual 38, 3, 52, 0), (82, .aload_n 0, 1, 0, 0), (83, .dup, 1, 0, 0), (84, .getfield 26, 3, 8, 3), (87, .iconst 1, 1, 1, 0), (88, .iadd, 1, 0, 0), (89, .putfield 26, 3, 8, 3), (92, .return_, 1, 0, 0)]
def co_X8_remove : List mz_I := [(0, .iload_n 1, 1, 0, 0), (1, .ifCond .lt 11, 3, 12, 0), (4, .iload_n 1, 1, 0, 0), (5, .aload_n 0, 1, 0, 0), (6, .getfield 26, 3, 8, 3), (9, .if_icmp .lt 4, 3, 13, 0), (12, .return_, 1, 0, 0), (13, .iload_n 1, 1, 0, 0),
  (14, .iconst 1, 1, 1, 0), (15, .iadd, 1, 0, 0), (16, .istore_n 2, 1, 0, 0), (17, .iload_n 2, 1, 0, 0), (18, .aload_n 0, 1, 0, 0), (19, .getfield 26, 3, 8, 3), (22, .if_icmp .ge 17, 3, 39, 0), (25, .aload_n 0, 1, 0, 0),
  (26, .iload_n 2, 1, 0, 0), (27, .iload_n 2, 1, 0, 0), (28, .iconst 1, 1, 1, 0), (29, .isub, 1, 0, 0), (30, .invokevirtual 34, 3, 68, 0), (33, .iinc 2 1, 3, 1, 0), (36, .goto (-19), 3, 17, 0), (39, .aload_n 0, 1, 0, 0),
  (40, .dup, 1, 0, 0), (41, .getfield 26, 3, 8, 3), (44, .iconst 1, 1, 1, 0), (45, .isub, 1, 0, 0), (46, .putfield 26, 3, 8, 3), (49, .return_, 1, 0, 0)]
def co_X8_move : List mz_I := [(0, .aload_n 0, 1, 0, 0), (1, .getfield 14, 3, 8, 0), (4, .iload_n 2, 1, 0, 0), (5, .aload_n 0, 1, 0, 0), (6, .getfield 14, 3, 8, 0), (9, .iload_n 1, 1, 0, 0), (10, .invokevirtual 30, 3, 51, 0), (13, .invokevirtual 38, 3, 52, 0),
  (16, .aload_n 0, 1, 0, 0), (17, .getfield 20, 3, 8, 1), (20, .iload_n 2, 1, 0, 0), (21, .aload_n 0, 1, 0, 0), (22, .getfield 20, 3, 8, 1), (25, .iload_n 1, 1, 0, 0), (26, .invokevirtual 30, 3, 51, 0), (29, .invokevirtual 38, 3, 52, 0),
  (32, .aload_n 0, 1, 0, 0), (33, .getfield 23, 3, 8, 2), (36, .iload_n 2, 1, 0, 0), (37, .aload_n 0, 1, 0, 0), (38, .getfield 23, 3, 8, 2), (41, .iload_n 1, 1, 0, 0), (42, .invokevirtual 30, 3, 51, 0), (45, .invokevirtual 38, 3, 52, 0),
  (48, .return_, 1, 0, 0)]
def co_X8_isWholeFrom : List mz_I := [(0, .iload_n 1, 1, 0, 0), (1, .ifCond .lt 69, 3, 70, 0), (4, .iload_n 1, 1, 0, 0), (5, .iconst 1, 1, 1, 0), (6, .iadd, 1, 0, 0), (7, .aload_n 0, 1, 0, 0), (8, .getfield 26, 3, 8, 3), (11, .if_icmp .ge 59, 3, 70, 0),
  (14, .aload_n 0, 1, 0, 0), (15, .getfield 23, 3, 8, 2), (18, .iload_n 1, 1, 0, 0), (19, .invokevirtual 30, 3, 51, 0), (22, .ifCond .ne 48, 3, 70, 0), (25, .aload_n 0, 1, 0, 0), (26, .getfield 23, 3, 8, 2), (29, .iload_n 1, 1, 0, 0),
  (30, .iconst 1, 1, 1, 0), (31, .iadd, 1, 0, 0), (32, .invokevirtual 30, 3, 51, 0), (35, .iconst 1, 1, 1, 0), (36, .if_icmp .ne 34, 3, 70, 0), (39, .aload_n 0, 1, 0, 0), (40, .getfield 14, 3, 8, 0), (43, .iload_n 1, 1, 0, 0),
  (44, .invokevirtual 30, 3, 51, 0), (47, .invokestatic 41, 3, 114, 3), (50, .aload_n 0, 1, 0, 0), (51, .getfield 14, 3, 8, 0), (54, .iload_n 1, 1, 0, 0), (55, .iconst 1, 1, 1, 0), (56, .iadd, 1, 0, 0), (57, .invokevirtual 30, 3, 51, 0),
  (60, .invokestatic 41, 3, 114, 3), (63, .if_icmp .ne 7, 3, 70, 0), (66, .iconst 1, 1, 1, 0), (67, .goto 4, 3, 71, 0), (70, .iconst 0, 1, 0, 0), (71, .ireturn, 1, 0, 0)]
def co_X8_copyFrom : List mz_I := [(0, .aload_n 0, 1, 0, 0), (1, .getfield 14, 3, 8, 0), (4, .aload_n 1, 1, 0, 0), (5, .getfield 14, 3, 8, 0), (8, .invokevirtual 44, 3, 56, 0), (11, .aload_n 0, 1, 0, 0), (12, .getfield 20, 3, 8, 1), (15, .aload_n 1, 1, 0, 0),
  (16, .getfield 20, 3, 8, 1), (19, .invokevirtual 44, 3, 56, 0), (22, .aload_n 0, 1, 0, 0), (23, .getfield 23, 3, 8, 2), (26, .aload_n 1, 1, 0, 0), (27, .getfield 23, 3, 8, 2), (30, .invokevirtual 44, 3, 56, 0), (33, .aload_n 0, 1, 0, 0),
  (34, .aload_n 1, 1, 0, 0), (35, .getfield 26, 3, 8, 3), (38, .putfield 26, 3, 8, 3), (41, .return_, 1, 0, 0)]
def co_X9_init : List mz_I := [(0, .aload_n 0, 1, 0, 0), (1, .invokespecial 3, 3, 999, 6), (4, .aload_n 0, 1, 0, 0), (5, .new 9, 3, 6, 0), (8, .dup, 1, 0, 0), (9, .bipush 8, 2, 8, 0), (11, .invokespecial 11, 3, 50, 4), (14, .putfield 14, 3, 9, 0),
  (17, .aload_n 0, 1, 0, 0), (18, .new 9, 3, 6, 0), (21, .dup, 1, 0, 0), (22, .bipush 6, 2, 6, 0), (24, .invokespecial 11, 3, 50, 4), (27, .putfield 20, 3, 9, 1), (30, .aload_n 0, 1, 0, 0), (31, .new 9, 3, 6, 0),
  (34, .dup, 1, 0, 0), (35, .bipush 6, 2, 6, 0), (37, .invokespecial 11, 3, 50, 4), (40, .putfield 23, 3, 9, 2), (43, .aload_n 0, 1, 0, 0), (44, .new 9, 3, 6, 0), (47, .dup, 1, 0, 0), (48, .bipush 6, 2, 6, 0),
  (50, .invokespecial 11, 3, 50, 4), (53, .putfield 26, 3, 9, 3), (56, .aload_n 0, 1, 0, 0), (57, .bipush 50, 2, 50, 0), (59, .putfield 29, 3, 9, 4), (62, .aload_n 0, 1, 0, 0), (63, .bipush 30, 2, 30, 0), (65, .putfield 33, 3, 9, 5),
  (68, .iconst 0, 1, 0, 0), (69, .istore_n 1, 1, 0, 0), (70, .iload_n 1, 1, 0, 0), (71, .getstatic 36, 3, 0, 0), (74, .arraylength, 1, 0, 0), (75, .if_icmp .ge 22, 3, 97, 0), (78, .aload_n 0, 1, 0, 0), (79, .getfield 14, 3, 9, 0),
  (82, .iload_n 1, 1, 0, 0), (83, .getstatic 36, 3, 0, 0), (86, .iload_n 1, 1, 0, 0), (87, .iaload, 1, 0, 0), (88, .invokevirtual 40, 3, 52, 0), (91, .iinc 1 1, 3, 1, 0), (94, .goto (-24), 3, 70, 0), (97, .iconst 1, 1, 1, 0),
  (98, .istore_n 1, 1, 0, 0), (99, .iload_n 1, 1, 0, 0), (100, .iconst 5, 1, 5, 0), (101, .if_icmp .gt 58, 3, 159, 0), (104, .aload_n 0, 1, 0, 0), (105, .getfield 20, 3, 9, 1), (108, .iload_n 1, 1, 0, 0), (109, .sipush 150, 3, 150, 0),
  (112, .bipush 50, 2, 50, 0), (114, .iload_n 1, 1, 0, 0), (115, .imul, 1, 0, 0), (116, .iadd, 1, 0, 0), (117, .invokevirtual 40, 3, 52, 0), (120, .aload_n 0, 1, 0, 0), (121, .getfield 23, 3, 9, 2), (124, .iload_n 1, 1, 0, 0),
  (125, .sipush 400, 3, 400, 0), (128, .bipush 100, 2, 100, 0), (130, .iload_n 1, 1, 0, 0), (131, .imul, 1, 0, 0), (132, .iadd, 1, 0, 0), (133, .invokevirtual 40, 3, 52, 0), (136, .aload_n 0, 1, 0, 0), (137, .getfield 26, 3, 9, 3),
  (140, .iload_n 1, 1, 0, 0), (141, .sipush 1500, 3, 1500, 0), (144, .sipush 400, 3, 400, 0), (147, .iload_n 1, 1, 0, 0), (148, .imul, 1, 0, 0), (149, .iadd, 1, 0, 0), (150, .invokevirtual 40, 3, 52, 0), (153, .iinc 1 1, 3, 1, 0),
  (156, .goto (-57), 3, 99, 0), (159, .return_, 1, 0, 0)]
def co_X9_zoneOf : List mz_I := [(0, .aload_n 0, 1, 0, 0), (1, .getfield 14, 3, 9, 0), (4, .iload_n 1, 1, 0, 0), (5, .invokevirtual 44, 3, 51, 0), (8, .ireturn, 1, 0, 0)]
def co_X9_putZone : List mz_I := [(0, .aload_n 0, 1, 0, 0), (1, .getfield 14, 3, 9, 0), (4, .iload_n 1, 1, 0, 0), (5, .iload_n 2, 1, 0, 0), (6, .invokevirtual 40, 3, 52, 0), (9, .return_, 1, 0, 0)]
def co_X9_valueOf : List mz_I := [(0, .iload_n 1, 1, 0, 0), (1, .tableswitch 63 0 3 #[31, 40, 49, 58], 31, 0, 0), (32, .aload_n 0, 1, 0, 0), (33, .getfield 20, 3, 9, 1), (36, .iload_n 2, 1, 0, 0), (37, .invokevirtual 44, 3, 51, 0), (40, .ireturn, 1, 0, 0), (41, .aload_n 0, 1, 0, 0),
  (42, .getfield 23, 3, 9, 2), (45, .iload_n 2, 1, 0, 0), (46, .invokevirtual 44, 3, 51, 0), (49, .ireturn, 1, 0, 0), (50, .aload_n 0, 1, 0, 0), (51, .getfield 26, 3, 9, 3), (54, .iload_n 2, 1, 0, 0), (55, .invokevirtual 44, 3, 51, 0),
  (58, .ireturn, 1, 0, 0), (59, .aload_n 0, 1, 0, 0), (60, .getfield 29, 3, 9, 4), (63, .ireturn, 1, 0, 0), (64, .aload_n 0, 1, 0, 0), (65, .getfield 33, 3, 9, 5), (68, .ireturn, 1, 0, 0)]
def co_X9_putValue : List mz_I := [(0, .iload_n 1, 1, 0, 0), (1, .tableswitch 75 0 3 #[31, 43, 55, 67], 31, 0, 0), (32, .aload_n 0, 1, 0, 0), (33, .getfield 20, 3, 9, 1), (36, .iload_n 2, 1, 0, 0), (37, .iload_n 3, 1, 0, 0), (38, .invokevirtual 40, 3, 52, 0), (41, .goto 40, 3, 81, 0),
  (44, .aload_n 0, 1, 0, 0), (45, .getfield 23, 3, 9, 2), (48, .iload_n 2, 1, 0, 0), (49, .iload_n 3, 1, 0, 0), (50, .invokevirtual 40, 3, 52, 0), (53, .goto 28, 3, 81, 0), (56, .aload_n 0, 1, 0, 0), (57, .getfield 26, 3, 9, 3),
  (60, .iload_n 2, 1, 0, 0), (61, .iload_n 3, 1, 0, 0), (62, .invokevirtual 40, 3, 52, 0), (65, .goto 16, 3, 81, 0), (68, .aload_n 0, 1, 0, 0), (69, .iload_n 3, 1, 0, 0), (70, .putfield 29, 3, 9, 4), (73, .goto 8, 3, 81, 0),
  (76, .aload_n 0, 1, 0, 0), (77, .iload_n 3, 1, 0, 0), (78, .putfield 33, 3, 9, 5), (81, .return_, 1, 0, 0)]
def co_X9_near : List mz_I := [(0, .aload_n 0, 1, 0, 0), (1, .getfield 33, 3, 9, 5), (4, .ireturn, 1, 0, 0)]
def co_X9_journeyCost : List mz_I := [(0, .aload_n 0, 1, 0, 0), (1, .getfield 20, 3, 9, 1), (4, .iload_n 1, 1, 0, 0), (5, .invokevirtual 44, 3, 51, 0), (8, .iload_n 2, 1, 0, 0), (9, .ifCond .eq 10, 3, 19, 0), (12, .aload_n 0, 1, 0, 0), (13, .getfield 29, 3, 9, 4),
  (16, .goto 4, 3, 20, 0), (19, .iconst 0, 1, 0, 0), (20, .iadd, 1, 0, 0), (21, .ireturn, 1, 0, 0)]
def co_X9_capped : List mz_I := [(0, .iload_n 2, 1, 0, 0), (1, .ifCond .ne 7, 3, 8, 0), (4, .iconst 0, 1, 0, 0), (5, .goto 15, 3, 20, 0), (8, .iload_n 1, 1, 0, 0), (9, .aload_n 0, 1, 0, 0), (10, .getfield 23, 3, 9, 2), (13, .iload_n 2, 1, 0, 0),
  (14, .invokevirtual 44, 3, 51, 0), (17, .invokestatic 48, 3, 997, 8), (20, .ireturn, 1, 0, 0)]
def co_X9_weekCost : List mz_I := [(0, .iload_n 1, 1, 0, 0), (1, .ifCond .ne 7, 3, 8, 0), (4, .iconst 0, 1, 0, 0), (5, .goto 11, 3, 16, 0), (8, .aload_n 0, 1, 0, 0), (9, .getfield 26, 3, 9, 3), (12, .iload_n 1, 1, 0, 0), (13, .invokevirtual 44, 3, 51, 0),
  (16, .ireturn, 1, 0, 0)]
def co_X9_copyFrom : List mz_I := [(0, .aload_n 0, 1, 0, 0), (1, .getfield 14, 3, 9, 0), (4, .aload_n 1, 1, 0, 0), (5, .getfield 14, 3, 9, 0), (8, .invokevirtual 54, 3, 56, 0), (11, .aload_n 0, 1, 0, 0), (12, .getfield 20, 3, 9, 1), (15, .aload_n 1, 1, 0, 0),
  (16, .getfield 20, 3, 9, 1), (19, .invokevirtual 54, 3, 56, 0), (22, .aload_n 0, 1, 0, 0), (23, .getfield 23, 3, 9, 2), (26, .aload_n 1, 1, 0, 0), (27, .getfield 23, 3, 9, 2), (30, .invokevirtual 54, 3, 56, 0), (33, .aload_n 0, 1, 0, 0),
  (34, .getfield 26, 3, 9, 3), (37, .aload_n 1, 1, 0, 0), (38, .getfield 26, 3, 9, 3), (41, .invokevirtual 54, 3, 56, 0), (44, .aload_n 0, 1, 0, 0), (45, .aload_n 1, 1, 0, 0), (46, .getfield 29, 3, 9, 4), (49, .putfield 29, 3, 9, 4),
  (52, .aload_n 0, 1, 0, 0), (53, .aload_n 1, 1, 0, 0), (54, .getfield 33, 3, 9, 5), (57, .putfield 33, 3, 9, 5), (60, .return_, 1, 0, 0)]
def co_X10_init : List mz_I := [(0, .aload_n 0, 1, 0, 0), (1, .invokespecial 1, 3, 999, 6), (4, .aload_n 0, 1, 0, 0), (5, .new 7, 3, 7, 0), (8, .dup, 1, 0, 0), (9, .invokespecial 9, 3, 57, 5), (12, .putfield 10, 3, 10, 0), (15, .aload_n 0, 1, 0, 0),
  (16, .new 7, 3, 7, 0), (19, .dup, 1, 0, 0), (20, .invokespecial 9, 3, 57, 5), (23, .putfield 16, 3, 10, 1), (26, .aload_n 0, 1, 0, 0), (27, .new 7, 3, 7, 0), (30, .dup, 1, 0, 0), (31, .invokespecial 9, 3, 57, 5),
  (34, .putfield 19, 3, 10, 2), (37, .aload_n 0, 1, 0, 0), (38, .iconst 0, 1, 0, 0), (39, .putfield 22, 3, 10, 3), (42, .aload_n 0, 1, 0, 0), (43, .new 26, 3, 8, 0), (46, .dup, 1, 0, 0), (47, .invokespecial 28, 3, 60, 5),
  (50, .putfield 29, 3, 10, 4), (53, .aload_n 0, 1, 0, 0), (54, .new 33, 3, 1, 0), (57, .dup, 1, 0, 0), (58, .invokespecial 35, 3, 9, 5), (61, .putfield 36, 3, 10, 5), (64, .return_, 1, 0, 0)]
def co_X10_zone : List mz_I := [(0, .iload_n 1, 1, 0, 0), (1, .invokestatic 40, 3, 106, 2), (4, .ifCond .ne 5, 3, 9, 0), (7, .iconst (-1), 1, 4294967295, 0), (8, .ireturn, 1, 0, 0), (9, .iload_n 2, 1, 0, 0), (10, .invokestatic 44, 3, 111, 2), (13, .ifCond .ne 6, 3, 19, 0),
  (16, .bipush (-2), 2, 4294967294, 0), (18, .ireturn, 1, 0, 0), (19, .aload_n 0, 1, 0, 0), (20, .getfield 10, 3, 10, 0), (23, .getfield 47, 3, 7, 4), (26, .iload_n 1, 1, 0, 0), (27, .invokevirtual 51, 3, 72, 0), (30, .istore_n 3, 1, 0, 0),
  (31, .aload_n 0, 1, 0, 0), (32, .getfield 10, 3, 10, 0), (35, .getfield 47, 3, 7, 4), (38, .iload_n 1, 1, 0, 0), (39, .iload_n 2, 1, 0, 0), (40, .invokevirtual 57, 3, 73, 0), (43, .iload_n 3, 1, 0, 0), (44, .ireturn, 1, 0, 0)]
def co_X10_price : List mz_I := [(0, .iload_n 1, 1, 0, 0), (1, .iload_n 2, 1, 0, 0), (2, .iload_n 3, 1, 0, 0), (3, .invokestatic 61, 3, 112, 2), (6, .ifCond .ne 6, 3, 12, 0), (9, .bipush (-2), 2, 4294967294, 0), (11, .ireturn, 1, 0, 0), (12, .aload_n 0, 1, 0, 0),
  (13, .getfield 10, 3, 10, 0), (16, .getfield 47, 3, 7, 4), (19, .iload_n 1, 1, 0, 0), (20, .iload_n 2, 1, 0, 0), (21, .invokevirtual 65, 3, 74, 0), (24, .istore 4, 2, 0, 0), (26, .aload_n 0, 1, 0, 0), (27, .getfield 10, 3, 10, 0),
  (30, .getfield 47, 3, 7, 4), (33, .iload_n 1, 1, 0, 0), (34, .iload_n 2, 1, 0, 0), (35, .iload_n 3, 1, 0, 0), (36, .invokevirtual 69, 3, 75, 0), (39, .iload 4, 2, 0, 0), (41, .ireturn, 1, 0, 0)]
def co_X10_tap : List mz_I := [(0, .aload_n 0, 1, 0, 0), (1, .iload_n 1, 1, 0, 0), (2, .iload_n 2, 1, 0, 0), (3, .iload_n 3, 1, 0, 0), (4, .iload 4, 2, 0, 0), (6, .iload 5, 2, 0, 0), (8, .invokevirtual 73, 3, 99, 0), (11, .istore 6, 2, 0, 0),
  (13, .iload 6, 2, 0, 0), (15, .ifCond .eq 6, 3, 21, 0), (18, .iload 6, 2, 0, 0), (20, .ireturn, 1, 0, 0), (21, .aload_n 0, 1, 0, 0), (22, .getfield 10, 3, 10, 0), (25, .iload_n 1, 1, 0, 0), (26, .invokevirtual 77, 3, 58, 0),
  (29, .astore 7, 2, 0, 0), (31, .aload 7, 2, 0, 0), (33, .iload_n 2, 1, 0, 0), (34, .iload_n 3, 1, 0, 0), (35, .invokestatic 81, 3, 113, 2), (38, .iload 4, 2, 0, 0), (40, .iload 5, 2, 0, 0), (42, .invokevirtual 84, 3, 66, 0),
  (45, .aload 7, 2, 0, 0), (47, .invokevirtual 87, 3, 61, 0), (50, .ireturn, 1, 0, 0)]
def co_X10_untap : List mz_I := [(0, .iload_n 1, 1, 0, 0), (1, .invokestatic 91, 3, 105, 2), (4, .ifCond .ne 5, 3, 9, 0), (7, .iconst (-1), 1, 4294967295, 0), (8, .ireturn, 1, 0, 0), (9, .iload_n 2, 1, 0, 0), (10, .invokestatic 94, 3, 109, 2), (13, .ifCond .eq 10, 3, 23, 0),
  (16, .iload_n 3, 1, 0, 0), (17, .invokestatic 97, 3, 110, 2), (20, .ifCond .ne 6, 3, 26, 0), (23, .bipush (-2), 2, 4294967294, 0), (25, .ireturn, 1, 0, 0), (26, .aload_n 0, 1, 0, 0), (27, .getfield 10, 3, 10, 0), (30, .iload_n 1, 1, 0, 0),
  (31, .invokevirtual 77, 3, 58, 0), (34, .astore 4, 2, 0, 0), (36, .aload 4, 2, 0, 0), (38, .iload_n 2, 1, 0, 0), (39, .iload_n 3, 1, 0, 0), (40, .invokestatic 81, 3, 113, 2), (43, .invokevirtual 100, 3, 65, 0), (46, .istore 5, 2, 0, 0),
  (48, .iload 5, 2, 0, 0), (50, .ifCond .ge 6, 3, 56, 0), (53, .bipush (-5), 2, 4294967291, 0), (55, .ireturn, 1, 0, 0), (56, .aload 4, 2, 0, 0), (58, .iload 5, 2, 0, 0), (60, .invokevirtual 103, 3, 67, 0), (63, .aload 4, 2, 0, 0),
  (65, .invokevirtual 87, 3, 61, 0), (68, .ireturn, 1, 0, 0)]
def co_X10_told : List mz_I := [(0, .iload_n 1, 1, 0, 0), (1, .invokestatic 91, 3, 105, 2), (4, .ifCond .ne 5, 3, 9, 0), (7, .iconst (-1), 1, 4294967295, 0), (8, .ireturn, 1, 0, 0), (9, .iload_n 3, 1, 0, 0), (10, .iconst 0, 1, 0, 0), (11, .iconst 3, 1, 3, 0),
  (12, .invokestatic 107, 3, 104, 2), (15, .ifCond .ne 6, 3, 21, 0), (18, .bipush (-2), 2, 4294967294, 0), (20, .ireturn, 1, 0, 0), (21, .aload_n 0, 1, 0, 0), (22, .getfield 10, 3, 10, 0), (25, .iload_n 1, 1, 0, 0), (26, .invokevirtual 77, 3, 58, 0),
  (29, .astore 4, 2, 0, 0), (31, .iload_n 2, 1, 0, 0), (32, .ifCond .lt 12, 3, 44, 0), (35, .iload_n 2, 1, 0, 0), (36, .aload 4, 2, 0, 0), (38, .invokevirtual 87, 3, 61, 0), (41, .if_icmp .lt 6, 3, 47, 0), (44, .bipush (-6), 2, 4294967290, 0),
  (46, .ireturn, 1, 0, 0), (47, .iload_n 3, 1, 0, 0), (48, .tableswitch 55 0 2 #[28, 38, 48], 28, 0, 0), (76, .aload 4, 2, 0, 0), (78, .iload_n 2, 1, 0, 0), (79, .invokevirtual 110, 3, 62, 0), (82, .invokestatic 113, 3, 114, 2), (85, .ireturn, 1, 0, 0),
  (86, .aload 4, 2, 0, 0), (88, .iload_n 2, 1, 0, 0), (89, .invokevirtual 110, 3, 62, 0), (92, .invokestatic 116, 3, 115, 2), (95, .ireturn, 1, 0, 0), (96, .aload 4, 2, 0, 0), (98, .iload_n 2, 1, 0, 0), (99, .invokevirtual 119, 3, 63, 0),
  (102, .ireturn, 1, 0, 0), (103, .aload 4, 2, 0, 0), (105, .iload_n 2, 1, 0, 0), (106, .invokevirtual 122, 3, 64, 0), (109, .ireturn, 1, 0, 0)]
def co_X10_ride : List mz_I := [(0, .iload_n 1, 1, 0, 0), (1, .iload_n 2, 1, 0, 0), (2, .iload_n 3, 1, 0, 0), (3, .invokestatic 125, 3, 100, 2), (6, .istore 4, 2, 0, 0), (8, .iload 4, 2, 0, 0), (10, .ifCond .eq 6, 3, 16, 0), (13, .iload 4, 2, 0, 0),
  (15, .ireturn, 1, 0, 0), (16, .aload_n 0, 1, 0, 0), (17, .iload_n 1, 1, 0, 0), (18, .invokevirtual 129, 3, 101, 0), (21, .aload_n 0, 1, 0, 0), (22, .getfield 36, 3, 10, 5), (25, .getfield 132, 3, 1, 0), (28, .astore 5, 2, 0, 0),
  (30, .iload_n 2, 1, 0, 0), (31, .ifCond .ge 9, 3, 40, 0), (34, .aload 5, 2, 0, 0), (36, .invokevirtual 136, 3, 43, 0), (39, .ireturn, 1, 0, 0), (40, .iload_n 2, 1, 0, 0), (41, .aload 5, 2, 0, 0), (43, .invokevirtual 136, 3, 43, 0),
  (46, .if_icmp .lt 6, 3, 52, 0), (49, .bipush (-6), 2, 4294967290, 0), (51, .ireturn, 1, 0, 0), (52, .iload_n 3, 1, 0, 0), (53, .tableswitch 67 0 3 #[31, 38, 45, 52], 31, 0, 0), (84, .aload 5, 2, 0, 0), (86, .iload_n 2, 1, 0, 0), (87, .invokevirtual 139, 3, 44, 0),
  (90, .ireturn, 1, 0, 0), (91, .aload 5, 2, 0, 0), (93, .iload_n 2, 1, 0, 0), (94, .invokevirtual 142, 3, 45, 0), (97, .ireturn, 1, 0, 0), (98, .aload 5, 2, 0, 0), (100, .iload_n 2, 1, 0, 0), (101, .invokevirtual 145, 3, 47, 0),
  (104, .ireturn, 1, 0, 0), (105, .aload 5, 2, 0, 0), (107, .iload_n 2, 1, 0, 0), (108, .invokevirtual 148, 3, 48, 0), (111, .ifCond .eq 7, 3, 118, 0), (114, .iconst 1, 1, 1, 0), (115, .goto 4, 3, 119, 0), (118, .iconst 0, 1, 0, 0),
  (119, .ireturn, 1, 0, 0), (120, .aload_n 0, 1, 0, 0), (121, .getfield 36, 3, 10, 5), (124, .getfield 151, 3, 1, 1), (127, .iload_n 2, 1, 0, 0), (128, .invokevirtual 155, 3, 29, 0), (131, .ireturn, 1, 0, 0)]
def co_X10_journey : List mz_I := [(0, .iload_n 1, 1, 0, 0), (1, .iload_n 2, 1, 0, 0), (2, .iload_n 3, 1, 0, 0), (3, .invokestatic 125, 3, 100, 2), (6, .istore 4, 2, 0, 0), (8, .iload 4, 2, 0, 0), (10, .ifCond .eq 6, 3, 16, 0), (13, .iload 4, 2, 0, 0),
  (15, .ireturn, 1, 0, 0), (16, .aload_n 0, 1, 0, 0), (17, .iload_n 1, 1, 0, 0), (18, .invokevirtual 129, 3, 101, 0), (21, .aload_n 0, 1, 0, 0), (22, .getfield 36, 3, 10, 5), (25, .getfield 151, 3, 1, 1), (28, .astore 5, 2, 0, 0),
  (30, .iload_n 2, 1, 0, 0), (31, .ifCond .ge 9, 3, 40, 0), (34, .aload 5, 2, 0, 0), (36, .invokevirtual 160, 3, 24, 0), (39, .ireturn, 1, 0, 0), (40, .iload_n 2, 1, 0, 0), (41, .aload 5, 2, 0, 0), (43, .invokevirtual 160, 3, 24, 0),
  (46, .if_icmp .lt 6, 3, 52, 0), (49, .bipush (-6), 2, 4294967290, 0), (51, .ireturn, 1, 0, 0), (52, .iload_n 3, 1, 0, 0), (53, .tableswitch 62 0 3 #[31, 41, 48, 55], 31, 0, 0), (84, .aload 5, 2, 0, 0), (86, .iload_n 2, 1, 0, 0), (87, .invokevirtual 161, 3, 25, 0),
  (90, .invokestatic 113, 3, 114, 2), (93, .ireturn, 1, 0, 0), (94, .aload 5, 2, 0, 0), (96, .iload_n 2, 1, 0, 0), (97, .invokevirtual 162, 3, 26, 0), (100, .ireturn, 1, 0, 0), (101, .aload 5, 2, 0, 0), (103, .iload_n 2, 1, 0, 0),
  (104, .invokevirtual 165, 3, 27, 0), (107, .ireturn, 1, 0, 0), (108, .aload 5, 2, 0, 0), (110, .iload_n 2, 1, 0, 0), (111, .invokevirtual 168, 3, 28, 0), (114, .ireturn, 1, 0, 0), (115, .aload 5, 2, 0, 0), (117, .iload_n 2, 1, 0, 0),
  (118, .invokevirtual 161, 3, 25, 0), (121, .invokestatic 171, 3, 116, 2), (124, .ifCond .eq 7, 3, 131, 0), (127, .iconst 1, 1, 1, 0), (128, .goto 4, 3, 132, 0), (131, .iconst 0, 1, 0, 0), (132, .ireturn, 1, 0, 0)]
def co_X10_day : List mz_I := [(0, .iload_n 1, 1, 0, 0), (1, .invokestatic 91, 3, 105, 2), (4, .ifCond .ne 5, 3, 9, 0), (7, .iconst (-1), 1, 4294967295, 0), (8, .ireturn, 1, 0, 0), (9, .iload_n 2, 1, 0, 0), (10, .invokestatic 94, 3, 109, 2), (13, .ifCond .eq 12, 3, 25, 0),
  (16, .iload_n 3, 1, 0, 0), (17, .iconst 0, 1, 0, 0), (18, .iconst 3, 1, 3, 0), (19, .invokestatic 107, 3, 104, 2), (22, .ifCond .ne 6, 3, 28, 0), (25, .bipush (-2), 2, 4294967294, 0), (27, .ireturn, 1, 0, 0), (28, .aload_n 0, 1, 0, 0),
  (29, .iload_n 1, 1, 0, 0), (30, .invokevirtual 129, 3, 101, 0), (33, .iload_n 3, 1, 0, 0), (34, .tableswitch 62 0 2 #[26, 38, 50], 26, 0, 0), (60, .aload_n 0, 1, 0, 0), (61, .getfield 36, 3, 10, 5), (64, .getfield 174, 3, 1, 2), (67, .iload_n 2, 1, 0, 0),
  (68, .invokevirtual 178, 3, 13, 0), (71, .ireturn, 1, 0, 0), (72, .aload_n 0, 1, 0, 0), (73, .getfield 36, 3, 10, 5), (76, .getfield 174, 3, 1, 2), (79, .iload_n 2, 1, 0, 0), (80, .invokevirtual 183, 3, 14, 0), (83, .ireturn, 1, 0, 0),
  (84, .aload_n 0, 1, 0, 0), (85, .getfield 36, 3, 10, 5), (88, .getfield 174, 3, 1, 2), (91, .iload_n 2, 1, 0, 0), (92, .invokevirtual 184, 3, 15, 0), (95, .ireturn, 1, 0, 0), (96, .aload_n 0, 1, 0, 0), (97, .getfield 36, 3, 10, 5),
  (100, .getfield 187, 3, 1, 3), (103, .iload_n 2, 1, 0, 0), (104, .invokevirtual 191, 3, 37, 0), (107, .ifCond .eq 7, 3, 114, 0), (110, .iconst 1, 1, 1, 0), (111, .goto 4, 3, 115, 0), (114, .iconst 0, 1, 0, 0), (115, .ireturn, 1, 0, 0)]
def co_X10_best : List mz_I := [(0, .iload_n 1, 1, 0, 0), (1, .invokestatic 91, 3, 105, 2), (4, .ifCond .ne 5, 3, 9, 0), (7, .iconst (-1), 1, 4294967295, 0), (8, .ireturn, 1, 0, 0), (9, .iload_n 2, 1, 0, 0), (10, .iconst 0, 1, 0, 0), (11, .iconst 1, 1, 1, 0),
  (12, .invokestatic 107, 3, 104, 2), (15, .ifCond .ne 17, 3, 32, 0), (18, .iload_n 2, 1, 0, 0), (19, .bipush 10, 2, 10, 0), (21, .bipush 13, 2, 13, 0), (23, .invokestatic 107, 3, 104, 2), (26, .ifCond .ne 6, 3, 32, 0), (29, .bipush (-2), 2, 4294967294, 0),
  (31, .ireturn, 1, 0, 0), (32, .aload_n 0, 1, 0, 0), (33, .iload_n 1, 1, 0, 0), (34, .invokevirtual 129, 3, 101, 0), (37, .aload_n 0, 1, 0, 0), (38, .getfield 36, 3, 10, 5), (41, .getfield 187, 3, 1, 3), (44, .astore_n 3, 1, 0, 0),
  (45, .iload_n 2, 1, 0, 0), (46, .ifCond .ne 8, 3, 54, 0), (49, .aload_n 3, 1, 0, 0), (50, .invokevirtual 196, 3, 34, 0), (53, .ireturn, 1, 0, 0), (54, .iload_n 2, 1, 0, 0), (55, .iconst 1, 1, 1, 0), (56, .if_icmp .ne 8, 3, 64, 0),
  (59, .aload_n 3, 1, 0, 0), (60, .invokevirtual 198, 3, 35, 0), (63, .ireturn, 1, 0, 0), (64, .iload_n 2, 1, 0, 0), (65, .bipush 10, 2, 10, 0), (67, .isub, 1, 0, 0), (68, .aload_n 3, 1, 0, 0), (69, .invokevirtual 198, 3, 35, 0),
  (72, .if_icmp .ge 14, 3, 86, 0), (75, .aload_n 3, 1, 0, 0), (76, .iload_n 2, 1, 0, 0), (77, .bipush 10, 2, 10, 0), (79, .isub, 1, 0, 0), (80, .invokevirtual 201, 3, 36, 0), (83, .goto 5, 3, 88, 0), (86, .bipush (-6), 2, 4294967290, 0),
  (88, .ireturn, 1, 0, 0)]
def co_X10_saved : List mz_I := [(0, .iload_n 1, 1, 0, 0), (1, .invokestatic 91, 3, 105, 2), (4, .ifCond .ne 5, 3, 9, 0), (7, .iconst (-1), 1, 4294967295, 0), (8, .ireturn, 1, 0, 0), (9, .iload_n 2, 1, 0, 0), (10, .iconst 0, 1, 0, 0), (11, .iconst 1, 1, 1, 0),
  (12, .invokestatic 107, 3, 104, 2), (15, .ifCond .ne 6, 3, 21, 0), (18, .bipush (-2), 2, 4294967294, 0), (20, .ireturn, 1, 0, 0), (21, .aload_n 0, 1, 0, 0), (22, .iload_n 1, 1, 0, 0), (23, .invokevirtual 129, 3, 101, 0), (26, .aload_n 0, 1, 0, 0),
  (27, .getfield 36, 3, 10, 5), (30, .getfield 174, 3, 1, 2), (33, .invokevirtual 204, 3, 17, 0), (36, .istore_n 3, 1, 0, 0), (37, .iload_n 2, 1, 0, 0), (38, .ifCond .ne 18, 3, 56, 0), (41, .aload_n 0, 1, 0, 0), (42, .getfield 36, 3, 10, 5),
  (45, .getfield 174, 3, 1, 2), (48, .invokevirtual 207, 3, 16, 0), (51, .iload_n 3, 1, 0, 0), (52, .isub, 1, 0, 0), (53, .goto 15, 3, 68, 0), (56, .iload_n 3, 1, 0, 0), (57, .aload_n 0, 1, 0, 0), (58, .getfield 36, 3, 10, 5),
  (61, .getfield 187, 3, 1, 3), (64, .invokevirtual 196, 3, 34, 0), (67, .isub, 1, 0, 0), (68, .ireturn, 1, 0, 0)]
def co_X10_would : List mz_I := [(0, .aload_n 0, 1, 0, 0), (1, .iload_n 1, 1, 0, 0), (2, .iload_n 2, 1, 0, 0), (3, .iload_n 3, 1, 0, 0), (4, .iload 4, 2, 0, 0), (6, .iload 5, 2, 0, 0), (8, .invokevirtual 73, 3, 99, 0), (11, .istore 6, 2, 0, 0),
  (13, .iload 6, 2, 0, 0), (15, .ifCond .eq 6, 3, 21, 0), (18, .iload 6, 2, 0, 0), (20, .ireturn, 1, 0, 0), (21, .aload_n 0, 1, 0, 0), (22, .iload_n 1, 1, 0, 0), (23, .invokevirtual 129, 3, 101, 0), (26, .aload_n 0, 1, 0, 0),
  (27, .getfield 36, 3, 10, 5), (30, .getfield 187, 3, 1, 3), (33, .invokevirtual 196, 3, 34, 0), (36, .istore 7, 2, 0, 0), (38, .aload_n 0, 1, 0, 0), (39, .getfield 29, 3, 10, 4), (42, .aload_n 0, 1, 0, 0), (43, .getfield 10, 3, 10, 0),
  (46, .iload_n 1, 1, 0, 0), (47, .invokevirtual 77, 3, 58, 0), (50, .invokevirtual 210, 3, 70, 0), (53, .aload_n 0, 1, 0, 0), (54, .getfield 29, 3, 10, 4), (57, .iload_n 2, 1, 0, 0), (58, .iload_n 3, 1, 0, 0), (59, .invokestatic 81, 3, 113, 2),
  (62, .iload 4, 2, 0, 0), (64, .iload 5, 2, 0, 0), (66, .invokevirtual 84, 3, 66, 0), (69, .aload_n 0, 1, 0, 0), (70, .getfield 36, 3, 10, 5), (73, .aload_n 0, 1, 0, 0), (74, .getfield 29, 3, 10, 4), (77, .aload_n 0, 1, 0, 0),
  (78, .getfield 10, 3, 10, 0), (81, .getfield 47, 3, 7, 4), (84, .invokevirtual 214, 3, 10, 0), (87, .aload_n 0, 1, 0, 0), (88, .getfield 36, 3, 10, 5), (91, .getfield 187, 3, 1, 3), (94, .invokevirtual 196, 3, 34, 0), (97, .iload 7, 2, 0, 0),
  (99, .isub, 1, 0, 0), (100, .ldc 217, 2, 100000, 0), (102, .iadd, 1, 0, 0), (103, .ireturn, 1, 0, 0)]
def co_X10_bar : List mz_I := [(0, .iload_n 1, 1, 0, 0), (1, .invokestatic 91, 3, 105, 2), (4, .ifCond .ne 5, 3, 9, 0), (7, .iconst (-1), 1, 4294967295, 0), (8, .ireturn, 1, 0, 0), (9, .iload_n 2, 1, 0, 0), (10, .iconst 0, 1, 0, 0), (11, .iconst 1, 1, 1, 0),
  (12, .invokestatic 107, 3, 104, 2), (15, .ifCond .ne 6, 3, 21, 0), (18, .bipush (-2), 2, 4294967294, 0), (20, .ireturn, 1, 0, 0), (21, .aload_n 0, 1, 0, 0), (22, .getfield 10, 3, 10, 0), (25, .getfield 218, 3, 7, 5), (28, .iload_n 1, 1, 0, 0),
  (29, .iload_n 2, 1, 0, 0), (30, .iconst 1, 1, 1, 0), (31, .if_icmp .ne 7, 3, 38, 0), (34, .iconst 1, 1, 1, 0), (35, .goto 4, 3, 39, 0), (38, .iconst 0, 1, 0, 0), (39, .invokevirtual 222, 3, 5, 0), (42, .aload_n 0, 1, 0, 0),
  (43, .getfield 10, 3, 10, 0), (46, .getfield 218, 3, 7, 5), (49, .invokevirtual 228, 3, 1, 0), (52, .ireturn, 1, 0, 0)]
def co_X10_hear : List mz_I := [(0, .iload_n 1, 1, 0, 0), (1, .invokestatic 231, 3, 107, 2), (4, .ifCond .ne 5, 3, 9, 0), (7, .iconst (-1), 1, 4294967295, 0), (8, .ireturn, 1, 0, 0), (9, .aload_n 0, 1, 0, 0), (10, .getfield 10, 3, 10, 0), (13, .getfield 218, 3, 7, 5),
  (16, .iload_n 1, 1, 0, 0), (17, .invokevirtual 234, 3, 3, 0), (20, .istore_n 2, 1, 0, 0), (21, .aload_n 0, 1, 0, 0), (22, .getfield 10, 3, 10, 0), (25, .getfield 218, 3, 7, 5), (28, .iload_n 1, 1, 0, 0), (29, .invokevirtual 237, 3, 6, 0),
  (32, .aload_n 0, 1, 0, 0), (33, .getfield 10, 3, 10, 0), (36, .getfield 218, 3, 7, 5), (39, .invokevirtual 228, 3, 1, 0), (42, .iload_n 2, 1, 0, 0), (43, .isub, 1, 0, 0), (44, .ireturn, 1, 0, 0)]
def co_X10_pass : List mz_I := [(0, .iload_n 1, 1, 0, 0), (1, .invokestatic 231, 3, 107, 2), (4, .ifCond .eq 10, 3, 14, 0), (7, .iload_n 2, 1, 0, 0), (8, .invokestatic 91, 3, 105, 2), (11, .ifCond .ne 5, 3, 16, 0), (14, .iconst (-1), 1, 4294967295, 0), (15, .ireturn, 1, 0, 0),
  (16, .aload_n 0, 1, 0, 0), (17, .getfield 10, 3, 10, 0), (20, .getfield 218, 3, 7, 5), (23, .iload_n 1, 1, 0, 0), (24, .iload_n 2, 1, 0, 0), (25, .invokevirtual 240, 3, 4, 0), (28, .ifCond .eq 7, 3, 35, 0), (31, .iconst 0, 1, 0, 0),
  (32, .goto 4, 3, 36, 0), (35, .iconst 1, 1, 1, 0), (36, .ireturn, 1, 0, 0)]
def co_X10_image : List mz_I := [(0, .iload_n 1, 1, 0, 0), (1, .invokestatic 244, 3, 108, 2), (4, .ifCond .ne 6, 3, 10, 0), (7, .bipush (-2), 2, 4294967294, 0), (9, .ireturn, 1, 0, 0), (10, .aload_n 0, 1, 0, 0), (11, .iload_n 1, 1, 0, 0), (12, .invokevirtual 247, 3, 103, 0),
  (15, .aload_n 0, 1, 0, 0), (16, .getfield 10, 3, 10, 0), (19, .invokevirtual 251, 3, 59, 0), (22, .aload_n 0, 1, 0, 0), (23, .dup, 1, 0, 0), (24, .getfield 22, 3, 10, 3), (27, .iconst 1, 1, 1, 0), (28, .iload_n 1, 1, 0, 0),
  (29, .ishl, 1, 0, 0), (30, .ior, 1, 0, 0), (31, .putfield 22, 3, 10, 3), (34, .iconst 1, 1, 1, 0), (35, .ireturn, 1, 0, 0)]
def co_X10_restore : List mz_I := [(0, .iload_n 1, 1, 0, 0), (1, .invokestatic 244, 3, 108, 2), (4, .ifCond .ne 6, 3, 10, 0), (7, .bipush (-2), 2, 4294967294, 0), (9, .ireturn, 1, 0, 0), (10, .aload_n 0, 1, 0, 0), (11, .getfield 22, 3, 10, 3), (14, .iload_n 1, 1, 0, 0),
  (15, .ishr, 1, 0, 0), (16, .iconst 1, 1, 1, 0), (17, .iand, 1, 0, 0), (18, .ifCond .ne 6, 3, 24, 0), (21, .bipush (-3), 2, 4294967293, 0), (23, .ireturn, 1, 0, 0), (24, .aload_n 0, 1, 0, 0), (25, .getfield 10, 3, 10, 0),
  (28, .aload_n 0, 1, 0, 0), (29, .iload_n 1, 1, 0, 0), (30, .invokevirtual 247, 3, 103, 0), (33, .invokevirtual 251, 3, 59, 0), (36, .iconst 1, 1, 1, 0), (37, .ireturn, 1, 0, 0)]
def co_X10_count : List mz_I := [(0, .iload_n 1, 1, 0, 0), (1, .invokestatic 91, 3, 105, 2), (4, .ifCond .eq 15, 3, 19, 0), (7, .aload_n 0, 1, 0, 0), (8, .getfield 10, 3, 10, 0), (11, .iload_n 1, 1, 0, 0), (12, .invokevirtual 77, 3, 58, 0), (15, .invokevirtual 87, 3, 61, 0),
  (18, .ireturn, 1, 0, 0), (19, .iload_n 1, 1, 0, 0), (20, .bipush 10, 2, 10, 0), (22, .bipush 13, 2, 13, 0), (24, .invokestatic 107, 3, 104, 2), (27, .ifCond .eq 18, 3, 45, 0), (30, .aload_n 0, 1, 0, 0), (31, .getfield 10, 3, 10, 0),
  (34, .getfield 218, 3, 7, 5), (37, .iload_n 1, 1, 0, 0), (38, .bipush 10, 2, 10, 0), (40, .isub, 1, 0, 0), (41, .invokevirtual 234, 3, 3, 0), (44, .ireturn, 1, 0, 0), (45, .iload_n 1, 1, 0, 0), (46, .bipush 20, 2, 20, 0),
  (48, .bipush 27, 2, 27, 0), (50, .invokestatic 107, 3, 104, 2), (53, .ifCond .eq 18, 3, 71, 0), (56, .aload_n 0, 1, 0, 0), (57, .getfield 10, 3, 10, 0), (60, .getfield 47, 3, 7, 4), (63, .iload_n 1, 1, 0, 0), (64, .bipush 20, 2, 20, 0),
  (66, .isub, 1, 0, 0), (67, .invokevirtual 51, 3, 72, 0), (70, .ireturn, 1, 0, 0), (71, .iload_n 1, 1, 0, 0), (72, .tableswitch 79 4 8 #[36, 47, 58, 69, 74], 36, 0, 0), (108, .aload_n 0, 1, 0, 0), (109, .getfield 10, 3, 10, 0), (112, .getfield 218, 3, 7, 5),
  (115, .invokevirtual 228, 3, 1, 0), (118, .ireturn, 1, 0, 0), (119, .aload_n 0, 1, 0, 0), (120, .getfield 10, 3, 10, 0), (123, .getfield 218, 3, 7, 5), (126, .invokevirtual 254, 3, 2, 0), (129, .ireturn, 1, 0, 0), (130, .aload_n 0, 1, 0, 0),
  (131, .getfield 10, 3, 10, 0), (134, .getfield 218, 3, 7, 5), (137, .invokevirtual 257, 3, 7, 0), (140, .ireturn, 1, 0, 0), (141, .aload_n 0, 1, 0, 0), (142, .invokevirtual 260, 3, 102, 0), (145, .ireturn, 1, 0, 0), (146, .aload_n 0, 1, 0, 0),
  (147, .getfield 22, 3, 10, 3), (150, .ireturn, 1, 0, 0), (151, .bipush (-2), 2, 4294967294, 0), (153, .ireturn, 1, 0, 0)]
def co_X10_refusalOfTap : List mz_I := [(0, .iload_n 1, 1, 0, 0), (1, .invokestatic 91, 3, 105, 2), (4, .ifCond .eq 11, 3, 15, 0), (7, .iload 4, 2, 0, 0), (9, .invokestatic 40, 3, 106, 2), (12, .ifCond .ne 5, 3, 17, 0), (15, .iconst (-1), 1, 4294967295, 0), (16, .ireturn, 1, 0, 0),
  (17, .iload_n 2, 1, 0, 0), (18, .invokestatic 94, 3, 109, 2), (21, .ifCond .eq 20, 3, 41, 0), (24, .iload_n 3, 1, 0, 0), (25, .invokestatic 97, 3, 110, 2), (28, .ifCond .eq 13, 3, 41, 0), (31, .iload 5, 2, 0, 0), (33, .iconst 0, 1, 0, 0),
  (34, .iconst 1, 1, 1, 0), (35, .invokestatic 107, 3, 104, 2), (38, .ifCond .ne 6, 3, 44, 0), (41, .bipush (-2), 2, 4294967294, 0), (43, .ireturn, 1, 0, 0), (44, .aload_n 0, 1, 0, 0), (45, .getfield 10, 3, 10, 0), (48, .iload_n 1, 1, 0, 0),
  (49, .invokevirtual 77, 3, 58, 0), (52, .astore 6, 2, 0, 0), (54, .aload 6, 2, 0, 0), (56, .iload_n 2, 1, 0, 0), (57, .iload_n 3, 1, 0, 0), (58, .invokestatic 81, 3, 113, 2), (61, .invokevirtual 100, 3, 65, 0), (64, .ifCond .lt 6, 3, 70, 0),
  (67, .bipush (-5), 2, 4294967291, 0), (69, .ireturn, 1, 0, 0), (70, .aload 6, 2, 0, 0), (72, .invokevirtual 87, 3, 61, 0), (75, .bipush 48, 2, 48, 0), (77, .if_icmp .lt 8, 3, 85, 0), (80, .bipush (-4), 2, 4294967292, 0), (82, .goto 4, 3, 86, 0),
  (85, .iconst 0, 1, 0, 0), (86, .ireturn, 1, 0, 0)]
def co_X10_refusalOfPart : List mz_I := [(0, .iload_n 0, 1, 0, 0), (1, .invokestatic 91, 3, 105, 2), (4, .ifCond .ne 5, 3, 9, 0), (7, .iconst (-1), 1, 4294967295, 0), (8, .ireturn, 1, 0, 0), (9, .iload_n 1, 1, 0, 0), (10, .iconst (-1), 1, 4294967295, 0), (11, .if_icmp .lt 12, 3, 23, 0),
  (14, .iload_n 2, 1, 0, 0), (15, .iconst 0, 1, 0, 0), (16, .iconst 4, 1, 4, 0), (17, .invokestatic 107, 3, 104, 2), (20, .ifCond .ne 8, 3, 28, 0), (23, .bipush (-2), 2, 4294967294, 0), (25, .goto 4, 3, 29, 0), (28, .iconst 0, 1, 0, 0),
  (29, .ireturn, 1, 0, 0)]
def co_X10_reckon : List mz_I := [(0, .aload_n 0, 1, 0, 0), (1, .getfield 36, 3, 10, 5), (4, .aload_n 0, 1, 0, 0), (5, .getfield 10, 3, 10, 0), (8, .iload_n 1, 1, 0, 0), (9, .invokevirtual 77, 3, 58, 0), (12, .aload_n 0, 1, 0, 0), (13, .getfield 10, 3, 10, 0),
  (16, .getfield 47, 3, 7, 4), (19, .invokevirtual 214, 3, 10, 0), (22, .return_, 1, 0, 0)]
def co_X10_costOfAllCards : List mz_I := [(0, .iconst 0, 1, 0, 0), (1, .istore_n 1, 1, 0, 0), (2, .iconst 0, 1, 0, 0), (3, .istore_n 2, 1, 0, 0), (4, .iload_n 2, 1, 0, 0), (5, .iconst 4, 1, 4, 0), (6, .if_icmp .ge 44, 3, 50, 0), (9, .aload_n 0, 1, 0, 0),
  (10, .getfield 36, 3, 10, 5), (13, .aload_n 0, 1, 0, 0), (14, .getfield 10, 3, 10, 0), (17, .iload_n 2, 1, 0, 0), (18, .invokevirtual 77, 3, 58, 0), (21, .aload_n 0, 1, 0, 0), (22, .getfield 10, 3, 10, 0), (25, .getfield 47, 3, 7, 4),
  (28, .invokevirtual 214, 3, 10, 0), (31, .iload_n 1, 1, 0, 0), (32, .aload_n 0, 1, 0, 0), (33, .getfield 36, 3, 10, 5), (36, .getfield 187, 3, 1, 3), (39, .invokevirtual 196, 3, 34, 0), (42, .iadd, 1, 0, 0), (43, .istore_n 1, 1, 0, 0),
  (44, .iinc 2 1, 3, 1, 0), (47, .goto (-43), 3, 4, 0), (50, .iload_n 1, 1, 0, 0), (51, .ireturn, 1, 0, 0)]
def co_X10_imageOf : List mz_I := [(0, .iload_n 1, 1, 0, 0), (1, .ifCond .ne 10, 3, 11, 0), (4, .aload_n 0, 1, 0, 0), (5, .getfield 16, 3, 10, 1), (8, .goto 7, 3, 15, 0), (11, .aload_n 0, 1, 0, 0), (12, .getfield 19, 3, 10, 2), (15, .areturn, 1, 0, 0)]
def co_X10_isWithin : List mz_I := [(0, .iload_n 0, 1, 0, 0), (1, .iload_n 1, 1, 0, 0), (2, .if_icmp .lt 12, 3, 14, 0), (5, .iload_n 0, 1, 0, 0), (6, .iload_n 2, 1, 0, 0), (7, .if_icmp .gt 7, 3, 14, 0), (10, .iconst 1, 1, 1, 0), (11, .goto 4, 3, 15, 0),
  (14, .iconst 0, 1, 0, 0), (15, .ireturn, 1, 0, 0)]
def co_X10_isCard : List mz_I := [(0, .iload_n 0, 1, 0, 0), (1, .iconst 0, 1, 0, 0), (2, .iconst 3, 1, 3, 0), (3, .invokestatic 107, 3, 104, 2), (6, .ireturn, 1, 0, 0)]
def co_X10_isStation : List mz_I := [(0, .iload_n 0, 1, 0, 0), (1, .iconst 0, 1, 0, 0), (2, .bipush 7, 2, 7, 0), (4, .invokestatic 107, 3, 104, 2), (7, .ireturn, 1, 0, 0)]
def co_X10_isReader : List mz_I := [(0, .iload_n 0, 1, 0, 0), (1, .iconst 0, 1, 0, 0), (2, .iconst 3, 1, 3, 0), (3, .invokestatic 107, 3, 104, 2), (6, .ireturn, 1, 0, 0)]
def co_X10_isImage : List mz_I := [(0, .iload_n 0, 1, 0, 0), (1, .iconst 0, 1, 0, 0), (2, .iconst 1, 1, 1, 0), (3, .invokestatic 107, 3, 104, 2), (6, .ireturn, 1, 0, 0)]
def co_X10_isDay : List mz_I := [(0, .iload_n 0, 1, 0, 0), (1, .iconst 0, 1, 0, 0), (2, .bipush 27, 2, 27, 0), (4, .invokestatic 107, 3, 104, 2), (7, .ireturn, 1, 0, 0)]
def co_X10_isMinute : List mz_I := [(0, .iload_n 0, 1, 0, 0), (1, .iconst 0, 1, 0, 0), (2, .sipush 1439, 3, 1439, 0), (5, .invokestatic 107, 3, 104, 2), (8, .ireturn, 1, 0, 0)]
def co_X10_isWidth : List mz_I := [(0, .iload_n 0, 1, 0, 0), (1, .iconst 1, 1, 1, 0), (2, .iconst 5, 1, 5, 0), (3, .invokestatic 107, 3, 104, 2), (6, .ireturn, 1, 0, 0)]
def co_X10_isPrice : List mz_I := [(0, .iload_n 0, 1, 0, 0), (1, .iconst 4, 1, 4, 0), (2, .if_icmp .ne 12, 3, 14, 0), (5, .iload_n 2, 1, 0, 0), (6, .iconst 0, 1, 0, 0), (7, .sipush 200, 3, 200, 0), (10, .invokestatic 107, 3, 104, 2), (13, .ireturn, 1, 0, 0),
  (14, .iload_n 0, 1, 0, 0), (15, .iconst 3, 1, 3, 0), (16, .if_icmp .ne 12, 3, 28, 0), (19, .iload_n 2, 1, 0, 0), (20, .iconst 0, 1, 0, 0), (21, .sipush 9999, 3, 9999, 0), (24, .invokestatic 107, 3, 104, 2), (27, .ireturn, 1, 0, 0),
  (28, .iload_n 0, 1, 0, 0), (29, .iconst 0, 1, 0, 0), (30, .iconst 2, 1, 2, 0), (31, .invokestatic 107, 3, 104, 2), (34, .ifCond .eq 25, 3, 59, 0), (37, .iload_n 1, 1, 0, 0), (38, .invokestatic 44, 3, 111, 2), (41, .ifCond .eq 18, 3, 59, 0),
  (44, .iload_n 2, 1, 0, 0), (45, .iconst 0, 1, 0, 0), (46, .sipush 9999, 3, 9999, 0), (49, .invokestatic 107, 3, 104, 2), (52, .ifCond .eq 7, 3, 59, 0), (55, .iconst 1, 1, 1, 0), (56, .goto 4, 3, 60, 0), (59, .iconst 0, 1, 0, 0),
  (60, .ireturn, 1, 0, 0)]
def co_X10_momentOf : List mz_I := [(0, .iload_n 0, 1, 0, 0), (1, .sipush 1440, 3, 1440, 0), (4, .imul, 1, 0, 0), (5, .iload_n 1, 1, 0, 0), (6, .iadd, 1, 0, 0), (7, .ireturn, 1, 0, 0)]
def co_X10_dayOf : List mz_I := [(0, .iload_n 0, 1, 0, 0), (1, .sipush 1440, 3, 1440, 0), (4, .idiv, 1, 0, 0), (5, .ireturn, 1, 0, 0)]
def co_X10_minuteOf : List mz_I := [(0, .iload_n 0, 1, 0, 0), (1, .sipush 1440, 3, 1440, 0), (4, .irem, 1, 0, 0), (5, .ireturn, 1, 0, 0)]
def co_X10_isBusy : List mz_I := [(0, .iload_n 0, 1, 0, 0), (1, .invokestatic 113, 3, 114, 2), (4, .bipush 7, 2, 7, 0), (6, .irem, 1, 0, 0), (7, .iconst 5, 1, 5, 0), (8, .if_icmp .lt 5, 3, 13, 0), (11, .iconst 0, 1, 0, 0), (12, .ireturn, 1, 0, 0),
  (13, .iload_n 0, 1, 0, 0), (14, .invokestatic 116, 3, 115, 2), (17, .istore_n 1, 1, 0, 0), (18, .iload_n 1, 1, 0, 0), (19, .sipush 420, 3, 420, 0), (22, .sipush 569, 3, 569, 0), (25, .invokestatic 107, 3, 104, 2), (28, .ifCond .ne 16, 3, 44, 0),
  (31, .iload_n 1, 1, 0, 0), (32, .sipush 960, 3, 960, 0), (35, .sipush 1109, 3, 1109, 0), (38, .invokestatic 107, 3, 104, 2), (41, .ifCond .eq 7, 3, 48, 0), (44, .iconst 1, 1, 1, 0), (45, .goto 4, 3, 49, 0), (48, .iconst 0, 1, 0, 0),
  (49, .ireturn, 1, 0, 0)]
def co_X11_init : List mz_I := [(0, .aload_n 0, 1, 0, 0), (1, .invokespecial 1, 3, 999, 6), (4, .aload_n 0, 1, 0, 0), (5, .sipush 423, 3, 423, 0), (8, .newarray .int, 2, 0, 0), (10, .putfield 7, 3, 11, 0), (13, .aload_n 0, 1, 0, 0), (14, .sipush 846, 3, 846, 0),
  (17, .newarray .int, 2, 0, 0), (19, .putfield 13, 3, 11, 1), (22, .aload_n 0, 1, 0, 0), (23, .iconst 2, 1, 2, 0), (24, .newarray .boolean, 2, 0, 0), (26, .putfield 16, 3, 11, 2), (29, .aload_n 0, 1, 0, 0), (30, .bipush 48, 2, 48, 0),
  (32, .newarray .int, 2, 0, 0), (34, .putfield 20, 3, 11, 3), (37, .aload_n 0, 1, 0, 0), (38, .bipush 48, 2, 48, 0), (40, .newarray .int, 2, 0, 0), (42, .putfield 23, 3, 11, 4), (45, .aload_n 0, 1, 0, 0), (46, .bipush 48, 2, 48, 0),
  (48, .newarray .int, 2, 0, 0), (50, .putfield 26, 3, 11, 5), (53, .aload_n 0, 1, 0, 0), (54, .bipush 48, 2, 48, 0), (56, .newarray .int, 2, 0, 0), (58, .putfield 29, 3, 11, 6), (61, .aload_n 0, 1, 0, 0), (62, .bipush 48, 2, 48, 0),
  (64, .newarray .int, 2, 0, 0), (66, .putfield 32, 3, 11, 7), (69, .aload_n 0, 1, 0, 0), (70, .bipush 48, 2, 48, 0), (72, .newarray .boolean, 2, 0, 0), (74, .putfield 35, 3, 11, 8), (77, .aload_n 0, 1, 0, 0), (78, .bipush 48, 2, 48, 0),
  (80, .newarray .int, 2, 0, 0), (82, .putfield 38, 3, 11, 9), (85, .aload_n 0, 1, 0, 0), (86, .bipush 48, 2, 48, 0), (88, .newarray .int, 2, 0, 0), (90, .putfield 41, 3, 11, 11), (93, .aload_n 0, 1, 0, 0), (94, .bipush 48, 2, 48, 0),
  (96, .newarray .int, 2, 0, 0), (98, .putfield 44, 3, 11, 12), (101, .aload_n 0, 1, 0, 0), (102, .bipush 48, 2, 48, 0), (104, .newarray .int, 2, 0, 0), (106, .putfield 47, 3, 11, 13), (109, .aload_n 0, 1, 0, 0), (110, .bipush 48, 2, 48, 0),
  (112, .newarray .int, 2, 0, 0), (114, .putfield 50, 3, 11, 14), (117, .aload_n 0, 1, 0, 0), (118, .bipush 28, 2, 28, 0), (120, .newarray .int, 2, 0, 0), (122, .putfield 53, 3, 11, 16), (125, .aload_n 0, 1, 0, 0), (126, .bipush 28, 2, 28, 0),
  (128, .newarray .int, 2, 0, 0), (130, .putfield 56, 3, 11, 17), (133, .aload_n 0, 1, 0, 0), (134, .bipush 28, 2, 28, 0), (136, .newarray .int, 2, 0, 0), (138, .putfield 59, 3, 11, 18), (141, .aload_n 0, 1, 0, 0), (142, .bipush 36, 2, 36, 0),
  (144, .newarray .int, 2, 0, 0), (146, .putfield 62, 3, 11, 19), (149, .aload_n 0, 1, 0, 0), (150, .bipush 36, 2, 36, 0), (152, .newarray .int, 2, 0, 0), (154, .putfield 65, 3, 11, 20), (157, .aload_n 0, 1, 0, 0), (158, .bipush 36, 2, 36, 0),
  (160, .newarray .boolean, 2, 0, 0), (162, .putfield 68, 3, 11, 21), (165, .iconst 0, 1, 0, 0), (166, .istore_n 1, 1, 0, 0), (167, .iload_n 1, 1, 0, 0), (168, .bipush 8, 2, 8, 0), (170, .if_icmp .ge 24, 3, 194, 0), (173, .aload_n 0, 1, 0, 0),
  (174, .getfield 7, 3, 11, 0), (177, .sipush 388, 3, 388, 0), (180, .iload_n 1, 1, 0, 0), (181, .iadd, 1, 0, 0), (182, .iload_n 1, 1, 0, 0), (183, .iconst 5, 1, 5, 0), (184, .irem, 1, 0, 0), (185, .iconst 1, 1, 1, 0),
  (186, .iadd, 1, 0, 0), (187, .iastore, 1, 0, 0), (188, .iinc 1 1, 3, 1, 0), (191, .goto (-24), 3, 167, 0), (194, .iconst 1, 1, 1, 0), (195, .istore_n 1, 1, 0, 0), (196, .iload_n 1, 1, 0, 0), (197, .iconst 5, 1, 5, 0),
  (198, .if_icmp .gt 70, 3, 268, 0), (201, .aload_n 0, 1, 0, 0), (202, .getfield 7, 3, 11, 0), (205, .sipush 396, 3, 396, 0), (208, .iload_n 1, 1, 0, 0), (209, .iadd, 1, 0, 0), (210, .iconst 1, 1, 1, 0), (211, .isub, 1, 0, 0),
  (212, .sipush 150, 3, 150, 0), (215, .bipush 50, 2, 50, 0), (217, .iload_n 1, 1, 0, 0), (218, .imul, 1, 0, 0), (219, .iadd, 1, 0, 0), (220, .iastore, 1, 0, 0), (221, .aload_n 0, 1, 0, 0), (222, .getfield 7, 3, 11, 0),
  (225, .sipush 401, 3, 401, 0), (228, .iload_n 1, 1, 0, 0), (229, .iadd, 1, 0, 0), (230, .iconst 1, 1, 1, 0), (231, .isub, 1, 0, 0), (232, .sipush 400, 3, 400, 0), (235, .bipush 100, 2, 100, 0), (237, .iload_n 1, 1, 0, 0),
  (238, .imul, 1, 0, 0), (239, .iadd, 1, 0, 0), (240, .iastore, 1, 0, 0), (241, .aload_n 0, 1, 0, 0), (242, .getfield 7, 3, 11, 0), (245, .sipush 406, 3, 406, 0), (248, .iload_n 1, 1, 0, 0), (249, .iadd, 1, 0, 0),
  (250, .iconst 1, 1, 1, 0), (251, .isub, 1, 0, 0), (252, .sipush 1500, 3, 1500, 0), (255, .sipush 400, 3, 400, 0), (258, .iload_n 1, 1, 0, 0), (259, .imul, 1, 0, 0), (260, .iadd, 1, 0, 0), (261, .iastore, 1, 0, 0),
  (262, .iinc 1 1, 3, 1, 0), (265, .goto (-69), 3, 196, 0), (268, .aload_n 0, 1, 0, 0), (269, .getfield 7, 3, 11, 0), (272, .sipush 411, 3, 411, 0), (275, .bipush 50, 2, 50, 0), (277, .iastore, 1, 0, 0), (278, .aload_n 0, 1, 0, 0),
  (279, .getfield 7, 3, 11, 0), (282, .sipush 412, 3, 412, 0), (285, .bipush 30, 2, 30, 0), (287, .iastore, 1, 0, 0), (288, .return_, 1, 0, 0)]
def co_X11_in : List mz_I := [(0, .iload_n 0, 1, 0, 0), (1, .iload_n 1, 1, 0, 0), (2, .if_icmp .lt 12, 3, 14, 0), (5, .iload_n 0, 1, 0, 0), (6, .iload_n 2, 1, 0, 0), (7, .if_icmp .gt 7, 3, 14, 0), (10, .iconst 1, 1, 1, 0), (11, .goto 4, 3, 15, 0),
  (14, .iconst 0, 1, 0, 0), (15, .ireturn, 1, 0, 0)]
def co_X11_isCard : List mz_I := [(0, .iload_n 0, 1, 0, 0), (1, .iconst 0, 1, 0, 0), (2, .iconst 3, 1, 3, 0), (3, .invokestatic 71, 3, 118, 2), (6, .ireturn, 1, 0, 0)]
def co_X11_isStation : List mz_I := [(0, .iload_n 0, 1, 0, 0), (1, .iconst 0, 1, 0, 0), (2, .bipush 7, 2, 7, 0), (4, .invokestatic 71, 3, 118, 2), (7, .ireturn, 1, 0, 0)]
def co_X11_isDay : List mz_I := [(0, .iload_n 0, 1, 0, 0), (1, .iconst 0, 1, 0, 0), (2, .bipush 27, 2, 27, 0), (4, .invokestatic 71, 3, 118, 2), (7, .ireturn, 1, 0, 0)]
def co_X11_zone : List mz_I := [(0, .iload_n 1, 1, 0, 0), (1, .invokestatic 75, 3, 120, 2), (4, .ifCond .ne 5, 3, 9, 0), (7, .iconst (-1), 1, 4294967295, 0), (8, .ireturn, 1, 0, 0), (9, .iload_n 2, 1, 0, 0), (10, .iconst 1, 1, 1, 0), (11, .iconst 5, 1, 5, 0),
  (12, .invokestatic 71, 3, 118, 2), (15, .ifCond .ne 6, 3, 21, 0), (18, .bipush (-2), 2, 4294967294, 0), (20, .ireturn, 1, 0, 0), (21, .aload_n 0, 1, 0, 0), (22, .getfield 7, 3, 11, 0), (25, .sipush 388, 3, 388, 0), (28, .iload_n 1, 1, 0, 0),
  (29, .iadd, 1, 0, 0), (30, .iaload, 1, 0, 0), (31, .istore_n 3, 1, 0, 0), (32, .aload_n 0, 1, 0, 0), (33, .getfield 7, 3, 11, 0), (36, .sipush 388, 3, 388, 0), (39, .iload_n 1, 1, 0, 0), (40, .iadd, 1, 0, 0),
  (41, .iload_n 2, 1, 0, 0), (42, .iastore, 1, 0, 0), (43, .iload_n 3, 1, 0, 0), (44, .ireturn, 1, 0, 0)]
def co_X11_price : List mz_I := [(0, .iload_n 1, 1, 0, 0), (1, .iconst 0, 1, 0, 0), (2, .iconst 4, 1, 4, 0), (3, .invokestatic 71, 3, 118, 2), (6, .ifCond .eq 39, 3, 45, 0), (9, .iload_n 1, 1, 0, 0), (10, .iconst 3, 1, 3, 0), (11, .if_icmp .ge 12, 3, 23, 0),
  (14, .iload_n 2, 1, 0, 0), (15, .iconst 1, 1, 1, 0), (16, .iconst 5, 1, 5, 0), (17, .invokestatic 71, 3, 118, 2), (20, .ifCond .eq 25, 3, 45, 0), (23, .iload_n 3, 1, 0, 0), (24, .iconst 0, 1, 0, 0), (25, .iload_n 1, 1, 0, 0),
  (26, .iconst 4, 1, 4, 0), (27, .if_icmp .ne 9, 3, 36, 0), (30, .sipush 200, 3, 200, 0), (33, .goto 6, 3, 39, 0), (36, .sipush 9999, 3, 9999, 0), (39, .invokestatic 71, 3, 118, 2), (42, .ifCond .ne 6, 3, 48, 0), (45, .bipush (-2), 2, 4294967294, 0),
  (47, .ireturn, 1, 0, 0), (48, .iload_n 1, 1, 0, 0), (49, .iconst 3, 1, 3, 0), (50, .if_icmp .ne 9, 3, 59, 0), (53, .sipush 411, 3, 411, 0), (56, .goto 25, 3, 81, 0), (59, .iload_n 1, 1, 0, 0), (60, .iconst 4, 1, 4, 0),
  (61, .if_icmp .ne 9, 3, 70, 0), (64, .sipush 412, 3, 412, 0), (67, .goto 14, 3, 81, 0), (70, .sipush 396, 3, 396, 0), (73, .iconst 5, 1, 5, 0), (74, .iload_n 1, 1, 0, 0), (75, .imul, 1, 0, 0), (76, .iadd, 1, 0, 0),
  (77, .iload_n 2, 1, 0, 0), (78, .iadd, 1, 0, 0), (79, .iconst 1, 1, 1, 0), (80, .isub, 1, 0, 0), (81, .istore 4, 2, 0, 0), (83, .aload_n 0, 1, 0, 0), (84, .getfield 7, 3, 11, 0), (87, .iload 4, 2, 0, 0),
  (89, .iaload, 1, 0, 0), (90, .istore 5, 2, 0, 0), (92, .aload_n 0, 1, 0, 0), (93, .getfield 7, 3, 11, 0), (96, .iload 4, 2, 0, 0), (98, .iload_n 3, 1, 0, 0), (99, .iastore, 1, 0, 0), (100, .iload 5, 2, 0, 0),
  (102, .ireturn, 1, 0, 0)]
def co_X11_when : List mz_I := [(0, .aload_n 0, 1, 0, 0), (1, .getfield 7, 3, 11, 0), (4, .iconst 0, 1, 0, 0), (5, .bipush 48, 2, 48, 0), (7, .iload_n 1, 1, 0, 0), (8, .imul, 1, 0, 0), (9, .iadd, 1, 0, 0), (10, .iload_n 2, 1, 0, 0),
  (11, .iadd, 1, 0, 0), (12, .iaload, 1, 0, 0), (13, .ireturn, 1, 0, 0)]
def co_X11_stationOf : List mz_I := [(0, .aload_n 0, 1, 0, 0), (1, .getfield 7, 3, 11, 0), (4, .sipush 192, 3, 192, 0), (7, .bipush 48, 2, 48, 0), (9, .iload_n 1, 1, 0, 0), (10, .imul, 1, 0, 0), (11, .iadd, 1, 0, 0), (12, .iload_n 2, 1, 0, 0),
  (13, .iadd, 1, 0, 0), (14, .iaload, 1, 0, 0), (15, .iconst 2, 1, 2, 0), (16, .idiv, 1, 0, 0), (17, .ireturn, 1, 0, 0)]
def co_X11_isIn : List mz_I := [(0, .aload_n 0, 1, 0, 0), (1, .getfield 7, 3, 11, 0), (4, .sipush 192, 3, 192, 0), (7, .bipush 48, 2, 48, 0), (9, .iload_n 1, 1, 0, 0), (10, .imul, 1, 0, 0), (11, .iadd, 1, 0, 0), (12, .iload_n 2, 1, 0, 0),
  (13, .iadd, 1, 0, 0), (14, .iaload, 1, 0, 0), (15, .iconst 2, 1, 2, 0), (16, .irem, 1, 0, 0), (17, .ifCond .ne 7, 3, 24, 0), (20, .iconst 1, 1, 1, 0), (21, .goto 4, 3, 25, 0), (24, .iconst 0, 1, 0, 0),
  (25, .ireturn, 1, 0, 0)]
def co_X11_tapAt : List mz_I := [(0, .bipush (-6), 2, 4294967290, 0), (2, .istore_n 3, 1, 0, 0), (3, .iconst 0, 1, 0, 0), (4, .istore 4, 2, 0, 0), (6, .iload 4, 2, 0, 0), (8, .aload_n 0, 1, 0, 0), (9, .getfield 7, 3, 11, 0), (12, .sipush 384, 3, 384, 0),
  (15, .iload_n 1, 1, 0, 0), (16, .iadd, 1, 0, 0), (17, .iaload, 1, 0, 0), (18, .if_icmp .ge 27, 3, 45, 0), (21, .aload_n 0, 1, 0, 0), (22, .iload_n 1, 1, 0, 0), (23, .iload 4, 2, 0, 0), (25, .invokevirtual 79, 3, 124, 0),
  (28, .iload_n 2, 1, 0, 0), (29, .if_icmp .ne 8, 3, 37, 0), (32, .iload 4, 2, 0, 0), (34, .goto 4, 3, 38, 0), (37, .iload_n 3, 1, 0, 0), (38, .istore_n 3, 1, 0, 0), (39, .iinc 4 1, 3, 1, 0), (42, .goto (-36), 3, 6, 0),
  (45, .iload_n 3, 1, 0, 0), (46, .ireturn, 1, 0, 0)]
def co_X11_refusal : List mz_I := [(0, .iload_n 1, 1, 0, 0), (1, .invokestatic 83, 3, 119, 2), (4, .ifCond .eq 11, 3, 15, 0), (7, .iload 4, 2, 0, 0), (9, .invokestatic 75, 3, 120, 2), (12, .ifCond .ne 5, 3, 17, 0), (15, .iconst (-1), 1, 4294967295, 0), (16, .ireturn, 1, 0, 0),
  (17, .iload_n 2, 1, 0, 0), (18, .invokestatic 86, 3, 121, 2), (21, .ifCond .eq 24, 3, 45, 0), (24, .iload_n 3, 1, 0, 0), (25, .iconst 0, 1, 0, 0), (26, .sipush 1439, 3, 1439, 0), (29, .invokestatic 71, 3, 118, 2), (32, .ifCond .eq 13, 3, 45, 0),
  (35, .iload 5, 2, 0, 0), (37, .iconst 0, 1, 0, 0), (38, .iconst 1, 1, 1, 0), (39, .invokestatic 71, 3, 118, 2), (42, .ifCond .ne 6, 3, 48, 0), (45, .bipush (-2), 2, 4294967294, 0), (47, .ireturn, 1, 0, 0), (48, .aload_n 0, 1, 0, 0),
  (49, .iload_n 1, 1, 0, 0), (50, .sipush 1440, 3, 1440, 0), (53, .iload_n 2, 1, 0, 0), (54, .imul, 1, 0, 0), (55, .iload_n 3, 1, 0, 0), (56, .iadd, 1, 0, 0), (57, .invokevirtual 89, 3, 127, 0), (60, .ifCond .lt 6, 3, 66, 0),
  (63, .bipush (-5), 2, 4294967291, 0), (65, .ireturn, 1, 0, 0), (66, .aload_n 0, 1, 0, 0), (67, .getfield 7, 3, 11, 0), (70, .sipush 384, 3, 384, 0), (73, .iload_n 1, 1, 0, 0), (74, .iadd, 1, 0, 0), (75, .iaload, 1, 0, 0),
  (76, .bipush 48, 2, 48, 0), (78, .if_icmp .ne 8, 3, 86, 0), (81, .bipush (-4), 2, 4294967292, 0), (83, .goto 4, 3, 87, 0), (86, .iconst 0, 1, 0, 0), (87, .ireturn, 1, 0, 0)]
def co_X11_add : List mz_I := [(0, .aload_n 0, 1, 0, 0), (1, .getfield 7, 3, 11, 0), (4, .sipush 384, 3, 384, 0), (7, .iload_n 1, 1, 0, 0), (8, .iadd, 1, 0, 0), (9, .iaload, 1, 0, 0), (10, .istore 4, 2, 0, 0), (12, .aload_n 0, 1, 0, 0),
  (13, .getfield 7, 3, 11, 0), (16, .sipush 384, 3, 384, 0), (19, .iload_n 1, 1, 0, 0), (20, .iadd, 1, 0, 0), (21, .dup2, 1, 0, 0), (22, .iaload, 1, 0, 0), (23, .iconst 1, 1, 1, 0), (24, .iadd, 1, 0, 0),
  (25, .iastore, 1, 0, 0), (26, .iload 4, 2, 0, 0), (28, .ifCond .le 86, 3, 114, 0), (31, .aload_n 0, 1, 0, 0), (32, .iload_n 1, 1, 0, 0), (33, .iload 4, 2, 0, 0), (35, .iconst 1, 1, 1, 0), (36, .isub, 1, 0, 0),
  (37, .invokevirtual 79, 3, 124, 0), (40, .iload_n 2, 1, 0, 0), (41, .if_icmp .le 73, 3, 114, 0), (44, .aload_n 0, 1, 0, 0), (45, .getfield 7, 3, 11, 0), (48, .iconst 0, 1, 0, 0), (49, .bipush 48, 2, 48, 0), (51, .iload_n 1, 1, 0, 0),
  (52, .imul, 1, 0, 0), (53, .iadd, 1, 0, 0), (54, .iload 4, 2, 0, 0), (56, .iadd, 1, 0, 0), (57, .aload_n 0, 1, 0, 0), (58, .getfield 7, 3, 11, 0), (61, .iconst 0, 1, 0, 0), (62, .bipush 48, 2, 48, 0),
  (64, .iload_n 1, 1, 0, 0), (65, .imul, 1, 0, 0), (66, .iadd, 1, 0, 0), (67, .iload 4, 2, 0, 0), (69, .iadd, 1, 0, 0), (70, .iconst 1, 1, 1, 0), (71, .isub, 1, 0, 0), (72, .iaload, 1, 0, 0),
  (73, .iastore, 1, 0, 0), (74, .aload_n 0, 1, 0, 0), (75, .getfield 7, 3, 11, 0), (78, .sipush 192, 3, 192, 0), (81, .bipush 48, 2, 48, 0), (83, .iload_n 1, 1, 0, 0), (84, .imul, 1, 0, 0), (85, .iadd, 1, 0, 0),
  (86, .iload 4, 2, 0, 0), (88, .iadd, 1, 0, 0), (89, .aload_n 0, 1, 0, 0), (90, .getfield 7, 3, 11, 0), (93, .sipush 192, 3, 192, 0), (96, .bipush 48, 2, 48, 0), (98, .iload_n 1, 1, 0, 0), (99, .imul, 1, 0, 0),
  (100, .iadd, 1, 0, 0), (101, .iload 4, 2, 0, 0), (103, .iadd, 1, 0, 0), (104, .iconst 1, 1, 1, 0), (105, .isub, 1, 0, 0), (106, .iaload, 1, 0, 0), (107, .iastore, 1, 0, 0), (108, .iinc 4 (-1), 3, 4294967295, 0),
  (111, .goto (-85), 3, 26, 0), (114, .aload_n 0, 1, 0, 0), (115, .getfield 7, 3, 11, 0), (118, .iconst 0, 1, 0, 0), (119, .bipush 48, 2, 48, 0), (121, .iload_n 1, 1, 0, 0), (122, .imul, 1, 0, 0), (123, .iadd, 1, 0, 0),
  (124, .iload 4, 2, 0, 0), (126, .iadd, 1, 0, 0), (127, .iload_n 2, 1, 0, 0), (128, .iastore, 1, 0, 0), (129, .aload_n 0, 1, 0, 0), (130, .getfield 7, 3, 11, 0), (133, .sipush 192, 3, 192, 0), (136, .bipush 48, 2, 48, 0),
  (138, .iload_n 1, 1, 0, 0), (139, .imul, 1, 0, 0), (140, .iadd, 1, 0, 0), (141, .iload 4, 2, 0, 0), (143, .iadd, 1, 0, 0), (144, .iload_n 3, 1, 0, 0), (145, .iastore, 1, 0, 0), (146, .return_, 1, 0, 0)]
def co_X11_remove : List mz_I := [(0, .aload_n 0, 1, 0, 0), (1, .getfield 7, 3, 11, 0), (4, .sipush 384, 3, 384, 0), (7, .iload_n 1, 1, 0, 0), (8, .iadd, 1, 0, 0), (9, .dup2, 1, 0, 0), (10, .iaload, 1, 0, 0), (11, .iconst 1, 1, 1, 0),
  (12, .isub, 1, 0, 0), (13, .iastore, 1, 0, 0), (14, .iload_n 2, 1, 0, 0), (15, .istore_n 3, 1, 0, 0), (16, .iload_n 3, 1, 0, 0), (17, .aload_n 0, 1, 0, 0), (18, .getfield 7, 3, 11, 0), (21, .sipush 384, 3, 384, 0),
  (24, .iload_n 1, 1, 0, 0), (25, .iadd, 1, 0, 0), (26, .iaload, 1, 0, 0), (27, .if_icmp .ge 69, 3, 96, 0), (30, .aload_n 0, 1, 0, 0), (31, .getfield 7, 3, 11, 0), (34, .iconst 0, 1, 0, 0), (35, .bipush 48, 2, 48, 0),
  (37, .iload_n 1, 1, 0, 0), (38, .imul, 1, 0, 0), (39, .iadd, 1, 0, 0), (40, .iload_n 3, 1, 0, 0), (41, .iadd, 1, 0, 0), (42, .aload_n 0, 1, 0, 0), (43, .getfield 7, 3, 11, 0), (46, .iconst 0, 1, 0, 0),
  (47, .bipush 48, 2, 48, 0), (49, .iload_n 1, 1, 0, 0), (50, .imul, 1, 0, 0), (51, .iadd, 1, 0, 0), (52, .iload_n 3, 1, 0, 0), (53, .iadd, 1, 0, 0), (54, .iconst 1, 1, 1, 0), (55, .iadd, 1, 0, 0),
  (56, .iaload, 1, 0, 0), (57, .iastore, 1, 0, 0), (58, .aload_n 0, 1, 0, 0), (59, .getfield 7, 3, 11, 0), (62, .sipush 192, 3, 192, 0), (65, .bipush 48, 2, 48, 0), (67, .iload_n 1, 1, 0, 0), (68, .imul, 1, 0, 0),
  (69, .iadd, 1, 0, 0), (70, .iload_n 3, 1, 0, 0), (71, .iadd, 1, 0, 0), (72, .aload_n 0, 1, 0, 0), (73, .getfield 7, 3, 11, 0), (76, .sipush 192, 3, 192, 0), (79, .bipush 48, 2, 48, 0), (81, .iload_n 1, 1, 0, 0),
  (82, .imul, 1, 0, 0), (83, .iadd, 1, 0, 0), (84, .iload_n 3, 1, 0, 0), (85, .iadd, 1, 0, 0), (86, .iconst 1, 1, 1, 0), (87, .iadd, 1, 0, 0), (88, .iaload, 1, 0, 0), (89, .iastore, 1, 0, 0),
  (90, .iinc 3 1, 3, 1, 0), (93, .goto (-77), 3, 16, 0), (96, .return_, 1, 0, 0)]
def co_X11_tap : List mz_I := [(0, .aload_n 0, 1, 0, 0), (1, .iload_n 1, 1, 0, 0), (2, .iload_n 2, 1, 0, 0), (3, .iload_n 3, 1, 0, 0), (4, .iload 4, 2, 0, 0), (6, .iload 5, 2, 0, 0), (8, .invokevirtual 92, 3, 128, 0), (11, .istore 6, 2, 0, 0),
  (13, .iload 6, 2, 0, 0), (15, .ifCond .eq 6, 3, 21, 0), (18, .iload 6, 2, 0, 0), (20, .ireturn, 1, 0, 0), (21, .aload_n 0, 1, 0, 0), (22, .iload_n 1, 1, 0, 0), (23, .sipush 1440, 3, 1440, 0), (26, .iload_n 2, 1, 0, 0),
  (27, .imul, 1, 0, 0), (28, .iload_n 3, 1, 0, 0), (29, .iadd, 1, 0, 0), (30, .iconst 2, 1, 2, 0), (31, .iload 4, 2, 0, 0), (33, .imul, 1, 0, 0), (34, .iload 5, 2, 0, 0), (36, .iadd, 1, 0, 0),
  (37, .invokevirtual 96, 3, 129, 0), (40, .aload_n 0, 1, 0, 0), (41, .getfield 7, 3, 11, 0), (44, .sipush 384, 3, 384, 0), (47, .iload_n 1, 1, 0, 0), (48, .iadd, 1, 0, 0), (49, .iaload, 1, 0, 0), (50, .ireturn, 1, 0, 0)]
def co_X11_untap : List mz_I := [(0, .iload_n 1, 1, 0, 0), (1, .invokestatic 83, 3, 119, 2), (4, .ifCond .ne 5, 3, 9, 0), (7, .iconst (-1), 1, 4294967295, 0), (8, .ireturn, 1, 0, 0), (9, .iload_n 2, 1, 0, 0), (10, .invokestatic 86, 3, 121, 2), (13, .ifCond .eq 14, 3, 27, 0),
  (16, .iload_n 3, 1, 0, 0), (17, .iconst 0, 1, 0, 0), (18, .sipush 1439, 3, 1439, 0), (21, .invokestatic 71, 3, 118, 2), (24, .ifCond .ne 6, 3, 30, 0), (27, .bipush (-2), 2, 4294967294, 0), (29, .ireturn, 1, 0, 0), (30, .aload_n 0, 1, 0, 0),
  (31, .iload_n 1, 1, 0, 0), (32, .sipush 1440, 3, 1440, 0), (35, .iload_n 2, 1, 0, 0), (36, .imul, 1, 0, 0), (37, .iload_n 3, 1, 0, 0), (38, .iadd, 1, 0, 0), (39, .invokevirtual 89, 3, 127, 0), (42, .istore 4, 2, 0, 0),
  (44, .iload 4, 2, 0, 0), (46, .ifCond .ge 6, 3, 52, 0), (49, .bipush (-5), 2, 4294967291, 0), (51, .ireturn, 1, 0, 0), (52, .aload_n 0, 1, 0, 0), (53, .iload_n 1, 1, 0, 0), (54, .iload 4, 2, 0, 0), (56, .invokevirtual 100, 3, 130, 0),
  (59, .aload_n 0, 1, 0, 0), (60, .getfield 7, 3, 11, 0), (63, .sipush 384, 3, 384, 0), (66, .iload_n 1, 1, 0, 0), (67, .iadd, 1, 0, 0), (68, .iaload, 1, 0, 0), (69, .ireturn, 1, 0, 0)]
def co_X11_told : List mz_I := [(0, .iload_n 1, 1, 0, 0), (1, .invokestatic 83, 3, 119, 2), (4, .ifCond .ne 5, 3, 9, 0), (7, .iconst (-1), 1, 4294967295, 0), (8, .ireturn, 1, 0, 0), (9, .iload_n 3, 1, 0, 0), (10, .iconst 0, 1, 0, 0), (11, .iconst 3, 1, 3, 0),
  (12, .invokestatic 71, 3, 118, 2), (15, .ifCond .ne 6, 3, 21, 0), (18, .bipush (-2), 2, 4294967294, 0), (20, .ireturn, 1, 0, 0), (21, .iload_n 2, 1, 0, 0), (22, .iconst 0, 1, 0, 0), (23, .aload_n 0, 1, 0, 0), (24, .getfield 7, 3, 11, 0),
  (27, .sipush 384, 3, 384, 0), (30, .iload_n 1, 1, 0, 0), (31, .iadd, 1, 0, 0), (32, .iaload, 1, 0, 0), (33, .iconst 1, 1, 1, 0), (34, .isub, 1, 0, 0), (35, .invokestatic 71, 3, 118, 2), (38, .ifCond .ne 6, 3, 44, 0),
  (41, .bipush (-6), 2, 4294967290, 0), (43, .ireturn, 1, 0, 0), (44, .iload_n 3, 1, 0, 0), (45, .ifCond .ne 16, 3, 61, 0), (48, .aload_n 0, 1, 0, 0), (49, .iload_n 1, 1, 0, 0), (50, .iload_n 2, 1, 0, 0), (51, .invokevirtual 79, 3, 124, 0),
  (54, .sipush 1440, 3, 1440, 0), (57, .idiv, 1, 0, 0), (58, .goto 49, 3, 107, 0), (61, .iload_n 3, 1, 0, 0), (62, .iconst 1, 1, 1, 0), (63, .if_icmp .ne 16, 3, 79, 0), (66, .aload_n 0, 1, 0, 0), (67, .iload_n 1, 1, 0, 0),
  (68, .iload_n 2, 1, 0, 0), (69, .invokevirtual 79, 3, 124, 0), (72, .sipush 1440, 3, 1440, 0), (75, .irem, 1, 0, 0), (76, .goto 31, 3, 107, 0), (79, .iload_n 3, 1, 0, 0), (80, .iconst 2, 1, 2, 0), (81, .if_icmp .ne 12, 3, 93, 0),
  (84, .aload_n 0, 1, 0, 0), (85, .iload_n 1, 1, 0, 0), (86, .iload_n 2, 1, 0, 0), (87, .invokevirtual 104, 3, 125, 0), (90, .goto 17, 3, 107, 0), (93, .aload_n 0, 1, 0, 0), (94, .iload_n 1, 1, 0, 0), (95, .iload_n 2, 1, 0, 0),
  (96, .invokevirtual 107, 3, 126, 0), (99, .ifCond .eq 7, 3, 106, 0), (102, .iconst 0, 1, 0, 0), (103, .goto 4, 3, 107, 0), (106, .iconst 1, 1, 1, 0), (107, .ireturn, 1, 0, 0)]
def co_X11_mended : List mz_I := [(0, .bipush (-6), 2, 4294967290, 0), (2, .istore_n 3, 1, 0, 0), (3, .iconst 0, 1, 0, 0), (4, .istore 4, 2, 0, 0), (6, .iload 4, 2, 0, 0), (8, .aload_n 0, 1, 0, 0), (9, .getfield 111, 3, 11, 10), (12, .if_icmp .ge 66, 3, 78, 0),
  (15, .aload_n 0, 1, 0, 0), (16, .getfield 20, 3, 11, 3), (19, .iload 4, 2, 0, 0), (21, .iaload, 1, 0, 0), (22, .ifCond .ne 50, 3, 72, 0), (25, .iload_n 1, 1, 0, 0), (26, .ifCond .eq 13, 3, 39, 0), (29, .aload_n 0, 1, 0, 0),
  (30, .getfield 23, 3, 11, 4), (33, .iload 4, 2, 0, 0), (35, .iaload, 1, 0, 0), (36, .goto 10, 3, 46, 0), (39, .aload_n 0, 1, 0, 0), (40, .getfield 26, 3, 11, 5), (43, .iload 4, 2, 0, 0), (45, .iaload, 1, 0, 0),
  (46, .iload_n 2, 1, 0, 0), (47, .if_icmp .ne 25, 3, 72, 0), (50, .iload_n 1, 1, 0, 0), (51, .ifCond .eq 13, 3, 64, 0), (54, .aload_n 0, 1, 0, 0), (55, .getfield 26, 3, 11, 5), (58, .iload 4, 2, 0, 0), (60, .iaload, 1, 0, 0),
  (61, .goto 10, 3, 71, 0), (64, .aload_n 0, 1, 0, 0), (65, .getfield 23, 3, 11, 4), (68, .iload 4, 2, 0, 0), (70, .iaload, 1, 0, 0), (71, .istore_n 3, 1, 0, 0), (72, .iinc 4 1, 3, 1, 0), (75, .goto (-69), 3, 6, 0),
  (78, .iload_n 3, 1, 0, 0), (79, .ireturn, 1, 0, 0)]
def co_X11_addRide : List mz_I := [(0, .aload_n 0, 1, 0, 0), (1, .getfield 20, 3, 11, 3), (4, .aload_n 0, 1, 0, 0), (5, .getfield 111, 3, 11, 10), (8, .iload_n 1, 1, 0, 0), (9, .iastore, 1, 0, 0), (10, .aload_n 0, 1, 0, 0), (11, .getfield 23, 3, 11, 4),
  (14, .aload_n 0, 1, 0, 0), (15, .getfield 111, 3, 11, 10), (18, .iload_n 2, 1, 0, 0), (19, .iastore, 1, 0, 0), (20, .aload_n 0, 1, 0, 0), (21, .getfield 26, 3, 11, 5), (24, .aload_n 0, 1, 0, 0), (25, .getfield 111, 3, 11, 10),
  (28, .iload_n 3, 1, 0, 0), (29, .iastore, 1, 0, 0), (30, .aload_n 0, 1, 0, 0), (31, .getfield 29, 3, 11, 6), (34, .aload_n 0, 1, 0, 0), (35, .getfield 111, 3, 11, 10), (38, .iload 4, 2, 0, 0), (40, .iastore, 1, 0, 0),
  (41, .aload_n 0, 1, 0, 0), (42, .getfield 32, 3, 11, 7), (45, .aload_n 0, 1, 0, 0), (46, .getfield 111, 3, 11, 10), (49, .iload 5, 2, 0, 0), (51, .iastore, 1, 0, 0), (52, .aload_n 0, 1, 0, 0), (53, .getfield 35, 3, 11, 8),
  (56, .aload_n 0, 1, 0, 0), (57, .getfield 111, 3, 11, 10), (60, .iload_n 2, 1, 0, 0), (61, .ifCond .lt 7, 3, 68, 0), (64, .iload_n 3, 1, 0, 0), (65, .ifCond .ge 7, 3, 72, 0), (68, .iconst 1, 1, 1, 0), (69, .goto 4, 3, 73, 0),
  (72, .iconst 0, 1, 0, 0), (73, .bastore, 1, 0, 0), (74, .aload_n 0, 1, 0, 0), (75, .dup, 1, 0, 0), (76, .getfield 111, 3, 11, 10), (79, .iconst 1, 1, 1, 0), (80, .iadd, 1, 0, 0), (81, .putfield 111, 3, 11, 10),
  (84, .return_, 1, 0, 0)]
def co_X11_layRides : List mz_I := [(0, .aload_n 0, 1, 0, 0), (1, .iconst 0, 1, 0, 0), (2, .putfield 111, 3, 11, 10), (5, .iconst 0, 1, 0, 0), (6, .istore_n 2, 1, 0, 0), (7, .iload_n 2, 1, 0, 0), (8, .aload_n 0, 1, 0, 0), (9, .getfield 7, 3, 11, 0),
  (12, .sipush 384, 3, 384, 0), (15, .iload_n 1, 1, 0, 0), (16, .iadd, 1, 0, 0), (17, .iaload, 1, 0, 0), (18, .if_icmp .ge 141, 3, 159, 0), (21, .aload_n 0, 1, 0, 0), (22, .iload_n 1, 1, 0, 0), (23, .iload_n 2, 1, 0, 0),
  (24, .invokevirtual 79, 3, 124, 0), (27, .istore_n 3, 1, 0, 0), (28, .aload_n 0, 1, 0, 0), (29, .iload_n 1, 1, 0, 0), (30, .iload_n 2, 1, 0, 0), (31, .invokevirtual 104, 3, 125, 0), (34, .istore 4, 2, 0, 0), (36, .aload_n 0, 1, 0, 0),
  (37, .iload_n 1, 1, 0, 0), (38, .iload_n 2, 1, 0, 0), (39, .invokevirtual 107, 3, 126, 0), (42, .ifCond .ne 22, 3, 64, 0), (45, .aload_n 0, 1, 0, 0), (46, .iconst 2, 1, 2, 0), (47, .aload_n 0, 1, 0, 0), (48, .iconst 0, 1, 0, 0),
  (49, .iload 4, 2, 0, 0), (51, .invokevirtual 115, 3, 134, 0), (54, .iload 4, 2, 0, 0), (56, .iload_n 3, 1, 0, 0), (57, .iload_n 3, 1, 0, 0), (58, .invokevirtual 119, 3, 135, 0), (61, .goto 92, 3, 153, 0), (64, .iload_n 2, 1, 0, 0),
  (65, .iconst 1, 1, 1, 0), (66, .iadd, 1, 0, 0), (67, .aload_n 0, 1, 0, 0), (68, .getfield 7, 3, 11, 0), (71, .sipush 384, 3, 384, 0), (74, .iload_n 1, 1, 0, 0), (75, .iadd, 1, 0, 0), (76, .iaload, 1, 0, 0),
  (77, .if_icmp .ge 60, 3, 137, 0), (80, .aload_n 0, 1, 0, 0), (81, .iload_n 1, 1, 0, 0), (82, .iload_n 2, 1, 0, 0), (83, .iconst 1, 1, 1, 0), (84, .iadd, 1, 0, 0), (85, .invokevirtual 107, 3, 126, 0), (88, .ifCond .ne 49, 3, 137, 0),
  (91, .aload_n 0, 1, 0, 0), (92, .iload_n 1, 1, 0, 0), (93, .iload_n 2, 1, 0, 0), (94, .iconst 1, 1, 1, 0), (95, .iadd, 1, 0, 0), (96, .invokevirtual 79, 3, 124, 0), (99, .sipush 1440, 3, 1440, 0), (102, .idiv, 1, 0, 0),
  (103, .iload_n 3, 1, 0, 0), (104, .sipush 1440, 3, 1440, 0), (107, .idiv, 1, 0, 0), (108, .if_icmp .ne 29, 3, 137, 0), (111, .iinc 2 1, 3, 1, 0), (114, .aload_n 0, 1, 0, 0), (115, .iconst 0, 1, 0, 0), (116, .iload 4, 2, 0, 0),
  (118, .aload_n 0, 1, 0, 0), (119, .iload_n 1, 1, 0, 0), (120, .iload_n 2, 1, 0, 0), (121, .invokevirtual 104, 3, 125, 0), (124, .iload_n 3, 1, 0, 0), (125, .aload_n 0, 1, 0, 0), (126, .iload_n 1, 1, 0, 0), (127, .iload_n 2, 1, 0, 0),
  (128, .invokevirtual 79, 3, 124, 0), (131, .invokevirtual 119, 3, 135, 0), (134, .goto 19, 3, 153, 0), (137, .aload_n 0, 1, 0, 0), (138, .iconst 1, 1, 1, 0), (139, .iload 4, 2, 0, 0), (141, .aload_n 0, 1, 0, 0), (142, .iconst 1, 1, 1, 0),
  (143, .iload 4, 2, 0, 0), (145, .invokevirtual 115, 3, 134, 0), (148, .iload_n 3, 1, 0, 0), (149, .iload_n 3, 1, 0, 0), (150, .invokevirtual 119, 3, 135, 0), (153, .iinc 2 1, 3, 1, 0), (156, .goto (-149), 3, 7, 0), (159, .return_, 1, 0, 0)]
def co_X11_goesOn : List mz_I := [(0, .iload_n 1, 1, 0, 0), (1, .ifCond .eq 23, 3, 24, 0), (4, .aload_n 0, 1, 0, 0), (5, .getfield 20, 3, 11, 3), (8, .iload_n 1, 1, 0, 0), (9, .iaload, 1, 0, 0), (10, .ifCond .ne 14, 3, 24, 0), (13, .aload_n 0, 1, 0, 0),
  (14, .getfield 20, 3, 11, 3), (17, .iload_n 1, 1, 0, 0), (18, .iconst 1, 1, 1, 0), (19, .isub, 1, 0, 0), (20, .iaload, 1, 0, 0), (21, .ifCond .eq 5, 3, 26, 0), (24, .iconst 0, 1, 0, 0), (25, .ireturn, 1, 0, 0),
  (26, .aload_n 0, 1, 0, 0), (27, .getfield 29, 3, 11, 6), (30, .iload_n 1, 1, 0, 0), (31, .iaload, 1, 0, 0), (32, .sipush 1440, 3, 1440, 0), (35, .idiv, 1, 0, 0), (36, .aload_n 0, 1, 0, 0), (37, .getfield 29, 3, 11, 6),
  (40, .iload_n 1, 1, 0, 0), (41, .iconst 1, 1, 1, 0), (42, .isub, 1, 0, 0), (43, .iaload, 1, 0, 0), (44, .sipush 1440, 3, 1440, 0), (47, .idiv, 1, 0, 0), (48, .if_icmp .ne 33, 3, 81, 0), (51, .aload_n 0, 1, 0, 0),
  (52, .getfield 29, 3, 11, 6), (55, .iload_n 1, 1, 0, 0), (56, .iaload, 1, 0, 0), (57, .aload_n 0, 1, 0, 0), (58, .getfield 32, 3, 11, 7), (61, .iload_n 1, 1, 0, 0), (62, .iconst 1, 1, 1, 0), (63, .isub, 1, 0, 0),
  (64, .iaload, 1, 0, 0), (65, .isub, 1, 0, 0), (66, .aload_n 0, 1, 0, 0), (67, .getfield 7, 3, 11, 0), (70, .sipush 412, 3, 412, 0), (73, .iaload, 1, 0, 0), (74, .if_icmp .gt 7, 3, 81, 0), (77, .iconst 1, 1, 1, 0),
  (78, .goto 4, 3, 82, 0), (81, .iconst 0, 1, 0, 0), (82, .istore_n 2, 1, 0, 0), (83, .iload_n 2, 1, 0, 0), (84, .ifCond .eq 41, 3, 125, 0), (87, .aload_n 0, 1, 0, 0), (88, .getfield 23, 3, 11, 4), (91, .iload_n 1, 1, 0, 0),
  (92, .iaload, 1, 0, 0), (93, .aload_n 0, 1, 0, 0), (94, .getfield 26, 3, 11, 5), (97, .iload_n 1, 1, 0, 0), (98, .iconst 1, 1, 1, 0), (99, .isub, 1, 0, 0), (100, .iaload, 1, 0, 0), (101, .if_icmp .ne 24, 3, 125, 0),
  (104, .aload_n 0, 1, 0, 0), (105, .getfield 44, 3, 11, 12), (108, .aload_n 0, 1, 0, 0), (109, .getfield 38, 3, 11, 9), (112, .iload_n 1, 1, 0, 0), (113, .iconst 1, 1, 1, 0), (114, .isub, 1, 0, 0), (115, .iaload, 1, 0, 0),
  (116, .iaload, 1, 0, 0), (117, .iconst 3, 1, 3, 0), (118, .if_icmp .ge 7, 3, 125, 0), (121, .iconst 1, 1, 1, 0), (122, .goto 4, 3, 126, 0), (125, .iconst 0, 1, 0, 0), (126, .ireturn, 1, 0, 0)]
def co_X11_isBusy : List mz_I := [(0, .iload_n 0, 1, 0, 0), (1, .sipush 1440, 3, 1440, 0), (4, .idiv, 1, 0, 0), (5, .istore_n 1, 1, 0, 0), (6, .iload_n 0, 1, 0, 0), (7, .sipush 1440, 3, 1440, 0), (10, .irem, 1, 0, 0), (11, .istore_n 2, 1, 0, 0),
  (12, .iload_n 1, 1, 0, 0), (13, .bipush 7, 2, 7, 0), (15, .irem, 1, 0, 0), (16, .iconst 5, 1, 5, 0), (17, .if_icmp .ge 33, 3, 50, 0), (20, .iload_n 2, 1, 0, 0), (21, .sipush 420, 3, 420, 0), (24, .sipush 569, 3, 569, 0),
  (27, .invokestatic 71, 3, 118, 2), (30, .ifCond .ne 16, 3, 46, 0), (33, .iload_n 2, 1, 0, 0), (34, .sipush 960, 3, 960, 0), (37, .sipush 1109, 3, 1109, 0), (40, .invokestatic 71, 3, 118, 2), (43, .ifCond .eq 7, 3, 50, 0), (46, .iconst 1, 1, 1, 0),
  (47, .goto 4, 3, 51, 0), (50, .iconst 0, 1, 0, 0), (51, .ireturn, 1, 0, 0)]
def co_X11_zoneOf : List mz_I := [(0, .aload_n 0, 1, 0, 0), (1, .getfield 7, 3, 11, 0), (4, .sipush 388, 3, 388, 0), (7, .iload_n 1, 1, 0, 0), (8, .iadd, 1, 0, 0), (9, .iaload, 1, 0, 0), (10, .ireturn, 1, 0, 0)]
def co_X11_widthOf : List mz_I := [(0, .iconst 5, 1, 5, 0), (1, .istore_n 2, 1, 0, 0), (2, .iconst 1, 1, 1, 0), (3, .istore_n 3, 1, 0, 0), (4, .aload_n 0, 1, 0, 0), (5, .getfield 41, 3, 11, 11), (8, .iload_n 1, 1, 0, 0), (9, .iaload, 1, 0, 0),
  (10, .istore 4, 2, 0, 0), (12, .iload 4, 2, 0, 0), (14, .aload_n 0, 1, 0, 0), (15, .getfield 41, 3, 11, 11), (18, .iload_n 1, 1, 0, 0), (19, .iaload, 1, 0, 0), (20, .aload_n 0, 1, 0, 0), (21, .getfield 44, 3, 11, 12),
  (24, .iload_n 1, 1, 0, 0), (25, .iaload, 1, 0, 0), (26, .iadd, 1, 0, 0), (27, .if_icmp .ge 99, 3, 126, 0), (30, .aload_n 0, 1, 0, 0), (31, .getfield 35, 3, 11, 8), (34, .iload 4, 2, 0, 0), (36, .baload, 1, 0, 0),
  (37, .ifCond .eq 5, 3, 42, 0), (40, .iconst 5, 1, 5, 0), (41, .ireturn, 1, 0, 0), (42, .aload_n 0, 1, 0, 0), (43, .aload_n 0, 1, 0, 0), (44, .getfield 23, 3, 11, 4), (47, .iload 4, 2, 0, 0), (49, .iaload, 1, 0, 0),
  (50, .invokevirtual 123, 3, 139, 0), (53, .istore 5, 2, 0, 0), (55, .aload_n 0, 1, 0, 0), (56, .aload_n 0, 1, 0, 0), (57, .getfield 26, 3, 11, 5), (60, .iload 4, 2, 0, 0), (62, .iaload, 1, 0, 0), (63, .invokevirtual 123, 3, 139, 0),
  (66, .istore 6, 2, 0, 0), (68, .iload 5, 2, 0, 0), (70, .iload_n 2, 1, 0, 0), (71, .if_icmp .ge 8, 3, 79, 0), (74, .iload 5, 2, 0, 0), (76, .goto 4, 3, 80, 0), (79, .iload_n 2, 1, 0, 0), (80, .istore_n 2, 1, 0, 0),
  (81, .iload 6, 2, 0, 0), (83, .iload_n 2, 1, 0, 0), (84, .if_icmp .ge 8, 3, 92, 0), (87, .iload 6, 2, 0, 0), (89, .goto 4, 3, 93, 0), (92, .iload_n 2, 1, 0, 0), (93, .istore_n 2, 1, 0, 0), (94, .iload 5, 2, 0, 0),
  (96, .iload_n 3, 1, 0, 0), (97, .if_icmp .le 8, 3, 105, 0), (100, .iload 5, 2, 0, 0), (102, .goto 4, 3, 106, 0), (105, .iload_n 3, 1, 0, 0), (106, .istore_n 3, 1, 0, 0), (107, .iload 6, 2, 0, 0), (109, .iload_n 3, 1, 0, 0),
  (110, .if_icmp .le 8, 3, 118, 0), (113, .iload 6, 2, 0, 0), (115, .goto 4, 3, 119, 0), (118, .iload_n 3, 1, 0, 0), (119, .istore_n 3, 1, 0, 0), (120, .iinc 4 1, 3, 1, 0), (123, .goto (-111), 3, 12, 0), (126, .iload_n 3, 1, 0, 0),
  (127, .iload_n 2, 1, 0, 0), (128, .isub, 1, 0, 0), (129, .iconst 1, 1, 1, 0), (130, .iadd, 1, 0, 0), (131, .ireturn, 1, 0, 0)]
def co_X11_layJourneys : List mz_I := [(0, .aload_n 0, 1, 0, 0), (1, .iload_n 1, 1, 0, 0), (2, .invokevirtual 127, 3, 136, 0), (5, .aload_n 0, 1, 0, 0), (6, .iconst 0, 1, 0, 0), (7, .putfield 131, 3, 11, 15), (10, .iconst 0, 1, 0, 0), (11, .istore_n 2, 1, 0, 0),
  (12, .iload_n 2, 1, 0, 0), (13, .aload_n 0, 1, 0, 0), (14, .getfield 111, 3, 11, 10), (17, .if_icmp .ge 89, 3, 106, 0), (20, .aload_n 0, 1, 0, 0), (21, .iload_n 2, 1, 0, 0), (22, .invokevirtual 134, 3, 137, 0), (25, .ifCond .eq 35, 3, 60, 0),
  (28, .aload_n 0, 1, 0, 0), (29, .getfield 38, 3, 11, 9), (32, .iload_n 2, 1, 0, 0), (33, .aload_n 0, 1, 0, 0), (34, .getfield 38, 3, 11, 9), (37, .iload_n 2, 1, 0, 0), (38, .iconst 1, 1, 1, 0), (39, .isub, 1, 0, 0),
  (40, .iaload, 1, 0, 0), (41, .iastore, 1, 0, 0), (42, .aload_n 0, 1, 0, 0), (43, .getfield 44, 3, 11, 12), (46, .aload_n 0, 1, 0, 0), (47, .getfield 38, 3, 11, 9), (50, .iload_n 2, 1, 0, 0), (51, .iaload, 1, 0, 0),
  (52, .dup2, 1, 0, 0), (53, .iaload, 1, 0, 0), (54, .iconst 1, 1, 1, 0), (55, .iadd, 1, 0, 0), (56, .iastore, 1, 0, 0), (57, .goto 43, 3, 100, 0), (60, .aload_n 0, 1, 0, 0), (61, .getfield 38, 3, 11, 9),
  (64, .iload_n 2, 1, 0, 0), (65, .aload_n 0, 1, 0, 0), (66, .getfield 131, 3, 11, 15), (69, .iastore, 1, 0, 0), (70, .aload_n 0, 1, 0, 0), (71, .getfield 41, 3, 11, 11), (74, .aload_n 0, 1, 0, 0), (75, .getfield 131, 3, 11, 15),
  (78, .iload_n 2, 1, 0, 0), (79, .iastore, 1, 0, 0), (80, .aload_n 0, 1, 0, 0), (81, .getfield 44, 3, 11, 12), (84, .aload_n 0, 1, 0, 0), (85, .getfield 131, 3, 11, 15), (88, .iconst 1, 1, 1, 0), (89, .iastore, 1, 0, 0),
  (90, .aload_n 0, 1, 0, 0), (91, .dup, 1, 0, 0), (92, .getfield 131, 3, 11, 15), (95, .iconst 1, 1, 1, 0), (96, .iadd, 1, 0, 0), (97, .putfield 131, 3, 11, 15), (100, .iinc 2 1, 3, 1, 0), (103, .goto (-91), 3, 12, 0),
  (106, .iconst 0, 1, 0, 0), (107, .istore_n 2, 1, 0, 0), (108, .iload_n 2, 1, 0, 0), (109, .aload_n 0, 1, 0, 0), (110, .getfield 131, 3, 11, 15), (113, .if_icmp .ge 73, 3, 186, 0), (116, .aload_n 0, 1, 0, 0), (117, .getfield 47, 3, 11, 13),
  (120, .iload_n 2, 1, 0, 0), (121, .aload_n 0, 1, 0, 0), (122, .iload_n 2, 1, 0, 0), (123, .invokevirtual 137, 3, 140, 0), (126, .iastore, 1, 0, 0), (127, .aload_n 0, 1, 0, 0), (128, .getfield 50, 3, 11, 14), (131, .iload_n 2, 1, 0, 0),
  (132, .aload_n 0, 1, 0, 0), (133, .getfield 7, 3, 11, 0), (136, .sipush 396, 3, 396, 0), (139, .aload_n 0, 1, 0, 0), (140, .getfield 47, 3, 11, 13), (143, .iload_n 2, 1, 0, 0), (144, .iaload, 1, 0, 0), (145, .iadd, 1, 0, 0),
  (146, .iconst 1, 1, 1, 0), (147, .isub, 1, 0, 0), (148, .iaload, 1, 0, 0), (149, .aload_n 0, 1, 0, 0), (150, .getfield 29, 3, 11, 6), (153, .aload_n 0, 1, 0, 0), (154, .getfield 41, 3, 11, 11), (157, .iload_n 2, 1, 0, 0),
  (158, .iaload, 1, 0, 0), (159, .iaload, 1, 0, 0), (160, .invokestatic 140, 3, 138, 2), (163, .ifCond .eq 14, 3, 177, 0), (166, .aload_n 0, 1, 0, 0), (167, .getfield 7, 3, 11, 0), (170, .sipush 411, 3, 411, 0), (173, .iaload, 1, 0, 0),
  (174, .goto 4, 3, 178, 0), (177, .iconst 0, 1, 0, 0), (178, .iadd, 1, 0, 0), (179, .iastore, 1, 0, 0), (180, .iinc 2 1, 3, 1, 0), (183, .goto (-75), 3, 108, 0), (186, .return_, 1, 0, 0)]
def co_X11_ride : List mz_I := [(0, .iload_n 1, 1, 0, 0), (1, .invokestatic 83, 3, 119, 2), (4, .ifCond .ne 5, 3, 9, 0), (7, .iconst (-1), 1, 4294967295, 0), (8, .ireturn, 1, 0, 0), (9, .iload_n 2, 1, 0, 0), (10, .iconst (-1), 1, 4294967295, 0), (11, .if_icmp .lt 12, 3, 23, 0),
  (14, .iload_n 3, 1, 0, 0), (15, .iconst 0, 1, 0, 0), (16, .iconst 4, 1, 4, 0), (17, .invokestatic 71, 3, 118, 2), (20, .ifCond .ne 6, 3, 26, 0), (23, .bipush (-2), 2, 4294967294, 0), (25, .ireturn, 1, 0, 0), (26, .aload_n 0, 1, 0, 0),
  (27, .iload_n 1, 1, 0, 0), (28, .invokevirtual 143, 3, 141, 0), (31, .iload_n 2, 1, 0, 0), (32, .iconst (-1), 1, 4294967295, 0), (33, .if_icmp .ne 8, 3, 41, 0), (36, .aload_n 0, 1, 0, 0), (37, .getfield 111, 3, 11, 10), (40, .ireturn, 1, 0, 0),
  (41, .iload_n 2, 1, 0, 0), (42, .aload_n 0, 1, 0, 0), (43, .getfield 111, 3, 11, 10), (46, .if_icmp .lt 6, 3, 52, 0), (49, .bipush (-6), 2, 4294967290, 0), (51, .ireturn, 1, 0, 0), (52, .iload_n 3, 1, 0, 0), (53, .ifCond .ne 12, 3, 65, 0),
  (56, .aload_n 0, 1, 0, 0), (57, .getfield 23, 3, 11, 4), (60, .iload_n 2, 1, 0, 0), (61, .iaload, 1, 0, 0), (62, .goto 59, 3, 121, 0), (65, .iload_n 3, 1, 0, 0), (66, .iconst 1, 1, 1, 0), (67, .if_icmp .ne 12, 3, 79, 0),
  (70, .aload_n 0, 1, 0, 0), (71, .getfield 26, 3, 11, 5), (74, .iload_n 2, 1, 0, 0), (75, .iaload, 1, 0, 0), (76, .goto 45, 3, 121, 0), (79, .iload_n 3, 1, 0, 0), (80, .iconst 2, 1, 2, 0), (81, .if_icmp .ne 12, 3, 93, 0),
  (84, .aload_n 0, 1, 0, 0), (85, .getfield 20, 3, 11, 3), (88, .iload_n 2, 1, 0, 0), (89, .iaload, 1, 0, 0), (90, .goto 31, 3, 121, 0), (93, .iload_n 3, 1, 0, 0), (94, .iconst 3, 1, 3, 0), (95, .if_icmp .ne 20, 3, 115, 0),
  (98, .aload_n 0, 1, 0, 0), (99, .getfield 35, 3, 11, 8), (102, .iload_n 2, 1, 0, 0), (103, .baload, 1, 0, 0), (104, .ifCond .eq 7, 3, 111, 0), (107, .iconst 1, 1, 1, 0), (108, .goto 13, 3, 121, 0), (111, .iconst 0, 1, 0, 0),
  (112, .goto 9, 3, 121, 0), (115, .aload_n 0, 1, 0, 0), (116, .getfield 38, 3, 11, 9), (119, .iload_n 2, 1, 0, 0), (120, .iaload, 1, 0, 0), (121, .ireturn, 1, 0, 0)]
def co_X11_journey : List mz_I := [(0, .iload_n 1, 1, 0, 0), (1, .invokestatic 83, 3, 119, 2), (4, .ifCond .ne 5, 3, 9, 0), (7, .iconst (-1), 1, 4294967295, 0), (8, .ireturn, 1, 0, 0), (9, .iload_n 2, 1, 0, 0), (10, .iconst (-1), 1, 4294967295, 0), (11, .if_icmp .lt 12, 3, 23, 0),
  (14, .iload_n 3, 1, 0, 0), (15, .iconst 0, 1, 0, 0), (16, .iconst 4, 1, 4, 0), (17, .invokestatic 71, 3, 118, 2), (20, .ifCond .ne 6, 3, 26, 0), (23, .bipush (-2), 2, 4294967294, 0), (25, .ireturn, 1, 0, 0), (26, .aload_n 0, 1, 0, 0),
  (27, .iload_n 1, 1, 0, 0), (28, .invokevirtual 143, 3, 141, 0), (31, .iload_n 2, 1, 0, 0), (32, .iconst (-1), 1, 4294967295, 0), (33, .if_icmp .ne 8, 3, 41, 0), (36, .aload_n 0, 1, 0, 0), (37, .getfield 131, 3, 11, 15), (40, .ireturn, 1, 0, 0),
  (41, .iload_n 2, 1, 0, 0), (42, .aload_n 0, 1, 0, 0), (43, .getfield 131, 3, 11, 15), (46, .if_icmp .lt 6, 3, 52, 0), (49, .bipush (-6), 2, 4294967290, 0), (51, .ireturn, 1, 0, 0), (52, .aload_n 0, 1, 0, 0), (53, .getfield 29, 3, 11, 6),
  (56, .aload_n 0, 1, 0, 0), (57, .getfield 41, 3, 11, 11), (60, .iload_n 2, 1, 0, 0), (61, .iaload, 1, 0, 0), (62, .iaload, 1, 0, 0), (63, .istore 4, 2, 0, 0), (65, .iload_n 3, 1, 0, 0), (66, .ifCond .ne 12, 3, 78, 0),
  (69, .iload 4, 2, 0, 0), (71, .sipush 1440, 3, 1440, 0), (74, .idiv, 1, 0, 0), (75, .goto 58, 3, 133, 0), (78, .iload_n 3, 1, 0, 0), (79, .iconst 1, 1, 1, 0), (80, .if_icmp .ne 12, 3, 92, 0), (83, .aload_n 0, 1, 0, 0),
  (84, .getfield 44, 3, 11, 12), (87, .iload_n 2, 1, 0, 0), (88, .iaload, 1, 0, 0), (89, .goto 44, 3, 133, 0), (92, .iload_n 3, 1, 0, 0), (93, .iconst 2, 1, 2, 0), (94, .if_icmp .ne 12, 3, 106, 0), (97, .aload_n 0, 1, 0, 0),
  (98, .getfield 47, 3, 11, 13), (101, .iload_n 2, 1, 0, 0), (102, .iaload, 1, 0, 0), (103, .goto 30, 3, 133, 0), (106, .iload_n 3, 1, 0, 0), (107, .iconst 3, 1, 3, 0), (108, .if_icmp .ne 12, 3, 120, 0), (111, .aload_n 0, 1, 0, 0),
  (112, .getfield 50, 3, 11, 14), (115, .iload_n 2, 1, 0, 0), (116, .iaload, 1, 0, 0), (117, .goto 16, 3, 133, 0), (120, .iload 4, 2, 0, 0), (122, .invokestatic 140, 3, 138, 2), (125, .ifCond .eq 7, 3, 132, 0), (128, .iconst 1, 1, 1, 0),
  (129, .goto 4, 3, 133, 0), (132, .iconst 0, 1, 0, 0), (133, .ireturn, 1, 0, 0)]
def co_X11_weekAt : List mz_I := [(0, .iconst 0, 1, 0, 0), (1, .istore_n 2, 1, 0, 0), (2, .iload_n 1, 1, 0, 0), (3, .istore_n 3, 1, 0, 0), (4, .iload_n 3, 1, 0, 0), (5, .iload_n 1, 1, 0, 0), (6, .bipush 7, 2, 7, 0), (8, .iadd, 1, 0, 0),
  (9, .if_icmp .ge 30, 3, 39, 0), (12, .aload_n 0, 1, 0, 0), (13, .getfield 56, 3, 11, 17), (16, .iload_n 3, 1, 0, 0), (17, .iaload, 1, 0, 0), (18, .iload_n 2, 1, 0, 0), (19, .if_icmp .le 12, 3, 31, 0), (22, .aload_n 0, 1, 0, 0),
  (23, .getfield 56, 3, 11, 17), (26, .iload_n 3, 1, 0, 0), (27, .iaload, 1, 0, 0), (28, .goto 4, 3, 32, 0), (31, .iload_n 2, 1, 0, 0), (32, .istore_n 2, 1, 0, 0), (33, .iinc 3 1, 3, 1, 0), (36, .goto (-32), 3, 4, 0),
  (39, .iload_n 2, 1, 0, 0), (40, .ifCond .ne 7, 3, 47, 0), (43, .iconst 0, 1, 0, 0), (44, .goto 15, 3, 59, 0), (47, .aload_n 0, 1, 0, 0), (48, .getfield 7, 3, 11, 0), (51, .sipush 406, 3, 406, 0), (54, .iload_n 2, 1, 0, 0),
  (55, .iadd, 1, 0, 0), (56, .iconst 1, 1, 1, 0), (57, .isub, 1, 0, 0), (58, .iaload, 1, 0, 0), (59, .ireturn, 1, 0, 0)]
def co_X11_layDays : List mz_I := [(0, .aload_n 0, 1, 0, 0), (1, .iload_n 1, 1, 0, 0), (2, .invokevirtual 143, 3, 141, 0), (5, .iconst 0, 1, 0, 0), (6, .istore_n 2, 1, 0, 0), (7, .iload_n 2, 1, 0, 0), (8, .bipush 28, 2, 28, 0), (10, .if_icmp .ge 23, 3, 33, 0),
  (13, .aload_n 0, 1, 0, 0), (14, .getfield 53, 3, 11, 16), (17, .iload_n 2, 1, 0, 0), (18, .iconst 0, 1, 0, 0), (19, .iastore, 1, 0, 0), (20, .aload_n 0, 1, 0, 0), (21, .getfield 56, 3, 11, 17), (24, .iload_n 2, 1, 0, 0),
  (25, .iconst 0, 1, 0, 0), (26, .iastore, 1, 0, 0), (27, .iinc 2 1, 3, 1, 0), (30, .goto (-23), 3, 7, 0), (33, .iconst 0, 1, 0, 0), (34, .istore_n 2, 1, 0, 0), (35, .iload_n 2, 1, 0, 0), (36, .aload_n 0, 1, 0, 0),
  (37, .getfield 131, 3, 11, 15), (40, .if_icmp .ge 76, 3, 116, 0), (43, .aload_n 0, 1, 0, 0), (44, .getfield 29, 3, 11, 6), (47, .aload_n 0, 1, 0, 0), (48, .getfield 41, 3, 11, 11), (51, .iload_n 2, 1, 0, 0), (52, .iaload, 1, 0, 0),
  (53, .iaload, 1, 0, 0), (54, .sipush 1440, 3, 1440, 0), (57, .idiv, 1, 0, 0), (58, .istore_n 3, 1, 0, 0), (59, .aload_n 0, 1, 0, 0), (60, .getfield 53, 3, 11, 16), (63, .iload_n 3, 1, 0, 0), (64, .dup2, 1, 0, 0),
  (65, .iaload, 1, 0, 0), (66, .aload_n 0, 1, 0, 0), (67, .getfield 50, 3, 11, 14), (70, .iload_n 2, 1, 0, 0), (71, .iaload, 1, 0, 0), (72, .iadd, 1, 0, 0), (73, .iastore, 1, 0, 0), (74, .aload_n 0, 1, 0, 0),
  (75, .getfield 56, 3, 11, 17), (78, .iload_n 3, 1, 0, 0), (79, .aload_n 0, 1, 0, 0), (80, .getfield 47, 3, 11, 13), (83, .iload_n 2, 1, 0, 0), (84, .iaload, 1, 0, 0), (85, .aload_n 0, 1, 0, 0), (86, .getfield 56, 3, 11, 17),
  (89, .iload_n 3, 1, 0, 0), (90, .iaload, 1, 0, 0), (91, .if_icmp .le 12, 3, 103, 0), (94, .aload_n 0, 1, 0, 0), (95, .getfield 47, 3, 11, 13), (98, .iload_n 2, 1, 0, 0), (99, .iaload, 1, 0, 0), (100, .goto 9, 3, 109, 0),
  (103, .aload_n 0, 1, 0, 0), (104, .getfield 56, 3, 11, 17), (107, .iload_n 3, 1, 0, 0), (108, .iaload, 1, 0, 0), (109, .iastore, 1, 0, 0), (110, .iinc 2 1, 3, 1, 0), (113, .goto (-78), 3, 35, 0), (116, .iconst 0, 1, 0, 0),
  (117, .istore_n 2, 1, 0, 0), (118, .iload_n 2, 1, 0, 0), (119, .bipush 28, 2, 28, 0), (121, .if_icmp .ge 66, 3, 187, 0), (124, .aload_n 0, 1, 0, 0), (125, .getfield 56, 3, 11, 17), (128, .iload_n 2, 1, 0, 0), (129, .iaload, 1, 0, 0),
  (130, .ifCond .ne 7, 3, 137, 0), (133, .iconst 0, 1, 0, 0), (134, .goto 20, 3, 154, 0), (137, .aload_n 0, 1, 0, 0), (138, .getfield 7, 3, 11, 0), (141, .sipush 401, 3, 401, 0), (144, .aload_n 0, 1, 0, 0), (145, .getfield 56, 3, 11, 17),
  (148, .iload_n 2, 1, 0, 0), (149, .iaload, 1, 0, 0), (150, .iadd, 1, 0, 0), (151, .iconst 1, 1, 1, 0), (152, .isub, 1, 0, 0), (153, .iaload, 1, 0, 0), (154, .istore_n 3, 1, 0, 0), (155, .aload_n 0, 1, 0, 0),
  (156, .getfield 59, 3, 11, 18), (159, .iload_n 2, 1, 0, 0), (160, .iload_n 3, 1, 0, 0), (161, .aload_n 0, 1, 0, 0), (162, .getfield 53, 3, 11, 16), (165, .iload_n 2, 1, 0, 0), (166, .iaload, 1, 0, 0), (167, .if_icmp .ge 7, 3, 174, 0),
  (170, .iload_n 3, 1, 0, 0), (171, .goto 9, 3, 180, 0), (174, .aload_n 0, 1, 0, 0), (175, .getfield 53, 3, 11, 16), (178, .iload_n 2, 1, 0, 0), (179, .iaload, 1, 0, 0), (180, .iastore, 1, 0, 0), (181, .iinc 2 1, 3, 1, 0),
  (184, .goto (-66), 3, 118, 0), (187, .aload_n 0, 1, 0, 0), (188, .getfield 62, 3, 11, 19), (191, .bipush 28, 2, 28, 0), (193, .iconst 0, 1, 0, 0), (194, .iastore, 1, 0, 0), (195, .aload_n 0, 1, 0, 0), (196, .getfield 65, 3, 11, 20),
  (199, .bipush 28, 2, 28, 0), (201, .iconst 0, 1, 0, 0), (202, .iastore, 1, 0, 0), (203, .bipush 27, 2, 27, 0), (205, .istore_n 2, 1, 0, 0), (206, .iload_n 2, 1, 0, 0), (207, .ifCond .lt 139, 3, 346, 0), (210, .aload_n 0, 1, 0, 0),
  (211, .getfield 62, 3, 11, 19), (214, .iload_n 2, 1, 0, 0), (215, .aload_n 0, 1, 0, 0), (216, .getfield 59, 3, 11, 18), (219, .iload_n 2, 1, 0, 0), (220, .iaload, 1, 0, 0), (221, .aload_n 0, 1, 0, 0), (222, .getfield 62, 3, 11, 19),
  (225, .iload_n 2, 1, 0, 0), (226, .iconst 1, 1, 1, 0), (227, .iadd, 1, 0, 0), (228, .iaload, 1, 0, 0), (229, .iadd, 1, 0, 0), (230, .iastore, 1, 0, 0), (231, .aload_n 0, 1, 0, 0), (232, .getfield 65, 3, 11, 20),
  (235, .iload_n 2, 1, 0, 0), (236, .aload_n 0, 1, 0, 0), (237, .getfield 65, 3, 11, 20), (240, .iload_n 2, 1, 0, 0), (241, .iconst 1, 1, 1, 0), (242, .iadd, 1, 0, 0), (243, .iaload, 1, 0, 0), (244, .iastore, 1, 0, 0),
  (245, .aload_n 0, 1, 0, 0), (246, .getfield 68, 3, 11, 21), (249, .iload_n 2, 1, 0, 0), (250, .iconst 0, 1, 0, 0), (251, .bastore, 1, 0, 0), (252, .iload_n 2, 1, 0, 0), (253, .bipush 21, 2, 21, 0), (255, .if_icmp .gt 85, 3, 340, 0),
  (258, .aload_n 0, 1, 0, 0), (259, .iload_n 2, 1, 0, 0), (260, .invokevirtual 146, 3, 144, 0), (263, .aload_n 0, 1, 0, 0), (264, .getfield 62, 3, 11, 19), (267, .iload_n 2, 1, 0, 0), (268, .bipush 7, 2, 7, 0), (270, .iadd, 1, 0, 0),
  (271, .iaload, 1, 0, 0), (272, .iadd, 1, 0, 0), (273, .istore_n 3, 1, 0, 0), (274, .iconst 1, 1, 1, 0), (275, .aload_n 0, 1, 0, 0), (276, .getfield 65, 3, 11, 20), (279, .iload_n 2, 1, 0, 0), (280, .bipush 7, 2, 7, 0),
  (282, .iadd, 1, 0, 0), (283, .iaload, 1, 0, 0), (284, .iadd, 1, 0, 0), (285, .istore 4, 2, 0, 0), (287, .iload_n 3, 1, 0, 0), (288, .aload_n 0, 1, 0, 0), (289, .getfield 62, 3, 11, 19), (292, .iload_n 2, 1, 0, 0),
  (293, .iaload, 1, 0, 0), (294, .if_icmp .lt 24, 3, 318, 0), (297, .iload_n 3, 1, 0, 0), (298, .aload_n 0, 1, 0, 0), (299, .getfield 62, 3, 11, 19), (302, .iload_n 2, 1, 0, 0), (303, .iaload, 1, 0, 0), (304, .if_icmp .ne 36, 3, 340, 0),
  (307, .iload 4, 2, 0, 0), (309, .aload_n 0, 1, 0, 0), (310, .getfield 65, 3, 11, 20), (313, .iload_n 2, 1, 0, 0), (314, .iaload, 1, 0, 0), (315, .if_icmp .gt 25, 3, 340, 0), (318, .aload_n 0, 1, 0, 0), (319, .getfield 62, 3, 11, 19),
  (322, .iload_n 2, 1, 0, 0), (323, .iload_n 3, 1, 0, 0), (324, .iastore, 1, 0, 0), (325, .aload_n 0, 1, 0, 0), (326, .getfield 65, 3, 11, 20), (329, .iload_n 2, 1, 0, 0), (330, .iload 4, 2, 0, 0), (332, .iastore, 1, 0, 0),
  (333, .aload_n 0, 1, 0, 0), (334, .getfield 68, 3, 11, 21), (337, .iload_n 2, 1, 0, 0), (338, .iconst 1, 1, 1, 0), (339, .bastore, 1, 0, 0), (340, .iinc 2 (-1), 3, 4294967295, 0), (343, .goto (-137), 3, 206, 0), (346, .return_, 1, 0, 0)]
def co_X11_weekOf : List mz_I := [(0, .iconst 0, 1, 0, 0), (1, .istore_n 2, 1, 0, 0), (2, .iconst 0, 1, 0, 0), (3, .istore_n 3, 1, 0, 0), (4, .iload_n 3, 1, 0, 0), (5, .bipush 28, 2, 28, 0), (7, .if_icmp .ge 34, 3, 41, 0), (10, .aload_n 0, 1, 0, 0),
  (11, .getfield 68, 3, 11, 21), (14, .iload_n 3, 1, 0, 0), (15, .baload, 1, 0, 0), (16, .ifCond .eq 19, 3, 35, 0), (19, .iload_n 2, 1, 0, 0), (20, .iload_n 1, 1, 0, 0), (21, .if_icmp .ne 5, 3, 26, 0), (24, .iload_n 3, 1, 0, 0),
  (25, .ireturn, 1, 0, 0), (26, .iinc 2 1, 3, 1, 0), (29, .iinc 3 7, 3, 7, 0), (32, .goto (-28), 3, 4, 0), (35, .iinc 3 1, 3, 1, 0), (38, .goto (-34), 3, 4, 0), (41, .bipush (-6), 2, 4294967290, 0), (43, .ireturn, 1, 0, 0)]
def co_X11_isOfWeek : List mz_I := [(0, .iconst 0, 1, 0, 0), (1, .istore_n 2, 1, 0, 0), (2, .iconst 0, 1, 0, 0), (3, .istore_n 3, 1, 0, 0), (4, .iload_n 3, 1, 0, 0), (5, .iconst 4, 1, 4, 0), (6, .if_icmp .ge 45, 3, 51, 0), (9, .aload_n 0, 1, 0, 0),
  (10, .iload_n 3, 1, 0, 0), (11, .invokevirtual 149, 3, 146, 0), (14, .istore 4, 2, 0, 0), (16, .iload_n 2, 1, 0, 0), (17, .ifCond .ne 22, 3, 39, 0), (20, .iload 4, 2, 0, 0), (22, .ifCond .lt 21, 3, 43, 0), (25, .iload_n 1, 1, 0, 0),
  (26, .iload 4, 2, 0, 0), (28, .iload 4, 2, 0, 0), (30, .bipush 6, 2, 6, 0), (32, .iadd, 1, 0, 0), (33, .invokestatic 71, 3, 118, 2), (36, .ifCond .eq 7, 3, 43, 0), (39, .iconst 1, 1, 1, 0), (40, .goto 4, 3, 44, 0),
  (43, .iconst 0, 1, 0, 0), (44, .istore_n 2, 1, 0, 0), (45, .iinc 3 1, 3, 1, 0), (48, .goto (-44), 3, 4, 0), (51, .iload_n 2, 1, 0, 0), (52, .ireturn, 1, 0, 0)]
def co_X11_day : List mz_I := [(0, .iload_n 1, 1, 0, 0), (1, .invokestatic 83, 3, 119, 2), (4, .ifCond .ne 5, 3, 9, 0), (7, .iconst (-1), 1, 4294967295, 0), (8, .ireturn, 1, 0, 0), (9, .iload_n 2, 1, 0, 0), (10, .invokestatic 86, 3, 121, 2), (13, .ifCond .eq 12, 3, 25, 0),
  (16, .iload_n 3, 1, 0, 0), (17, .iconst 0, 1, 0, 0), (18, .iconst 3, 1, 3, 0), (19, .invokestatic 71, 3, 118, 2), (22, .ifCond .ne 6, 3, 28, 0), (25, .bipush (-2), 2, 4294967294, 0), (27, .ireturn, 1, 0, 0), (28, .aload_n 0, 1, 0, 0),
  (29, .iload_n 1, 1, 0, 0), (30, .invokevirtual 152, 3, 145, 0), (33, .iload_n 3, 1, 0, 0), (34, .ifCond .ne 12, 3, 46, 0), (37, .aload_n 0, 1, 0, 0), (38, .getfield 53, 3, 11, 16), (41, .iload_n 2, 1, 0, 0), (42, .iaload, 1, 0, 0),
  (43, .goto 44, 3, 87, 0), (46, .iload_n 3, 1, 0, 0), (47, .iconst 1, 1, 1, 0), (48, .if_icmp .ne 12, 3, 60, 0), (51, .aload_n 0, 1, 0, 0), (52, .getfield 56, 3, 11, 17), (55, .iload_n 2, 1, 0, 0), (56, .iaload, 1, 0, 0),
  (57, .goto 30, 3, 87, 0), (60, .iload_n 3, 1, 0, 0), (61, .iconst 2, 1, 2, 0), (62, .if_icmp .ne 12, 3, 74, 0), (65, .aload_n 0, 1, 0, 0), (66, .getfield 59, 3, 11, 18), (69, .iload_n 2, 1, 0, 0), (70, .iaload, 1, 0, 0),
  (71, .goto 16, 3, 87, 0), (74, .aload_n 0, 1, 0, 0), (75, .iload_n 2, 1, 0, 0), (76, .invokevirtual 155, 3, 147, 0), (79, .ifCond .eq 7, 3, 86, 0), (82, .iconst 1, 1, 1, 0), (83, .goto 4, 3, 87, 0), (86, .iconst 0, 1, 0, 0),
  (87, .ireturn, 1, 0, 0)]
def co_X11_best : List mz_I := [(0, .iload_n 1, 1, 0, 0), (1, .invokestatic 83, 3, 119, 2), (4, .ifCond .ne 5, 3, 9, 0), (7, .iconst (-1), 1, 4294967295, 0), (8, .ireturn, 1, 0, 0), (9, .iload_n 2, 1, 0, 0), (10, .iconst 0, 1, 0, 0), (11, .iconst 1, 1, 1, 0),
  (12, .invokestatic 71, 3, 118, 2), (15, .ifCond .ne 17, 3, 32, 0), (18, .iload_n 2, 1, 0, 0), (19, .bipush 10, 2, 10, 0), (21, .bipush 13, 2, 13, 0), (23, .invokestatic 71, 3, 118, 2), (26, .ifCond .ne 6, 3, 32, 0), (29, .bipush (-2), 2, 4294967294, 0),
  (31, .ireturn, 1, 0, 0), (32, .aload_n 0, 1, 0, 0), (33, .iload_n 1, 1, 0, 0), (34, .invokevirtual 152, 3, 145, 0), (37, .iload_n 2, 1, 0, 0), (38, .ifCond .ne 12, 3, 50, 0), (41, .aload_n 0, 1, 0, 0), (42, .getfield 62, 3, 11, 19),
  (45, .iconst 0, 1, 0, 0), (46, .iaload, 1, 0, 0), (47, .goto 25, 3, 72, 0), (50, .iload_n 2, 1, 0, 0), (51, .iconst 1, 1, 1, 0), (52, .if_icmp .ne 12, 3, 64, 0), (55, .aload_n 0, 1, 0, 0), (56, .getfield 65, 3, 11, 20),
  (59, .iconst 0, 1, 0, 0), (60, .iaload, 1, 0, 0), (61, .goto 11, 3, 72, 0), (64, .aload_n 0, 1, 0, 0), (65, .iload_n 2, 1, 0, 0), (66, .bipush 10, 2, 10, 0), (68, .isub, 1, 0, 0), (69, .invokevirtual 149, 3, 146, 0),
  (72, .ireturn, 1, 0, 0)]
def co_X11_saved : List mz_I := [(0, .iload_n 1, 1, 0, 0), (1, .invokestatic 83, 3, 119, 2), (4, .ifCond .ne 5, 3, 9, 0), (7, .iconst (-1), 1, 4294967295, 0), (8, .ireturn, 1, 0, 0), (9, .iload_n 2, 1, 0, 0), (10, .iconst 0, 1, 0, 0), (11, .iconst 1, 1, 1, 0),
  (12, .invokestatic 71, 3, 118, 2), (15, .ifCond .ne 6, 3, 21, 0), (18, .bipush (-2), 2, 4294967294, 0), (20, .ireturn, 1, 0, 0), (21, .aload_n 0, 1, 0, 0), (22, .iload_n 1, 1, 0, 0), (23, .invokevirtual 152, 3, 145, 0), (26, .iconst 0, 1, 0, 0),
  (27, .istore_n 3, 1, 0, 0), (28, .iconst 0, 1, 0, 0), (29, .istore 4, 2, 0, 0), (31, .iconst 0, 1, 0, 0), (32, .istore 5, 2, 0, 0), (34, .iload 5, 2, 0, 0), (36, .bipush 28, 2, 28, 0), (38, .if_icmp .ge 31, 3, 69, 0),
  (41, .iload 4, 2, 0, 0), (43, .aload_n 0, 1, 0, 0), (44, .getfield 53, 3, 11, 16), (47, .iload 5, 2, 0, 0), (49, .iaload, 1, 0, 0), (50, .iadd, 1, 0, 0), (51, .istore 4, 2, 0, 0), (53, .iload_n 3, 1, 0, 0),
  (54, .aload_n 0, 1, 0, 0), (55, .getfield 59, 3, 11, 18), (58, .iload 5, 2, 0, 0), (60, .iaload, 1, 0, 0), (61, .iadd, 1, 0, 0), (62, .istore_n 3, 1, 0, 0), (63, .iinc 5 1, 3, 1, 0), (66, .goto (-32), 3, 34, 0),
  (69, .iload_n 2, 1, 0, 0), (70, .ifCond .ne 10, 3, 80, 0), (73, .iload 4, 2, 0, 0), (75, .iload_n 3, 1, 0, 0), (76, .isub, 1, 0, 0), (77, .goto 11, 3, 88, 0), (80, .iload_n 3, 1, 0, 0), (81, .aload_n 0, 1, 0, 0),
  (82, .getfield 62, 3, 11, 19), (85, .iconst 0, 1, 0, 0), (86, .iaload, 1, 0, 0), (87, .isub, 1, 0, 0), (88, .ireturn, 1, 0, 0)]
def co_X11_would : List mz_I := [(0, .aload_n 0, 1, 0, 0), (1, .iload_n 1, 1, 0, 0), (2, .iload_n 2, 1, 0, 0), (3, .iload_n 3, 1, 0, 0), (4, .iload 4, 2, 0, 0), (6, .iload 5, 2, 0, 0), (8, .invokevirtual 92, 3, 128, 0), (11, .istore 6, 2, 0, 0),
  (13, .iload 6, 2, 0, 0), (15, .ifCond .eq 6, 3, 21, 0), (18, .iload 6, 2, 0, 0), (20, .ireturn, 1, 0, 0), (21, .aload_n 0, 1, 0, 0), (22, .iload_n 1, 1, 0, 0), (23, .invokevirtual 152, 3, 145, 0), (26, .aload_n 0, 1, 0, 0),
  (27, .getfield 62, 3, 11, 19), (30, .iconst 0, 1, 0, 0), (31, .iaload, 1, 0, 0), (32, .istore 7, 2, 0, 0), (34, .sipush 1440, 3, 1440, 0), (37, .iload_n 2, 1, 0, 0), (38, .imul, 1, 0, 0), (39, .iload_n 3, 1, 0, 0),
  (40, .iadd, 1, 0, 0), (41, .istore 8, 2, 0, 0), (43, .aload_n 0, 1, 0, 0), (44, .iload_n 1, 1, 0, 0), (45, .iload 8, 2, 0, 0), (47, .iconst 2, 1, 2, 0), (48, .iload 4, 2, 0, 0), (50, .imul, 1, 0, 0),
  (51, .iload 5, 2, 0, 0), (53, .iadd, 1, 0, 0), (54, .invokevirtual 96, 3, 129, 0), (57, .aload_n 0, 1, 0, 0), (58, .iload_n 1, 1, 0, 0), (59, .invokevirtual 152, 3, 145, 0), (62, .aload_n 0, 1, 0, 0), (63, .iload_n 1, 1, 0, 0),
  (64, .aload_n 0, 1, 0, 0), (65, .iload_n 1, 1, 0, 0), (66, .iload 8, 2, 0, 0), (68, .invokevirtual 89, 3, 127, 0), (71, .invokevirtual 100, 3, 130, 0), (74, .ldc 158, 2, 100000, 0), (76, .aload_n 0, 1, 0, 0), (77, .getfield 62, 3, 11, 19),
  (80, .iconst 0, 1, 0, 0), (81, .iaload, 1, 0, 0), (82, .iadd, 1, 0, 0), (83, .iload 7, 2, 0, 0), (85, .isub, 1, 0, 0), (86, .ireturn, 1, 0, 0)]
def co_X11_bar : List mz_I := [(0, .iload_n 1, 1, 0, 0), (1, .invokestatic 83, 3, 119, 2), (4, .ifCond .ne 5, 3, 9, 0), (7, .iconst (-1), 1, 4294967295, 0), (8, .ireturn, 1, 0, 0), (9, .iload_n 2, 1, 0, 0), (10, .iconst 0, 1, 0, 0), (11, .iconst 1, 1, 1, 0),
  (12, .invokestatic 71, 3, 118, 2), (15, .ifCond .ne 6, 3, 21, 0), (18, .bipush (-2), 2, 4294967294, 0), (20, .ireturn, 1, 0, 0), (21, .aload_n 0, 1, 0, 0), (22, .getfield 7, 3, 11, 0), (25, .sipush 413, 3, 413, 0), (28, .iaload, 1, 0, 0),
  (29, .iload_n 1, 1, 0, 0), (30, .ishr, 1, 0, 0), (31, .iconst 1, 1, 1, 0), (32, .iand, 1, 0, 0), (33, .iload_n 2, 1, 0, 0), (34, .if_icmp .eq 29, 3, 63, 0), (37, .aload_n 0, 1, 0, 0), (38, .getfield 7, 3, 11, 0),
  (41, .sipush 413, 3, 413, 0), (44, .dup2, 1, 0, 0), (45, .iaload, 1, 0, 0), (46, .iconst 1, 1, 1, 0), (47, .iload_n 1, 1, 0, 0), (48, .ishl, 1, 0, 0), (49, .ixor, 1, 0, 0), (50, .iastore, 1, 0, 0),
  (51, .aload_n 0, 1, 0, 0), (52, .getfield 7, 3, 11, 0), (55, .sipush 414, 3, 414, 0), (58, .dup2, 1, 0, 0), (59, .iaload, 1, 0, 0), (60, .iconst 1, 1, 1, 0), (61, .iadd, 1, 0, 0), (62, .iastore, 1, 0, 0),
  (63, .aload_n 0, 1, 0, 0), (64, .getfield 7, 3, 11, 0), (67, .sipush 414, 3, 414, 0), (70, .iaload, 1, 0, 0), (71, .ireturn, 1, 0, 0)]
def co_X11_hear : List mz_I := [(0, .iload_n 1, 1, 0, 0), (1, .iconst 0, 1, 0, 0), (2, .iconst 3, 1, 3, 0), (3, .invokestatic 71, 3, 118, 2), (6, .ifCond .ne 5, 3, 11, 0), (9, .iconst (-1), 1, 4294967295, 0), (10, .ireturn, 1, 0, 0), (11, .aload_n 0, 1, 0, 0),
  (12, .getfield 7, 3, 11, 0), (15, .sipush 414, 3, 414, 0), (18, .iaload, 1, 0, 0), (19, .aload_n 0, 1, 0, 0), (20, .getfield 7, 3, 11, 0), (23, .sipush 415, 3, 415, 0), (26, .iload_n 1, 1, 0, 0), (27, .iadd, 1, 0, 0),
  (28, .iaload, 1, 0, 0), (29, .isub, 1, 0, 0), (30, .istore_n 2, 1, 0, 0), (31, .aload_n 0, 1, 0, 0), (32, .getfield 7, 3, 11, 0), (35, .sipush 415, 3, 415, 0), (38, .iload_n 1, 1, 0, 0), (39, .iadd, 1, 0, 0),
  (40, .aload_n 0, 1, 0, 0), (41, .getfield 7, 3, 11, 0), (44, .sipush 414, 3, 414, 0), (47, .iaload, 1, 0, 0), (48, .iastore, 1, 0, 0), (49, .aload_n 0, 1, 0, 0), (50, .getfield 7, 3, 11, 0), (53, .sipush 419, 3, 419, 0),
  (56, .iload_n 1, 1, 0, 0), (57, .iadd, 1, 0, 0), (58, .aload_n 0, 1, 0, 0), (59, .getfield 7, 3, 11, 0), (62, .sipush 413, 3, 413, 0), (65, .iaload, 1, 0, 0), (66, .iastore, 1, 0, 0), (67, .iload_n 2, 1, 0, 0),
  (68, .ireturn, 1, 0, 0)]
def co_X11_pass : List mz_I := [(0, .iload_n 1, 1, 0, 0), (1, .iconst 0, 1, 0, 0), (2, .iconst 3, 1, 3, 0), (3, .invokestatic 71, 3, 118, 2), (6, .ifCond .eq 10, 3, 16, 0), (9, .iload_n 2, 1, 0, 0), (10, .invokestatic 83, 3, 119, 2), (13, .ifCond .ne 5, 3, 18, 0),
  (16, .iconst (-1), 1, 4294967295, 0), (17, .ireturn, 1, 0, 0), (18, .aload_n 0, 1, 0, 0), (19, .getfield 7, 3, 11, 0), (22, .sipush 419, 3, 419, 0), (25, .iload_n 1, 1, 0, 0), (26, .iadd, 1, 0, 0), (27, .iaload, 1, 0, 0),
  (28, .iload_n 2, 1, 0, 0), (29, .ishr, 1, 0, 0), (30, .iconst 1, 1, 1, 0), (31, .iand, 1, 0, 0), (32, .iconst 1, 1, 1, 0), (33, .if_icmp .ne 7, 3, 40, 0), (36, .iconst 0, 1, 0, 0), (37, .goto 4, 3, 41, 0),
  (40, .iconst 1, 1, 1, 0), (41, .ireturn, 1, 0, 0)]
def co_X11_image : List mz_I := [(0, .iload_n 1, 1, 0, 0), (1, .iconst 0, 1, 0, 0), (2, .iconst 1, 1, 1, 0), (3, .invokestatic 71, 3, 118, 2), (6, .ifCond .ne 6, 3, 12, 0), (9, .bipush (-2), 2, 4294967294, 0), (11, .ireturn, 1, 0, 0), (12, .iconst 0, 1, 0, 0),
  (13, .istore_n 2, 1, 0, 0), (14, .iload_n 2, 1, 0, 0), (15, .sipush 423, 3, 423, 0), (18, .if_icmp .ge 27, 3, 45, 0), (21, .aload_n 0, 1, 0, 0), (22, .getfield 13, 3, 11, 1), (25, .sipush 423, 3, 423, 0), (28, .iload_n 1, 1, 0, 0),
  (29, .imul, 1, 0, 0), (30, .iload_n 2, 1, 0, 0), (31, .iadd, 1, 0, 0), (32, .aload_n 0, 1, 0, 0), (33, .getfield 7, 3, 11, 0), (36, .iload_n 2, 1, 0, 0), (37, .iaload, 1, 0, 0), (38, .iastore, 1, 0, 0),
  (39, .iinc 2 1, 3, 1, 0), (42, .goto (-28), 3, 14, 0), (45, .aload_n 0, 1, 0, 0), (46, .getfield 16, 3, 11, 2), (49, .iload_n 1, 1, 0, 0), (50, .iconst 1, 1, 1, 0), (51, .bastore, 1, 0, 0), (52, .iconst 1, 1, 1, 0),
  (53, .ireturn, 1, 0, 0)]
def co_X11_restore : List mz_I := [(0, .iload_n 1, 1, 0, 0), (1, .iconst 0, 1, 0, 0), (2, .iconst 1, 1, 1, 0), (3, .invokestatic 71, 3, 118, 2), (6, .ifCond .ne 6, 3, 12, 0), (9, .bipush (-2), 2, 4294967294, 0), (11, .ireturn, 1, 0, 0), (12, .aload_n 0, 1, 0, 0),
  (13, .getfield 16, 3, 11, 2), (16, .iload_n 1, 1, 0, 0), (17, .baload, 1, 0, 0), (18, .ifCond .ne 6, 3, 24, 0), (21, .bipush (-3), 2, 4294967293, 0), (23, .ireturn, 1, 0, 0), (24, .iconst 0, 1, 0, 0), (25, .istore_n 2, 1, 0, 0),
  (26, .iload_n 2, 1, 0, 0), (27, .sipush 423, 3, 423, 0), (30, .if_icmp .ge 27, 3, 57, 0), (33, .aload_n 0, 1, 0, 0), (34, .getfield 7, 3, 11, 0), (37, .iload_n 2, 1, 0, 0), (38, .aload_n 0, 1, 0, 0), (39, .getfield 13, 3, 11, 1),
  (42, .sipush 423, 3, 423, 0), (45, .iload_n 1, 1, 0, 0), (46, .imul, 1, 0, 0), (47, .iload_n 2, 1, 0, 0), (48, .iadd, 1, 0, 0), (49, .iaload, 1, 0, 0), (50, .iastore, 1, 0, 0), (51, .iinc 2 1, 3, 1, 0),
  (54, .goto (-28), 3, 26, 0), (57, .iconst 1, 1, 1, 0), (58, .ireturn, 1, 0, 0)]
def co_X11_lagging : List mz_I := [(0, .iconst 0, 1, 0, 0), (1, .istore_n 1, 1, 0, 0), (2, .iconst 0, 1, 0, 0), (3, .istore_n 2, 1, 0, 0), (4, .iload_n 2, 1, 0, 0), (5, .iconst 4, 1, 4, 0), (6, .if_icmp .ge 38, 3, 44, 0), (9, .iload_n 1, 1, 0, 0),
  (10, .aload_n 0, 1, 0, 0), (11, .getfield 7, 3, 11, 0), (14, .sipush 415, 3, 415, 0), (17, .iload_n 2, 1, 0, 0), (18, .iadd, 1, 0, 0), (19, .iaload, 1, 0, 0), (20, .aload_n 0, 1, 0, 0), (21, .getfield 7, 3, 11, 0),
  (24, .sipush 414, 3, 414, 0), (27, .iaload, 1, 0, 0), (28, .if_icmp .ge 7, 3, 35, 0), (31, .iconst 1, 1, 1, 0), (32, .goto 4, 3, 36, 0), (35, .iconst 0, 1, 0, 0), (36, .iadd, 1, 0, 0), (37, .istore_n 1, 1, 0, 0),
  (38, .iinc 2 1, 3, 1, 0), (41, .goto (-37), 3, 4, 0), (44, .iload_n 1, 1, 0, 0), (45, .ireturn, 1, 0, 0)]
def co_X11_allBest : List mz_I := [(0, .iconst 0, 1, 0, 0), (1, .istore_n 1, 1, 0, 0), (2, .iconst 0, 1, 0, 0), (3, .istore_n 2, 1, 0, 0), (4, .iload_n 2, 1, 0, 0), (5, .iconst 4, 1, 4, 0), (6, .if_icmp .ge 23, 3, 29, 0), (9, .aload_n 0, 1, 0, 0),
  (10, .iload_n 2, 1, 0, 0), (11, .invokevirtual 152, 3, 145, 0), (14, .iload_n 1, 1, 0, 0), (15, .aload_n 0, 1, 0, 0), (16, .getfield 62, 3, 11, 19), (19, .iconst 0, 1, 0, 0), (20, .iaload, 1, 0, 0), (21, .iadd, 1, 0, 0),
  (22, .istore_n 1, 1, 0, 0), (23, .iinc 2 1, 3, 1, 0), (26, .goto (-22), 3, 4, 0), (29, .iload_n 1, 1, 0, 0), (30, .ireturn, 1, 0, 0)]
def co_X11_count : List mz_I := [(0, .iload_n 1, 1, 0, 0), (1, .invokestatic 83, 3, 119, 2), (4, .ifCond .eq 14, 3, 18, 0), (7, .aload_n 0, 1, 0, 0), (8, .getfield 7, 3, 11, 0), (11, .sipush 384, 3, 384, 0), (14, .iload_n 1, 1, 0, 0), (15, .iadd, 1, 0, 0),
  (16, .iaload, 1, 0, 0), (17, .ireturn, 1, 0, 0), (18, .iload_n 1, 1, 0, 0), (19, .bipush 10, 2, 10, 0), (21, .bipush 13, 2, 13, 0), (23, .invokestatic 71, 3, 118, 2), (26, .ifCond .eq 17, 3, 43, 0), (29, .aload_n 0, 1, 0, 0),
  (30, .getfield 7, 3, 11, 0), (33, .sipush 415, 3, 415, 0), (36, .iload_n 1, 1, 0, 0), (37, .iadd, 1, 0, 0), (38, .bipush 10, 2, 10, 0), (40, .isub, 1, 0, 0), (41, .iaload, 1, 0, 0), (42, .ireturn, 1, 0, 0),
  (43, .iload_n 1, 1, 0, 0), (44, .bipush 20, 2, 20, 0), (46, .bipush 27, 2, 27, 0), (48, .invokestatic 71, 3, 118, 2), (51, .ifCond .eq 17, 3, 68, 0), (54, .aload_n 0, 1, 0, 0), (55, .getfield 7, 3, 11, 0), (58, .sipush 388, 3, 388, 0),
  (61, .iload_n 1, 1, 0, 0), (62, .iadd, 1, 0, 0), (63, .bipush 20, 2, 20, 0), (65, .isub, 1, 0, 0), (66, .iaload, 1, 0, 0), (67, .ireturn, 1, 0, 0), (68, .iload_n 1, 1, 0, 0), (69, .tableswitch 93 4 8 #[35, 44, 53, 58, 63], 35, 0, 0),
  (104, .aload_n 0, 1, 0, 0), (105, .getfield 7, 3, 11, 0), (108, .sipush 414, 3, 414, 0), (111, .iaload, 1, 0, 0), (112, .ireturn, 1, 0, 0), (113, .aload_n 0, 1, 0, 0), (114, .getfield 7, 3, 11, 0), (117, .sipush 413, 3, 413, 0),
  (120, .iaload, 1, 0, 0), (121, .ireturn, 1, 0, 0), (122, .aload_n 0, 1, 0, 0), (123, .invokevirtual 159, 3, 157, 0), (126, .ireturn, 1, 0, 0), (127, .aload_n 0, 1, 0, 0), (128, .invokevirtual 163, 3, 158, 0), (131, .ireturn, 1, 0, 0),
  (132, .aload_n 0, 1, 0, 0), (133, .getfield 16, 3, 11, 2), (136, .iconst 0, 1, 0, 0), (137, .baload, 1, 0, 0), (138, .ifCond .eq 7, 3, 145, 0), (141, .iconst 1, 1, 1, 0), (142, .goto 4, 3, 146, 0), (145, .iconst 0, 1, 0, 0),
  (146, .aload_n 0, 1, 0, 0), (147, .getfield 16, 3, 11, 2), (150, .iconst 1, 1, 1, 0), (151, .baload, 1, 0, 0), (152, .ifCond .eq 7, 3, 159, 0), (155, .iconst 2, 1, 2, 0), (156, .goto 4, 3, 160, 0), (159, .iconst 0, 1, 0, 0),
  (160, .iadd, 1, 0, 0), (161, .ireturn, 1, 0, 0), (162, .bipush (-2), 2, 4294967294, 0), (164, .ireturn, 1, 0, 0)]
def co_law : List mz_I := [(0, .new 7, 3, 10, 0), (3, .dup, 1, 0, 0), (4, .invokespecial 9, 3, 81, 4), (7, .astore_n 1, 1, 0, 0), (8, .new 10, 3, 11, 0), (11, .dup, 1, 0, 0), (12, .invokespecial 12, 3, 117, 4), (15, .astore_n 2, 1, 0, 0),
  (16, .iconst 0, 1, 0, 0), (17, .istore_n 3, 1, 0, 0), (18, .iload_n 3, 1, 0, 0), (19, .aload_n 0, 1, 0, 0), (20, .arraylength, 1, 0, 0), (21, .bipush 6, 2, 6, 0), (23, .isub, 1, 0, 0), (24, .if_icmp .gt 739, 3, 763, 0),
  (27, .aload_n 0, 1, 0, 0), (28, .iload_n 3, 1, 0, 0), (29, .iaload, 1, 0, 0), (30, .bipush 31, 2, 31, 0), (32, .iand, 1, 0, 0), (33, .tableswitch 724 0 16 #[83, 116, 159, 222, 265, 308, 351, 394, 437, 470, 503, 566, 599, 622, 655, 678, 701], 83, 0, 0), (116, .aload_n 1, 1, 0, 0), (117, .aload_n 0, 1, 0, 0),
  (118, .iload_n 3, 1, 0, 0), (119, .iconst 1, 1, 1, 0), (120, .iadd, 1, 0, 0), (121, .iaload, 1, 0, 0), (122, .aload_n 0, 1, 0, 0), (123, .iload_n 3, 1, 0, 0), (124, .iconst 2, 1, 2, 0), (125, .iadd, 1, 0, 0),
  (126, .iaload, 1, 0, 0), (127, .invokevirtual 13, 3, 82, 0), (130, .aload_n 2, 1, 0, 0), (131, .aload_n 0, 1, 0, 0), (132, .iload_n 3, 1, 0, 0), (133, .iconst 1, 1, 1, 0), (134, .iadd, 1, 0, 0), (135, .iaload, 1, 0, 0),
  (136, .aload_n 0, 1, 0, 0), (137, .iload_n 3, 1, 0, 0), (138, .iconst 2, 1, 2, 0), (139, .iadd, 1, 0, 0), (140, .iaload, 1, 0, 0), (141, .invokevirtual 17, 3, 122, 0), (144, .if_icmp .eq 613, 3, 757, 0), (147, .iconst 0, 1, 0, 0),
  (148, .ireturn, 1, 0, 0), (149, .aload_n 1, 1, 0, 0), (150, .aload_n 0, 1, 0, 0), (151, .iload_n 3, 1, 0, 0), (152, .iconst 1, 1, 1, 0), (153, .iadd, 1, 0, 0), (154, .iaload, 1, 0, 0), (155, .aload_n 0, 1, 0, 0),
  (156, .iload_n 3, 1, 0, 0), (157, .iconst 2, 1, 2, 0), (158, .iadd, 1, 0, 0), (159, .iaload, 1, 0, 0), (160, .aload_n 0, 1, 0, 0), (161, .iload_n 3, 1, 0, 0), (162, .iconst 3, 1, 3, 0), (163, .iadd, 1, 0, 0),
  (164, .iaload, 1, 0, 0), (165, .invokevirtual 18, 3, 83, 0), (168, .aload_n 2, 1, 0, 0), (169, .aload_n 0, 1, 0, 0), (170, .iload_n 3, 1, 0, 0), (171, .iconst 1, 1, 1, 0), (172, .iadd, 1, 0, 0), (173, .iaload, 1, 0, 0),
  (174, .aload_n 0, 1, 0, 0), (175, .iload_n 3, 1, 0, 0), (176, .iconst 2, 1, 2, 0), (177, .iadd, 1, 0, 0), (178, .iaload, 1, 0, 0), (179, .aload_n 0, 1, 0, 0), (180, .iload_n 3, 1, 0, 0), (181, .iconst 3, 1, 3, 0),
  (182, .iadd, 1, 0, 0), (183, .iaload, 1, 0, 0), (184, .invokevirtual 22, 3, 123, 0), (187, .if_icmp .eq 570, 3, 757, 0), (190, .iconst 0, 1, 0, 0), (191, .ireturn, 1, 0, 0), (192, .aload_n 1, 1, 0, 0), (193, .aload_n 0, 1, 0, 0),
  (194, .iload_n 3, 1, 0, 0), (195, .iconst 1, 1, 1, 0), (196, .iadd, 1, 0, 0), (197, .iaload, 1, 0, 0), (198, .aload_n 0, 1, 0, 0), (199, .iload_n 3, 1, 0, 0), (200, .iconst 2, 1, 2, 0), (201, .iadd, 1, 0, 0),
  (202, .iaload, 1, 0, 0), (203, .aload_n 0, 1, 0, 0), (204, .iload_n 3, 1, 0, 0), (205, .iconst 3, 1, 3, 0), (206, .iadd, 1, 0, 0), (207, .iaload, 1, 0, 0), (208, .aload_n 0, 1, 0, 0), (209, .iload_n 3, 1, 0, 0),
  (210, .iconst 4, 1, 4, 0), (211, .iadd, 1, 0, 0), (212, .iaload, 1, 0, 0), (213, .aload_n 0, 1, 0, 0), (214, .iload_n 3, 1, 0, 0), (215, .iconst 5, 1, 5, 0), (216, .iadd, 1, 0, 0), (217, .iaload, 1, 0, 0),
  (218, .invokevirtual 23, 3, 84, 0), (221, .aload_n 2, 1, 0, 0), (222, .aload_n 0, 1, 0, 0), (223, .iload_n 3, 1, 0, 0), (224, .iconst 1, 1, 1, 0), (225, .iadd, 1, 0, 0), (226, .iaload, 1, 0, 0), (227, .aload_n 0, 1, 0, 0),
  (228, .iload_n 3, 1, 0, 0), (229, .iconst 2, 1, 2, 0), (230, .iadd, 1, 0, 0), (231, .iaload, 1, 0, 0), (232, .aload_n 0, 1, 0, 0), (233, .iload_n 3, 1, 0, 0), (234, .iconst 3, 1, 3, 0), (235, .iadd, 1, 0, 0),
  (236, .iaload, 1, 0, 0), (237, .aload_n 0, 1, 0, 0), (238, .iload_n 3, 1, 0, 0), (239, .iconst 4, 1, 4, 0), (240, .iadd, 1, 0, 0), (241, .iaload, 1, 0, 0), (242, .aload_n 0, 1, 0, 0), (243, .iload_n 3, 1, 0, 0),
  (244, .iconst 5, 1, 5, 0), (245, .iadd, 1, 0, 0), (246, .iaload, 1, 0, 0), (247, .invokevirtual 27, 3, 131, 0), (250, .if_icmp .eq 507, 3, 757, 0), (253, .iconst 0, 1, 0, 0), (254, .ireturn, 1, 0, 0), (255, .aload_n 1, 1, 0, 0),
  (256, .aload_n 0, 1, 0, 0), (257, .iload_n 3, 1, 0, 0), (258, .iconst 1, 1, 1, 0), (259, .iadd, 1, 0, 0), (260, .iaload, 1, 0, 0), (261, .aload_n 0, 1, 0, 0), (262, .iload_n 3, 1, 0, 0), (263, .iconst 2, 1, 2, 0),
  (264, .iadd, 1, 0, 0), (265, .iaload, 1, 0, 0), (266, .aload_n 0, 1, 0, 0), (267, .iload_n 3, 1, 0, 0), (268, .iconst 3, 1, 3, 0), (269, .iadd, 1, 0, 0), (270, .iaload, 1, 0, 0), (271, .invokevirtual 28, 3, 85, 0),
  (274, .aload_n 2, 1, 0, 0), (275, .aload_n 0, 1, 0, 0), (276, .iload_n 3, 1, 0, 0), (277, .iconst 1, 1, 1, 0), (278, .iadd, 1, 0, 0), (279, .iaload, 1, 0, 0), (280, .aload_n 0, 1, 0, 0), (281, .iload_n 3, 1, 0, 0),
  (282, .iconst 2, 1, 2, 0), (283, .iadd, 1, 0, 0), (284, .iaload, 1, 0, 0), (285, .aload_n 0, 1, 0, 0), (286, .iload_n 3, 1, 0, 0), (287, .iconst 3, 1, 3, 0), (288, .iadd, 1, 0, 0), (289, .iaload, 1, 0, 0),
  (290, .invokevirtual 31, 3, 132, 0), (293, .if_icmp .eq 464, 3, 757, 0), (296, .iconst 0, 1, 0, 0), (297, .ireturn, 1, 0, 0), (298, .aload_n 1, 1, 0, 0), (299, .aload_n 0, 1, 0, 0), (300, .iload_n 3, 1, 0, 0), (301, .iconst 1, 1, 1, 0),
  (302, .iadd, 1, 0, 0), (303, .iaload, 1, 0, 0), (304, .aload_n 0, 1, 0, 0), (305, .iload_n 3, 1, 0, 0), (306, .iconst 2, 1, 2, 0), (307, .iadd, 1, 0, 0), (308, .iaload, 1, 0, 0), (309, .aload_n 0, 1, 0, 0),
  (310, .iload_n 3, 1, 0, 0), (311, .iconst 3, 1, 3, 0), (312, .iadd, 1, 0, 0), (313, .iaload, 1, 0, 0), (314, .invokevirtual 32, 3, 86, 0), (317, .aload_n 2, 1, 0, 0), (318, .aload_n 0, 1, 0, 0), (319, .iload_n 3, 1, 0, 0),
  (320, .iconst 1, 1, 1, 0), (321, .iadd, 1, 0, 0), (322, .iaload, 1, 0, 0), (323, .aload_n 0, 1, 0, 0), (324, .iload_n 3, 1, 0, 0), (325, .iconst 2, 1, 2, 0), (326, .iadd, 1, 0, 0), (327, .iaload, 1, 0, 0),
  (328, .aload_n 0, 1, 0, 0), (329, .iload_n 3, 1, 0, 0), (330, .iconst 3, 1, 3, 0), (331, .iadd, 1, 0, 0), (332, .iaload, 1, 0, 0), (333, .invokevirtual 35, 3, 133, 0), (336, .if_icmp .eq 421, 3, 757, 0), (339, .iconst 0, 1, 0, 0),
  (340, .ireturn, 1, 0, 0), (341, .aload_n 1, 1, 0, 0), (342, .aload_n 0, 1, 0, 0), (343, .iload_n 3, 1, 0, 0), (344, .iconst 1, 1, 1, 0), (345, .iadd, 1, 0, 0), (346, .iaload, 1, 0, 0), (347, .aload_n 0, 1, 0, 0),
  (348, .iload_n 3, 1, 0, 0), (349, .iconst 2, 1, 2, 0), (350, .iadd, 1, 0, 0), (351, .iaload, 1, 0, 0), (352, .aload_n 0, 1, 0, 0), (353, .iload_n 3, 1, 0, 0), (354, .iconst 3, 1, 3, 0), (355, .iadd, 1, 0, 0),
  (356, .iaload, 1, 0, 0), (357, .invokevirtual 36, 3, 87, 0), (360, .aload_n 2, 1, 0, 0), (361, .aload_n 0, 1, 0, 0), (362, .iload_n 3, 1, 0, 0), (363, .iconst 1, 1, 1, 0), (364, .iadd, 1, 0, 0), (365, .iaload, 1, 0, 0),
  (366, .aload_n 0, 1, 0, 0), (367, .iload_n 3, 1, 0, 0), (368, .iconst 2, 1, 2, 0), (369, .iadd, 1, 0, 0), (370, .iaload, 1, 0, 0), (371, .aload_n 0, 1, 0, 0), (372, .iload_n 3, 1, 0, 0), (373, .iconst 3, 1, 3, 0),
  (374, .iadd, 1, 0, 0), (375, .iaload, 1, 0, 0), (376, .invokevirtual 39, 3, 142, 0), (379, .if_icmp .eq 378, 3, 757, 0), (382, .iconst 0, 1, 0, 0), (383, .ireturn, 1, 0, 0), (384, .aload_n 1, 1, 0, 0), (385, .aload_n 0, 1, 0, 0),
  (386, .iload_n 3, 1, 0, 0), (387, .iconst 1, 1, 1, 0), (388, .iadd, 1, 0, 0), (389, .iaload, 1, 0, 0), (390, .aload_n 0, 1, 0, 0), (391, .iload_n 3, 1, 0, 0), (392, .iconst 2, 1, 2, 0), (393, .iadd, 1, 0, 0),
  (394, .iaload, 1, 0, 0), (395, .aload_n 0, 1, 0, 0), (396, .iload_n 3, 1, 0, 0), (397, .iconst 3, 1, 3, 0), (398, .iadd, 1, 0, 0), (399, .iaload, 1, 0, 0), (400, .invokevirtual 40, 3, 88, 0), (403, .aload_n 2, 1, 0, 0),
  (404, .aload_n 0, 1, 0, 0), (405, .iload_n 3, 1, 0, 0), (406, .iconst 1, 1, 1, 0), (407, .iadd, 1, 0, 0), (408, .iaload, 1, 0, 0), (409, .aload_n 0, 1, 0, 0), (410, .iload_n 3, 1, 0, 0), (411, .iconst 2, 1, 2, 0),
  (412, .iadd, 1, 0, 0), (413, .iaload, 1, 0, 0), (414, .aload_n 0, 1, 0, 0), (415, .iload_n 3, 1, 0, 0), (416, .iconst 3, 1, 3, 0), (417, .iadd, 1, 0, 0), (418, .iaload, 1, 0, 0), (419, .invokevirtual 43, 3, 143, 0),
  (422, .if_icmp .eq 335, 3, 757, 0), (425, .iconst 0, 1, 0, 0), (426, .ireturn, 1, 0, 0), (427, .aload_n 1, 1, 0, 0), (428, .aload_n 0, 1, 0, 0), (429, .iload_n 3, 1, 0, 0), (430, .iconst 1, 1, 1, 0), (431, .iadd, 1, 0, 0),
  (432, .iaload, 1, 0, 0), (433, .aload_n 0, 1, 0, 0), (434, .iload_n 3, 1, 0, 0), (435, .iconst 2, 1, 2, 0), (436, .iadd, 1, 0, 0), (437, .iaload, 1, 0, 0), (438, .aload_n 0, 1, 0, 0), (439, .iload_n 3, 1, 0, 0),
  (440, .iconst 3, 1, 3, 0), (441, .iadd, 1, 0, 0), (442, .iaload, 1, 0, 0), (443, .invokevirtual 44, 3, 89, 0), (446, .aload_n 2, 1, 0, 0), (447, .aload_n 0, 1, 0, 0), (448, .iload_n 3, 1, 0, 0), (449, .iconst 1, 1, 1, 0),
  (450, .iadd, 1, 0, 0), (451, .iaload, 1, 0, 0), (452, .aload_n 0, 1, 0, 0), (453, .iload_n 3, 1, 0, 0), (454, .iconst 2, 1, 2, 0), (455, .iadd, 1, 0, 0), (456, .iaload, 1, 0, 0), (457, .aload_n 0, 1, 0, 0),
  (458, .iload_n 3, 1, 0, 0), (459, .iconst 3, 1, 3, 0), (460, .iadd, 1, 0, 0), (461, .iaload, 1, 0, 0), (462, .invokevirtual 47, 3, 148, 0), (465, .if_icmp .eq 292, 3, 757, 0), (468, .iconst 0, 1, 0, 0), (469, .ireturn, 1, 0, 0),
  (470, .aload_n 1, 1, 0, 0), (471, .aload_n 0, 1, 0, 0), (472, .iload_n 3, 1, 0, 0), (473, .iconst 1, 1, 1, 0), (474, .iadd, 1, 0, 0), (475, .iaload, 1, 0, 0), (476, .aload_n 0, 1, 0, 0), (477, .iload_n 3, 1, 0, 0),
  (478, .iconst 2, 1, 2, 0), (479, .iadd, 1, 0, 0), (480, .iaload, 1, 0, 0), (481, .invokevirtual 48, 3, 90, 0), (484, .aload_n 2, 1, 0, 0), (485, .aload_n 0, 1, 0, 0), (486, .iload_n 3, 1, 0, 0), (487, .iconst 1, 1, 1, 0),
  (488, .iadd, 1, 0, 0), (489, .iaload, 1, 0, 0), (490, .aload_n 0, 1, 0, 0), (491, .iload_n 3, 1, 0, 0), (492, .iconst 2, 1, 2, 0), (493, .iadd, 1, 0, 0), (494, .iaload, 1, 0, 0), (495, .invokevirtual 51, 3, 149, 0),
  (498, .if_icmp .eq 259, 3, 757, 0), (501, .iconst 0, 1, 0, 0), (502, .ireturn, 1, 0, 0), (503, .aload_n 1, 1, 0, 0), (504, .aload_n 0, 1, 0, 0), (505, .iload_n 3, 1, 0, 0), (506, .iconst 1, 1, 1, 0), (507, .iadd, 1, 0, 0),
  (508, .iaload, 1, 0, 0), (509, .aload_n 0, 1, 0, 0), (510, .iload_n 3, 1, 0, 0), (511, .iconst 2, 1, 2, 0), (512, .iadd, 1, 0, 0), (513, .iaload, 1, 0, 0), (514, .invokevirtual 52, 3, 91, 0), (517, .aload_n 2, 1, 0, 0),
  (518, .aload_n 0, 1, 0, 0), (519, .iload_n 3, 1, 0, 0), (520, .iconst 1, 1, 1, 0), (521, .iadd, 1, 0, 0), (522, .iaload, 1, 0, 0), (523, .aload_n 0, 1, 0, 0), (524, .iload_n 3, 1, 0, 0), (525, .iconst 2, 1, 2, 0),
  (526, .iadd, 1, 0, 0), (527, .iaload, 1, 0, 0), (528, .invokevirtual 55, 3, 150, 0), (531, .if_icmp .eq 226, 3, 757, 0), (534, .iconst 0, 1, 0, 0), (535, .ireturn, 1, 0, 0), (536, .aload_n 1, 1, 0, 0), (537, .aload_n 0, 1, 0, 0),
  (538, .iload_n 3, 1, 0, 0), (539, .iconst 1, 1, 1, 0), (540, .iadd, 1, 0, 0), (541, .iaload, 1, 0, 0), (542, .aload_n 0, 1, 0, 0), (543, .iload_n 3, 1, 0, 0), (544, .iconst 2, 1, 2, 0), (545, .iadd, 1, 0, 0),
  (546, .iaload, 1, 0, 0), (547, .aload_n 0, 1, 0, 0), (548, .iload_n 3, 1, 0, 0), (549, .iconst 3, 1, 3, 0), (550, .iadd, 1, 0, 0), (551, .iaload, 1, 0, 0), (552, .aload_n 0, 1, 0, 0), (553, .iload_n 3, 1, 0, 0),
  (554, .iconst 4, 1, 4, 0), (555, .iadd, 1, 0, 0), (556, .iaload, 1, 0, 0), (557, .aload_n 0, 1, 0, 0), (558, .iload_n 3, 1, 0, 0), (559, .iconst 5, 1, 5, 0), (560, .iadd, 1, 0, 0), (561, .iaload, 1, 0, 0),
  (562, .invokevirtual 56, 3, 92, 0), (565, .aload_n 2, 1, 0, 0), (566, .aload_n 0, 1, 0, 0), (567, .iload_n 3, 1, 0, 0), (568, .iconst 1, 1, 1, 0), (569, .iadd, 1, 0, 0), (570, .iaload, 1, 0, 0), (571, .aload_n 0, 1, 0, 0),
  (572, .iload_n 3, 1, 0, 0), (573, .iconst 2, 1, 2, 0), (574, .iadd, 1, 0, 0), (575, .iaload, 1, 0, 0), (576, .aload_n 0, 1, 0, 0), (577, .iload_n 3, 1, 0, 0), (578, .iconst 3, 1, 3, 0), (579, .iadd, 1, 0, 0),
  (580, .iaload, 1, 0, 0), (581, .aload_n 0, 1, 0, 0), (582, .iload_n 3, 1, 0, 0), (583, .iconst 4, 1, 4, 0), (584, .iadd, 1, 0, 0), (585, .iaload, 1, 0, 0), (586, .aload_n 0, 1, 0, 0), (587, .iload_n 3, 1, 0, 0),
  (588, .iconst 5, 1, 5, 0), (589, .iadd, 1, 0, 0), (590, .iaload, 1, 0, 0), (591, .invokevirtual 59, 3, 151, 0), (594, .if_icmp .eq 163, 3, 757, 0), (597, .iconst 0, 1, 0, 0), (598, .ireturn, 1, 0, 0), (599, .aload_n 1, 1, 0, 0),
  (600, .aload_n 0, 1, 0, 0), (601, .iload_n 3, 1, 0, 0), (602, .iconst 1, 1, 1, 0), (603, .iadd, 1, 0, 0), (604, .iaload, 1, 0, 0), (605, .aload_n 0, 1, 0, 0), (606, .iload_n 3, 1, 0, 0), (607, .iconst 2, 1, 2, 0),
  (608, .iadd, 1, 0, 0), (609, .iaload, 1, 0, 0), (610, .invokevirtual 60, 3, 93, 0), (613, .aload_n 2, 1, 0, 0), (614, .aload_n 0, 1, 0, 0), (615, .iload_n 3, 1, 0, 0), (616, .iconst 1, 1, 1, 0), (617, .iadd, 1, 0, 0),
  (618, .iaload, 1, 0, 0), (619, .aload_n 0, 1, 0, 0), (620, .iload_n 3, 1, 0, 0), (621, .iconst 2, 1, 2, 0), (622, .iadd, 1, 0, 0), (623, .iaload, 1, 0, 0), (624, .invokevirtual 63, 3, 152, 0), (627, .if_icmp .eq 130, 3, 757, 0),
  (630, .iconst 0, 1, 0, 0), (631, .ireturn, 1, 0, 0), (632, .aload_n 1, 1, 0, 0), (633, .aload_n 0, 1, 0, 0), (634, .iload_n 3, 1, 0, 0), (635, .iconst 1, 1, 1, 0), (636, .iadd, 1, 0, 0), (637, .iaload, 1, 0, 0),
  (638, .invokevirtual 64, 3, 94, 0), (641, .aload_n 2, 1, 0, 0), (642, .aload_n 0, 1, 0, 0), (643, .iload_n 3, 1, 0, 0), (644, .iconst 1, 1, 1, 0), (645, .iadd, 1, 0, 0), (646, .iaload, 1, 0, 0), (647, .invokevirtual 68, 3, 153, 0),
  (650, .if_icmp .eq 107, 3, 757, 0), (653, .iconst 0, 1, 0, 0), (654, .ireturn, 1, 0, 0), (655, .aload_n 1, 1, 0, 0), (656, .aload_n 0, 1, 0, 0), (657, .iload_n 3, 1, 0, 0), (658, .iconst 1, 1, 1, 0), (659, .iadd, 1, 0, 0),
  (660, .iaload, 1, 0, 0), (661, .aload_n 0, 1, 0, 0), (662, .iload_n 3, 1, 0, 0), (663, .iconst 2, 1, 2, 0), (664, .iadd, 1, 0, 0), (665, .iaload, 1, 0, 0), (666, .invokevirtual 69, 3, 95, 0), (669, .aload_n 2, 1, 0, 0),
  (670, .aload_n 0, 1, 0, 0), (671, .iload_n 3, 1, 0, 0), (672, .iconst 1, 1, 1, 0), (673, .iadd, 1, 0, 0), (674, .iaload, 1, 0, 0), (675, .aload_n 0, 1, 0, 0), (676, .iload_n 3, 1, 0, 0), (677, .iconst 2, 1, 2, 0),
  (678, .iadd, 1, 0, 0), (679, .iaload, 1, 0, 0), (680, .invokevirtual 72, 3, 154, 0), (683, .if_icmp .eq 74, 3, 757, 0), (686, .iconst 0, 1, 0, 0), (687, .ireturn, 1, 0, 0), (688, .aload_n 1, 1, 0, 0), (689, .aload_n 0, 1, 0, 0),
  (690, .iload_n 3, 1, 0, 0), (691, .iconst 1, 1, 1, 0), (692, .iadd, 1, 0, 0), (693, .iaload, 1, 0, 0), (694, .invokevirtual 73, 3, 96, 0), (697, .aload_n 2, 1, 0, 0), (698, .aload_n 0, 1, 0, 0), (699, .iload_n 3, 1, 0, 0),
  (700, .iconst 1, 1, 1, 0), (701, .iadd, 1, 0, 0), (702, .iaload, 1, 0, 0), (703, .invokevirtual 76, 3, 155, 0), (706, .if_icmp .eq 51, 3, 757, 0), (709, .iconst 0, 1, 0, 0), (710, .ireturn, 1, 0, 0), (711, .aload_n 1, 1, 0, 0),
  (712, .aload_n 0, 1, 0, 0), (713, .iload_n 3, 1, 0, 0), (714, .iconst 1, 1, 1, 0), (715, .iadd, 1, 0, 0), (716, .iaload, 1, 0, 0), (717, .invokevirtual 77, 3, 97, 0), (720, .aload_n 2, 1, 0, 0), (721, .aload_n 0, 1, 0, 0),
  (722, .iload_n 3, 1, 0, 0), (723, .iconst 1, 1, 1, 0), (724, .iadd, 1, 0, 0), (725, .iaload, 1, 0, 0), (726, .invokevirtual 80, 3, 156, 0), (729, .if_icmp .eq 28, 3, 757, 0), (732, .iconst 0, 1, 0, 0), (733, .ireturn, 1, 0, 0),
  (734, .aload_n 1, 1, 0, 0), (735, .aload_n 0, 1, 0, 0), (736, .iload_n 3, 1, 0, 0), (737, .iconst 1, 1, 1, 0), (738, .iadd, 1, 0, 0), (739, .iaload, 1, 0, 0), (740, .invokevirtual 81, 3, 98, 0), (743, .aload_n 2, 1, 0, 0),
  (744, .aload_n 0, 1, 0, 0), (745, .iload_n 3, 1, 0, 0), (746, .iconst 1, 1, 1, 0), (747, .iadd, 1, 0, 0), (748, .iaload, 1, 0, 0), (749, .invokevirtual 84, 3, 159, 0), (752, .if_icmp .eq 5, 3, 757, 0), (755, .iconst 0, 1, 0, 0),
  (756, .ireturn, 1, 0, 0), (757, .iinc 3 6, 3, 6, 0), (760, .goto (-742), 3, 18, 0), (763, .iconst 1, 1, 1, 0), (764, .ireturn, 1, 0, 0)]
def mm_X0_init : mz_M := (⟨"TapLedger$BarList", "<init>", "()V"⟩, prog_2_method_1_code, 1, none, 0, 2, co_X0_init)
def mm_X0_number : mz_M := (⟨"TapLedger$BarList", "number", "()I"⟩, prog_2_method_2_code, 1, (some .int), 0, 0, co_X0_number)
def mm_X0_barred : mz_M := (⟨"TapLedger$BarList", "barred", "()I"⟩, prog_2_method_3_code, 1, (some .int), 0, 0, co_X0_barred)
def mm_X0_numberAt : mz_M := (⟨"TapLedger$BarList", "numberAt", "(I)I"⟩, prog_2_method_4_code, 2, (some .int), 0, 0, co_X0_numberAt)
def mm_X0_isBarredAt : mz_M := (⟨"TapLedger$BarList", "isBarredAt", "(II)Z"⟩, prog_2_method_5_code, 3, (some .boolean), 0, 0, co_X0_isBarredAt)
def mm_X0_putBarred : mz_M := (⟨"TapLedger$BarList", "putBarred", "(IZ)V"⟩, prog_2_method_6_code, 4, none, 0, 0, co_X0_putBarred)
def mm_X0_bringTo : mz_M := (⟨"TapLedger$BarList", "bringTo", "(I)V"⟩, prog_2_method_7_code, 2, none, 0, 0, co_X0_bringTo)
def mm_X0_laggards : mz_M := (⟨"TapLedger$BarList", "laggards", "()I"⟩, prog_2_method_8_code, 3, (some .int), 0, 0, co_X0_laggards)
def mm_X0_copyFrom : mz_M := (⟨"TapLedger$BarList", "copyFrom", "(LTapLedger$BarList;)V"⟩, prog_2_method_9_code, 2, none, 0, 0, co_X0_copyFrom)
def mm_X1_init : mz_M := (⟨"TapLedger$Bill", "<init>", "()V"⟩, prog_3_method_1_code, 1, none, 1, 2, co_X1_init)
def mm_X1_reckon : mz_M := (⟨"TapLedger$Bill", "reckon", "(LTapLedger$Taps;LTapLedger$Tariff;)V"⟩, prog_3_method_2_code, 3, none, 1, 0, co_X1_reckon)
def mm_X2_init : mz_M := (⟨"TapLedger$Days", "<init>", "()V"⟩, prog_4_method_1_code, 1, none, 2, 2, co_X2_init)
def mm_X2_build : mz_M := (⟨"TapLedger$Days", "build", "(LTapLedger$Journeys;LTapLedger$Tariff;)V"⟩, prog_4_method_2_code, 5, none, 2, 0, co_X2_build)
def mm_X2_sum : mz_M := (⟨"TapLedger$Days", "sum", "(I)I"⟩, prog_4_method_3_code, 2, (some .int), 2, 0, co_X2_sum)
def mm_X2_width : mz_M := (⟨"TapLedger$Days", "width", "(I)I"⟩, prog_4_method_4_code, 2, (some .int), 2, 0, co_X2_width)
def mm_X2_owed : mz_M := (⟨"TapLedger$Days", "owed", "(I)I"⟩, prog_4_method_5_code, 2, (some .int), 2, 0, co_X2_owed)
def mm_X2_allSums : mz_M := (⟨"TapLedger$Days", "allSums", "()I"⟩, prog_4_method_6_code, 1, (some .int), 2, 0, co_X2_allSums)
def mm_X2_allOwed : mz_M := (⟨"TapLedger$Days", "allOwed", "()I"⟩, prog_4_method_7_code, 1, (some .int), 2, 0, co_X2_allOwed)
def mm_X2_widthOfWeek : mz_M := (⟨"TapLedger$Days", "widthOfWeek", "(I)I"⟩, prog_4_method_8_code, 4, (some .int), 2, 0, co_X2_widthOfWeek)
def mm_X3_init : mz_M := (⟨"TapLedger$Journeys", "<init>", "()V"⟩, prog_5_method_1_code, 1, none, 3, 2, co_X3_init)
def mm_X3_build : mz_M := (⟨"TapLedger$Journeys", "build", "(LTapLedger$Rides;LTapLedger$Tariff;)V"⟩, prog_5_method_2_code, 5, none, 3, 0, co_X3_build)
def mm_X3_open : mz_M := (⟨"TapLedger$Journeys", "open", "(I)V"⟩, prog_5_method_3_code, 2, none, 3, 0, co_X3_open)
def mm_X3_takeRide : mz_M := (⟨"TapLedger$Journeys", "takeRide", "(LTapLedger$Rides;ILTapLedger$Tariff;)V"⟩, prog_5_method_4_code, 5, none, 3, 0, co_X3_takeRide)
def mm_X3_takeZone : mz_M := (⟨"TapLedger$Journeys", "takeZone", "(II)V"⟩, prog_5_method_5_code, 3, none, 3, 0, co_X3_takeZone)
def mm_X3_size : mz_M := (⟨"TapLedger$Journeys", "size", "()I"⟩, prog_5_method_6_code, 1, (some .int), 3, 0, co_X3_size)
def mm_X3_moment : mz_M := (⟨"TapLedger$Journeys", "moment", "(I)I"⟩, prog_5_method_7_code, 2, (some .int), 3, 0, co_X3_moment)
def mm_X3_ridesIn : mz_M := (⟨"TapLedger$Journeys", "ridesIn", "(I)I"⟩, prog_5_method_8_code, 2, (some .int), 3, 0, co_X3_ridesIn)
def mm_X3_width : mz_M := (⟨"TapLedger$Journeys", "width", "(I)I"⟩, prog_5_method_9_code, 2, (some .int), 3, 0, co_X3_width)
def mm_X3_cost : mz_M := (⟨"TapLedger$Journeys", "cost", "(I)I"⟩, prog_5_method_10_code, 2, (some .int), 3, 0, co_X3_cost)
def mm_X3_journeyOfRide : mz_M := (⟨"TapLedger$Journeys", "journeyOfRide", "(I)I"⟩, prog_5_method_11_code, 2, (some .int), 3, 0, co_X3_journeyOfRide)
def mm_X4_init : mz_M := (⟨"TapLedger$Plan", "<init>", "()V"⟩, prog_6_method_1_code, 1, none, 4, 2, co_X4_init)
def mm_X4_build : mz_M := (⟨"TapLedger$Plan", "build", "(LTapLedger$Days;LTapLedger$Tariff;)V"⟩, prog_6_method_2_code, 4, none, 4, 0, co_X4_build)
def mm_X4_weighWeek : mz_M := (⟨"TapLedger$Plan", "weighWeek", "(II)V"⟩, prog_6_method_3_code, 7, none, 4, 0, co_X4_weighWeek)
def mm_X4_markWeeks : mz_M := (⟨"TapLedger$Plan", "markWeeks", "()V"⟩, prog_6_method_4_code, 4, none, 4, 0, co_X4_markWeeks)
def mm_X4_cost : mz_M := (⟨"TapLedger$Plan", "cost", "()I"⟩, prog_6_method_5_code, 1, (some .int), 4, 0, co_X4_cost)
def mm_X4_weeks : mz_M := (⟨"TapLedger$Plan", "weeks", "()I"⟩, prog_6_method_6_code, 1, (some .int), 4, 0, co_X4_weeks)
def mm_X4_start : mz_M := (⟨"TapLedger$Plan", "start", "(I)I"⟩, prog_6_method_7_code, 2, (some .int), 4, 0, co_X4_start)
def mm_X4_isInWeek : mz_M := (⟨"TapLedger$Plan", "isInWeek", "(I)Z"⟩, prog_6_method_8_code, 2, (some .boolean), 4, 0, co_X4_isInWeek)
def mm_X5_init : mz_M := (⟨"TapLedger$Rides", "<init>", "()V"⟩, prog_7_method_1_code, 1, none, 5, 2, co_X5_init)
def mm_X5_build : mz_M := (⟨"TapLedger$Rides", "build", "(LTapLedger$Taps;)V"⟩, prog_7_method_2_code, 3, none, 5, 0, co_X5_build)
def mm_X5_addWhole : mz_M := (⟨"TapLedger$Rides", "addWhole", "(LTapLedger$Taps;I)V"⟩, prog_7_method_3_code, 5, none, 5, 0, co_X5_addWhole)
def mm_X5_addLacking : mz_M := (⟨"TapLedger$Rides", "addLacking", "(LTapLedger$Taps;I)V"⟩, prog_7_method_4_code, 5, none, 5, 0, co_X5_addLacking)
def mm_X5_addRide : mz_M := (⟨"TapLedger$Rides", "addRide", "(IIIII)V"⟩, prog_7_method_5_code, 6, none, 5, 0, co_X5_addRide)
def mm_X5_size : mz_M := (⟨"TapLedger$Rides", "size", "()I"⟩, prog_7_method_6_code, 1, (some .int), 5, 0, co_X5_size)
def mm_X5_beginStation : mz_M := (⟨"TapLedger$Rides", "beginStation", "(I)I"⟩, prog_7_method_7_code, 2, (some .int), 5, 0, co_X5_beginStation)
def mm_X5_endStation : mz_M := (⟨"TapLedger$Rides", "endStation", "(I)I"⟩, prog_7_method_8_code, 2, (some .int), 5, 0, co_X5_endStation)
def mm_X5_beginMoment : mz_M := (⟨"TapLedger$Rides", "beginMoment", "(I)I"⟩, prog_7_method_9_code, 2, (some .int), 5, 0, co_X5_beginMoment)
def mm_X5_kind : mz_M := (⟨"TapLedger$Rides", "kind", "(I)I"⟩, prog_7_method_10_code, 2, (some .int), 5, 0, co_X5_kind)
def mm_X5_isLame : mz_M := (⟨"TapLedger$Rides", "isLame", "(I)Z"⟩, prog_7_method_11_code, 2, (some .boolean), 5, 0, co_X5_isLame)
def mm_X5_goesOn : mz_M := (⟨"TapLedger$Rides", "goesOn", "(II)Z"⟩, prog_7_method_12_code, 5, (some .boolean), 5, 0, co_X5_goesOn)
def mm_X6_init : mz_M := (⟨"TapLedger$Row", "<init>", "(I)V"⟩, prog_8_method_1_code, 2, none, 6, 2, co_X6_init)
def mm_X6_at : mz_M := (⟨"TapLedger$Row", "at", "(I)I"⟩, prog_8_method_2_code, 2, (some .int), 6, 0, co_X6_at)
def mm_X6_put : mz_M := (⟨"TapLedger$Row", "put", "(II)V"⟩, prog_8_method_3_code, 3, none, 6, 0, co_X6_put)
def mm_X6_add : mz_M := (⟨"TapLedger$Row", "add", "(II)V"⟩, prog_8_method_4_code, 3, none, 6, 0, co_X6_add)
def mm_X6_fill : mz_M := (⟨"TapLedger$Row", "fill", "(I)V"⟩, prog_8_method_5_code, 3, none, 6, 0, co_X6_fill)
def mm_X6_sum : mz_M := (⟨"TapLedger$Row", "sum", "()I"⟩, prog_8_method_6_code, 3, (some .int), 6, 0, co_X6_sum)
def mm_X6_copyFrom : mz_M := (⟨"TapLedger$Row", "copyFrom", "(LTapLedger$Row;)V"⟩, prog_8_method_7_code, 3, none, 6, 0, co_X6_copyFrom)
def mm_X7_init : mz_M := (⟨"TapLedger$State", "<init>", "()V"⟩, prog_9_method_1_code, 1, none, 7, 2, co_X7_init)
def mm_X7_tapsOf : mz_M := (⟨"TapLedger$State", "tapsOf", "(I)LTapLedger$Taps;"⟩, prog_9_method_2_code, 2, (some (.object "TapLedger$Taps")), 7, 0, co_X7_tapsOf)
def mm_X7_copyFrom : mz_M := (⟨"TapLedger$State", "copyFrom", "(LTapLedger$State;)V"⟩, prog_9_method_3_code, 2, none, 7, 0, co_X7_copyFrom)
def mm_X8_init : mz_M := (⟨"TapLedger$Taps", "<init>", "()V"⟩, prog_10_method_1_code, 1, none, 8, 2, co_X8_init)
def mm_X8_size : mz_M := (⟨"TapLedger$Taps", "size", "()I"⟩, prog_10_method_2_code, 1, (some .int), 8, 0, co_X8_size)
def mm_X8_moment : mz_M := (⟨"TapLedger$Taps", "moment", "(I)I"⟩, prog_10_method_3_code, 2, (some .int), 8, 0, co_X8_moment)
def mm_X8_station : mz_M := (⟨"TapLedger$Taps", "station", "(I)I"⟩, prog_10_method_4_code, 2, (some .int), 8, 0, co_X8_station)
def mm_X8_way : mz_M := (⟨"TapLedger$Taps", "way", "(I)I"⟩, prog_10_method_5_code, 2, (some .int), 8, 0, co_X8_way)
def mm_X8_find : mz_M := (⟨"TapLedger$Taps", "find", "(I)I"⟩, prog_10_method_6_code, 3, (some .int), 8, 0, co_X8_find)
def mm_X8_insert : mz_M := (⟨"TapLedger$Taps", "insert", "(III)V"⟩, prog_10_method_7_code, 5, none, 8, 0, co_X8_insert)
def mm_X8_remove : mz_M := (⟨"TapLedger$Taps", "remove", "(I)V"⟩, prog_10_method_8_code, 3, none, 8, 0, co_X8_remove)
def mm_X8_move : mz_M := (⟨"TapLedger$Taps", "move", "(II)V"⟩, prog_10_method_9_code, 3, none, 8, 0, co_X8_move)
def mm_X8_isWholeFrom : mz_M := (⟨"TapLedger$Taps", "isWholeFrom", "(I)Z"⟩, prog_10_method_10_code, 2, (some .boolean), 8, 0, co_X8_isWholeFrom)
def mm_X8_copyFrom : mz_M := (⟨"TapLedger$Taps", "copyFrom", "(LTapLedger$Taps;)V"⟩, prog_10_method_11_code, 2, none, 8, 0, co_X8_copyFrom)
def mm_X9_init : mz_M := (⟨"TapLedger$Tariff", "<init>", "()V"⟩, prog_11_method_1_code, 2, none, 9, 2, co_X9_init)
def mm_X9_zoneOf : mz_M := (⟨"TapLedger$Tariff", "zoneOf", "(I)I"⟩, prog_11_method_2_code, 2, (some .int), 9, 0, co_X9_zoneOf)
def mm_X9_putZone : mz_M := (⟨"TapLedger$Tariff", "putZone", "(II)V"⟩, prog_11_method_3_code, 3, none, 9, 0, co_X9_putZone)
def mm_X9_valueOf : mz_M := (⟨"TapLedger$Tariff", "valueOf", "(II)I"⟩, prog_11_method_4_code, 3, (some .int), 9, 0, co_X9_valueOf)
def mm_X9_putValue : mz_M := (⟨"TapLedger$Tariff", "putValue", "(III)V"⟩, prog_11_method_5_code, 4, none, 9, 0, co_X9_putValue)
def mm_X9_near : mz_M := (⟨"TapLedger$Tariff", "near", "()I"⟩, prog_11_method_6_code, 1, (some .int), 9, 0, co_X9_near)
def mm_X9_journeyCost : mz_M := (⟨"TapLedger$Tariff", "journeyCost", "(IZ)I"⟩, prog_11_method_7_code, 3, (some .int), 9, 0, co_X9_journeyCost)
def mm_X9_capped : mz_M := (⟨"TapLedger$Tariff", "capped", "(II)I"⟩, prog_11_method_8_code, 3, (some .int), 9, 0, co_X9_capped)
def mm_X9_weekCost : mz_M := (⟨"TapLedger$Tariff", "weekCost", "(I)I"⟩, prog_11_method_9_code, 2, (some .int), 9, 0, co_X9_weekCost)
def mm_X9_copyFrom : mz_M := (⟨"TapLedger$Tariff", "copyFrom", "(LTapLedger$Tariff;)V"⟩, prog_11_method_10_code, 2, none, 9, 0, co_X9_copyFrom)
def mm_X10_init : mz_M := (⟨"TapLedger", "<init>", "()V"⟩, prog_1_method_1_code, 1, none, 10, 2, co_X10_init)
def mm_X10_zone : mz_M := (⟨"TapLedger", "zone", "(II)I"⟩, prog_1_method_2_code, 4, (some .int), 10, 0, co_X10_zone)
def mm_X10_price : mz_M := (⟨"TapLedger", "price", "(III)I"⟩, prog_1_method_3_code, 5, (some .int), 10, 0, co_X10_price)
def mm_X10_tap : mz_M := (⟨"TapLedger", "tap", "(IIIII)I"⟩, prog_1_method_4_code, 8, (some .int), 10, 0, co_X10_tap)
def mm_X10_untap : mz_M := (⟨"TapLedger", "untap", "(III)I"⟩, prog_1_method_5_code, 6, (some .int), 10, 0, co_X10_untap)
def mm_X10_told : mz_M := (⟨"TapLedger", "told", "(III)I"⟩, prog_1_method_6_code, 5, (some .int), 10, 0, co_X10_told)
def mm_X10_ride : mz_M := (⟨"TapLedger", "ride", "(III)I"⟩, prog_1_method_7_code, 6, (some .int), 10, 0, co_X10_ride)
def mm_X10_journey : mz_M := (⟨"TapLedger", "journey", "(III)I"⟩, prog_1_method_8_code, 6, (some .int), 10, 0, co_X10_journey)
def mm_X10_day : mz_M := (⟨"TapLedger", "day", "(III)I"⟩, prog_1_method_9_code, 4, (some .int), 10, 0, co_X10_day)
def mm_X10_best : mz_M := (⟨"TapLedger", "best", "(II)I"⟩, prog_1_method_10_code, 4, (some .int), 10, 0, co_X10_best)
def mm_X10_saved : mz_M := (⟨"TapLedger", "saved", "(II)I"⟩, prog_1_method_11_code, 4, (some .int), 10, 0, co_X10_saved)
def mm_X10_would : mz_M := (⟨"TapLedger", "would", "(IIIII)I"⟩, prog_1_method_12_code, 8, (some .int), 10, 0, co_X10_would)
def mm_X10_bar : mz_M := (⟨"TapLedger", "bar", "(II)I"⟩, prog_1_method_13_code, 3, (some .int), 10, 0, co_X10_bar)
def mm_X10_hear : mz_M := (⟨"TapLedger", "hear", "(I)I"⟩, prog_1_method_14_code, 3, (some .int), 10, 0, co_X10_hear)
def mm_X10_pass : mz_M := (⟨"TapLedger", "pass", "(II)I"⟩, prog_1_method_15_code, 3, (some .int), 10, 0, co_X10_pass)
def mm_X10_image : mz_M := (⟨"TapLedger", "image", "(I)I"⟩, prog_1_method_16_code, 2, (some .int), 10, 0, co_X10_image)
def mm_X10_restore : mz_M := (⟨"TapLedger", "restore", "(I)I"⟩, prog_1_method_17_code, 2, (some .int), 10, 0, co_X10_restore)
def mm_X10_count : mz_M := (⟨"TapLedger", "count", "(I)I"⟩, prog_1_method_18_code, 2, (some .int), 10, 0, co_X10_count)
def mm_X10_refusalOfTap : mz_M := (⟨"TapLedger", "refusalOfTap", "(IIIII)I"⟩, prog_1_method_19_code, 7, (some .int), 10, 0, co_X10_refusalOfTap)
def mm_X10_refusalOfPart : mz_M := (⟨"TapLedger", "refusalOfPart", "(III)I"⟩, prog_1_method_20_code, 3, (some .int), 10, 1, co_X10_refusalOfPart)
def mm_X10_reckon : mz_M := (⟨"TapLedger", "reckon", "(I)V"⟩, prog_1_method_21_code, 2, none, 10, 0, co_X10_reckon)
def mm_X10_costOfAllCards : mz_M := (⟨"TapLedger", "costOfAllCards", "()I"⟩, prog_1_method_22_code, 3, (some .int), 10, 0, co_X10_costOfAllCards)
def mm_X10_imageOf : mz_M := (⟨"TapLedger", "imageOf", "(I)LTapLedger$State;"⟩, prog_1_method_23_code, 2, (some (.object "TapLedger$State")), 10, 0, co_X10_imageOf)
def mm_X10_isWithin : mz_M := (⟨"TapLedger", "isWithin", "(III)Z"⟩, prog_1_method_24_code, 3, (some .boolean), 10, 1, co_X10_isWithin)
def mm_X10_isCard : mz_M := (⟨"TapLedger", "isCard", "(I)Z"⟩, prog_1_method_25_code, 1, (some .boolean), 10, 1, co_X10_isCard)
def mm_X10_isStation : mz_M := (⟨"TapLedger", "isStation", "(I)Z"⟩, prog_1_method_26_code, 1, (some .boolean), 10, 1, co_X10_isStation)
def mm_X10_isReader : mz_M := (⟨"TapLedger", "isReader", "(I)Z"⟩, prog_1_method_27_code, 1, (some .boolean), 10, 1, co_X10_isReader)
def mm_X10_isImage : mz_M := (⟨"TapLedger", "isImage", "(I)Z"⟩, prog_1_method_28_code, 1, (some .boolean), 10, 1, co_X10_isImage)
def mm_X10_isDay : mz_M := (⟨"TapLedger", "isDay", "(I)Z"⟩, prog_1_method_29_code, 1, (some .boolean), 10, 1, co_X10_isDay)
def mm_X10_isMinute : mz_M := (⟨"TapLedger", "isMinute", "(I)Z"⟩, prog_1_method_30_code, 1, (some .boolean), 10, 1, co_X10_isMinute)
def mm_X10_isWidth : mz_M := (⟨"TapLedger", "isWidth", "(I)Z"⟩, prog_1_method_31_code, 1, (some .boolean), 10, 1, co_X10_isWidth)
def mm_X10_isPrice : mz_M := (⟨"TapLedger", "isPrice", "(III)Z"⟩, prog_1_method_32_code, 3, (some .boolean), 10, 1, co_X10_isPrice)
def mm_X10_momentOf : mz_M := (⟨"TapLedger", "momentOf", "(II)I"⟩, prog_1_method_33_code, 2, (some .int), 10, 1, co_X10_momentOf)
def mm_X10_dayOf : mz_M := (⟨"TapLedger", "dayOf", "(I)I"⟩, prog_1_method_34_code, 1, (some .int), 10, 1, co_X10_dayOf)
def mm_X10_minuteOf : mz_M := (⟨"TapLedger", "minuteOf", "(I)I"⟩, prog_1_method_35_code, 1, (some .int), 10, 1, co_X10_minuteOf)
def mm_X10_isBusy : mz_M := (⟨"TapLedger", "isBusy", "(I)Z"⟩, prog_1_method_36_code, 2, (some .boolean), 10, 1, co_X10_isBusy)
def mm_X11_init : mz_M := (⟨"TapLedgerModel", "<init>", "()V"⟩, prog_13_method_1_code, 2, none, 11, 2, co_X11_init)
def mm_X11_in : mz_M := (⟨"TapLedgerModel", "in", "(III)Z"⟩, prog_13_method_2_code, 3, (some .boolean), 11, 1, co_X11_in)
def mm_X11_isCard : mz_M := (⟨"TapLedgerModel", "isCard", "(I)Z"⟩, prog_13_method_3_code, 1, (some .boolean), 11, 1, co_X11_isCard)
def mm_X11_isStation : mz_M := (⟨"TapLedgerModel", "isStation", "(I)Z"⟩, prog_13_method_4_code, 1, (some .boolean), 11, 1, co_X11_isStation)
def mm_X11_isDay : mz_M := (⟨"TapLedgerModel", "isDay", "(I)Z"⟩, prog_13_method_5_code, 1, (some .boolean), 11, 1, co_X11_isDay)
def mm_X11_zone : mz_M := (⟨"TapLedgerModel", "zone", "(II)I"⟩, prog_13_method_6_code, 4, (some .int), 11, 0, co_X11_zone)
def mm_X11_price : mz_M := (⟨"TapLedgerModel", "price", "(III)I"⟩, prog_13_method_7_code, 6, (some .int), 11, 0, co_X11_price)
def mm_X11_when : mz_M := (⟨"TapLedgerModel", "when", "(II)I"⟩, prog_13_method_8_code, 3, (some .int), 11, 0, co_X11_when)
def mm_X11_stationOf : mz_M := (⟨"TapLedgerModel", "stationOf", "(II)I"⟩, prog_13_method_9_code, 3, (some .int), 11, 0, co_X11_stationOf)
def mm_X11_isIn : mz_M := (⟨"TapLedgerModel", "isIn", "(II)Z"⟩, prog_13_method_10_code, 3, (some .boolean), 11, 0, co_X11_isIn)
def mm_X11_tapAt : mz_M := (⟨"TapLedgerModel", "tapAt", "(II)I"⟩, prog_13_method_11_code, 5, (some .int), 11, 0, co_X11_tapAt)
def mm_X11_refusal : mz_M := (⟨"TapLedgerModel", "refusal", "(IIIII)I"⟩, prog_13_method_12_code, 6, (some .int), 11, 0, co_X11_refusal)
def mm_X11_add : mz_M := (⟨"TapLedgerModel", "add", "(III)V"⟩, prog_13_method_13_code, 5, none, 11, 0, co_X11_add)
def mm_X11_remove : mz_M := (⟨"TapLedgerModel", "remove", "(II)V"⟩, prog_13_method_14_code, 4, none, 11, 0, co_X11_remove)
def mm_X11_tap : mz_M := (⟨"TapLedgerModel", "tap", "(IIIII)I"⟩, prog_13_method_15_code, 7, (some .int), 11, 0, co_X11_tap)
def mm_X11_untap : mz_M := (⟨"TapLedgerModel", "untap", "(III)I"⟩, prog_13_method_16_code, 5, (some .int), 11, 0, co_X11_untap)
def mm_X11_told : mz_M := (⟨"TapLedgerModel", "told", "(III)I"⟩, prog_13_method_17_code, 4, (some .int), 11, 0, co_X11_told)
def mm_X11_mended : mz_M := (⟨"TapLedgerModel", "mended", "(ZI)I"⟩, prog_13_method_18_code, 5, (some .int), 11, 0, co_X11_mended)
def mm_X11_addRide : mz_M := (⟨"TapLedgerModel", "addRide", "(IIIII)V"⟩, prog_13_method_19_code, 6, none, 11, 0, co_X11_addRide)
def mm_X11_layRides : mz_M := (⟨"TapLedgerModel", "layRides", "(I)V"⟩, prog_13_method_20_code, 5, none, 11, 0, co_X11_layRides)
def mm_X11_goesOn : mz_M := (⟨"TapLedgerModel", "goesOn", "(I)Z"⟩, prog_13_method_21_code, 3, (some .boolean), 11, 0, co_X11_goesOn)
def mm_X11_isBusy : mz_M := (⟨"TapLedgerModel", "isBusy", "(I)Z"⟩, prog_13_method_22_code, 3, (some .boolean), 11, 1, co_X11_isBusy)
def mm_X11_zoneOf : mz_M := (⟨"TapLedgerModel", "zoneOf", "(I)I"⟩, prog_13_method_23_code, 2, (some .int), 11, 0, co_X11_zoneOf)
def mm_X11_widthOf : mz_M := (⟨"TapLedgerModel", "widthOf", "(I)I"⟩, prog_13_method_24_code, 7, (some .int), 11, 0, co_X11_widthOf)
def mm_X11_layJourneys : mz_M := (⟨"TapLedgerModel", "layJourneys", "(I)V"⟩, prog_13_method_25_code, 3, none, 11, 0, co_X11_layJourneys)
def mm_X11_ride : mz_M := (⟨"TapLedgerModel", "ride", "(III)I"⟩, prog_13_method_26_code, 4, (some .int), 11, 0, co_X11_ride)
def mm_X11_journey : mz_M := (⟨"TapLedgerModel", "journey", "(III)I"⟩, prog_13_method_27_code, 5, (some .int), 11, 0, co_X11_journey)
def mm_X11_weekAt : mz_M := (⟨"TapLedgerModel", "weekAt", "(I)I"⟩, prog_13_method_28_code, 4, (some .int), 11, 0, co_X11_weekAt)
def mm_X11_layDays : mz_M := (⟨"TapLedgerModel", "layDays", "(I)V"⟩, prog_13_method_29_code, 5, none, 11, 0, co_X11_layDays)
def mm_X11_weekOf : mz_M := (⟨"TapLedgerModel", "weekOf", "(I)I"⟩, prog_13_method_30_code, 4, (some .int), 11, 0, co_X11_weekOf)
def mm_X11_isOfWeek : mz_M := (⟨"TapLedgerModel", "isOfWeek", "(I)Z"⟩, prog_13_method_31_code, 5, (some .boolean), 11, 0, co_X11_isOfWeek)
def mm_X11_day : mz_M := (⟨"TapLedgerModel", "day", "(III)I"⟩, prog_13_method_32_code, 4, (some .int), 11, 0, co_X11_day)
def mm_X11_best : mz_M := (⟨"TapLedgerModel", "best", "(II)I"⟩, prog_13_method_33_code, 3, (some .int), 11, 0, co_X11_best)
def mm_X11_saved : mz_M := (⟨"TapLedgerModel", "saved", "(II)I"⟩, prog_13_method_34_code, 6, (some .int), 11, 0, co_X11_saved)
def mm_X11_would : mz_M := (⟨"TapLedgerModel", "would", "(IIIII)I"⟩, prog_13_method_35_code, 9, (some .int), 11, 0, co_X11_would)
def mm_X11_bar : mz_M := (⟨"TapLedgerModel", "bar", "(II)I"⟩, prog_13_method_36_code, 3, (some .int), 11, 0, co_X11_bar)
def mm_X11_hear : mz_M := (⟨"TapLedgerModel", "hear", "(I)I"⟩, prog_13_method_37_code, 3, (some .int), 11, 0, co_X11_hear)
def mm_X11_pass : mz_M := (⟨"TapLedgerModel", "pass", "(II)I"⟩, prog_13_method_38_code, 3, (some .int), 11, 0, co_X11_pass)
def mm_X11_image : mz_M := (⟨"TapLedgerModel", "image", "(I)I"⟩, prog_13_method_39_code, 3, (some .int), 11, 0, co_X11_image)
def mm_X11_restore : mz_M := (⟨"TapLedgerModel", "restore", "(I)I"⟩, prog_13_method_40_code, 3, (some .int), 11, 0, co_X11_restore)
def mm_X11_lagging : mz_M := (⟨"TapLedgerModel", "lagging", "()I"⟩, prog_13_method_41_code, 3, (some .int), 11, 0, co_X11_lagging)
def mm_X11_allBest : mz_M := (⟨"TapLedgerModel", "allBest", "()I"⟩, prog_13_method_42_code, 3, (some .int), 11, 0, co_X11_allBest)
def mm_X11_count : mz_M := (⟨"TapLedgerModel", "count", "(I)I"⟩, prog_13_method_43_code, 2, (some .int), 11, 0, co_X11_count)
def mz_tab : List mz_M := [mm_X0_init, mm_X0_number, mm_X0_barred, mm_X0_numberAt, mm_X0_isBarredAt, mm_X0_putBarred, mm_X0_bringTo, mm_X0_laggards, mm_X0_copyFrom, mm_X1_init, mm_X1_reckon, mm_X2_init, mm_X2_build, mm_X2_sum, mm_X2_width, mm_X2_owed, mm_X2_allSums, mm_X2_allOwed, mm_X2_widthOfWeek, mm_X3_init, mm_X3_build, mm_X3_open, mm_X3_takeRide, mm_X3_takeZone, mm_X3_size, mm_X3_moment, mm_X3_ridesIn, mm_X3_width, mm_X3_cost, mm_X3_journeyOfRide, mm_X4_init, mm_X4_build, mm_X4_weighWeek, mm_X4_markWeeks, mm_X4_cost, mm_X4_weeks, mm_X4_start, mm_X4_isInWeek, mm_X5_init, mm_X5_build, mm_X5_addWhole, mm_X5_addLacking, mm_X5_addRide, mm_X5_size, mm_X5_beginStation, mm_X5_endStation, mm_X5_beginMoment, mm_X5_kind, mm_X5_isLame, mm_X5_goesOn, mm_X6_init, mm_X6_at, mm_X6_put, mm_X6_add, mm_X6_fill, mm_X6_sum, mm_X6_copyFrom, mm_X7_init, mm_X7_tapsOf, mm_X7_copyFrom, mm_X8_init, mm_X8_size, mm_X8_moment, mm_X8_station, mm_X8_way, mm_X8_find, mm_X8_insert, mm_X8_remove, mm_X8_move, mm_X8_isWholeFrom, mm_X8_copyFrom, mm_X9_init, mm_X9_zoneOf, mm_X9_putZone, mm_X9_valueOf, mm_X9_putValue, mm_X9_near, mm_X9_journeyCost, mm_X9_capped, mm_X9_weekCost, mm_X9_copyFrom, mm_X10_init, mm_X10_zone, mm_X10_price, mm_X10_tap, mm_X10_untap, mm_X10_told, mm_X10_ride, mm_X10_journey, mm_X10_day, mm_X10_best, mm_X10_saved, mm_X10_would, mm_X10_bar, mm_X10_hear, mm_X10_pass, mm_X10_image, mm_X10_restore, mm_X10_count, mm_X10_refusalOfTap, mm_X10_refusalOfPart, mm_X10_reckon, mm_X10_costOfAllCards, mm_X10_imageOf, mm_X10_isWithin, mm_X10_isCard, mm_X10_isStation, mm_X10_isReader, mm_X10_isImage, mm_X10_isDay, mm_X10_isMinute, mm_X10_isWidth, mm_X10_isPrice, mm_X10_momentOf, mm_X10_dayOf, mm_X10_minuteOf, mm_X10_isBusy, mm_X11_init, mm_X11_in, mm_X11_isCard, mm_X11_isStation, mm_X11_isDay, mm_X11_zone, mm_X11_price, mm_X11_when, mm_X11_stationOf, mm_X11_isIn, mm_X11_tapAt, mm_X11_refusal, mm_X11_add, mm_X11_remove, mm_X11_tap, mm_X11_untap, mm_X11_told, mm_X11_mended, mm_X11_addRide, mm_X11_layRides, mm_X11_goesOn, mm_X11_isBusy, mm_X11_zoneOf, mm_X11_widthOf, mm_X11_layJourneys, mm_X11_ride, mm_X11_journey, mm_X11_weekAt, mm_X11_layDays, mm_X11_weekOf, mm_X11_isOfWeek, mm_X11_day, mm_X11_best, mm_X11_saved, mm_X11_would, mm_X11_bar, mm_X11_hear, mm_X11_pass, mm_X11_image, mm_X11_restore, mm_X11_lagging, mm_X11_allBest, mm_X11_count]
def mz_FL : List (Nat × Nat × Nat × Nat × Nat) := [(6, 7, 6, 0, 0), (8, 14, 8, 0, 0), (8, 20, 8, 1, 0), (8, 23, 8, 2, 0), (8, 26, 8, 3, 0), (9, 14, 9, 0, 0), (9, 20, 9, 1, 0), (9, 23, 9, 2, 0), (9, 26, 9, 3, 0), (9, 29, 9, 4, 0), (9, 33, 9, 5, 0), (0, 14, 0, 0, 0), (0, 20, 0, 1, 0), (0, 23, 0, 2, 0), (0, 27, 0, 3, 0), (7, 10, 7, 0, 0), (7, 16, 7, 1, 0), (7, 19, 7, 2, 0), (7, 22, 7, 3, 0), (7, 28, 7, 4, 0), (10, 47, 7, 4, 1), (7, 35, 7, 5, 0), (10, 218, 7, 5, 1), (5, 14, 5, 0, 0), (5, 20, 5, 1, 0), (5, 23, 5, 2, 0), (5, 26, 5, 3, 0), (5, 29, 5, 4, 0), (5, 32, 5, 5, 0), (5, 35, 5, 6, 0), (5, 38, 5, 7, 0), (3, 14, 3, 0, 0), (3, 20, 3, 1, 0), (3, 23, 3, 2, 0), (3, 26, 3, 3, 0), (3, 29, 3, 4, 0), (3, 32, 3, 5, 0), (3, 35, 3, 6, 0), (2, 14, 2, 0, 0), (2, 20, 2, 1, 0), (2, 23, 2, 2, 0), (4, 14, 4, 0, 0), (4, 20, 4, 1, 0), (4, 23, 4, 2, 0), (4, 26, 4, 3, 0), (4, 29, 4, 4, 0), (1, 10, 1, 0, 0), (10, 132, 1, 0, 1), (1, 19, 1, 1, 0), (10, 151, 1, 1, 1), (1, 26, 1, 2, 0), (10, 174, 1, 2, 1), (1, 33, 1, 3, 0), (10, 187, 1, 3, 1), (10, 10, 10, 0, 0), (10, 16, 10, 1, 0), (10, 19, 10, 2, 0), (10, 22, 10, 3, 0), (10, 29, 10, 4, 0), (10, 36, 10, 5, 0), (11, 7, 11, 0, 0), (11, 13, 11, 1, 0), (11, 16, 11, 2, 0), (11, 20, 11, 3, 0), (11, 23, 11, 4, 0), (11, 26, 11, 5, 0), (11, 29, 11, 6, 0), (11, 32, 11, 7, 0), (11, 35, 11, 8, 0), (11, 38, 11, 9, 0), (11, 111, 11, 10, 0), (11, 41, 11, 11, 0), (11, 44, 11, 12, 0), (11, 47, 11, 13, 0), (11, 50, 11, 14, 0), (11, 131, 11, 15, 0), (11, 53, 11, 16, 0), (11, 56, 11, 17, 0), (11, 59, 11, 18, 0), (11, 62, 11, 19, 0), (11, 65, 11, 20, 0), (11, 68, 11, 21, 0)]
def mz_FP : List Nat := [73, 78, 79, 80, 81, 105, 106, 107, 108, 109, 110, 132, 133, 134, 135, 145, 146, 147, 148, 149, 150, 151, 152, 182, 183, 184, 185, 186, 187, 188, 189, 215, 216, 217, 218, 219, 220, 221, 245, 246, 247, 263, 264, 265, 266, 267, 279, 280, 281, 282, 283, 284, 285, 286, 296, 297, 298, 299, 300, 301, 774, 775, 776, 777, 778, 779, 780, 781, 782, 783, 784, 785, 786, 787, 788, 789, 790, 791, 792, 793, 794, 795]
def mz_ML : List (Nat × Nat × Nat × Nat) := [(12, 9, 81, 4), (10, 1, 999, 6), (10, 9, 57, 5), (7, 1, 999, 6), (7, 9, 60, 5), (8, 3, 999, 6), (8, 11, 50, 4), (6, 1, 999, 6), (7, 27, 71, 4), (9, 3, 999, 6), (9, 11, 50, 4), (9, 40, 52, 0), (7, 34, 0, 5), (0, 3, 999, 6), (0, 11, 50, 4), (10, 28, 60, 5), (10, 35, 9, 5), (1, 1, 999, 6), (1, 9, 38, 5), (5, 3, 999, 6), (5, 11, 50, 4), (1, 18, 19, 5), (3, 3, 999, 6), (3, 11, 50, 4), (1, 25, 11, 5), (2, 3, 999, 6), (2, 11, 50, 4), (1, 32, 30, 5), (4, 3, 999, 6), (4, 11, 50, 4), (12, 13, 82, 0), (10, 40, 106, 2), (10, 107, 104, 2), (10, 44, 111, 2), (10, 51, 72, 0), (9, 44, 51, 0), (10, 57, 73, 0), (12, 18, 83, 0), (10, 61, 112, 2), (10, 65, 74, 0), (10, 69, 75, 0), (12, 23, 84, 0), (10, 73, 99, 0), (10, 91, 105, 2), (10, 94, 109, 2), (10, 97, 110, 2), (10, 77, 58, 0), (10, 81, 113, 2), (10, 100, 65, 0), (8, 30, 51, 0), (10, 87, 61, 0), (10, 84, 66, 0), (8, 34, 68, 0), (8, 38, 52, 0), (12, 28, 85, 0), (10, 103, 67, 0), (12, 32, 86, 0), (10, 110, 62, 0), (10, 113, 114, 2), (10, 116, 115, 2), (10, 119, 63, 0), (10, 122, 64, 0), (12, 36, 87, 0), (10, 125, 100, 2), (10, 129, 101, 0), (10, 214, 10, 0), (1, 37, 39, 0), (5, 42, 54, 0), (5, 45, 61, 0), (5, 50, 69, 0), (8, 41, 114, 3), (5, 54, 40, 0), (5, 61, 63, 0), (5, 65, 52, 0), (5, 69, 62, 0), (5, 72, 42, 0), (5, 58, 41, 0), (5, 76, 64, 0), (5, 79, 51, 0), (1, 41, 20, 0), (3, 39, 43, 0), (3, 44, 51, 0), (3, 48, 76, 0), (3, 53, 49, 0), (5, 82, 114, 3), (3, 57, 46, 0), (3, 60, 21, 0), (3, 78, 52, 0), (3, 63, 22, 0), (3, 82, 53, 0), (6, 13, 51, 0), (6, 17, 52, 0), (3, 85, 48, 0), (3, 88, 23, 0), (3, 100, 997, 8), (3, 106, 998, 7), (3, 91, 44, 0), (3, 94, 72, 0), (3, 97, 45, 0), (3, 67, 27, 0), (3, 70, 116, 3), (3, 74, 77, 0), (1, 44, 12, 0), (2, 26, 54, 0), (2, 29, 24, 0), (2, 35, 25, 0), (2, 39, 114, 3), (2, 42, 28, 0), (2, 45, 53, 0), (2, 49, 51, 0), (2, 52, 27, 0), (2, 55, 998, 7), (2, 61, 52, 0), (2, 64, 78, 0), (9, 48, 997, 8), (1, 47, 31, 0), (4, 32, 52, 0), (4, 36, 15, 0), (4, 42, 51, 0), (4, 45, 18, 0), (4, 48, 79, 0), (4, 53, 32, 0), (4, 56, 33, 0), (10, 136, 43, 0), (10, 139, 44, 0), (10, 142, 45, 0), (10, 145, 47, 0), (10, 148, 48, 0), (10, 155, 29, 0), (12, 40, 88, 0), (10, 160, 24, 0), (10, 161, 25, 0), (10, 162, 26, 0), (10, 165, 27, 0), (10, 168, 28, 0), (10, 171, 116, 2), (12, 44, 89, 0), (10, 178, 13, 0), (10, 183, 14, 0), (10, 184, 15, 0), (10, 191, 37, 0), (12, 48, 90, 0), (10, 196, 34, 0), (10, 198, 35, 0), (10, 201, 36, 0), (12, 52, 91, 0), (10, 204, 17, 0), (2, 69, 55, 0), (10, 207, 16, 0), (12, 56, 92, 0), (10, 210, 70, 0), (8, 44, 56, 0), (12, 60, 93, 0), (10, 222, 5, 0), (10, 228, 1, 0), (12, 64, 94, 0), (10, 231, 107, 2), (10, 234, 3, 0), (0, 30, 51, 0), (10, 237, 6, 0), (0, 34, 52, 0), (12, 69, 95, 0), (10, 240, 4, 0), (12, 73, 96, 0), (10, 244, 108, 2), (10, 247, 103, 0), (10, 251, 59, 0), (7, 39, 70, 0), (7, 43, 80, 0), (9, 54, 56, 0), (7, 46, 8, 0), (0, 38, 56, 0), (12, 77, 97, 0), (12, 81, 98, 0), (10, 254, 2, 0), (10, 257, 7, 0), (10, 260, 102, 0), (12, 12, 117, 4), (11, 1, 999, 6), (12, 17, 122, 0), (11, 75, 120, 2), (11, 71, 118, 2), (12, 22, 123, 0), (12, 27, 131, 0), (11, 92, 128, 0), (11, 83, 119, 2), (11, 86, 121, 2), (11, 89, 127, 0), (11, 79, 124, 0), (11, 96, 129, 0), (12, 31, 132, 0), (11, 100, 130, 0), (12, 35, 133, 0), (11, 104, 125, 0), (11, 107, 126, 0), (12, 39, 142, 0), (11, 143, 141, 0), (11, 127, 136, 0), (11, 115, 134, 0), (11, 119, 135, 0), (11, 134, 137, 0), (11, 137, 140, 0), (11, 123, 139, 0), (11, 140, 138, 2), (12, 43, 143, 0), (12, 47, 148, 0), (11, 152, 145, 0), (11, 146, 144, 0), (11, 155, 147, 0), (11, 149, 146, 0), (12, 51, 149, 0), (12, 55, 150, 0), (12, 59, 151, 0), (12, 63, 152, 0), (12, 68, 153, 0), (12, 72, 154, 0), (12, 76, 155, 0), (12, 80, 156, 0), (12, 84, 159, 0), (11, 159, 157, 0), (11, 163, 158, 0)]
def mz_MP : List Nat := [49, 52, 57, 60, 63, 66, 69, 72, 93, 96, 98, 101, 126, 129, 131, 167, 170, 173, 176, 179, 181, 209, 212, 214, 239, 242, 244, 257, 260, 262, 315, 319, 322, 325, 328, 332, 336, 340, 344, 347, 351, 355, 359, 363, 366, 369, 372, 376, 379, 383, 384, 388, 392, 396, 397, 401, 405, 409, 413, 416, 419, 423, 427, 431, 434, 438, 442, 446, 450, 451, 455, 456, 460, 461, 462, 463, 467, 471, 472, 473, 477, 481, 482, 486, 490, 491, 495, 499, 500, 504, 508, 509, 510, 514, 518, 521, 524, 528, 529, 533, 537, 540, 544, 548, 549, 553, 557, 558, 562, 563, 564, 565, 566, 567, 571, 572, 576, 577, 581, 582, 586, 590, 594, 598, 599, 600, 601, 605, 606, 610, 614, 615, 616, 620, 621, 622, 623, 627, 631, 635, 636, 640, 644, 648, 652, 656, 660, 664, 668, 672, 676, 680, 685, 689, 693, 697, 701, 704, 708, 709, 713, 714, 718, 722, 726, 729, 733, 737, 738, 742, 743, 747, 748, 752, 756, 760, 764, 770, 773, 842, 846, 849, 852, 856, 860, 864, 867, 870, 874, 878, 882, 886, 890, 894, 898, 902, 906, 910, 914, 918, 922, 926, 930, 934, 937, 941, 945, 949, 953, 957, 961, 965, 969, 974, 978, 982, 986, 990, 994, 998, 1002]
def mz_CL : List (Nat × Nat × Nat) := [(12, 7, 10), (10, 7, 7), (7, 7, 8), (8, 9, 6), (7, 25, 9), (9, 9, 6), (7, 32, 0), (0, 9, 6), (10, 26, 8), (10, 33, 1), (1, 7, 5), (5, 9, 6), (1, 16, 3), (3, 9, 6), (1, 23, 2), (2, 9, 6), (1, 30, 4), (4, 9, 6), (12, 10, 11)]
def mz_CP : List Nat := [47, 55, 61, 67, 91, 97, 124, 130, 166, 168, 174, 180, 207, 213, 237, 243, 255, 261, 768]
def mz_KL : List (Nat × Nat × Nat) := [(10, 217, 100000), (11, 158, 100000)]
def mz_KP : List Nat := [684, 973]
def mz_GS : List (Nat × Nat) := [(9, 36)]
end
section
/-! the tables' words that a method may carry, the nest mates' words, and the checks -/
def mz_gw : List Cond := lw_tbl.filter goodWord
def mz_isN : Cond → Bool
  | .fieldLinkNest .. => true
  | .methodLinkNest .. => true
  | _ => false
def mz_nw : List Cond := lw_tbl.filter mz_isN
def mz_ok1 (i : Nat) (w : Cond) : Bool := decide (lw_tbl[i]? = some w)
theorem mz_mem {i : Nat} {w : Cond} (h : mz_ok1 i w = true) (g : goodWord w = true) : w ∈ mz_gw :=
  List.mem_filter.mpr ⟨List.mem_of_getElem? (of_decide_eq_true h), g⟩
theorem mz_memN {i : Nat} {w : Cond} (h : mz_ok1 i w = true) (g : mz_isN w = true) : w ∈ mz_nw :=
  List.mem_filter.mpr ⟨List.mem_of_getElem? (of_decide_eq_true h), g⟩
def mz_fw (e : Nat × Nat × Nat × Nat × Nat) : Cond := if e.2.2.2.2 = 0 then .fieldLink (mz_RN e.1) e.2.1 (mz_RN e.2.2.1) (mz_F e.2.2.1 e.2.2.2.1).2.1 (mz_F e.2.2.1 e.2.2.2.1).2.2.1 else .fieldLinkNest (mz_RN e.1) e.2.1 (mz_RN e.2.2.1) (mz_F e.2.2.1 e.2.2.2.1).2.1 (mz_F e.2.2.1 e.2.2.2.1).2.2.1 "TapLedger"
def mz_y (idx : Nat) : MethodName := match mz_tab[idx]? with
  | some M => M.1
  | none => if idx = 998 then Lib.Math.max.name else if idx = 997 then Lib.Math.min.name else objectInit
def mz_mw (e : Nat × Nat × Nat × Nat) : Cond := if e.2.2.2 = 1 ∨ e.2.2.2 = 3 ∨ e.2.2.2 = 5 then .methodLinkNest (mz_RN e.1) e.2.1 (mz_y e.2.2.1) "TapLedger" else .methodLink (mz_RN e.1) e.2.1 (mz_y e.2.2.1)
def mz_ln : Instr → Nat
  | .bipush _ | .iload _ | .aload _ | .istore _ | .astore _ | .ldc _ | .newarray _ => 2
  | .sipush _ | .iinc _ _ | .getfield _ | .putfield _ | .getstatic _ | .invokevirtual _ | .invokestatic _ | .invokespecial _ | .new _ | .goto _ | .if_icmp _ _ | .ifCond _ _ => 3
  | _ => 1
def mz_chk (own kind : Nat) (e : mz_I) : Bool := match e.2.1 with
  | .getfield cp => e.2.2.1 == 3 && (mz_FL.contains (own, cp, e.2.2.2.1, e.2.2.2.2, 0) || mz_FL.contains (own, cp, e.2.2.2.1, e.2.2.2.2, 1))
  | .putfield cp => e.2.2.1 == 3 && mz_FL.contains (own, cp, e.2.2.2.1, e.2.2.2.2, 0) && (!(mz_F e.2.2.2.1 e.2.2.2.2).2.2.2 || (kind == 2 && e.2.2.2.1 == own))
  | .invokevirtual cp => e.2.2.1 == 3 && mz_ML.contains (own, cp, e.2.2.2.1, e.2.2.2.2) && (e.2.2.2.2 == 0 || e.2.2.2.2 == 1)
  | .invokestatic cp => e.2.2.1 == 3 && mz_ML.contains (own, cp, e.2.2.2.1, e.2.2.2.2) && (e.2.2.2.2 == 2 || e.2.2.2.2 == 3 || (e.2.2.2.2 == 7 && e.2.2.2.1 == 998) || (e.2.2.2.2 == 8 && e.2.2.2.1 == 997))
  | .invokespecial cp => e.2.2.1 == 3 && mz_ML.contains (own, cp, e.2.2.2.1, e.2.2.2.2) && (e.2.2.2.2 == 4 || e.2.2.2.2 == 5 || (e.2.2.2.2 == 6 && e.2.2.2.1 == 999))
  | .new cp => e.2.2.1 == 3 && mz_CL.contains (own, cp, e.2.2.2.1)
  | .ldc cp => e.2.2.1 == 2 && mz_KL.contains (own, cp, e.2.2.2.1)
  | .getstatic cp => e.2.2.1 == 3 && mz_GS.contains (own, cp)
  | .iconst i => e.2.2.1 == 1 && decide (Int32.ofInt i = nI e.2.2.2.1)
  | .bipush i => e.2.2.1 == 2 && decide ((Int8.ofInt i).toInt32 = nI e.2.2.2.1)
  | .sipush i => e.2.2.1 == 3 && decide ((Int16.ofInt i).toInt32 = nI e.2.2.2.1)
  | .iinc _ i => e.2.2.1 == 3 && decide (Int32.ofInt i = nI e.2.2.2.1)
  | .if_icmp _ off | .ifCond _ off | .goto off => e.2.2.1 == 3 && decide ((e.1 : Int) + off = (e.2.2.2.1 : Int))
  | .tableswitch d lo hi offs => decide (0 ≤ (e.1 : Int) + d) && offs.all (fun f => decide (0 ≤ (e.1 : Int) + f)) && decide ((offs.size : Int) = hi - lo + 1)
  | i => e.2.2.1 == mz_ln i
/-- a method's own words, by their places; its code, instruction by instruction -/
def mz_chkW (M : mz_M) (np : Nat) (p : Nat × Nat × Nat × Nat) : Bool :=
  mz_ok1 p.2.1 (.initialized M.1.cls) && mz_ok1 p.2.2.1 (if M.2.2.2.2.2.1 = 1 then .static M.1 else .instanceMethod M.1) && (M.2.2.2.2.2.1 != 0 || mz_ok1 p.2.2.2 (.selects M.1.cls M.1 M.1)) &&
  decide (M.1.cls = mz_RN M.2.2.2.2.1) && plainName M.1.cls && decide (M.1.cls ≠ "java/lang/invoke/MethodHandle") && decide (M.1.cls ≠ "java/lang/invoke/VarHandle") && (M.2.2.2.2.2.1 != 2 || decide (M.1.name = "<init>")) && decide ((parseMethodDescriptor M.1.desc).map (fun d => d.parameters.length) = some np) && decide (M.2.2.1 ≤ 11) && decide (M.2.2.2.2.2.1 < 3)
def mz_chkC (own kind : Nat) (bytes : ByteArray) (code : List mz_I) : Bool := code.all (fun e => decide (decode bytes e.1 = .ok (e.2.1, e.2.2.1)) && mz_chk own kind e)

def mz_np : List Nat := [0, 0, 0, 1, 2, 2, 1, 0, 1, 0, 2, 0, 2, 1, 1, 1, 0, 0, 1, 0, 2, 1, 3, 2, 0, 1, 1, 1, 1, 1, 0, 2, 2, 0, 0, 0, 1, 1, 0, 1, 2, 2, 5, 0, 1, 1, 1, 1, 1, 2, 1, 1, 2, 2, 1, 0, 1, 0, 1, 1, 0, 0, 1, 1, 1, 1, 3, 1, 2, 1, 1, 0, 1, 2, 2, 3, 0, 2, 2, 1, 1, 0, 2, 3, 5, 3, 3, 3, 3, 3, 2, 2, 5, 2, 1, 2, 1, 1, 1, 5, 3, 1, 0, 1, 3, 1, 1, 1, 1, 1, 1, 1, 3, 2, 1, 1, 1, 0, 3, 1, 1, 1, 2, 3, 2, 2, 2, 2, 5, 3, 2, 5, 3, 3, 2, 5, 1, 1, 1, 1, 1, 1, 3, 3, 1, 1, 1, 1, 3, 2, 2, 5, 2, 1, 2, 1, 1, 0, 0, 1]
theorem mz_FLok : (mz_FL.zip mz_FP).all (fun q => mz_ok1 q.2 (mz_fw q.1)) = true := by decide +kernel
theorem mz_MLok : (mz_ML.zip mz_MP).all (fun q => mz_ok1 q.2 (mz_mw q.1)) = true := by decide +kernel
theorem mz_CLok : (mz_CL.zip mz_CP).all (fun q => mz_ok1 q.2 (.classLink (mz_RN q.1.1) q.1.2.1 (mz_RN q.1.2.2))) = true := by decide +kernel
theorem mz_KLok : (mz_KL.zip mz_KP).all (fun q => mz_ok1 q.2 (.constant (mz_RN q.1.1) q.1.2.1 (nI q.1.2.2))) = true := by decide +kernel
theorem mz_GSok : mz_ok1 99 (.fieldLink (mz_RN 9) 36 (mz_RN 9) "FIRST_ZONES" "[I") = true := by decide +kernel
def mz_lp : List (List Nat) := [[136, 138, 140, 142], [287, 289, 291, 293], [248, 250, 252], [222, 224, 226, 228, 230, 232, 234], [268, 270, 272, 274, 276], [190, 192, 194, 196, 198, 200, 202, 204], [74], [153, 155, 157, 159, 161, 163], [82, 84, 86, 88], [111, 113, 115, 117, 119, 121], [302, 304, 306, 308, 310, 312], [796, 798, 800, 802, 804, 806, 808, 810, 812, 814, 816, 818, 820, 822, 824, 826, 828, 830, 832, 834, 836, 838]]
def mz_ip : List Nat := [125, 169, 238, 208, 256, 175, 68, 56, 62, 92, 48, 769]
def mz_jp : List Nat := [39, 40, 43, 42, 44, 41, 37, 35, 36, 38, 34, 45]
theorem mz_clsok : (List.range 12).all (fun i => (List.range (mz_N i)).all (fun k => mz_ok1 ((mz_lp.getD i []).getD k 0) (u_lay (mz_RN i) (mz_F i) k) && decide (parseFieldDescriptor (mz_F i k).2.2.1 = some (mz_ty i k)) && (List.range (mz_N i)).all (fun j => j == k || decide ((mz_F i k).2.1 ≠ (mz_F i j).2.1)) && decide ((mz_F i k).1 = mz_RN i)) && mz_ok1 (mz_ip.getD i 0) (.instantiable (mz_RN i) (mz_N i)) && mz_ok1 (mz_jp.getD i 0) (.initialized (mz_RN i))) = true := by decide +kernel
theorem mz_objok : mz_ok1 53 (.instanceMethod objectInit) = true ∧ mz_ok1 54 (.code objectInit ⟨#[0xb1]⟩ 1 none) = true := by decide +kernel
theorem mz_mathok : mz_ok1 46 (.initialized "java/lang/Math") = true ∧ mz_ok1 522 (.static Lib.Math.max.name) = true ∧ mz_ok1 523 (.code Lib.Math.max.name Lib.Math.max.code 2 (some .int)) = true ∧ mz_ok1 519 (.static Lib.Math.min.name) = true ∧ mz_ok1 520 (.code Lib.Math.min.name Lib.Math.min.code 2 (some .int)) = true := by decide +kernel
theorem mz_arrok : mz_ok1 77 (.arrayClass .int) = true ∧ mz_ok1 841 (.arrayClass .boolean) = true := by decide +kernel
set_option maxRecDepth 20000 in
theorem wc_X0_init : lw_tbl[128]? = some (.code mm_X0_init.1 mm_X0_init.2.1 mm_X0_init.2.2.1 mm_X0_init.2.2.2.1) := rfl
set_option maxRecDepth 20000 in
theorem wc_X0_number : lw_tbl[696]? = some (.code mm_X0_number.1 mm_X0_number.2.1 mm_X0_number.2.2.1 mm_X0_number.2.2.2.1) := rfl
set_option maxRecDepth 20000 in
theorem wc_X0_barred : lw_tbl[759]? = some (.code mm_X0_barred.1 mm_X0_barred.2.1 mm_X0_barred.2.2.1 mm_X0_barred.2.2.2.1) := rfl
set_option maxRecDepth 20000 in
theorem wc_X0_numberAt : lw_tbl[707]? = some (.code mm_X0_numberAt.1 mm_X0_numberAt.2.1 mm_X0_numberAt.2.2.1 mm_X0_numberAt.2.2.2.1) := rfl
set_option maxRecDepth 20000 in
theorem wc_X0_isBarredAt : lw_tbl[721]? = some (.code mm_X0_isBarredAt.1 mm_X0_isBarredAt.2.1 mm_X0_isBarredAt.2.2.1 mm_X0_isBarredAt.2.2.2.1) := rfl
set_option maxRecDepth 20000 in
theorem wc_X0_putBarred : lw_tbl[692]? = some (.code mm_X0_putBarred.1 mm_X0_putBarred.2.1 mm_X0_putBarred.2.2.1 mm_X0_putBarred.2.2.2.1) := rfl
set_option maxRecDepth 20000 in
theorem wc_X0_bringTo : lw_tbl[712]? = some (.code mm_X0_bringTo.1 mm_X0_bringTo.2.1 mm_X0_bringTo.2.2.1 mm_X0_bringTo.2.2.2.1) := rfl
set_option maxRecDepth 20000 in
theorem wc_X0_laggards : lw_tbl[763]? = some (.code mm_X0_laggards.1 mm_X0_laggards.2.1 mm_X0_laggards.2.2.1 mm_X0_laggards.2.2.2.1) := rfl
set_option maxRecDepth 20000 in
theorem wc_X0_copyFrom : lw_tbl[746]? = some (.code mm_X0_copyFrom.1 mm_X0_copyFrom.2.1 mm_X0_copyFrom.2.2.1 mm_X0_copyFrom.2.2.2.1) := rfl
set_option maxRecDepth 20000 in
theorem wc_X1_init : lw_tbl[172]? = some (.code mm_X1_init.1 mm_X1_init.2.1 mm_X1_init.2.2.1 mm_X1_init.2.2.2.1) := rfl
set_option maxRecDepth 20000 in
theorem wc_X1_reckon : lw_tbl[441]? = some (.code mm_X1_reckon.1 mm_X1_reckon.2.1 mm_X1_reckon.2.2.1 mm_X1_reckon.2.2.2.1) := rfl
set_option maxRecDepth 20000 in
theorem wc_X2_init : lw_tbl[241]? = some (.code mm_X2_init.1 mm_X2_init.2.1 mm_X2_init.2.2.1 mm_X2_init.2.2.2.1) := rfl
set_option maxRecDepth 20000 in
theorem wc_X2_build : lw_tbl[547]? = some (.code mm_X2_build.1 mm_X2_build.2.1 mm_X2_build.2.2.1 mm_X2_build.2.2.2.1) := rfl
set_option maxRecDepth 20000 in
theorem wc_X2_sum : lw_tbl[630]? = some (.code mm_X2_sum.1 mm_X2_sum.2.1 mm_X2_sum.2.2.1 mm_X2_sum.2.2.2.1) := rfl
set_option maxRecDepth 20000 in
theorem wc_X2_width : lw_tbl[634]? = some (.code mm_X2_width.1 mm_X2_width.2.1 mm_X2_width.2.2.1 mm_X2_width.2.2.2.1) := rfl
set_option maxRecDepth 20000 in
theorem wc_X2_owed : lw_tbl[580]? = some (.code mm_X2_owed.1 mm_X2_owed.2.1 mm_X2_owed.2.2.1 mm_X2_owed.2.2.2.1) := rfl
set_option maxRecDepth 20000 in
theorem wc_X2_allSums : lw_tbl[671]? = some (.code mm_X2_allSums.1 mm_X2_allSums.2.1 mm_X2_allSums.2.2.1 mm_X2_allSums.2.2.2.1) := rfl
set_option maxRecDepth 20000 in
theorem wc_X2_allOwed : lw_tbl[663]? = some (.code mm_X2_allOwed.1 mm_X2_allOwed.2.1 mm_X2_allOwed.2.2.1 mm_X2_allOwed.2.2.2.1) := rfl
set_option maxRecDepth 20000 in
theorem wc_X2_widthOfWeek : lw_tbl[585]? = some (.code mm_X2_widthOfWeek.1 mm_X2_widthOfWeek.2.1 mm_X2_widthOfWeek.2.2.1 mm_X2_widthOfWeek.2.2.2.1) := rfl
set_option maxRecDepth 20000 in
theorem wc_X3_init : lw_tbl[211]? = some (.code mm_X3_init.1 mm_X3_init.2.1 mm_X3_init.2.2.1 mm_X3_init.2.2.2.1) := rfl
set_option maxRecDepth 20000 in
theorem wc_X3_build : lw_tbl[476]? = some (.code mm_X3_build.1 mm_X3_build.2.1 mm_X3_build.2.2.1 mm_X3_build.2.2.2.1) := rfl
set_option maxRecDepth 20000 in
theorem wc_X3_open : lw_tbl[498]? = some (.code mm_X3_open.1 mm_X3_open.2.1 mm_X3_open.2.2.1 mm_X3_open.2.2.2.1) := rfl
set_option maxRecDepth 20000 in
theorem wc_X3_takeRide : lw_tbl[503]? = some (.code mm_X3_takeRide.1 mm_X3_takeRide.2.1 mm_X3_takeRide.2.2.1 mm_X3_takeRide.2.2.2.1) := rfl
set_option maxRecDepth 20000 in
theorem wc_X3_takeZone : lw_tbl[517]? = some (.code mm_X3_takeZone.1 mm_X3_takeZone.2.1 mm_X3_takeZone.2.2.1 mm_X3_takeZone.2.2.2.1) := rfl
set_option maxRecDepth 20000 in
theorem wc_X3_size : lw_tbl[552]? = some (.code mm_X3_size.1 mm_X3_size.2.1 mm_X3_size.2.2.1 mm_X3_size.2.2.2.1) := rfl
set_option maxRecDepth 20000 in
theorem wc_X3_moment : lw_tbl[556]? = some (.code mm_X3_moment.1 mm_X3_moment.2.1 mm_X3_moment.2.2.1 mm_X3_moment.2.2.2.1) := rfl
set_option maxRecDepth 20000 in
theorem wc_X3_ridesIn : lw_tbl[619]? = some (.code mm_X3_ridesIn.1 mm_X3_ridesIn.2.1 mm_X3_ridesIn.2.2.1 mm_X3_ridesIn.2.2.2.1) := rfl
set_option maxRecDepth 20000 in
theorem wc_X3_width : lw_tbl[536]? = some (.code mm_X3_width.1 mm_X3_width.2.1 mm_X3_width.2.2.1 mm_X3_width.2.2.2.1) := rfl
set_option maxRecDepth 20000 in
theorem wc_X3_cost : lw_tbl[561]? = some (.code mm_X3_cost.1 mm_X3_cost.2.1 mm_X3_cost.2.2.1 mm_X3_cost.2.2.2.1) := rfl
set_option maxRecDepth 20000 in
theorem wc_X3_journeyOfRide : lw_tbl[609]? = some (.code mm_X3_journeyOfRide.1 mm_X3_journeyOfRide.2.1 mm_X3_journeyOfRide.2.2.1 mm_X3_journeyOfRide.2.2.2.1) := rfl
set_option maxRecDepth 20000 in
theorem wc_X4_init : lw_tbl[259]? = some (.code mm_X4_init.1 mm_X4_init.2.1 mm_X4_init.2.2.1 mm_X4_init.2.2.2.1) := rfl
set_option maxRecDepth 20000 in
theorem wc_X4_build : lw_tbl[575]? = some (.code mm_X4_build.1 mm_X4_build.2.1 mm_X4_build.2.2.1 mm_X4_build.2.2.2.1) := rfl
set_option maxRecDepth 20000 in
theorem wc_X4_weighWeek : lw_tbl[593]? = some (.code mm_X4_weighWeek.1 mm_X4_weighWeek.2.1 mm_X4_weighWeek.2.2.1 mm_X4_weighWeek.2.2.2.1) := rfl
set_option maxRecDepth 20000 in
theorem wc_X4_markWeeks : lw_tbl[597]? = some (.code mm_X4_markWeeks.1 mm_X4_markWeeks.2.1 mm_X4_markWeeks.2.2.1 mm_X4_markWeeks.2.2.2.1) := rfl
set_option maxRecDepth 20000 in
theorem wc_X4_cost : lw_tbl[647]? = some (.code mm_X4_cost.1 mm_X4_cost.2.1 mm_X4_cost.2.2.1 mm_X4_cost.2.2.2.1) := rfl
set_option maxRecDepth 20000 in
theorem wc_X4_weeks : lw_tbl[651]? = some (.code mm_X4_weeks.1 mm_X4_weeks.2.1 mm_X4_weeks.2.2.1 mm_X4_weeks.2.2.2.1) := rfl
set_option maxRecDepth 20000 in
theorem wc_X4_start : lw_tbl[655]? = some (.code mm_X4_start.1 mm_X4_start.2.1 mm_X4_start.2.2.1 mm_X4_start.2.2.2.1) := rfl
set_option maxRecDepth 20000 in
theorem wc_X4_isInWeek : lw_tbl[639]? = some (.code mm_X4_isInWeek.1 mm_X4_isInWeek.2.1 mm_X4_isInWeek.2.2.1 mm_X4_isInWeek.2.2.2.1) := rfl
set_option maxRecDepth 20000 in
theorem wc_X5_init : lw_tbl[178]? = some (.code mm_X5_init.1 mm_X5_init.2.1 mm_X5_init.2.2.1 mm_X5_init.2.2.2.1) := rfl
set_option maxRecDepth 20000 in
theorem wc_X5_build : lw_tbl[445]? = some (.code mm_X5_build.1 mm_X5_build.2.1 mm_X5_build.2.2.1 mm_X5_build.2.2.2.1) := rfl
set_option maxRecDepth 20000 in
theorem wc_X5_addWhole : lw_tbl[459]? = some (.code mm_X5_addWhole.1 mm_X5_addWhole.2.1 mm_X5_addWhole.2.2.1 mm_X5_addWhole.2.2.2.1) := rfl
set_option maxRecDepth 20000 in
theorem wc_X5_addLacking : lw_tbl[470]? = some (.code mm_X5_addLacking.1 mm_X5_addLacking.2.1 mm_X5_addLacking.2.2.1 mm_X5_addLacking.2.2.2.1) := rfl
set_option maxRecDepth 20000 in
theorem wc_X5_addRide : lw_tbl[466]? = some (.code mm_X5_addRide.1 mm_X5_addRide.2.1 mm_X5_addRide.2.2.1 mm_X5_addRide.2.2.2.1) := rfl
set_option maxRecDepth 20000 in
theorem wc_X5_size : lw_tbl[480]? = some (.code mm_X5_size.1 mm_X5_size.2.1 mm_X5_size.2.2.1 mm_X5_size.2.2.2.1) := rfl
set_option maxRecDepth 20000 in
theorem wc_X5_beginStation : lw_tbl[527]? = some (.code mm_X5_beginStation.1 mm_X5_beginStation.2.1 mm_X5_beginStation.2.2.1 mm_X5_beginStation.2.2.2.1) := rfl
set_option maxRecDepth 20000 in
theorem wc_X5_endStation : lw_tbl[532]? = some (.code mm_X5_endStation.1 mm_X5_endStation.2.1 mm_X5_endStation.2.2.1 mm_X5_endStation.2.2.2.1) := rfl
set_option maxRecDepth 20000 in
theorem wc_X5_beginMoment : lw_tbl[494]? = some (.code mm_X5_beginMoment.1 mm_X5_beginMoment.2.1 mm_X5_beginMoment.2.2.1 mm_X5_beginMoment.2.2.2.1) := rfl
set_option maxRecDepth 20000 in
theorem wc_X5_kind : lw_tbl[604]? = some (.code mm_X5_kind.1 mm_X5_kind.2.1 mm_X5_kind.2.2.1 mm_X5_kind.2.2.2.1) := rfl
set_option maxRecDepth 20000 in
theorem wc_X5_isLame : lw_tbl[513]? = some (.code mm_X5_isLame.1 mm_X5_isLame.2.1 mm_X5_isLame.2.2.1 mm_X5_isLame.2.2.2.1) := rfl
set_option maxRecDepth 20000 in
theorem wc_X5_goesOn : lw_tbl[489]? = some (.code mm_X5_goesOn.1 mm_X5_goesOn.2.1 mm_X5_goesOn.2.2.1 mm_X5_goesOn.2.2.2.1) := rfl
set_option maxRecDepth 20000 in
theorem wc_X6_init : lw_tbl[71]? = some (.code mm_X6_init.1 mm_X6_init.2.1 mm_X6_init.2.2.1 mm_X6_init.2.2.2.1) := rfl
set_option maxRecDepth 20000 in
theorem wc_X6_at : lw_tbl[335]? = some (.code mm_X6_at.1 mm_X6_at.2.1 mm_X6_at.2.2.1 mm_X6_at.2.2.2.1) := rfl
set_option maxRecDepth 20000 in
theorem wc_X6_put : lw_tbl[104]? = some (.code mm_X6_put.1 mm_X6_put.2.1 mm_X6_put.2.2.1 mm_X6_put.2.2.2.1) := rfl
set_option maxRecDepth 20000 in
theorem wc_X6_add : lw_tbl[507]? = some (.code mm_X6_add.1 mm_X6_add.2.1 mm_X6_add.2.2.1 mm_X6_add.2.2.2.1) := rfl
set_option maxRecDepth 20000 in
theorem wc_X6_fill : lw_tbl[449]? = some (.code mm_X6_fill.1 mm_X6_fill.2.1 mm_X6_fill.2.2.1 mm_X6_fill.2.2.2.1) := rfl
set_option maxRecDepth 20000 in
theorem wc_X6_sum : lw_tbl[667]? = some (.code mm_X6_sum.1 mm_X6_sum.2.1 mm_X6_sum.2.2.1 mm_X6_sum.2.2.2.1) := rfl
set_option maxRecDepth 20000 in
theorem wc_X6_copyFrom : lw_tbl[683]? = some (.code mm_X6_copyFrom.1 mm_X6_copyFrom.2.1 mm_X6_copyFrom.2.2.1 mm_X6_copyFrom.2.2.2.1) := rfl
set_option maxRecDepth 20000 in
theorem wc_X7_init : lw_tbl[59]? = some (.code mm_X7_init.1 mm_X7_init.2.1 mm_X7_init.2.2.1 mm_X7_init.2.2.2.1) := rfl
set_option maxRecDepth 20000 in
theorem wc_X7_tapsOf : lw_tbl[375]? = some (.code mm_X7_tapsOf.1 mm_X7_tapsOf.2.1 mm_X7_tapsOf.2.2.1 mm_X7_tapsOf.2.2.2.1) := rfl
set_option maxRecDepth 20000 in
theorem wc_X7_copyFrom : lw_tbl[736]? = some (.code mm_X7_copyFrom.1 mm_X7_copyFrom.2.1 mm_X7_copyFrom.2.2.1 mm_X7_copyFrom.2.2.2.1) := rfl
set_option maxRecDepth 20000 in
theorem wc_X8_init : lw_tbl[65]? = some (.code mm_X8_init.1 mm_X8_init.2.1 mm_X8_init.2.2.1 mm_X8_init.2.2.2.1) := rfl
set_option maxRecDepth 20000 in
theorem wc_X8_size : lw_tbl[387]? = some (.code mm_X8_size.1 mm_X8_size.2.1 mm_X8_size.2.2.1 mm_X8_size.2.2.2.1) := rfl
set_option maxRecDepth 20000 in
theorem wc_X8_moment : lw_tbl[412]? = some (.code mm_X8_moment.1 mm_X8_moment.2.1 mm_X8_moment.2.2.1 mm_X8_moment.2.2.2.1) := rfl
set_option maxRecDepth 20000 in
theorem wc_X8_station : lw_tbl[422]? = some (.code mm_X8_station.1 mm_X8_station.2.1 mm_X8_station.2.2.1 mm_X8_station.2.2.2.1) := rfl
set_option maxRecDepth 20000 in
theorem wc_X8_way : lw_tbl[426]? = some (.code mm_X8_way.1 mm_X8_way.2.1 mm_X8_way.2.2.1 mm_X8_way.2.2.2.1) := rfl
set_option maxRecDepth 20000 in
theorem wc_X8_find : lw_tbl[382]? = some (.code mm_X8_find.1 mm_X8_find.2.1 mm_X8_find.2.2.1 mm_X8_find.2.2.2.1) := rfl
set_option maxRecDepth 20000 in
theorem wc_X8_insert : lw_tbl[391]? = some (.code mm_X8_insert.1 mm_X8_insert.2.1 mm_X8_insert.2.2.1 mm_X8_insert.2.2.2.1) := rfl
set_option maxRecDepth 20000 in
theorem wc_X8_remove : lw_tbl[404]? = some (.code mm_X8_remove.1 mm_X8_remove.2.1 mm_X8_remove.2.2.1 mm_X8_remove.2.2.2.1) := rfl
set_option maxRecDepth 20000 in
theorem wc_X8_move : lw_tbl[395]? = some (.code mm_X8_move.1 mm_X8_move.2.1 mm_X8_move.2.2.1 mm_X8_move.2.2.2.1) := rfl
set_option maxRecDepth 20000 in
theorem wc_X8_isWholeFrom : lw_tbl[454]? = some (.code mm_X8_isWholeFrom.1 mm_X8_isWholeFrom.2.1 mm_X8_isWholeFrom.2.2.1 mm_X8_isWholeFrom.2.2.2.1) := rfl
set_option maxRecDepth 20000 in
theorem wc_X8_copyFrom : lw_tbl[679]? = some (.code mm_X8_copyFrom.1 mm_X8_copyFrom.2.1 mm_X8_copyFrom.2.2.1 mm_X8_copyFrom.2.2.2.1) := rfl
set_option maxRecDepth 20000 in
theorem wc_X9_init : lw_tbl[95]? = some (.code mm_X9_init.1 mm_X9_init.2.1 mm_X9_init.2.2.1 mm_X9_init.2.2.2.1) := rfl
set_option maxRecDepth 20000 in
theorem wc_X9_zoneOf : lw_tbl[331]? = some (.code mm_X9_zoneOf.1 mm_X9_zoneOf.2.1 mm_X9_zoneOf.2.2.1 mm_X9_zoneOf.2.2.2.1) := rfl
set_option maxRecDepth 20000 in
theorem wc_X9_putZone : lw_tbl[339]? = some (.code mm_X9_putZone.1 mm_X9_putZone.2.1 mm_X9_putZone.2.2.1 mm_X9_putZone.2.2.2.1) := rfl
set_option maxRecDepth 20000 in
theorem wc_X9_valueOf : lw_tbl[350]? = some (.code mm_X9_valueOf.1 mm_X9_valueOf.2.1 mm_X9_valueOf.2.2.1 mm_X9_valueOf.2.2.2.1) := rfl
set_option maxRecDepth 20000 in
theorem wc_X9_putValue : lw_tbl[354]? = some (.code mm_X9_putValue.1 mm_X9_putValue.2.1 mm_X9_putValue.2.2.1 mm_X9_putValue.2.2.2.1) := rfl
set_option maxRecDepth 20000 in
theorem wc_X9_near : lw_tbl[485]? = some (.code mm_X9_near.1 mm_X9_near.2.1 mm_X9_near.2.2.1 mm_X9_near.2.2.2.1) := rfl
set_option maxRecDepth 20000 in
theorem wc_X9_journeyCost : lw_tbl[543]? = some (.code mm_X9_journeyCost.1 mm_X9_journeyCost.2.1 mm_X9_journeyCost.2.2.1 mm_X9_journeyCost.2.2.2.1) := rfl
set_option maxRecDepth 20000 in
theorem wc_X9_capped : lw_tbl[570]? = some (.code mm_X9_capped.1 mm_X9_capped.2.1 mm_X9_capped.2.2.1 mm_X9_capped.2.2.2.1) := rfl
set_option maxRecDepth 20000 in
theorem wc_X9_weekCost : lw_tbl[589]? = some (.code mm_X9_weekCost.1 mm_X9_weekCost.2.1 mm_X9_weekCost.2.2.1 mm_X9_weekCost.2.2.2.1) := rfl
set_option maxRecDepth 20000 in
theorem wc_X9_copyFrom : lw_tbl[741]? = some (.code mm_X9_copyFrom.1 mm_X9_copyFrom.2.1 mm_X9_copyFrom.2.2.1 mm_X9_copyFrom.2.2.2.1) := rfl
set_option maxRecDepth 20000 in
theorem wc_X10_init : lw_tbl[51]? = some (.code mm_X10_init.1 mm_X10_init.2.1 mm_X10_init.2.2.1 mm_X10_init.2.2.2.1) := rfl
set_option maxRecDepth 20000 in
theorem wc_X10_zone : lw_tbl[318]? = some (.code mm_X10_zone.1 mm_X10_zone.2.1 mm_X10_zone.2.2.1 mm_X10_zone.2.2.2.1) := rfl
set_option maxRecDepth 20000 in
theorem wc_X10_price : lw_tbl[343]? = some (.code mm_X10_price.1 mm_X10_price.2.1 mm_X10_price.2.2.1 mm_X10_price.2.2.2.1) := rfl
set_option maxRecDepth 20000 in
theorem wc_X10_tap : lw_tbl[358]? = some (.code mm_X10_tap.1 mm_X10_tap.2.1 mm_X10_tap.2.2.1 mm_X10_tap.2.2.2.1) := rfl
set_option maxRecDepth 20000 in
theorem wc_X10_untap : lw_tbl[400]? = some (.code mm_X10_untap.1 mm_X10_untap.2.1 mm_X10_untap.2.2.1 mm_X10_untap.2.2.2.1) := rfl
set_option maxRecDepth 20000 in
theorem wc_X10_told : lw_tbl[408]? = some (.code mm_X10_told.1 mm_X10_told.2.1 mm_X10_told.2.2.1 mm_X10_told.2.2.2.1) := rfl
set_option maxRecDepth 20000 in
theorem wc_X10_ride : lw_tbl[430]? = some (.code mm_X10_ride.1 mm_X10_ride.2.1 mm_X10_ride.2.2.1 mm_X10_ride.2.2.2.1) := rfl
set_option maxRecDepth 20000 in
theorem wc_X10_journey : lw_tbl[613]? = some (.code mm_X10_journey.1 mm_X10_journey.2.1 mm_X10_journey.2.2.1 mm_X10_journey.2.2.2.1) := rfl
set_option maxRecDepth 20000 in
theorem wc_X10_day : lw_tbl[626]? = some (.code mm_X10_day.1 mm_X10_day.2.1 mm_X10_day.2.2.1 mm_X10_day.2.2.2.1) := rfl
set_option maxRecDepth 20000 in
theorem wc_X10_best : lw_tbl[643]? = some (.code mm_X10_best.1 mm_X10_best.2.1 mm_X10_best.2.2.1 mm_X10_best.2.2.2.1) := rfl
set_option maxRecDepth 20000 in
theorem wc_X10_saved : lw_tbl[659]? = some (.code mm_X10_saved.1 mm_X10_saved.2.1 mm_X10_saved.2.2.1 mm_X10_saved.2.2.2.1) := rfl
set_option maxRecDepth 20000 in
theorem wc_X10_would : lw_tbl[675]? = some (.code mm_X10_would.1 mm_X10_would.2.1 mm_X10_would.2.2.1 mm_X10_would.2.2.2.1) := rfl
set_option maxRecDepth 20000 in
theorem wc_X10_bar : lw_tbl[688]? = some (.code mm_X10_bar.1 mm_X10_bar.2.1 mm_X10_bar.2.2.1 mm_X10_bar.2.2.2.1) := rfl
set_option maxRecDepth 20000 in
theorem wc_X10_hear : lw_tbl[700]? = some (.code mm_X10_hear.1 mm_X10_hear.2.1 mm_X10_hear.2.2.1 mm_X10_hear.2.2.2.1) := rfl
set_option maxRecDepth 20000 in
theorem wc_X10_pass : lw_tbl[717]? = some (.code mm_X10_pass.1 mm_X10_pass.2.1 mm_X10_pass.2.2.1 mm_X10_pass.2.2.2.1) := rfl
set_option maxRecDepth 20000 in
theorem wc_X10_image : lw_tbl[725]? = some (.code mm_X10_image.1 mm_X10_image.2.1 mm_X10_image.2.2.1 mm_X10_image.2.2.2.1) := rfl
set_option maxRecDepth 20000 in
theorem wc_X10_restore : lw_tbl[751]? = some (.code mm_X10_restore.1 mm_X10_restore.2.1 mm_X10_restore.2.2.1 mm_X10_restore.2.2.2.1) := rfl
set_option maxRecDepth 20000 in
theorem wc_X10_count : lw_tbl[755]? = some (.code mm_X10_count.1 mm_X10_count.2.1 mm_X10_count.2.2.1 mm_X10_count.2.2.2.1) := rfl
set_option maxRecDepth 20000 in
theorem wc_X10_refusalOfTap : lw_tbl[362]? = some (.code mm_X10_refusalOfTap.1 mm_X10_refusalOfTap.2.1 mm_X10_refusalOfTap.2.2.1 mm_X10_refusalOfTap.2.2.2.1) := rfl
set_option maxRecDepth 20000 in
theorem wc_X10_refusalOfPart : lw_tbl[433]? = some (.code mm_X10_refusalOfPart.1 mm_X10_refusalOfPart.2.1 mm_X10_refusalOfPart.2.2.1 mm_X10_refusalOfPart.2.2.2.1) := rfl
set_option maxRecDepth 20000 in
theorem wc_X10_reckon : lw_tbl[437]? = some (.code mm_X10_reckon.1 mm_X10_reckon.2.1 mm_X10_reckon.2.2.1 mm_X10_reckon.2.2.2.1) := rfl
set_option maxRecDepth 20000 in
theorem wc_X10_costOfAllCards : lw_tbl[767]? = some (.code mm_X10_costOfAllCards.1 mm_X10_costOfAllCards.2.1 mm_X10_costOfAllCards.2.2.1 mm_X10_costOfAllCards.2.2.2.1) := rfl
set_option maxRecDepth 20000 in
theorem wc_X10_imageOf : lw_tbl[732]? = some (.code mm_X10_imageOf.1 mm_X10_imageOf.2.1 mm_X10_imageOf.2.2.1 mm_X10_imageOf.2.2.2.1) := rfl
set_option maxRecDepth 20000 in
theorem wc_X10_isWithin : lw_tbl[324]? = some (.code mm_X10_isWithin.1 mm_X10_isWithin.2.1 mm_X10_isWithin.2.2.1 mm_X10_isWithin.2.2.2.1) := rfl
set_option maxRecDepth 20000 in
theorem wc_X10_isCard : lw_tbl[365]? = some (.code mm_X10_isCard.1 mm_X10_isCard.2.1 mm_X10_isCard.2.2.1 mm_X10_isCard.2.2.2.1) := rfl
set_option maxRecDepth 20000 in
theorem wc_X10_isStation : lw_tbl[321]? = some (.code mm_X10_isStation.1 mm_X10_isStation.2.1 mm_X10_isStation.2.2.1 mm_X10_isStation.2.2.2.1) := rfl
set_option maxRecDepth 20000 in
theorem wc_X10_isReader : lw_tbl[703]? = some (.code mm_X10_isReader.1 mm_X10_isReader.2.1 mm_X10_isReader.2.2.1 mm_X10_isReader.2.2.2.1) := rfl
set_option maxRecDepth 20000 in
theorem wc_X10_isImage : lw_tbl[728]? = some (.code mm_X10_isImage.1 mm_X10_isImage.2.1 mm_X10_isImage.2.2.1 mm_X10_isImage.2.2.2.1) := rfl
set_option maxRecDepth 20000 in
theorem wc_X10_isDay : lw_tbl[368]? = some (.code mm_X10_isDay.1 mm_X10_isDay.2.1 mm_X10_isDay.2.2.1 mm_X10_isDay.2.2.2.1) := rfl
set_option maxRecDepth 20000 in
theorem wc_X10_isMinute : lw_tbl[371]? = some (.code mm_X10_isMinute.1 mm_X10_isMinute.2.1 mm_X10_isMinute.2.2.1 mm_X10_isMinute.2.2.2.1) := rfl
set_option maxRecDepth 20000 in
theorem wc_X10_isWidth : lw_tbl[327]? = some (.code mm_X10_isWidth.1 mm_X10_isWidth.2.1 mm_X10_isWidth.2.2.1 mm_X10_isWidth.2.2.2.1) := rfl
set_option maxRecDepth 20000 in
theorem wc_X10_isPrice : lw_tbl[346]? = some (.code mm_X10_isPrice.1 mm_X10_isPrice.2.1 mm_X10_isPrice.2.2.1 mm_X10_isPrice.2.2.2.1) := rfl
set_option maxRecDepth 20000 in
theorem wc_X10_momentOf : lw_tbl[378]? = some (.code mm_X10_momentOf.1 mm_X10_momentOf.2.1 mm_X10_momentOf.2.2.1 mm_X10_momentOf.2.2.2.1) := rfl
set_option maxRecDepth 20000 in
theorem wc_X10_dayOf : lw_tbl[415]? = some (.code mm_X10_dayOf.1 mm_X10_dayOf.2.1 mm_X10_dayOf.2.2.1 mm_X10_dayOf.2.2.2.1) := rfl
set_option maxRecDepth 20000 in
theorem wc_X10_minuteOf : lw_tbl[418]? = some (.code mm_X10_minuteOf.1 mm_X10_minuteOf.2.1 mm_X10_minuteOf.2.2.1 mm_X10_minuteOf.2.2.2.1) := rfl
set_option maxRecDepth 20000 in
theorem wc_X10_isBusy : lw_tbl[539]? = some (.code mm_X10_isBusy.1 mm_X10_isBusy.2.1 mm_X10_isBusy.2.2.1 mm_X10_isBusy.2.2.2.1) := rfl
set_option maxRecDepth 20000 in
theorem wc_X11_init : lw_tbl[772]? = some (.code mm_X11_init.1 mm_X11_init.2.1 mm_X11_init.2.2.1 mm_X11_init.2.2.2.1) := rfl
set_option maxRecDepth 20000 in
theorem wc_X11_in : lw_tbl[851]? = some (.code mm_X11_in.1 mm_X11_in.2.1 mm_X11_in.2.2.1 mm_X11_in.2.2.2.1) := rfl
set_option maxRecDepth 20000 in
theorem wc_X11_isCard : lw_tbl[866]? = some (.code mm_X11_isCard.1 mm_X11_isCard.2.1 mm_X11_isCard.2.2.1 mm_X11_isCard.2.2.2.1) := rfl
set_option maxRecDepth 20000 in
theorem wc_X11_isStation : lw_tbl[848]? = some (.code mm_X11_isStation.1 mm_X11_isStation.2.1 mm_X11_isStation.2.2.1 mm_X11_isStation.2.2.2.1) := rfl
set_option maxRecDepth 20000 in
theorem wc_X11_isDay : lw_tbl[869]? = some (.code mm_X11_isDay.1 mm_X11_isDay.2.1 mm_X11_isDay.2.2.1 mm_X11_isDay.2.2.2.1) := rfl
set_option maxRecDepth 20000 in
theorem wc_X11_zone : lw_tbl[845]? = some (.code mm_X11_zone.1 mm_X11_zone.2.1 mm_X11_zone.2.2.1 mm_X11_zone.2.2.2.1) := rfl
set_option maxRecDepth 20000 in
theorem wc_X11_price : lw_tbl[855]? = some (.code mm_X11_price.1 mm_X11_price.2.1 mm_X11_price.2.2.1 mm_X11_price.2.2.2.1) := rfl
set_option maxRecDepth 20000 in
theorem wc_X11_when : lw_tbl[877]? = some (.code mm_X11_when.1 mm_X11_when.2.1 mm_X11_when.2.2.1 mm_X11_when.2.2.2.1) := rfl
set_option maxRecDepth 20000 in
theorem wc_X11_stationOf : lw_tbl[897]? = some (.code mm_X11_stationOf.1 mm_X11_stationOf.2.1 mm_X11_stationOf.2.2.1 mm_X11_stationOf.2.2.2.1) := rfl
set_option maxRecDepth 20000 in
theorem wc_X11_isIn : lw_tbl[901]? = some (.code mm_X11_isIn.1 mm_X11_isIn.2.1 mm_X11_isIn.2.2.1 mm_X11_isIn.2.2.2.1) := rfl
set_option maxRecDepth 20000 in
theorem wc_X11_tapAt : lw_tbl[873]? = some (.code mm_X11_tapAt.1 mm_X11_tapAt.2.1 mm_X11_tapAt.2.2.1 mm_X11_tapAt.2.2.2.1) := rfl
set_option maxRecDepth 20000 in
theorem wc_X11_refusal : lw_tbl[863]? = some (.code mm_X11_refusal.1 mm_X11_refusal.2.1 mm_X11_refusal.2.2.1 mm_X11_refusal.2.2.2.1) := rfl
set_option maxRecDepth 20000 in
theorem wc_X11_add : lw_tbl[881]? = some (.code mm_X11_add.1 mm_X11_add.2.1 mm_X11_add.2.2.1 mm_X11_add.2.2.2.1) := rfl
set_option maxRecDepth 20000 in
theorem wc_X11_remove : lw_tbl[889]? = some (.code mm_X11_remove.1 mm_X11_remove.2.1 mm_X11_remove.2.2.1 mm_X11_remove.2.2.2.1) := rfl
set_option maxRecDepth 20000 in
theorem wc_X11_tap : lw_tbl[859]? = some (.code mm_X11_tap.1 mm_X11_tap.2.1 mm_X11_tap.2.2.1 mm_X11_tap.2.2.2.1) := rfl
set_option maxRecDepth 20000 in
theorem wc_X11_untap : lw_tbl[885]? = some (.code mm_X11_untap.1 mm_X11_untap.2.1 mm_X11_untap.2.2.1 mm_X11_untap.2.2.2.1) := rfl
set_option maxRecDepth 20000 in
theorem wc_X11_told : lw_tbl[893]? = some (.code mm_X11_told.1 mm_X11_told.2.1 mm_X11_told.2.2.1 mm_X11_told.2.2.2.1) := rfl
set_option maxRecDepth 20000 in
theorem wc_X11_mended : lw_tbl[917]? = some (.code mm_X11_mended.1 mm_X11_mended.2.1 mm_X11_mended.2.2.1 mm_X11_mended.2.2.2.1) := rfl
set_option maxRecDepth 20000 in
theorem wc_X11_addRide : lw_tbl[921]? = some (.code mm_X11_addRide.1 mm_X11_addRide.2.1 mm_X11_addRide.2.2.1 mm_X11_addRide.2.2.2.1) := rfl
set_option maxRecDepth 20000 in
theorem wc_X11_layRides : lw_tbl[913]? = some (.code mm_X11_layRides.1 mm_X11_layRides.2.1 mm_X11_layRides.2.2.1 mm_X11_layRides.2.2.2.1) := rfl
set_option maxRecDepth 20000 in
theorem wc_X11_goesOn : lw_tbl[925]? = some (.code mm_X11_goesOn.1 mm_X11_goesOn.2.1 mm_X11_goesOn.2.2.1 mm_X11_goesOn.2.2.2.1) := rfl
set_option maxRecDepth 20000 in
theorem wc_X11_isBusy : lw_tbl[936]? = some (.code mm_X11_isBusy.1 mm_X11_isBusy.2.1 mm_X11_isBusy.2.2.1 mm_X11_isBusy.2.2.2.1) := rfl
set_option maxRecDepth 20000 in
theorem wc_X11_zoneOf : lw_tbl[933]? = some (.code mm_X11_zoneOf.1 mm_X11_zoneOf.2.1 mm_X11_zoneOf.2.2.1 mm_X11_zoneOf.2.2.2.1) := rfl
set_option maxRecDepth 20000 in
theorem wc_X11_widthOf : lw_tbl[929]? = some (.code mm_X11_widthOf.1 mm_X11_widthOf.2.1 mm_X11_widthOf.2.2.1 mm_X11_widthOf.2.2.2.1) := rfl
set_option maxRecDepth 20000 in
theorem wc_X11_layJourneys : lw_tbl[909]? = some (.code mm_X11_layJourneys.1 mm_X11_layJourneys.2.1 mm_X11_layJourneys.2.2.1 mm_X11_layJourneys.2.2.2.1) := rfl
set_option maxRecDepth 20000 in
theorem wc_X11_ride : lw_tbl[905]? = some (.code mm_X11_ride.1 mm_X11_ride.2.1 mm_X11_ride.2.2.1 mm_X11_ride.2.2.2.1) := rfl
set_option maxRecDepth 20000 in
theorem wc_X11_journey : lw_tbl[940]? = some (.code mm_X11_journey.1 mm_X11_journey.2.1 mm_X11_journey.2.2.1 mm_X11_journey.2.2.2.1) := rfl
set_option maxRecDepth 20000 in
theorem wc_X11_weekAt : lw_tbl[952]? = some (.code mm_X11_weekAt.1 mm_X11_weekAt.2.1 mm_X11_weekAt.2.2.1 mm_X11_weekAt.2.2.2.1) := rfl
set_option maxRecDepth 20000 in
theorem wc_X11_layDays : lw_tbl[948]? = some (.code mm_X11_layDays.1 mm_X11_layDays.2.1 mm_X11_layDays.2.2.1 mm_X11_layDays.2.2.2.1) := rfl
set_option maxRecDepth 20000 in
theorem wc_X11_weekOf : lw_tbl[960]? = some (.code mm_X11_weekOf.1 mm_X11_weekOf.2.1 mm_X11_weekOf.2.2.1 mm_X11_weekOf.2.2.2.1) := rfl
set_option maxRecDepth 20000 in
theorem wc_X11_isOfWeek : lw_tbl[956]? = some (.code mm_X11_isOfWeek.1 mm_X11_isOfWeek.2.1 mm_X11_isOfWeek.2.2.1 mm_X11_isOfWeek.2.2.2.1) := rfl
set_option maxRecDepth 20000 in
theorem wc_X11_day : lw_tbl[944]? = some (.code mm_X11_day.1 mm_X11_day.2.1 mm_X11_day.2.2.1 mm_X11_day.2.2.2.1) := rfl
set_option maxRecDepth 20000 in
theorem wc_X11_best : lw_tbl[964]? = some (.code mm_X11_best.1 mm_X11_best.2.1 mm_X11_best.2.2.1 mm_X11_best.2.2.2.1) := rfl
set_option maxRecDepth 20000 in
theorem wc_X11_saved : lw_tbl[968]? = some (.code mm_X11_saved.1 mm_X11_saved.2.1 mm_X11_saved.2.2.1 mm_X11_saved.2.2.2.1) := rfl
set_option maxRecDepth 20000 in
theorem wc_X11_would : lw_tbl[972]? = some (.code mm_X11_would.1 mm_X11_would.2.1 mm_X11_would.2.2.1 mm_X11_would.2.2.2.1) := rfl
set_option maxRecDepth 20000 in
theorem wc_X11_bar : lw_tbl[977]? = some (.code mm_X11_bar.1 mm_X11_bar.2.1 mm_X11_bar.2.2.1 mm_X11_bar.2.2.2.1) := rfl
set_option maxRecDepth 20000 in
theorem wc_X11_hear : lw_tbl[981]? = some (.code mm_X11_hear.1 mm_X11_hear.2.1 mm_X11_hear.2.2.1 mm_X11_hear.2.2.2.1) := rfl
set_option maxRecDepth 20000 in
theorem wc_X11_pass : lw_tbl[985]? = some (.code mm_X11_pass.1 mm_X11_pass.2.1 mm_X11_pass.2.2.1 mm_X11_pass.2.2.2.1) := rfl
set_option maxRecDepth 20000 in
theorem wc_X11_image : lw_tbl[989]? = some (.code mm_X11_image.1 mm_X11_image.2.1 mm_X11_image.2.2.1 mm_X11_image.2.2.2.1) := rfl
set_option maxRecDepth 20000 in
theorem wc_X11_restore : lw_tbl[993]? = some (.code mm_X11_restore.1 mm_X11_restore.2.1 mm_X11_restore.2.2.1 mm_X11_restore.2.2.2.1) := rfl
set_option maxRecDepth 20000 in
theorem wc_X11_lagging : lw_tbl[1001]? = some (.code mm_X11_lagging.1 mm_X11_lagging.2.1 mm_X11_lagging.2.2.1 mm_X11_lagging.2.2.2.1) := rfl
set_option maxRecDepth 20000 in
theorem wc_X11_allBest : lw_tbl[1005]? = some (.code mm_X11_allBest.1 mm_X11_allBest.2.1 mm_X11_allBest.2.2.1 mm_X11_allBest.2.2.2.1) := rfl
set_option maxRecDepth 20000 in
theorem wc_X11_count : lw_tbl[997]? = some (.code mm_X11_count.1 mm_X11_count.2.1 mm_X11_count.2.2.1 mm_X11_count.2.2.2.1) := rfl
theorem wk_X0_init : mz_chkW mm_X0_init 0 (128, 39, 127, 0) = true := by decide +kernel
theorem wk_X0_number : mz_chkW mm_X0_number 0 (696, 39, 694, 695) = true := by decide +kernel
theorem wk_X0_barred : mz_chkW mm_X0_barred 0 (759, 39, 757, 758) = true := by decide +kernel
theorem wk_X0_numberAt : mz_chkW mm_X0_numberAt 1 (707, 39, 705, 706) = true := by decide +kernel
theorem wk_X0_isBarredAt : mz_chkW mm_X0_isBarredAt 2 (721, 39, 719, 720) = true := by decide +kernel
theorem wk_X0_putBarred : mz_chkW mm_X0_putBarred 2 (692, 39, 690, 691) = true := by decide +kernel
theorem wk_X0_bringTo : mz_chkW mm_X0_bringTo 1 (712, 39, 710, 711) = true := by decide +kernel
theorem wk_X0_laggards : mz_chkW mm_X0_laggards 0 (763, 39, 761, 762) = true := by decide +kernel
theorem wk_X0_copyFrom : mz_chkW mm_X0_copyFrom 1 (746, 39, 744, 745) = true := by decide +kernel
theorem wk_X1_init : mz_chkW mm_X1_init 0 (172, 40, 171, 0) = true := by decide +kernel
theorem wk_X1_reckon : mz_chkW mm_X1_reckon 2 (441, 40, 439, 440) = true := by decide +kernel
theorem wk_X2_init : mz_chkW mm_X2_init 0 (241, 43, 240, 0) = true := by decide +kernel
theorem wk_X2_build : mz_chkW mm_X2_build 2 (547, 43, 545, 546) = true := by decide +kernel
theorem wk_X2_sum : mz_chkW mm_X2_sum 1 (630, 43, 628, 629) = true := by decide +kernel
theorem wk_X2_width : mz_chkW mm_X2_width 1 (634, 43, 632, 633) = true := by decide +kernel
theorem wk_X2_owed : mz_chkW mm_X2_owed 1 (580, 43, 578, 579) = true := by decide +kernel
theorem wk_X2_allSums : mz_chkW mm_X2_allSums 0 (671, 43, 669, 670) = true := by decide +kernel
theorem wk_X2_allOwed : mz_chkW mm_X2_allOwed 0 (663, 43, 661, 662) = true := by decide +kernel
theorem wk_X2_widthOfWeek : mz_chkW mm_X2_widthOfWeek 1 (585, 43, 583, 584) = true := by decide +kernel
theorem wk_X3_init : mz_chkW mm_X3_init 0 (211, 42, 210, 0) = true := by decide +kernel
theorem wk_X3_build : mz_chkW mm_X3_build 2 (476, 42, 474, 475) = true := by decide +kernel
theorem wk_X3_open : mz_chkW mm_X3_open 1 (498, 42, 497, 6) = true := by decide +kernel
theorem wk_X3_takeRide : mz_chkW mm_X3_takeRide 3 (503, 42, 502, 7) = true := by decide +kernel
theorem wk_X3_takeZone : mz_chkW mm_X3_takeZone 2 (517, 42, 516, 8) = true := by decide +kernel
theorem wk_X3_size : mz_chkW mm_X3_size 0 (552, 42, 550, 551) = true := by decide +kernel
theorem wk_X3_moment : mz_chkW mm_X3_moment 1 (556, 42, 554, 555) = true := by decide +kernel
theorem wk_X3_ridesIn : mz_chkW mm_X3_ridesIn 1 (619, 42, 617, 618) = true := by decide +kernel
theorem wk_X3_width : mz_chkW mm_X3_width 1 (536, 42, 534, 535) = true := by decide +kernel
theorem wk_X3_cost : mz_chkW mm_X3_cost 1 (561, 42, 559, 560) = true := by decide +kernel
theorem wk_X3_journeyOfRide : mz_chkW mm_X3_journeyOfRide 1 (609, 42, 607, 608) = true := by decide +kernel
theorem wk_X4_init : mz_chkW mm_X4_init 0 (259, 44, 258, 0) = true := by decide +kernel
theorem wk_X4_build : mz_chkW mm_X4_build 2 (575, 44, 573, 574) = true := by decide +kernel
theorem wk_X4_weighWeek : mz_chkW mm_X4_weighWeek 2 (593, 44, 592, 9) = true := by decide +kernel
theorem wk_X4_markWeeks : mz_chkW mm_X4_markWeeks 0 (597, 44, 596, 10) = true := by decide +kernel
theorem wk_X4_cost : mz_chkW mm_X4_cost 0 (647, 44, 645, 646) = true := by decide +kernel
theorem wk_X4_weeks : mz_chkW mm_X4_weeks 0 (651, 44, 649, 650) = true := by decide +kernel
theorem wk_X4_start : mz_chkW mm_X4_start 1 (655, 44, 653, 654) = true := by decide +kernel
theorem wk_X4_isInWeek : mz_chkW mm_X4_isInWeek 1 (639, 44, 637, 638) = true := by decide +kernel
theorem wk_X5_init : mz_chkW mm_X5_init 0 (178, 41, 177, 0) = true := by decide +kernel
theorem wk_X5_build : mz_chkW mm_X5_build 1 (445, 41, 443, 444) = true := by decide +kernel
theorem wk_X5_addWhole : mz_chkW mm_X5_addWhole 2 (459, 41, 458, 3) = true := by decide +kernel
theorem wk_X5_addLacking : mz_chkW mm_X5_addLacking 2 (470, 41, 469, 5) = true := by decide +kernel
theorem wk_X5_addRide : mz_chkW mm_X5_addRide 5 (466, 41, 465, 4) = true := by decide +kernel
theorem wk_X5_size : mz_chkW mm_X5_size 0 (480, 41, 478, 479) = true := by decide +kernel
theorem wk_X5_beginStation : mz_chkW mm_X5_beginStation 1 (527, 41, 525, 526) = true := by decide +kernel
theorem wk_X5_endStation : mz_chkW mm_X5_endStation 1 (532, 41, 530, 531) = true := by decide +kernel
theorem wk_X5_beginMoment : mz_chkW mm_X5_beginMoment 1 (494, 41, 492, 493) = true := by decide +kernel
theorem wk_X5_kind : mz_chkW mm_X5_kind 1 (604, 41, 602, 603) = true := by decide +kernel
theorem wk_X5_isLame : mz_chkW mm_X5_isLame 1 (513, 41, 511, 512) = true := by decide +kernel
theorem wk_X5_goesOn : mz_chkW mm_X5_goesOn 2 (489, 41, 487, 488) = true := by decide +kernel
theorem wk_X6_init : mz_chkW mm_X6_init 1 (71, 37, 70, 0) = true := by decide +kernel
theorem wk_X6_at : mz_chkW mm_X6_at 1 (335, 37, 333, 334) = true := by decide +kernel
theorem wk_X6_put : mz_chkW mm_X6_put 2 (104, 37, 102, 103) = true := by decide +kernel
theorem wk_X6_add : mz_chkW mm_X6_add 2 (507, 37, 505, 506) = true := by decide +kernel
theorem wk_X6_fill : mz_chkW mm_X6_fill 1 (449, 37, 447, 448) = true := by decide +kernel
theorem wk_X6_sum : mz_chkW mm_X6_sum 0 (667, 37, 665, 666) = true := by decide +kernel
theorem wk_X6_copyFrom : mz_chkW mm_X6_copyFrom 1 (683, 37, 681, 682) = true := by decide +kernel
theorem wk_X7_init : mz_chkW mm_X7_init 0 (59, 35, 58, 0) = true := by decide +kernel
theorem wk_X7_tapsOf : mz_chkW mm_X7_tapsOf 1 (375, 35, 373, 374) = true := by decide +kernel
theorem wk_X7_copyFrom : mz_chkW mm_X7_copyFrom 1 (736, 35, 734, 735) = true := by decide +kernel
theorem wk_X8_init : mz_chkW mm_X8_init 0 (65, 36, 64, 0) = true := by decide +kernel
theorem wk_X8_size : mz_chkW mm_X8_size 0 (387, 36, 385, 386) = true := by decide +kernel
theorem wk_X8_moment : mz_chkW mm_X8_moment 1 (412, 36, 410, 411) = true := by decide +kernel
theorem wk_X8_station : mz_chkW mm_X8_station 1 (422, 36, 420, 421) = true := by decide +kernel
theorem wk_X8_way : mz_chkW mm_X8_way 1 (426, 36, 424, 425) = true := by decide +kernel
theorem wk_X8_find : mz_chkW mm_X8_find 1 (382, 36, 380, 381) = true := by decide +kernel
theorem wk_X8_insert : mz_chkW mm_X8_insert 3 (391, 36, 389, 390) = true := by decide +kernel
theorem wk_X8_remove : mz_chkW mm_X8_remove 1 (404, 36, 402, 403) = true := by decide +kernel
theorem wk_X8_move : mz_chkW mm_X8_move 2 (395, 36, 394, 1) = true := by decide +kernel
theorem wk_X8_isWholeFrom : mz_chkW mm_X8_isWholeFrom 1 (454, 36, 452, 453) = true := by decide +kernel
theorem wk_X8_copyFrom : mz_chkW mm_X8_copyFrom 1 (679, 36, 677, 678) = true := by decide +kernel
theorem wk_X9_init : mz_chkW mm_X9_init 0 (95, 38, 94, 0) = true := by decide +kernel
theorem wk_X9_zoneOf : mz_chkW mm_X9_zoneOf 1 (331, 38, 329, 330) = true := by decide +kernel
theorem wk_X9_putZone : mz_chkW mm_X9_putZone 2 (339, 38, 337, 338) = true := by decide +kernel
theorem wk_X9_valueOf : mz_chkW mm_X9_valueOf 2 (350, 38, 348, 349) = true := by decide +kernel
theorem wk_X9_putValue : mz_chkW mm_X9_putValue 3 (354, 38, 352, 353) = true := by decide +kernel
theorem wk_X9_near : mz_chkW mm_X9_near 0 (485, 38, 483, 484) = true := by decide +kernel
theorem wk_X9_journeyCost : mz_chkW mm_X9_journeyCost 2 (543, 38, 541, 542) = true := by decide +kernel
theorem wk_X9_capped : mz_chkW mm_X9_capped 2 (570, 38, 568, 569) = true := by decide +kernel
theorem wk_X9_weekCost : mz_chkW mm_X9_weekCost 1 (589, 38, 587, 588) = true := by decide +kernel
theorem wk_X9_copyFrom : mz_chkW mm_X9_copyFrom 1 (741, 38, 739, 740) = true := by decide +kernel
theorem wk_X10_init : mz_chkW mm_X10_init 0 (51, 34, 50, 0) = true := by decide +kernel
theorem wk_X10_zone : mz_chkW mm_X10_zone 2 (318, 34, 316, 317) = true := by decide +kernel
theorem wk_X10_price : mz_chkW mm_X10_price 3 (343, 34, 341, 342) = true := by decide +kernel
theorem wk_X10_tap : mz_chkW mm_X10_tap 5 (358, 34, 356, 357) = true := by decide +kernel
theorem wk_X10_untap : mz_chkW mm_X10_untap 3 (400, 34, 398, 399) = true := by decide +kernel
theorem wk_X10_told : mz_chkW mm_X10_told 3 (408, 34, 406, 407) = true := by decide +kernel
theorem wk_X10_ride : mz_chkW mm_X10_ride 3 (430, 34, 428, 429) = true := by decide +kernel
theorem wk_X10_journey : mz_chkW mm_X10_journey 3 (613, 34, 611, 612) = true := by decide +kernel
theorem wk_X10_day : mz_chkW mm_X10_day 3 (626, 34, 624, 625) = true := by decide +kernel
theorem wk_X10_best : mz_chkW mm_X10_best 2 (643, 34, 641, 642) = true := by decide +kernel
theorem wk_X10_saved : mz_chkW mm_X10_saved 2 (659, 34, 657, 658) = true := by decide +kernel
theorem wk_X10_would : mz_chkW mm_X10_would 5 (675, 34, 673, 674) = true := by decide +kernel
theorem wk_X10_bar : mz_chkW mm_X10_bar 2 (688, 34, 686, 687) = true := by decide +kernel
theorem wk_X10_hear : mz_chkW mm_X10_hear 1 (700, 34, 698, 699) = true := by decide +kernel
theorem wk_X10_pass : mz_chkW mm_X10_pass 2 (717, 34, 715, 716) = true := by decide +kernel
theorem wk_X10_image : mz_chkW mm_X10_image 1 (725, 34, 723, 724) = true := by decide +kernel
theorem wk_X10_restore : mz_chkW mm_X10_restore 1 (751, 34, 749, 750) = true := by decide +kernel
theorem wk_X10_count : mz_chkW mm_X10_count 1 (755, 34, 753, 754) = true := by decide +kernel
theorem wk_X10_refusalOfTap : mz_chkW mm_X10_refusalOfTap 5 (362, 34, 361, 0) = true := by decide +kernel
theorem wk_X10_refusalOfPart : mz_chkW mm_X10_refusalOfPart 3 (433, 34, 432, 0) = true := by decide +kernel
theorem wk_X10_reckon : mz_chkW mm_X10_reckon 1 (437, 34, 436, 2) = true := by decide +kernel
theorem wk_X10_costOfAllCards : mz_chkW mm_X10_costOfAllCards 0 (767, 34, 766, 12) = true := by decide +kernel
theorem wk_X10_imageOf : mz_chkW mm_X10_imageOf 1 (732, 34, 731, 11) = true := by decide +kernel
theorem wk_X10_isWithin : mz_chkW mm_X10_isWithin 3 (324, 34, 323, 0) = true := by decide +kernel
theorem wk_X10_isCard : mz_chkW mm_X10_isCard 1 (365, 34, 364, 0) = true := by decide +kernel
theorem wk_X10_isStation : mz_chkW mm_X10_isStation 1 (321, 34, 320, 0) = true := by decide +kernel
theorem wk_X10_isReader : mz_chkW mm_X10_isReader 1 (703, 34, 702, 0) = true := by decide +kernel
theorem wk_X10_isImage : mz_chkW mm_X10_isImage 1 (728, 34, 727, 0) = true := by decide +kernel
theorem wk_X10_isDay : mz_chkW mm_X10_isDay 1 (368, 34, 367, 0) = true := by decide +kernel
theorem wk_X10_isMinute : mz_chkW mm_X10_isMinute 1 (371, 34, 370, 0) = true := by decide +kernel
theorem wk_X10_isWidth : mz_chkW mm_X10_isWidth 1 (327, 34, 326, 0) = true := by decide +kernel
theorem wk_X10_isPrice : mz_chkW mm_X10_isPrice 3 (346, 34, 345, 0) = true := by decide +kernel
theorem wk_X10_momentOf : mz_chkW mm_X10_momentOf 2 (378, 34, 377, 0) = true := by decide +kernel
theorem wk_X10_dayOf : mz_chkW mm_X10_dayOf 1 (415, 34, 414, 0) = true := by decide +kernel
theorem wk_X10_minuteOf : mz_chkW mm_X10_minuteOf 1 (418, 34, 417, 0) = true := by decide +kernel
theorem wk_X10_isBusy : mz_chkW mm_X10_isBusy 1 (539, 34, 538, 0) = true := by decide +kernel
theorem wk_X11_init : mz_chkW mm_X11_init 0 (772, 45, 771, 0) = true := by decide +kernel
theorem wk_X11_in : mz_chkW mm_X11_in 3 (851, 45, 850, 0) = true := by decide +kernel
theorem wk_X11_isCard : mz_chkW mm_X11_isCard 1 (866, 45, 865, 0) = true := by decide +kernel
theorem wk_X11_isStation : mz_chkW mm_X11_isStation 1 (848, 45, 847, 0) = true := by decide +kernel
theorem wk_X11_isDay : mz_chkW mm_X11_isDay 1 (869, 45, 868, 0) = true := by decide +kernel
theorem wk_X11_zone : mz_chkW mm_X11_zone 2 (845, 45, 843, 844) = true := by decide +kernel
theorem wk_X11_price : mz_chkW mm_X11_price 3 (855, 45, 853, 854) = true := by decide +kernel
theorem wk_X11_when : mz_chkW mm_X11_when 2 (877, 45, 876, 15) = true := by decide +kernel
theorem wk_X11_stationOf : mz_chkW mm_X11_stationOf 2 (897, 45, 896, 18) = true := by decide +kernel
theorem wk_X11_isIn : mz_chkW mm_X11_isIn 2 (901, 45, 900, 19) = true := by decide +kernel
theorem wk_X11_tapAt : mz_chkW mm_X11_tapAt 2 (873, 45, 872, 14) = true := by decide +kernel
theorem wk_X11_refusal : mz_chkW mm_X11_refusal 5 (863, 45, 862, 13) = true := by decide +kernel
theorem wk_X11_add : mz_chkW mm_X11_add 3 (881, 45, 880, 16) = true := by decide +kernel
theorem wk_X11_remove : mz_chkW mm_X11_remove 2 (889, 45, 888, 17) = true := by decide +kernel
theorem wk_X11_tap : mz_chkW mm_X11_tap 5 (859, 45, 857, 858) = true := by decide +kernel
theorem wk_X11_untap : mz_chkW mm_X11_untap 3 (885, 45, 883, 884) = true := by decide +kernel
theorem wk_X11_told : mz_chkW mm_X11_told 3 (893, 45, 891, 892) = true := by decide +kernel
theorem wk_X11_mended : mz_chkW mm_X11_mended 2 (917, 45, 916, 22) = true := by decide +kernel
theorem wk_X11_addRide : mz_chkW mm_X11_addRide 5 (921, 45, 920, 23) = true := by decide +kernel
theorem wk_X11_layRides : mz_chkW mm_X11_layRides 1 (913, 45, 912, 21) = true := by decide +kernel
theorem wk_X11_goesOn : mz_chkW mm_X11_goesOn 1 (925, 45, 924, 24) = true := by decide +kernel
theorem wk_X11_isBusy : mz_chkW mm_X11_isBusy 1 (936, 45, 935, 0) = true := by decide +kernel
theorem wk_X11_zoneOf : mz_chkW mm_X11_zoneOf 1 (933, 45, 932, 26) = true := by decide +kernel
theorem wk_X11_widthOf : mz_chkW mm_X11_widthOf 1 (929, 45, 928, 25) = true := by decide +kernel
theorem wk_X11_layJourneys : mz_chkW mm_X11_layJourneys 1 (909, 45, 908, 20) = true := by decide +kernel
theorem wk_X11_ride : mz_chkW mm_X11_ride 3 (905, 45, 903, 904) = true := by decide +kernel
theorem wk_X11_journey : mz_chkW mm_X11_journey 3 (940, 45, 938, 939) = true := by decide +kernel
theorem wk_X11_weekAt : mz_chkW mm_X11_weekAt 1 (952, 45, 951, 28) = true := by decide +kernel
theorem wk_X11_layDays : mz_chkW mm_X11_layDays 1 (948, 45, 947, 27) = true := by decide +kernel
theorem wk_X11_weekOf : mz_chkW mm_X11_weekOf 1 (960, 45, 959, 30) = true := by decide +kernel
theorem wk_X11_isOfWeek : mz_chkW mm_X11_isOfWeek 1 (956, 45, 955, 29) = true := by decide +kernel
theorem wk_X11_day : mz_chkW mm_X11_day 3 (944, 45, 942, 943) = true := by decide +kernel
theorem wk_X11_best : mz_chkW mm_X11_best 2 (964, 45, 962, 963) = true := by decide +kernel
theorem wk_X11_saved : mz_chkW mm_X11_saved 2 (968, 45, 966, 967) = true := by decide +kernel
theorem wk_X11_would : mz_chkW mm_X11_would 5 (972, 45, 970, 971) = true := by decide +kernel
theorem wk_X11_bar : mz_chkW mm_X11_bar 2 (977, 45, 975, 976) = true := by decide +kernel
theorem wk_X11_hear : mz_chkW mm_X11_hear 1 (981, 45, 979, 980) = true := by decide +kernel
theorem wk_X11_pass : mz_chkW mm_X11_pass 2 (985, 45, 983, 984) = true := by decide +kernel
theorem wk_X11_image : mz_chkW mm_X11_image 1 (989, 45, 987, 988) = true := by decide +kernel
theorem wk_X11_restore : mz_chkW mm_X11_restore 1 (993, 45, 991, 992) = true := by decide +kernel
theorem wk_X11_lagging : mz_chkW mm_X11_lagging 0 (1001, 45, 1000, 31) = true := by decide +kernel
theorem wk_X11_allBest : mz_chkW mm_X11_allBest 0 (1005, 45, 1004, 32) = true := by decide +kernel
theorem wk_X11_count : mz_chkW mm_X11_count 1 (997, 45, 995, 996) = true := by decide +kernel
set_option maxRecDepth 20000 in
theorem mz_codes : ∀ M ∈ mz_tab, Cond.code M.1 M.2.1 M.2.2.1 M.2.2.2.1 ∈ lw_tbl := by
  unfold mz_tab
  exact List.forall_mem_cons.mpr ⟨List.mem_of_getElem? wc_X0_init, List.forall_mem_cons.mpr ⟨List.mem_of_getElem? wc_X0_number, List.forall_mem_cons.mpr ⟨List.mem_of_getElem? wc_X0_barred, List.forall_mem_cons.mpr ⟨List.mem_of_getElem? wc_X0_numberAt, List.forall_mem_cons.mpr ⟨List.mem_of_getElem? wc_X0_isBarredAt, List.forall_mem_cons.mpr ⟨List.mem_of_getElem? wc_X0_putBarred, List.forall_mem_cons.mpr ⟨List.mem_of_getElem? wc_X0_bringTo, List.forall_mem_cons.mpr ⟨List.mem_of_getElem? wc_X0_laggards, List.forall_mem_cons.mpr ⟨List.mem_of_getElem? wc_X0_copyFrom, List.forall_mem_cons.mpr ⟨List.mem_of_getElem? wc_X1_init, List.forall_mem_cons.mpr ⟨List.mem_of_getElem? wc_X1_reckon, List.forall_mem_cons.mpr ⟨List.mem_of_getElem? wc_X2_init, List.forall_mem_cons.mpr ⟨List.mem_of_getElem? wc_X2_build, List.forall_mem_cons.mpr ⟨List.mem_of_getElem? wc_X2_sum, List.forall_mem_cons.mpr ⟨List.mem_of_getElem? wc_X2_width, List.forall_mem_cons.mpr ⟨List.mem_of_getElem? wc_X2_owed, List.forall_mem_cons.mpr ⟨List.mem_of_getElem? wc_X2_allSums, List.forall_mem_cons.mpr ⟨List.mem_of_getElem? wc_X2_allOwed, List.forall_mem_cons.mpr ⟨List.mem_of_getElem? wc_X2_widthOfWeek, List.forall_mem_cons.mpr ⟨List.mem_of_getElem? wc_X3_init, List.forall_mem_cons.mpr ⟨List.mem_of_getElem? wc_X3_build, List.forall_mem_cons.mpr ⟨List.mem_of_getElem? wc_X3_open, List.forall_mem_cons.mpr ⟨List.mem_of_getElem? wc_X3_takeRide, List.forall_mem_cons.mpr ⟨List.mem_of_getElem? wc_X3_takeZone, List.forall_mem_cons.mpr ⟨List.mem_of_getElem? wc_X3_size, List.forall_mem_cons.mpr ⟨List.mem_of_getElem? wc_X3_moment, List.forall_mem_cons.mpr ⟨List.mem_of_getElem? wc_X3_ridesIn, List.forall_mem_cons.mpr ⟨List.mem_of_getElem? wc_X3_width, List.forall_mem_cons.mpr ⟨List.mem_of_getElem? wc_X3_cost, List.forall_mem_cons.mpr ⟨List.mem_of_getElem? wc_X3_journeyOfRide, List.forall_mem_cons.mpr ⟨List.mem_of_getElem? wc_X4_init, List.forall_mem_cons.mpr ⟨List.mem_of_getElem? wc_X4_build, List.forall_mem_cons.mpr ⟨List.mem_of_getElem? wc_X4_weighWeek, List.forall_mem_cons.mpr ⟨List.mem_of_getElem? wc_X4_markWeeks, List.forall_mem_cons.mpr ⟨List.mem_of_getElem? wc_X4_cost, List.forall_mem_cons.mpr ⟨List.mem_of_getElem? wc_X4_weeks, List.forall_mem_cons.mpr ⟨List.mem_of_getElem? wc_X4_start, List.forall_mem_cons.mpr ⟨List.mem_of_getElem? wc_X4_isInWeek, List.forall_mem_cons.mpr ⟨List.mem_of_getElem? wc_X5_init, List.forall_mem_cons.mpr ⟨List.mem_of_getElem? wc_X5_build, List.forall_mem_cons.mpr ⟨List.mem_of_getElem? wc_X5_addWhole, List.forall_mem_cons.mpr ⟨List.mem_of_getElem? wc_X5_addLacking, List.forall_mem_cons.mpr ⟨List.mem_of_getElem? wc_X5_addRide, List.forall_mem_cons.mpr ⟨List.mem_of_getElem? wc_X5_size, List.forall_mem_cons.mpr ⟨List.mem_of_getElem? wc_X5_beginStation, List.forall_mem_cons.mpr ⟨List.mem_of_getElem? wc_X5_endStation, List.forall_mem_cons.mpr ⟨List.mem_of_getElem? wc_X5_beginMoment, List.forall_mem_cons.mpr ⟨List.mem_of_getElem? wc_X5_kind, List.forall_mem_cons.mpr ⟨List.mem_of_getElem? wc_X5_isLame, List.forall_mem_cons.mpr ⟨List.mem_of_getElem? wc_X5_goesOn, List.forall_mem_cons.mpr ⟨List.mem_of_getElem? wc_X6_init, List.forall_mem_cons.mpr ⟨List.mem_of_getElem? wc_X6_at, List.forall_mem_cons.mpr ⟨List.mem_of_getElem? wc_X6_put, List.forall_mem_cons.mpr ⟨List.mem_of_getElem? wc_X6_add, List.forall_mem_cons.mpr ⟨List.mem_of_getElem? wc_X6_fill, List.forall_mem_cons.mpr ⟨List.mem_of_getElem? wc_X6_sum, List.forall_mem_cons.mpr ⟨List.mem_of_getElem? wc_X6_copyFrom, List.forall_mem_cons.mpr ⟨List.mem_of_getElem? wc_X7_init, List.forall_mem_cons.mpr ⟨List.mem_of_getElem? wc_X7_tapsOf, List.forall_mem_cons.mpr ⟨List.mem_of_getElem? wc_X7_copyFrom, List.forall_mem_cons.mpr ⟨List.mem_of_getElem? wc_X8_init, List.forall_mem_cons.mpr ⟨List.mem_of_getElem? wc_X8_size, List.forall_mem_cons.mpr ⟨List.mem_of_getElem? wc_X8_moment, List.forall_mem_cons.mpr ⟨List.mem_of_getElem? wc_X8_station, List.forall_mem_cons.mpr ⟨List.mem_of_getElem? wc_X8_way, List.forall_mem_cons.mpr ⟨List.mem_of_getElem? wc_X8_find, List.forall_mem_cons.mpr ⟨List.mem_of_getElem? wc_X8_insert, List.forall_mem_cons.mpr ⟨List.mem_of_getElem? wc_X8_remove, List.forall_mem_cons.mpr ⟨List.mem_of_getElem? wc_X8_move, List.forall_mem_cons.mpr ⟨List.mem_of_getElem? wc_X8_isWholeFrom, List.forall_mem_cons.mpr ⟨List.mem_of_getElem? wc_X8_copyFrom, List.forall_mem_cons.mpr ⟨List.mem_of_getElem? wc_X9_init, List.forall_mem_cons.mpr ⟨List.mem_of_getElem? wc_X9_zoneOf, List.forall_mem_cons.mpr ⟨List.mem_of_getElem? wc_X9_putZone, List.forall_mem_cons.mpr ⟨List.mem_of_getElem? wc_X9_valueOf, List.forall_mem_cons.mpr ⟨List.mem_of_getElem? wc_X9_putValue, List.forall_mem_cons.mpr ⟨List.mem_of_getElem? wc_X9_near, List.forall_mem_cons.mpr ⟨List.mem_of_getElem? wc_X9_journeyCost, List.forall_mem_cons.mpr ⟨List.mem_of_getElem? wc_X9_capped, List.forall_mem_cons.mpr ⟨List.mem_of_getElem? wc_X9_weekCost, List.forall_mem_cons.mpr ⟨List.mem_of_getElem? wc_X9_copyFrom, List.forall_mem_cons.mpr ⟨List.mem_of_getElem? wc_X10_init, List.forall_mem_cons.mpr ⟨List.mem_of_getElem? wc_X10_zone, List.forall_mem_cons.mpr ⟨List.mem_of_getElem? wc_X10_price, List.forall_mem_cons.mpr ⟨List.mem_of_getElem? wc_X10_tap, List.forall_mem_cons.mpr ⟨List.mem_of_getElem? wc_X10_untap, List.forall_mem_cons.mpr ⟨List.mem_of_getElem? wc_X10_told, List.forall_mem_cons.mpr ⟨List.mem_of_getElem? wc_X10_ride, List.forall_mem_cons.mpr ⟨List.mem_of_getElem? wc_X10_journey, List.forall_mem_cons.mpr ⟨List.mem_of_getElem? wc_X10_day, List.forall_mem_cons.mpr ⟨List.mem_of_getElem? wc_X10_best, List.forall_mem_cons.mpr ⟨List.mem_of_getElem? wc_X10_saved, List.forall_mem_cons.mpr ⟨List.mem_of_getElem? wc_X10_would, List.forall_mem_cons.mpr ⟨List.mem_of_getElem? wc_X10_bar, List.forall_mem_cons.mpr ⟨List.mem_of_getElem? wc_X10_hear, List.forall_mem_cons.mpr ⟨List.mem_of_getElem? wc_X10_pass, List.forall_mem_cons.mpr ⟨List.mem_of_getElem? wc_X10_image, List.forall_mem_cons.mpr ⟨List.mem_of_getElem? wc_X10_restore, List.forall_mem_cons.mpr ⟨List.mem_of_getElem? wc_X10_count, List.forall_mem_cons.mpr ⟨List.mem_of_getElem? wc_X10_refusalOfTap, List.forall_mem_cons.mpr ⟨List.mem_of_getElem? wc_X10_refusalOfPart, List.forall_mem_cons.mpr ⟨List.mem_of_getElem? wc_X10_reckon, List.forall_mem_cons.mpr ⟨List.mem_of_getElem? wc_X10_costOfAllCards, List.forall_mem_cons.mpr ⟨List.mem_of_getElem? wc_X10_imageOf, List.forall_mem_cons.mpr ⟨List.mem_of_getElem? wc_X10_isWithin, List.forall_mem_cons.mpr ⟨List.mem_of_getElem? wc_X10_isCard, List.forall_mem_cons.mpr ⟨List.mem_of_getElem? wc_X10_isStation, List.forall_mem_cons.mpr ⟨List.mem_of_getElem? wc_X10_isReader, List.forall_mem_cons.mpr ⟨List.mem_of_getElem? wc_X10_isImage, List.forall_mem_cons.mpr ⟨List.mem_of_getElem? wc_X10_isDay, List.forall_mem_cons.mpr ⟨List.mem_of_getElem? wc_X10_isMinute, List.forall_mem_cons.mpr ⟨List.mem_of_getElem? wc_X10_isWidth, List.forall_mem_cons.mpr ⟨List.mem_of_getElem? wc_X10_isPrice, List.forall_mem_cons.mpr ⟨List.mem_of_getElem? wc_X10_momentOf, List.forall_mem_cons.mpr ⟨List.mem_of_getElem? wc_X10_dayOf, List.forall_mem_cons.mpr ⟨List.mem_of_getElem? wc_X10_minuteOf, List.forall_mem_cons.mpr ⟨List.mem_of_getElem? wc_X10_isBusy, List.forall_mem_cons.mpr ⟨List.mem_of_getElem? wc_X11_init, List.forall_mem_cons.mpr ⟨List.mem_of_getElem? wc_X11_in, List.forall_mem_cons.mpr ⟨List.mem_of_getElem? wc_X11_isCard, List.forall_mem_cons.mpr ⟨List.mem_of_getElem? wc_X11_isStation, List.forall_mem_cons.mpr ⟨List.mem_of_getElem? wc_X11_isDay, List.forall_mem_cons.mpr ⟨List.mem_of_getElem? wc_X11_zone, List.forall_mem_cons.mpr ⟨List.mem_of_getElem? wc_X11_price, List.forall_mem_cons.mpr ⟨List.mem_of_getElem? wc_X11_when, List.forall_mem_cons.mpr ⟨List.mem_of_getElem? wc_X11_stationOf, List.forall_mem_cons.mpr ⟨List.mem_of_getElem? wc_X11_isIn, List.forall_mem_cons.mpr ⟨List.mem_of_getElem? wc_X11_tapAt, List.forall_mem_cons.mpr ⟨List.mem_of_getElem? wc_X11_refusal, List.forall_mem_cons.mpr ⟨List.mem_of_getElem? wc_X11_add, List.forall_mem_cons.mpr ⟨List.mem_of_getElem? wc_X11_remove, List.forall_mem_cons.mpr ⟨List.mem_of_getElem? wc_X11_tap, List.forall_mem_cons.mpr ⟨List.mem_of_getElem? wc_X11_untap, List.forall_mem_cons.mpr ⟨List.mem_of_getElem? wc_X11_told, List.forall_mem_cons.mpr ⟨List.mem_of_getElem? wc_X11_mended, List.forall_mem_cons.mpr ⟨List.mem_of_getElem? wc_X11_addRide, List.forall_mem_cons.mpr ⟨List.mem_of_getElem? wc_X11_layRides, List.forall_mem_cons.mpr ⟨List.mem_of_getElem? wc_X11_goesOn, List.forall_mem_cons.mpr ⟨List.mem_of_getElem? wc_X11_isBusy, List.forall_mem_cons.mpr ⟨List.mem_of_getElem? wc_X11_zoneOf, List.forall_mem_cons.mpr ⟨List.mem_of_getElem? wc_X11_widthOf, List.forall_mem_cons.mpr ⟨List.mem_of_getElem? wc_X11_layJourneys, List.forall_mem_cons.mpr ⟨List.mem_of_getElem? wc_X11_ride, List.forall_mem_cons.mpr ⟨List.mem_of_getElem? wc_X11_journey, List.forall_mem_cons.mpr ⟨List.mem_of_getElem? wc_X11_weekAt, List.forall_mem_cons.mpr ⟨List.mem_of_getElem? wc_X11_layDays, List.forall_mem_cons.mpr ⟨List.mem_of_getElem? wc_X11_weekOf, List.forall_mem_cons.mpr ⟨List.mem_of_getElem? wc_X11_isOfWeek, List.forall_mem_cons.mpr ⟨List.mem_of_getElem? wc_X11_day, List.forall_mem_cons.mpr ⟨List.mem_of_getElem? wc_X11_best, List.forall_mem_cons.mpr ⟨List.mem_of_getElem? wc_X11_saved, List.forall_mem_cons.mpr ⟨List.mem_of_getElem? wc_X11_would, List.forall_mem_cons.mpr ⟨List.mem_of_getElem? wc_X11_bar, List.forall_mem_cons.mpr ⟨List.mem_of_getElem? wc_X11_hear, List.forall_mem_cons.mpr ⟨List.mem_of_getElem? wc_X11_pass, List.forall_mem_cons.mpr ⟨List.mem_of_getElem? wc_X11_image, List.forall_mem_cons.mpr ⟨List.mem_of_getElem? wc_X11_restore, List.forall_mem_cons.mpr ⟨List.mem_of_getElem? wc_X11_lagging, List.forall_mem_cons.mpr ⟨List.mem_of_getElem? wc_X11_allBest, List.forall_mem_cons.mpr ⟨List.mem_of_getElem? wc_X11_count, fun _ h => absurd h List.not_mem_nil⟩⟩⟩⟩⟩⟩⟩⟩⟩⟩⟩⟩⟩⟩⟩⟩⟩⟩⟩⟩⟩⟩⟩⟩⟩⟩⟩⟩⟩⟩⟩⟩⟩⟩⟩⟩⟩⟩⟩⟩⟩⟩⟩⟩⟩⟩⟩⟩⟩⟩⟩⟩⟩⟩⟩⟩⟩⟩⟩⟩⟩⟩⟩⟩⟩⟩⟩⟩⟩⟩⟩⟩⟩⟩⟩⟩⟩⟩⟩⟩⟩⟩⟩⟩⟩⟩⟩⟩⟩⟩⟩⟩⟩⟩⟩⟩⟩⟩⟩⟩⟩⟩⟩⟩⟩⟩⟩⟩⟩⟩⟩⟩⟩⟩⟩⟩⟩⟩⟩⟩⟩⟩⟩⟩⟩⟩⟩⟩⟩⟩⟩⟩⟩⟩⟩⟩⟩⟩⟩⟩⟩⟩⟩⟩⟩⟩⟩⟩⟩⟩⟩⟩⟩⟩⟩⟩⟩⟩⟩⟩
set_option maxRecDepth 20000 in
theorem mz_Wok : ∀ q ∈ mz_tab.zip mz_np, ∃ p, mz_chkW q.1 q.2 p = true := by
  show ∀ q ∈ [(mm_X0_init, 0), (mm_X0_number, 0), (mm_X0_barred, 0), (mm_X0_numberAt, 1), (mm_X0_isBarredAt, 2), (mm_X0_putBarred, 2), (mm_X0_bringTo, 1), (mm_X0_laggards, 0), (mm_X0_copyFrom, 1), (mm_X1_init, 0), (mm_X1_reckon, 2), (mm_X2_init, 0), (mm_X2_build, 2), (mm_X2_sum, 1), (mm_X2_width, 1), (mm_X2_owed, 1), (mm_X2_allSums, 0), (mm_X2_allOwed, 0), (mm_X2_widthOfWeek, 1), (mm_X3_init, 0), (mm_X3_build, 2), (mm_X3_open, 1), (mm_X3_takeRide, 3), (mm_X3_takeZone, 2), (mm_X3_size, 0), (mm_X3_moment, 1), (mm_X3_ridesIn, 1), (mm_X3_width, 1), (mm_X3_cost, 1), (mm_X3_journeyOfRide, 1), (mm_X4_init, 0), (mm_X4_build, 2), (mm_X4_weighWeek, 2), (mm_X4_markWeeks, 0), (mm_X4_cost, 0), (mm_X4_weeks, 0), (mm_X4_start, 1), (mm_X4_isInWeek, 1), (mm_X5_init, 0), (mm_X5_build, 1), (mm_X5_addWhole, 2), (mm_X5_addLacking, 2), (mm_X5_addRide, 5), (mm_X5_size, 0), (mm_X5_beginStation, 1), (mm_X5_endStation, 1), (mm_X5_beginMoment, 1), (mm_X5_kind, 1), (mm_X5_isLame, 1), (mm_X5_goesOn, 2), (mm_X6_init, 1), (mm_X6_at, 1), (mm_X6_put, 2), (mm_X6_add, 2), (mm_X6_fill, 1), (mm_X6_sum, 0), (mm_X6_copyFrom, 1), (mm_X7_init, 0), (mm_X7_tapsOf, 1), (mm_X7_copyFrom, 1), (mm_X8_init, 0), (mm_X8_size, 0), (mm_X8_moment, 1), (mm_X8_station, 1), (mm_X8_way, 1), (mm_X8_find, 1), (mm_X8_insert, 3), (mm_X8_remove, 1), (mm_X8_move, 2), (mm_X8_isWholeFrom, 1), (mm_X8_copyFrom, 1), (mm_X9_init, 0), (mm_X9_zoneOf, 1), (mm_X9_putZone, 2), (mm_X9_valueOf, 2), (mm_X9_putValue, 3), (mm_X9_near, 0), (mm_X9_journeyCost, 2), (mm_X9_capped, 2), (mm_X9_weekCost, 1), (mm_X9_copyFrom, 1), (mm_X10_init, 0), (mm_X10_zone, 2), (mm_X10_price, 3), (mm_X10_tap, 5), (mm_X10_untap, 3), (mm_X10_told, 3), (mm_X10_ride, 3), (mm_X10_journey, 3), (mm_X10_day, 3), (mm_X10_best, 2), (mm_X10_saved, 2), (mm_X10_would, 5), (mm_X10_bar, 2), (mm_X10_hear, 1), (mm_X10_pass, 2), (mm_X10_image, 1), (mm_X10_restore, 1), (mm_X10_count, 1), (mm_X10_refusalOfTap, 5), (mm_X10_refusalOfPart, 3), (mm_X10_reckon, 1), (mm_X10_costOfAllCards, 0), (mm_X10_imageOf, 1), (mm_X10_isWithin, 3), (mm_X10_isCard, 1), (mm_X10_isStation, 1), (mm_X10_isReader, 1), (mm_X10_isImage, 1), (mm_X10_isDay, 1), (mm_X10_isMinute, 1), (mm_X10_isWidth, 1), (mm_X10_isPrice, 3), (mm_X10_momentOf, 2), (mm_X10_dayOf, 1), (mm_X10_minuteOf, 1), (mm_X10_isBusy, 1), (mm_X11_init, 0), (mm_X11_in, 3), (mm_X11_isCard, 1), (mm_X11_isStation, 1), (mm_X11_isDay, 1), (mm_X11_zone, 2), (mm_X11_price, 3), (mm_X11_when, 2), (mm_X11_stationOf, 2), (mm_X11_isIn, 2), (mm_X11_tapAt, 2), (mm_X11_refusal, 5), (mm_X11_add, 3), (mm_X11_remove, 2), (mm_X11_tap, 5), (mm_X11_untap, 3), (mm_X11_told, 3), (mm_X11_mended, 2), (mm_X11_addRide, 5), (mm_X11_layRides, 1), (mm_X11_goesOn, 1), (mm_X11_isBusy, 1), (mm_X11_zoneOf, 1), (mm_X11_widthOf, 1), (mm_X11_layJourneys, 1), (mm_X11_ride, 3), (mm_X11_journey, 3), (mm_X11_weekAt, 1), (mm_X11_layDays, 1), (mm_X11_weekOf, 1), (mm_X11_isOfWeek, 1), (mm_X11_day, 3), (mm_X11_best, 2), (mm_X11_saved, 2), (mm_X11_would, 5), (mm_X11_bar, 2), (mm_X11_hear, 1), (mm_X11_pass, 2), (mm_X11_image, 1), (mm_X11_restore, 1), (mm_X11_lagging, 0), (mm_X11_allBest, 0), (mm_X11_count, 1)], _
  exact List.forall_mem_cons.mpr ⟨⟨_, wk_X0_init⟩, List.forall_mem_cons.mpr ⟨⟨_, wk_X0_number⟩, List.forall_mem_cons.mpr ⟨⟨_, wk_X0_barred⟩, List.forall_mem_cons.mpr ⟨⟨_, wk_X0_numberAt⟩, List.forall_mem_cons.mpr ⟨⟨_, wk_X0_isBarredAt⟩, List.forall_mem_cons.mpr ⟨⟨_, wk_X0_putBarred⟩, List.forall_mem_cons.mpr ⟨⟨_, wk_X0_bringTo⟩, List.forall_mem_cons.mpr ⟨⟨_, wk_X0_laggards⟩, List.forall_mem_cons.mpr ⟨⟨_, wk_X0_copyFrom⟩, List.forall_mem_cons.mpr ⟨⟨_, wk_X1_init⟩, List.forall_mem_cons.mpr ⟨⟨_, wk_X1_reckon⟩, List.forall_mem_cons.mpr ⟨⟨_, wk_X2_init⟩, List.forall_mem_cons.mpr ⟨⟨_, wk_X2_build⟩, List.forall_mem_cons.mpr ⟨⟨_, wk_X2_sum⟩, List.forall_mem_cons.mpr ⟨⟨_, wk_X2_width⟩, List.forall_mem_cons.mpr ⟨⟨_, wk_X2_owed⟩, List.forall_mem_cons.mpr ⟨⟨_, wk_X2_allSums⟩, List.forall_mem_cons.mpr ⟨⟨_, wk_X2_allOwed⟩, List.forall_mem_cons.mpr ⟨⟨_, wk_X2_widthOfWeek⟩, List.forall_mem_cons.mpr ⟨⟨_, wk_X3_init⟩, List.forall_mem_cons.mpr ⟨⟨_, wk_X3_build⟩, List.forall_mem_cons.mpr ⟨⟨_, wk_X3_open⟩, List.forall_mem_cons.mpr ⟨⟨_, wk_X3_takeRide⟩, List.forall_mem_cons.mpr ⟨⟨_, wk_X3_takeZone⟩, List.forall_mem_cons.mpr ⟨⟨_, wk_X3_size⟩, List.forall_mem_cons.mpr ⟨⟨_, wk_X3_moment⟩, List.forall_mem_cons.mpr ⟨⟨_, wk_X3_ridesIn⟩, List.forall_mem_cons.mpr ⟨⟨_, wk_X3_width⟩, List.forall_mem_cons.mpr ⟨⟨_, wk_X3_cost⟩, List.forall_mem_cons.mpr ⟨⟨_, wk_X3_journeyOfRide⟩, List.forall_mem_cons.mpr ⟨⟨_, wk_X4_init⟩, List.forall_mem_cons.mpr ⟨⟨_, wk_X4_build⟩, List.forall_mem_cons.mpr ⟨⟨_, wk_X4_weighWeek⟩, List.forall_mem_cons.mpr ⟨⟨_, wk_X4_markWeeks⟩, List.forall_mem_cons.mpr ⟨⟨_, wk_X4_cost⟩, List.forall_mem_cons.mpr ⟨⟨_, wk_X4_weeks⟩, List.forall_mem_cons.mpr ⟨⟨_, wk_X4_start⟩, List.forall_mem_cons.mpr ⟨⟨_, wk_X4_isInWeek⟩, List.forall_mem_cons.mpr ⟨⟨_, wk_X5_init⟩, List.forall_mem_cons.mpr ⟨⟨_, wk_X5_build⟩, List.forall_mem_cons.mpr ⟨⟨_, wk_X5_addWhole⟩, List.forall_mem_cons.mpr ⟨⟨_, wk_X5_addLacking⟩, List.forall_mem_cons.mpr ⟨⟨_, wk_X5_addRide⟩, List.forall_mem_cons.mpr ⟨⟨_, wk_X5_size⟩, List.forall_mem_cons.mpr ⟨⟨_, wk_X5_beginStation⟩, List.forall_mem_cons.mpr ⟨⟨_, wk_X5_endStation⟩, List.forall_mem_cons.mpr ⟨⟨_, wk_X5_beginMoment⟩, List.forall_mem_cons.mpr ⟨⟨_, wk_X5_kind⟩, List.forall_mem_cons.mpr ⟨⟨_, wk_X5_isLame⟩, List.forall_mem_cons.mpr ⟨⟨_, wk_X5_goesOn⟩, List.forall_mem_cons.mpr ⟨⟨_, wk_X6_init⟩, List.forall_mem_cons.mpr ⟨⟨_, wk_X6_at⟩, List.forall_mem_cons.mpr ⟨⟨_, wk_X6_put⟩, List.forall_mem_cons.mpr ⟨⟨_, wk_X6_add⟩, List.forall_mem_cons.mpr ⟨⟨_, wk_X6_fill⟩, List.forall_mem_cons.mpr ⟨⟨_, wk_X6_sum⟩, List.forall_mem_cons.mpr ⟨⟨_, wk_X6_copyFrom⟩, List.forall_mem_cons.mpr ⟨⟨_, wk_X7_init⟩, List.forall_mem_cons.mpr ⟨⟨_, wk_X7_tapsOf⟩, List.forall_mem_cons.mpr ⟨⟨_, wk_X7_copyFrom⟩, List.forall_mem_cons.mpr ⟨⟨_, wk_X8_init⟩, List.forall_mem_cons.mpr ⟨⟨_, wk_X8_size⟩, List.forall_mem_cons.mpr ⟨⟨_, wk_X8_moment⟩, List.forall_mem_cons.mpr ⟨⟨_, wk_X8_station⟩, List.forall_mem_cons.mpr ⟨⟨_, wk_X8_way⟩, List.forall_mem_cons.mpr ⟨⟨_, wk_X8_find⟩, List.forall_mem_cons.mpr ⟨⟨_, wk_X8_insert⟩, List.forall_mem_cons.mpr ⟨⟨_, wk_X8_remove⟩, List.forall_mem_cons.mpr ⟨⟨_, wk_X8_move⟩, List.forall_mem_cons.mpr ⟨⟨_, wk_X8_isWholeFrom⟩, List.forall_mem_cons.mpr ⟨⟨_, wk_X8_copyFrom⟩, List.forall_mem_cons.mpr ⟨⟨_, wk_X9_init⟩, List.forall_mem_cons.mpr ⟨⟨_, wk_X9_zoneOf⟩, List.forall_mem_cons.mpr ⟨⟨_, wk_X9_putZone⟩, List.forall_mem_cons.mpr ⟨⟨_, wk_X9_valueOf⟩, List.forall_mem_cons.mpr ⟨⟨_, wk_X9_putValue⟩, List.forall_mem_cons.mpr ⟨⟨_, wk_X9_near⟩, List.forall_mem_cons.mpr ⟨⟨_, wk_X9_journeyCost⟩, List.forall_mem_cons.mpr ⟨⟨_, wk_X9_capped⟩, List.forall_mem_cons.mpr ⟨⟨_, wk_X9_weekCost⟩, List.forall_mem_cons.mpr ⟨⟨_, wk_X9_copyFrom⟩, List.forall_mem_cons.mpr ⟨⟨_, wk_X10_init⟩, List.forall_mem_cons.mpr ⟨⟨_, wk_X10_zone⟩, List.forall_mem_cons.mpr ⟨⟨_, wk_X10_price⟩, List.forall_mem_cons.mpr ⟨⟨_, wk_X10_tap⟩, List.forall_mem_cons.mpr ⟨⟨_, wk_X10_untap⟩, List.forall_mem_cons.mpr ⟨⟨_, wk_X10_told⟩, List.forall_mem_cons.mpr ⟨⟨_, wk_X10_ride⟩, List.forall_mem_cons.mpr ⟨⟨_, wk_X10_journey⟩, List.forall_mem_cons.mpr ⟨⟨_, wk_X10_day⟩, List.forall_mem_cons.mpr ⟨⟨_, wk_X10_best⟩, List.forall_mem_cons.mpr ⟨⟨_, wk_X10_saved⟩, List.forall_mem_cons.mpr ⟨⟨_, wk_X10_would⟩, List.forall_mem_cons.mpr ⟨⟨_, wk_X10_bar⟩, List.forall_mem_cons.mpr ⟨⟨_, wk_X10_hear⟩, List.forall_mem_cons.mpr ⟨⟨_, wk_X10_pass⟩, List.forall_mem_cons.mpr ⟨⟨_, wk_X10_image⟩, List.forall_mem_cons.mpr ⟨⟨_, wk_X10_restore⟩, List.forall_mem_cons.mpr ⟨⟨_, wk_X10_count⟩, List.forall_mem_cons.mpr ⟨⟨_, wk_X10_refusalOfTap⟩, List.forall_mem_cons.mpr ⟨⟨_, wk_X10_refusalOfPart⟩, List.forall_mem_cons.mpr ⟨⟨_, wk_X10_reckon⟩, List.forall_mem_cons.mpr ⟨⟨_, wk_X10_costOfAllCards⟩, List.forall_mem_cons.mpr ⟨⟨_, wk_X10_imageOf⟩, List.forall_mem_cons.mpr ⟨⟨_, wk_X10_isWithin⟩, List.forall_mem_cons.mpr ⟨⟨_, wk_X10_isCard⟩, List.forall_mem_cons.mpr ⟨⟨_, wk_X10_isStation⟩, List.forall_mem_cons.mpr ⟨⟨_, wk_X10_isReader⟩, List.forall_mem_cons.mpr ⟨⟨_, wk_X10_isImage⟩, List.forall_mem_cons.mpr ⟨⟨_, wk_X10_isDay⟩, List.forall_mem_cons.mpr ⟨⟨_, wk_X10_isMinute⟩, List.forall_mem_cons.mpr ⟨⟨_, wk_X10_isWidth⟩, List.forall_mem_cons.mpr ⟨⟨_, wk_X10_isPrice⟩, List.forall_mem_cons.mpr ⟨⟨_, wk_X10_momentOf⟩, List.forall_mem_cons.mpr ⟨⟨_, wk_X10_dayOf⟩, List.forall_mem_cons.mpr ⟨⟨_, wk_X10_minuteOf⟩, List.forall_mem_cons.mpr ⟨⟨_, wk_X10_isBusy⟩, List.forall_mem_cons.mpr ⟨⟨_, wk_X11_init⟩, List.forall_mem_cons.mpr ⟨⟨_, wk_X11_in⟩, List.forall_mem_cons.mpr ⟨⟨_, wk_X11_isCard⟩, List.forall_mem_cons.mpr ⟨⟨_, wk_X11_isStation⟩, List.forall_mem_cons.mpr ⟨⟨_, wk_X11_isDay⟩, List.forall_mem_cons.mpr ⟨⟨_, wk_X11_zone⟩, List.forall_mem_cons.mpr ⟨⟨_, wk_X11_price⟩, List.forall_mem_cons.mpr ⟨⟨_, wk_X11_when⟩, List.forall_mem_cons.mpr ⟨⟨_, wk_X11_stationOf⟩, List.forall_mem_cons.mpr ⟨⟨_, wk_X11_isIn⟩, List.forall_mem_cons.mpr ⟨⟨_, wk_X11_tapAt⟩, List.forall_mem_cons.mpr ⟨⟨_, wk_X11_refusal⟩, List.forall_mem_cons.mpr ⟨⟨_, wk_X11_add⟩, List.forall_mem_cons.mpr ⟨⟨_, wk_X11_remove⟩, List.forall_mem_cons.mpr ⟨⟨_, wk_X11_tap⟩, List.forall_mem_cons.mpr ⟨⟨_, wk_X11_untap⟩, List.forall_mem_cons.mpr ⟨⟨_, wk_X11_told⟩, List.forall_mem_cons.mpr ⟨⟨_, wk_X11_mended⟩, List.forall_mem_cons.mpr ⟨⟨_, wk_X11_addRide⟩, List.forall_mem_cons.mpr ⟨⟨_, wk_X11_layRides⟩, List.forall_mem_cons.mpr ⟨⟨_, wk_X11_goesOn⟩, List.forall_mem_cons.mpr ⟨⟨_, wk_X11_isBusy⟩, List.forall_mem_cons.mpr ⟨⟨_, wk_X11_zoneOf⟩, List.forall_mem_cons.mpr ⟨⟨_, wk_X11_widthOf⟩, List.forall_mem_cons.mpr ⟨⟨_, wk_X11_layJourneys⟩, List.forall_mem_cons.mpr ⟨⟨_, wk_X11_ride⟩, List.forall_mem_cons.mpr ⟨⟨_, wk_X11_journey⟩, List.forall_mem_cons.mpr ⟨⟨_, wk_X11_weekAt⟩, List.forall_mem_cons.mpr ⟨⟨_, wk_X11_layDays⟩, List.forall_mem_cons.mpr ⟨⟨_, wk_X11_weekOf⟩, List.forall_mem_cons.mpr ⟨⟨_, wk_X11_isOfWeek⟩, List.forall_mem_cons.mpr ⟨⟨_, wk_X11_day⟩, List.forall_mem_cons.mpr ⟨⟨_, wk_X11_best⟩, List.forall_mem_cons.mpr ⟨⟨_, wk_X11_saved⟩, List.forall_mem_cons.mpr ⟨⟨_, wk_X11_would⟩, List.forall_mem_cons.mpr ⟨⟨_, wk_X11_bar⟩, List.forall_mem_cons.mpr ⟨⟨_, wk_X11_hear⟩, List.forall_mem_cons.mpr ⟨⟨_, wk_X11_pass⟩, List.forall_mem_cons.mpr ⟨⟨_, wk_X11_image⟩, List.forall_mem_cons.mpr ⟨⟨_, wk_X11_restore⟩, List.forall_mem_cons.mpr ⟨⟨_, wk_X11_lagging⟩, List.forall_mem_cons.mpr ⟨⟨_, wk_X11_allBest⟩, List.forall_mem_cons.mpr ⟨⟨_, wk_X11_count⟩, fun _ h => absurd h List.not_mem_nil⟩⟩⟩⟩⟩⟩⟩⟩⟩⟩⟩⟩⟩⟩⟩⟩⟩⟩⟩⟩⟩⟩⟩⟩⟩⟩⟩⟩⟩⟩⟩⟩⟩⟩⟩⟩⟩⟩⟩⟩⟩⟩⟩⟩⟩⟩⟩⟩⟩⟩⟩⟩⟩⟩⟩⟩⟩⟩⟩⟩⟩⟩⟩⟩⟩⟩⟩⟩⟩⟩⟩⟩⟩⟩⟩⟩⟩⟩⟩⟩⟩⟩⟩⟩⟩⟩⟩⟩⟩⟩⟩⟩⟩⟩⟩⟩⟩⟩⟩⟩⟩⟩⟩⟩⟩⟩⟩⟩⟩⟩⟩⟩⟩⟩⟩⟩⟩⟩⟩⟩⟩⟩⟩⟩⟩⟩⟩⟩⟩⟩⟩⟩⟩⟩⟩⟩⟩⟩⟩⟩⟩⟩⟩⟩⟩⟩⟩⟩⟩⟩⟩⟩⟩⟩⟩⟩⟩⟩⟩⟩
theorem ck_X0_init : mz_chkC 0 2 prog_2_method_1_code co_X0_init = true := by decide +kernel
theorem ck_X0_number : mz_chkC 0 0 prog_2_method_2_code co_X0_number = true := by decide +kernel
theorem ck_X0_barred : mz_chkC 0 0 prog_2_method_3_code co_X0_barred = true := by decide +kernel
theorem ck_X0_numberAt : mz_chkC 0 0 prog_2_method_4_code co_X0_numberAt = true := by decide +kernel
theorem ck_X0_isBarredAt : mz_chkC 0 0 prog_2_method_5_code co_X0_isBarredAt = true := by decide +kernel
theorem ck_X0_putBarred : mz_chkC 0 0 prog_2_method_6_code co_X0_putBarred = true := by decide +kernel
theorem ck_X0_bringTo : mz_chkC 0 0 prog_2_method_7_code co_X0_bringTo = true := by decide +kernel
theorem ck_X0_laggards : mz_chkC 0 0 prog_2_method_8_code co_X0_laggards = true := by decide +kernel
theorem ck_X0_copyFrom : mz_chkC 0 0 prog_2_method_9_code co_X0_copyFrom = true := by decide +kernel
theorem ck_X1_init : mz_chkC 1 2 prog_3_method_1_code co_X1_init = true := by decide +kernel
theorem ck_X1_reckon : mz_chkC 1 0 prog_3_method_2_code co_X1_reckon = true := by decide +kernel
theorem ck_X2_init : mz_chkC 2 2 prog_4_method_1_code co_X2_init = true := by decide +kernel
theorem ck_X2_build : mz_chkC 2 0 prog_4_method_2_code co_X2_build = true := by decide +kernel
theorem ck_X2_sum : mz_chkC 2 0 prog_4_method_3_code co_X2_sum = true := by decide +kernel
theorem ck_X2_width : mz_chkC 2 0 prog_4_method_4_code co_X2_width = true := by decide +kernel
theorem ck_X2_owed : mz_chkC 2 0 prog_4_method_5_code co_X2_owed = true := by decide +kernel
theorem ck_X2_allSums : mz_chkC 2 0 prog_4_method_6_code co_X2_allSums = true := by decide +kernel
theorem ck_X2_allOwed : mz_chkC 2 0 prog_4_method_7_code co_X2_allOwed = true := by decide +kernel
theorem ck_X2_widthOfWeek : mz_chkC 2 0 prog_4_method_8_code co_X2_widthOfWeek = true := by decide +kernel
theorem ck_X3_init : mz_chkC 3 2 prog_5_method_1_code co_X3_init = true := by decide +kernel
theorem ck_X3_build : mz_chkC 3 0 prog_5_method_2_code co_X3_build = true := by decide +kernel
theorem ck_X3_open : mz_chkC 3 0 prog_5_method_3_code co_X3_open = true := by decide +kernel
theorem ck_X3_takeRide : mz_chkC 3 0 prog_5_method_4_code co_X3_takeRide = true := by decide +kernel
theorem ck_X3_takeZone : mz_chkC 3 0 prog_5_method_5_code co_X3_takeZone = true := by decide +kernel
theorem ck_X3_size : mz_chkC 3 0 prog_5_method_6_code co_X3_size = true := by decide +kernel
theorem ck_X3_moment : mz_chkC 3 0 prog_5_method_7_code co_X3_moment = true := by decide +kernel
theorem ck_X3_ridesIn : mz_chkC 3 0 prog_5_method_8_code co_X3_ridesIn = true := by decide +kernel
theorem ck_X3_width : mz_chkC 3 0 prog_5_method_9_code co_X3_width = true := by decide +kernel
theorem ck_X3_cost : mz_chkC 3 0 prog_5_method_10_code co_X3_cost = true := by decide +kernel
theorem ck_X3_journeyOfRide : mz_chkC 3 0 prog_5_method_11_code co_X3_journeyOfRide = true := by decide +kernel
theorem ck_X4_init : mz_chkC 4 2 prog_6_method_1_code co_X4_init = true := by decide +kernel
theorem ck_X4_build : mz_chkC 4 0 prog_6_method_2_code co_X4_build = true := by decide +kernel
theorem ck_X4_weighWeek : mz_chkC 4 0 prog_6_method_3_code co_X4_weighWeek = true := by decide +kernel
theorem ck_X4_markWeeks : mz_chkC 4 0 prog_6_method_4_code co_X4_markWeeks = true := by decide +kernel
theorem ck_X4_cost : mz_chkC 4 0 prog_6_method_5_code co_X4_cost = true := by decide +kernel
theorem ck_X4_weeks : mz_chkC 4 0 prog_6_method_6_code co_X4_weeks = true := by decide +kernel
theorem ck_X4_start : mz_chkC 4 0 prog_6_method_7_code co_X4_start = true := by decide +kernel
theorem ck_X4_isInWeek : mz_chkC 4 0 prog_6_method_8_code co_X4_isInWeek = true := by decide +kernel
theorem ck_X5_init : mz_chkC 5 2 prog_7_method_1_code co_X5_init = true := by decide +kernel
theorem ck_X5_build : mz_chkC 5 0 prog_7_method_2_code co_X5_build = true := by decide +kernel
theorem ck_X5_addWhole : mz_chkC 5 0 prog_7_method_3_code co_X5_addWhole = true := by decide +kernel
theorem ck_X5_addLacking : mz_chkC 5 0 prog_7_method_4_code co_X5_addLacking = true := by decide +kernel
theorem ck_X5_addRide : mz_chkC 5 0 prog_7_method_5_code co_X5_addRide = true := by decide +kernel
theorem ck_X5_size : mz_chkC 5 0 prog_7_method_6_code co_X5_size = true := by decide +kernel
theorem ck_X5_beginStation : mz_chkC 5 0 prog_7_method_7_code co_X5_beginStation = true := by decide +kernel
theorem ck_X5_endStation : mz_chkC 5 0 prog_7_method_8_code co_X5_endStation = true := by decide +kernel
theorem ck_X5_beginMoment : mz_chkC 5 0 prog_7_method_9_code co_X5_beginMoment = true := by decide +kernel
theorem ck_X5_kind : mz_chkC 5 0 prog_7_method_10_code co_X5_kind = true := by decide +kernel
theorem ck_X5_isLame : mz_chkC 5 0 prog_7_method_11_code co_X5_isLame = true := by decide +kernel
theorem ck_X5_goesOn : mz_chkC 5 0 prog_7_method_12_code co_X5_goesOn = true := by decide +kernel
theorem ck_X6_init : mz_chkC 6 2 prog_8_method_1_code co_X6_init = true := by decide +kernel
theorem ck_X6_at : mz_chkC 6 0 prog_8_method_2_code co_X6_at = true := by decide +kernel
theorem ck_X6_put : mz_chkC 6 0 prog_8_method_3_code co_X6_put = true := by decide +kernel
theorem ck_X6_add : mz_chkC 6 0 prog_8_method_4_code co_X6_add = true := by decide +kernel
theorem ck_X6_fill : mz_chkC 6 0 prog_8_method_5_code co_X6_fill = true := by decide +kernel
theorem ck_X6_sum : mz_chkC 6 0 prog_8_method_6_code co_X6_sum = true := by decide +kernel
theorem ck_X6_copyFrom : mz_chkC 6 0 prog_8_method_7_code co_X6_copyFrom = true := by decide +kernel
theorem ck_X7_init : mz_chkC 7 2 prog_9_method_1_code co_X7_init = true := by decide +kernel
theorem ck_X7_tapsOf : mz_chkC 7 0 prog_9_method_2_code co_X7_tapsOf = true := by decide +kernel
theorem ck_X7_copyFrom : mz_chkC 7 0 prog_9_method_3_code co_X7_copyFrom = true := by decide +kernel
theorem ck_X8_init : mz_chkC 8 2 prog_10_method_1_code co_X8_init = true := by decide +kernel
theorem ck_X8_size : mz_chkC 8 0 prog_10_method_2_code co_X8_size = true := by decide +kernel
theorem ck_X8_moment : mz_chkC 8 0 prog_10_method_3_code co_X8_moment = true := by decide +kernel
theorem ck_X8_station : mz_chkC 8 0 prog_10_method_4_code co_X8_station = true := by decide +kernel
theorem ck_X8_way : mz_chkC 8 0 prog_10_method_5_code co_X8_way = true := by decide +kernel
theorem ck_X8_find : mz_chkC 8 0 prog_10_method_6_code co_X8_find = true := by decide +kernel
theorem ck_X8_insert : mz_chkC 8 0 prog_10_method_7_code co_X8_insert = true := by decide +kernel
theorem ck_X8_remove : mz_chkC 8 0 prog_10_method_8_code co_X8_remove = true := by decide +kernel
theorem ck_X8_move : mz_chkC 8 0 prog_10_method_9_code co_X8_move = true := by decide +kernel
theorem ck_X8_isWholeFrom : mz_chkC 8 0 prog_10_method_10_code co_X8_isWholeFrom = true := by decide +kernel
theorem ck_X8_copyFrom : mz_chkC 8 0 prog_10_method_11_code co_X8_copyFrom = true := by decide +kernel
theorem ck_X9_init : mz_chkC 9 2 prog_11_method_1_code co_X9_init = true := by decide +kernel
theorem ck_X9_zoneOf : mz_chkC 9 0 prog_11_method_2_code co_X9_zoneOf = true := by decide +kernel
theorem ck_X9_putZone : mz_chkC 9 0 prog_11_method_3_code co_X9_putZone = true := by decide +kernel
theorem ck_X9_valueOf : mz_chkC 9 0 prog_11_method_4_code co_X9_valueOf = true := by decide +kernel
theorem ck_X9_putValue : mz_chkC 9 0 prog_11_method_5_code co_X9_putValue = true := by decide +kernel
theorem ck_X9_near : mz_chkC 9 0 prog_11_method_6_code co_X9_near = true := by decide +kernel
theorem ck_X9_journeyCost : mz_chkC 9 0 prog_11_method_7_code co_X9_journeyCost = true := by decide +kernel
theorem ck_X9_capped : mz_chkC 9 0 prog_11_method_8_code co_X9_capped = true := by decide +kernel
theorem ck_X9_weekCost : mz_chkC 9 0 prog_11_method_9_code co_X9_weekCost = true := by decide +kernel
theorem ck_X9_copyFrom : mz_chkC 9 0 prog_11_method_10_code co_X9_copyFrom = true := by decide +kernel
theorem ck_X10_init : mz_chkC 10 2 prog_1_method_1_code co_X10_init = true := by decide +kernel
theorem ck_X10_zone : mz_chkC 10 0 prog_1_method_2_code co_X10_zone = true := by decide +kernel
theorem ck_X10_price : mz_chkC 10 0 prog_1_method_3_code co_X10_price = true := by decide +kernel
theorem ck_X10_tap : mz_chkC 10 0 prog_1_method_4_code co_X10_tap = true := by decide +kernel
theorem ck_X10_untap : mz_chkC 10 0 prog_1_method_5_code co_X10_untap = true := by decide +kernel
theorem ck_X10_told : mz_chkC 10 0 prog_1_method_6_code co_X10_told = true := by decide +kernel
theorem ck_X10_ride : mz_chkC 10 0 prog_1_method_7_code co_X10_ride = true := by decide +kernel
theorem ck_X10_journey : mz_chkC 10 0 prog_1_method_8_code co_X10_journey = true := by decide +kernel
theorem ck_X10_day : mz_chkC 10 0 prog_1_method_9_code co_X10_day = true := by decide +kernel
theorem ck_X10_best : mz_chkC 10 0 prog_1_method_10_code co_X10_best = true := by decide +kernel
theorem ck_X10_saved : mz_chkC 10 0 prog_1_method_11_code co_X10_saved = true := by decide +kernel
theorem ck_X10_would : mz_chkC 10 0 prog_1_method_12_code co_X10_would = true := by decide +kernel
theorem ck_X10_bar : mz_chkC 10 0 prog_1_method_13_code co_X10_bar = true := by decide +kernel
theorem ck_X10_hear : mz_chkC 10 0 prog_1_method_14_code co_X10_hear = true := by decide +kernel
theorem ck_X10_pass : mz_chkC 10 0 prog_1_method_15_code co_X10_pass = true := by decide +kernel
theorem ck_X10_image : mz_chkC 10 0 prog_1_method_16_code co_X10_image = true := by decide +kernel
theorem ck_X10_restore : mz_chkC 10 0 prog_1_method_17_code co_X10_restore = true := by decide +kernel
theorem ck_X10_count : mz_chkC 10 0 prog_1_method_18_code co_X10_count = true := by decide +kernel
theorem ck_X10_refusalOfTap : mz_chkC 10 0 prog_1_method_19_code co_X10_refusalOfTap = true := by decide +kernel
theorem ck_X10_refusalOfPart : mz_chkC 10 1 prog_1_method_20_code co_X10_refusalOfPart = true := by decide +kernel
theorem ck_X10_reckon : mz_chkC 10 0 prog_1_method_21_code co_X10_reckon = true := by decide +kernel
theorem ck_X10_costOfAllCards : mz_chkC 10 0 prog_1_method_22_code co_X10_costOfAllCards = true := by decide +kernel
theorem ck_X10_imageOf : mz_chkC 10 0 prog_1_method_23_code co_X10_imageOf = true := by decide +kernel
theorem ck_X10_isWithin : mz_chkC 10 1 prog_1_method_24_code co_X10_isWithin = true := by decide +kernel
theorem ck_X10_isCard : mz_chkC 10 1 prog_1_method_25_code co_X10_isCard = true := by decide +kernel
theorem ck_X10_isStation : mz_chkC 10 1 prog_1_method_26_code co_X10_isStation = true := by decide +kernel
theorem ck_X10_isReader : mz_chkC 10 1 prog_1_method_27_code co_X10_isReader = true := by decide +kernel
theorem ck_X10_isImage : mz_chkC 10 1 prog_1_method_28_code co_X10_isImage = true := by decide +kernel
theorem ck_X10_isDay : mz_chkC 10 1 prog_1_method_29_code co_X10_isDay = true := by decide +kernel
theorem ck_X10_isMinute : mz_chkC 10 1 prog_1_method_30_code co_X10_isMinute = true := by decide +kernel
theorem ck_X10_isWidth : mz_chkC 10 1 prog_1_method_31_code co_X10_isWidth = true := by decide +kernel
theorem ck_X10_isPrice : mz_chkC 10 1 prog_1_method_32_code co_X10_isPrice = true := by decide +kernel
theorem ck_X10_momentOf : mz_chkC 10 1 prog_1_method_33_code co_X10_momentOf = true := by decide +kernel
theorem ck_X10_dayOf : mz_chkC 10 1 prog_1_method_34_code co_X10_dayOf = true := by decide +kernel
theorem ck_X10_minuteOf : mz_chkC 10 1 prog_1_method_35_code co_X10_minuteOf = true := by decide +kernel
theorem ck_X10_isBusy : mz_chkC 10 1 prog_1_method_36_code co_X10_isBusy = true := by decide +kernel
theorem ck_X11_init : mz_chkC 11 2 prog_13_method_1_code co_X11_init = true := by decide +kernel
theorem ck_X11_in : mz_chkC 11 1 prog_13_method_2_code co_X11_in = true := by decide +kernel
theorem ck_X11_isCard : mz_chkC 11 1 prog_13_method_3_code co_X11_isCard = true := by decide +kernel
theorem ck_X11_isStation : mz_chkC 11 1 prog_13_method_4_code co_X11_isStation = true := by decide +kernel
theorem ck_X11_isDay : mz_chkC 11 1 prog_13_method_5_code co_X11_isDay = true := by decide +kernel
theorem ck_X11_zone : mz_chkC 11 0 prog_13_method_6_code co_X11_zone = true := by decide +kernel
theorem ck_X11_price : mz_chkC 11 0 prog_13_method_7_code co_X11_price = true := by decide +kernel
theorem ck_X11_when : mz_chkC 11 0 prog_13_method_8_code co_X11_when = true := by decide +kernel
theorem ck_X11_stationOf : mz_chkC 11 0 prog_13_method_9_code co_X11_stationOf = true := by decide +kernel
theorem ck_X11_isIn : mz_chkC 11 0 prog_13_method_10_code co_X11_isIn = true := by decide +kernel
theorem ck_X11_tapAt : mz_chkC 11 0 prog_13_method_11_code co_X11_tapAt = true := by decide +kernel
theorem ck_X11_refusal : mz_chkC 11 0 prog_13_method_12_code co_X11_refusal = true := by decide +kernel
theorem ck_X11_add : mz_chkC 11 0 prog_13_method_13_code co_X11_add = true := by decide +kernel
theorem ck_X11_remove : mz_chkC 11 0 prog_13_method_14_code co_X11_remove = true := by decide +kernel
theorem ck_X11_tap : mz_chkC 11 0 prog_13_method_15_code co_X11_tap = true := by decide +kernel
theorem ck_X11_untap : mz_chkC 11 0 prog_13_method_16_code co_X11_untap = true := by decide +kernel
theorem ck_X11_told : mz_chkC 11 0 prog_13_method_17_code co_X11_told = true := by decide +kernel
theorem ck_X11_mended : mz_chkC 11 0 prog_13_method_18_code co_X11_mended = true := by decide +kernel
theorem ck_X11_addRide : mz_chkC 11 0 prog_13_method_19_code co_X11_addRide = true := by decide +kernel
theorem ck_X11_layRides : mz_chkC 11 0 prog_13_method_20_code co_X11_layRides = true := by decide +kernel
theorem ck_X11_goesOn : mz_chkC 11 0 prog_13_method_21_code co_X11_goesOn = true := by decide +kernel
theorem ck_X11_isBusy : mz_chkC 11 1 prog_13_method_22_code co_X11_isBusy = true := by decide +kernel
theorem ck_X11_zoneOf : mz_chkC 11 0 prog_13_method_23_code co_X11_zoneOf = true := by decide +kernel
theorem ck_X11_widthOf : mz_chkC 11 0 prog_13_method_24_code co_X11_widthOf = true := by decide +kernel
theorem ck_X11_layJourneys : mz_chkC 11 0 prog_13_method_25_code co_X11_layJourneys = true := by decide +kernel
theorem ck_X11_ride : mz_chkC 11 0 prog_13_method_26_code co_X11_ride = true := by decide +kernel
theorem ck_X11_journey : mz_chkC 11 0 prog_13_method_27_code co_X11_journey = true := by decide +kernel
theorem ck_X11_weekAt : mz_chkC 11 0 prog_13_method_28_code co_X11_weekAt = true := by decide +kernel
theorem ck_X11_layDays : mz_chkC 11 0 prog_13_method_29_code co_X11_layDays = true := by decide +kernel
theorem ck_X11_weekOf : mz_chkC 11 0 prog_13_method_30_code co_X11_weekOf = true := by decide +kernel
theorem ck_X11_isOfWeek : mz_chkC 11 0 prog_13_method_31_code co_X11_isOfWeek = true := by decide +kernel
theorem ck_X11_day : mz_chkC 11 0 prog_13_method_32_code co_X11_day = true := by decide +kernel
theorem ck_X11_best : mz_chkC 11 0 prog_13_method_33_code co_X11_best = true := by decide +kernel
theorem ck_X11_saved : mz_chkC 11 0 prog_13_method_34_code co_X11_saved = true := by decide +kernel
theorem ck_X11_would : mz_chkC 11 0 prog_13_method_35_code co_X11_would = true := by decide +kernel
theorem ck_X11_bar : mz_chkC 11 0 prog_13_method_36_code co_X11_bar = true := by decide +kernel
theorem ck_X11_hear : mz_chkC 11 0 prog_13_method_37_code co_X11_hear = true := by decide +kernel
theorem ck_X11_pass : mz_chkC 11 0 prog_13_method_38_code co_X11_pass = true := by decide +kernel
theorem ck_X11_image : mz_chkC 11 0 prog_13_method_39_code co_X11_image = true := by decide +kernel
theorem ck_X11_restore : mz_chkC 11 0 prog_13_method_40_code co_X11_restore = true := by decide +kernel
theorem ck_X11_lagging : mz_chkC 11 0 prog_13_method_41_code co_X11_lagging = true := by decide +kernel
theorem ck_X11_allBest : mz_chkC 11 0 prog_13_method_42_code co_X11_allBest = true := by decide +kernel
theorem ck_X11_count : mz_chkC 11 0 prog_13_method_43_code co_X11_count = true := by decide +kernel
set_option maxRecDepth 20000 in
theorem mz_Cok : ∀ M ∈ mz_tab, mz_chkC M.2.2.2.2.1 M.2.2.2.2.2.1 M.2.1 M.2.2.2.2.2.2 = true := by
  unfold mz_tab
  exact List.forall_mem_cons.mpr ⟨ck_X0_init, List.forall_mem_cons.mpr ⟨ck_X0_number, List.forall_mem_cons.mpr ⟨ck_X0_barred, List.forall_mem_cons.mpr ⟨ck_X0_numberAt, List.forall_mem_cons.mpr ⟨ck_X0_isBarredAt, List.forall_mem_cons.mpr ⟨ck_X0_putBarred, List.forall_mem_cons.mpr ⟨ck_X0_bringTo, List.forall_mem_cons.mpr ⟨ck_X0_laggards, List.forall_mem_cons.mpr ⟨ck_X0_copyFrom, List.forall_mem_cons.mpr ⟨ck_X1_init, List.forall_mem_cons.mpr ⟨ck_X1_reckon, List.forall_mem_cons.mpr ⟨ck_X2_init, List.forall_mem_cons.mpr ⟨ck_X2_build, List.forall_mem_cons.mpr ⟨ck_X2_sum, List.forall_mem_cons.mpr ⟨ck_X2_width, List.forall_mem_cons.mpr ⟨ck_X2_owed, List.forall_mem_cons.mpr ⟨ck_X2_allSums, List.forall_mem_cons.mpr ⟨ck_X2_allOwed, List.forall_mem_cons.mpr ⟨ck_X2_widthOfWeek, List.forall_mem_cons.mpr ⟨ck_X3_init, List.forall_mem_cons.mpr ⟨ck_X3_build, List.forall_mem_cons.mpr ⟨ck_X3_open, List.forall_mem_cons.mpr ⟨ck_X3_takeRide, List.forall_mem_cons.mpr ⟨ck_X3_takeZone, List.forall_mem_cons.mpr ⟨ck_X3_size, List.forall_mem_cons.mpr ⟨ck_X3_moment, List.forall_mem_cons.mpr ⟨ck_X3_ridesIn, List.forall_mem_cons.mpr ⟨ck_X3_width, List.forall_mem_cons.mpr ⟨ck_X3_cost, List.forall_mem_cons.mpr ⟨ck_X3_journeyOfRide, List.forall_mem_cons.mpr ⟨ck_X4_init, List.forall_mem_cons.mpr ⟨ck_X4_build, List.forall_mem_cons.mpr ⟨ck_X4_weighWeek, List.forall_mem_cons.mpr ⟨ck_X4_markWeeks, List.forall_mem_cons.mpr ⟨ck_X4_cost, List.forall_mem_cons.mpr ⟨ck_X4_weeks, List.forall_mem_cons.mpr ⟨ck_X4_start, List.forall_mem_cons.mpr ⟨ck_X4_isInWeek, List.forall_mem_cons.mpr ⟨ck_X5_init, List.forall_mem_cons.mpr ⟨ck_X5_build, List.forall_mem_cons.mpr ⟨ck_X5_addWhole, List.forall_mem_cons.mpr ⟨ck_X5_addLacking, List.forall_mem_cons.mpr ⟨ck_X5_addRide, List.forall_mem_cons.mpr ⟨ck_X5_size, List.forall_mem_cons.mpr ⟨ck_X5_beginStation, List.forall_mem_cons.mpr ⟨ck_X5_endStation, List.forall_mem_cons.mpr ⟨ck_X5_beginMoment, List.forall_mem_cons.mpr ⟨ck_X5_kind, List.forall_mem_cons.mpr ⟨ck_X5_isLame, List.forall_mem_cons.mpr ⟨ck_X5_goesOn, List.forall_mem_cons.mpr ⟨ck_X6_init, List.forall_mem_cons.mpr ⟨ck_X6_at, List.forall_mem_cons.mpr ⟨ck_X6_put, List.forall_mem_cons.mpr ⟨ck_X6_add, List.forall_mem_cons.mpr ⟨ck_X6_fill, List.forall_mem_cons.mpr ⟨ck_X6_sum, List.forall_mem_cons.mpr ⟨ck_X6_copyFrom, List.forall_mem_cons.mpr ⟨ck_X7_init, List.forall_mem_cons.mpr ⟨ck_X7_tapsOf, List.forall_mem_cons.mpr ⟨ck_X7_copyFrom, List.forall_mem_cons.mpr ⟨ck_X8_init, List.forall_mem_cons.mpr ⟨ck_X8_size, List.forall_mem_cons.mpr ⟨ck_X8_moment, List.forall_mem_cons.mpr ⟨ck_X8_station, List.forall_mem_cons.mpr ⟨ck_X8_way, List.forall_mem_cons.mpr ⟨ck_X8_find, List.forall_mem_cons.mpr ⟨ck_X8_insert, List.forall_mem_cons.mpr ⟨ck_X8_remove, List.forall_mem_cons.mpr ⟨ck_X8_move, List.forall_mem_cons.mpr ⟨ck_X8_isWholeFrom, List.forall_mem_cons.mpr ⟨ck_X8_copyFrom, List.forall_mem_cons.mpr ⟨ck_X9_init, List.forall_mem_cons.mpr ⟨ck_X9_zoneOf, List.forall_mem_cons.mpr ⟨ck_X9_putZone, List.forall_mem_cons.mpr ⟨ck_X9_valueOf, List.forall_mem_cons.mpr ⟨ck_X9_putValue, List.forall_mem_cons.mpr ⟨ck_X9_near, List.forall_mem_cons.mpr ⟨ck_X9_journeyCost, List.forall_mem_cons.mpr ⟨ck_X9_capped, List.forall_mem_cons.mpr ⟨ck_X9_weekCost, List.forall_mem_cons.mpr ⟨ck_X9_copyFrom, List.forall_mem_cons.mpr ⟨ck_X10_init, List.forall_mem_cons.mpr ⟨ck_X10_zone, List.forall_mem_cons.mpr ⟨ck_X10_price, List.forall_mem_cons.mpr ⟨ck_X10_tap, List.forall_mem_cons.mpr ⟨ck_X10_untap, List.forall_mem_cons.mpr ⟨ck_X10_told, List.forall_mem_cons.mpr ⟨ck_X10_ride, List.forall_mem_cons.mpr ⟨ck_X10_journey, List.forall_mem_cons.mpr ⟨ck_X10_day, List.forall_mem_cons.mpr ⟨ck_X10_best, List.forall_mem_cons.mpr ⟨ck_X10_saved, List.forall_mem_cons.mpr ⟨ck_X10_would, List.forall_mem_cons.mpr ⟨ck_X10_bar, List.forall_mem_cons.mpr ⟨ck_X10_hear, List.forall_mem_cons.mpr ⟨ck_X10_pass, List.forall_mem_cons.mpr ⟨ck_X10_image, List.forall_mem_cons.mpr ⟨ck_X10_restore, List.forall_mem_cons.mpr ⟨ck_X10_count, List.forall_mem_cons.mpr ⟨ck_X10_refusalOfTap, List.forall_mem_cons.mpr ⟨ck_X10_refusalOfPart, List.forall_mem_cons.mpr ⟨ck_X10_reckon, List.forall_mem_cons.mpr ⟨ck_X10_costOfAllCards, List.forall_mem_cons.mpr ⟨ck_X10_imageOf, List.forall_mem_cons.mpr ⟨ck_X10_isWithin, List.forall_mem_cons.mpr ⟨ck_X10_isCard, List.forall_mem_cons.mpr ⟨ck_X10_isStation, List.forall_mem_cons.mpr ⟨ck_X10_isReader, List.forall_mem_cons.mpr ⟨ck_X10_isImage, List.forall_mem_cons.mpr ⟨ck_X10_isDay, List.forall_mem_cons.mpr ⟨ck_X10_isMinute, List.forall_mem_cons.mpr ⟨ck_X10_isWidth, List.forall_mem_cons.mpr ⟨ck_X10_isPrice, List.forall_mem_cons.mpr ⟨ck_X10_momentOf, List.forall_mem_cons.mpr ⟨ck_X10_dayOf, List.forall_mem_cons.mpr ⟨ck_X10_minuteOf, List.forall_mem_cons.mpr ⟨ck_X10_isBusy, List.forall_mem_cons.mpr ⟨ck_X11_init, List.forall_mem_cons.mpr ⟨ck_X11_in, List.forall_mem_cons.mpr ⟨ck_X11_isCard, List.forall_mem_cons.mpr ⟨ck_X11_isStation, List.forall_mem_cons.mpr ⟨ck_X11_isDay, List.forall_mem_cons.mpr ⟨ck_X11_zone, List.forall_mem_cons.mpr ⟨ck_X11_price, List.forall_mem_cons.mpr ⟨ck_X11_when, List.forall_mem_cons.mpr ⟨ck_X11_stationOf, List.forall_mem_cons.mpr ⟨ck_X11_isIn, List.forall_mem_cons.mpr ⟨ck_X11_tapAt, List.forall_mem_cons.mpr ⟨ck_X11_refusal, List.forall_mem_cons.mpr ⟨ck_X11_add, List.forall_mem_cons.mpr ⟨ck_X11_remove, List.forall_mem_cons.mpr ⟨ck_X11_tap, List.forall_mem_cons.mpr ⟨ck_X11_untap, List.forall_mem_cons.mpr ⟨ck_X11_told, List.forall_mem_cons.mpr ⟨ck_X11_mended, List.forall_mem_cons.mpr ⟨ck_X11_addRide, List.forall_mem_cons.mpr ⟨ck_X11_layRides, List.forall_mem_cons.mpr ⟨ck_X11_goesOn, List.forall_mem_cons.mpr ⟨ck_X11_isBusy, List.forall_mem_cons.mpr ⟨ck_X11_zoneOf, List.forall_mem_cons.mpr ⟨ck_X11_widthOf, List.forall_mem_cons.mpr ⟨ck_X11_layJourneys, List.forall_mem_cons.mpr ⟨ck_X11_ride, List.forall_mem_cons.mpr ⟨ck_X11_journey, List.forall_mem_cons.mpr ⟨ck_X11_weekAt, List.forall_mem_cons.mpr ⟨ck_X11_layDays, List.forall_mem_cons.mpr ⟨ck_X11_weekOf, List.forall_mem_cons.mpr ⟨ck_X11_isOfWeek, List.forall_mem_cons.mpr ⟨ck_X11_day, List.forall_mem_cons.mpr ⟨ck_X11_best, List.forall_mem_cons.mpr ⟨ck_X11_saved, List.forall_mem_cons.mpr ⟨ck_X11_would, List.forall_mem_cons.mpr ⟨ck_X11_bar, List.forall_mem_cons.mpr ⟨ck_X11_hear, List.forall_mem_cons.mpr ⟨ck_X11_pass, List.forall_mem_cons.mpr ⟨ck_X11_image, List.forall_mem_cons.mpr ⟨ck_X11_restore, List.forall_mem_cons.mpr ⟨ck_X11_lagging, List.forall_mem_cons.mpr ⟨ck_X11_allBest, List.forall_mem_cons.mpr ⟨ck_X11_count, fun _ h => absurd h List.not_mem_nil⟩⟩⟩⟩⟩⟩⟩⟩⟩⟩⟩⟩⟩⟩⟩⟩⟩⟩⟩⟩⟩⟩⟩⟩⟩⟩⟩⟩⟩⟩⟩⟩⟩⟩⟩⟩⟩⟩⟩⟩⟩⟩⟩⟩⟩⟩⟩⟩⟩⟩⟩⟩⟩⟩⟩⟩⟩⟩⟩⟩⟩⟩⟩⟩⟩⟩⟩⟩⟩⟩⟩⟩⟩⟩⟩⟩⟩⟩⟩⟩⟩⟩⟩⟩⟩⟩⟩⟩⟩⟩⟩⟩⟩⟩⟩⟩⟩⟩⟩⟩⟩⟩⟩⟩⟩⟩⟩⟩⟩⟩⟩⟩⟩⟩⟩⟩⟩⟩⟩⟩⟩⟩⟩⟩⟩⟩⟩⟩⟩⟩⟩⟩⟩⟩⟩⟩⟩⟩⟩⟩⟩⟩⟩⟩⟩⟩⟩⟩⟩⟩⟩⟩⟩⟩⟩⟩⟩⟩⟩⟩
end
section
theorem ck_law_0 : mz_chkC 12 1 code (co_law.drop 0 |>.take 50) = true := by decide +kernel
theorem ck_law_50 : mz_chkC 12 1 code (co_law.drop 50 |>.take 50) = true := by decide +kernel
theorem ck_law_100 : mz_chkC 12 1 code (co_law.drop 100 |>.take 50) = true := by decide +kernel
theorem ck_law_150 : mz_chkC 12 1 code (co_law.drop 150 |>.take 50) = true := by decide +kernel
theorem ck_law_200 : mz_chkC 12 1 code (co_law.drop 200 |>.take 50) = true := by decide +kernel
theorem ck_law_250 : mz_chkC 12 1 code (co_law.drop 250 |>.take 50) = true := by decide +kernel
theorem ck_law_300 : mz_chkC 12 1 code (co_law.drop 300 |>.take 50) = true := by decide +kernel
theorem ck_law_350 : mz_chkC 12 1 code (co_law.drop 350 |>.take 50) = true := by decide +kernel
theorem ck_law_400 : mz_chkC 12 1 code (co_law.drop 400 |>.take 50) = true := by decide +kernel
theorem ck_law_450 : mz_chkC 12 1 code (co_law.drop 450 |>.take 50) = true := by decide +kernel
theorem ck_law_500 : mz_chkC 12 1 code (co_law.drop 500 |>.take 50) = true := by decide +kernel
theorem ck_law_550 : mz_chkC 12 1 code (co_law.drop 550 |>.take 50) = true := by decide +kernel
end
section
/-! THE LITTLE MACHINE: cells by number, values as the machine's own (a reference is a cell's number); what one instruction asks -/
abbrev mz_C : Type := (Nat × Nat × (Nat → Int32)) ⊕ (Nat × List Value)
abbrev mz_H : Type := Nat → mz_C
abbrev mz_Q : Type := Option Value → Nat → mz_H → Prop
abbrev mz_K : Type := Nat → List Value → Nat → mz_H → mz_Q → Prop
abbrev mz_X : Type := Nat → List (Option Value) → List Value → Nat → mz_H → Nat → Nat → Prop
def mz_up (h : mz_H) (a : Nat) (x : mz_C) : mz_H := fun b => if b = a then x else h b
def mz_lk : List mz_I → Nat → Option (Instr × Nat × Nat × Nat)
  | [], _ => none
  | e :: r, pc => match Nat.beq e.1 pc with
    | true => some e.2
    | false => mz_lk r pc
def mz_nth : List (Option Value) → Nat → Option Value
  | [], _ => none
  | a :: _, 0 => a
  | _ :: r, k + 1 => mz_nth r k
def mz_put : List (Option Value) → Nat → Value → Option (List (Option Value))
  | [], _, _ => none
  | _ :: r, 0, v => some (some v :: r)
  | a :: r, k + 1, v => match mz_put r k v with
    | some r' => some (a :: r')
    | none => none
def mz_spl : Nat → List Value → List Value → Option (List Value × List Value)
  | 0, st, acc => some (acc, st)
  | k + 1, v :: r, acc => mz_spl k r (v :: acc)
  | _ + 1, [], _ => none
def mz_cmp (c : ClassFile.Cond) (a b : Int32) : Prop := match c with
  | .eq => a = b
  | .ne => ¬ a = b
  | .lt => a < b
  | .ge => b ≤ a
  | .gt => b < a
  | .le => a ≤ b
/-- how many cells and slots a method makes at most -/
def mz_al (idx : Nat) (as : List Value) : Nat × Nat := match idx with
  | 50 => match as with
    | [_, .int k] => (1, k.toNatClampNeg)
    | _ => (1, 0)
  | 0 => (4, 10)
  | 11 => (6, 87)
  | 19 => (12, 294)
  | 30 => (10, 123)
  | 38 => (14, 263)
  | 60 => (6, 147)
  | 71 => (8, 30)
  | 57 => (42, 654)
  | 9 => (46, 790)
  | 81 => (183, 2925)
  | 117 => (20, 1991)
  | _ => (0, 0)
def mz_df (i : Nat) : List Value := (List.range (mz_N i)).map (fun k => match mz_ty i k with
  | .int => Value.int 0
  | _ => Value.null)
def mz_vt : FieldType → Value → Bool
  | .int, .int _ => true
  | .object _, .ref _ => true
  | .object _, .null => true
  | .array _, .ref _ => true
  | .array _, .null => true
  | _, _ => false
def mz_own (idx : Nat) : Nat := match mz_tab[idx]? with
  | some M => M.2.2.2.2.1
  | none => 99
def mz_st2 (st : List Value) (P : Int32 → Int32 → List Value → Prop) : Prop := match st with
  | .int b :: .int a :: r => P a b r
  | _ => False
/-- a call: kinds 0, 1 (receiver of the method's own kind), 2, 3 (none), 4, 5 (a maker) -/
def mz_inv (K : mz_K) (X : mz_X) (pc : Nat) (L : List (Option Value)) (st : List Value) (n : Nat) (h : mz_H) (bc bs idx k rc : Nat) : Prop := match mz_spl k st [] with
  | none => False
  | some (as, r) => r.length ≤ 8 ∧ (rc = 1 → ∃ a as' fs, as = .ref a :: as' ∧ h a = .inr (mz_own idx, fs)) ∧ (rc = 2 → ∃ a as', as = .ref a :: as') ∧ (mz_al idx as).1 ≤ bc ∧ (mz_al idx as).2 ≤ bs ∧ K idx as n h (fun v n' h' => X (pc + 3) L (v.toList ++ r) n' h' (bc - (mz_al idx as).1) (bs - (mz_al idx as).2))
def mz_step (K : mz_K) (d rk : Nat) (code : List mz_I) (Q : mz_Q) (X : mz_X) (pc : Nat) (L : List (Option Value)) (st : List Value) (n : Nat) (h : mz_H) (bc bs : Nat) : Prop :=
  match mz_lk code pc with
  | none => False
  | some (ins, _, x, y) => match ins with
    | .iconst _ => X (pc + 1) L (.int (nI x) :: st) n h bc bs
    | .bipush _ => X (pc + 2) L (.int (nI x) :: st) n h bc bs
    | .sipush _ => X (pc + 3) L (.int (nI x) :: st) n h bc bs
    | .ldc _ => X (pc + 2) L (.int (nI x) :: st) n h bc bs
    | .iload_n k => match mz_nth L k.val with
      | some (.int i) => X (pc + 1) L (.int i :: st) n h bc bs
      | _ => False
    | .iload k => match mz_nth L k with
      | some (.int i) => X (pc + 2) L (.int i :: st) n h bc bs
      | _ => False
    | .aload_n k => match mz_nth L k.val with
      | some (.ref i) => X (pc + 1) L (.ref i :: st) n h bc bs
      | _ => False
    | .aload k => match mz_nth L k with
      | some (.ref i) => X (pc + 2) L (.ref i :: st) n h bc bs
      | _ => False
    | .istore_n k => match st with
      | .int i :: r => match mz_put L k.val (.int i) with
        | some L' => X (pc + 1) L' r n h bc bs
        | none => False
      | _ => False
    | .istore k => match st with
      | .int i :: r => match mz_put L k (.int i) with
        | some L' => X (pc + 2) L' r n h bc bs
        | none => False
      | _ => False
    | .astore_n k => match st with
      | .ref i :: r => match mz_put L k.val (.ref i) with
        | some L' => X (pc + 1) L' r n h bc bs
        | none => False
      | _ => False
    | .astore k => match st with
      | .ref i :: r => match mz_put L k (.ref i) with
        | some L' => X (pc + 2) L' r n h bc bs
        | none => False
      | _ => False
    | .iinc k _ => match mz_nth L k with
      | some (.int i) => match mz_put L k (.int (i + nI x)) with
        | some L' => X (pc + 3) L' st n h bc bs
        | none => False
      | _ => False
    | .iadd => mz_st2 st fun a b r => X (pc + 1) L (.int (a + b) :: r) n h bc bs
    | .isub => mz_st2 st fun a b r => X (pc + 1) L (.int (a - b) :: r) n h bc bs
    | .imul => mz_st2 st fun a b r => X (pc + 1) L (.int (a * b) :: r) n h bc bs
    | .iand => mz_st2 st fun a b r => X (pc + 1) L (.int (a &&& b) :: r) n h bc bs
    | .ior => mz_st2 st fun a b r => X (pc + 1) L (.int (a ||| b) :: r) n h bc bs
    | .ixor => mz_st2 st fun a b r => X (pc + 1) L (.int (a ^^^ b) :: r) n h bc bs
    | .ishl => mz_st2 st fun a b r => X (pc + 1) L (.int (a <<< (b &&& 31)) :: r) n h bc bs
    | .ishr => mz_st2 st fun a b r => X (pc + 1) L (.int (a >>> (b &&& 31)) :: r) n h bc bs
    | .idiv => mz_st2 st fun a b r => ¬ b = 0 ∧ X (pc + 1) L (.int (a / b) :: r) n h bc bs
    | .irem => mz_st2 st fun a b r => ¬ b = 0 ∧ X (pc + 1) L (.int (a - a / b * b) :: r) n h bc bs
    | .dup => match st with
      | v :: r => X (pc + 1) L (v :: v :: r) n h bc bs
      | _ => False
    | .dup2 => match st with
      | v :: w :: r => X (pc + 1) L (v :: w :: v :: w :: r) n h bc bs
      | _ => False
    | .goto _ => X x L st n h bc bs
    | .ifCond c _ => match st with
      | .int a :: r => (mz_cmp c a 0 → X x L r n h bc bs) ∧ (¬ mz_cmp c a 0 → X (pc + 3) L r n h bc bs)
      | _ => False
    | .if_icmp c _ => mz_st2 st fun a b r => (mz_cmp c a b → X x L r n h bc bs) ∧ (¬ mz_cmp c a b → X (pc + 3) L r n h bc bs)
    | .tableswitch dflt lo hi offs => match st with
      | .int a :: r => ((a.toInt < lo ∨ hi < a.toInt) → X ((pc : Int) + dflt).toNat L r n h bc bs) ∧ (∀ off, ¬ a.toInt < lo → ¬ hi < a.toInt → offs[(a.toInt - lo).toNat]? = some off → X ((pc : Int) + off).toNat L r n h bc bs)
      | _ => False
    | .getfield _ => match st with
      | .ref a :: r => match h a with
        | .inr (ci, fs) => match fs[y]? with
          | some v => ci = x ∧ y < mz_N x ∧ X (pc + 3) L (v :: r) n h bc bs
          | none => False
        | _ => False
      | _ => False
    | .putfield _ => match st with
      | v :: .ref a :: r => match h a with
        | .inr (ci, fs) => ci = x ∧ y < mz_N x ∧ y < fs.length ∧ mz_vt (mz_ty x y) v = true ∧ X (pc + 3) L r n (mz_up h a (.inr (ci, fs.set y v))) bc bs
        | _ => False
      | _ => False
    | .iaload => match st with
      | .int i :: .ref a :: r => match h a with
        | .inl (0, m, f) => vp_in i m ∧ X (pc + 1) L (.int (f i.toNatClampNeg) :: r) n h bc bs
        | _ => False
      | _ => False
    | .baload => match st with
      | .int i :: .ref a :: r => match h a with
        | .inl (1, m, f) => vp_in i m ∧ X (pc + 1) L (.int (f i.toNatClampNeg) :: r) n h bc bs
        | _ => False
      | _ => False
    | .iastore => match st with
      | .int v :: .int i :: .ref a :: r => match h a with
        | .inl (0, m, f) => 2 ≤ a ∧ vp_in i m ∧ X (pc + 1) L r n (mz_up h a (.inl (0, m, upd f i.toNatClampNeg v))) bc bs
        | _ => False
      | _ => False
    | .bastore => match st with
      | .int v :: .int i :: .ref a :: r => match h a with
        | .inl (1, m, f) => 2 ≤ a ∧ vp_in i m ∧ X (pc + 1) L r n (mz_up h a (.inl (1, m, upd f i.toNatClampNeg (vp_nar .boolean v)))) bc bs
        | _ => False
      | _ => False
    | .arraylength => match st with
      | .ref a :: r => match h a with
        | .inl (_, m, _) => X (pc + 1) L (.int (nI m) :: r) n h bc bs
        | _ => False
      | _ => False
    | .newarray t => match st with
      | .int k :: r => ¬ k < 0 ∧ k.toNatClampNeg ≤ 1000 ∧ 1 ≤ bc ∧ k.toNatClampNeg ≤ bs ∧ (match t with
        | .int => X (pc + 2) L (.ref (n + 2) :: r) (n + 1) (mz_up h (n + 2) (.inl (0, k.toNatClampNeg, fun _ => 0))) (bc - 1) (bs - k.toNatClampNeg)
        | .boolean => X (pc + 2) L (.ref (n + 2) :: r) (n + 1) (mz_up h (n + 2) (.inl (1, k.toNatClampNeg, fun _ => 0))) (bc - 1) (bs - k.toNatClampNeg)
        | _ => False)
      | _ => False
    | .new _ => x < 12 ∧ 1 ≤ bc ∧ mz_N x ≤ bs ∧ X (pc + 3) L (.ref (n + 2) :: st) (n + 1) (mz_up h (n + 2) (.inr (x, mz_df x))) (bc - 1) (bs - mz_N x)
    | .getstatic _ => X (pc + 3) L (.ref 0 :: st) n h bc bs
    | .invokevirtual _ => mz_inv K X pc L st n h bc bs x (mz_np.getD x 0 + 1) 1
    | .invokestatic _ => if y = 7 then 1 ≤ d ∧ mz_st2 st fun a b r => r.length ≤ 8 ∧ X (pc + 3) L (.int (if a < b then b else a) :: r) n h bc bs
      else if y = 8 then 1 ≤ d ∧ mz_st2 st fun a b r => r.length ≤ 8 ∧ X (pc + 3) L (.int (if b < a then b else a) :: r) n h bc bs
      else mz_inv K X pc L st n h bc bs x (mz_np.getD x 0) 0
    | .invokespecial _ => if y = 6 then 1 ≤ d ∧ (match st with
        | .ref _ :: r => r.length ≤ 8 ∧ X (pc + 3) L r n h bc bs
        | _ => False)
      else mz_inv K X pc L st n h bc bs x (mz_np.getD x 0 + 1) 2
    | .ireturn => match st with
      | [.int v] => (rk = 1 ∨ (rk = 2 ∧ (v = 0 ∨ v = 1))) ∧ Q (some (.int v)) n h
      | _ => False
    | .areturn => match st with
      | [.ref a] => rk = 3 ∧ Q (some (.ref a)) n h
      | _ => False
    | .return_ => match st with
      | [] => rk = 0 ∧ Q none n h
      | _ => False
    | _ => False
/-- the least predicate that every step carries -/
def mz_WP (K : mz_K) (d rk : Nat) (code : List mz_I) (Q : mz_Q) : mz_X := fun pc L st n h bc bs => ∀ X : mz_X, (∀ pc L st n h bc bs, mz_step K d rk code Q X pc L st n h bc bs → X pc L st n h bc bs) → X pc L st n h bc bs
def mz_rk (r : Option FieldType) : Nat := match r with
  | none => 0
  | some .int => 1
  | some .boolean => 2
  | some _ => 3
def mz_ini : Nat → List Value → List (Option Value)
  | 0, _ => []
  | k + 1, [] => none :: mz_ini k []
  | k + 1, v :: r => some v :: mz_ini k r
/-- a method's body, with calls at most d deep below it -/
def mz_wc : Nat → mz_K
  | 0 => fun _ _ _ _ _ => False
  | d + 1 => fun idx as n h Q => match mz_tab[idx]? with
    | some M => as.length ≤ M.2.2.1 ∧ mz_WP (mz_wc d) d (mz_rk M.2.2.2.1) M.2.2.2.2.2.2 Q 0 (mz_ini M.2.2.1 as) [] n h (mz_al idx as).1 (mz_al idx as).2
    | none => False
def mz_mono (K : mz_K) : Prop := ∀ idx as n h (Q Q' : mz_Q), (∀ r n h, Q r n h → Q' r n h) → K idx as n h Q → K idx as n h Q'
theorem mz_st2_mono {st : List Value} {P P' : Int32 → Int32 → List Value → Prop} (h : ∀ a b r, P a b r → P' a b r) : mz_st2 st P → mz_st2 st P' := by
  unfold mz_st2
  split
  · exact h _ _ _
  · exact id
theorem mz_inv_mono {K : mz_K} (hK : mz_mono K) {X X' : mz_X} (hX : ∀ pc L st n h bc bs, X pc L st n h bc bs → X' pc L st n h bc bs) {pc : Nat} {L : List (Option Value)} {st : List Value} {n : Nat} {h : mz_H} {bc bs idx k rc : Nat} : mz_inv K X pc L st n h bc bs idx k rc → mz_inv K X' pc L st n h bc bs idx k rc := by
  unfold mz_inv
  split
  · exact id
  · exact fun ⟨a, b, b2, c, e, f⟩ => ⟨a, b, b2, c, e, hK _ _ _ _ _ _ (fun r n h q => hX _ _ _ _ _ _ _ q) f⟩
set_option maxHeartbeats 4000000 in
theorem mz_step_mono {K : mz_K} (hK : mz_mono K) {d rk : Nat} {code : List mz_I} {Q Q' : mz_Q} (hQ : ∀ r n h, Q r n h → Q' r n h) {X X' : mz_X} (hX : ∀ pc L st n h bc bs, X pc L st n h bc bs → X' pc L st n h bc bs) {pc : Nat} {L : List (Option Value)} {st : List Value} {n : Nat} {h : mz_H} {bc bs : Nat} : mz_step K d rk code Q X pc L st n h bc bs → mz_step K d rk code Q' X' pc L st n h bc bs := by
  unfold mz_step
  cases mz_lk code pc with
  | none => exact id
  | some q =>
    obtain ⟨ins, len, x, y⟩ := q
    cases ins
    all_goals first
      | exact id
      | exact hX _ _ _ _ _ _ _
      | exact mz_st2_mono fun a b r => hX _ _ _ _ _ _ _
      | exact mz_st2_mono fun a b r q => ⟨q.1, hX _ _ _ _ _ _ _ q.2⟩
      | exact mz_st2_mono fun a b r q => ⟨fun z => hX _ _ _ _ _ _ _ (q.1 z), fun z => hX _ _ _ _ _ _ _ (q.2 z)⟩
      | exact mz_inv_mono hK hX
      | skip
    case iload_n k => dsimp only; split <;> first | exact id | exact hX _ _ _ _ _ _ _
    case iload k => dsimp only; split <;> first | exact id | exact hX _ _ _ _ _ _ _
    case aload_n k => dsimp only; split <;> first | exact id | exact hX _ _ _ _ _ _ _
    case aload k => dsimp only; split <;> first | exact id | exact hX _ _ _ _ _ _ _
    case istore_n k => dsimp only; split <;> (try split) <;> first | exact id | exact hX _ _ _ _ _ _ _
    case istore k => dsimp only; split <;> (try split) <;> first | exact id | exact hX _ _ _ _ _ _ _
    case astore_n k => dsimp only; split <;> (try split) <;> first | exact id | exact hX _ _ _ _ _ _ _
    case astore k => dsimp only; split <;> (try split) <;> first | exact id | exact hX _ _ _ _ _ _ _
    case iinc k i => dsimp only; split <;> (try split) <;> first | exact id | exact hX _ _ _ _ _ _ _
    case dup => dsimp only; split <;> first | exact id | exact hX _ _ _ _ _ _ _
    case dup2 => dsimp only; split <;> first | exact id | exact hX _ _ _ _ _ _ _
    case ifCond c o => dsimp only; split <;> first | exact id | exact fun q => ⟨fun z => hX _ _ _ _ _ _ _ (q.1 z), fun z => hX _ _ _ _ _ _ _ (q.2 z)⟩
    case tableswitch a b c o => dsimp only; split <;> first | exact id | exact fun q => ⟨fun z => hX _ _ _ _ _ _ _ (q.1 z), fun z1 z2 z3 z4 => hX _ _ _ _ _ _ _ (q.2 z1 z2 z3 z4)⟩
    case getfield i => dsimp only; split <;> (try split) <;> (try split) <;> first | exact id | exact fun q => ⟨q.1, q.2.1, hX _ _ _ _ _ _ _ q.2.2⟩
    case putfield i => dsimp only; split <;> (try split) <;> first | exact id | exact fun q => ⟨q.1, q.2.1, q.2.2.1, q.2.2.2.1, hX _ _ _ _ _ _ _ q.2.2.2.2⟩
    case iaload => dsimp only; split <;> (try split) <;> first | exact id | exact fun q => ⟨q.1, hX _ _ _ _ _ _ _ q.2⟩
    case baload => dsimp only; split <;> (try split) <;> first | exact id | exact fun q => ⟨q.1, hX _ _ _ _ _ _ _ q.2⟩
    case iastore => dsimp only; split <;> (try split) <;> first | exact id | exact fun q => ⟨q.1, q.2.1, hX _ _ _ _ _ _ _ q.2.2⟩
    case bastore => dsimp only; split <;> (try split) <;> first | exact id | exact fun q => ⟨q.1, q.2.1, hX _ _ _ _ _ _ _ q.2.2⟩
    case arraylength => dsimp only; split <;> (try split) <;> first | exact id | exact hX _ _ _ _ _ _ _
    case newarray t => dsimp only; split <;> first | exact id | exact fun q => ⟨q.1, q.2.1, q.2.2.1, q.2.2.2.1, by have z := q.2.2.2.2; revert z; cases t <;> first | exact id | exact hX _ _ _ _ _ _ _⟩
    case new i => exact fun q => ⟨q.1, q.2.1, q.2.2.1, hX _ _ _ _ _ _ _ q.2.2.2⟩
    case invokestatic i =>
      dsimp only
      split
      · exact fun q => ⟨q.1, mz_st2_mono (fun a b r z => ⟨z.1, hX _ _ _ _ _ _ _ z.2⟩) q.2⟩
      · split
        · exact fun q => ⟨q.1, mz_st2_mono (fun a b r z => ⟨z.1, hX _ _ _ _ _ _ _ z.2⟩) q.2⟩
        · exact mz_inv_mono hK hX
    case invokespecial i =>
      dsimp only
      split
      · split <;> first | exact id | exact fun q => ⟨q.1, q.2.1, hX _ _ _ _ _ _ _ q.2.2⟩
      · exact mz_inv_mono hK hX
    case ireturn => dsimp only; split <;> first | exact id | exact fun q => ⟨q.1, hQ _ _ _ q.2⟩
    case areturn => dsimp only; split <;> first | exact id | exact fun q => ⟨q.1, hQ _ _ _ q.2⟩
    case return_ => dsimp only; split <;> first | exact id | exact fun q => ⟨q.1, hQ _ _ _ q.2⟩
theorem mz_WP_mono {K : mz_K} (hK : mz_mono K) {d rk : Nat} {code : List mz_I} {Q Q' : mz_Q} (hQ : ∀ r n h, Q r n h → Q' r n h) {pc : Nat} {L : List (Option Value)} {st : List Value} {n : Nat} {h : mz_H} {bc bs : Nat} (H : mz_WP K d rk code Q pc L st n h bc bs) : mz_WP K d rk code Q' pc L st n h bc bs :=
  fun X hX => H X fun pc L st n h bc bs q => hX pc L st n h bc bs (mz_step_mono hK hQ (fun _ _ _ _ _ _ _ z => z) q)
theorem mz_wc_mono : ∀ d, mz_mono (mz_wc d)
  | 0 => fun _ _ _ _ _ _ _ h => h.elim
  | d + 1 => fun idx as n h Q Q' hQ H => by
    show match mz_tab[idx]? with
      | some M => as.length ≤ M.2.2.1 ∧ mz_WP (mz_wc d) d (mz_rk M.2.2.2.1) M.2.2.2.2.2.2 Q' 0 (mz_ini M.2.2.1 as) [] n h (mz_al idx as).1 (mz_al idx as).2
      | none => False
    have H : match mz_tab[idx]? with
      | some M => as.length ≤ M.2.2.1 ∧ mz_WP (mz_wc d) d (mz_rk M.2.2.2.1) M.2.2.2.2.2.2 Q 0 (mz_ini M.2.2.1 as) [] n h (mz_al idx as).1 (mz_al idx as).2
      | none => False := H
    revert H
    cases mz_tab[idx]? with
    | none => exact id
    | some M => exact fun H => ⟨H.1, mz_WP_mono (mz_wc_mono d) hQ H.2⟩
/-- one step -/
theorem mz_WP.step {d' d rk : Nat} {code : List mz_I} {Q : mz_Q} {pc : Nat} {L : List (Option Value)} {st : List Value} {n : Nat} {h : mz_H} {bc bs : Nat} (H : mz_step (mz_wc d') d rk code Q (mz_WP (mz_wc d') d rk code Q) pc L st n h bc bs) : mz_WP (mz_wc d') d rk code Q pc L st n h bc bs :=
  fun X hX => hX _ _ _ _ _ _ _ (mz_step_mono (mz_wc_mono d') (fun _ _ _ z => z) (fun _ _ _ _ _ _ _ z => z X hX) H)
end
section
/-! out of the checks: each word that an instruction links is among the tables' words -/
theorem mz_gwS {w : Cond} (h : w ∈ mz_gw) : (w.onTables && w.keeps) = true ∨ ∃ ty, w = .arrayClass ty := good_of_word (List.mem_filter.mp h).2
theorem mz_FLz : mz_FL = (mz_FL.zip mz_FP).map Prod.fst := by decide +kernel
theorem mz_MLz : mz_ML = (mz_ML.zip mz_MP).map Prod.fst := by decide +kernel
theorem mz_CLz : mz_CL = (mz_CL.zip mz_CP).map Prod.fst := by decide +kernel
theorem mz_KLz : mz_KL = (mz_KL.zip mz_KP).map Prod.fst := by decide +kernel
theorem mz_memz {α : Type} {l : List α} {p : List Nat} (hz : l = (l.zip p).map Prod.fst) {f : α × Nat → Bool} (h : (l.zip p).all f = true) {e : α} (he : e ∈ l) : ∃ i, f (e, i) = true := by
  rw [hz] at he
  obtain ⟨q, hq, rfl⟩ := List.mem_map.mp he
  exact ⟨q.2, List.all_eq_true.mp h q hq⟩
theorem mz_FLw0 {own cp ci k : Nat} (h : (own, cp, ci, k, 0) ∈ mz_FL) : Cond.fieldLink (mz_RN own) cp (mz_RN ci) (mz_F ci k).2.1 (mz_F ci k).2.2.1 ∈ mz_gw := by
  obtain ⟨i, hi⟩ := mz_memz mz_FLz mz_FLok h
  exact mz_mem hi rfl
theorem mz_FLw1 {own cp ci k : Nat} (h : (own, cp, ci, k, 1) ∈ mz_FL) : Cond.fieldLinkNest (mz_RN own) cp (mz_RN ci) (mz_F ci k).2.1 (mz_F ci k).2.2.1 "TapLedger" ∈ mz_nw := by
  obtain ⟨i, hi⟩ := mz_memz mz_FLz mz_FLok h
  exact mz_memN hi rfl
theorem mz_MLw0 {own cp idx k : Nat} (h : (own, cp, idx, k) ∈ mz_ML) (hk : ¬ (k = 1 ∨ k = 3 ∨ k = 5)) : Cond.methodLink (mz_RN own) cp (mz_y idx) ∈ mz_gw := by
  obtain ⟨i, hi⟩ := mz_memz mz_MLz mz_MLok h
  have e : mz_mw (own, cp, idx, k) = .methodLink (mz_RN own) cp (mz_y idx) := if_neg hk
  dsimp only at hi
  rw [e] at hi
  exact mz_mem hi rfl
theorem mz_MLw1 {own cp idx k : Nat} (h : (own, cp, idx, k) ∈ mz_ML) (hk : k = 1 ∨ k = 3 ∨ k = 5) : Cond.methodLinkNest (mz_RN own) cp (mz_y idx) "TapLedger" ∈ mz_nw := by
  obtain ⟨i, hi⟩ := mz_memz mz_MLz mz_MLok h
  have e : mz_mw (own, cp, idx, k) = .methodLinkNest (mz_RN own) cp (mz_y idx) "TapLedger" := if_pos hk
  dsimp only at hi
  rw [e] at hi
  exact mz_memN hi rfl
theorem mz_CLw {own cp ci : Nat} (h : (own, cp, ci) ∈ mz_CL) : Cond.classLink (mz_RN own) cp (mz_RN ci) ∈ mz_gw := by
  obtain ⟨i, hi⟩ := mz_memz mz_CLz mz_CLok h
  exact mz_mem hi rfl
theorem mz_KLw {own cp v : Nat} (h : (own, cp, v) ∈ mz_KL) : Cond.constant (mz_RN own) cp (nI v) ∈ mz_gw := by
  obtain ⟨i, hi⟩ := mz_memz mz_KLz mz_KLok h
  exact mz_mem hi rfl
/-- of a kind of object: its fields' words, types, names -/
theorem mz_cls1 {i : Nat} (hi : i < 12) : (∀ k, k < mz_N i → u_lay (mz_RN i) (mz_F i) k ∈ mz_gw ∧ parseFieldDescriptor (mz_F i k).2.2.1 = some (mz_ty i k) ∧ (∀ j, j < mz_N i → k ≠ j → (mz_F i k).2.1 ≠ (mz_F i j).2.1) ∧ (mz_F i k).1 = mz_RN i) ∧ Cond.instantiable (mz_RN i) (mz_N i) ∈ mz_gw ∧ Cond.initialized (mz_RN i) ∈ mz_gw := by
  have h := List.all_eq_true.mp mz_clsok i (List.mem_range.mpr hi)
  simp only [Bool.and_eq_true] at h
  obtain ⟨⟨h1, h2⟩, h3⟩ := h
  refine ⟨fun k hk => ?_, mz_mem h2 rfl, mz_mem h3 rfl⟩
  have h4 := List.all_eq_true.mp h1 k (List.mem_range.mpr hk)
  simp only [Bool.and_eq_true] at h4
  obtain ⟨⟨⟨a, b⟩, c⟩, e⟩ := h4
  refine ⟨mz_mem a ?_, of_decide_eq_true b, fun j hj hne => ?_, of_decide_eq_true e⟩
  · unfold u_lay
    split <;> rfl
  · have := List.all_eq_true.mp c j (List.mem_range.mpr hj)
    simp only [Bool.or_eq_true, beq_iff_eq, decide_eq_true_eq] at this
    rcases this with z | z
    · exact absurd z.symm hne
    · exact z
theorem mz_clsAt {i : Nat} (hi : i < 12) : mz_cls[i]? = some (mz_RN i, mz_F i, mz_N i) := by
  have : ∀ i, i < 12 → mz_cls[i]? = some (mz_RN i, mz_F i, mz_N i) := by
    intro i hi
    match i, hi with
    | 0, _ => rfl
    | 1, _ => rfl
    | 2, _ => rfl
    | 3, _ => rfl
    | 4, _ => rfl
    | 5, _ => rfl
    | 6, _ => rfl
    | 7, _ => rfl
    | 8, _ => rfl
    | 9, _ => rfl
    | 10, _ => rfl
    | 11, _ => rfl
    | k + 12, h => omega
  exact this i hi
theorem mz_uws {i : Nat} (hi : i < 12) : ∀ w ∈ u_ws (mz_RN i) (mz_F i) (mz_N i), w ∈ mz_gw := by
  intro w hw
  obtain ⟨k, hk, rfl⟩ := List.mem_map.mp hw
  exact ((mz_cls1 hi).1 k (List.mem_range.mp hk)).1
theorem mz_dfV : ∀ i, i < 12 → ∀ j, j < mz_N i → defaultValue (mz_ty i j) = vp_V (mz_df i) j := by decide +kernel
theorem mz_dfN : ∀ i, i < 12 → (mz_df i).length = mz_N i := by decide +kernel
/-- of a method: its words -/
theorem mz_meth {idx : Nat} {M : mz_M} (h : mz_tab[idx]? = some M) : (Cond.code M.1 M.2.1 M.2.2.1 M.2.2.2.1 ∈ mz_gw ∧ Cond.initialized M.1.cls ∈ mz_gw ∧ (M.2.2.2.2.2.1 = 1 → Cond.static M.1 ∈ mz_gw) ∧ (¬ M.2.2.2.2.2.1 = 1 → Cond.instanceMethod M.1 ∈ mz_gw) ∧ (M.2.2.2.2.2.1 = 0 → Cond.selects M.1.cls M.1 M.1 ∈ mz_gw)) ∧ M.1.cls = mz_RN M.2.2.2.2.1 ∧ plainName M.1.cls = true ∧ (M.1.cls ≠ "java/lang/invoke/MethodHandle" ∧ M.1.cls ≠ "java/lang/invoke/VarHandle" ∧ (parseMethodDescriptor M.1.desc).map (fun d => d.parameters.length) = some (mz_np.getD idx 0)) ∧ (M.2.2.2.2.2.1 = 2 → M.1.name = "<init>") ∧ M.2.2.1 ≤ 11 ∧ mz_chkC M.2.2.2.2.1 M.2.2.2.2.2.1 M.2.1 M.2.2.2.2.2.2 = true := by
  have hm : M ∈ mz_tab := List.mem_of_getElem? h
  have hl : mz_tab.length = mz_np.length := by decide +kernel
  have hlt := (List.getElem?_eq_some_iff.mp h).1
  obtain ⟨n, hn⟩ : ∃ n, mz_np[idx]? = some n := ⟨_, List.getElem?_eq_getElem (by omega)⟩
  have hz : (M, n) ∈ mz_tab.zip mz_np := List.mem_of_getElem? (i := idx) (by rw [List.getElem?_zip_eq_some]; exact ⟨h, hn⟩)
  obtain ⟨p, hp⟩ := mz_Wok _ hz
  have hnp : mz_np.getD idx 0 = n := by rw [List.getD_eq_getElem?_getD, hn]; rfl
  unfold mz_chkW at hp
  simp only [Bool.and_eq_true, decide_eq_true_eq] at hp
  obtain ⟨⟨⟨⟨⟨⟨⟨⟨⟨⟨h1, h2⟩, h3⟩, h4⟩, h5⟩, h6⟩, h7⟩, h8⟩, h9⟩, h10⟩, h11⟩ := hp
  refine ⟨⟨List.mem_filter.mpr ⟨mz_codes M hm, rfl⟩, mz_mem h1 rfl, fun e => ?_, fun e => ?_, fun e => ?_⟩, h4, h5, ⟨h6, h7, by rw [hnp]; exact h9⟩, fun e => ?_, h10, mz_Cok M hm⟩
  · rw [if_pos e] at h2
    exact mz_mem h2 rfl
  · rw [if_neg e] at h2
    exact mz_mem h2 rfl
  · simp only [Bool.or_eq_true, bne_iff_ne, ne_eq] at h3
    exact mz_mem (h3.resolve_left (fun z => z e)) rfl
  · simp only [Bool.or_eq_true, bne_iff_ne, ne_eq, decide_eq_true_eq] at h8
    exact h8.resolve_left (fun z => z e)
theorem mz_yat {idx : Nat} {M : mz_M} (h : mz_tab[idx]? = some M) : mz_y idx = M.1 := by
  unfold mz_y
  rw [h]
theorem mz_lk_mem : ∀ (code : List mz_I) (pc : Nat) (q : Instr × Nat × Nat × Nat), mz_lk code pc = some q → (pc, q) ∈ code
  | [], _, _, h => by cases h
  | e :: r, pc, q, h => by
    unfold mz_lk at h
    cases hb : Nat.beq e.1 pc with
    | true =>
      rw [hb] at h
      have e1 : e.1 = pc := Nat.eq_of_beq_eq_true hb
      have e2 : e.2 = q := Option.some.inj h
      rw [← e1, ← e2]
      exact List.mem_cons_self
    | false =>
      rw [hb] at h
      exact List.mem_cons_of_mem _ (mz_lk_mem r pc q h)
theorem mz_dec {own kind : Nat} {bytes : ByteArray} {code : List mz_I} (h : mz_chkC own kind bytes code = true) {pc : Nat} {q : Instr × Nat × Nat × Nat} (hq : mz_lk code pc = some q) : decode bytes pc = .ok (q.1, q.2.1) ∧ mz_chk own kind (pc, q) = true := by
  have h1 := List.all_eq_true.mp h _ (mz_lk_mem code pc q hq)
  simp only [Bool.and_eq_true, decide_eq_true_eq] at h1
  exact h1
end
section
/-! THE LITTLE MACHINE BESIDE THE MACHINE: values and cells by a list of addresses -/
def mz_zn (j : Nat) : Int32 := match j with
  | 0 => 1
  | 1 => 2
  | 2 => 3
  | 3 => 4
  | 4 => 5
  | 5 => 1
  | 6 => 2
  | _ => 3
def mz_ad (φ : List Nat) (k : Nat) : Nat := φ.getD k 0
def mz_mv (φ : List Nat) : Value → Value
  | .int x => .int x
  | .ref k => .ref (mz_ad φ k)
  | _ => .null
theorem mz_mv_cat (φ : List Nat) (v : Value) : (mz_mv φ v).category = 1 := by cases v <;> rfl
def mz_cell (aI aB : ClassId) (φ : List Nat) : mz_C → va_E
  | .inl a => .inl (if a.1 = 0 then aI else aB, a.2.1, .inl a.2.2)
  | .inr o => .inr (o.1, o.2.map (mz_mv φ))
def mz_ws (aI aB : ClassId) (φ : List Nat) (n : Nat) (h : mz_H) : va_W := (List.range n).map (fun k => (mz_ad φ (k + 2), mz_cell aI aB φ (h (k + 2))))
def mz_clv (m : Nat) : Value → Prop
  | .ref k => k < m
  | _ => True
def mz_clc (m : Nat) : mz_C → Prop
  | .inl _ => True
  | .inr o => ∀ v ∈ o.2, mz_clv m v
def mz_cl (n : Nat) (h : mz_H) : Prop := ∀ k, k < n + 2 → mz_clc (n + 2) (h k)
theorem mz_clv_le {m m' : Nat} (hm : m ≤ m') {v : Value} (h : mz_clv m v) : mz_clv m' v := by
  cases v <;> first | exact trivial | exact Nat.lt_of_lt_of_le h hm
theorem mz_clc_le {m m' : Nat} (hm : m ≤ m') {x : mz_C} (h : mz_clc m x) : mz_clc m' x := by
  cases x with
  | inl a => exact trivial
  | inr o => exact fun v hv => mz_clv_le hm (h v hv)
theorem mz_ad_app {φ ψ : List Nat} {k : Nat} (h : k < φ.length) : mz_ad (φ ++ ψ) k = mz_ad φ k := by
  unfold mz_ad
  rw [List.getD_eq_getElem?_getD, List.getD_eq_getElem?_getD, List.getElem?_append_left h]
theorem mz_mv_app {φ ψ : List Nat} {v : Value} (h : mz_clv φ.length v) : mz_mv (φ ++ ψ) v = mz_mv φ v := by
  cases v <;> first | rfl | exact congrArg Value.ref (mz_ad_app h)
theorem mz_cell_app {aI aB : ClassId} {φ ψ : List Nat} {x : mz_C} (h : mz_clc φ.length x) : mz_cell aI aB (φ ++ ψ) x = mz_cell aI aB φ x := by
  cases x with
  | inl a => rfl
  | inr o =>
    show (Sum.inr (o.1, _) : va_E) = Sum.inr (o.1, _)
    rw [List.map_congr_left fun v hv => mz_mv_app (h v hv)]
theorem mz_ws_get {aI aB : ClassId} {φ : List Nat} {n k : Nat} {h : mz_H} (hk : k < n) : (mz_ws aI aB φ n h)[k]? = some (mz_ad φ (k + 2), mz_cell aI aB φ (h (k + 2))) := by
  unfold mz_ws
  rw [List.getElem?_map, List.getElem?_range hk]
  rfl
theorem mz_ws_len {aI aB : ClassId} {φ : List Nat} {n : Nat} {h : mz_H} : (mz_ws aI aB φ n h).length = n := by simp [mz_ws]
theorem mz_ws_set {aI aB : ClassId} {φ : List Nat} {n k : Nat} {h : mz_H} {x : mz_C} : (mz_ws aI aB φ n h).set k (mz_ad φ (k + 2), mz_cell aI aB φ x) = mz_ws aI aB φ n (mz_up h (k + 2) x) := by
  apply List.ext_getElem?
  intro i
  by_cases hi : i < n
  · rw [mz_ws_get hi]
    by_cases e : k = i
    · subst e
      rw [List.getElem?_set_self (by rw [mz_ws_len]; exact hi)]
      simp [mz_up]
    · rw [List.getElem?_set_ne e, mz_ws_get hi]
      have e3 : mz_up h (k + 2) x (i + 2) = h (i + 2) := if_neg (by omega)
      rw [e3]
  · rw [List.getElem?_eq_none (by rw [List.length_set, mz_ws_len]; omega), List.getElem?_eq_none (by rw [mz_ws_len]; omega)]
theorem mz_ws_push {aI aB : ClassId} {φ : List Nat} {n q : Nat} {h : mz_H} {x : mz_C} (hl : φ.length = n + 2) (hc : mz_cl n h) : mz_ws aI aB φ n h ++ [(q, mz_cell aI aB (φ ++ [q]) x)] = mz_ws aI aB (φ ++ [q]) (n + 1) (mz_up h (n + 2) x) := by
  unfold mz_ws
  rw [List.range_succ, List.map_append]
  congr 1
  · apply List.map_congr_left
    intro k hk
    have hk := List.mem_range.mp hk
    have e : mz_up h (n + 2) x (k + 2) = h (k + 2) := if_neg (by omega)
    have hcl : mz_clc φ.length (h (k + 2)) := by rw [hl]; exact hc (k + 2) (by omega)
    rw [e, mz_ad_app (by omega), mz_cell_app hcl]
  · have e : mz_up h (n + 2) x (n + 2) = x := if_pos rfl
    have e2 : mz_ad (φ ++ [q]) (n + 2) = q := by
      unfold mz_ad
      rw [List.getD_eq_getElem?_getD, List.getElem?_append_right (by omega), ← hl]
      simp
    simp only [List.map_cons, List.map_nil]
    rw [e, e2]
theorem mz_cl_push {n : Nat} {h : mz_H} {x : mz_C} (hc : mz_cl n h) (hx : mz_clc (n + 3) x) : mz_cl (n + 1) (mz_up h (n + 2) x) := by
  intro k hk
  by_cases e : k = n + 2
  · subst e
    have : mz_up h (n + 2) x (n + 2) = x := if_pos rfl
    rw [this]
    exact hx
  · have : mz_up h (n + 2) x k = h k := if_neg e
    rw [this]
    exact mz_clc_le (by omega) (hc k (by omega))
theorem mz_cl_set {n a : Nat} {h : mz_H} {x : mz_C} (hc : mz_cl n h) (hx : mz_clc (n + 2) x) : mz_cl n (mz_up h a x) := by
  intro k hk
  by_cases e : k = a
  · subst e
    have : mz_up h k x k = x := if_pos rfl
    rw [this]
    exact hx
  · have : mz_up h a x k = h k := if_neg e
    rw [this]
    exact hc k hk
theorem mz_dfm {φ : List Nat} {i : Nat} : (mz_df i).map (mz_mv φ) = mz_df i := by
  unfold mz_df
  rw [List.map_map]
  apply List.map_congr_left
  intro k _
  show mz_mv φ (match mz_ty i k with
    | .int => Value.int 0
    | _ => Value.null) = (match mz_ty i k with
    | .int => Value.int 0
    | _ => Value.null)
  generalize mz_ty i k = t
  cases t <;> rfl
theorem mz_dfc {m i : Nat} : mz_clc m (.inr (i, mz_df i)) := by
  intro v hv
  obtain ⟨k, _, rfl⟩ := List.mem_map.mp hv
  split <;> exact trivial
/-! locals -/
def mz_loc (φ : List Nat) (nL : Nat) (L : List (Option Value)) (ls : Array Slot) : Prop := ls.size = nL ∧ lv_wf ls ∧ L.length = nL ∧ ∀ i v, mz_nth L i = some v → ls[i]? = some (.val (mz_mv φ v))
def mz_lv (φ : List Nat) (L : List (Option Value)) : List (Nat × Value) := (List.range L.length).filterMap (fun i => (mz_nth L i).map (fun v => (i, mz_mv φ v)))
theorem mz_nth_lt : ∀ {L : List (Option Value)} {i : Nat} {v : Value}, mz_nth L i = some v → i < L.length
  | [], _, _, h => by cases h
  | _ :: _, 0, _, _ => Nat.succ_pos _
  | _ :: r, k + 1, _, h => Nat.succ_lt_succ (mz_nth_lt (L := r) h)
theorem mz_put_spec : ∀ {L : List (Option Value)} {k : Nat} {v : Value} {L' : List (Option Value)}, mz_put L k v = some L' → k < L.length ∧ L'.length = L.length ∧ mz_nth L' k = some v ∧ ∀ j, j ≠ k → mz_nth L' j = mz_nth L j
  | [], _, _, _, h => by cases h
  | a :: r, 0, v, L', h => by
    have e : some v :: r = L' := Option.some.inj h
    subst e
    refine ⟨Nat.succ_pos _, rfl, rfl, fun j hj => ?_⟩
    cases j with
    | zero => exact absurd rfl hj
    | succ j => rfl
  | a :: r, k + 1, v, L', h => by
    unfold mz_put at h
    cases hp : mz_put r k v with
    | none => rw [hp] at h; cases h
    | some r' =>
      rw [hp] at h
      have e : a :: r' = L' := Option.some.inj h
      subst e
      obtain ⟨h1, h2, h3, h4⟩ := mz_put_spec hp
      refine ⟨Nat.succ_lt_succ h1, congrArg Nat.succ h2, h3, fun j hj => ?_⟩
      cases j with
      | zero => rfl
      | succ j => exact h4 j (fun z => hj (congrArg Nat.succ z))
theorem mz_lv_mem {φ : List Nat} {L : List (Option Value)} {i : Nat} {v : Value} (h : mz_nth L i = some v) : (i, mz_mv φ v) ∈ mz_lv φ L := List.mem_filterMap.mpr ⟨i, List.mem_range.mpr (mz_nth_lt h), by rw [h]; rfl⟩
theorem mz_loc.has {φ : List Nat} {nL : Nat} {L : List (Option Value)} {ls : Array Slot} (h : mz_loc φ nL L ls) : lv_has ls nL (mz_lv φ L) := by
  refine ⟨h.1, h.2.1, fun q hq => ?_⟩
  obtain ⟨i, _, hi⟩ := List.mem_filterMap.mp hq
  cases hn : mz_nth L i with
  | none => rw [hn] at hi; cases hi
  | some v =>
    rw [hn] at hi
    have e : (i, mz_mv φ v) = q := Option.some.inj hi
    rw [← e]
    exact h.2.2.2 i v hn
theorem mz_loc.put {φ : List Nat} {nL k : Nat} {L L' : List (Option Value)} {ls ls' : Array Slot} {v w : Value} (h : mz_loc φ nL L ls) (hp : mz_put L k v = some L') (hw : w = mz_mv φ v) (hh : lv_has ls' nL ((k, w) :: (mz_lv φ L).filter (fun q => !(q.1 == k) && !(q.1 + 1 == k && q.2.category == 2)))) : mz_loc φ nL L' ls' := by
  obtain ⟨h1, h2, h3, h4⟩ := mz_put_spec hp
  subst hw
  refine ⟨hh.1, hh.2.1, by rw [h2]; exact h.2.2.1, fun i u hu => ?_⟩
  by_cases e : i = k
  · subst e
    have e2 : v = u := Option.some.inj (h3.symm.trans hu)
    subst e2
    exact hh.2.2 _ List.mem_cons_self
  · rw [h4 i e] at hu
    refine hh.2.2 (i, mz_mv φ u) (List.mem_cons_of_mem _ (List.mem_filter.mpr ⟨mz_lv_mem hu, ?_⟩))
    have c := mz_mv_cat φ u
    simp [e, c]
theorem mz_loc.app {φ ψ : List Nat} {nL n : Nat} {L : List (Option Value)} {ls : Array Slot} (h : mz_loc φ nL L ls) (hl : φ.length = n + 2) (hc : ∀ i v, mz_nth L i = some v → mz_clv (n + 2) v) : mz_loc (φ ++ ψ) nL L ls :=
  ⟨h.1, h.2.1, h.2.2.1, fun i v hv => by rw [mz_mv_app (by rw [hl]; exact hc i v hv)]; exact h.2.2.2 i v hv⟩
theorem mz_ini_nth : ∀ {k : Nat} {as : List Value} {i : Nat} {v : Value}, mz_nth (mz_ini k as) i = some v → as[i]? = some v
  | 0, _, _, _, h => by cases h
  | _ + 1, [], 0, _, h => by cases h
  | k + 1, [], i + 1, v, h => by have := mz_ini_nth (k := k) (as := []) (i := i) (v := v) h; simp at this
  | _ + 1, _ :: _, 0, _, h => h
  | k + 1, _ :: r, i + 1, v, h => by have := mz_ini_nth (k := k) (as := r) (i := i) (v := v) h; simpa using this
theorem mz_ini_len : ∀ (k : Nat) (as : List Value), (mz_ini k as).length = k
  | 0, _ => rfl
  | k + 1, [] => congrArg Nat.succ (mz_ini_len k [])
  | k + 1, _ :: r => congrArg Nat.succ (mz_ini_len k r)
theorem mz_lvargs {φ : List Nat} : ∀ (as : List Value) (j i : Nat) (v : Value), as[i]? = some v → (j + i, mz_mv φ v) ∈ lv_args j (as.map (mz_mv φ))
  | [], _, _, _, h => by simp at h
  | a :: r, j, 0, v, h => by
    simp only [List.getElem?_cons_zero, Option.some.injEq] at h
    subst h
    exact List.mem_cons_self
  | a :: r, j, i + 1, v, h => by
    rw [List.getElem?_cons_succ] at h
    have := mz_lvargs (φ := φ) r (j + 1) i v h
    rw [show j + (i + 1) = j + 1 + i by omega]
    refine List.mem_cons_of_mem _ ?_
    rw [if_neg (by rw [mz_mv_cat]; decide)]
    exact this
theorem mz_lgl {φ : List Nat} : ∀ (as : List Value), (lg_sl (as.map (mz_mv φ))).length = as.length
  | [] => rfl
  | a :: r => by
    have := mz_lgl (φ := φ) r
    unfold lg_sl at this ⊢
    rw [List.map_cons, List.flatMap_cons, if_neg (by rw [mz_mv_cat]; decide), List.length_append, this]
    simp [Nat.add_comm]
theorem mz_spl_spec : ∀ {k : Nat} {st acc as r : List Value}, mz_spl k st acc = some (as, r) → acc.reverse ++ st = as.reverse ++ r ∧ as.length = k + acc.length
  | 0, st, acc, as, r, h => by
    have e := Option.some.inj h
    cases e
    exact ⟨rfl, by omega⟩
  | k + 1, [], acc, as, r, h => by cases h
  | k + 1, v :: t, acc, as, r, h => by
    obtain ⟨h1, h2⟩ := mz_spl_spec (k := k) (st := t) (acc := v :: acc) h
    refine ⟨?_, by rw [h2, List.length_cons]; omega⟩
    rw [← h1]
    simp
end
section
/-! THE WALK: each step of the little machine is a step of the machine -/
def mz_WS (M : mz_M) : List Cond := Cond.code M.1 M.2.1 M.2.2.1 M.2.2.2.1 :: mz_gw
def mz_rm (d idx : Nat) (as : List Value) : Room := { frames := d, cells := (mz_al idx as).1, slots := (mz_al idx as).2, locals := 30 * d }
abbrev mz_tys (aI aB : ClassId) : List (ClassId × FieldType) := [(aI, .int), (aB, .boolean)]
/-- the arrays that nobody writes: the first zones, the script -/
def mz_RO (t0 t1 L1 : Nat) (xs : Nat → Int32) (A : Nat → Prop) (U : State) (H : Heap) : Prop := va_T .int t0 8 (fun j => .int (mz_zn j)) A U H ∧ va_Z "TapLedger$Tariff" "FIRST_ZONES" "[I" (.ref t0) A U H ∧ va_T .int t1 L1 (fun j => .int (xs j)) A U H
def mz_In (D : va_G) (aI aB : ClassId) (φ : List Nat) (n : Nat) (h : mz_H) (sz L1 : Nat) (xs : Nat → Int32) (U : State) : Prop := U.heap.size = sz ∧ va_P D mz_cls (mz_ws aI aB φ n h) U.heap ∧ va_K D mz_cls (mz_tys aI aB) U ∧ va_D (fun _ => True) (mz_ws aI aB φ n h) ∧ (∀ w ∈ mz_nw, va_Nw w U) ∧ mz_RO (mz_ad φ 0) (mz_ad φ 1) L1 xs (va_A (mz_ws aI aB φ n h) sz) U U.heap
def mz_Pc (D : va_G) (aI aB : ClassId) (φ : List Nat) (n : Nat) (h : mz_H) (sz L1 : Nat) (xs : Nat → Int32) (as : List Value) : Array Value → State → Prop := va_Pc (as.map (mz_mv φ)) (mz_In D aI aB φ n h sz L1 xs)
def mz_Out (D : va_G) (aI aB : ClassId) (φ : List Nat) (n : Nat) (h : mz_H) (sz : Nat) (r : Option Value) (φ' : List Nat) (n' : Nat) (h' : mz_H) (H : Heap) : Prop := (∃ ψ, φ' = φ ++ ψ) ∧ φ'.length = n' + 2 ∧ mz_cl n' h' ∧ (∀ v, r = some v → mz_clv (n' + 2) v) ∧ h' 0 = h 0 ∧ h' 1 = h 1 ∧ va_P D mz_cls (mz_ws aI aB φ' n' h') H ∧ va_D (va_A (mz_ws aI aB φ n h) sz) (mz_ws aI aB φ' n' h')
def mz_Qc (D : va_G) (aI aB : ClassId) (φ : List Nat) (n : Nat) (h : mz_H) (sz : Nat) (Q : mz_Q) : Array Value → State → Outcome → State → Prop := fun _ st o t => (∃ (r : Option Value) (φ' : List Nat) (n' : Nat) (h' : mz_H), o = .returned (r.map (mz_mv φ')) ∧ Q r n' h' ∧ mz_Out D aI aB φ n h sz r φ' n' h' t.heap) ∧ va_F (va_A (mz_ws aI aB φ n h) sz) st t
/-- calls are contracts: at most d - 1 deep below -/
def mz_Snd (d : Nat) (K : mz_K) : Prop := ∀ idx as n h Q, K idx as n h Q → 1 ≤ d ∧ ∃ M, mz_tab[idx]? = some M ∧ ∀ (l : Launch) (D : va_G) (aI aB : ClassId) (φ : List Nat) (sz L1 : Nat) (xs : Nat → Int32), φ.length = n + 2 → mz_cl n h → (∀ v ∈ as, mz_clv (n + 2) v) → h 0 = .inl (0, 8, mz_zn) → h 1 = .inl (0, L1, xs) → Met l M.1 (mz_WS M) (mz_rm (d - 1) idx as) (mz_Pc D aI aB φ n h sz L1 xs as) (mz_Qc D aI aB φ n h sz Q) (mz_al idx as).1 (mz_al idx as).2 (va_A (mz_ws aI aB φ n h) sz)
theorem mz_RO.to {t0 t1 L1 : Nat} {xs : Nat → Int32} {A B : Nat → Prop} {U V : State} {H H1 : Heap} (h : mz_RO t0 t1 L1 xs A U H) (hvm : U.vm.Alike V.vm) (hq : ∀ a : Nat, a < H.size → ¬ A a → H1[a]? = H[a]?) (hAB : ∀ q, B q → A q) : mz_RO t0 t1 L1 xs B V H1 :=
  ⟨((h.1.kept hq).narrow hAB).moved hvm, ((h.2.1.kept hq).narrow hAB).moved hvm, ((h.2.2.kept hq).narrow hAB).moved hvm⟩
theorem mz_nwW {s U : State} (hW : s.WarmedH U.vm) (h : ∀ w ∈ mz_nw, va_Nw w s) : ∀ w ∈ mz_nw, va_Nw w U := by
  intro w hw
  have h1 := (List.mem_filter.mp hw).2
  have h2 := h w hw
  cases w <;> first | exact absurd h1 Bool.false_ne_true | exact va_Nw.warmF hW h2 | exact va_Nw.warmM hW h2
theorem mz_nwT {w : Cond} (hw : w ∈ mz_nw) : w.onTables = true := by
  have h1 := (List.mem_filter.mp hw).2
  cases w <;> first | exact absurd h1 Bool.false_ne_true | rfl
theorem mz_Pc.blind {D : va_G} {aI aB : ClassId} {φ : List Nat} {n : Nat} {h : mz_H} {sz L1 : Nat} {xs : Nat → Int32} {as : List Value} : FrameBlind (mz_Pc D aI aB φ n h sz L1 xs as) := by
  intro a U g mk q
  obtain ⟨q0, q1, q2, q3, q4, q5, q6⟩ := q
  exact ⟨q0, q1, q2, va_K.moved (u := U) (U := U.calling g mk a) (Vm.Alike.refl U.vm) q3, q4, fun w hw => va_Nw.same (mz_nwT hw) (u := U) (U := U.calling g mk a) rfl (q5 w hw), mz_RO.to (U := U) (V := U.calling g mk a) q6 (Vm.Alike.refl U.vm) (fun _ _ _ => rfl) (fun _ z => z)⟩
section MZ
variable {p : Program} {l : Launch} {e : Env} {R : Room} {s : State} {m : MethodId} {args : Array Value} {below : List Frame} {meth : Method} {c : Code} {Qf : State → Prop}
variable {cc : ByteArray} {nL own kind d rk : Nat} {D : va_G} {aI aB : ClassId} {A : Nat → Prop} {φ0 : List Nat} {L1 : Nat} {xs : Nat → Int32} {code : List mz_I} {K : mz_K} {Q : mz_Q}
def mz_ctx (p : Program) (R : Room) (s : State) (m : MethodId) (args : Array Value) (meth : Method) (c : Code) (cc : ByteArray) (nL own kind d : Nat) (D : va_G) (aI aB : ClassId) (A : Nat → Prop) (φ0 : List Nat) (L1 : Nat) (xs : Nat → Int32) (code : List mz_I) : Prop :=
  p.tables.exec = Jvm.exec ∧ c.code = cc ∧ c.maxLocals = nL ∧ s.vm.findClass (mz_RN own) = some m.cls ∧ (∀ w ∈ mz_gw, w.before args s = true) ∧ (∀ w ∈ mz_nw, va_Nw w s) ∧ va_K D mz_cls (mz_tys aI aB) s ∧ (∀ q, s.heap.size ≤ q → A q) ∧ mz_RO (mz_ad φ0 0) (mz_ad φ0 1) L1 xs A s s.heap ∧ (d ≤ R.frames ∧ 30 * d ≤ R.locals) ∧ (kind = 2 → meth.name = "<init>") ∧ (∀ pc q, mz_lk code pc = some q → decode cc pc = .ok (q.1, q.2.1) ∧ mz_chk own kind (pc, q) = true) ∧ 2 ≤ φ0.length
def mz_sim (R : Room) (s : State) (nL : Nat) (D : va_G) (aI aB : ClassId) (A : Nat → Prop) (φ0 : List Nat) (L1 : Nat) (xs : Nat → Int32) (L : List (Option Value)) (st : List Value) (n : Nat) (h : mz_H) (bc bs : Nat) (φ : List Nat) (ls : Array Slot) (H : Heap) (locs : List Loc) (cells slots : Nat) : Prop :=
  mz_loc φ nL L ls ∧ (va_P D mz_cls (mz_ws aI aB φ n h) H ∧ va_D A (mz_ws aI aB φ n h) ∧ va_S A s.heap H locs) ∧ (φ.length = n + 2 ∧ mz_cl n h ∧ (∀ v ∈ st, mz_clv (n + 2) v) ∧ (∀ i v, mz_nth L i = some v → mz_clv (n + 2) v)) ∧ (h 0 = .inl (0, 8, mz_zn) ∧ h 1 = .inl (0, L1, xs) ∧ ∃ ψ, φ = φ0 ++ ψ) ∧ (cells + bc = R.cells ∧ slots + bs = R.slots)
def mz_XW (p : Program) (l : Launch) (e : Env) (R : Room) (s : State) (m : MethodId) (args : Array Value) (below : List Frame) (meth : Method) (c : Code) (Qf : State → Prop) (nL : Nat) (D : va_G) (aI aB : ClassId) (A : Nat → Prop) (φ0 : List Nat) (L1 : Nat) (xs : Nat → Int32) : mz_X := fun pc L st n h bc bs => ∀ (φ : List Nat) (ls : Array Slot) (H : Heap) (locs : List Loc) (cells slots : Nat), mz_sim R s nL D aI aB A φ0 L1 xs L st n h bc bs φ ls H locs cells slots → W p l e R s m args below meth c H locs cells slots Qf (F0 m pc ls (st.map (mz_mv φ)))
variable {L : List (Option Value)} {st : List Value} {n : Nat} {h : mz_H} {bc bs : Nat} {φ : List Nat} {ls : Array Slot} {H : Heap} {locs : List Loc} {cells slots pc : Nat}
theorem mz_sim.stk {st' : List Value} (q : mz_sim R s nL D aI aB A φ0 L1 xs L st n h bc bs φ ls H locs cells slots) (hv : ∀ v ∈ st', mz_clv (n + 2) v) : mz_sim R s nL D aI aB A φ0 L1 xs L st' n h bc bs φ ls H locs cells slots :=
  ⟨q.1, q.2.1, ⟨q.2.2.1.1, q.2.2.1.2.1, hv, q.2.2.1.2.2.2⟩, q.2.2.2⟩
theorem mz_sim.clst (q : mz_sim R s nL D aI aB A φ0 L1 xs L st n h bc bs φ ls H locs cells slots) : ∀ v ∈ st, mz_clv (n + 2) v := q.2.2.1.2.2.1
theorem mz_sim.lput {L' : List (Option Value)} {k : Nat} {v : Value} {st' : List Value} {ls' : Array Slot} (q : mz_sim R s nL D aI aB A φ0 L1 xs L st n h bc bs φ ls H locs cells slots) (hp : mz_put L k v = some L') (hl : mz_loc φ nL L' ls') (hv : mz_clv (n + 2) v) (hst : ∀ v ∈ st', mz_clv (n + 2) v) : mz_sim R s nL D aI aB A φ0 L1 xs L' st' n h bc bs φ ls' H locs cells slots := by
  refine ⟨hl, q.2.1, ⟨q.2.2.1.1, q.2.2.1.2.1, hst, fun i u hu => ?_⟩, q.2.2.2⟩
  obtain ⟨h1, h2, h3, h4⟩ := mz_put_spec hp
  by_cases e : i = k
  · subst e
    have e2 : v = u := Option.some.inj (h3.symm.trans hu)
    rw [← e2]
    exact hv
  · rw [h4 i e] at hu
    exact q.2.2.1.2.2.2 i u hu
theorem mz_sim.hput {h' : mz_H} {H' : Heap} {locs' : List Loc} {st' : List Value} (q : mz_sim R s nL D aI aB A φ0 L1 xs L st n h bc bs φ ls H locs cells slots) (hP : va_P D mz_cls (mz_ws aI aB φ n h') H') (hD : va_D A (mz_ws aI aB φ n h')) (hS : va_S A s.heap H' locs') (hc : mz_cl n h') (h0 : h' 0 = h 0) (h1 : h' 1 = h 1) (hst : ∀ v ∈ st', mz_clv (n + 2) v) : mz_sim R s nL D aI aB A φ0 L1 xs L st' n h' bc bs φ ls H' locs' cells slots :=
  ⟨q.1, ⟨hP, hD, hS⟩, ⟨q.2.2.1.1, hc, hst, q.2.2.1.2.2.2⟩, ⟨h0.trans q.2.2.2.1.1, h1.trans q.2.2.2.1.2.1, q.2.2.2.1.2.2⟩, q.2.2.2.2⟩
/-- a new cell -/
theorem mz_sim.hnew {x : mz_C} {q0 k : Nat} {H' : Heap} {st' : List Value} (q : mz_sim R s nL D aI aB A φ0 L1 xs L st n h bc bs φ ls H locs cells slots) (hP : va_P D mz_cls (mz_ws aI aB φ n h ++ [(q0, mz_cell aI aB (φ ++ [q0]) x)]) H') (hD : va_D A (mz_ws aI aB φ n h ++ [(q0, mz_cell aI aB (φ ++ [q0]) x)])) (hS : va_S A s.heap H' locs) (hx : mz_clc (n + 3) x) (hst : ∀ v ∈ st', mz_clv (n + 3) v) (hb : 1 ≤ bc) (hk : k ≤ bs) : mz_sim R s nL D aI aB A φ0 L1 xs L st' (n + 1) (mz_up h (n + 2) x) (bc - 1) (bs - k) (φ ++ [q0]) ls H' locs (cells + 1) (slots + k) := by
  obtain ⟨q1, q2, ⟨c1, c2, c3, c4⟩, ⟨r1, r2, ψ, r3⟩, b1, b2⟩ := q
  rw [mz_ws_push c1 c2] at hP hD
  refine ⟨q1.app c1 c4, ⟨hP, hD, hS⟩, ⟨by rw [List.length_append, c1]; rfl, mz_cl_push c2 hx, hst, fun i v hv => mz_clv_le (by omega) (c4 i v hv)⟩, ⟨?_, ?_, ψ ++ [q0], by rw [r3, List.append_assoc]⟩, by omega, by omega⟩
  · rw [← r1]
    exact if_neg (by omega)
  · rw [← r2]
    exact if_neg (by omega)
theorem mz_mapE {v : Value} {r : List Value} : (v :: r).map (mz_mv φ) = mz_mv φ v :: r.map (mz_mv φ) := rfl
/-- fields -/
theorem sd_get (C0 : mz_ctx p R s m args meth c cc nL own kind d D aI aB A φ0 L1 xs code) {cp len x y a : Nat} {r : List Value} {fs : List Value} {v : Value} (hd : decode cc pc = .ok (.getfield cp, len)) (hk : mz_chk own kind (pc, .getfield cp, len, x, y) = true) (ha : h a = .inr (x, fs)) (hv : fs[y]? = some v) (hy : y < mz_N x) (q : mz_sim R s nL D aI aB A φ0 L1 xs L (.ref a :: r) n h bc bs φ ls H locs cells slots) (hX : mz_XW p l e R s m args below meth c Qf nL D aI aB A φ0 L1 xs (pc + 3) L (v :: r) n h bc bs) : W p l e R s m args below meth c H locs cells slots Qf (F0 m pc ls ((.ref a :: r).map (mz_mv φ))) := by
  obtain ⟨hx, hb, hml, hown, hts, hnw, hK, hA, hRO, hR, hin, hcode, hφ⟩ := C0
  have hcl := q.clst
  have ha2 : a < n + 2 := hcl _ List.mem_cons_self
  have hge : 2 ≤ a := by
    rcases Nat.lt_or_ge a 2 with z | z
    · rcases (show a = 0 ∨ a = 1 by omega) with rfl | rfl
      · rw [q.2.2.2.1.1] at ha; cases ha
      · rw [q.2.2.2.1.2.1] at ha; cases ha
    · exact z
  obtain ⟨j, rfl⟩ : ∃ j, a = j + 2 := ⟨a - 2, by omega⟩
  have hg := mz_ws_get (aI := aI) (aB := aB) (φ := φ) (h := h) (show j < n by omega)
  rw [ha] at hg
  have hcv : mz_clv (n + 2) v := by
    have z := q.2.2.1.2.1 (j + 2) ha2
    rw [ha] at z
    exact z v (List.mem_of_getElem? hv)
  have hkk := hX φ ls H locs cells slots (q.stk (fun w hw => (List.mem_cons.mp hw).elim (fun z => z ▸ hcv) (fun z => hcl w (List.mem_cons_of_mem _ z))))
  simp only [mz_chk, Bool.and_eq_true, Bool.or_eq_true, List.contains_eq_mem, decide_eq_true_eq, beq_iff_eq] at hk
  obtain ⟨rfl, hk⟩ := hk
  have hx12 : x < 12 := by
    have key : ∀ e ∈ mz_FL, e.2.2.1 < 12 := by decide +kernel
    rcases hk with z | z
    · exact key _ z
    · exact key _ z
  have hvm : (fs.map (mz_mv φ))[y]? = some (mz_mv φ v) := by rw [List.getElem?_map, hv]; rfl
  have hdecl := ((mz_cls1 hx12).1 y hy).2.2.2
  rcases hk with z | z
  · exact va_get (D := D) (ci := x) (C := mz_RN x) (T := mz_F x) (N := mz_N x) (Ts := mz_gw) (ref := mz_RN x) hx hb hts (mz_uws hx12) hown hK q.2.1.1 j hg (mz_clsAt hx12) y hy (hts _ (mz_FLw0 z)) (fun _ h9 => by rw [hdecl] at h9; exact h9) hvm hd hkk
  · exact va_getN (D := D) (ci := x) (C := mz_RN x) (T := mz_F x) (N := mz_N x) (Ts := mz_gw) (ref := mz_RN x) (host := "TapLedger") hx hb hts (mz_uws hx12) hown hK q.2.1.1 j hg (mz_clsAt hx12) y hy (va_Nw.use rfl (hnw _ (mz_FLw1 z))) (fun _ h9 => by rw [hdecl] at h9; exact h9) hvm hd hkk
theorem mz_vt_ok {ty : FieldType} {v : Value} (h : mz_vt ty v = true) : narrow ty (mz_mv φ v) = mz_mv φ v ∧ fits ty (mz_mv φ v) = true := by
  cases ty <;> cases v <;> first | exact ⟨rfl, rfl⟩ | exact absurd h Bool.false_ne_true
theorem sd_put (C0 : mz_ctx p R s m args meth c cc nL own kind d D aI aB A φ0 L1 xs code) {cp len x y a : Nat} {r : List Value} {fs : List Value} {v : Value} (hd : decode cc pc = .ok (.putfield cp, len)) (hk : mz_chk own kind (pc, .putfield cp, len, x, y) = true) (ha : h a = .inr (x, fs)) (hl : y < fs.length) (hy : y < mz_N x) (ht : mz_vt (mz_ty x y) v = true) (q : mz_sim R s nL D aI aB A φ0 L1 xs L (v :: .ref a :: r) n h bc bs φ ls H locs cells slots) (hX : mz_XW p l e R s m args below meth c Qf nL D aI aB A φ0 L1 xs (pc + 3) L r n (mz_up h a (.inr (x, fs.set y v))) bc bs) : W p l e R s m args below meth c H locs cells slots Qf (F0 m pc ls ((v :: .ref a :: r).map (mz_mv φ))) := by
  obtain ⟨hx, hb, hml, hown, hts, hnw, hK, hA, hRO, hR, hin, hcode, hφ⟩ := C0
  have hcl := q.clst
  have ha2 : a < n + 2 := hcl (.ref a) (List.mem_cons_of_mem _ List.mem_cons_self)
  have hge : 2 ≤ a := by
    rcases Nat.lt_or_ge a 2 with z | z
    · rcases (show a = 0 ∨ a = 1 by omega) with rfl | rfl
      · rw [q.2.2.2.1.1] at ha; cases ha
      · rw [q.2.2.2.1.2.1] at ha; cases ha
    · exact z
  obtain ⟨j, rfl⟩ : ∃ j, a = j + 2 := ⟨a - 2, by omega⟩
  have hg := mz_ws_get (aI := aI) (aB := aB) (φ := φ) (h := h) (show j < n by omega)
  rw [ha] at hg
  simp only [mz_chk, Bool.and_eq_true, Bool.or_eq_true, List.contains_eq_mem, decide_eq_true_eq, beq_iff_eq, Bool.not_eq_true'] at hk
  obtain ⟨⟨rfl, hk⟩, hf⟩ := hk
  have hx12 : x < 12 := by
    have key : ∀ e ∈ mz_FL, e.2.2.1 < 12 := by decide +kernel
    exact key _ hk
  obtain ⟨hlay, hpar, hne, hdecl⟩ := (mz_cls1 hx12).1 y hy
  obtain ⟨hn1, hn2⟩ := mz_vt_ok (φ := φ) ht
  have hcfs := q.2.2.1.2.1 (j + 2) ha2
  rw [ha] at hcfs
  have hkk : ∀ (H1 : Heap) (locs1 : List Loc), va_P D mz_cls ((mz_ws aI aB φ n h).set j (mz_ad φ (j + 2), .inr (x, (fs.map (mz_mv φ)).set y (mz_mv φ v)))) H1 → va_D A ((mz_ws aI aB φ n h).set j (mz_ad φ (j + 2), .inr (x, (fs.map (mz_mv φ)).set y (mz_mv φ v)))) → va_S A s.heap H1 locs1 → W p l e R s m args below meth c H1 locs1 cells slots Qf (F0 m (pc + 3) ls (r.map (mz_mv φ))) := by
    intro H1 locs1 hP hD hS
    have e2 : (Sum.inr (x, (fs.map (mz_mv φ)).set y (mz_mv φ v)) : va_E) = mz_cell aI aB φ (.inr (x, fs.set y v)) := by
      show _ = (Sum.inr (x, (fs.set y v).map (mz_mv φ)) : va_E)
      rw [List.map_set]
    rw [e2, mz_ws_set] at hP hD
    refine hX φ ls H1 locs1 cells slots (q.hput hP hD hS (mz_cl_set q.2.2.1.2.1 ?_) (if_neg (by omega)) (if_neg (by omega)) (fun w hw => hcl w (List.mem_cons_of_mem _ (List.mem_cons_of_mem _ hw))))
    intro w hw
    rcases List.mem_or_eq_of_mem_set hw with z | z
    · exact hcfs w z
    · rw [z]
      exact hcl v List.mem_cons_self
  have hlm : y < (fs.map (mz_mv φ)).length := by rw [List.length_map]; exact hl
  cases hfin : (mz_F x y).2.2.2 with
  | false => exact va_put (D := D) (ci := x) (C := mz_RN x) (T := mz_F x) (N := mz_N x) (Ts := mz_gw) (ref := mz_RN x) hx hb hts (mz_uws hx12) (mz_ty x) (fun k hk => ((mz_cls1 hx12).1 k hk).2.1) (fun a ha b hb hab => ((mz_cls1 hx12).1 a ha).2.2.1 b hb hab) hown hK q.2.1.1 q.2.1.2.1 q.2.1.2.2 j hg (mz_clsAt hx12) y hy (hts _ (mz_FLw0 hk)) (fun _ h9 => by rw [hdecl] at h9; exact h9) hfin hpar hn1 hn2 hlm hd hkk
  | true =>
    rw [hfin] at hf
    obtain ⟨k2, ko⟩ := hf.resolve_left (by decide)
    exact va_putF (D := D) (ci := x) (C := mz_RN x) (T := mz_F x) (N := mz_N x) (Ts := mz_gw) (ref := mz_RN x) hx hb hts (mz_uws hx12) (mz_ty x) (fun k hk => ((mz_cls1 hx12).1 k hk).2.1) (fun a ha b hb hab => ((mz_cls1 hx12).1 a ha).2.2.1 b hb hab) hown hK q.2.1.1 q.2.1.2.1 q.2.1.2.2 j hg (mz_clsAt hx12) y hy (hts _ (mz_FLw0 hk)) (fun _ h9 => by rw [hdecl] at h9; exact h9) hfin (hin k2) (by rw [hdecl, ko]) hpar hn1 hn2 hlm hd hkk
end MZ
end
section
/-! arrays, new cells, calls -/
section MZ2
variable {p : Program} {l : Launch} {e : Env} {R : Room} {s : State} {m : MethodId} {args : Array Value} {below : List Frame} {meth : Method} {c : Code} {Qf : State → Prop}
variable {cc : ByteArray} {nL own kind d rk : Nat} {D : va_G} {aI aB : ClassId} {A : Nat → Prop} {φ0 : List Nat} {L1 : Nat} {xs : Nat → Int32} {code : List mz_I} {K : mz_K} {Q : mz_Q}
variable {L : List (Option Value)} {st : List Value} {n : Nat} {h : mz_H} {bc bs : Nat} {φ : List Nat} {ls : Array Slot} {H : Heap} {locs : List Loc} {cells slots pc : Nat}
theorem mz_sim.ad0 (hφ : 2 ≤ φ0.length) (q : mz_sim R s nL D aI aB A φ0 L1 xs L st n h bc bs φ ls H locs cells slots) : mz_ad φ 0 = mz_ad φ0 0 ∧ mz_ad φ 1 = mz_ad φ0 1 := by
  obtain ⟨ψ, r3⟩ := q.2.2.2.1.2.2
  rw [r3]
  exact ⟨mz_ad_app (by omega), mz_ad_app (by omega)⟩
theorem mz_tl {v : Value} {P : Value → Prop} {r : List Value} (h : ∀ w ∈ v :: r, P w) : ∀ w ∈ r, P w := fun w hw => h w (List.mem_cons_of_mem _ hw)
theorem mz_cs {v : Value} {P : Value → Prop} {r : List Value} (hv : P v) (h : ∀ w ∈ r, P w) : ∀ w ∈ v :: r, P w := fun w hw => (List.mem_cons.mp hw).elim (fun z => z ▸ hv) (h w)
theorem sd_iald (C0 : mz_ctx p R s m args meth c cc nL own kind d D aI aB A φ0 L1 xs code) {a m' : Nat} {f : Nat → Int32} {i : Int32} {r : List Value} (hd : decode cc pc = .ok (.iaload, 1)) (ha : h a = .inl (0, m', f)) (hin : vp_in i m') (q : mz_sim R s nL D aI aB A φ0 L1 xs L (.int i :: .ref a :: r) n h bc bs φ ls H locs cells slots) (hX : mz_XW p l e R s m args below meth c Qf nL D aI aB A φ0 L1 xs (pc + 1) L (.int (f i.toNatClampNeg) :: r) n h bc bs) : W p l e R s m args below meth c H locs cells slots Qf (F0 m pc ls ((.int i :: .ref a :: r).map (mz_mv φ))) := by
  obtain ⟨hx, hb, hml, hown, hts, hnw, hK, hA, hRO, hR, hi2, hcode, hφ⟩ := C0
  have hcl := q.clst
  have ha2 : a < n + 2 := mz_tl hcl (.ref a) List.mem_cons_self
  have hkk := hX φ ls H locs cells slots (q.stk (mz_cs trivial (mz_tl (mz_tl hcl))))
  obtain ⟨e0, e1⟩ := q.ad0 hφ
  rcases Nat.lt_or_ge a 2 with z | z
  · rcases (show a = 0 ∨ a = 1 by omega) with rfl | rfl
    · rw [q.2.2.2.1.1] at ha
      cases ha
      have hT := hRO.1
      rw [← e0] at hT
      exact va_ti hx hb hT q.2.1.2.2 hin rfl hd hkk
    · rw [q.2.2.2.1.2.1] at ha
      cases ha
      have hT := hRO.2.2
      rw [← e1] at hT
      exact va_ti hx hb hT q.2.1.2.2 hin rfl hd hkk
  · obtain ⟨j, rfl⟩ : ∃ j, a = j + 2 := ⟨a - 2, by omega⟩
    have hg := mz_ws_get (aI := aI) (aB := aB) (φ := φ) (h := h) (show j < n by omega)
    rw [ha] at hg
    exact va_iald hx hb hK q.2.1.1 j 0 hg rfl hin hd hkk
theorem sd_bald (C0 : mz_ctx p R s m args meth c cc nL own kind d D aI aB A φ0 L1 xs code) {a m' : Nat} {f : Nat → Int32} {i : Int32} {r : List Value} (hd : decode cc pc = .ok (.baload, 1)) (ha : h a = .inl (1, m', f)) (hin : vp_in i m') (q : mz_sim R s nL D aI aB A φ0 L1 xs L (.int i :: .ref a :: r) n h bc bs φ ls H locs cells slots) (hX : mz_XW p l e R s m args below meth c Qf nL D aI aB A φ0 L1 xs (pc + 1) L (.int (f i.toNatClampNeg) :: r) n h bc bs) : W p l e R s m args below meth c H locs cells slots Qf (F0 m pc ls ((.int i :: .ref a :: r).map (mz_mv φ))) := by
  obtain ⟨hx, hb, hml, hown, hts, hnw, hK, hA, hRO, hR, hi2, hcode, hφ⟩ := C0
  have hcl := q.clst
  have ha2 : a < n + 2 := mz_tl hcl (.ref a) List.mem_cons_self
  have hkk := hX φ ls H locs cells slots (q.stk (mz_cs trivial (mz_tl (mz_tl hcl))))
  have z : 2 ≤ a := by
    rcases Nat.lt_or_ge a 2 with z | z
    · rcases (show a = 0 ∨ a = 1 by omega) with rfl | rfl
      · rw [q.2.2.2.1.1] at ha; cases ha
      · rw [q.2.2.2.1.2.1] at ha; cases ha
    · exact z
  obtain ⟨j, rfl⟩ : ∃ j, a = j + 2 := ⟨a - 2, by omega⟩
  have hg := mz_ws_get (aI := aI) (aB := aB) (φ := φ) (h := h) (show j < n by omega)
  rw [ha] at hg
  exact va_zald hx hb hK q.2.1.1 j 1 hg rfl hin hd hkk
theorem sd_iast (C0 : mz_ctx p R s m args meth c cc nL own kind d D aI aB A φ0 L1 xs code) {a m' : Nat} {f : Nat → Int32} {i v : Int32} {r : List Value} (hd : decode cc pc = .ok (.iastore, 1)) (ha : h a = .inl (0, m', f)) (h2 : 2 ≤ a) (hin : vp_in i m') (q : mz_sim R s nL D aI aB A φ0 L1 xs L (.int v :: .int i :: .ref a :: r) n h bc bs φ ls H locs cells slots) (hX : mz_XW p l e R s m args below meth c Qf nL D aI aB A φ0 L1 xs (pc + 1) L r n (mz_up h a (.inl (0, m', upd f i.toNatClampNeg v))) bc bs) : W p l e R s m args below meth c H locs cells slots Qf (F0 m pc ls ((.int v :: .int i :: .ref a :: r).map (mz_mv φ))) := by
  obtain ⟨hx, hb, hml, hown, hts, hnw, hK, hA, hRO, hR, hi2, hcode, hφ⟩ := C0
  have hcl := q.clst
  have ha2 : a < n + 2 := mz_tl (mz_tl hcl) (.ref a) List.mem_cons_self
  obtain ⟨j, rfl⟩ : ∃ j, a = j + 2 := ⟨a - 2, by omega⟩
  have hg := mz_ws_get (aI := aI) (aB := aB) (φ := φ) (h := h) (show j < n by omega)
  rw [ha] at hg
  refine va_iast hx hb hK q.2.1.1 q.2.1.2.1 q.2.1.2.2 j 0 hg rfl hin hd fun H1 locs1 hP hD hS => ?_
  have e2 : (Sum.inl (aI, m', Sum.inl (upd f i.toNatClampNeg v)) : va_E) = mz_cell aI aB φ (.inl (0, m', upd f i.toNatClampNeg v)) := rfl
  rw [show (if (0, m', f).1 = 0 then aI else aB) = aI from rfl, e2, mz_ws_set] at hP hD
  exact hX φ ls H1 locs1 cells slots (q.hput hP hD hS (mz_cl_set q.2.2.1.2.1 trivial) (if_neg (by omega)) (if_neg (by omega)) (mz_tl (mz_tl (mz_tl hcl))))
theorem sd_bast (C0 : mz_ctx p R s m args meth c cc nL own kind d D aI aB A φ0 L1 xs code) {a m' : Nat} {f : Nat → Int32} {i v : Int32} {r : List Value} (hd : decode cc pc = .ok (.bastore, 1)) (ha : h a = .inl (1, m', f)) (h2 : 2 ≤ a) (hin : vp_in i m') (q : mz_sim R s nL D aI aB A φ0 L1 xs L (.int v :: .int i :: .ref a :: r) n h bc bs φ ls H locs cells slots) (hX : mz_XW p l e R s m args below meth c Qf nL D aI aB A φ0 L1 xs (pc + 1) L r n (mz_up h a (.inl (1, m', upd f i.toNatClampNeg (vp_nar .boolean v)))) bc bs) : W p l e R s m args below meth c H locs cells slots Qf (F0 m pc ls ((.int v :: .int i :: .ref a :: r).map (mz_mv φ))) := by
  obtain ⟨hx, hb, hml, hown, hts, hnw, hK, hA, hRO, hR, hi2, hcode, hφ⟩ := C0
  have hcl := q.clst
  have ha2 : a < n + 2 := mz_tl (mz_tl hcl) (.ref a) List.mem_cons_self
  obtain ⟨j, rfl⟩ : ∃ j, a = j + 2 := ⟨a - 2, by omega⟩
  have hg := mz_ws_get (aI := aI) (aB := aB) (φ := φ) (h := h) (show j < n by omega)
  rw [ha] at hg
  refine va_zast hx hb hK q.2.1.1 q.2.1.2.1 q.2.1.2.2 j 1 hg rfl hin hd fun H1 locs1 hP hD hS => ?_
  have e2 : (Sum.inl (aB, m', Sum.inl (upd f i.toNatClampNeg (vp_nar .boolean v))) : va_E) = mz_cell aI aB φ (.inl (1, m', upd f i.toNatClampNeg (vp_nar .boolean v))) := rfl
  rw [show (if (1, m', f).1 = 0 then aI else aB) = aB from rfl, e2, mz_ws_set] at hP hD
  exact hX φ ls H1 locs1 cells slots (q.hput hP hD hS (mz_cl_set q.2.2.1.2.1 trivial) (if_neg (by omega)) (if_neg (by omega)) (mz_tl (mz_tl (mz_tl hcl))))
theorem sd_alen (C0 : mz_ctx p R s m args meth c cc nL own kind d D aI aB A φ0 L1 xs code) {a t m' : Nat} {f : Nat → Int32} {r : List Value} (hd : decode cc pc = .ok (.arraylength, 1)) (ha : h a = .inl (t, m', f)) (q : mz_sim R s nL D aI aB A φ0 L1 xs L (.ref a :: r) n h bc bs φ ls H locs cells slots) (hX : mz_XW p l e R s m args below meth c Qf nL D aI aB A φ0 L1 xs (pc + 1) L (.int (nI m') :: r) n h bc bs) : W p l e R s m args below meth c H locs cells slots Qf (F0 m pc ls ((.ref a :: r).map (mz_mv φ))) := by
  obtain ⟨hx, hb, hml, hown, hts, hnw, hK, hA, hRO, hR, hi2, hcode, hφ⟩ := C0
  have hcl := q.clst
  have ha2 : a < n + 2 := hcl (.ref a) List.mem_cons_self
  have hkk := hX φ ls H locs cells slots (q.stk (mz_cs trivial (mz_tl hcl)))
  obtain ⟨e0, e1⟩ := q.ad0 hφ
  rcases Nat.lt_or_ge a 2 with z | z
  · rcases (show a = 0 ∨ a = 1 by omega) with rfl | rfl
    · rw [q.2.2.2.1.1] at ha
      cases ha
      have hT := hRO.1
      rw [← e0] at hT
      exact va_tlen hx hb hT q.2.1.2.2 rfl hd hkk
    · rw [q.2.2.2.1.2.1] at ha
      cases ha
      have hT := hRO.2.2
      rw [← e1] at hT
      exact va_tlen hx hb hT q.2.1.2.2 rfl hd hkk
  · obtain ⟨j, rfl⟩ : ∃ j, a = j + 2 := ⟨a - 2, by omega⟩
    have hg := mz_ws_get (aI := aI) (aB := aB) (φ := φ) (h := h) (show j < n by omega)
    rw [ha] at hg
    by_cases ht : t = 0
    · subst ht
      exact va_alen hx hb hK q.2.1.1 j 0 (cA := aI) (x := (m', .inl f)) hg (ty := .int) rfl rfl hd hkk
    · have hg2 : (mz_ws aI aB φ n h)[j]? = some (mz_ad φ (j + 2), .inl (aB, m', .inl f)) := by
        rw [hg]
        show some (mz_ad φ (j + 2), (Sum.inl (if t = 0 then aI else aB, m', .inl f) : va_E)) = _
        rw [if_neg ht]
      exact va_alen hx hb hK q.2.1.1 j 1 (cA := aB) (x := (m', .inl f)) hg2 (ty := .boolean) rfl rfl hd hkk
theorem sd_newI (C0 : mz_ctx p R s m args meth c cc nL own kind d D aI aB A φ0 L1 xs code) {k : Int32} {r : List Value} (hd : decode cc pc = .ok (.newarray .int, 2)) (hk : ¬ k < 0) (h1 : k.toNatClampNeg ≤ 1000) (h2 : 1 ≤ bc) (h3 : k.toNatClampNeg ≤ bs) (q : mz_sim R s nL D aI aB A φ0 L1 xs L (.int k :: r) n h bc bs φ ls H locs cells slots) (hX : mz_XW p l e R s m args below meth c Qf nL D aI aB A φ0 L1 xs (pc + 2) L (.ref (n + 2) :: r) (n + 1) (mz_up h (n + 2) (.inl (0, k.toNatClampNeg, fun _ => 0))) (bc - 1) (bs - k.toNatClampNeg)) : W p l e R s m args below meth c H locs cells slots Qf (F0 m pc ls ((.int k :: r).map (mz_mv φ))) := by
  obtain ⟨hx, hb, hml, hown, hts, hnw, hK, hA, hRO, hR, hi2, hcode, hφ⟩ := C0
  have hcl := q.clst
  have hb5 := q.2.2.2.2
  refine va_newa (atype := .int) hx hb (hts _ (mz_mem mz_arrok.1 rfl)) (ty := .int) rfl hK q.2.1.1 q.2.1.2.1 q.2.1.2.2 hA (a0 := (k.toNatClampNeg, .inl fun _ => 0)) (fun _ => rfl) hk rfl (by show _ * 4 ≤ _; omega) (by omega) (by omega) hd fun q0 cA H1 hK1 hP hD hS => ?_
  have e1 : aI = cA := Option.some.inj (((hK1.2 0 _ rfl).2 : s.vm.findClass _ = some aI).symm.trans ((hK1.2 2 _ rfl).2 : s.vm.findClass _ = some cA))
  subst e1
  have hz := q.2.2.1.1
  have sim := q.hnew (x := .inl (0, k.toNatClampNeg, fun _ => 0)) (st' := .ref (n + 2) :: r) hP hD hS trivial (mz_cs (show n + 2 < n + 3 by omega) (fun w hw => mz_clv_le (by omega) (mz_tl hcl w hw))) h2 h3
  have := hX _ ls H1 locs _ _ sim
  refine W.eq ?_ this
  show F0 m (pc + 2) ls (.ref q0 :: r.map (mz_mv φ)) = F0 m (pc + 2) ls (.ref (mz_ad (φ ++ [q0]) (n + 2)) :: r.map (mz_mv (φ ++ [q0])))
  rw [List.map_congr_left (fun w hw => mz_mv_app (φ := φ) (ψ := [q0]) (v := w) (by rw [hz]; exact mz_tl hcl w hw))]
  congr 3
  unfold mz_ad
  rw [List.getD_eq_getElem?_getD, List.getElem?_append_right (by omega), ← hz]
  simp
theorem sd_newB (C0 : mz_ctx p R s m args meth c cc nL own kind d D aI aB A φ0 L1 xs code) {k : Int32} {r : List Value} (hd : decode cc pc = .ok (.newarray .boolean, 2)) (hk : ¬ k < 0) (h1 : k.toNatClampNeg ≤ 1000) (h2 : 1 ≤ bc) (h3 : k.toNatClampNeg ≤ bs) (q : mz_sim R s nL D aI aB A φ0 L1 xs L (.int k :: r) n h bc bs φ ls H locs cells slots) (hX : mz_XW p l e R s m args below meth c Qf nL D aI aB A φ0 L1 xs (pc + 2) L (.ref (n + 2) :: r) (n + 1) (mz_up h (n + 2) (.inl (1, k.toNatClampNeg, fun _ => 0))) (bc - 1) (bs - k.toNatClampNeg)) : W p l e R s m args below meth c H locs cells slots Qf (F0 m pc ls ((.int k :: r).map (mz_mv φ))) := by
  obtain ⟨hx, hb, hml, hown, hts, hnw, hK, hA, hRO, hR, hi2, hcode, hφ⟩ := C0
  have hcl := q.clst
  have hb5 := q.2.2.2.2
  refine va_newa (atype := .boolean) hx hb (hts _ (mz_mem mz_arrok.2 rfl)) (ty := .boolean) rfl hK q.2.1.1 q.2.1.2.1 q.2.1.2.2 hA (a0 := (k.toNatClampNeg, .inl fun _ => 0)) (fun _ => rfl) hk rfl (by show _ * 1 ≤ _; omega) (by omega) (by omega) hd fun q0 cA H1 hK1 hP hD hS => ?_
  have e1 : aB = cA := Option.some.inj (((hK1.2 1 _ rfl).2 : s.vm.findClass _ = some aB).symm.trans ((hK1.2 2 _ rfl).2 : s.vm.findClass _ = some cA))
  subst e1
  have hz := q.2.2.1.1
  have sim := q.hnew (x := .inl (1, k.toNatClampNeg, fun _ => 0)) (st' := .ref (n + 2) :: r) hP hD hS trivial (mz_cs (show n + 2 < n + 3 by omega) (fun w hw => mz_clv_le (by omega) (mz_tl hcl w hw))) h2 h3
  have := hX _ ls H1 locs _ _ sim
  refine W.eq ?_ this
  show F0 m (pc + 2) ls (.ref q0 :: r.map (mz_mv φ)) = F0 m (pc + 2) ls (.ref (mz_ad (φ ++ [q0]) (n + 2)) :: r.map (mz_mv (φ ++ [q0])))
  rw [List.map_congr_left (fun w hw => mz_mv_app (φ := φ) (ψ := [q0]) (v := w) (by rw [hz]; exact mz_tl hcl w hw))]
  congr 3
  unfold mz_ad
  rw [List.getD_eq_getElem?_getD, List.getElem?_append_right (by omega), ← hz]
  simp
theorem sd_new (C0 : mz_ctx p R s m args meth c cc nL own kind d D aI aB A φ0 L1 xs code) {cp x y len : Nat} (hd : decode cc pc = .ok (.new cp, len)) (hk : mz_chk own kind (pc, .new cp, len, x, y) = true) (hx12 : x < 12) (h2 : 1 ≤ bc) (h3 : mz_N x ≤ bs) (q : mz_sim R s nL D aI aB A φ0 L1 xs L st n h bc bs φ ls H locs cells slots) (hX : mz_XW p l e R s m args below meth c Qf nL D aI aB A φ0 L1 xs (pc + 3) L (.ref (n + 2) :: st) (n + 1) (mz_up h (n + 2) (.inr (x, mz_df x))) (bc - 1) (bs - mz_N x)) : W p l e R s m args below meth c H locs cells slots Qf (F0 m pc ls (st.map (mz_mv φ))) := by
  obtain ⟨hx, hb, hml, hown, hts, hnw, hK, hA, hRO, hR, hi2, hcode, hφ⟩ := C0
  have hcl := q.clst
  have hb5 := q.2.2.2.2
  simp only [mz_chk, Bool.and_eq_true, List.contains_eq_mem, decide_eq_true_eq, beq_iff_eq] at hk
  obtain ⟨rfl, hk⟩ := hk
  refine va_new (ci := x) (fs := mz_df x) (C := mz_RN x) (T := mz_F x) (N := mz_N x) (Ts := mz_gw) hx hb hts (mz_uws hx12) (mz_ty x) (fun k hk => ((mz_cls1 hx12).1 k hk).2.1) hown (hts _ (mz_CLw hk)) (hts _ (mz_cls1 hx12).2.1) (hts _ (mz_cls1 hx12).2.2) hK q.2.1.1 q.2.1.2.1 q.2.1.2.2 hA (mz_clsAt hx12) (mz_dfV x hx12) (by omega) (by omega) hd fun q0 H1 hP hD hS => ?_
  have hz := q.2.2.1.1
  have e2 : (Sum.inr (x, mz_df x) : va_E) = mz_cell aI aB (φ ++ [q0]) (.inr (x, mz_df x)) := by
    show _ = (Sum.inr (x, (mz_df x).map (mz_mv (φ ++ [q0]))) : va_E)
    rw [mz_dfm]
  rw [e2] at hP hD
  have sim := q.hnew (st' := .ref (n + 2) :: st) hP hD hS mz_dfc (mz_cs (show n + 2 < n + 3 by omega) (fun w hw => mz_clv_le (by omega) (hcl w hw))) h2 h3
  have := hX _ ls H1 locs _ _ sim
  refine W.eq ?_ this
  show F0 m (pc + 3) ls (.ref q0 :: st.map (mz_mv φ)) = F0 m (pc + 3) ls (.ref (mz_ad (φ ++ [q0]) (n + 2)) :: st.map (mz_mv (φ ++ [q0])))
  rw [List.map_congr_left (fun w hw => mz_mv_app (φ := φ) (ψ := [q0]) (v := w) (by rw [hz]; exact hcl w hw))]
  congr 3
  unfold mz_ad
  rw [List.getD_eq_getElem?_getD, List.getElem?_append_right (by omega), ← hz]
  simp
/-- behind a call -/
theorem mz_call {mc ms : Nat} {r : List Value} {a : Array Value} {Q' : mz_Q} (q : mz_sim R s nL D aI aB A φ0 L1 xs L st n h bc bs φ ls H locs cells slots) (hA : ∀ q, s.heap.size ≤ q → A q) (hcr : ∀ v ∈ r, mz_clv (n + 2) v) (h1 : mc ≤ bc) (h2 : ms ≤ bs) {st0 : List Value} (hr : va_Run p l e R s m args below meth c H locs cells slots mc ms (F0 m pc ls st0) (r.map (mz_mv φ)) (mz_Qc D aI aB φ n h H.size Q' a) (va_A (mz_ws aI aB φ n h) H.size)) (hX : ∀ v n' h', Q' v n' h' → mz_XW p l e R s m args below meth c Qf nL D aI aB A φ0 L1 xs (pc + 3) L (v.toList ++ r) n' h' (bc - mc) (bs - ms)) : W p l e R s m args below meth c H locs cells slots Qf (F0 m pc ls st0) := by
  intro T hT X
  obtain ⟨v, s0, t, T', L2, h0, X', hL, e1, e2, ⟨⟨r', φ', n', h', hv, hq, ⟨ψ, hψ⟩, o1, o2, o3, o4, o5, o6, o7⟩, hz, hk⟩, stp⟩ := hr T hT X
  have hv : v = r'.map (mz_mv φ') := by cases hv; rfl
  rw [h0] at hz hk
  obtain ⟨q1, ⟨qP, qD, qS⟩, ⟨c1, c2, c3, c4⟩, ⟨r1, r2, ψ0, r3⟩, b1, b2⟩ := q
  have hfree : ∀ z, va_A (mz_ws aI aB φ n h) H.size z → A z := by
    intro z hz
    rcases hz with ⟨k, e, hk⟩ | hz
    · exact qD.2 k _ hk
    · exact hA z (Nat.le_trans qS.1 hz)
  have hle : n ≤ n' := by
    have := o1
    rw [hψ, List.length_append, c1] at this
    omega
  have sim : mz_sim R s nL D aI aB A φ0 L1 xs L (r'.toList ++ r) n' h' (bc - mc) (bs - ms) φ' ls T'.heap (locs ++ L2) (cells + mc) (slots + ms) := by
    refine ⟨by rw [hψ]; exact q1.app c1 c4, ⟨by rw [e1]; exact o6, o7.weaken (fun k z _ hz => hfree _ hz), ?_⟩, ⟨o1, o2, ?_, fun i v hv => mz_clv_le (by omega) (c4 i v hv)⟩, ⟨o4.trans r1, o5.trans r2, ψ0 ++ ψ, by rw [hψ, r3, List.append_assoc]⟩, by omega, by omega⟩
    · refine ⟨Nat.le_trans qS.1 (by rw [e1]; exact hz), fun z z1 z2 => ?_, fun z hz => ?_⟩
      · rw [e1, hk z (Nat.lt_of_lt_of_le z1 qS.1) (fun w => z2 (hfree z w))]
        exact qS.2.1 z z1 z2
      · rcases List.mem_append.mp hz with w | w
        · exact qS.2.2 z w
        · exact hfree _ (hL z w)
    · intro w hw
      rcases List.mem_append.mp hw with z | z
      · exact o3 w (by cases r' <;> simp_all)
      · exact mz_clv_le (by omega) (hcr w z)
  obtain ⟨t2, a1, b1'⟩ := hX r' n' h' hq φ' ls T'.heap (locs ++ L2) (cells + mc) (slots + ms) sim T' rfl X'
  refine ⟨t2, stp t2 ?_, b1'⟩
  have e3 : ({ F0 m pc ls st0 with pc := pc + 3, stack := v.toList ++ r.map (mz_mv φ) } : JFrame) = F0 m (pc + 3) ls ((r'.toList ++ r).map (mz_mv φ')) := by
    show F0 m (pc + 3) ls (v.toList ++ r.map (mz_mv φ)) = _
    rw [hv, List.map_append, hψ, List.map_congr_left (l := r) (fun w hw => mz_mv_app (φ := φ) (ψ := ψ) (v := w) (by rw [c1]; exact hcr w hw))]
    cases r' <;> rfl
  show Steps p.tables e below (T'.setTop ({ F0 m pc ls st0 with pc := pc + 3, stack := v.toList ++ r.map (mz_mv φ) } : JFrame)) t2
  rw [e3]
  exact a1
end MZ2
end
section
/-! the calls; the whole walk; every method's contract -/
theorem mz_MLk : ∀ e ∈ mz_ML, e.2.2.2 < 6 → (match mz_tab[e.2.2.1]? with
  | some M => M.2.2.2.2.2.1 = e.2.2.2 / 2
  | none => False) := by
  have h : mz_ML.all (fun e => decide (6 ≤ e.2.2.2) || (match mz_tab[e.2.2.1]? with
    | some M => M.2.2.2.2.2.1 == e.2.2.2 / 2
    | none => false)) = true := by decide +kernel
  intro e he hl
  have h1 := List.all_eq_true.mp h e he
  simp only [Bool.or_eq_true, decide_eq_true_eq] at h1
  have h2 := h1.resolve_left (by omega)
  revert h2
  cases mz_tab[e.2.2.1]? with
  | none => exact fun z => by cases z
  | some M => exact fun z => by simpa using z
theorem mz_good {M : mz_M} {idx : Nat} (h : mz_tab[idx]? = some M) : GoodIn mz_gw (mz_WS M) := by
  intro w hw
  have hm : w ∈ mz_gw := (List.mem_cons.mp hw).elim (fun z => z ▸ (mz_meth h).1.1) (fun z => z)
  exact ⟨hm, mz_gwS hm⟩
theorem mz_rroom {φ : List Nat} : ∀ (r : List Value), ((r.map (mz_mv φ)).map fun v => v.category).sum = r.length
  | [] => rfl
  | v :: r => by
    rw [List.map_cons, List.map_cons, List.sum_cons, mz_mv_cat, mz_rroom r, List.length_cons]
    omega
section MZ3
variable {p : Program} {l : Launch} {e : Env} {R : Room} {s : State} {m : MethodId} {args : Array Value} {below : List Frame} {meth : Method} {c : Code} {Qf : State → Prop}
variable {cc : ByteArray} {nL own kind d rk : Nat} {D : va_G} {aI aB : ClassId} {A : Nat → Prop} {φ0 : List Nat} {L1 : Nat} {xs : Nat → Int32} {code : List mz_I} {K : mz_K} {Q : mz_Q}
variable {L : List (Option Value)} {st : List Value} {n : Nat} {h : mz_H} {bc bs : Nat} {φ : List Nat} {ls : Array Slot} {H : Heap} {locs : List Loc} {cells slots pc : Nat}
theorem mz_inOf (C0 : mz_ctx p R s m args meth c cc nL own kind d D aI aB A φ0 L1 xs code) (q : mz_sim R s nL D aI aB A φ0 L1 xs L st n h bc bs φ ls H locs cells slots) : ∀ U : State, U.heap = H → s.WarmedH U.vm → mz_In D aI aB φ n h H.size L1 xs U := by
  obtain ⟨hx, hb, hml, hown, hts, hnw, hK, hA, hRO, hR, hi2, hcode, hφ⟩ := C0
  obtain ⟨e0, e1⟩ := q.ad0 hφ
  intro U hU hW
  obtain ⟨qP, qD, qS⟩ := q.2.1
  refine ⟨by rw [hU], by rw [hU]; exact qP, va_K.moved hW.alike hK, qD.weaken (fun _ _ _ _ => trivial), mz_nwW hW hnw, ?_⟩
  rw [e0, e1, hU]
  refine hRO.to hW.alike qS.2.1 (fun z hz => ?_)
  rcases hz with ⟨k, e, hk⟩ | hz
  · exact qD.2 k _ hk
  · exact hA z (Nat.le_trans qS.1 hz)
theorem sd_inv (C0 : mz_ctx p R s m args meth c cc nL own kind d D aI aB A φ0 L1 xs code) (hK : mz_Snd d K) {ins : Instr} {cp x y : Nat} (hins : (ins = .invokevirtual cp ∧ (y = 0 ∨ y = 1)) ∨ (ins = .invokestatic cp ∧ (y = 2 ∨ y = 3)) ∨ (ins = .invokespecial cp ∧ (y = 4 ∨ y = 5))) (hd : decode cc pc = .ok (ins, 3)) (hml' : (own, cp, x, y) ∈ mz_ML) {k rc : Nat} (hk : k = mz_np.getD x 0 + (if y / 2 = 1 then 0 else 1)) (hrc : rc = (if y / 2 = 0 then 1 else if y / 2 = 1 then 0 else 2)) (q : mz_sim R s nL D aI aB A φ0 L1 xs L st n h bc bs φ ls H locs cells slots) (hX : mz_inv K (mz_XW p l e R s m args below meth c Qf nL D aI aB A φ0 L1 xs) pc L st n h bc bs x k rc) : W p l e R s m args below meth c H locs cells slots Qf (F0 m pc ls (st.map (mz_mv φ))) := by
  have hInn := mz_inOf C0 q
  obtain ⟨hx, hb, hml, hown, hts, hnw, hK0, hA, hRO, hR, hi2, hcode, hφ⟩ := C0
  unfold mz_inv at hX
  cases hs : mz_spl k st [] with
  | none => rw [hs] at hX; exact hX.elim
  | some z =>
    obtain ⟨as, r⟩ := z
    rw [hs] at hX
    obtain ⟨hr8, hrc1, hrc2, hb1, hb2, hcall⟩ := hX
    obtain ⟨hst, hlen⟩ := mz_spl_spec hs
    have hst : st = as.reverse ++ r := hst
    have hlen : as.length = k := by simpa using hlen
    have hcl := q.clst
    have hcas : ∀ v ∈ as, mz_clv (n + 2) v := fun v hv => hcl v (by rw [hst]; exact List.mem_append_left _ (List.mem_reverse.mpr hv))
    have hcr : ∀ v ∈ r, mz_clv (n + 2) v := fun v hv => hcl v (by rw [hst]; exact List.mem_append_right _ hv)
    obtain ⟨hd1, M, hM, hMet⟩ := hK _ _ _ _ _ hcall
    have hMt := hMet l D aI aB φ H.size L1 xs q.2.2.1.1 q.2.2.1.2.1 hcas q.2.2.2.1.1 q.2.2.2.1.2.1
    obtain ⟨⟨w1, w2, w3, w4, w5⟩, n1, n2, n3, n4, n5, -⟩ := mz_meth hM
    have hyM := mz_yat hM
    have hy6 : y < 6 := by rcases hins with ⟨-, z⟩ | ⟨-, z⟩ | ⟨-, z⟩ <;> omega
    have hkd := mz_MLk _ hml' hy6
    dsimp only at hkd
    rw [hM] at hkd
    have hRR : (mz_rm (d - 1) x as).frames + 1 ≤ R.frames ∧ 8 + (M.2.2.1 + 11) + (mz_rm (d - 1) x as).locals ≤ R.locals := by
      show d - 1 + 1 ≤ R.frames ∧ 8 + (M.2.2.1 + 11) + 30 * (d - 1) ≤ R.locals
      omega
    have hbud := q.2.2.2.2
    have hf : cells + (mz_al x as).1 ≤ R.cells ∧ slots + (mz_al x as).2 ≤ R.slots := by omega
    have hroom : 2 * (F0 m pc ls (st.map (mz_mv φ))).monitorRoom + ((r.map (mz_mv φ)).map fun v => v.category).sum ≤ 8 := lv_room (by rw [mz_rroom]; exact hr8)
    have hsz : (F0 m pc ls (st.map (mz_mv φ))).locals.size = nL := q.1.1
    have hin2 : ∀ U : State, U.heap = H → s.WarmedH U.vm → mz_Pc D aI aB φ n h H.size L1 xs as (as.map (mz_mv φ)).toArray U := fun U hU hW => ⟨rfl, hInn U hU hW⟩
    have hstm : st.map (mz_mv φ) = (as.map (mz_mv φ)).reverse ++ r.map (mz_mv φ) := by rw [hst, List.map_append, List.map_reverse]
    rcases hins with ⟨rfl, hy⟩ | ⟨rfl, hy⟩ | ⟨rfl, hy⟩
    · have hy2 : y / 2 = 0 := by omega
      rw [hy2] at hkd hk hrc
      obtain ⟨a, as', fs, rfl, hra⟩ : ∃ (a : Nat) (as' : List Value) (fs : List Value), as = .ref a :: as' ∧ h a = .inr (mz_own x, fs) := hrc1 (by rw [hrc]; rfl)
      have hn : (as'.map (mz_mv φ)).length = mz_np.getD x 0 := by
        rw [List.length_map]
        rw [List.length_cons, hk] at hlen
        simpa using hlen
      have ha2 : a < n + 2 := hcas (.ref a) List.mem_cons_self
      have hge : 2 ≤ a := by
        rcases Nat.lt_or_ge a 2 with z | z
        · rcases (show a = 0 ∨ a = 1 by omega) with rfl | rfl
          · rw [q.2.2.2.1.1] at hra; cases hra
          · rw [q.2.2.2.1.2.1] at hra; cases hra
        · exact z
      obtain ⟨j, rfl⟩ : ∃ j, a = j + 2 := ⟨a - 2, by omega⟩
      have hg := mz_ws_get (aI := aI) (aB := aB) (φ := φ) (h := h) (show j < n by omega)
      rw [hra] at hg
      have hox : mz_own x = M.2.2.2.2.1 := by unfold mz_own; rw [hM]
      have hclx : mz_cls[mz_own x]? = some (mz_RN (mz_own x), mz_F (mz_own x), mz_N (mz_own x)) := by
        obtain ⟨rr, h1, -⟩ := q.2.1.1 j _ hg
        have : mz_own x < 12 := (List.getElem?_eq_some_iff.mp h1).1
        exact mz_clsAt this
      have hrecv := va_recv hK0 q.2.1.1 hclx hg
      have hst2 : (F0 m pc ls (st.map (mz_mv φ))).stack = (as'.map (mz_mv φ)).reverse ++ .ref (mz_ad φ (j + 2)) :: r.map (mz_mv φ) := by
        show st.map (mz_mv φ) = _
        rw [hstm]
        simp [mz_mv]
      have hpV : PreV s H M.1.cls (mz_ad φ (j + 2)) (mz_Pc D aI aB φ n h H.size L1 xs (.ref (j + 2) :: as')) (as'.map (mz_mv φ)) := ⟨mz_Pc.blind, by rw [n1, ← hox]; exact hrecv, fun U hU hW => hin2 U hU hW⟩
      rcases hy with rfl | rfl
      · have hlk := hts _ (mz_MLw0 hml' (by omega))
        rw [hyM] at hlk
        exact mz_call q hA hcr hb1 hb2 (va_runV ⟨hx, hb, hml, hown, hts⟩ hMt ⟨callB_of (mz_np.getD x 0) hts (mz_good hM) rfl rfl rfl (hts _ w2) hlk n3 hRR, hts _ (w4 (by omega)), hts _ (w5 (by omega))⟩ hpV rfl hn hsz hst2 hroom hd hf) (fun _ _ _ z => z)
      · have hlk := hnw _ (mz_MLw1 hml' (by omega))
        rw [hyM] at hlk
        exact mz_call q hA hcr hb1 hb2 (va_runVN ⟨hx, hb, hml, hown, hts⟩ hMt ⟨va_cnB (mz_np.getD x 0) hts (mz_good hM) rfl rfl rfl hlk (hts _ w2) n3 hRR, hts _ (w4 (by omega)), hts _ (w5 (by omega))⟩ hpV rfl hn hsz hst2 hroom hd hf) (fun _ _ _ z => z)
    · have hy2 : y / 2 = 1 := by omega
      rw [hy2] at hkd hk hrc
      have hn : (as.map (mz_mv φ)).length = mz_np.getD x 0 := by
        rw [List.length_map, hlen, hk]
        simp
      rcases hy with rfl | rfl
      · have hlk := hts _ (mz_MLw0 hml' (by omega))
        rw [hyM] at hlk
        exact mz_call q hA hcr hb1 hb2 (va_runS ⟨hx, hb, hml, hown, hts⟩ hMt ⟨callB_of (mz_np.getD x 0) hts (mz_good hM) rfl rfl rfl (hts _ w2) hlk n3 hRR, hts _ (w3 (by omega))⟩ ⟨mz_Pc.blind, hin2⟩ rfl hn hsz hstm hroom hd hf) (fun _ _ _ z => z)
      · have hlk := hnw _ (mz_MLw1 hml' (by omega))
        rw [hyM] at hlk
        exact mz_call q hA hcr hb1 hb2 (va_runSN ⟨hx, hb, hml, hown, hts⟩ hMt ⟨va_cnB (mz_np.getD x 0) hts (mz_good hM) rfl rfl rfl hlk (hts _ w2) n3 hRR, hts _ (w3 (by omega)), trivial⟩ ⟨mz_Pc.blind, hin2⟩ rfl hn hsz hstm hroom hd hf) (fun _ _ _ z => z)
    · have hy2 : y / 2 = 2 := by omega
      rw [hy2] at hkd hk hrc
      obtain ⟨a, as', rfl⟩ : ∃ (a : Nat) (as' : List Value), as = .ref a :: as' := hrc2 (by rw [hrc]; rfl)
      have hn : (as'.map (mz_mv φ)).length = mz_np.getD x 0 := by
        rw [List.length_map]
        rw [List.length_cons, hk] at hlen
        simpa using hlen
      have hst2 : (F0 m pc ls (st.map (mz_mv φ))).stack = (as'.map (mz_mv φ)).reverse ++ .ref (mz_ad φ a) :: r.map (mz_mv φ) := by
        show st.map (mz_mv φ) = _
        rw [hstm]
        simp [mz_mv]
      have hret : M.2.2.2.1 = none := by
        have key : ∀ M ∈ mz_tab, M.2.2.2.2.2.1 = 2 → M.2.2.2.1 = none := by decide +kernel
        exact key M (List.mem_of_getElem? hM) hkd
      have hws : mz_WS M = Cond.code M.1 M.2.1 M.2.2.1 none :: mz_gw := by unfold mz_WS; rw [hret]
      rcases hy with rfl | rfl
      · have hlk := hts _ (mz_MLw0 hml' (by omega))
        rw [hyM] at hlk
        exact mz_call q hA hcr hb1 hb2 (va_runI ⟨hx, hb, hml, hown, hts⟩ hMt ⟨callB_of (mz_np.getD x 0) hts (mz_good hM) hws rfl rfl (hts _ w2) hlk n3 hRR, n4 hkd, hts _ (w4 (by omega))⟩ ⟨mz_Pc.blind, hin2⟩ rfl hn hsz hst2 hroom hd hf) (fun _ _ _ z => z)
      · have hlk := hnw _ (mz_MLw1 hml' (by omega))
        rw [hyM] at hlk
        exact mz_call q hA hcr hb1 hb2 (va_runIN ⟨hx, hb, hml, hown, hts⟩ hMt ⟨va_cnB (mz_np.getD x 0) hts (mz_good hM) hws rfl rfl hlk (hts _ w2) n3 hRR, n4 hkd, hts _ (w4 (by omega))⟩ ⟨mz_Pc.blind, hin2⟩ rfl hn hsz hst2 hroom hd hf) (fun _ _ _ z => z)
end MZ3
end
section
/-! every step of the little machine, and so every method -/
section MZ4
variable {p : Program} {l : Launch} {e : Env} {R : Room} {s : State} {m : MethodId} {args : Array Value} {below : List Frame} {meth : Method} {c : Code} {Qf : State → Prop}
variable {cc : ByteArray} {nL own kind d rk : Nat} {D : va_G} {aI aB : ClassId} {A : Nat → Prop} {φ0 : List Nat} {L1 : Nat} {xs : Nat → Int32} {code : List mz_I} {K : mz_K} {Q : mz_Q}
def mz_rets (rk : Nat) (ins : Instr) (st : List Value) (r : Option Value) : Prop := (∃ v, ins = .ireturn ∧ st = [.int v] ∧ r = some (.int v) ∧ (rk = 1 ∨ (rk = 2 ∧ (v = 0 ∨ v = 1)))) ∨ (∃ a, ins = .areturn ∧ st = [.ref a] ∧ r = some (.ref a) ∧ rk = 3) ∨ (ins = .return_ ∧ st = [] ∧ r = none ∧ rk = 0)
def mz_Ret (p : Program) (l : Launch) (e : Env) (R : Room) (s : State) (m : MethodId) (args : Array Value) (below : List Frame) (meth : Method) (c : Code) (Qf : State → Prop) (cc : ByteArray) (nL rk : Nat) (D : va_G) (aI aB : ClassId) (A : Nat → Prop) (φ0 : List Nat) (L1 : Nat) (xs : Nat → Int32) (Q : mz_Q) : Prop := ∀ (pc : Nat) (ins : Instr) (r : Option Value) (L : List (Option Value)) (st : List Value) (n : Nat) (h : mz_H) (bc bs : Nat) (φ : List Nat) (ls : Array Slot) (H : Heap) (locs : List Loc) (cells slots : Nat), decode cc pc = .ok (ins, 1) → mz_sim R s nL D aI aB A φ0 L1 xs L st n h bc bs φ ls H locs cells slots → mz_rets rk ins st r → Q r n h → W p l e R s m args below meth c H locs cells slots Qf (F0 m pc ls (st.map (mz_mv φ)))
theorem mz_st2E {st : List Value} {P : Int32 → Int32 → List Value → Prop} (h : mz_st2 st P) : ∃ a b r, st = .int b :: .int a :: r ∧ P a b r := by
  unfold mz_st2 at h
  split at h
  · exact ⟨_, _, _, rfl, h⟩
  · exact h.elim
theorem mz_cons1 {st : List Value} {n : Nat} {v : Value} (h : ∀ w ∈ st, mz_clv n w) (hv : mz_clv n v) : ∀ w ∈ v :: st, mz_clv n w := mz_cs hv h
variable {L : List (Option Value)} {st : List Value} {n : Nat} {h : mz_H} {bc bs : Nat} {φ : List Nat} {ls : Array Slot} {H : Heap} {locs : List Loc} {cells slots pc : Nat}
theorem mz_sim.nth (q : mz_sim R s nL D aI aB A φ0 L1 xs L st n h bc bs φ ls H locs cells slots) {i : Nat} {v : Value} (hv : mz_nth L i = some v) : ls[i]? = some (.val (mz_mv φ v)) ∧ mz_clv (n + 2) v := ⟨q.1.2.2.2 i v hv, q.2.2.1.2.2.2 i v hv⟩
set_option maxHeartbeats 8000000 in
theorem mz_walk (C0 : mz_ctx p R s m args meth c cc nL own kind d D aI aB A φ0 L1 xs code) (hK : mz_Snd d K) (hret : mz_Ret p l e R s m args below meth c Qf cc nL rk D aI aB A φ0 L1 xs Q) : ∀ pc L st n h bc bs, mz_step K d rk code Q (mz_XW p l e R s m args below meth c Qf nL D aI aB A φ0 L1 xs) pc L st n h bc bs → mz_XW p l e R s m args below meth c Qf nL D aI aB A φ0 L1 xs pc L st n h bc bs := by
  intro pc L st n h bc bs hstep φ ls H locs cells slots q
  unfold mz_step at hstep
  cases hlk : mz_lk code pc with
  | none => rw [hlk] at hstep; exact hstep.elim
  | some t =>
    obtain ⟨ins, len, x, y⟩ := t
    rw [hlk] at hstep
    obtain ⟨hd, hk⟩ := C0.2.2.2.2.2.2.2.2.2.2.2.1 pc _ hlk
    obtain ⟨hx, hb, hml, hown, hts, hnw, hK0, hA, hRO, hR, hi2, hcode, hφ⟩ := id C0
    have hcl := q.clst
    have hbud := q.2.2.2.2
    cases ins
    case iconst i =>
      simp only [mz_chk, Bool.and_eq_true, beq_iff_eq, decide_eq_true_eq] at hk
      obtain ⟨rfl, hk⟩ := hk
      exact lv_iconst hx hb hd hk (hstep φ ls H locs cells slots (q.stk (mz_cons1 hcl trivial)))
    case bipush i =>
      simp only [mz_chk, Bool.and_eq_true, beq_iff_eq, decide_eq_true_eq] at hk
      obtain ⟨rfl, hk⟩ := hk
      exact lv_bipush hx hb hd hk (hstep φ ls H locs cells slots (q.stk (mz_cons1 hcl trivial)))
    case sipush i =>
      simp only [mz_chk, Bool.and_eq_true, beq_iff_eq, decide_eq_true_eq] at hk
      obtain ⟨rfl, hk⟩ := hk
      exact lv_sipush hx hb hd hk (hstep φ ls H locs cells slots (q.stk (mz_cons1 hcl trivial)))
    case ldc i =>
      simp only [mz_chk, Bool.and_eq_true, beq_iff_eq, decide_eq_true_eq, List.contains_eq_mem] at hk
      obtain ⟨rfl, hk⟩ := hk
      exact lv_ldc hx hb hown (hts _ (mz_KLw hk)) hd (hstep φ ls H locs cells slots (q.stk (mz_cons1 hcl trivial)))
    case iload_n k =>
      have hl : len = 1 := by simpa [mz_chk, mz_ln] using hk
      subst hl
      dsimp only at hstep
      split at hstep
      · rename_i i hi
        exact lv_iload_n hx hb hd rfl (q.nth hi).1 (hstep φ ls H locs cells slots (q.stk (mz_cons1 hcl trivial)))
      · exact hstep.elim
    case iload k =>
      have hl : len = 2 := by simpa [mz_chk, mz_ln] using hk
      subst hl
      dsimp only at hstep
      split at hstep
      · rename_i i hi
        exact lv_iload hx hb hd (q.nth hi).1 (hstep φ ls H locs cells slots (q.stk (mz_cons1 hcl trivial)))
      · exact hstep.elim
    case aload_n k =>
      have hl : len = 1 := by simpa [mz_chk, mz_ln] using hk
      subst hl
      dsimp only at hstep
      split at hstep
      · rename_i i hi
        exact lv_aload_n hx hb hd rfl (q.nth hi).1 (hstep φ ls H locs cells slots (q.stk (mz_cons1 hcl (q.nth hi).2)))
      · exact hstep.elim
    case aload k =>
      have hl : len = 2 := by simpa [mz_chk, mz_ln] using hk
      subst hl
      dsimp only at hstep
      split at hstep
      · rename_i i hi
        exact lv_aload hx hb hd (q.nth hi).1 (hstep φ ls H locs cells slots (q.stk (mz_cons1 hcl (q.nth hi).2)))
      · exact hstep.elim
    case istore_n k =>
      have hl : len = 1 := by simpa [mz_chk, mz_ln] using hk
      subst hl
      dsimp only at hstep
      split at hstep
      · split at hstep
        · rename_i hp
          have hps := mz_put_spec hp
          exact lv_istore_n hx hb hd rfl q.1.has (by rw [← q.1.2.2.1]; exact hps.1) rfl fun ls' hl' => hstep φ ls' H locs cells slots (q.lput hp (q.1.put hp rfl hl') trivial (mz_tl hcl))
        · exact hstep.elim
      · exact hstep.elim
    case istore k =>
      have hl : len = 2 := by simpa [mz_chk, mz_ln] using hk
      subst hl
      dsimp only at hstep
      split at hstep
      · split at hstep
        · rename_i hp
          have hps := mz_put_spec hp
          exact lv_istore hx hb hd q.1.has (by rw [← q.1.2.2.1]; exact hps.1) rfl fun ls' hl' => hstep φ ls' H locs cells slots (q.lput hp (q.1.put hp rfl hl') trivial (mz_tl hcl))
        · exact hstep.elim
      · exact hstep.elim
    case astore_n k =>
      have hl : len = 1 := by simpa [mz_chk, mz_ln] using hk
      subst hl
      dsimp only at hstep
      split at hstep
      · split at hstep
        · rename_i hp
          have hps := mz_put_spec hp
          exact lv_astore_n hx hb hd rfl q.1.has (by rw [← q.1.2.2.1]; exact hps.1) rfl fun ls' hl' => hstep φ ls' H locs cells slots (q.lput hp (q.1.put hp rfl hl') (hcl _ List.mem_cons_self) (mz_tl hcl))
        · exact hstep.elim
      · exact hstep.elim
    case astore k =>
      have hl : len = 2 := by simpa [mz_chk, mz_ln] using hk
      subst hl
      dsimp only at hstep
      split at hstep
      · split at hstep
        · rename_i hp
          have hps := mz_put_spec hp
          exact lv_astore hx hb hd q.1.has (by rw [← q.1.2.2.1]; exact hps.1) rfl fun ls' hl' => hstep φ ls' H locs cells slots (q.lput hp (q.1.put hp rfl hl') (hcl _ List.mem_cons_self) (mz_tl hcl))
        · exact hstep.elim
      · exact hstep.elim
    case iinc k i =>
      simp only [mz_chk, Bool.and_eq_true, beq_iff_eq, decide_eq_true_eq] at hk
      obtain ⟨rfl, hk⟩ := hk
      dsimp only at hstep
      split at hstep
      · rename_i j hj
        split at hstep
        · rename_i hp
          have hps := mz_put_spec hp
          obtain ⟨w, hw⟩ := List.getElem?_of_mem (mz_lv_mem (φ := φ) hj)
          exact lv_iinc hx hb hd q.1.has (k := w) hw (by rw [hk]) (by rw [← q.1.2.2.1]; exact hps.1) rfl fun ls' hl' => hstep φ ls' H locs cells slots (q.lput hp (q.1.put hp rfl hl') trivial hcl)
        · exact hstep.elim
      · exact hstep.elim
    case iadd =>
      have hl : len = 1 := by simpa [mz_chk, mz_ln] using hk
      subst hl
      obtain ⟨a, b, r, rfl, hstep⟩ := mz_st2E hstep
      exact lv_iadd hx hb hd (hstep φ ls H locs cells slots (q.stk (mz_cons1 (mz_tl (mz_tl hcl)) trivial)))
    case isub =>
      have hl : len = 1 := by simpa [mz_chk, mz_ln] using hk
      subst hl
      obtain ⟨a, b, r, rfl, hstep⟩ := mz_st2E hstep
      exact lv_isub hx hb hd (hstep φ ls H locs cells slots (q.stk (mz_cons1 (mz_tl (mz_tl hcl)) trivial)))
    case imul =>
      have hl : len = 1 := by simpa [mz_chk, mz_ln] using hk
      subst hl
      obtain ⟨a, b, r, rfl, hstep⟩ := mz_st2E hstep
      exact lv_imul hx hb hd (hstep φ ls H locs cells slots (q.stk (mz_cons1 (mz_tl (mz_tl hcl)) trivial)))
    case iand =>
      have hl : len = 1 := by simpa [mz_chk, mz_ln] using hk
      subst hl
      obtain ⟨a, b, r, rfl, hstep⟩ := mz_st2E hstep
      exact lv_iand hx hb hd (hstep φ ls H locs cells slots (q.stk (mz_cons1 (mz_tl (mz_tl hcl)) trivial)))
    case ior =>
      have hl : len = 1 := by simpa [mz_chk, mz_ln] using hk
      subst hl
      obtain ⟨a, b, r, rfl, hstep⟩ := mz_st2E hstep
      exact lv_ior hx hb hd (hstep φ ls H locs cells slots (q.stk (mz_cons1 (mz_tl (mz_tl hcl)) trivial)))
    case ixor =>
      have hl : len = 1 := by simpa [mz_chk, mz_ln] using hk
      subst hl
      obtain ⟨a, b, r, rfl, hstep⟩ := mz_st2E hstep
      exact lv_ixor hx hb hd (hstep φ ls H locs cells slots (q.stk (mz_cons1 (mz_tl (mz_tl hcl)) trivial)))
    case ishl =>
      have hl : len = 1 := by simpa [mz_chk, mz_ln] using hk
      subst hl
      obtain ⟨a, b, r, rfl, hstep⟩ := mz_st2E hstep
      exact lv_ishl hx hb hd (hstep φ ls H locs cells slots (q.stk (mz_cons1 (mz_tl (mz_tl hcl)) trivial)))
    case ishr =>
      have hl : len = 1 := by simpa [mz_chk, mz_ln] using hk
      subst hl
      obtain ⟨a, b, r, rfl, hstep⟩ := mz_st2E hstep
      exact lv_ishr hx hb hd (hstep φ ls H locs cells slots (q.stk (mz_cons1 (mz_tl (mz_tl hcl)) trivial)))
    case idiv =>
      have hl : len = 1 := by simpa [mz_chk, mz_ln] using hk
      subst hl
      obtain ⟨a, b, r, rfl, hne, hstep⟩ := mz_st2E hstep
      exact lv_idiv hx hb hd hne (hstep φ ls H locs cells slots (q.stk (mz_cons1 (mz_tl (mz_tl hcl)) trivial)))
    case irem =>
      have hl : len = 1 := by simpa [mz_chk, mz_ln] using hk
      subst hl
      obtain ⟨a, b, r, rfl, hne, hstep⟩ := mz_st2E hstep
      exact lv_irem hx hb hd hne (hstep φ ls H locs cells slots (q.stk (mz_cons1 (mz_tl (mz_tl hcl)) trivial)))
    case dup =>
      have hl : len = 1 := by simpa [mz_chk, mz_ln] using hk
      subst hl
      dsimp only at hstep
      split at hstep
      · exact lv_dup hx hb hd (mz_mv_cat _ _) (hstep φ ls H locs cells slots (q.stk (mz_cons1 hcl (hcl _ List.mem_cons_self))))
      · exact hstep.elim
    case dup2 =>
      have hl : len = 1 := by simpa [mz_chk, mz_ln] using hk
      subst hl
      dsimp only at hstep
      split at hstep
      · exact lv_dup2_11 hx hb hd (mz_mv_cat _ _) (mz_mv_cat _ _) (hstep φ ls H locs cells slots (q.stk (mz_cons1 (mz_cons1 hcl (hcl _ (List.mem_cons_of_mem _ List.mem_cons_self))) (hcl _ List.mem_cons_self))))
      · exact hstep.elim
    case goto o =>
      simp only [mz_chk, Bool.and_eq_true, beq_iff_eq, decide_eq_true_eq] at hk
      obtain ⟨rfl, hk⟩ := hk
      exact lv_goto hx hb hd hk (hstep φ ls H locs cells slots q)
    case ifCond cd o =>
      simp only [mz_chk, Bool.and_eq_true, beq_iff_eq, decide_eq_true_eq] at hk
      obtain ⟨rfl, hk⟩ := hk
      dsimp only at hstep
      split at hstep
      · have ht := fun z => hstep.1 z φ ls H locs cells slots (q.stk (mz_tl hcl))
        have hf := fun z => hstep.2 z φ ls H locs cells slots (q.stk (mz_tl hcl))
        cases cd
        · exact lv_if_eq hx hb hd hk ht hf
        · exact lv_if_ne hx hb hd hk ht (fun z => hf (fun w => w z))
        · exact lv_if_lt hx hb hd hk ht hf
        · exact lv_if_ge hx hb hd hk ht hf
        · exact lv_if_gt hx hb hd hk ht hf
        · exact lv_if_le hx hb hd hk ht hf
      · exact hstep.elim
    case if_icmp cd o =>
      simp only [mz_chk, Bool.and_eq_true, beq_iff_eq, decide_eq_true_eq] at hk
      obtain ⟨rfl, hk⟩ := hk
      obtain ⟨a, b, r, rfl, hstep⟩ := mz_st2E hstep
      have ht := fun z => hstep.1 z φ ls H locs cells slots (q.stk (mz_tl (mz_tl hcl)))
      have hf := fun z => hstep.2 z φ ls H locs cells slots (q.stk (mz_tl (mz_tl hcl)))
      cases cd
      · exact lv_icmp_eq hx hb hd hk ht hf
      · exact lv_icmp_ne hx hb hd hk ht (fun z => hf (fun w => w z))
      · exact lv_icmp_lt hx hb hd hk ht hf
      · exact lv_icmp_ge hx hb hd hk ht hf
      · exact lv_icmp_gt hx hb hd hk ht hf
      · exact lv_icmp_le hx hb hd hk ht hf
    case tableswitch df lo hi offs =>
      simp only [mz_chk, Bool.and_eq_true, decide_eq_true_eq] at hk
      obtain ⟨⟨k1, k2⟩, k3⟩ := hk
      dsimp only at hstep
      split at hstep
      · rename_i st a r
        by_cases ho : a.toInt < lo ∨ hi < a.toInt
        · exact lv_tableOut hx hb hd ho (by omega) (hstep.1 ho φ ls H locs cells slots (q.stk (mz_tl hcl)))
        · have h1 : ¬ a.toInt < lo := fun z => ho (Or.inl z)
          have h2 : ¬ hi < a.toInt := fun z => ho (Or.inr z)
          have hlt : (a.toInt - lo).toNat < offs.size := by omega
          have hoff : offs[(a.toInt - lo).toNat]? = some offs[(a.toInt - lo).toNat] := Array.getElem?_eq_getElem hlt
          have h0 : 0 ≤ (pc : Int) + offs[(a.toInt - lo).toNat] := by
            have z := Array.all_eq_true.mp k2 _ hlt
            simpa using z
          exact lv_tableIn hx hb hd h1 h2 hoff (by omega) (hstep.2 _ h1 h2 hoff φ ls H locs cells slots (q.stk (mz_tl hcl)))
      · exact hstep.elim
    case getfield i =>
      dsimp only at hstep
      split at hstep
      · split at hstep
        · rename_i hha
          split at hstep
          · rename_i hv
            obtain ⟨rfl, hy, hstep⟩ := hstep
            have hl : len = 3 := by
              simp only [mz_chk, Bool.and_eq_true, beq_iff_eq] at hk
              exact hk.1
            exact sd_get C0 hd hk hha hv hy q hstep
          · exact hstep.elim
        · exact hstep.elim
      · exact hstep.elim
    case putfield i =>
      dsimp only at hstep
      split at hstep
      · split at hstep
        · rename_i hha
          obtain ⟨rfl, hy, hl, ht, hstep⟩ := hstep
          exact sd_put C0 hd hk hha hl hy ht q hstep
        · exact hstep.elim
      · exact hstep.elim
    case iaload =>
      have hl : len = 1 := by simpa [mz_chk, mz_ln] using hk
      subst hl
      dsimp only at hstep
      split at hstep
      · split at hstep
        · rename_i hha
          exact sd_iald C0 hd hha hstep.1 q hstep.2
        · exact hstep.elim
      · exact hstep.elim
    case baload =>
      have hl : len = 1 := by simpa [mz_chk, mz_ln] using hk
      subst hl
      dsimp only at hstep
      split at hstep
      · split at hstep
        · rename_i hha
          exact sd_bald C0 hd hha hstep.1 q hstep.2
        · exact hstep.elim
      · exact hstep.elim
    case iastore =>
      have hl : len = 1 := by simpa [mz_chk, mz_ln] using hk
      subst hl
      dsimp only at hstep
      split at hstep
      · split at hstep
        · rename_i hha
          exact sd_iast C0 hd hha hstep.1 hstep.2.1 q hstep.2.2
        · exact hstep.elim
      · exact hstep.elim
    case bastore =>
      have hl : len = 1 := by simpa [mz_chk, mz_ln] using hk
      subst hl
      dsimp only at hstep
      split at hstep
      · split at hstep
        · rename_i hha
          exact sd_bast C0 hd hha hstep.1 hstep.2.1 q hstep.2.2
        · exact hstep.elim
      · exact hstep.elim
    case arraylength =>
      have hl : len = 1 := by simpa [mz_chk, mz_ln] using hk
      subst hl
      dsimp only at hstep
      split at hstep
      · split at hstep
        · rename_i hha
          exact sd_alen C0 hd hha q hstep
        · exact hstep.elim
      · exact hstep.elim
    case newarray t =>
      have hl : len = 2 := by simpa [mz_chk, mz_ln] using hk
      subst hl
      dsimp only at hstep
      split at hstep
      · obtain ⟨k1, k2, k3, k4, hstep⟩ := hstep
        cases t
        case int => exact sd_newI C0 hd k1 k2 k3 k4 q hstep
        case boolean => exact sd_newB C0 hd k1 k2 k3 k4 q hstep
        all_goals exact hstep.elim
      · exact hstep.elim
    case new i =>
      obtain ⟨k1, k2, k3, hstep⟩ := hstep
      exact sd_new C0 hd hk k1 k2 k3 q hstep
    case getstatic i =>
      simp only [mz_chk, Bool.and_eq_true, beq_iff_eq, decide_eq_true_eq, List.contains_eq_mem, mz_GS, List.mem_singleton, Prod.mk.injEq] at hk
      obtain ⟨rfl, rfl, rfl⟩ := hk
      have hkk := hstep φ ls H locs cells slots (q.stk (mz_cons1 hcl (show 0 < n + 2 by omega)))
      obtain ⟨e0, e1⟩ := q.ad0 hφ
      have hZ := hRO.2.1
      rw [← e0] at hZ
      exact va_gets hx hb hZ q.2.1.2.2 hown (hts _ (mz_mem mz_GSok rfl)) (fun _ z => z) hd hkk
    case invokevirtual i =>
      simp only [mz_chk, Bool.and_eq_true, Bool.or_eq_true, beq_iff_eq, decide_eq_true_eq, List.contains_eq_mem] at hk
      obtain ⟨⟨rfl, hm⟩, hy⟩ := hk
      exact sd_inv C0 hK (Or.inl ⟨rfl, hy⟩) hd hm (by rcases hy with rfl | rfl <;> rfl) (by rcases hy with rfl | rfl <;> rfl) q hstep
    case invokestatic i =>
      simp only [mz_chk, Bool.and_eq_true, Bool.or_eq_true, beq_iff_eq, decide_eq_true_eq, List.contains_eq_mem] at hk
      obtain ⟨⟨rfl, hm⟩, hy⟩ := hk
      dsimp only at hstep
      have hsz : c.maxLocals = ls.size := by rw [hml, q.1.1]
      split at hstep
      · rename_i hy7
        obtain ⟨hd1, hstep⟩ := hstep
        obtain ⟨a, b, r, rfl, hr8, hstep⟩ := mz_st2E hstep
        have hx8 : x = 998 := by omega
        have hl := hts _ (mz_MLw0 hm (by omega))
        rw [hx8] at hl
        exact va_mmax hx hb hsz hown hl (hts _ (mz_mem mz_mathok.2.1 rfl)) (hts _ (mz_mem mz_mathok.1 rfl)) (hts _ (mz_mem mz_mathok.2.2.1 rfl)) (by omega) (by rw [mz_rroom]; omega) (by omega) (by omega) hd (hstep φ ls H locs cells slots (q.stk (mz_cons1 (mz_tl (mz_tl hcl)) trivial)))
      · split at hstep
        · rename_i hy8
          obtain ⟨hd1, hstep⟩ := hstep
          obtain ⟨a, b, r, rfl, hr8, hstep⟩ := mz_st2E hstep
          have hx8 : x = 997 := by omega
          have hl := hts _ (mz_MLw0 hm (by omega))
          rw [hx8] at hl
          exact va_mmin hx hb hsz hown hl (hts _ (mz_mem mz_mathok.2.2.2.1 rfl)) (hts _ (mz_mem mz_mathok.1 rfl)) (hts _ (mz_mem mz_mathok.2.2.2.2 rfl)) (by omega) (by rw [mz_rroom]; omega) (by omega) (by omega) hd (hstep φ ls H locs cells slots (q.stk (mz_cons1 (mz_tl (mz_tl hcl)) trivial)))
        · have hy2 : y = 2 ∨ y = 3 := by omega
          exact sd_inv C0 hK (Or.inr (Or.inl ⟨rfl, hy2⟩)) hd hm (by rcases hy2 with rfl | rfl <;> rfl) (by rcases hy2 with rfl | rfl <;> rfl) q hstep
    case invokespecial i =>
      simp only [mz_chk, Bool.and_eq_true, Bool.or_eq_true, beq_iff_eq, decide_eq_true_eq, List.contains_eq_mem] at hk
      obtain ⟨⟨rfl, hm⟩, hy⟩ := hk
      dsimp only at hstep
      split at hstep
      · rename_i hy6
        obtain ⟨hd1, hstep⟩ := hstep
        split at hstep
        · obtain ⟨hr8, hstep⟩ := hstep
          have hx8 : x = 999 := by omega
          have hl := hts _ (mz_MLw0 hm (by omega))
          rw [hx8] at hl
          refine W.objInit hx hb hown hl (hts _ (mz_mem mz_objok.1 rfl)) (hts _ (mz_mem mz_objok.2 rfl)) rfl (by show ls.size = _; rw [hml, q.1.1]) rfl hd (by omega) ?_ (hstep φ ls H locs cells slots (q.stk (mz_tl hcl)))
          rw [mz_rroom]
          show 2 * 0 + _ + 12 ≤ _
          omega
        · exact hstep.elim
      · have hy2 : y = 4 ∨ y = 5 := by omega
        exact sd_inv C0 hK (Or.inr (Or.inr ⟨rfl, hy2⟩)) hd hm (by rcases hy2 with rfl | rfl <;> rfl) (by rcases hy2 with rfl | rfl <;> rfl) q hstep
    case ireturn =>
      have hl : len = 1 := by simpa [mz_chk, mz_ln] using hk
      subst hl
      dsimp only at hstep
      split at hstep
      · exact hret pc _ _ L _ n h bc bs φ ls H locs cells slots hd q (Or.inl ⟨_, rfl, rfl, rfl, hstep.1⟩) hstep.2
      · exact hstep.elim
    case areturn =>
      have hl : len = 1 := by simpa [mz_chk, mz_ln] using hk
      subst hl
      dsimp only at hstep
      split at hstep
      · exact hret pc _ _ L _ n h bc bs φ ls H locs cells slots hd q (Or.inr (Or.inl ⟨_, rfl, rfl, rfl, hstep.1⟩)) hstep.2
      · exact hstep.elim
    case return_ =>
      have hl : len = 1 := by simpa [mz_chk, mz_ln] using hk
      subst hl
      dsimp only at hstep
      split at hstep
      · exact hret pc _ _ L _ n h bc bs φ ls H locs cells slots hd q (Or.inr (Or.inr ⟨rfl, rfl, rfl, hstep.1⟩)) hstep.2
      · exact hstep.elim
    all_goals exact hstep.elim
end MZ4
end
section
/-! every method of the tables keeps its contract -/
theorem mz_rk1 {r : Option FieldType} (h : mz_rk r = 1) : r = some .int := by
  cases r with
  | none => exact absurd h (by decide)
  | some t => cases t <;> first | rfl | exact absurd h (by simp [mz_rk])
theorem mz_rk2 {r : Option FieldType} (h : mz_rk r = 2) : r = some .boolean := by
  cases r with
  | none => exact absurd h (by decide)
  | some t => cases t <;> first | rfl | exact absurd h (by simp [mz_rk])
theorem mz_rk0 {r : Option FieldType} (h : mz_rk r = 0) : r = none := by
  cases r with
  | none => rfl
  | some t => cases t <;> exact absurd h (by simp [mz_rk])
def mz_isO : Option FieldType → Bool
  | some (.object _) => true
  | some (.array _) => true
  | _ => false
theorem mz_rk3 : ∀ M ∈ mz_tab, mz_rk M.2.2.2.1 = 3 → mz_isO M.2.2.2.1 = true := by decide +kernel
theorem mz_isOE {r : Option FieldType} (h : mz_isO r = true) : ∃ t, r = some t ∧ ((∃ n, t = .object n) ∨ ∃ t', t = .array t') := by
  cases r with
  | none => exact absurd h Bool.false_ne_true
  | some t => cases t <;> first | exact absurd h Bool.false_ne_true | exact ⟨_, rfl, Or.inl ⟨_, rfl⟩⟩ | exact ⟨_, rfl, Or.inr ⟨_, rfl⟩⟩
set_option maxHeartbeats 4000000 in
theorem mz_snd : ∀ d, mz_Snd d (mz_wc d)
  | 0 => fun _ _ _ _ _ h => h.elim
  | d + 1 => fun idx as n h Q hw => by
    have ih := mz_snd d
    have hw : match mz_tab[idx]? with
      | some M => as.length ≤ M.2.2.1 ∧ mz_WP (mz_wc d) d (mz_rk M.2.2.2.1) M.2.2.2.2.2.2 Q 0 (mz_ini M.2.2.1 as) [] n h (mz_al idx as).1 (mz_al idx as).2
      | none => False := hw
    cases hM : mz_tab[idx]? with
    | none => rw [hM] at hw; exact hw.elim
    | some M =>
      rw [hM] at hw
      obtain ⟨hlen, hw⟩ := hw
      refine ⟨by omega, M, rfl, fun l D aI aB φ sz L1 xs hφ hcl hcas h0 h1 => ?_⟩
      obtain ⟨⟨w1, w2, w3, w4, w5⟩, n1, n2, n3, n4, n5, n6⟩ := mz_meth hM
      refine Met.ofW (cc := M.2.1) (maxL := M.2.2.1) (ret := M.2.2.2.1) n2 rfl ?_
      intro p e s m args below meth c s₁ B hml hv
      obtain ⟨rfl, hsz, hP, hK, hD0, hnw, hRO⟩ := hv
      have hx := B.exec
      have hb := B.bytes
      have hr := B.returns
      have hts := atoms_spec (ws := mz_WS M) B.pre
      have hown : s.vm.findClass (mz_RN M.2.2.2.2.1) = some m.cls := by rw [← n1]; exact findClass_of_methodNamed B.named
      have hlocks := B.notSynchronized
      have hin : meth.name = M.1.name := (name_of_methodNamed B.named B.method).1
      subst hsz
      have hD := hD0.self (sz := s.heap.size)
      have C0 : mz_ctx p (mz_rm d idx as) s m (as.map (mz_mv φ)).toArray meth c M.2.1 M.2.2.1 M.2.2.2.2.1 M.2.2.2.2.2.1 d D aI aB (va_A (mz_ws aI aB φ n h) s.heap.size) φ L1 xs M.2.2.2.2.2.2 :=
        ⟨hx, hb, hml, hown, fun w z => hts w (List.mem_cons_of_mem _ z), hnw, hK, fun q z => Or.inr z, hRO, ⟨Nat.le_refl _, Nat.le_refl _⟩, fun z => hin.trans (n4 z), fun pc q z => mz_dec n6 z, by omega⟩
      have hl := lv_entry (as.map (mz_mv φ)) (n := M.2.2.1) (by rw [mz_lgl]; exact hlen)
      rw [lg_entry_eq]
      generalize (lg_sl (as.map (mz_mv φ)) ++ List.replicate (M.2.2.1 - (lg_sl (as.map (mz_mv φ))).length) Slot.unset).toArray = ls at hl ⊢
      have sim : mz_sim (mz_rm d idx as) s M.2.2.1 D aI aB (va_A (mz_ws aI aB φ n h) s.heap.size) φ L1 xs (mz_ini M.2.2.1 as) [] n h (mz_al idx as).1 (mz_al idx as).2 φ ls s.heap [] 0 0 := by
        refine ⟨⟨hl.1, hl.2.1, mz_ini_len _ _, fun i v hv => ?_⟩, ⟨hP, hD, va_S.rf⟩, ⟨hφ, hcl, (fun _ z => by cases z), fun i v hv => hcas v (List.mem_of_getElem? (mz_ini_nth hv))⟩, ⟨h0, h1, [], (List.append_nil _).symm⟩, Nat.zero_add _, Nat.zero_add _⟩
        have := mz_lvargs (φ := φ) as 0 i v (mz_ini_nth hv)
        rw [Nat.zero_add] at this
        exact hl.2.2 _ this
      have hret : mz_Ret p l e (mz_rm d idx as) s m (as.map (mz_mv φ)).toArray below meth c (MQ below (mz_Qc D aI aB φ n h s.heap.size Q) (as.map (mz_mv φ)).toArray s (mz_al idx as).1 (mz_al idx as).2 (va_A (mz_ws aI aB φ n h) s.heap.size)) M.2.1 M.2.2.1 (mz_rk M.2.2.2.1) D aI aB (va_A (mz_ws aI aB φ n h) s.heap.size) φ L1 xs Q := by
        intro pc ins r L st n' h' bc bs φ' ls' H locs cells slots hd q hrets hQ
        obtain ⟨q1, ⟨qP, qD, qS⟩, ⟨c1, c2, c3, c4⟩, ⟨r1, r2, ψ0, r3⟩, b1, b2⟩ := q
        have b1 : cells + bc = (mz_al idx as).1 := b1
        have b2 : slots + bs = (mz_al idx as).2 := b2
        have out : (∀ v, r = some v → mz_clv (n' + 2) v) → ∀ t : State, t.heap = H → mz_Qc D aI aB φ n h s.heap.size Q (as.map (mz_mv φ)).toArray s (.returned (r.map (mz_mv φ'))) t := fun hcr t ht => ⟨⟨r, φ', n', h', rfl, hQ, ⟨ψ0, r3⟩, c1, c2, hcr, r1.trans h0.symm, r2.trans h1.symm, by rw [ht]; exact qP, qD⟩, qS.F ht⟩
        refine W.widen (k := (mz_al idx as).1) (n := (mz_al idx as).2) (by omega) (by omega) ?_
        rcases hrets with ⟨v, rfl, rfl, rfl, hk⟩ | ⟨a, rfl, rfl, rfl, hk⟩ | ⟨rfl, rfl, rfl, hk⟩
        · have o2 := out (fun w hw => by cases hw; exact trivial)
          rcases hk with hk | ⟨hk, hv⟩
          · exact W.iret hx hb (by rw [hr]; exact mz_rk1 hk) (fun t ht hW => o2 t ht) qS.2.2 hd hlocks
          · exact W.zret hx hb (ty := .boolean) (by rw [hr]; exact mz_rk2 hk) (by rcases hv with rfl | rfl <;> rfl) (fun t ht hW => o2 t ht) qS.2.2 hd hlocks
        · have o2 := out (fun w hw => by cases hw; exact c3 _ List.mem_cons_self)
          obtain ⟨t, e1, e2⟩ := mz_isOE (mz_rk3 M (List.mem_of_getElem? hM) hk)
          exact W.aret hx hb (rt := t) (by rw [hr]; exact e1) e2 (Or.inr ⟨_, rfl⟩) (fun t ht hW => o2 t ht) qS.2.2 hd hlocks
        · have o2 := out (fun w hw => by cases hw)
          exact W.vret hx hb (by rw [hr]; exact mz_rk0 hk) (fun t ht hW => o2 t ht) qS.2.2 hd hlocks
      exact hw _ (mz_walk C0 ih hret) φ ls s.heap [] 0 0 sim
end
section
/-! THE CLAIM OUT OF ONE WALK OF THE LAW'S BODY. Your part is whole_start (and what it stands on); all else here is the same for every law, but numbers. -/
def R_law : String := "TapLedgerLaw"
def lw_P (b : Addr) (xs : List Int32) (args : Array Value) (s : State) : Prop := args = #[.ref b] ∧ s.IntsAt b xs ∧ xs.length ≤ 3072 ∧ (Jvm.Cond.and given_1 narrow_1).before args s = true
def lw_Q (_ : Array Value) (s : State) (o : Outcome) (t : State) : Prop := o = .returned (some (.int 1)) ∧ Framed s o t [] 600000 7302250
def lw_Z (below : List Frame) (a : Array Value) (s : State) : State → Prop := fun t => ∃ o, t.status = .running ∧ Ended t below o ∧ lw_Q a s o t
/-- the law's own end, with 1 on the stack, nothing written that was there before, its room as the claim has it -/
theorem lw_ret {p : Program} {l : Launch} {e : Env} {s : State} {m : MethodId} {below : List Frame} {meth : Method} {c : Code} {b : Nat} (hx : p.tables.exec = Jvm.exec) (hb : c.code = code) (hr : meth.sig.returnType = ret) (hlocks : meth.locks = false) {pc : Nat} {H : Heap} {ls : Array Slot} (hdg : decode code pc = .ok (.ireturn, 1)) : W p l e room_1 s m #[Value.ref b] below meth c H [] 600000 7302250 (lw_Z below #[Value.ref b] s) (F0 m pc ls [.int 1]) := by
  intro T hT X
  obtain ⟨fs, hret, hrun, hended, hW, hframe⟩ := X.leave (v := some (.int 1)) (hlocks := hlocks) (fun h => by rw [hr] at h; cases h)
  have hmeth' : T.vm.method? m = some meth := X.method'
  refine ⟨T.setFrames fs, ?_, .returned (some (.int 1)), hrun, hended, rfl, ⟨_, rfl⟩, hW, hframe⟩
  jvm_step X.here [X.here.top, hx, hb, hdg, hmeth', hr, ret, narrow_b1]
  (try refine ⟨rfl, ?_⟩); (try refine ⟨rfl, ?_⟩)
  first | (intro acts; rw [hret _ acts rfl rfl rfl]) | rw [hret _ _ rfl rfl rfl]
  exact Steps.refl _
/-- what holds at the law's entry: the machine, the code, the tables' words (any of lw_tbl by 'hts w (by decide +kernel)'), the script of L ints xs at the cell b, what the Statement gives of the start (any of its parts by flat_of_before) -/
def lw_At (p : Program) (s : State) (m : MethodId) (meth : Method) (c : Code) (b L : Nat) (xs : Nat → Int32) : Prop :=
  p.tables.exec = Jvm.exec ∧ c.code = code ∧ meth.sig.returnType = ret ∧ c.maxLocals = 4 ∧ s.vm.findClass R_law = some m.cls ∧ (∀ w ∈ lw_tbl, w.before #[Value.ref b] s = true) ∧ va_X b L xs s s.heap ∧ b < s.heap.size ∧ meth.locks = false ∧ (Jvm.Cond.and given_1 narrow_1).before #[Value.ref b] s = true
end
section
/-! THE LAW over the little machine: its body's predicate gives the walk -/
theorem ck_law : ∀ e ∈ co_law, (decide (decode code e.1 = .ok (e.2.1, e.2.2.1)) && mz_chk 12 1 e) = true := by
  have key : ∀ j, (co_law.drop j |>.take 50).all (fun e => decide (decode code e.1 = .ok (e.2.1, e.2.2.1)) && mz_chk 12 1 e) = true → ∀ i, j ≤ i → i < j + 50 → ∀ e, co_law[i]? = some e → (decide (decode code e.1 = .ok (e.2.1, e.2.2.1)) && mz_chk 12 1 e) = true := by
    intro j h i h1 h2 e he
    refine List.all_eq_true.mp h e (List.mem_of_getElem? (i := i - j) ?_)
    rw [List.getElem?_take_of_lt (by omega), List.getElem?_drop, show j + (i - j) = i by omega]
    exact he
  intro e he
  obtain ⟨i, hi⟩ := List.getElem?_of_mem he
  have hl : co_law.length = 565 := by decide +kernel
  have hlt : i < 565 := by rw [← hl]; exact (List.getElem?_eq_some_iff.mp hi).1
  by_cases z1 : i < 50
  · exact key 0 ck_law_0 i (by omega) (by omega) e hi
  by_cases z2 : i < 100
  · exact key 50 ck_law_50 i (by omega) (by omega) e hi
  by_cases z3 : i < 150
  · exact key 100 ck_law_100 i (by omega) (by omega) e hi
  by_cases z4 : i < 200
  · exact key 150 ck_law_150 i (by omega) (by omega) e hi
  by_cases z5 : i < 250
  · exact key 200 ck_law_200 i (by omega) (by omega) e hi
  by_cases z6 : i < 300
  · exact key 250 ck_law_250 i (by omega) (by omega) e hi
  by_cases z7 : i < 350
  · exact key 300 ck_law_300 i (by omega) (by omega) e hi
  by_cases z8 : i < 400
  · exact key 350 ck_law_350 i (by omega) (by omega) e hi
  by_cases z9 : i < 450
  · exact key 400 ck_law_400 i (by omega) (by omega) e hi
  by_cases z10 : i < 500
  · exact key 450 ck_law_450 i (by omega) (by omega) e hi
  by_cases z11 : i < 550
  · exact key 500 ck_law_500 i (by omega) (by omega) e hi
  · exact key 550 ck_law_550 i (by omega) (by omega) e hi
theorem mz_decL {pc : Nat} {q : Instr × Nat × Nat × Nat} (hq : mz_lk co_law pc = some q) : decode code pc = .ok (q.1, q.2.1) ∧ mz_chk 12 1 (pc, q) = true := by
  have h1 := ck_law _ (mz_lk_mem co_law pc q hq)
  simp only [Bool.and_eq_true, decide_eq_true_eq] at h1
  exact h1
/-- the start: the first zones, the script -/
def mz_h0 (L : Nat) (xs : Nat → Int32) : mz_H := fun k => match k with
  | 0 => .inl (0, 8, mz_zn)
  | 1 => .inl (0, L, xs)
  | _ => .inl (0, 0, fun _ => 0)
set_option maxHeartbeats 4000000 in
theorem mz_law {p : Program} {e : Env} {s : State} {m : MethodId} {below : List Frame} {meth : Method} {c : Code} (l : Launch) {b L : Nat} {xs : Nat → Int32} (C0 : lw_At p s m meth c b L xs) (hw : mz_WP (mz_wc 8) 8 2 co_law (fun r _ _ => r = some (.int 1)) 0 [some (.ref 1), none, none, none] [] 0 (mz_h0 L xs) 600000 7302250) : W p l e room_1 s m #[Value.ref b] below meth c s.heap [] 0 0 (lw_Z below #[Value.ref b] s) (entryFrame m ([Value.ref b] : List Value).toArray 4) := by
  obtain ⟨hx, hb, hr, hml, hown, hts, hX, hbl, hlocks, hgv⟩ := id C0
  have hgw : ∀ w ∈ mz_gw, w.before #[Value.ref b] s = true := fun w hw => hts w (List.mem_filter.mp hw).1
  have hnw : ∀ w ∈ mz_nw, va_Nw w s := fun w hw => va_Nw.of (mz_nwT hw) (hts w (List.mem_filter.mp hw).1)
  have hA : ∀ q : Nat, s.heap.size ≤ q → (fun q : Nat => s.heap.size ≤ q) q := fun _ h => h
  have hout : ∀ a : Nat, a < s.heap.size → ¬ (fun q : Nat => s.heap.size ≤ q) a := fun a h => Nat.not_le.mpr h
  -- kinds of object
  have hkn : ∀ i, ∃ ci : ClassId × (Nat → Nat), i < 12 → u_Kn s (mz_RN i) (mz_F i) (mz_N i) ci.1 ci.2 := by
    intro i
    by_cases hi : i < 12
    · obtain ⟨c0, iS0, hk⟩ := u_known (C := mz_RN i) (T := mz_F i) (N := mz_N i) (n := mz_N i) hgw (mz_uws hi) (hgw _ (mz_cls1 hi).2.1)
      exact ⟨(c0, iS0), fun _ => hk⟩
    · exact ⟨(m.cls, fun _ => 0), fun z => absurd z hi⟩
  obtain ⟨cI, kI, coI, fI, gI, jI⟩ := Cond.arrayClass_spec (hgw _ (mz_mem mz_arrok.1 rfl))
  obtain ⟨cB, kB, coB, fB, gB, jB⟩ := Cond.arrayClass_spec (hgw _ (mz_mem mz_arrok.2 rfl))
  have hK : va_K (fun i => (Classical.choose (hkn i)).1, fun i => (Classical.choose (hkn i)).2) mz_cls (mz_tys cI cB) s := by
    refine ⟨fun k q hq => ?_, fun k q hq => ?_⟩
    · have hk : k < 12 := (List.getElem?_eq_some_iff.mp hq).1
      rw [mz_clsAt hk] at hq
      cases hq
      exact Classical.choose_spec (hkn k) hk
    · match k, hq with
      | 0, hq => cases hq; exact ⟨fun n z => ⟨fun k h => (by cases h), kI, gI, coI, jI⟩, fI⟩
      | 1, hq => cases hq; exact ⟨fun n z => ⟨fun k h => (by cases h), kB, gB, coB, jB⟩, fB⟩
      | k + 2, hq => simp [mz_tys] at hq
  -- what nobody writes
  have hfl := flat_of_before _ hgv
  obtain ⟨t0, ht0, hT0⟩ := va_Tof (args := #[Value.ref b]) (s := s) (tm := .static "TapLedger$Tariff" "FIRST_ZONES" "[I") (ty := .int) (N := 8) (f := fun j => .int (mz_zn j)) (A := fun q : Nat => s.heap.size ≤ q) (by decide) (hfl _ (by decide +kernel)) (va_eqt (hfl (Cond.eq (.length (.static "TapLedger$Tariff" "FIRST_ZONES" "[I")) (.int 8)) (by decide +kernel))) (fun j hj => by
    match j, hj with
    | 0, _ => exact va_eqt (hfl (Cond.eq (.elem (.static "TapLedger$Tariff" "FIRST_ZONES" "[I") (.int 0)) (.int 1)) (by decide +kernel))
    | 1, _ => exact va_eqt (hfl (Cond.eq (.elem (.static "TapLedger$Tariff" "FIRST_ZONES" "[I") (.int 1)) (.int 2)) (by decide +kernel))
    | 2, _ => exact va_eqt (hfl (Cond.eq (.elem (.static "TapLedger$Tariff" "FIRST_ZONES" "[I") (.int 2)) (.int 3)) (by decide +kernel))
    | 3, _ => exact va_eqt (hfl (Cond.eq (.elem (.static "TapLedger$Tariff" "FIRST_ZONES" "[I") (.int 3)) (.int 4)) (by decide +kernel))
    | 4, _ => exact va_eqt (hfl (Cond.eq (.elem (.static "TapLedger$Tariff" "FIRST_ZONES" "[I") (.int 4)) (.int 5)) (by decide +kernel))
    | 5, _ => exact va_eqt (hfl (Cond.eq (.elem (.static "TapLedger$Tariff" "FIRST_ZONES" "[I") (.int 5)) (.int 1)) (by decide +kernel))
    | 6, _ => exact va_eqt (hfl (Cond.eq (.elem (.static "TapLedger$Tariff" "FIRST_ZONES" "[I") (.int 6)) (.int 2)) (by decide +kernel))
    | 7, _ => exact va_eqt (hfl (Cond.eq (.elem (.static "TapLedger$Tariff" "FIRST_ZONES" "[I") (.int 7)) (.int 3)) (by decide +kernel))
    | k + 8, h => omega) hout
  have hZ0 : va_Z "TapLedger$Tariff" "FIRST_ZONES" "[I" (.ref t0) (fun q : Nat => s.heap.size ≤ q) s s.heap := va_Zref (hts (.laysStatic "TapLedger$Tariff" "FIRST_ZONES" "[I") (by decide +kernel)) (hts (.initialized "TapLedger$Tariff") (by decide +kernel)) ht0 hout
  have hT1 : va_T .int b L (fun j => .int (xs j)) (fun q : Nat => s.heap.size ≤ q) s s.heap := by
    obtain ⟨scr, g1, g2, g3, g4, g5⟩ := hX
    exact ⟨scr, g1, g2, g3, Nat.le_of_eq g4.symm, by rw [g4], g5, hout b hbl⟩
  have C1 : mz_ctx p room_1 s m #[Value.ref b] meth c code 4 12 1 8 (fun i => (Classical.choose (hkn i)).1, fun i => (Classical.choose (hkn i)).2) cI cB (fun q : Nat => s.heap.size ≤ q) [t0, b] L xs co_law :=
    ⟨hx, hb, hml, hown, hgw, hnw, hK, hA, ⟨hT0, hZ0, hT1⟩, ⟨Nat.le_of_ble_eq_true rfl, Nat.le_of_ble_eq_true rfl⟩, fun z => absurd z (by decide), fun pc q z => mz_decL z, Nat.le_refl 2⟩
  have hl := lv_entry ([.ref b]) (n := 4) (Nat.le_of_ble_eq_true rfl)
  rw [lg_entry_eq]
  generalize (lg_sl ([.ref b]) ++ List.replicate (4 - (lg_sl ([.ref b])).length) Slot.unset).toArray = ls at hl ⊢
  have sim : mz_sim room_1 s 4 (fun i => (Classical.choose (hkn i)).1, fun i => (Classical.choose (hkn i)).2) cI cB (fun q : Nat => s.heap.size ≤ q) [t0, b] L xs [some (.ref 1), none, none, none] [] 0 (mz_h0 L xs) 600000 7302250 [t0, b] ls s.heap [] 0 0 := by
    have hk : ∀ i v, mz_nth [some (.ref 1), none, none, none] i = some v → i = 0 ∧ v = .ref 1 := by
      intro i v hv
      match i, hv with
      | 0, hv => cases hv; exact ⟨rfl, rfl⟩
      | 1, hv => cases hv
      | 2, hv => cases hv
      | 3, hv => cases hv
      | k + 4, hv => cases hv
    refine ⟨⟨hl.1, hl.2.1, rfl, fun i v hv => ?_⟩, ⟨fun k q h => by simp [mz_ws] at h, ⟨fun i j p q h => by simp [mz_ws] at h, fun k q h => by simp [mz_ws] at h⟩, va_S.rf⟩, ⟨rfl, fun k hk => ?_, (fun _ z => by cases z), fun i v hv => ?_⟩, ⟨rfl, rfl, [], rfl⟩, Nat.zero_add _, Nat.zero_add _⟩
    · obtain ⟨rfl, rfl⟩ := hk i v hv
      exact hl.2.2 (0, .ref b) List.mem_cons_self
    · match k, hk with
      | 0, _ => exact trivial
      | 1, _ => exact trivial
      | k + 2, h => omega
    · obtain ⟨rfl, rfl⟩ := hk i v hv
      exact (show (1 : Nat) < 0 + 2 from Nat.le_refl 2)
  have hret : mz_Ret p l e room_1 s m #[Value.ref b] below meth c (lw_Z below #[Value.ref b] s) code 4 2 (fun i => (Classical.choose (hkn i)).1, fun i => (Classical.choose (hkn i)).2) cI cB (fun q : Nat => s.heap.size ≤ q) [t0, b] L xs (fun r _ _ => r = some (.int 1)) := by
    intro pc ins r L2 st n' h' bc bs φ' ls' H locs cells slots hd q hrets hQ
    have b1 : cells + bc = 600000 := q.2.2.2.2.1
    have b2 : slots + bs = 7302250 := q.2.2.2.2.2
    have hS := q.2.1.2.2
    rcases hrets with ⟨v, rfl, rfl, rfl, hk⟩ | ⟨a, rfl, rfl, rfl, hk⟩ | ⟨rfl, rfl, rfl, hk⟩
    · cases hQ
      refine va_forget (fun z hz => hS.2.2 z hz) ?_
      refine W.widen (k := 600000) (n := 7302250) (by omega) (by omega) ?_
      exact lw_ret hx hb hr hlocks hd
    · exact absurd hk (by decide)
    · exact absurd hk (by decide)
  exact hw _ (mz_walk C1 (mz_snd 8) hret) [t0, b] ls s.heap [] 0 0 sim
end
section
/-! rows to walk the little machine with -/
def mz_det (ins : Instr) (x pc : Nat) (L : List (Option Value)) (st : List Value) : Option (Nat × List (Option Value) × List Value) := match ins with
  | .iconst _ => some (pc + 1, L, .int (nI x) :: st)
  | .bipush _ => some (pc + 2, L, .int (nI x) :: st)
  | .sipush _ => some (pc + 3, L, .int (nI x) :: st)
  | .ldc _ => some (pc + 2, L, .int (nI x) :: st)
  | .iload_n k => match mz_nth L k.val with
    | some (.int i) => some (pc + 1, L, .int i :: st)
    | _ => none
  | .iload k => match mz_nth L k with
    | some (.int i) => some (pc + 2, L, .int i :: st)
    | _ => none
  | .aload_n k => match mz_nth L k.val with
    | some (.ref i) => some (pc + 1, L, .ref i :: st)
    | _ => none
  | .aload k => match mz_nth L k with
    | some (.ref i) => some (pc + 2, L, .ref i :: st)
    | _ => none
  | .istore_n k => match st with
    | .int i :: r => match mz_put L k.val (.int i) with
      | some L' => some (pc + 1, L', r)
      | none => none
    | _ => none
  | .istore k => match st with
    | .int i :: r => match mz_put L k (.int i) with
      | some L' => some (pc + 2, L', r)
      | none => none
    | _ => none
  | .astore_n k => match st with
    | .ref i :: r => match mz_put L k.val (.ref i) with
      | some L' => some (pc + 1, L', r)
      | none => none
    | _ => none
  | .astore k => match st with
    | .ref i :: r => match mz_put L k (.ref i) with
      | some L' => some (pc + 2, L', r)
      | none => none
    | _ => none
  | .iinc k _ => match mz_nth L k with
    | some (.int i) => match mz_put L k (.int (i + nI x)) with
      | some L' => some (pc + 3, L', st)
      | none => none
    | _ => none
  | .iadd => match st with
    | .int b :: .int a :: r => some (pc + 1, L, .int (a + b) :: r)
    | _ => none
  | .isub => match st with
    | .int b :: .int a :: r => some (pc + 1, L, .int (a - b) :: r)
    | _ => none
  | .imul => match st with
    | .int b :: .int a :: r => some (pc + 1, L, .int (a * b) :: r)
    | _ => none
  | .iand => match st with
    | .int b :: .int a :: r => some (pc + 1, L, .int (a &&& b) :: r)
    | _ => none
  | .ior => match st with
    | .int b :: .int a :: r => some (pc + 1, L, .int (a ||| b) :: r)
    | _ => none
  | .ixor => match st with
    | .int b :: .int a :: r => some (pc + 1, L, .int (a ^^^ b) :: r)
    | _ => none
  | .ishl => match st with
    | .int b :: .int a :: r => some (pc + 1, L, .int (a <<< (b &&& 31)) :: r)
    | _ => none
  | .ishr => match st with
    | .int b :: .int a :: r => some (pc + 1, L, .int (a >>> (b &&& 31)) :: r)
    | _ => none
  | .dup => match st with
    | v :: r => some (pc + 1, L, v :: v :: r)
    | _ => none
  | .dup2 => match st with
    | v :: w :: r => some (pc + 1, L, v :: w :: v :: w :: r)
    | _ => none
  | .getstatic _ => some (pc + 3, L, .ref 0 :: st)
  | _ => none
/-- on, up to what isn't plain; behind a goto it stops -/
def mz_run (code : List mz_I) : Nat → Nat → List (Option Value) → List Value → Nat × List (Option Value) × List Value
  | 0, pc, L, st => (pc, L, st)
  | k + 1, pc, L, st => match mz_lk code pc with
    | some (ins, _, x, _) => match ins with
      | .goto _ => (x, L, st)
      | _ => match mz_det ins x pc L st with
        | some (pc', L', st') => mz_run code k pc' L' st'
        | none => (pc, L, st)
    | none => (pc, L, st)
section ST
variable {e d rk : Nat} {code : List mz_I} {Q : mz_Q} {pc : Nat} {L : List (Option Value)} {st : List Value} {n : Nat} {h : mz_H} {bc bs : Nat}
set_option maxHeartbeats 4000000 in
theorem mz_det_step {X : mz_X} {K : mz_K} {ins : Instr} {len x y pc' : Nat} {L' : List (Option Value)} {st' : List Value} (hl : mz_lk code pc = some (ins, len, x, y)) (hd : mz_det ins x pc L st = some (pc', L', st')) (H : X pc' L' st' n h bc bs) : mz_step K d rk code Q X pc L st n h bc bs := by
  unfold mz_step
  rw [hl]
  unfold mz_det at hd
  cases ins
  case iconst => cases hd; exact H
  case bipush => cases hd; exact H
  case sipush => cases hd; exact H
  case ldc => cases hd; exact H
  case getstatic => cases hd; exact H
  all_goals first
    | (exfalso; cases hd; done)
    | skip
  all_goals (dsimp only at hd ⊢; try unfold mz_st2)
  all_goals (split at hd <;> first
    | (exfalso; cases hd; done)
    | (cases hd; exact H)
    | (cases hd; simp_all; done)
    | (rename_i hz; rw [hz]; split at hd <;> first
      | (exfalso; cases hd; done)
      | (rename_i hz2; dsimp only; rw [hz2]; cases hd; exact H))
    | (split at hd <;> first
      | (exfalso; cases hd; done)
      | (rename_i hz2; dsimp only; rw [hz2]; cases hd; exact H)))
theorem mz_WP.run {pc' : Nat} {L' : List (Option Value)} {st' : List Value} (k : Nat) (hr : mz_run code k pc L st = (pc', L', st')) (H : mz_WP (mz_wc e) d rk code Q pc' L' st' n h bc bs) : mz_WP (mz_wc e) d rk code Q pc L st n h bc bs := by
  induction k generalizing pc L st with
  | zero => cases hr; exact H
  | succ k ih =>
    unfold mz_run at hr
    split at hr
    · rename_i ins len x y hl
      split at hr
      · cases hr
        refine mz_WP.step ?_
        unfold mz_step
        rw [hl]
        exact H
      · split at hr
        · rename_i p1 L1 s1 hd
          exact mz_WP.step (mz_det_step hl hd (ih hr))
        · cases hr; exact H
    · cases hr; exact H
theorem mz_WP.icmp {c : ClassFile.Cond} {off : Int} {len x y : Nat} {a b : Int32} {r : List Value} (hl : mz_lk code pc = some (.if_icmp c off, len, x, y)) (ht : mz_cmp c a b → mz_WP (mz_wc e) d rk code Q x L r n h bc bs) (hf : ¬ mz_cmp c a b → mz_WP (mz_wc e) d rk code Q (pc + 3) L r n h bc bs) : mz_WP (mz_wc e) d rk code Q pc L (.int b :: .int a :: r) n h bc bs := by
  refine mz_WP.step ?_
  unfold mz_step
  rw [hl]
  exact ⟨ht, hf⟩
theorem mz_WP.ifc {c : ClassFile.Cond} {off : Int} {len x y : Nat} {a : Int32} {r : List Value} (hl : mz_lk code pc = some (.ifCond c off, len, x, y)) (ht : mz_cmp c a 0 → mz_WP (mz_wc e) d rk code Q x L r n h bc bs) (hf : ¬ mz_cmp c a 0 → mz_WP (mz_wc e) d rk code Q (pc + 3) L r n h bc bs) : mz_WP (mz_wc e) d rk code Q pc L (.int a :: r) n h bc bs := by
  refine mz_WP.step ?_
  unfold mz_step
  rw [hl]
  exact ⟨ht, hf⟩
theorem mz_WP.div {len x y : Nat} {a b : Int32} {r : List Value} (hl : mz_lk code pc = some (.idiv, len, x, y)) (hb : ¬ b = 0) (H : mz_WP (mz_wc e) d rk code Q (pc + 1) L (.int (a / b) :: r) n h bc bs) : mz_WP (mz_wc e) d rk code Q pc L (.int b :: .int a :: r) n h bc bs := by
  refine mz_WP.step ?_
  unfold mz_step
  rw [hl]
  exact ⟨hb, H⟩
theorem mz_WP.rem {len x y : Nat} {a b : Int32} {r : List Value} (hl : mz_lk code pc = some (.irem, len, x, y)) (hb : ¬ b = 0) (H : mz_WP (mz_wc e) d rk code Q (pc + 1) L (.int (a - a / b * b) :: r) n h bc bs) : mz_WP (mz_wc e) d rk code Q pc L (.int b :: .int a :: r) n h bc bs := by
  refine mz_WP.step ?_
  unfold mz_step
  rw [hl]
  exact ⟨hb, H⟩
theorem mz_WP.getf {cp len x y a : Nat} {fs r : List Value} {v : Value} (hl : mz_lk code pc = some (.getfield cp, len, x, y)) (ha : h a = .inr (x, fs)) (hv : fs[y]? = some v) (hy : y < mz_N x) (H : mz_WP (mz_wc e) d rk code Q (pc + 3) L (v :: r) n h bc bs) : mz_WP (mz_wc e) d rk code Q pc L (.ref a :: r) n h bc bs := by
  refine mz_WP.step ?_
  unfold mz_step
  rw [hl]
  dsimp only
  rw [ha]
  dsimp only
  rw [hv]
  exact ⟨rfl, hy, H⟩
theorem mz_WP.putf {cp len x y a : Nat} {fs r : List Value} {v : Value} (hl : mz_lk code pc = some (.putfield cp, len, x, y)) (ha : h a = .inr (x, fs)) (hy : y < mz_N x) (hy2 : y < fs.length) (ht : mz_vt (mz_ty x y) v = true) (H : mz_WP (mz_wc e) d rk code Q (pc + 3) L r n (mz_up h a (.inr (x, fs.set y v))) bc bs) : mz_WP (mz_wc e) d rk code Q pc L (v :: .ref a :: r) n h bc bs := by
  refine mz_WP.step ?_
  unfold mz_step
  rw [hl]
  dsimp only
  rw [ha]
  exact ⟨rfl, hy, hy2, ht, H⟩
theorem mz_WP.ald {len x y a m : Nat} {f : Nat → Int32} {i : Int32} {r : List Value} (hl : mz_lk code pc = some (.iaload, len, x, y)) (ha : h a = .inl (0, m, f)) (hi : vp_in i m) (H : mz_WP (mz_wc e) d rk code Q (pc + 1) L (.int (f i.toNatClampNeg) :: r) n h bc bs) : mz_WP (mz_wc e) d rk code Q pc L (.int i :: .ref a :: r) n h bc bs := by
  refine mz_WP.step ?_
  unfold mz_step
  rw [hl]
  dsimp only
  rw [ha]
  exact ⟨hi, H⟩
theorem mz_WP.bld {len x y a m : Nat} {f : Nat → Int32} {i : Int32} {r : List Value} (hl : mz_lk code pc = some (.baload, len, x, y)) (ha : h a = .inl (1, m, f)) (hi : vp_in i m) (H : mz_WP (mz_wc e) d rk code Q (pc + 1) L (.int (f i.toNatClampNeg) :: r) n h bc bs) : mz_WP (mz_wc e) d rk code Q pc L (.int i :: .ref a :: r) n h bc bs := by
  refine mz_WP.step ?_
  unfold mz_step
  rw [hl]
  dsimp only
  rw [ha]
  exact ⟨hi, H⟩
theorem mz_WP.ast {len x y a m : Nat} {f : Nat → Int32} {i v : Int32} {r : List Value} (hl : mz_lk code pc = some (.iastore, len, x, y)) (ha : h a = .inl (0, m, f)) (h2 : 2 ≤ a) (hi : vp_in i m) (H : mz_WP (mz_wc e) d rk code Q (pc + 1) L r n (mz_up h a (.inl (0, m, upd f i.toNatClampNeg v))) bc bs) : mz_WP (mz_wc e) d rk code Q pc L (.int v :: .int i :: .ref a :: r) n h bc bs := by
  refine mz_WP.step ?_
  unfold mz_step
  rw [hl]
  dsimp only
  rw [ha]
  exact ⟨h2, hi, H⟩
theorem mz_WP.bst {len x y a m : Nat} {f : Nat → Int32} {i v : Int32} {r : List Value} (hl : mz_lk code pc = some (.bastore, len, x, y)) (ha : h a = .inl (1, m, f)) (h2 : 2 ≤ a) (hi : vp_in i m) (H : mz_WP (mz_wc e) d rk code Q (pc + 1) L r n (mz_up h a (.inl (1, m, upd f i.toNatClampNeg (vp_nar .boolean v)))) bc bs) : mz_WP (mz_wc e) d rk code Q pc L (.int v :: .int i :: .ref a :: r) n h bc bs := by
  refine mz_WP.step ?_
  unfold mz_step
  rw [hl]
  dsimp only
  rw [ha]
  exact ⟨h2, hi, H⟩
theorem mz_WP.alen {len x y a t m : Nat} {f : Nat → Int32} {r : List Value} (hl : mz_lk code pc = some (.arraylength, len, x, y)) (ha : h a = .inl (t, m, f)) (H : mz_WP (mz_wc e) d rk code Q (pc + 1) L (.int (nI m) :: r) n h bc bs) : mz_WP (mz_wc e) d rk code Q pc L (.ref a :: r) n h bc bs := by
  refine mz_WP.step ?_
  unfold mz_step
  rw [hl]
  dsimp only
  rw [ha]
  exact H
theorem mz_WP.tsw {df lo hi : Int} {offs : Array Int} {len x y : Nat} {a : Int32} {r : List Value} (hl : mz_lk code pc = some (.tableswitch df lo hi offs, len, x, y)) (h1 : (a.toInt < lo ∨ hi < a.toInt) → mz_WP (mz_wc e) d rk code Q ((pc : Int) + df).toNat L r n h bc bs) (h2 : ∀ off, ¬ a.toInt < lo → ¬ hi < a.toInt → offs[(a.toInt - lo).toNat]? = some off → mz_WP (mz_wc e) d rk code Q ((pc : Int) + off).toNat L r n h bc bs) : mz_WP (mz_wc e) d rk code Q pc L (.int a :: r) n h bc bs := by
  refine mz_WP.step ?_
  unfold mz_step
  rw [hl]
  exact ⟨h1, h2⟩
theorem mz_WP.newI {len x y : Nat} {k : Int32} {r : List Value} (hl : mz_lk code pc = some (.newarray .int, len, x, y)) (h1 : ¬ k < 0) (h2 : k.toNatClampNeg ≤ 1000) (h3 : 1 ≤ bc) (h4 : k.toNatClampNeg ≤ bs) (H : mz_WP (mz_wc e) d rk code Q (pc + 2) L (.ref (n + 2) :: r) (n + 1) (mz_up h (n + 2) (.inl (0, k.toNatClampNeg, fun _ => 0))) (bc - 1) (bs - k.toNatClampNeg)) : mz_WP (mz_wc e) d rk code Q pc L (.int k :: r) n h bc bs := by
  refine mz_WP.step ?_
  unfold mz_step
  rw [hl]
  exact ⟨h1, h2, h3, h4, H⟩
theorem mz_WP.newB {len x y : Nat} {k : Int32} {r : List Value} (hl : mz_lk code pc = some (.newarray .boolean, len, x, y)) (h1 : ¬ k < 0) (h2 : k.toNatClampNeg ≤ 1000) (h3 : 1 ≤ bc) (h4 : k.toNatClampNeg ≤ bs) (H : mz_WP (mz_wc e) d rk code Q (pc + 2) L (.ref (n + 2) :: r) (n + 1) (mz_up h (n + 2) (.inl (1, k.toNatClampNeg, fun _ => 0))) (bc - 1) (bs - k.toNatClampNeg)) : mz_WP (mz_wc e) d rk code Q pc L (.int k :: r) n h bc bs := by
  refine mz_WP.step ?_
  unfold mz_step
  rw [hl]
  exact ⟨h1, h2, h3, h4, H⟩
theorem mz_WP.new {cp len x y : Nat} (hl : mz_lk code pc = some (.new cp, len, x, y)) (h1 : x < 12) (h3 : 1 ≤ bc) (h4 : mz_N x ≤ bs) (H : mz_WP (mz_wc e) d rk code Q (pc + 3) L (.ref (n + 2) :: st) (n + 1) (mz_up h (n + 2) (.inr (x, mz_df x))) (bc - 1) (bs - mz_N x)) : mz_WP (mz_wc e) d rk code Q pc L st n h bc bs := by
  refine mz_WP.step ?_
  unfold mz_step
  rw [hl]
  exact ⟨h1, h3, h4, H⟩
/-- a call of a method of the receiver's kind that makes nothing -/
theorem mz_WP.cv {cp len x y : Nat} {as r fs as' : List Value} {a : Nat} (hl : mz_lk code pc = some (.invokevirtual cp, len, x, y)) (hs : mz_spl (mz_np.getD x 0 + 1) st [] = some (as, r)) (h8 : r.length ≤ 8) (ha : as = .ref a :: as') (hr : h a = .inr (mz_own x, fs)) (hal : mz_al x as = (0, 0)) (H : mz_wc e x as n h (fun v n' h' => mz_WP (mz_wc e) d rk code Q (pc + 3) L (v.toList ++ r) n' h' bc bs)) : mz_WP (mz_wc e) d rk code Q pc L st n h bc bs := by
  refine mz_WP.step ?_
  unfold mz_step
  rw [hl]
  show mz_inv _ _ _ _ _ _ _ _ _ _ _ _
  unfold mz_inv
  rw [hs]
  refine ⟨h8, fun _ => ⟨a, as', fs, ha, hr⟩, fun z => absurd z (by decide), by rw [hal]; exact Nat.zero_le _, by rw [hal]; exact Nat.zero_le _, ?_⟩
  rw [hal]
  exact H
theorem mz_WP.cs {cp len x y : Nat} {as r : List Value} (hl : mz_lk code pc = some (.invokestatic cp, len, x, y)) (hy : y = 2 ∨ y = 3) (hs : mz_spl (mz_np.getD x 0) st [] = some (as, r)) (h8 : r.length ≤ 8) (hal : mz_al x as = (0, 0)) (H : mz_wc e x as n h (fun v n' h' => mz_WP (mz_wc e) d rk code Q (pc + 3) L (v.toList ++ r) n' h' bc bs)) : mz_WP (mz_wc e) d rk code Q pc L st n h bc bs := by
  refine mz_WP.step ?_
  unfold mz_step
  rw [hl]
  dsimp only
  rw [if_neg (by omega), if_neg (by omega)]
  unfold mz_inv
  rw [hs]
  refine ⟨h8, fun z => absurd z (by decide), fun z => absurd z (by decide), by rw [hal]; exact Nat.zero_le _, by rw [hal]; exact Nat.zero_le _, ?_⟩
  rw [hal]
  exact H
/-- a maker -/
theorem mz_WP.ci {cp len x y mc ms : Nat} {as r as' : List Value} {a : Nat} (hl : mz_lk code pc = some (.invokespecial cp, len, x, y)) (hy : ¬ y = 6) (hs : mz_spl (mz_np.getD x 0 + 1) st [] = some (as, r)) (h8 : r.length ≤ 8) (ha : as = .ref a :: as') (hal : mz_al x as = (mc, ms)) (hb1 : mc ≤ bc) (hb2 : ms ≤ bs) (H : mz_wc e x as n h (fun v n' h' => mz_WP (mz_wc e) d rk code Q (pc + 3) L (v.toList ++ r) n' h' (bc - mc) (bs - ms))) : mz_WP (mz_wc e) d rk code Q pc L st n h bc bs := by
  refine mz_WP.step ?_
  unfold mz_step
  rw [hl]
  dsimp only
  rw [if_neg hy]
  unfold mz_inv
  rw [hs]
  refine ⟨h8, fun z => absurd z (by decide), fun _ => ⟨a, as', ha⟩, by rw [hal]; exact hb1, by rw [hal]; exact hb2, ?_⟩
  rw [hal]
  exact H
theorem mz_WP.oi {cp len x y a : Nat} {r : List Value} (hl : mz_lk code pc = some (.invokespecial cp, len, x, y)) (hy : y = 6) (hd : 1 ≤ d) (h8 : r.length ≤ 8) (H : mz_WP (mz_wc e) d rk code Q (pc + 3) L r n h bc bs) : mz_WP (mz_wc e) d rk code Q pc L (.ref a :: r) n h bc bs := by
  refine mz_WP.step ?_
  unfold mz_step
  rw [hl]
  dsimp only
  rw [if_pos hy]
  exact ⟨hd, h8, H⟩
theorem mz_WP.mx {cp len x y : Nat} {a b : Int32} {r : List Value} (hl : mz_lk code pc = some (.invokestatic cp, len, x, y)) (hy : y = 7) (hd : 1 ≤ d) (h8 : r.length ≤ 8) (H : mz_WP (mz_wc e) d rk code Q (pc + 3) L (.int (if a < b then b else a) :: r) n h bc bs) : mz_WP (mz_wc e) d rk code Q pc L (.int b :: .int a :: r) n h bc bs := by
  refine mz_WP.step ?_
  unfold mz_step
  rw [hl]
  dsimp only
  rw [if_pos hy]
  exact ⟨hd, h8, H⟩
theorem mz_WP.mn {cp len x y : Nat} {a b : Int32} {r : List Value} (hl : mz_lk code pc = some (.invokestatic cp, len, x, y)) (hy : y = 8) (hd : 1 ≤ d) (h8 : r.length ≤ 8) (H : mz_WP (mz_wc e) d rk code Q (pc + 3) L (.int (if b < a then b else a) :: r) n h bc bs) : mz_WP (mz_wc e) d rk code Q pc L (.int b :: .int a :: r) n h bc bs := by
  refine mz_WP.step ?_
  unfold mz_step
  rw [hl]
  dsimp only
  rw [if_neg (by omega), if_pos hy]
  exact ⟨hd, h8, H⟩
theorem mz_WP.ret {len x y : Nat} {v : Int32} (hl : mz_lk code pc = some (.ireturn, len, x, y)) (hr : rk = 1) (H : Q (some (.int v)) n h) : mz_WP (mz_wc e) d rk code Q pc L [.int v] n h bc bs := by
  refine mz_WP.step ?_
  unfold mz_step
  rw [hl]
  exact ⟨Or.inl hr, H⟩
theorem mz_WP.zret {len x y : Nat} {v : Int32} (hl : mz_lk code pc = some (.ireturn, len, x, y)) (hr : rk = 2) (hv : v = 0 ∨ v = 1) (H : Q (some (.int v)) n h) : mz_WP (mz_wc e) d rk code Q pc L [.int v] n h bc bs := by
  refine mz_WP.step ?_
  unfold mz_step
  rw [hl]
  exact ⟨Or.inr ⟨hr, hv⟩, H⟩
theorem mz_WP.aret {len x y a : Nat} (hl : mz_lk code pc = some (.areturn, len, x, y)) (hr : rk = 3) (H : Q (some (.ref a)) n h) : mz_WP (mz_wc e) d rk code Q pc L [.ref a] n h bc bs := by
  refine mz_WP.step ?_
  unfold mz_step
  rw [hl]
  exact ⟨hr, H⟩
theorem mz_WP.vret {len x y : Nat} (hl : mz_lk code pc = some (.return_, len, x, y)) (hr : rk = 0) (H : Q none n h) : mz_WP (mz_wc e) d rk code Q pc L [] n h bc bs := by
  refine mz_WP.step ?_
  unfold mz_step
  rw [hl]
  exact ⟨hr, H⟩
/-- into a method -/
theorem mz_wc.enter {idx maxL mc ms own kd rt : Nat} {y : MethodName} {bytes : ByteArray} {ret : Option FieldType} {as : List Value} {L0 : List (Option Value)} (hM : mz_tab[idx]? = some (y, bytes, maxL, ret, own, kd, code)) (hr : mz_rk ret = rt) (hl : as.length ≤ maxL) (hL : mz_ini maxL as = L0) (hal : mz_al idx as = (mc, ms)) (H : mz_WP (mz_wc e) e rt code Q 0 L0 [] n h mc ms) : mz_wc (e + 1) idx as n h Q := by
  show match mz_tab[idx]? with
    | some M => as.length ≤ M.2.2.1 ∧ mz_WP (mz_wc e) e (mz_rk M.2.2.2.1) M.2.2.2.2.2.2 Q 0 (mz_ini M.2.2.1 as) [] n h (mz_al idx as).1 (mz_al idx as).2
    | none => False
  rw [hM, hal]
  subst hr
  subst hL
  exact ⟨hl, H⟩
end ST
end
section
/-! Row -/
theorem mz_up_s {h : mz_H} {a : Nat} {x : mz_C} : mz_up h a x a = x := if_pos rfl
theorem mz_up_n {h : mz_H} {a b : Nat} {x : mz_C} (hb : b ≠ a) : mz_up h a x b = h b := if_neg hb
theorem mz_up_up {h : mz_H} {a : Nat} {x y : mz_C} : mz_up (mz_up h a x) a y = mz_up h a y := by
  funext b
  by_cases e : b = a
  · subst e; rw [mz_up_s, mz_up_s]
  · rw [mz_up_n e, mz_up_n e, mz_up_n e]
theorem mz_up_id {h : mz_H} {a : Nat} {x : mz_C} (hx : h a = x) : mz_up h a x = h := by
  funext b
  by_cases e : b = a
  · subst e; rw [mz_up_s, hx]
  · rw [mz_up_n e]
def rat (m : Nat) (f : Nat → Int32) (i : Int32) : Int32 := if i < 0 then 0 else if nI m ≤ i then 0 else f i.toNatClampNeg
def rput (m : Nat) (f : Nat → Int32) (i v : Int32) : Nat → Int32 := if i < 0 then f else if nI m ≤ i then f else upd f i.toNatClampNeg v
theorem rat_in {m : Nat} {f : Nat → Int32} {k : Nat} (hk : k < m) (hm : m < 2 ^ 31) : rat m f (nI k) = f k := by
  unfold rat
  rw [if_neg (nI_pos (by omega)), if_neg (nI_ge hk hm), nI_clamp (by omega)]
theorem rput_in {m : Nat} {f : Nat → Int32} {k : Nat} {v : Int32} (hk : k < m) (hm : m < 2 ^ 31) : rput m f (nI k) v = upd f k v := by
  unfold rput
  rw [if_neg (nI_pos (by omega)), if_neg (nI_ge hk hm), nI_clamp (by omega)]
theorem vp_in_of2 {m : Nat} {i : Int32} (hm : m < 2 ^ 31) (h0 : ¬ i < 0) (h1 : ¬ nI m ≤ i) : vp_in i m := by
  obtain ⟨j, hj, rfl⟩ := nI_of h0
  rw [nI_leI hm hj] at h1
  exact vp_in_nI (by omega) (by omega)
section ROW
variable {e n : Nat} {h : mz_H} {Q : mz_Q} {r a m : Nat} {f : Nat → Int32}
theorem s_at {i : Int32} (hr : h r = .inr (6, [.ref a])) (ha : h a = .inl (0, m, f)) (hm : m < 2 ^ 31) (H : Q (some (.int (rat m f i))) n h) : mz_wc (e + 1) 51 [.ref r, .int i] n h Q := by
  refine mz_wc.enter (code := co_X6_at) (idx := 51) rfl rfl (Nat.le_of_ble_eq_true rfl) rfl rfl ?_
  refine mz_WP.run 80 rfl ?_
  refine mz_WP.ifc rfl (fun c => ?_) (fun c => ?_)
  · have c : i < 0 := c
    rw [rat, if_pos c] at H
    refine mz_WP.run 80 rfl ?_
    exact mz_WP.ret rfl rfl H
  · have c : ¬ i < 0 := c
    refine mz_WP.run 80 rfl ?_
    refine mz_WP.getf rfl (hr) rfl (Nat.le_of_ble_eq_true rfl) ?_
    refine mz_WP.alen rfl ha ?_
    refine mz_WP.icmp rfl (fun c2 => ?_) (fun c2 => ?_)
    · have c2 : nI m ≤ i := c2
      rw [rat, if_neg c, if_pos c2] at H
      refine mz_WP.run 80 rfl ?_
      exact mz_WP.ret rfl rfl H
    · have c2 : ¬ nI m ≤ i := c2
      rw [rat, if_neg c, if_neg c2] at H
      refine mz_WP.run 80 rfl ?_
      refine mz_WP.getf rfl (hr) rfl (Nat.le_of_ble_eq_true rfl) ?_
      refine mz_WP.run 80 rfl ?_
      refine mz_WP.ald rfl ha (vp_in_of2 hm c c2) ?_
      refine mz_WP.run 80 rfl ?_
      exact mz_WP.ret rfl rfl H
theorem s_put {i v : Int32} (hr : h r = .inr (6, [.ref a])) (ha : h a = .inl (0, m, f)) (h2 : 2 ≤ a) (hm : m < 2 ^ 31) (H : Q none n (mz_up h a (.inl (0, m, rput m f i v)))) : mz_wc (e + 1) 52 [.ref r, .int i, .int v] n h Q := by
  refine mz_wc.enter (code := co_X6_put) (idx := 52) rfl rfl (Nat.le_of_ble_eq_true rfl) rfl rfl ?_
  refine mz_WP.run 80 rfl ?_
  refine mz_WP.ifc rfl (fun c => ?_) (fun c => ?_)
  · have c : i < 0 := c
    rw [rput, if_pos c, mz_up_id ha] at H
    refine mz_WP.run 80 rfl ?_
    exact mz_WP.vret rfl rfl H
  · have c : ¬ i < 0 := c
    refine mz_WP.run 80 rfl ?_
    refine mz_WP.getf rfl (hr) rfl (Nat.le_of_ble_eq_true rfl) ?_
    refine mz_WP.alen rfl ha ?_
    refine mz_WP.icmp rfl (fun c2 => ?_) (fun c2 => ?_)
    · have c2 : nI m ≤ i := c2
      rw [rput, if_neg c, if_pos c2, mz_up_id ha] at H
      refine mz_WP.run 80 rfl ?_
      exact mz_WP.vret rfl rfl H
    · have c2 : ¬ nI m ≤ i := c2
      rw [rput, if_neg c, if_neg c2] at H
      refine mz_WP.run 80 rfl ?_
      refine mz_WP.getf rfl (hr) rfl (Nat.le_of_ble_eq_true rfl) ?_
      refine mz_WP.run 80 rfl ?_
      refine mz_WP.ast rfl ha h2 (vp_in_of2 hm c c2) ?_
      refine mz_WP.run 80 rfl ?_
      exact mz_WP.vret rfl rfl H
theorem s_add {i v : Int32} (hr : h r = .inr (6, [.ref a])) (ha : h a = .inl (0, m, f)) (h2 : 2 ≤ a) (hm : m < 2 ^ 31) (H : Q none n (mz_up h a (.inl (0, m, rput m f i (rat m f i + v))))) : mz_wc (e + 2) 53 [.ref r, .int i, .int v] n h Q := by
  refine mz_wc.enter (code := co_X6_add) (idx := 53) rfl rfl (Nat.le_of_ble_eq_true rfl) rfl rfl ?_
  refine mz_WP.run 80 rfl ?_
  refine mz_WP.cv rfl rfl (Nat.le_of_ble_eq_true rfl) rfl (hr) rfl (s_at hr ha hm ?_)
  refine mz_WP.run 80 rfl ?_
  refine mz_WP.cv rfl rfl (Nat.le_of_ble_eq_true rfl) rfl (hr) rfl (s_put hr ha h2 hm ?_)
  refine mz_WP.run 80 rfl ?_
  exact mz_WP.vret rfl rfl H
end ROW
end
section
/-! Row: the loops -/
def rfill (m : Nat) (f : Nat → Int32) (v : Int32) : Nat → Int32 := fun j => if j < m then v else f j
def rcpy (m : Nat) (f g : Nat → Int32) : Nat → Int32 := fun j => if j < m then g j else f j
def rsum (f : Nat → Int32) : Nat → Int32
  | 0 => 0
  | k + 1 => rsum f k + f k
theorem rfill_s {i : Nat} {f : Nat → Int32} {v : Int32} : upd (rfill i f v) i v = rfill (i + 1) f v := by
  funext j
  unfold upd rfill
  by_cases h1 : j = i
  · subst h1
    rw [if_pos rfl, if_pos (by omega)]
  · rw [if_neg h1]
    by_cases h2 : j < i
    · rw [if_pos h2, if_pos (by omega)]
    · rw [if_neg h2, if_neg (by omega)]
theorem rcpy_s {i : Nat} {f g : Nat → Int32} : upd (rcpy i f g) i (g i) = rcpy (i + 1) f g := by
  funext j
  unfold upd rcpy
  by_cases h1 : j = i
  · subst h1
    rw [if_pos rfl, if_pos (by omega)]
  · rw [if_neg h1]
    by_cases h2 : j < i
    · rw [if_pos h2, if_pos (by omega)]
    · rw [if_neg h2, if_neg (by omega)]
theorem rfill_0 {f : Nat → Int32} {v : Int32} : rfill 0 f v = f := by
  funext j
  exact if_neg (by omega)
theorem rcpy_0 {f g : Nat → Int32} : rcpy 0 f g = f := by
  funext j
  exact if_neg (by omega)
section ROW2
variable {e n : Nat} {h : mz_H} {Q : mz_Q} {r a m : Nat} {f : Nat → Int32}
theorem s_fill {v : Int32} (hr : h r = .inr (6, [.ref a])) (ha : h a = .inl (0, m, f)) (h2 : 2 ≤ a) (hm : m < 2 ^ 31) (H : Q none n (mz_up h a (.inl (0, m, rfill m f v)))) : mz_wc (e + 1) 54 [.ref r, .int v] n h Q := by
  have hra : r ≠ a := fun z => by rw [z, ha] at hr; cases hr
  refine mz_wc.enter (code := co_X6_fill) (idx := 54) rfl rfl (Nat.le_of_ble_eq_true rfl) rfl rfl ?_
  refine mz_WP.run 2 rfl ?_
  have loop : ∀ k i, i + k = m → mz_WP (mz_wc e) e 0 co_X6_fill Q 2 [some (.ref r), some (.int v), some (.int (nI i))] [] n (mz_up h a (.inl (0, m, rfill i f v))) 0 0 := by
    intro k
    induction k with
    | zero =>
      intro i hi
      have hi : i = m := by omega
      subst hi
      refine mz_WP.run 80 rfl ?_
      refine mz_WP.getf rfl ((mz_up_n hra).trans hr) rfl (Nat.le_of_ble_eq_true rfl) ?_
      refine mz_WP.alen rfl mz_up_s ?_
      refine mz_WP.icmp rfl (fun c => ?_) (fun c => ?_)
      · exact mz_WP.vret rfl rfl H
      · exact absurd (nI_le (Nat.le_refl _) hm) c
    | succ k ih =>
      intro i hi
      refine mz_WP.run 80 rfl ?_
      refine mz_WP.getf rfl ((mz_up_n hra).trans hr) rfl (Nat.le_of_ble_eq_true rfl) ?_
      refine mz_WP.alen rfl mz_up_s ?_
      refine mz_WP.icmp rfl (fun c => ?_) (fun c => ?_)
      · exact absurd c (nI_ge (by omega) hm)
      · refine mz_WP.run 80 rfl ?_
        refine mz_WP.getf rfl ((mz_up_n hra).trans hr) rfl (Nat.le_of_ble_eq_true rfl) ?_
        refine mz_WP.run 80 rfl ?_
        refine mz_WP.ast rfl mz_up_s h2 (vp_in_nI (by omega) (by omega)) ?_
        refine mz_WP.run 80 rfl ?_
        rw [mz_up_up, nI_clamp (by omega), rfill_s]
        have := ih (i + 1) (by omega)
        rw [nI_succ] at this
        exact this
  have := loop m 0 (by omega)
  rw [rfill_0, mz_up_id ha] at this
  exact this
theorem s_sum (hr : h r = .inr (6, [.ref a])) (ha : h a = .inl (0, m, f)) (hm : m < 2 ^ 31) (H : Q (some (.int (rsum f m))) n h) : mz_wc (e + 1) 55 [.ref r] n h Q := by
  refine mz_wc.enter (code := co_X6_sum) (idx := 55) rfl rfl (Nat.le_of_ble_eq_true rfl) rfl rfl ?_
  refine mz_WP.run 4 rfl ?_
  have loop : ∀ k i, i + k = m → mz_WP (mz_wc e) e 1 co_X6_sum Q 4 [some (.ref r), some (.int (rsum f i)), some (.int (nI i))] [] n h 0 0 := by
    intro k
    induction k with
    | zero =>
      intro i hi
      have hi : i = m := by omega
      subst hi
      refine mz_WP.run 80 rfl ?_
      refine mz_WP.getf rfl (hr) rfl (Nat.le_of_ble_eq_true rfl) ?_
      refine mz_WP.alen rfl ha ?_
      refine mz_WP.icmp rfl (fun c => ?_) (fun c => ?_)
      · refine mz_WP.run 80 rfl ?_
        exact mz_WP.ret rfl rfl H
      · exact absurd (nI_le (Nat.le_refl _) hm) c
    | succ k ih =>
      intro i hi
      refine mz_WP.run 80 rfl ?_
      refine mz_WP.getf rfl (hr) rfl (Nat.le_of_ble_eq_true rfl) ?_
      refine mz_WP.alen rfl ha ?_
      refine mz_WP.icmp rfl (fun c => ?_) (fun c => ?_)
      · exact absurd c (nI_ge (by omega) hm)
      · refine mz_WP.run 80 rfl ?_
        refine mz_WP.getf rfl (hr) rfl (Nat.le_of_ble_eq_true rfl) ?_
        refine mz_WP.run 80 rfl ?_
        refine mz_WP.ald rfl ha (vp_in_nI (by omega) (by omega)) ?_
        refine mz_WP.run 80 rfl ?_
        rw [nI_clamp (by omega)]
        have := ih (i + 1) (by omega)
        rw [nI_succ] at this
        exact this
  exact loop m 0 (by omega)
theorem s_cpy {r2 a2 : Nat} {g : Nat → Int32} (hr : h r = .inr (6, [.ref a])) (ha : h a = .inl (0, m, f)) (h2 : 2 ≤ a) (hm : m < 2 ^ 31) (hr2 : h r2 = .inr (6, [.ref a2])) (ha2 : h a2 = .inl (0, m, g)) (hne : a2 ≠ a) (H : Q none n (mz_up h a (.inl (0, m, rcpy m f g)))) : mz_wc (e + 2) 56 [.ref r, .ref r2] n h Q := by
  have hra : r ≠ a := fun z => by rw [z, ha] at hr; cases hr
  have hra2 : r2 ≠ a := fun z => by rw [z, ha] at hr2; cases hr2
  refine mz_wc.enter (code := co_X6_copyFrom) (idx := 56) rfl rfl (Nat.le_of_ble_eq_true rfl) rfl rfl ?_
  refine mz_WP.run 2 rfl ?_
  have loop : ∀ k i, i + k = m → mz_WP (mz_wc (e + 1)) (e + 1) 0 co_X6_copyFrom Q 2 [some (.ref r), some (.ref r2), some (.int (nI i))] [] n (mz_up h a (.inl (0, m, rcpy i f g))) 0 0 := by
    intro k
    induction k with
    | zero =>
      intro i hi
      have hi : i = m := by omega
      subst hi
      refine mz_WP.run 80 rfl ?_
      refine mz_WP.getf rfl ((mz_up_n hra).trans hr) rfl (Nat.le_of_ble_eq_true rfl) ?_
      refine mz_WP.alen rfl mz_up_s ?_
      refine mz_WP.icmp rfl (fun c => ?_) (fun c => ?_)
      · exact mz_WP.vret rfl rfl H
      · exact absurd (nI_le (Nat.le_refl _) hm) c
    | succ k ih =>
      intro i hi
      refine mz_WP.run 80 rfl ?_
      refine mz_WP.getf rfl ((mz_up_n hra).trans hr) rfl (Nat.le_of_ble_eq_true rfl) ?_
      refine mz_WP.alen rfl mz_up_s ?_
      refine mz_WP.icmp rfl (fun c => ?_) (fun c => ?_)
      · exact absurd c (nI_ge (by omega) hm)
      · refine mz_WP.run 80 rfl ?_
        refine mz_WP.getf rfl ((mz_up_n hra).trans hr) rfl (Nat.le_of_ble_eq_true rfl) ?_
        refine mz_WP.run 80 rfl ?_
        refine mz_WP.cv rfl rfl (Nat.le_of_ble_eq_true rfl) rfl ((mz_up_n hra2).trans hr2) rfl (s_at ((mz_up_n hra2).trans hr2) ((mz_up_n hne).trans ha2) hm ?_)
        rw [rat_in (by omega) hm]
        refine mz_WP.ast rfl mz_up_s h2 (vp_in_nI (by omega) (by omega)) ?_
        refine mz_WP.run 80 rfl ?_
        rw [mz_up_up, nI_clamp (by omega), rcpy_s]
        have := ih (i + 1) (by omega)
        rw [nI_succ] at this
        exact this
  have := loop m 0 (by omega)
  rw [rcpy_0, mz_up_id ha] at this
  exact this
end ROW2
end
section
/-! Taps: an object t with its three rows -/
def tpH (h0 : mz_H) (t : Nat) (z : Int32) (m s w : Nat → Int32) : mz_H := fun b => if b = t then .inr (8, [.ref (t + 1), .ref (t + 3), .ref (t + 5), .int z]) else if b = t + 2 then .inl (0, 48, m) else if b = t + 4 then .inl (0, 48, s) else if b = t + 6 then .inl (0, 48, w) else h0 b
def tpF (h0 : mz_H) (t : Nat) : Prop := 2 ≤ t ∧ h0 (t + 1) = .inr (6, [.ref (t + 2)]) ∧ h0 (t + 3) = .inr (6, [.ref (t + 4)]) ∧ h0 (t + 5) = .inr (6, [.ref (t + 6)])
def shf (f : Nat → Int32) (k p : Nat) : Nat → Int32 := fun j => if p < j ∧ j ≤ k then f (j - 1) else f j
def insf (f : Nat → Int32) (k p : Nat) (x : Int32) : Nat → Int32 := fun j => if j = p then x else if p < j ∧ j ≤ k then f (j - 1) else f j
def rmf (f : Nat → Int32) (k p : Nat) : Nat → Int32 := fun j => if p ≤ j ∧ j + 1 < k then f (j + 1) else f j
theorem shf_0 {f : Nat → Int32} {k : Nat} : shf f k k = f := by
  funext j
  exact if_neg (by omega)
theorem shf_s {f : Nat → Int32} {k p : Nat} (hp : p + 1 ≤ k) : upd (shf f k (p + 1)) (p + 1) (shf f k (p + 1) p) = shf f k p := by
  funext j
  unfold upd shf
  by_cases h1 : j = p + 1
  · subst h1
    rw [if_pos rfl, if_neg (by omega), if_pos (by omega)]
    rfl
  · rw [if_neg h1]
    by_cases h2 : p + 1 < j ∧ j ≤ k
    · rw [if_pos h2, if_pos (by omega)]
    · rw [if_neg h2, if_neg (by omega)]
theorem shf_e {f : Nat → Int32} {k p : Nat} {x : Int32} : upd (shf f k p) p x = insf f k p x := rfl
theorem rmf_0 {f : Nat → Int32} {p : Nat} : rmf f (p + 1) p = f := by
  funext j
  exact if_neg (by omega)
theorem rmf_s {f : Nat → Int32} {i p : Nat} (hp : p < i) : upd (rmf f i p) (i - 1) (rmf f i p i) = rmf f (i + 1) p := by
  funext j
  unfold upd rmf
  by_cases h1 : j = i - 1
  · subst h1
    rw [if_pos rfl, if_neg (by omega), if_pos (by omega), show i - 1 + 1 = i by omega]
  · rw [if_neg h1]
    by_cases h2 : p ≤ j ∧ j + 1 < i
    · rw [if_pos h2, if_pos (by omega)]
    · rw [if_neg h2, if_neg (by omega)]
section TP
variable {e n : Nat} {h : mz_H} {Q : mz_Q} {t : Nat} {z : Int32} {m s w : Nat → Int32}
theorem tp_o : tpH h t z m s w t = .inr (8, [.ref (t + 1), .ref (t + 3), .ref (t + 5), .int z]) := if_pos rfl
theorem tp_1 (F : tpF h t) : tpH h t z m s w (t + 1) = .inr (6, [.ref (t + 2)]) := by
  unfold tpH
  rw [if_neg (by omega), if_neg (by omega), if_neg (by omega), if_neg (by omega)]
  exact F.2.1
theorem tp_3 (F : tpF h t) : tpH h t z m s w (t + 3) = .inr (6, [.ref (t + 4)]) := by
  unfold tpH
  rw [if_neg (by omega), if_neg (by omega), if_neg (by omega), if_neg (by omega)]
  exact F.2.2.1
theorem tp_5 (F : tpF h t) : tpH h t z m s w (t + 5) = .inr (6, [.ref (t + 6)]) := by
  unfold tpH
  rw [if_neg (by omega), if_neg (by omega), if_neg (by omega), if_neg (by omega)]
  exact F.2.2.2
theorem tp_2 : tpH h t z m s w (t + 2) = .inl (0, 48, m) := by
  unfold tpH
  rw [if_neg (by omega), if_pos rfl]
theorem tp_4 : tpH h t z m s w (t + 4) = .inl (0, 48, s) := by
  unfold tpH
  rw [if_neg (by omega), if_neg (by omega), if_pos rfl]
theorem tp_6 : tpH h t z m s w (t + 6) = .inl (0, 48, w) := by
  unfold tpH
  rw [if_neg (by omega), if_neg (by omega), if_neg (by omega), if_pos rfl]
theorem tp_n {b : Nat} (h0 : b ≠ t) (h2 : b ≠ t + 2) (h4 : b ≠ t + 4) (h6 : b ≠ t + 6) : tpH h t z m s w b = h b := by
  unfold tpH
  rw [if_neg h0, if_neg h2, if_neg h4, if_neg h6]
theorem tp_u0 {z' : Int32} : mz_up (tpH h t z m s w) t (.inr (8, [.ref (t + 1), .ref (t + 3), .ref (t + 5), .int z'])) = tpH h t z' m s w := by
  funext b
  unfold mz_up tpH
  by_cases hb : b = t
  · rw [if_pos hb, if_pos hb]
  · rw [if_neg hb, if_neg hb, if_neg hb]
theorem tp_u2 {m' : Nat → Int32} : mz_up (tpH h t z m s w) (t + 2) (.inl (0, 48, m')) = tpH h t z m' s w := by
  funext b
  unfold mz_up tpH
  by_cases hb : b = t + 2
  · subst hb
    rw [if_pos rfl, if_neg (by omega), if_pos rfl]
  · rw [if_neg hb, if_neg hb, if_neg hb]
theorem tp_u4 {m' : Nat → Int32} : mz_up (tpH h t z m s w) (t + 4) (.inl (0, 48, m')) = tpH h t z m m' w := by
  funext b
  unfold mz_up tpH
  by_cases hb : b = t + 4
  · subst hb
    rw [if_pos rfl, if_neg (by omega), if_neg (by omega), if_pos rfl]
  · rw [if_neg hb, if_neg hb, if_neg hb]
theorem tp_u6 {m' : Nat → Int32} : mz_up (tpH h t z m s w) (t + 6) (.inl (0, 48, m')) = tpH h t z m s m' := by
  funext b
  unfold mz_up tpH
  by_cases hb : b = t + 6
  · subst hb
    rw [if_pos rfl, if_neg (by omega), if_neg (by omega), if_neg (by omega), if_pos rfl]
  · rw [if_neg hb, if_neg hb, if_neg hb]
theorem s_tsize (H : Q (some (.int z)) n (tpH h t z m s w)) : mz_wc (e + 1) 61 [.ref t] n (tpH h t z m s w) Q := by
  refine mz_wc.enter (code := co_X8_size) (idx := 61) rfl rfl (Nat.le_of_ble_eq_true rfl) rfl rfl ?_
  refine mz_WP.run 80 rfl ?_
  refine mz_WP.getf rfl (tp_o) rfl (Nat.le_of_ble_eq_true rfl) ?_
  exact mz_WP.ret rfl rfl H
theorem s_tmom {i : Int32} (F : tpF h t) (H : Q (some (.int (rat 48 m i))) n (tpH h t z m s w)) : mz_wc (e + 2) 62 [.ref t, .int i] n (tpH h t z m s w) Q := by
  refine mz_wc.enter (code := co_X8_moment) (idx := 62) rfl rfl (Nat.le_of_ble_eq_true rfl) rfl rfl ?_
  refine mz_WP.run 80 rfl ?_
  refine mz_WP.getf rfl (tp_o) rfl (Nat.le_of_ble_eq_true rfl) ?_
  refine mz_WP.run 80 rfl ?_
  refine mz_WP.cv rfl rfl (Nat.le_of_ble_eq_true rfl) rfl (tp_1 F) rfl (s_at (tp_1 F) tp_2 (by decide) ?_)
  exact mz_WP.ret rfl rfl H
theorem s_tsta {i : Int32} (F : tpF h t) (H : Q (some (.int (rat 48 s i))) n (tpH h t z m s w)) : mz_wc (e + 2) 63 [.ref t, .int i] n (tpH h t z m s w) Q := by
  refine mz_wc.enter (code := co_X8_station) (idx := 63) rfl rfl (Nat.le_of_ble_eq_true rfl) rfl rfl ?_
  refine mz_WP.run 80 rfl ?_
  refine mz_WP.getf rfl (tp_o) rfl (Nat.le_of_ble_eq_true rfl) ?_
  refine mz_WP.run 80 rfl ?_
  refine mz_WP.cv rfl rfl (Nat.le_of_ble_eq_true rfl) rfl (tp_3 F) rfl (s_at (tp_3 F) tp_4 (by decide) ?_)
  exact mz_WP.ret rfl rfl H
theorem s_tway {i : Int32} (F : tpF h t) (H : Q (some (.int (rat 48 w i))) n (tpH h t z m s w)) : mz_wc (e + 2) 64 [.ref t, .int i] n (tpH h t z m s w) Q := by
  refine mz_wc.enter (code := co_X8_way) (idx := 64) rfl rfl (Nat.le_of_ble_eq_true rfl) rfl rfl ?_
  refine mz_WP.run 80 rfl ?_
  refine mz_WP.getf rfl (tp_o) rfl (Nat.le_of_ble_eq_true rfl) ?_
  refine mz_WP.run 80 rfl ?_
  refine mz_WP.cv rfl rfl (Nat.le_of_ble_eq_true rfl) rfl (tp_5 F) rfl (s_at (tp_5 F) tp_6 (by decide) ?_)
  exact mz_WP.ret rfl rfl H
theorem s_tmove {i j : Int32} (F : tpF h t) (H : Q none n (tpH h t z (rput 48 m j (rat 48 m i)) (rput 48 s j (rat 48 s i)) (rput 48 w j (rat 48 w i)))) : mz_wc (e + 2) 68 [.ref t, .int i, .int j] n (tpH h t z m s w) Q := by
  have h2 := F.1
  refine mz_wc.enter (code := co_X8_move) (idx := 68) rfl rfl (Nat.le_of_ble_eq_true rfl) rfl rfl ?_
  refine mz_WP.run 80 rfl ?_
  refine mz_WP.getf rfl (tp_o) rfl (Nat.le_of_ble_eq_true rfl) ?_
  refine mz_WP.run 80 rfl ?_
  refine mz_WP.getf rfl (tp_o) rfl (Nat.le_of_ble_eq_true rfl) ?_
  refine mz_WP.run 80 rfl ?_
  refine mz_WP.cv rfl rfl (Nat.le_of_ble_eq_true rfl) rfl (tp_1 F) rfl (s_at (tp_1 F) tp_2 (by decide) ?_)
  refine mz_WP.cv rfl rfl (Nat.le_of_ble_eq_true rfl) rfl (tp_1 F) rfl (s_put (tp_1 F) tp_2 (by omega) (by decide) ?_)
  rw [tp_u2]
  refine mz_WP.run 80 rfl ?_
  refine mz_WP.getf rfl (tp_o) rfl (Nat.le_of_ble_eq_true rfl) ?_
  refine mz_WP.run 80 rfl ?_
  refine mz_WP.getf rfl (tp_o) rfl (Nat.le_of_ble_eq_true rfl) ?_
  refine mz_WP.run 80 rfl ?_
  refine mz_WP.cv rfl rfl (Nat.le_of_ble_eq_true rfl) rfl (tp_3 F) rfl (s_at (tp_3 F) tp_4 (by decide) ?_)
  refine mz_WP.cv rfl rfl (Nat.le_of_ble_eq_true rfl) rfl (tp_3 F) rfl (s_put (tp_3 F) tp_4 (by omega) (by decide) ?_)
  rw [tp_u4]
  refine mz_WP.run 80 rfl ?_
  refine mz_WP.getf rfl (tp_o) rfl (Nat.le_of_ble_eq_true rfl) ?_
  refine mz_WP.run 80 rfl ?_
  refine mz_WP.getf rfl (tp_o) rfl (Nat.le_of_ble_eq_true rfl) ?_
  refine mz_WP.run 80 rfl ?_
  refine mz_WP.cv rfl rfl (Nat.le_of_ble_eq_true rfl) rfl (tp_5 F) rfl (s_at (tp_5 F) tp_6 (by decide) ?_)
  refine mz_WP.cv rfl rfl (Nat.le_of_ble_eq_true rfl) rfl (tp_5 F) rfl (s_put (tp_5 F) tp_6 (by omega) (by decide) ?_)
  rw [tp_u6]
  exact mz_WP.vret rfl rfl H
theorem s_tfind {k : Nat} {v : Int32} (F : tpF h t) (hk : k ≤ 48) (H1 : ∀ j, j < k → m j = v → (∀ i, i < j → m i ≠ v) → Q (some (.int (nI j))) n (tpH h t (nI k) m s w)) (H2 : (∀ j, j < k → m j ≠ v) → Q (some (.int (nI 4294967295))) n (tpH h t (nI k) m s w)) : mz_wc (e + 2) 65 [.ref t, .int v] n (tpH h t (nI k) m s w) Q := by
  refine mz_wc.enter (code := co_X8_find) (idx := 65) rfl rfl (Nat.le_of_ble_eq_true rfl) rfl rfl ?_
  refine mz_WP.run 2 rfl ?_
  have loop : ∀ q i, i + q = k → (∀ j, j < i → m j ≠ v) → mz_WP (mz_wc (e + 1)) (e + 1) 1 co_X8_find Q 2 [some (.ref t), some (.int v), some (.int (nI i))] [] n (tpH h t (nI k) m s w) 0 0 := by
    intro q
    induction q with
    | zero =>
      intro i hi hn
      have hi : i = k := by omega
      subst hi
      refine mz_WP.run 80 rfl ?_
      refine mz_WP.getf rfl (tp_o) rfl (Nat.le_of_ble_eq_true rfl) ?_
      refine mz_WP.icmp rfl (fun c => ?_) (fun c => ?_)
      · refine mz_WP.run 80 rfl ?_
        exact mz_WP.ret rfl rfl (H2 hn)
      · exact absurd (nI_le (Nat.le_refl _) (by omega)) c
    | succ q ih =>
      intro i hi hn
      refine mz_WP.run 80 rfl ?_
      refine mz_WP.getf rfl (tp_o) rfl (Nat.le_of_ble_eq_true rfl) ?_
      refine mz_WP.icmp rfl (fun c => ?_) (fun c => ?_)
      · exact absurd c (nI_ge (by omega) (by omega))
      · refine mz_WP.run 80 rfl ?_
        refine mz_WP.getf rfl (tp_o) rfl (Nat.le_of_ble_eq_true rfl) ?_
        refine mz_WP.run 80 rfl ?_
        refine mz_WP.cv rfl rfl (Nat.le_of_ble_eq_true rfl) rfl (tp_1 F) rfl (s_at (tp_1 F) tp_2 (by decide) ?_)
        rw [rat_in (by omega) (by decide)]
        refine mz_WP.run 80 rfl ?_
        refine mz_WP.icmp rfl (fun c2 => ?_) (fun c2 => ?_)
        · have c2 : ¬ m i = v := c2
          refine mz_WP.run 80 rfl ?_
          have := ih (i + 1) (by omega) (fun j hj => by
            by_cases hji : j = i
            · subst hji; exact c2
            · exact hn j (by omega))
          rw [nI_succ] at this
          exact this
        · have c2 : m i = v := Classical.byContradiction c2
          refine mz_WP.run 80 rfl ?_
          exact mz_WP.ret rfl rfl (H1 i (by omega) c2 hn)
  exact loop k 0 (by omega) (fun j hj => by omega)
end TP
end
section
/-! Taps: insert, remove, isWholeFrom, copyFrom; dayOf -/
section TP2
variable {e n : Nat} {h : mz_H} {Q : mz_Q} {t : Nat} {z : Int32} {m s w : Nat → Int32}
theorem s_dayOf {x : Int32} (H : Q (some (.int (x / nI 1440))) n h) : mz_wc (e + 1) 114 [.int x] n h Q := by
  refine mz_wc.enter (code := co_X10_dayOf) (idx := 114) rfl rfl (Nat.le_of_ble_eq_true rfl) rfl rfl ?_
  refine mz_WP.run 80 rfl ?_
  refine mz_WP.div rfl (by decide) ?_
  exact mz_WP.ret rfl rfl H
theorem s_minuteOf {x : Int32} (H : Q (some (.int (x - x / nI 1440 * nI 1440))) n h) : mz_wc (e + 1) 115 [.int x] n h Q := by
  refine mz_wc.enter (code := co_X10_minuteOf) (idx := 115) rfl rfl (Nat.le_of_ble_eq_true rfl) rfl rfl ?_
  refine mz_WP.run 80 rfl ?_
  refine mz_WP.rem rfl (by decide) ?_
  exact mz_WP.ret rfl rfl H
theorem s_momentOf {x y : Int32} (H : Q (some (.int (x * nI 1440 + y))) n h) : mz_wc (e + 1) 113 [.int x, .int y] n h Q := by
  refine mz_wc.enter (code := co_X10_momentOf) (idx := 113) rfl rfl (Nat.le_of_ble_eq_true rfl) rfl rfl ?_
  refine mz_WP.run 80 rfl ?_
  exact mz_WP.ret rfl rfl H
theorem s_tins {k : Nat} {v x y : Int32} (F : tpF h t) (hk : k < 48) (H : ∀ p, p ≤ k → (∀ j, p ≤ j → j < k → v < m j) → (p = 0 ∨ m (p - 1) ≤ v) → Q none n (tpH h t (nI (k + 1)) (insf m k p v) (insf s k p x) (insf w k p y))) : mz_wc (e + 3) 66 [.ref t, .int v, .int x, .int y] n (tpH h t (nI k) m s w) Q := by
  have h2 := F.1
  refine mz_wc.enter (code := co_X8_insert) (idx := 66) rfl rfl (Nat.le_of_ble_eq_true rfl) rfl rfl ?_
  refine mz_WP.run 80 rfl ?_
  refine mz_WP.getf rfl (tp_o) rfl (Nat.le_of_ble_eq_true rfl) ?_
  refine mz_WP.run 80 rfl ?_
  refine mz_WP.icmp rfl (fun c => ?_) (fun c => ?_)
  · refine mz_WP.run 80 rfl ?_
    refine mz_WP.getf rfl (tp_o) rfl (Nat.le_of_ble_eq_true rfl) ?_
    refine mz_WP.run 1 rfl ?_
    have fin : ∀ p, p ≤ k → (∀ j, p ≤ j → j < k → v < m j) → (p = 0 ∨ m (p - 1) ≤ v) → mz_WP (mz_wc (e + 2)) (e + 2) 0 co_X8_insert Q 52 [some (.ref t), some (.int v), some (.int x), some (.int y), some (.int (nI p))] [] n (tpH h t (nI k) (shf m k p) (shf s k p) (shf w k p)) 0 0 := by
      intro p hp h1 h3
      refine mz_WP.run 80 rfl ?_
      refine mz_WP.getf rfl (tp_o) rfl (Nat.le_of_ble_eq_true rfl) ?_
      refine mz_WP.run 80 rfl ?_
      refine mz_WP.cv rfl rfl (Nat.le_of_ble_eq_true rfl) rfl (tp_1 F) rfl (s_put (tp_1 F) tp_2 (by omega) (by decide) ?_)
      rw [tp_u2, rput_in (by omega) (by decide), shf_e]
      refine mz_WP.run 80 rfl ?_
      refine mz_WP.getf rfl (tp_o) rfl (Nat.le_of_ble_eq_true rfl) ?_
      refine mz_WP.run 80 rfl ?_
      refine mz_WP.cv rfl rfl (Nat.le_of_ble_eq_true rfl) rfl (tp_3 F) rfl (s_put (tp_3 F) tp_4 (by omega) (by decide) ?_)
      rw [tp_u4, rput_in (by omega) (by decide), shf_e]
      refine mz_WP.run 80 rfl ?_
      refine mz_WP.getf rfl (tp_o) rfl (Nat.le_of_ble_eq_true rfl) ?_
      refine mz_WP.run 80 rfl ?_
      refine mz_WP.cv rfl rfl (Nat.le_of_ble_eq_true rfl) rfl (tp_5 F) rfl (s_put (tp_5 F) tp_6 (by omega) (by decide) ?_)
      rw [tp_u6, rput_in (by omega) (by decide), shf_e]
      refine mz_WP.run 80 rfl ?_
      refine mz_WP.getf rfl (tp_o) rfl (Nat.le_of_ble_eq_true rfl) ?_
      refine mz_WP.run 80 rfl ?_
      refine mz_WP.putf rfl (tp_o) (Nat.le_of_ble_eq_true rfl) (Nat.le_of_ble_eq_true rfl) rfl ?_
      refine mz_WP.vret rfl rfl ?_
      have := H p hp h1 h3
      rw [nI_succ] at this
      show Q none n (mz_up _ t (.inr (8, [.ref (t + 1), .ref (t + 3), .ref (t + 5), .int (nI k + 1)])))
      rw [tp_u0]
      exact this
    have loop : ∀ p, p ≤ k → (∀ j, p ≤ j → j < k → v < m j) → mz_WP (mz_wc (e + 2)) (e + 2) 0 co_X8_insert Q 16 [some (.ref t), some (.int v), some (.int x), some (.int y), some (.int (nI p))] [] n (tpH h t (nI k) (shf m k p) (shf s k p) (shf w k p)) 0 0 := by
      intro p
      induction p with
      | zero =>
        intro hp h1
        refine mz_WP.run 80 rfl ?_
        refine mz_WP.ifc rfl (fun c => ?_) (fun c => ?_)
        · exact fin 0 hp h1 (Or.inl rfl)
        · exact absurd (show nI 0 ≤ 0 from Int32.le_refl _) c
      | succ p ih =>
        intro hp h1
        refine mz_WP.run 80 rfl ?_
        refine mz_WP.ifc rfl (fun c => ?_) (fun c => ?_)
        · exact absurd c (nI_nle (by omega) (by omega))
        · refine mz_WP.run 80 rfl ?_
          refine mz_WP.getf rfl (tp_o) rfl (Nat.le_of_ble_eq_true rfl) ?_
          refine mz_WP.run 80 rfl ?_
          refine mz_WP.cv rfl rfl (Nat.le_of_ble_eq_true rfl) rfl (tp_1 F) rfl (s_at (tp_1 F) tp_2 (by decide) ?_)
          rw [show nI (p + 1) - nI 1 = nI p from nI_pred p, rat_in (by omega) (by decide)]
          refine mz_WP.run 80 rfl ?_
          have hs : shf m k (p + 1) p = m p := if_neg (by omega)
          refine mz_WP.icmp rfl (fun c2 => ?_) (fun c2 => ?_)
          · have c2 : shf m k (p + 1) p ≤ v := c2
            exact fin (p + 1) hp h1 (Or.inr (by rw [hs] at c2; exact c2))
          · have c2 : ¬ shf m k (p + 1) p ≤ v := c2
            refine mz_WP.run 80 rfl ?_
            refine mz_WP.cv rfl rfl (Nat.le_of_ble_eq_true rfl) rfl (tp_o) rfl (s_tmove F ?_)
            rw [show nI (p + 1) - nI 1 = nI p from nI_pred p, rat_in (by omega) (by decide), rat_in (by omega) (by decide), rat_in (by omega) (by decide), rput_in (by omega) (by decide), rput_in (by omega) (by decide), rput_in (by omega) (by decide), shf_s hp, shf_s hp, shf_s hp]
            refine mz_WP.run 80 rfl ?_
            have := ih (by omega) (fun j h3 h4 => by
              by_cases hj : j = p
              · subst hj
                rw [hs] at c2
                exact Int32.not_le.mp c2
              · exact h1 j (by omega) h4)
            rw [show nI (p + 1) + nI 4294967295 = nI p from pk_m1 p]
            exact this
    have := loop k (Nat.le_refl k) (fun j h1 h2 => by omega)
    rw [shf_0, shf_0, shf_0] at this
    exact this
  · exact absurd (nI_lt hk (by decide)) c
theorem s_trem {k p : Nat} (F : tpF h t) (hk : k ≤ 48) (hp : p < k) (H : Q none n (tpH h t (nI (k - 1)) (rmf m k p) (rmf s k p) (rmf w k p))) : mz_wc (e + 3) 67 [.ref t, .int (nI p)] n (tpH h t (nI k) m s w) Q := by
  have h2 := F.1
  refine mz_wc.enter (code := co_X8_remove) (idx := 67) rfl rfl (Nat.le_of_ble_eq_true rfl) rfl rfl ?_
  refine mz_WP.run 80 rfl ?_
  refine mz_WP.ifc rfl (fun c => ?_) (fun c => ?_)
  · exact absurd c (nI_pos (by omega))
  · refine mz_WP.run 80 rfl ?_
    refine mz_WP.getf rfl (tp_o) rfl (Nat.le_of_ble_eq_true rfl) ?_
    refine mz_WP.icmp rfl (fun c => ?_) (fun c => ?_)
    · refine mz_WP.run 4 rfl ?_
      have loop : ∀ q i, i + q = k → p < i → mz_WP (mz_wc (e + 2)) (e + 2) 0 co_X8_remove Q 17 [some (.ref t), some (.int (nI p)), some (.int (nI i))] [] n (tpH h t (nI k) (rmf m i p) (rmf s i p) (rmf w i p)) 0 0 := by
        intro q
        induction q with
        | zero =>
          intro i hi hpi
          have hi : i = k := by omega
          subst hi
          refine mz_WP.run 80 rfl ?_
          refine mz_WP.getf rfl (tp_o) rfl (Nat.le_of_ble_eq_true rfl) ?_
          refine mz_WP.icmp rfl (fun c => ?_) (fun c => ?_)
          · refine mz_WP.run 80 rfl ?_
            refine mz_WP.getf rfl (tp_o) rfl (Nat.le_of_ble_eq_true rfl) ?_
            refine mz_WP.run 80 rfl ?_
            refine mz_WP.putf rfl (tp_o) (Nat.le_of_ble_eq_true rfl) (Nat.le_of_ble_eq_true rfl) rfl ?_
            refine mz_WP.vret rfl rfl ?_
            show Q none n (mz_up _ t (.inr (8, [.ref (t + 1), .ref (t + 3), .ref (t + 5), .int (nI i - nI 1)])))
            rw [tp_u0, pk_sub (by omega)]
            exact H
          · exact absurd (nI_le (Nat.le_refl _) (by omega)) c
        | succ q ih =>
          intro i hi hpi
          refine mz_WP.run 80 rfl ?_
          refine mz_WP.getf rfl (tp_o) rfl (Nat.le_of_ble_eq_true rfl) ?_
          refine mz_WP.icmp rfl (fun c => ?_) (fun c => ?_)
          · exact absurd c (nI_ge (by omega) (by omega))
          · refine mz_WP.run 80 rfl ?_
            refine mz_WP.cv rfl rfl (Nat.le_of_ble_eq_true rfl) rfl (tp_o) rfl (s_tmove F ?_)
            rw [show nI i - nI 1 = nI (i - 1) from pk_sub (by omega), rat_in (by omega) (by decide), rat_in (by omega) (by decide), rat_in (by omega) (by decide), rput_in (by omega) (by decide), rput_in (by omega) (by decide), rput_in (by omega) (by decide), rmf_s hpi, rmf_s hpi, rmf_s hpi]
            refine mz_WP.run 80 rfl ?_
            have := ih (i + 1) (by omega) (by omega)
            rw [nI_succ] at this
            exact this
      have := loop (k - (p + 1)) (p + 1) (by omega) (by omega)
      rw [rmf_0, rmf_0, rmf_0, nI_succ] at this
      exact this
    · exact absurd (nI_lt hp (by omega)) c
def wholeP (k : Nat) (m w : Nat → Int32) (j : Nat) : Prop := j + 1 < k ∧ w j = 0 ∧ w (j + 1) = 1 ∧ m j / nI 1440 = m (j + 1) / nI 1440
theorem s_twhole {k j : Nat} (F : tpF h t) (hk : k ≤ 48) (hj : j < k) (H1 : wholeP k m w j → Q (some (.int 1)) n (tpH h t (nI k) m s w)) (H0 : ¬ wholeP k m w j → Q (some (.int 0)) n (tpH h t (nI k) m s w)) : mz_wc (e + 2) 69 [.ref t, .int (nI j)] n (tpH h t (nI k) m s w) Q := by
  refine mz_wc.enter (code := co_X8_isWholeFrom) (idx := 69) rfl rfl (Nat.le_of_ble_eq_true rfl) rfl rfl ?_
  have out : ¬ wholeP k m w j → mz_WP (mz_wc (e + 1)) (e + 1) 2 co_X8_isWholeFrom Q 70 [some (.ref t), some (.int (nI j))] [] n (tpH h t (nI k) m s w) 0 0 := by
    intro hn
    refine mz_WP.run 80 rfl ?_
    exact mz_WP.zret rfl rfl (Or.inl rfl) (H0 hn)
  refine mz_WP.run 80 rfl ?_
  refine mz_WP.ifc rfl (fun c => ?_) (fun c => ?_)
  · exact absurd c (nI_pos (by omega))
  · refine mz_WP.run 80 rfl ?_
    refine mz_WP.getf rfl (tp_o) rfl (Nat.le_of_ble_eq_true rfl) ?_
    refine mz_WP.icmp rfl (fun c => ?_) (fun c => ?_)
    · refine out (fun q => ?_)
      rw [nI_add] at c
      exact absurd c (nI_ge q.1 (by omega))
    · have hlt : j + 1 < k := by
        rw [nI_add] at c
        rcases Nat.lt_or_ge (j + 1) k with q | q
        · exact q
        · exact absurd (nI_le q (by omega)) c
      refine mz_WP.run 80 rfl ?_
      refine mz_WP.getf rfl (tp_o) rfl (Nat.le_of_ble_eq_true rfl) ?_
      refine mz_WP.run 80 rfl ?_
      refine mz_WP.cv rfl rfl (Nat.le_of_ble_eq_true rfl) rfl (tp_5 F) rfl (s_at (tp_5 F) tp_6 (by decide) ?_)
      rw [rat_in (by omega) (by decide)]
      refine mz_WP.ifc rfl (fun c1 => ?_) (fun c1 => ?_)
      · exact out (fun q => c1 q.2.1)
      · have c1 : w j = 0 := Classical.byContradiction c1
        refine mz_WP.run 80 rfl ?_
        refine mz_WP.getf rfl (tp_o) rfl (Nat.le_of_ble_eq_true rfl) ?_
        refine mz_WP.run 80 rfl ?_
        refine mz_WP.cv rfl rfl (Nat.le_of_ble_eq_true rfl) rfl (tp_5 F) rfl (s_at (tp_5 F) tp_6 (by decide) ?_)
        rw [nI_add, rat_in (by omega) (by decide)]
        refine mz_WP.run 80 rfl ?_
        refine mz_WP.icmp rfl (fun c2 => ?_) (fun c2 => ?_)
        · exact out (fun q => c2 q.2.2.1)
        · have c2 : w (j + 1) = 1 := Classical.byContradiction c2
          refine mz_WP.run 80 rfl ?_
          refine mz_WP.getf rfl (tp_o) rfl (Nat.le_of_ble_eq_true rfl) ?_
          refine mz_WP.run 80 rfl ?_
          refine mz_WP.cv rfl rfl (Nat.le_of_ble_eq_true rfl) rfl (tp_1 F) rfl (s_at (tp_1 F) tp_2 (by decide) ?_)
          rw [rat_in (by omega) (by decide)]
          refine mz_WP.cs rfl (by decide) rfl (Nat.le_of_ble_eq_true rfl) rfl (s_dayOf ?_)
          refine mz_WP.run 80 rfl ?_
          refine mz_WP.getf rfl (tp_o) rfl (Nat.le_of_ble_eq_true rfl) ?_
          refine mz_WP.run 80 rfl ?_
          refine mz_WP.cv rfl rfl (Nat.le_of_ble_eq_true rfl) rfl (tp_1 F) rfl (s_at (tp_1 F) tp_2 (by decide) ?_)
          rw [nI_add, rat_in (by omega) (by decide)]
          refine mz_WP.cs rfl (by decide) rfl (Nat.le_of_ble_eq_true rfl) rfl (s_dayOf ?_)
          refine mz_WP.icmp rfl (fun c3 => ?_) (fun c3 => ?_)
          · exact out (fun q => c3 q.2.2.2)
          · have c3 : m j / nI 1440 = m (j + 1) / nI 1440 := Classical.byContradiction c3
            refine mz_WP.run 80 rfl ?_
            refine mz_WP.run 80 rfl ?_
            exact mz_WP.zret rfl rfl (Or.inr rfl) (H1 ⟨hlt, c1, c2, c3⟩)
theorem s_twholeN {k : Nat} (H0 : Q (some (.int 0)) n (tpH h t (nI k) m s w)) : mz_wc (e + 2) 69 [.ref t, .int (nI 0 - nI 1)] n (tpH h t (nI k) m s w) Q := by
  refine mz_wc.enter (code := co_X8_isWholeFrom) (idx := 69) rfl rfl (Nat.le_of_ble_eq_true rfl) rfl rfl ?_
  refine mz_WP.run 80 rfl ?_
  refine mz_WP.ifc rfl (fun c => ?_) (fun c => ?_)
  · refine mz_WP.run 80 rfl ?_
    exact mz_WP.zret rfl rfl (Or.inl rfl) H0
  · exact absurd (show nI 0 - nI 1 < 0 by decide) c
end TP2
end
section
/-! the cells that never change once made; the regions of the bill; by program (wip/whole/gen20.py) -/
def fxl : List (Nat × mz_C) := [(3, .inr (7, [.ref 4, .ref 11, .ref 18, .ref 25, .ref 32, .ref 41])), (5, .inr (6, [.ref 6])), (7, .inr (6, [.ref 8])), (9, .inr (6, [.ref 10])), (12, .inr (6, [.ref 13])), (14, .inr (6, [.ref 15])), (16, .inr (6, [.ref 17])), (19, .inr (6, [.ref 20])), (21, .inr (6, [.ref 22])), (23, .inr (6, [.ref 24])), (26, .inr (6, [.ref 27])), (28, .inr (6, [.ref 29])), (30, .inr (6, [.ref 31])), (33, .inr (6, [.ref 34])), (35, .inr (6, [.ref 36])), (37, .inr (6, [.ref 38])), (39, .inr (6, [.ref 40])), (42, .inr (6, [.ref 43])), (44, .inr (6, [.ref 45])), (46, .inr (7, [.ref 47, .ref 54, .ref 61, .ref 68, .ref 75, .ref 84])), (48, .inr (6, [.ref 49])), (50, .inr (6, [.ref 51])), (52, .inr (6, [.ref 53])), (55, .inr (6, [.ref 56])), (57, .inr (6, [.ref 58])), (59, .inr (6, [.ref 60])), (62, .inr (6, [.ref 63])), (64, .inr (6, [.ref 65])), (66, .inr (6, [.ref 67])), (69, .inr (6, [.ref 70])), (71, .inr (6, [.ref 72])), (73, .inr (6, [.ref 74])), (76, .inr (6, [.ref 77])), (78, .inr (6, [.ref 79])), (80, .inr (6, [.ref 81])), (82, .inr (6, [.ref 83])), (85, .inr (6, [.ref 86])), (87, .inr (6, [.ref 88])), (89, .inr (7, [.ref 90, .ref 97, .ref 104, .ref 111, .ref 118, .ref 127])), (91, .inr (6, [.ref 92])), (93, .inr (6, [.ref 94])), (95, .inr (6, [.ref 96])), (98, .inr (6, [.ref 99])), (100, .inr (6, [.ref 101])), (102, .inr (6, [.ref 103])), (105, .inr (6, [.ref 106])), (107, .inr (6, [.ref 108])), (109, .inr (6, [.ref 110])), (112, .inr (6, [.ref 113])), (114, .inr (6, [.ref 115])), (116, .inr (6, [.ref 117])), (119, .inr (6, [.ref 120])), (121, .inr (6, [.ref 122])), (123, .inr (6, [.ref 124])), (125, .inr (6, [.ref 126])), (128, .inr (6, [.ref 129])), (130, .inr (6, [.ref 131])), (133, .inr (6, [.ref 134])), (135, .inr (6, [.ref 136])), (137, .inr (6, [.ref 138])), (139, .inr (1, [.ref 140, .ref 155, .ref 168, .ref 175])), (141, .inr (6, [.ref 142])), (143, .inr (6, [.ref 144])), (145, .inr (6, [.ref 146])), (147, .inr (6, [.ref 148])), (149, .inr (6, [.ref 150])), (151, .inr (6, [.ref 152])), (153, .inr (6, [.ref 154])), (156, .inr (6, [.ref 157])), (158, .inr (6, [.ref 159])), (160, .inr (6, [.ref 161])), (162, .inr (6, [.ref 163])), (164, .inr (6, [.ref 165])), (166, .inr (6, [.ref 167])), (168, .inr (2, [.ref 169, .ref 171, .ref 173])), (169, .inr (6, [.ref 170])), (171, .inr (6, [.ref 172])), (173, .inr (6, [.ref 174])), (175, .inr (4, [.ref 176, .ref 178, .ref 180, .ref 182, .ref 184])), (176, .inr (6, [.ref 177])), (178, .inr (6, [.ref 179])), (180, .inr (6, [.ref 181])), (182, .inr (6, [.ref 183])), (184, .inr (6, [.ref 185]))]
def fxf : List (Nat × mz_C) → Nat → Option mz_C
  | [], _ => none
  | e :: r, a => match Nat.beq e.1 a with
    | true => some e.2
    | false => fxf r a
def fxt (a : Nat) : Option mz_C := fxf fxl a
def Fx (h : mz_H) : Prop := ∀ a c, fxt a = some c → h a = c
theorem Fx.up {h : mz_H} (F : Fx h) {a : Nat} {x : mz_C} (ha : fxt a = none) : Fx (mz_up h a x) := by
  intro b c hc
  have hb : b ≠ a := fun q => by rw [q, ha] at hc; cases hc
  rw [mz_up_n hb]
  exact F b c hc
def rdH (h0 : mz_H) (z : Int32) (bs es bm em kd le lb : Nat → Int32) : mz_H := fun b => if b = 140 then .inr (5, [.ref 141, .ref 143, .ref 145, .ref 147, .ref 149, .ref 151, .ref 153, .int z]) else if b = 142 then .inl (0, 48, bs) else if b = 144 then .inl (0, 48, es) else if b = 146 then .inl (0, 48, bm) else if b = 148 then .inl (0, 48, em) else if b = 150 then .inl (0, 48, kd) else if b = 152 then .inl (0, 8, le) else if b = 154 then .inl (0, 8, lb) else h0 b
theorem rd_lt {h0 : mz_H} {z : Int32} {bs es bm em kd le lb : Nat → Int32} {b : Nat} (hb : b < 140 ∨ 154 < b) : rdH h0 z bs es bm em kd le lb b = h0 b := by
  unfold rdH
  rw [if_neg (by omega), if_neg (by omega), if_neg (by omega), if_neg (by omega), if_neg (by omega), if_neg (by omega), if_neg (by omega), if_neg (by omega)]
theorem rd_F {h0 : mz_H} {z : Int32} {bs es bm em kd le lb : Nat → Int32} (F : Fx h0) : Fx (rdH h0 z bs es bm em kd le lb) := by
  intro a c hc
  unfold rdH
  rw [if_neg (fun q => by subst q; exact Option.some_ne_none c (Eq.symm hc)), if_neg (fun q => by subst q; exact Option.some_ne_none c (Eq.symm hc)), if_neg (fun q => by subst q; exact Option.some_ne_none c (Eq.symm hc)), if_neg (fun q => by subst q; exact Option.some_ne_none c (Eq.symm hc)), if_neg (fun q => by subst q; exact Option.some_ne_none c (Eq.symm hc)), if_neg (fun q => by subst q; exact Option.some_ne_none c (Eq.symm hc)), if_neg (fun q => by subst q; exact Option.some_ne_none c (Eq.symm hc)), if_neg (fun q => by subst q; exact Option.some_ne_none c (Eq.symm hc))]
  exact F a c hc
theorem rd_u0 {h0 : mz_H} {z : Int32} {bs es bm em kd le lb : Nat → Int32} {z2 : Int32} : mz_up (rdH h0 z bs es bm em kd le lb) 140 (.inr (5, [.ref 141, .ref 143, .ref 145, .ref 147, .ref 149, .ref 151, .ref 153, .int z2])) = rdH h0 z2 bs es bm em kd le lb := by
  funext b
  by_cases hb : b = 140
  · subst hb; rfl
  · simp only [mz_up, rdH, hb, if_false]
theorem rd_u1 {h0 : mz_H} {z : Int32} {bs es bm em kd le lb : Nat → Int32} {x2 : Nat → Int32} : mz_up (rdH h0 z bs es bm em kd le lb) 142 (.inl (0, 48, x2)) = rdH h0 z x2 es bm em kd le lb := by
  funext b
  by_cases hb : b = 142
  · subst hb; rfl
  · simp only [mz_up, rdH, hb, if_false]
theorem rd_u2 {h0 : mz_H} {z : Int32} {bs es bm em kd le lb : Nat → Int32} {x2 : Nat → Int32} : mz_up (rdH h0 z bs es bm em kd le lb) 144 (.inl (0, 48, x2)) = rdH h0 z bs x2 bm em kd le lb := by
  funext b
  by_cases hb : b = 144
  · subst hb; rfl
  · simp only [mz_up, rdH, hb, if_false]
theorem rd_u3 {h0 : mz_H} {z : Int32} {bs es bm em kd le lb : Nat → Int32} {x2 : Nat → Int32} : mz_up (rdH h0 z bs es bm em kd le lb) 146 (.inl (0, 48, x2)) = rdH h0 z bs es x2 em kd le lb := by
  funext b
  by_cases hb : b = 146
  · subst hb; rfl
  · simp only [mz_up, rdH, hb, if_false]
theorem rd_u4 {h0 : mz_H} {z : Int32} {bs es bm em kd le lb : Nat → Int32} {x2 : Nat → Int32} : mz_up (rdH h0 z bs es bm em kd le lb) 148 (.inl (0, 48, x2)) = rdH h0 z bs es bm x2 kd le lb := by
  funext b
  by_cases hb : b = 148
  · subst hb; rfl
  · simp only [mz_up, rdH, hb, if_false]
theorem rd_u5 {h0 : mz_H} {z : Int32} {bs es bm em kd le lb : Nat → Int32} {x2 : Nat → Int32} : mz_up (rdH h0 z bs es bm em kd le lb) 150 (.inl (0, 48, x2)) = rdH h0 z bs es bm em x2 le lb := by
  funext b
  by_cases hb : b = 150
  · subst hb; rfl
  · simp only [mz_up, rdH, hb, if_false]
theorem rd_u6 {h0 : mz_H} {z : Int32} {bs es bm em kd le lb : Nat → Int32} {x2 : Nat → Int32} : mz_up (rdH h0 z bs es bm em kd le lb) 152 (.inl (0, 8, x2)) = rdH h0 z bs es bm em kd x2 lb := by
  funext b
  by_cases hb : b = 152
  · subst hb; rfl
  · simp only [mz_up, rdH, hb, if_false]
theorem rd_u7 {h0 : mz_H} {z : Int32} {bs es bm em kd le lb : Nat → Int32} {x2 : Nat → Int32} : mz_up (rdH h0 z bs es bm em kd le lb) 154 (.inl (0, 8, x2)) = rdH h0 z bs es bm em kd le x2 := by
  funext b
  by_cases hb : b = 154
  · subst hb; rfl
  · simp only [mz_up, rdH, hb, if_false]
theorem rd_id {h0 : mz_H} {z : Int32} {bs es bm em kd le lb : Nat → Int32} (e0 : h0 140 = .inr (5, [.ref 141, .ref 143, .ref 145, .ref 147, .ref 149, .ref 151, .ref 153, .int z])) (e1 : h0 142 = .inl (0, 48, bs)) (e2 : h0 144 = .inl (0, 48, es)) (e3 : h0 146 = .inl (0, 48, bm)) (e4 : h0 148 = .inl (0, 48, em)) (e5 : h0 150 = .inl (0, 48, kd)) (e6 : h0 152 = .inl (0, 8, le)) (e7 : h0 154 = .inl (0, 8, lb)) : rdH h0 z bs es bm em kd le lb = h0 := by
  funext b
  unfold rdH
  by_cases b0 : b = 140
  · subst b0; exact e0.symm
  rw [if_neg b0]
  by_cases b1 : b = 142
  · subst b1; exact e1.symm
  rw [if_neg b1]
  by_cases b2 : b = 144
  · subst b2; exact e2.symm
  rw [if_neg b2]
  by_cases b3 : b = 146
  · subst b3; exact e3.symm
  rw [if_neg b3]
  by_cases b4 : b = 148
  · subst b4; exact e4.symm
  rw [if_neg b4]
  by_cases b5 : b = 150
  · subst b5; exact e5.symm
  rw [if_neg b5]
  by_cases b6 : b = 152
  · subst b6; exact e6.symm
  rw [if_neg b6]
  by_cases b7 : b = 154
  · subst b7; exact e7.symm
  rw [if_neg b7]

def jyH (h0 : mz_H) (z : Int32) (mo rc lz gz co jr : Nat → Int32) : mz_H := fun b => if b = 155 then .inr (3, [.ref 156, .ref 158, .ref 160, .ref 162, .ref 164, .ref 166, .int z]) else if b = 157 then .inl (0, 48, mo) else if b = 159 then .inl (0, 48, rc) else if b = 161 then .inl (0, 48, lz) else if b = 163 then .inl (0, 48, gz) else if b = 165 then .inl (0, 48, co) else if b = 167 then .inl (0, 48, jr) else h0 b
theorem jy_lt {h0 : mz_H} {z : Int32} {mo rc lz gz co jr : Nat → Int32} {b : Nat} (hb : b < 155 ∨ 167 < b) : jyH h0 z mo rc lz gz co jr b = h0 b := by
  unfold jyH
  rw [if_neg (by omega), if_neg (by omega), if_neg (by omega), if_neg (by omega), if_neg (by omega), if_neg (by omega), if_neg (by omega)]
theorem jy_F {h0 : mz_H} {z : Int32} {mo rc lz gz co jr : Nat → Int32} (F : Fx h0) : Fx (jyH h0 z mo rc lz gz co jr) := by
  intro a c hc
  unfold jyH
  rw [if_neg (fun q => by subst q; exact Option.some_ne_none c (Eq.symm hc)), if_neg (fun q => by subst q; exact Option.some_ne_none c (Eq.symm hc)), if_neg (fun q => by subst q; exact Option.some_ne_none c (Eq.symm hc)), if_neg (fun q => by subst q; exact Option.some_ne_none c (Eq.symm hc)), if_neg (fun q => by subst q; exact Option.some_ne_none c (Eq.symm hc)), if_neg (fun q => by subst q; exact Option.some_ne_none c (Eq.symm hc)), if_neg (fun q => by subst q; exact Option.some_ne_none c (Eq.symm hc))]
  exact F a c hc
theorem jy_u0 {h0 : mz_H} {z : Int32} {mo rc lz gz co jr : Nat → Int32} {z2 : Int32} : mz_up (jyH h0 z mo rc lz gz co jr) 155 (.inr (3, [.ref 156, .ref 158, .ref 160, .ref 162, .ref 164, .ref 166, .int z2])) = jyH h0 z2 mo rc lz gz co jr := by
  funext b
  by_cases hb : b = 155
  · subst hb; rfl
  · simp only [mz_up, jyH, hb, if_false]
theorem jy_u1 {h0 : mz_H} {z : Int32} {mo rc lz gz co jr : Nat → Int32} {x2 : Nat → Int32} : mz_up (jyH h0 z mo rc lz gz co jr) 157 (.inl (0, 48, x2)) = jyH h0 z x2 rc lz gz co jr := by
  funext b
  by_cases hb : b = 157
  · subst hb; rfl
  · simp only [mz_up, jyH, hb, if_false]
theorem jy_u2 {h0 : mz_H} {z : Int32} {mo rc lz gz co jr : Nat → Int32} {x2 : Nat → Int32} : mz_up (jyH h0 z mo rc lz gz co jr) 159 (.inl (0, 48, x2)) = jyH h0 z mo x2 lz gz co jr := by
  funext b
  by_cases hb : b = 159
  · subst hb; rfl
  · simp only [mz_up, jyH, hb, if_false]
theorem jy_u3 {h0 : mz_H} {z : Int32} {mo rc lz gz co jr : Nat → Int32} {x2 : Nat → Int32} : mz_up (jyH h0 z mo rc lz gz co jr) 161 (.inl (0, 48, x2)) = jyH h0 z mo rc x2 gz co jr := by
  funext b
  by_cases hb : b = 161
  · subst hb; rfl
  · simp only [mz_up, jyH, hb, if_false]
theorem jy_u4 {h0 : mz_H} {z : Int32} {mo rc lz gz co jr : Nat → Int32} {x2 : Nat → Int32} : mz_up (jyH h0 z mo rc lz gz co jr) 163 (.inl (0, 48, x2)) = jyH h0 z mo rc lz x2 co jr := by
  funext b
  by_cases hb : b = 163
  · subst hb; rfl
  · simp only [mz_up, jyH, hb, if_false]
theorem jy_u5 {h0 : mz_H} {z : Int32} {mo rc lz gz co jr : Nat → Int32} {x2 : Nat → Int32} : mz_up (jyH h0 z mo rc lz gz co jr) 165 (.inl (0, 48, x2)) = jyH h0 z mo rc lz gz x2 jr := by
  funext b
  by_cases hb : b = 165
  · subst hb; rfl
  · simp only [mz_up, jyH, hb, if_false]
theorem jy_u6 {h0 : mz_H} {z : Int32} {mo rc lz gz co jr : Nat → Int32} {x2 : Nat → Int32} : mz_up (jyH h0 z mo rc lz gz co jr) 167 (.inl (0, 48, x2)) = jyH h0 z mo rc lz gz co x2 := by
  funext b
  by_cases hb : b = 167
  · subst hb; rfl
  · simp only [mz_up, jyH, hb, if_false]
theorem jy_id {h0 : mz_H} {z : Int32} {mo rc lz gz co jr : Nat → Int32} (e0 : h0 155 = .inr (3, [.ref 156, .ref 158, .ref 160, .ref 162, .ref 164, .ref 166, .int z])) (e1 : h0 157 = .inl (0, 48, mo)) (e2 : h0 159 = .inl (0, 48, rc)) (e3 : h0 161 = .inl (0, 48, lz)) (e4 : h0 163 = .inl (0, 48, gz)) (e5 : h0 165 = .inl (0, 48, co)) (e6 : h0 167 = .inl (0, 48, jr)) : jyH h0 z mo rc lz gz co jr = h0 := by
  funext b
  unfold jyH
  by_cases b0 : b = 155
  · subst b0; exact e0.symm
  rw [if_neg b0]
  by_cases b1 : b = 157
  · subst b1; exact e1.symm
  rw [if_neg b1]
  by_cases b2 : b = 159
  · subst b2; exact e2.symm
  rw [if_neg b2]
  by_cases b3 : b = 161
  · subst b3; exact e3.symm
  rw [if_neg b3]
  by_cases b4 : b = 163
  · subst b4; exact e4.symm
  rw [if_neg b4]
  by_cases b5 : b = 165
  · subst b5; exact e5.symm
  rw [if_neg b5]
  by_cases b6 : b = 167
  · subst b6; exact e6.symm
  rw [if_neg b6]

def dyH (h0 : mz_H) (sm wd ow : Nat → Int32) : mz_H := fun b => if b = 170 then .inl (0, 28, sm) else if b = 172 then .inl (0, 28, wd) else if b = 174 then .inl (0, 28, ow) else h0 b
theorem dy_lt {h0 : mz_H} {sm wd ow : Nat → Int32} {b : Nat} (hb : b < 168 ∨ 174 < b) : dyH h0 sm wd ow b = h0 b := by
  unfold dyH
  rw [if_neg (by omega), if_neg (by omega), if_neg (by omega)]
theorem dy_F {h0 : mz_H} {sm wd ow : Nat → Int32} (F : Fx h0) : Fx (dyH h0 sm wd ow) := by
  intro a c hc
  unfold dyH
  rw [if_neg (fun q => by subst q; exact Option.some_ne_none c (Eq.symm hc)), if_neg (fun q => by subst q; exact Option.some_ne_none c (Eq.symm hc)), if_neg (fun q => by subst q; exact Option.some_ne_none c (Eq.symm hc))]
  exact F a c hc
theorem dy_u1 {h0 : mz_H} {sm wd ow : Nat → Int32} {x2 : Nat → Int32} : mz_up (dyH h0 sm wd ow) 170 (.inl (0, 28, x2)) = dyH h0 x2 wd ow := by
  funext b
  by_cases hb : b = 170
  · subst hb; rfl
  · simp only [mz_up, dyH, hb, if_false]
theorem dy_u2 {h0 : mz_H} {sm wd ow : Nat → Int32} {x2 : Nat → Int32} : mz_up (dyH h0 sm wd ow) 172 (.inl (0, 28, x2)) = dyH h0 sm x2 ow := by
  funext b
  by_cases hb : b = 172
  · subst hb; rfl
  · simp only [mz_up, dyH, hb, if_false]
theorem dy_u3 {h0 : mz_H} {sm wd ow : Nat → Int32} {x2 : Nat → Int32} : mz_up (dyH h0 sm wd ow) 174 (.inl (0, 28, x2)) = dyH h0 sm wd x2 := by
  funext b
  by_cases hb : b = 174
  · subst hb; rfl
  · simp only [mz_up, dyH, hb, if_false]
theorem dy_id {h0 : mz_H} {sm wd ow : Nat → Int32} (e1 : h0 170 = .inl (0, 28, sm)) (e2 : h0 172 = .inl (0, 28, wd)) (e3 : h0 174 = .inl (0, 28, ow)) : dyH h0 sm wd ow = h0 := by
  funext b
  unfold dyH
  by_cases b0 : b = 170
  · subst b0; exact e1.symm
  rw [if_neg b0]
  by_cases b1 : b = 172
  · subst b1; exact e2.symm
  rw [if_neg b1]
  by_cases b2 : b = 174
  · subst b2; exact e3.symm
  rw [if_neg b2]

def plH (h0 : mz_H) (cf wf wb sr iw : Nat → Int32) : mz_H := fun b => if b = 177 then .inl (0, 29, cf) else if b = 179 then .inl (0, 29, wf) else if b = 181 then .inl (0, 28, wb) else if b = 183 then .inl (0, 4, sr) else if b = 185 then .inl (0, 28, iw) else h0 b
theorem pl_lt {h0 : mz_H} {cf wf wb sr iw : Nat → Int32} {b : Nat} (hb : b < 175 ∨ 185 < b) : plH h0 cf wf wb sr iw b = h0 b := by
  unfold plH
  rw [if_neg (by omega), if_neg (by omega), if_neg (by omega), if_neg (by omega), if_neg (by omega)]
theorem pl_F {h0 : mz_H} {cf wf wb sr iw : Nat → Int32} (F : Fx h0) : Fx (plH h0 cf wf wb sr iw) := by
  intro a c hc
  unfold plH
  rw [if_neg (fun q => by subst q; exact Option.some_ne_none c (Eq.symm hc)), if_neg (fun q => by subst q; exact Option.some_ne_none c (Eq.symm hc)), if_neg (fun q => by subst q; exact Option.some_ne_none c (Eq.symm hc)), if_neg (fun q => by subst q; exact Option.some_ne_none c (Eq.symm hc)), if_neg (fun q => by subst q; exact Option.some_ne_none c (Eq.symm hc))]
  exact F a c hc
theorem pl_u1 {h0 : mz_H} {cf wf wb sr iw : Nat → Int32} {x2 : Nat → Int32} : mz_up (plH h0 cf wf wb sr iw) 177 (.inl (0, 29, x2)) = plH h0 x2 wf wb sr iw := by
  funext b
  by_cases hb : b = 177
  · subst hb; rfl
  · simp only [mz_up, plH, hb, if_false]
theorem pl_u2 {h0 : mz_H} {cf wf wb sr iw : Nat → Int32} {x2 : Nat → Int32} : mz_up (plH h0 cf wf wb sr iw) 179 (.inl (0, 29, x2)) = plH h0 cf x2 wb sr iw := by
  funext b
  by_cases hb : b = 179
  · subst hb; rfl
  · simp only [mz_up, plH, hb, if_false]
theorem pl_u3 {h0 : mz_H} {cf wf wb sr iw : Nat → Int32} {x2 : Nat → Int32} : mz_up (plH h0 cf wf wb sr iw) 181 (.inl (0, 28, x2)) = plH h0 cf wf x2 sr iw := by
  funext b
  by_cases hb : b = 181
  · subst hb; rfl
  · simp only [mz_up, plH, hb, if_false]
theorem pl_u4 {h0 : mz_H} {cf wf wb sr iw : Nat → Int32} {x2 : Nat → Int32} : mz_up (plH h0 cf wf wb sr iw) 183 (.inl (0, 4, x2)) = plH h0 cf wf wb x2 iw := by
  funext b
  by_cases hb : b = 183
  · subst hb; rfl
  · simp only [mz_up, plH, hb, if_false]
theorem pl_u5 {h0 : mz_H} {cf wf wb sr iw : Nat → Int32} {x2 : Nat → Int32} : mz_up (plH h0 cf wf wb sr iw) 185 (.inl (0, 28, x2)) = plH h0 cf wf wb sr x2 := by
  funext b
  by_cases hb : b = 185
  · subst hb; rfl
  · simp only [mz_up, plH, hb, if_false]
theorem pl_id {h0 : mz_H} {cf wf wb sr iw : Nat → Int32} (e1 : h0 177 = .inl (0, 29, cf)) (e2 : h0 179 = .inl (0, 29, wf)) (e3 : h0 181 = .inl (0, 28, wb)) (e4 : h0 183 = .inl (0, 4, sr)) (e5 : h0 185 = .inl (0, 28, iw)) : plH h0 cf wf wb sr iw = h0 := by
  funext b
  unfold plH
  by_cases b0 : b = 177
  · subst b0; exact e1.symm
  rw [if_neg b0]
  by_cases b1 : b = 179
  · subst b1; exact e2.symm
  rw [if_neg b1]
  by_cases b2 : b = 181
  · subst b2; exact e3.symm
  rw [if_neg b2]
  by_cases b3 : b = 183
  · subst b3; exact e4.symm
  rw [if_neg b3]
  by_cases b4 : b = 185
  · subst b4; exact e5.symm
  rw [if_neg b4]

/-- Taps, read only -/
def TA (h : mz_H) (t : Nat) (z : Int32) (m s w : Nat → Int32) : Prop := tpF h t ∧ h t = .inr (8, [.ref (t + 1), .ref (t + 3), .ref (t + 5), .int z]) ∧ h (t + 2) = .inl (0, 48, m) ∧ h (t + 4) = .inl (0, 48, s) ∧ h (t + 6) = .inl (0, 48, w)
theorem TA.eq {h : mz_H} {t : Nat} {z : Int32} {m s w : Nat → Int32} (T : TA h t z m s w) : tpH h t z m s w = h := by
  obtain ⟨-, e0, e2, e4, e6⟩ := T
  funext b
  unfold tpH
  by_cases b0 : b = t
  · subst b0; rw [if_pos rfl]; exact e0.symm
  rw [if_neg b0]
  by_cases b2 : b = t + 2
  · subst b2; rw [if_pos rfl]; exact e2.symm
  rw [if_neg b2]
  by_cases b4 : b = t + 4
  · subst b4; rw [if_pos rfl]; exact e4.symm
  rw [if_neg b4]
  by_cases b6 : b = t + 6
  · subst b6; rw [if_pos rfl]; exact e6.symm
  rw [if_neg b6]
theorem TA.to {h h' : mz_H} {t : Nat} {z : Int32} {m s w : Nat → Int32} (T : TA h t z m s w) (hh : ∀ b, t ≤ b → b ≤ t + 6 → h' b = h b) : TA h' t z m s w := by
  obtain ⟨⟨f0, f1, f3, f5⟩, e0, e2, e4, e6⟩ := T
  exact ⟨⟨f0, (hh _ (by omega) (by omega)).trans f1, (hh _ (by omega) (by omega)).trans f3, (hh _ (by omega) (by omega)).trans f5⟩, (hh _ (by omega) (by omega)).trans e0, (hh _ (by omega) (by omega)).trans e2, (hh _ (by omega) (by omega)).trans e4, (hh _ (by omega) (by omega)).trans e6⟩
theorem TA.tp {h : mz_H} {t : Nat} {z : Int32} {m s w : Nat → Int32} (F : tpF h t) : TA (tpH h t z m s w) t z m s w := ⟨⟨F.1, tp_1 F, tp_3 F, tp_5 F⟩, tp_o, tp_2, tp_4, tp_6⟩
end
section
/-! Rides -/
abbrev Rde : Type := Int32 × Int32 × Int32 × Int32 × Int32
def NN : Int32 := nI 4294967290
def lastE (l : List Rde) (x : Int32) : Int32 := l.foldl (fun a r => if r.1 = 0 ∧ r.2.1 = x then r.2.2.1 else a) NN
def lastB (l : List Rde) (x : Int32) : Int32 := l.foldl (fun a r => if r.1 = 0 ∧ r.2.2.1 = x then r.2.1 else a) NN
theorem lastE_app {l : List Rde} {r : Rde} {x : Int32} : lastE (l ++ [r]) x = if r.1 = 0 ∧ r.2.1 = x then r.2.2.1 else lastE l x := by
  unfold lastE
  rw [List.foldl_append]
  rfl
theorem lastB_app {l : List Rde} {r : Rde} {x : Int32} : lastB (l ++ [r]) x = if r.1 = 0 ∧ r.2.2.1 = x then r.2.1 else lastB l x := by
  unfold lastB
  rw [List.foldl_append]
  rfl
def RepA (l : List Rde) (bs es bm em kd : Nat → Int32) : Prop := ∀ j r, l[j]? = some r → kd j = r.1 ∧ bs j = r.2.1 ∧ es j = r.2.2.1 ∧ bm j = r.2.2.2.1 ∧ em j = r.2.2.2.2
def RepL (l : List Rde) (le lb : Nat → Int32) : Prop := ∀ q, q < 8 → le q = lastE l (nI q) ∧ lb q = lastB l (nI q)
theorem updS {f : Nat → Int32} {k : Nat} {x : Int32} : upd f k x k = x := if_pos rfl
theorem updN {f : Nat → Int32} {k j : Nat} {x : Int32} (h : j ≠ k) : upd f k x j = f j := if_neg h
theorem RepA.app {l : List Rde} {bs es bm em kd : Nat → Int32} (R : RepA l bs es bm em kd) {c : Nat} (hc : l.length = c) (r : Rde) : RepA (l ++ [r]) (upd bs c r.2.1) (upd es c r.2.2.1) (upd bm c r.2.2.2.1) (upd em c r.2.2.2.2) (upd kd c r.1) := by
  intro j q hq
  by_cases hj : j < l.length
  · rw [List.getElem?_append_left hj] at hq
    obtain ⟨a1, a2, a3, a4, a5⟩ := R j q hq
    have hne : j ≠ c := by omega
    rw [updN hne, updN hne, updN hne, updN hne, updN hne]
    exact ⟨a1, a2, a3, a4, a5⟩
  · rw [List.getElem?_append_right (by omega)] at hq
    have hz : j - l.length < 1 := (List.getElem?_eq_some_iff.mp hq).1
    have hjc : j = c := by omega
    rw [show j - l.length = 0 by omega] at hq
    cases hq
    subst hjc
    rw [updS, updS, updS, updS, updS]
    exact ⟨rfl, rfl, rfl, rfl, rfl⟩
theorem RepL.lack {l : List Rde} {le lb : Nat → Int32} (R : RepL l le lb) {r : Rde} (hr : ¬ r.1 = 0) : RepL (l ++ [r]) le lb := by
  intro q hq
  rw [lastE_app, lastB_app, if_neg (fun z => hr z.1), if_neg (fun z => hr z.1)]
  exact R q hq
theorem RepL.whole {l : List Rde} {le lb : Nat → Int32} (R : RepL l le lb) {a b : Nat} (ha : a < 8) (hb : b < 8) {x y : Int32} : RepL (l ++ [(0, nI a, nI b, x, y)]) (upd le a (nI b)) (upd lb b (nI a)) := by
  intro q hq
  obtain ⟨r1, r2⟩ := R q hq
  rw [lastE_app, lastB_app]
  refine ⟨?_, ?_⟩
  · by_cases h1 : q = a
    · subst h1
      rw [updS, if_pos ⟨rfl, rfl⟩]
    · rw [updN h1, if_neg (fun z => h1 ((nI_eq (by omega) (by omega)).mp z.2).symm)]
      exact r1
  · by_cases h1 : q = b
    · subst h1
      rw [updS, if_pos ⟨rfl, rfl⟩]
    · rw [updN h1, if_neg (fun z => h1 ((nI_eq (by omega) (by omega)).mp z.2).symm)]
      exact r2
def wholeB (k : Nat) (m w : Nat → Int32) (j : Nat) : Bool := decide (j + 1 < k) && decide (w j = 0) && decide (w (j + 1) = 1) && decide (m j / nI 1440 = m (j + 1) / nI 1440)
theorem wholeB_iff {k : Nat} {m w : Nat → Int32} {j : Nat} : wholeB k m w j = true ↔ wholeP k m w j := by
  unfold wholeB wholeP
  simp only [Bool.and_eq_true, decide_eq_true_eq]
  constructor
  · intro ⟨⟨⟨a, b⟩, c⟩, d⟩
    exact ⟨a, b, c, d⟩
  · intro ⟨a, b, c, d⟩
    exact ⟨⟨⟨a, b⟩, c⟩, d⟩
def rideOf (k : Nat) (m s w : Nat → Int32) (l : List Rde) (i : Nat) : Rde := if wholeB k m w i = true then (0, s i, s (i + 1), m i, m (i + 1)) else if w i = 0 then (1, s i, lastE l (s i), m i, m i) else (2, lastB l (s i), s i, m i, m i)
def behind (k : Nat) (m w : Nat → Int32) : Nat → Bool
  | 0 => false
  | i + 1 => wholeB k m w i
/-- the rides that the first i taps make -/
def rl (k : Nat) (m s w : Nat → Int32) : Nat → List Rde
  | 0 => []
  | i + 1 => if wholeB k m w i = false ∧ behind k m w i = true then rl k m s w i else rl k m s w i ++ [rideOf k m s w (rl k m s w i) i]
theorem rl_len (k : Nat) (m s w : Nat → Int32) : ∀ i, (rl k m s w i).length ≤ i
  | 0 => Nat.le_refl 0
  | i + 1 => by
    have ih := rl_len k m s w i
    unfold rl
    split
    · omega
    · rw [List.length_append, List.length_singleton]
      omega
section RD
variable {e n : Nat} {h : mz_H} {Q : mz_Q} {t : Nat} {z : Int32} {m s w : Nat → Int32} {bs es bm em kd le lb : Nat → Int32}
theorem r_tsize (T : TA h t z m s w) (H : Q (some (.int z)) n h) : mz_wc (e + 1) 61 [.ref t] n h Q := by
  rw [← T.eq]
  exact s_tsize (by rw [T.eq]; exact H)
theorem r_tmom {i : Int32} (T : TA h t z m s w) (H : Q (some (.int (rat 48 m i))) n h) : mz_wc (e + 2) 62 [.ref t, .int i] n h Q := by
  rw [← T.eq]
  exact s_tmom T.1 (by rw [T.eq]; exact H)
theorem r_tsta {i : Int32} (T : TA h t z m s w) (H : Q (some (.int (rat 48 s i))) n h) : mz_wc (e + 2) 63 [.ref t, .int i] n h Q := by
  rw [← T.eq]
  exact s_tsta T.1 (by rw [T.eq]; exact H)
theorem r_tway {i : Int32} (T : TA h t z m s w) (H : Q (some (.int (rat 48 w i))) n h) : mz_wc (e + 2) 64 [.ref t, .int i] n h Q := by
  rw [← T.eq]
  exact s_tway T.1 (by rw [T.eq]; exact H)
theorem r_twhole {k j : Nat} (T : TA h t (nI k) m s w) (hk : k ≤ 48) (hj : j < k) (H1 : wholeB k m w j = true → Q (some (.int 1)) n h) (H0 : wholeB k m w j = false → Q (some (.int 0)) n h) : mz_wc (e + 2) 69 [.ref t, .int (nI j)] n h Q := by
  rw [← T.eq]
  exact s_twhole T.1 hk hj (fun q => by rw [T.eq]; exact H1 (wholeB_iff.mpr q)) (fun q => by rw [T.eq]; exact H0 (Bool.eq_false_iff.mpr (fun z => q (wholeB_iff.mp z))))
theorem r_twholeN {k : Nat} (T : TA h t (nI k) m s w) (H0 : Q (some (.int 0)) n h) : mz_wc (e + 2) 69 [.ref t, .int (nI 0 - nI 1)] n h Q := by
  rw [← T.eq]
  exact s_twholeN (by rw [T.eq]; exact H0)
theorem TA.rd (T : TA h t z m s w) (ht : t + 6 < 140) {z2 : Int32} : TA (rdH h z2 bs es bm em kd le lb) t z m s w := T.to (fun b _ h2 => rd_lt (by omega))
theorem s_addRide {k : Nat} {a b c f g : Int32} (F : Fx h) (hk : k < 48) (H : Q none n (rdH h (nI (k + 1)) (upd bs k b) (upd es k c) (upd bm k f) (upd em k g) (upd kd k a) le lb)) : mz_wc (e + 2) 42 [.ref 140, .int a, .int b, .int c, .int f, .int g] n (rdH h (nI k) bs es bm em kd le lb) Q := by
  refine mz_wc.enter (code := co_X5_addRide) (idx := 42) rfl rfl (Nat.le_of_ble_eq_true rfl) rfl rfl ?_
  refine mz_WP.run 80 rfl ?_
  refine mz_WP.getf rfl (rfl) rfl (Nat.le_of_ble_eq_true rfl) ?_
  refine mz_WP.run 80 rfl ?_
  refine mz_WP.getf rfl (rfl) rfl (Nat.le_of_ble_eq_true rfl) ?_
  refine mz_WP.run 80 rfl ?_
  refine mz_WP.cv rfl rfl (Nat.le_of_ble_eq_true rfl) rfl (rd_F F _ _ rfl) rfl (s_put (rd_F F _ _ rfl) rfl (by decide) (by decide) ?_)
  rw [rd_u5, rput_in hk (by decide)]
  refine mz_WP.run 80 rfl ?_
  refine mz_WP.getf rfl (rfl) rfl (Nat.le_of_ble_eq_true rfl) ?_
  refine mz_WP.run 80 rfl ?_
  refine mz_WP.getf rfl (rfl) rfl (Nat.le_of_ble_eq_true rfl) ?_
  refine mz_WP.run 80 rfl ?_
  refine mz_WP.cv rfl rfl (Nat.le_of_ble_eq_true rfl) rfl (rd_F F _ _ rfl) rfl (s_put (rd_F F _ _ rfl) rfl (by decide) (by decide) ?_)
  rw [rd_u1, rput_in hk (by decide)]
  refine mz_WP.run 80 rfl ?_
  refine mz_WP.getf rfl (rfl) rfl (Nat.le_of_ble_eq_true rfl) ?_
  refine mz_WP.run 80 rfl ?_
  refine mz_WP.getf rfl (rfl) rfl (Nat.le_of_ble_eq_true rfl) ?_
  refine mz_WP.run 80 rfl ?_
  refine mz_WP.cv rfl rfl (Nat.le_of_ble_eq_true rfl) rfl (rd_F F _ _ rfl) rfl (s_put (rd_F F _ _ rfl) rfl (by decide) (by decide) ?_)
  rw [rd_u2, rput_in hk (by decide)]
  refine mz_WP.run 80 rfl ?_
  refine mz_WP.getf rfl (rfl) rfl (Nat.le_of_ble_eq_true rfl) ?_
  refine mz_WP.run 80 rfl ?_
  refine mz_WP.getf rfl (rfl) rfl (Nat.le_of_ble_eq_true rfl) ?_
  refine mz_WP.run 80 rfl ?_
  refine mz_WP.cv rfl rfl (Nat.le_of_ble_eq_true rfl) rfl (rd_F F _ _ rfl) rfl (s_put (rd_F F _ _ rfl) rfl (by decide) (by decide) ?_)
  rw [rd_u3, rput_in hk (by decide)]
  refine mz_WP.run 80 rfl ?_
  refine mz_WP.getf rfl (rfl) rfl (Nat.le_of_ble_eq_true rfl) ?_
  refine mz_WP.run 80 rfl ?_
  refine mz_WP.getf rfl (rfl) rfl (Nat.le_of_ble_eq_true rfl) ?_
  refine mz_WP.run 80 rfl ?_
  refine mz_WP.cv rfl rfl (Nat.le_of_ble_eq_true rfl) rfl (rd_F F _ _ rfl) rfl (s_put (rd_F F _ _ rfl) rfl (by decide) (by decide) ?_)
  rw [rd_u4, rput_in hk (by decide)]
  refine mz_WP.run 80 rfl ?_
  refine mz_WP.getf rfl (rfl) rfl (Nat.le_of_ble_eq_true rfl) ?_
  refine mz_WP.run 80 rfl ?_
  refine mz_WP.putf rfl (rfl) (Nat.le_of_ble_eq_true rfl) (Nat.le_of_ble_eq_true rfl) rfl ?_
  refine mz_WP.vret rfl rfl ?_
  show Q none n (mz_up _ 140 (.inr (5, [.ref 141, .ref 143, .ref 145, .ref 147, .ref 149, .ref 151, .ref 153, .int (nI k + nI 1)])))
  rw [rd_u0, nI_add]
  exact H
theorem s_addWhole {k c i a b : Nat} (F : Fx h) (T : TA h t (nI k) m s w) (ht : t + 6 < 140) (hk : k ≤ 48) (hc : c < 48) (hi : i + 1 < k) (ha : s i = nI a) (ha8 : a < 8) (hb : s (i + 1) = nI b) (hb8 : b < 8) (H : Q none n (rdH h (nI (c + 1)) (upd bs c (nI a)) (upd es c (nI b)) (upd bm c (m i)) (upd em c (m (i + 1))) (upd kd c 0) (upd le a (nI b)) (upd lb b (nI a)))) : mz_wc (e + 3) 40 [.ref 140, .ref t, .int (nI i)] n (rdH h (nI c) bs es bm em kd le lb) Q := by
  refine mz_wc.enter (code := co_X5_addWhole) (idx := 40) rfl rfl (Nat.le_of_ble_eq_true rfl) rfl rfl ?_
  refine mz_WP.run 80 rfl ?_
  refine mz_WP.cv rfl rfl (Nat.le_of_ble_eq_true rfl) rfl ((T.rd ht).2.1) rfl (r_tsta (T.rd ht) ?_)
  rw [rat_in (by omega) (by decide), ha]
  refine mz_WP.run 80 rfl ?_
  refine mz_WP.cv rfl rfl (Nat.le_of_ble_eq_true rfl) rfl ((T.rd ht).2.1) rfl (r_tsta (T.rd ht) ?_)
  rw [nI_add, rat_in (by omega) (by decide), hb]
  refine mz_WP.run 80 rfl ?_
  refine mz_WP.getf rfl (rfl) rfl (Nat.le_of_ble_eq_true rfl) ?_
  refine mz_WP.run 80 rfl ?_
  refine mz_WP.cv rfl rfl (Nat.le_of_ble_eq_true rfl) rfl (rd_F F _ _ rfl) rfl (s_put (rd_F F _ _ rfl) rfl (by decide) (by decide) ?_)
  rw [rd_u6, rput_in ha8 (by decide)]
  refine mz_WP.run 80 rfl ?_
  refine mz_WP.getf rfl (rfl) rfl (Nat.le_of_ble_eq_true rfl) ?_
  refine mz_WP.run 80 rfl ?_
  refine mz_WP.cv rfl rfl (Nat.le_of_ble_eq_true rfl) rfl (rd_F F _ _ rfl) rfl (s_put (rd_F F _ _ rfl) rfl (by decide) (by decide) ?_)
  rw [rd_u7, rput_in hb8 (by decide)]
  refine mz_WP.run 80 rfl ?_
  refine mz_WP.cv rfl rfl (Nat.le_of_ble_eq_true rfl) rfl ((T.rd ht).2.1) rfl (r_tmom (T.rd ht) ?_)
  rw [rat_in (by omega) (by decide)]
  refine mz_WP.run 80 rfl ?_
  refine mz_WP.cv rfl rfl (Nat.le_of_ble_eq_true rfl) rfl ((T.rd ht).2.1) rfl (r_tmom (T.rd ht) ?_)
  rw [nI_add, rat_in (by omega) (by decide)]
  refine mz_WP.cv rfl rfl (Nat.le_of_ble_eq_true rfl) rfl (rfl) rfl (s_addRide F hc ?_)
  exact mz_WP.vret rfl rfl H
theorem s_addLack {k c i a : Nat} (F : Fx h) (T : TA h t (nI k) m s w) (ht : t + 6 < 140) (hk : k ≤ 48) (hc : c < 48) (hi : i < k) (ha : s i = nI a) (ha8 : a < 8) (H0 : w i = 0 → Q none n (rdH h (nI (c + 1)) (upd bs c (nI a)) (upd es c (le a)) (upd bm c (m i)) (upd em c (m i)) (upd kd c 1) le lb)) (H1 : ¬ w i = 0 → Q none n (rdH h (nI (c + 1)) (upd bs c (lb a)) (upd es c (nI a)) (upd bm c (m i)) (upd em c (m i)) (upd kd c 2) le lb)) : mz_wc (e + 3) 41 [.ref 140, .ref t, .int (nI i)] n (rdH h (nI c) bs es bm em kd le lb) Q := by
  refine mz_wc.enter (code := co_X5_addLacking) (idx := 41) rfl rfl (Nat.le_of_ble_eq_true rfl) rfl rfl ?_
  refine mz_WP.run 80 rfl ?_
  refine mz_WP.cv rfl rfl (Nat.le_of_ble_eq_true rfl) rfl ((T.rd ht).2.1) rfl (r_tsta (T.rd ht) ?_)
  rw [rat_in (by omega) (by decide), ha]
  refine mz_WP.run 80 rfl ?_
  refine mz_WP.cv rfl rfl (Nat.le_of_ble_eq_true rfl) rfl ((T.rd ht).2.1) rfl (r_tmom (T.rd ht) ?_)
  rw [rat_in (by omega) (by decide)]
  refine mz_WP.run 80 rfl ?_
  refine mz_WP.cv rfl rfl (Nat.le_of_ble_eq_true rfl) rfl ((T.rd ht).2.1) rfl (r_tway (T.rd ht) ?_)
  rw [rat_in (by omega) (by decide)]
  refine mz_WP.ifc rfl (fun c => ?_) (fun c => ?_)
  · have c : ¬ w i = 0 := c
    refine mz_WP.run 80 rfl ?_
    refine mz_WP.getf rfl (rfl) rfl (Nat.le_of_ble_eq_true rfl) ?_
    refine mz_WP.run 80 rfl ?_
    refine mz_WP.cv rfl rfl (Nat.le_of_ble_eq_true rfl) rfl (rd_F F _ _ rfl) rfl (s_at (rd_F F _ _ rfl) rfl (by decide) ?_)
    rw [rat_in ha8 (by decide)]
    refine mz_WP.run 80 rfl ?_
    refine mz_WP.cv rfl rfl (Nat.le_of_ble_eq_true rfl) rfl (rfl) rfl (s_addRide F hc ?_)
    exact mz_WP.vret rfl rfl (H1 c)
  · have c : w i = 0 := Classical.byContradiction c
    refine mz_WP.run 80 rfl ?_
    refine mz_WP.getf rfl (rfl) rfl (Nat.le_of_ble_eq_true rfl) ?_
    refine mz_WP.run 80 rfl ?_
    refine mz_WP.cv rfl rfl (Nat.le_of_ble_eq_true rfl) rfl (rd_F F _ _ rfl) rfl (s_at (rd_F F _ _ rfl) rfl (by decide) ?_)
    rw [rat_in ha8 (by decide)]
    refine mz_WP.run 80 rfl ?_
    refine mz_WP.cv rfl rfl (Nat.le_of_ble_eq_true rfl) rfl (rfl) rfl (s_addRide F hc ?_)
    refine mz_WP.run 80 rfl ?_
    exact mz_WP.vret rfl rfl (H0 c)
theorem s_rbuild {k : Nat} (F : Fx h) (T : TA h t (nI k) m s w) (ht : t + 6 < 140) (hk : k ≤ 48) (hs : ∀ j, j < k → ∃ a, a < 8 ∧ s j = nI a) (H : ∀ bs es bm em kd le lb, RepA (rl k m s w k) bs es bm em kd → Q none n (rdH h (nI (rl k m s w k).length) bs es bm em kd le lb)) : mz_wc (e + 4) 39 [.ref 140, .ref t] n (rdH h z bs es bm em kd le lb) Q := by
  refine mz_wc.enter (code := co_X5_build) (idx := 39) rfl rfl (Nat.le_of_ble_eq_true rfl) rfl rfl ?_
  refine mz_WP.run 80 rfl ?_
  refine mz_WP.putf rfl (rfl) (Nat.le_of_ble_eq_true rfl) (Nat.le_of_ble_eq_true rfl) rfl ?_
  show mz_WP _ _ _ _ _ _ _ _ _ (mz_up _ 140 (.inr (5, [.ref 141, .ref 143, .ref 145, .ref 147, .ref 149, .ref 151, .ref 153, .int (nI 0)]))) _ _
  rw [rd_u0]
  refine mz_WP.run 80 rfl ?_
  refine mz_WP.getf rfl (rfl) rfl (Nat.le_of_ble_eq_true rfl) ?_
  refine mz_WP.run 80 rfl ?_
  refine mz_WP.cv rfl rfl (Nat.le_of_ble_eq_true rfl) rfl (rd_F F _ _ rfl) rfl (s_fill (rd_F F _ _ rfl) rfl (by decide) (by decide) ?_)
  rw [rd_u6]
  refine mz_WP.run 80 rfl ?_
  refine mz_WP.getf rfl (rfl) rfl (Nat.le_of_ble_eq_true rfl) ?_
  refine mz_WP.run 80 rfl ?_
  refine mz_WP.cv rfl rfl (Nat.le_of_ble_eq_true rfl) rfl (rd_F F _ _ rfl) rfl (s_fill (rd_F F _ _ rfl) rfl (by decide) (by decide) ?_)
  rw [rd_u7]
  refine mz_WP.run 2 rfl ?_
  have loop : ∀ q i, i + q = k → ∀ bs es bm em kd le lb, RepA (rl k m s w i) bs es bm em kd → RepL (rl k m s w i) le lb → mz_WP (mz_wc (e + 3)) (e + 3) 0 co_X5_build Q 25 [some (.ref 140), some (.ref t), some (.int (nI i))] [] n (rdH h (nI (rl k m s w i).length) bs es bm em kd le lb) 0 0 := by
    intro q
    induction q with
    | zero =>
      intro i hi bs es bm em kd le lb RA RL
      have hi : i = k := by omega
      subst hi
      refine mz_WP.run 80 rfl ?_
      refine mz_WP.cv rfl rfl (Nat.le_of_ble_eq_true rfl) rfl ((T.rd ht).2.1) rfl (r_tsize (T.rd ht) ?_)
      refine mz_WP.icmp rfl (fun c => ?_) (fun c => ?_)
      · exact mz_WP.vret rfl rfl (H bs es bm em kd le lb RA)
      · exact absurd (nI_le (Nat.le_refl _) (by omega)) c
    | succ q ih =>
      intro i hi bs es bm em kd le lb RA RL
      have hl := rl_len k m s w i
      obtain ⟨a, ha8, ha⟩ := hs i (by omega)
      refine mz_WP.run 80 rfl ?_
      refine mz_WP.cv rfl rfl (Nat.le_of_ble_eq_true rfl) rfl ((T.rd ht).2.1) rfl (r_tsize (T.rd ht) ?_)
      refine mz_WP.icmp rfl (fun c => ?_) (fun c => ?_)
      · exact absurd c (nI_ge (by omega) (by omega))
      · refine mz_WP.run 80 rfl ?_
        have next : ∀ bs es bm em kd le lb, RepA (rl k m s w (i + 1)) bs es bm em kd → RepL (rl k m s w (i + 1)) le lb → mz_WP (mz_wc (e + 3)) (e + 3) 0 co_X5_build Q 66 [some (.ref 140), some (.ref t), some (.int (nI i))] [] n (rdH h (nI (rl k m s w (i + 1)).length) bs es bm em kd le lb) 0 0 := by
          intro bs es bm em kd le lb RA RL
          refine mz_WP.run 80 rfl ?_
          have := ih (i + 1) (by omega) bs es bm em kd le lb RA RL
          rw [nI_succ] at this
          exact this
        refine mz_WP.cv rfl rfl (Nat.le_of_ble_eq_true rfl) rfl ((T.rd ht).2.1) rfl (r_twhole (T.rd ht) hk (by omega) (fun hw => ?_) (fun hw => ?_))
        · refine mz_WP.ifc rfl (fun c => ?_) (fun c => ?_)
          · exact absurd c (show ¬ (1 : Int32) = 0 by decide)
          · refine mz_WP.run 80 rfl ?_
            have hw2 := wholeB_iff.mp hw
            obtain ⟨b, hb8, hb⟩ := hs (i + 1) hw2.1
            refine mz_WP.cv rfl rfl (Nat.le_of_ble_eq_true rfl) rfl (rfl) rfl (s_addWhole F T ht hk (by omega) hw2.1 ha ha8 hb hb8 ?_)
            refine mz_WP.run 80 rfl ?_
            have hrl : rl k m s w (i + 1) = rl k m s w i ++ [(0, nI a, nI b, m i, m (i + 1))] := by
              show (if wholeB k m w i = false ∧ behind k m w i = true then rl k m s w i else rl k m s w i ++ [rideOf k m s w (rl k m s w i) i]) = _
              rw [if_neg (fun z => by rw [hw] at z; exact absurd z.1 (by decide))]
              unfold rideOf
              rw [if_pos hw, ha, hb]
            have := next _ _ _ _ _ _ _ (by rw [hrl]; exact RA.app rfl (0, nI a, nI b, m i, m (i + 1))) (by rw [hrl]; exact RL.whole ha8 hb8)
            rw [hrl, List.length_append, List.length_singleton] at this
            exact this
        · refine mz_WP.ifc rfl (fun c => ?_) (fun c => ?_)
          · refine mz_WP.run 80 rfl ?_
            have fin : behind k m w i = false → mz_WP (mz_wc (e + 3)) (e + 3) 0 co_X5_build Q 60 [some (.ref 140), some (.ref t), some (.int (nI i))] [] n (rdH h (nI (rl k m s w i).length) bs es bm em kd le lb) 0 0 := by
              intro hbh
              refine mz_WP.run 80 rfl ?_
              have hrl : rl k m s w (i + 1) = rl k m s w i ++ [rideOf k m s w (rl k m s w i) i] := by
                show (if wholeB k m w i = false ∧ behind k m w i = true then rl k m s w i else rl k m s w i ++ [rideOf k m s w (rl k m s w i) i]) = _
                rw [if_neg (fun z => by rw [hbh] at z; exact absurd z.2 (by decide))]
              refine mz_WP.cv rfl rfl (Nat.le_of_ble_eq_true rfl) rfl (rfl) rfl (s_addLack F T ht hk (by omega) (by omega) ha ha8 (fun hw0 => ?_) (fun hw0 => ?_))
              · have hro : rideOf k m s w (rl k m s w i) i = (1, nI a, le a, m i, m i) := by
                  unfold rideOf
                  rw [if_neg (by rw [hw]; decide), if_pos hw0, ha, (RL a ha8).1]
                rw [hro] at hrl
                have := next _ _ _ _ _ _ _ (by rw [hrl]; exact RA.app rfl (1, nI a, le a, m i, m i)) (by rw [hrl]; exact RL.lack (show ¬ (1 : Int32) = 0 by decide))
                rw [hrl, List.length_append, List.length_singleton] at this
                exact this
              · have hro : rideOf k m s w (rl k m s w i) i = (2, lb a, nI a, m i, m i) := by
                  unfold rideOf
                  rw [if_neg (by rw [hw]; decide), if_neg hw0, ha, (RL a ha8).2]
                rw [hro] at hrl
                have := next _ _ _ _ _ _ _ (by rw [hrl]; exact RA.app rfl (2, lb a, nI a, m i, m i)) (by rw [hrl]; exact RL.lack (show ¬ (2 : Int32) = 0 by decide))
                rw [hrl, List.length_append, List.length_singleton] at this
                exact this
            cases i with
            | zero =>
              refine mz_WP.cv rfl rfl (Nat.le_of_ble_eq_true rfl) rfl ((T.rd ht).2.1) rfl (r_twholeN (T.rd ht) ?_)
              refine mz_WP.ifc rfl (fun c => ?_) (fun c => ?_)
              · exact absurd rfl c
              · exact fin rfl
            | succ j =>
              rw [show nI (j + 1) - nI 1 = nI j from nI_pred j]
              refine mz_WP.cv rfl rfl (Nat.le_of_ble_eq_true rfl) rfl ((T.rd ht).2.1) rfl (r_twhole (T.rd ht) hk (by omega) (fun hw3 => ?_) (fun hw3 => ?_))
              · refine mz_WP.ifc rfl (fun c => ?_) (fun c => ?_)
                · have hrl : rl k m s w (j + 1 + 1) = rl k m s w (j + 1) := by
                    show (if wholeB k m w (j + 1) = false ∧ behind k m w (j + 1) = true then rl k m s w (j + 1) else rl k m s w (j + 1) ++ [rideOf k m s w (rl k m s w (j + 1)) (j + 1)]) = _
                    rw [if_pos ⟨hw, hw3⟩]
                  have := next bs es bm em kd le lb (by rw [hrl]; exact RA) (by rw [hrl]; exact RL)
                  rw [hrl] at this
                  exact this
                · exact absurd (show ¬ (1 : Int32) = 0 by decide) c
              · refine mz_WP.ifc rfl (fun c => ?_) (fun c => ?_)
                · exact absurd rfl c
                · exact fin hw3
          · exact absurd rfl c
  exact loop k 0 (by omega) _ _ _ _ _ _ _ (fun j r hr => by simp [rl] at hr) (fun q hq => ⟨if_pos hq, if_pos hq⟩)
end RD
end
section
/-! truth values, ranges; the tariff, read only; the rides, read only -/
def bI (b : Bool) : Int32 := match b with
  | true => 1
  | false => 0
theorem bI_01 (b : Bool) : bI b = 0 ∨ bI b = 1 := by cases b <;> first | exact Or.inl rfl | exact Or.inr rfl
theorem bI_t {b : Bool} (h : ¬ bI b = 0) : b = true := by
  cases b
  · exact absurd rfl h
  · rfl
theorem bI_f {b : Bool} (h : bI b = 0) : b = false := by
  cases b
  · rfl
  · exact absurd h (by decide)
def inB (x lo hi : Int32) : Bool := !decide (x < lo) && !decide (hi < x)
def busyB (x : Int32) : Bool := decide (x / nI 1440 - x / nI 1440 / nI 7 * nI 7 < nI 5) && (inB (x - x / nI 1440 * nI 1440) (nI 420) (nI 569) || inB (x - x / nI 1440 * nI 1440) (nI 960) (nI 1109))
section SM
variable {e n : Nat} {h : mz_H} {Q : mz_Q}
theorem s_within {x lo hi : Int32} (H : Q (some (.int (bI (inB x lo hi)))) n h) : mz_wc (e + 1) 104 [.int x, .int lo, .int hi] n h Q := by
  refine mz_wc.enter (code := co_X10_isWithin) (idx := 104) rfl rfl (Nat.le_of_ble_eq_true rfl) rfl rfl ?_
  refine mz_WP.run 80 rfl ?_
  have out : inB x lo hi = false → mz_WP (mz_wc e) e 2 co_X10_isWithin Q 14 [some (.int x), some (.int lo), some (.int hi)] [] n h 0 0 := by
    intro hb
    rw [hb] at H
    refine mz_WP.run 80 rfl ?_
    exact mz_WP.zret rfl rfl (Or.inl rfl) H
  refine mz_WP.icmp rfl (fun c => ?_) (fun c => ?_)
  · have c : x < lo := c
    exact out (by unfold inB; rw [decide_eq_true c]; rfl)
  · have c : ¬ x < lo := c
    refine mz_WP.run 80 rfl ?_
    refine mz_WP.icmp rfl (fun c2 => ?_) (fun c2 => ?_)
    · have c2 : hi < x := c2
      exact out (by unfold inB; rw [decide_eq_true c2, Bool.not_true, Bool.and_false])
    · have c2 : ¬ hi < x := c2
      have hb : inB x lo hi = true := by unfold inB; rw [decide_eq_false c, decide_eq_false c2]; rfl
      rw [hb] at H
      refine mz_WP.run 80 rfl ?_
      refine mz_WP.run 80 rfl ?_
      exact mz_WP.zret rfl rfl (Or.inr rfl) H
theorem s_busy {x : Int32} (H : Q (some (.int (bI (busyB x)))) n h) : mz_wc (e + 2) 116 [.int x] n h Q := by
  refine mz_wc.enter (code := co_X10_isBusy) (idx := 116) rfl rfl (Nat.le_of_ble_eq_true rfl) rfl rfl ?_
  refine mz_WP.run 80 rfl ?_
  refine mz_WP.cs rfl (by decide) rfl (Nat.le_of_ble_eq_true rfl) rfl (s_dayOf ?_)
  refine mz_WP.run 80 rfl ?_
  refine mz_WP.rem rfl (by decide) ?_
  refine mz_WP.run 80 rfl ?_
  refine mz_WP.icmp rfl (fun c => ?_) (fun c => ?_)
  · have c : x / nI 1440 - x / nI 1440 / nI 7 * nI 7 < nI 5 := c
    refine mz_WP.run 80 rfl ?_
    refine mz_WP.cs rfl (by decide) rfl (Nat.le_of_ble_eq_true rfl) rfl (s_minuteOf ?_)
    refine mz_WP.run 80 rfl ?_
    refine mz_WP.cs rfl (by decide) rfl (Nat.le_of_ble_eq_true rfl) rfl (s_within ?_)
    refine mz_WP.ifc rfl (fun c1 => ?_) (fun c1 => ?_)
    · have hb : busyB x = true := by unfold busyB; rw [decide_eq_true c, bI_t c1]; rfl
      rw [hb] at H
      refine mz_WP.run 80 rfl ?_
      refine mz_WP.run 80 rfl ?_
      exact mz_WP.zret rfl rfl (Or.inr rfl) H
    · have c1 := bI_f (Classical.byContradiction c1)
      refine mz_WP.run 80 rfl ?_
      refine mz_WP.cs rfl (by decide) rfl (Nat.le_of_ble_eq_true rfl) rfl (s_within ?_)
      refine mz_WP.ifc rfl (fun c2 => ?_) (fun c2 => ?_)
      · have hb : busyB x = false := by unfold busyB; rw [decide_eq_true c, c1, bI_f c2]; rfl
        rw [hb] at H
        refine mz_WP.run 80 rfl ?_
        exact mz_WP.zret rfl rfl (Or.inl rfl) H
      · have hb : busyB x = true := by unfold busyB; rw [decide_eq_true c, c1, bI_t c2]; rfl
        rw [hb] at H
        refine mz_WP.run 80 rfl ?_
        refine mz_WP.run 80 rfl ?_
        exact mz_WP.zret rfl rfl (Or.inr rfl) H
  · have c : ¬ x / nI 1440 - x / nI 1440 / nI 7 * nI 7 < nI 5 := c
    have hb : busyB x = false := by unfold busyB; rw [decide_eq_false c]; rfl
    rw [hb] at H
    refine mz_WP.run 80 rfl ?_
    exact mz_WP.zret rfl rfl (Or.inl rfl) H
/-- the tariff at a -/
def TrA (h : mz_H) (a : Nat) (zr fr cr wr : Nat → Int32) (mo ne : Int32) : Prop := h a = .inr (9, [.ref (a + 1), .ref (a + 3), .ref (a + 5), .ref (a + 7), .int mo, .int ne]) ∧ (h (a + 1) = .inr (6, [.ref (a + 2)]) ∧ h (a + 3) = .inr (6, [.ref (a + 4)]) ∧ h (a + 5) = .inr (6, [.ref (a + 6)]) ∧ h (a + 7) = .inr (6, [.ref (a + 8)])) ∧ h (a + 2) = .inl (0, 8, zr) ∧ h (a + 4) = .inl (0, 6, fr) ∧ h (a + 6) = .inl (0, 6, cr) ∧ h (a + 8) = .inl (0, 6, wr)
theorem TrA.to {h h' : mz_H} {a : Nat} {zr fr cr wr : Nat → Int32} {mo ne : Int32} (T : TrA h a zr fr cr wr mo ne) (hh : ∀ b, a ≤ b → b ≤ a + 8 → h' b = h b) : TrA h' a zr fr cr wr mo ne := by
  obtain ⟨e0, ⟨e1, e3, e5, e7⟩, e2, e4, e6, e8⟩ := T
  exact ⟨(hh _ (by omega) (by omega)).trans e0, ⟨(hh _ (by omega) (by omega)).trans e1, (hh _ (by omega) (by omega)).trans e3, (hh _ (by omega) (by omega)).trans e5, (hh _ (by omega) (by omega)).trans e7⟩, (hh _ (by omega) (by omega)).trans e2, (hh _ (by omega) (by omega)).trans e4, (hh _ (by omega) (by omega)).trans e6, (hh _ (by omega) (by omega)).trans e8⟩
variable {a : Nat} {zr fr cr wr : Nat → Int32} {mo ne : Int32}
theorem s_near (T : TrA h a zr fr cr wr mo ne) (H : Q (some (.int ne)) n h) : mz_wc (e + 1) 76 [.ref a] n h Q := by
  refine mz_wc.enter (code := co_X9_near) (idx := 76) rfl rfl (Nat.le_of_ble_eq_true rfl) rfl rfl ?_
  refine mz_WP.run 80 rfl ?_
  refine mz_WP.getf rfl (T.1) rfl (Nat.le_of_ble_eq_true rfl) ?_
  exact mz_WP.ret rfl rfl H
theorem s_zoneOf {i : Int32} (T : TrA h a zr fr cr wr mo ne) (H : Q (some (.int (rat 8 zr i))) n h) : mz_wc (e + 2) 72 [.ref a, .int i] n h Q := by
  refine mz_wc.enter (code := co_X9_zoneOf) (idx := 72) rfl rfl (Nat.le_of_ble_eq_true rfl) rfl rfl ?_
  refine mz_WP.run 80 rfl ?_
  refine mz_WP.getf rfl (T.1) rfl (Nat.le_of_ble_eq_true rfl) ?_
  refine mz_WP.run 80 rfl ?_
  refine mz_WP.cv rfl rfl (Nat.le_of_ble_eq_true rfl) rfl (T.2.1.1) rfl (s_at T.2.1.1 T.2.2.1 (by decide) ?_)
  exact mz_WP.ret rfl rfl H
theorem s_jcost {i : Int32} {b : Bool} (T : TrA h a zr fr cr wr mo ne) (H : Q (some (.int (rat 6 fr i + (if b then mo else 0)))) n h) : mz_wc (e + 2) 77 [.ref a, .int i, .int (bI b)] n h Q := by
  refine mz_wc.enter (code := co_X9_journeyCost) (idx := 77) rfl rfl (Nat.le_of_ble_eq_true rfl) rfl rfl ?_
  refine mz_WP.run 80 rfl ?_
  refine mz_WP.getf rfl (T.1) rfl (Nat.le_of_ble_eq_true rfl) ?_
  refine mz_WP.run 80 rfl ?_
  refine mz_WP.cv rfl rfl (Nat.le_of_ble_eq_true rfl) rfl (T.2.1.2.1) rfl (s_at T.2.1.2.1 T.2.2.2.1 (by decide) ?_)
  refine mz_WP.run 80 rfl ?_
  refine mz_WP.ifc rfl (fun c => ?_) (fun c => ?_)
  · rw [bI_f c] at H
    refine mz_WP.run 80 rfl ?_
    exact mz_WP.ret rfl rfl H
  · rw [bI_t c] at H
    refine mz_WP.run 80 rfl ?_
    refine mz_WP.getf rfl (T.1) rfl (Nat.le_of_ble_eq_true rfl) ?_
    refine mz_WP.run 80 rfl ?_
    refine mz_WP.run 80 rfl ?_
    exact mz_WP.ret rfl rfl H
theorem s_capped {x i : Int32} (T : TrA h a zr fr cr wr mo ne) (H : Q (some (.int (if i = 0 then 0 else if rat 6 cr i < x then rat 6 cr i else x))) n h) : mz_wc (e + 2) 78 [.ref a, .int x, .int i] n h Q := by
  refine mz_wc.enter (code := co_X9_capped) (idx := 78) rfl rfl (Nat.le_of_ble_eq_true rfl) rfl rfl ?_
  refine mz_WP.run 80 rfl ?_
  refine mz_WP.ifc rfl (fun c => ?_) (fun c => ?_)
  · have c : ¬ i = 0 := c
    rw [if_neg c] at H
    refine mz_WP.run 80 rfl ?_
    refine mz_WP.getf rfl (T.1) rfl (Nat.le_of_ble_eq_true rfl) ?_
    refine mz_WP.run 80 rfl ?_
    refine mz_WP.cv rfl rfl (Nat.le_of_ble_eq_true rfl) rfl (T.2.1.2.2.1) rfl (s_at T.2.1.2.2.1 T.2.2.2.2.1 (by decide) ?_)
    refine mz_WP.mn rfl rfl (by omega) (Nat.le_of_ble_eq_true rfl) ?_
    exact mz_WP.ret rfl rfl H
  · have c : i = 0 := Classical.byContradiction c
    rw [if_pos c] at H
    refine mz_WP.run 80 rfl ?_
    refine mz_WP.run 80 rfl ?_
    exact mz_WP.ret rfl rfl H
theorem s_weekCost {i : Int32} (T : TrA h a zr fr cr wr mo ne) (H : Q (some (.int (if i = 0 then 0 else rat 6 wr i))) n h) : mz_wc (e + 2) 79 [.ref a, .int i] n h Q := by
  refine mz_wc.enter (code := co_X9_weekCost) (idx := 79) rfl rfl (Nat.le_of_ble_eq_true rfl) rfl rfl ?_
  refine mz_WP.run 80 rfl ?_
  refine mz_WP.ifc rfl (fun c => ?_) (fun c => ?_)
  · have c : ¬ i = 0 := c
    rw [if_neg c] at H
    refine mz_WP.run 80 rfl ?_
    refine mz_WP.getf rfl (T.1) rfl (Nat.le_of_ble_eq_true rfl) ?_
    refine mz_WP.run 80 rfl ?_
    refine mz_WP.cv rfl rfl (Nat.le_of_ble_eq_true rfl) rfl (T.2.1.2.2.2) rfl (s_at T.2.1.2.2.2 T.2.2.2.2.2 (by decide) ?_)
    exact mz_WP.ret rfl rfl H
  · have c : i = 0 := Classical.byContradiction c
    rw [if_pos c] at H
    refine mz_WP.run 80 rfl ?_
    refine mz_WP.run 80 rfl ?_
    exact mz_WP.ret rfl rfl H
/-- the rides, read only -/
def RdA (h : mz_H) (c : Nat) (bs es bm em kd : Nat → Int32) : Prop := h 140 = .inr (5, [.ref 141, .ref 143, .ref 145, .ref 147, .ref 149, .ref 151, .ref 153, .int (nI c)]) ∧ h 142 = .inl (0, 48, bs) ∧ h 144 = .inl (0, 48, es) ∧ h 146 = .inl (0, 48, bm) ∧ h 148 = .inl (0, 48, em) ∧ h 150 = .inl (0, 48, kd)
variable {c : Nat} {bs es bm em kd : Nat → Int32}
theorem RdA.to {h' : mz_H} (R : RdA h c bs es bm em kd) (hh : ∀ b, 140 ≤ b → b ≤ 150 → h' b = h b) : RdA h' c bs es bm em kd := by
  obtain ⟨e0, e1, e2, e3, e4, e5⟩ := R
  exact ⟨(hh _ (by omega) (by omega)).trans e0, (hh _ (by omega) (by omega)).trans e1, (hh _ (by omega) (by omega)).trans e2, (hh _ (by omega) (by omega)).trans e3, (hh _ (by omega) (by omega)).trans e4, (hh _ (by omega) (by omega)).trans e5⟩
theorem s_rsize (R : RdA h c bs es bm em kd) (H : Q (some (.int (nI c))) n h) : mz_wc (e + 1) 43 [.ref 140] n h Q := by
  refine mz_wc.enter (code := co_X5_size) (idx := 43) rfl rfl (Nat.le_of_ble_eq_true rfl) rfl rfl ?_
  refine mz_WP.run 80 rfl ?_
  refine mz_WP.getf rfl (R.1) rfl (Nat.le_of_ble_eq_true rfl) ?_
  exact mz_WP.ret rfl rfl H
theorem s_rbs {i : Int32} (F : Fx h) (R : RdA h c bs es bm em kd) (H : Q (some (.int (rat 48 bs i))) n h) : mz_wc (e + 2) 44 [.ref 140, .int i] n h Q := by
  refine mz_wc.enter (code := co_X5_beginStation) (idx := 44) rfl rfl (Nat.le_of_ble_eq_true rfl) rfl rfl ?_
  refine mz_WP.run 80 rfl ?_
  refine mz_WP.getf rfl (R.1) rfl (Nat.le_of_ble_eq_true rfl) ?_
  refine mz_WP.run 80 rfl ?_
  refine mz_WP.cv rfl rfl (Nat.le_of_ble_eq_true rfl) rfl (F _ _ rfl) rfl (s_at (F _ _ rfl) R.2.1 (by decide) ?_)
  exact mz_WP.ret rfl rfl H
theorem s_res {i : Int32} (F : Fx h) (R : RdA h c bs es bm em kd) (H : Q (some (.int (rat 48 es i))) n h) : mz_wc (e + 2) 45 [.ref 140, .int i] n h Q := by
  refine mz_wc.enter (code := co_X5_endStation) (idx := 45) rfl rfl (Nat.le_of_ble_eq_true rfl) rfl rfl ?_
  refine mz_WP.run 80 rfl ?_
  refine mz_WP.getf rfl (R.1) rfl (Nat.le_of_ble_eq_true rfl) ?_
  refine mz_WP.run 80 rfl ?_
  refine mz_WP.cv rfl rfl (Nat.le_of_ble_eq_true rfl) rfl (F _ _ rfl) rfl (s_at (F _ _ rfl) R.2.2.1 (by decide) ?_)
  exact mz_WP.ret rfl rfl H
theorem s_rbm {i : Int32} (F : Fx h) (R : RdA h c bs es bm em kd) (H : Q (some (.int (rat 48 bm i))) n h) : mz_wc (e + 2) 46 [.ref 140, .int i] n h Q := by
  refine mz_wc.enter (code := co_X5_beginMoment) (idx := 46) rfl rfl (Nat.le_of_ble_eq_true rfl) rfl rfl ?_
  refine mz_WP.run 80 rfl ?_
  refine mz_WP.getf rfl (R.1) rfl (Nat.le_of_ble_eq_true rfl) ?_
  refine mz_WP.run 80 rfl ?_
  refine mz_WP.cv rfl rfl (Nat.le_of_ble_eq_true rfl) rfl (F _ _ rfl) rfl (s_at (F _ _ rfl) R.2.2.2.1 (by decide) ?_)
  exact mz_WP.ret rfl rfl H
theorem s_rkd {i : Int32} (F : Fx h) (R : RdA h c bs es bm em kd) (H : Q (some (.int (rat 48 kd i))) n h) : mz_wc (e + 2) 47 [.ref 140, .int i] n h Q := by
  refine mz_wc.enter (code := co_X5_kind) (idx := 47) rfl rfl (Nat.le_of_ble_eq_true rfl) rfl rfl ?_
  refine mz_WP.run 80 rfl ?_
  refine mz_WP.getf rfl (R.1) rfl (Nat.le_of_ble_eq_true rfl) ?_
  refine mz_WP.run 80 rfl ?_
  refine mz_WP.cv rfl rfl (Nat.le_of_ble_eq_true rfl) rfl (F _ _ rfl) rfl (s_at (F _ _ rfl) R.2.2.2.2.2 (by decide) ?_)
  exact mz_WP.ret rfl rfl H
def lameB (a b : Int32) : Bool := decide (a = NN) || decide (b = NN)
theorem s_rlame {i : Int32} (F : Fx h) (R : RdA h c bs es bm em kd) (H : Q (some (.int (bI (lameB (rat 48 bs i) (rat 48 es i))))) n h) : mz_wc (e + 2) 48 [.ref 140, .int i] n h Q := by
  refine mz_wc.enter (code := co_X5_isLame) (idx := 48) rfl rfl (Nat.le_of_ble_eq_true rfl) rfl rfl ?_
  refine mz_WP.run 80 rfl ?_
  refine mz_WP.getf rfl (R.1) rfl (Nat.le_of_ble_eq_true rfl) ?_
  refine mz_WP.run 80 rfl ?_
  refine mz_WP.cv rfl rfl (Nat.le_of_ble_eq_true rfl) rfl (F _ _ rfl) rfl (s_at (F _ _ rfl) R.2.1 (by decide) ?_)
  refine mz_WP.run 80 rfl ?_
  have yes : lameB (rat 48 bs i) (rat 48 es i) = true → mz_WP (mz_wc (e + 1)) (e + 1) 2 co_X5_isLame Q 26 [some (.ref 140), some (.int i)] [] n h 0 0 := by
    intro hb
    rw [hb] at H
    refine mz_WP.run 80 rfl ?_
    refine mz_WP.run 80 rfl ?_
    exact mz_WP.zret rfl rfl (Or.inr rfl) H
  refine mz_WP.icmp rfl (fun c1 => ?_) (fun c1 => ?_)
  · have c1 : rat 48 bs i = NN := c1
    exact yes (by unfold lameB; rw [decide_eq_true c1]; rfl)
  · have c1 : ¬ rat 48 bs i = NN := c1
    refine mz_WP.run 80 rfl ?_
    refine mz_WP.getf rfl (R.1) rfl (Nat.le_of_ble_eq_true rfl) ?_
    refine mz_WP.run 80 rfl ?_
    refine mz_WP.cv rfl rfl (Nat.le_of_ble_eq_true rfl) rfl (F _ _ rfl) rfl (s_at (F _ _ rfl) R.2.2.1 (by decide) ?_)
    refine mz_WP.run 80 rfl ?_
    refine mz_WP.icmp rfl (fun c2 => ?_) (fun c2 => ?_)
    · have c2 : ¬ rat 48 es i = NN := c2
      have hb : lameB (rat 48 bs i) (rat 48 es i) = false := by unfold lameB; rw [decide_eq_false c1, decide_eq_false c2]; rfl
      rw [hb] at H
      refine mz_WP.run 80 rfl ?_
      exact mz_WP.zret rfl rfl (Or.inl rfl) H
    · have c2 : rat 48 es i = NN := Classical.byContradiction c2
      exact yes (by unfold lameB; rw [decide_eq_true c2, Bool.or_true])
end SM
end
section
/-! Journeys -/
abbrev Jrn : Type := Int32 × Nat × Int32 × Int32
def zmin (a b : Int32) : Int32 := if b < a then b else a
def zmax (a b : Int32) : Int32 := if a < b then b else a
def goR (near : Int32) (p r : Rde) : Bool := decide (r.1 = 0) && decide (p.1 = 0) && decide (r.2.2.2.1 / nI 1440 = p.2.2.2.2 / nI 1440) && decide (r.2.2.2.1 - p.2.2.2.2 ≤ near) && decide (r.2.1 = p.2.2.1)
def zoneA (zn : Int32 → Int32) (r : Rde) : Int32 := if lameB r.2.1 r.2.2.1 then 1 else zn r.2.1
def zoneZ (zn : Int32 → Int32) (r : Rde) : Int32 := if lameB r.2.1 r.2.2.1 then 5 else zn r.2.2.1
def jtake (zn : Int32 → Int32) (r : Rde) (q : Jrn) : Jrn := (q.1, q.2.1 + 1, zmin (zmin q.2.2.1 (zoneA zn r)) (zoneZ zn r), zmax (zmax q.2.2.2 (zoneA zn r)) (zoneZ zn r))
def jmod (J : List Jrn) (f : Jrn → Jrn) : List Jrn := match J[J.length - 1]? with
  | some q => J.set (J.length - 1) (f q)
  | none => J
def goes (near : Int32) (l : List Rde) (J : List Jrn) (i : Nat) (r : Rde) : Bool := match i with
  | 0 => false
  | j + 1 => match l[j]?, J[J.length - 1]? with
    | some p, some q => decide (nI q.2.1 < nI 3) && goR near p r
    | _, _ => false
/-- the journeys that the first i rides make -/
def jl (near : Int32) (zn : Int32 → Int32) (l : List Rde) : Nat → List Jrn
  | 0 => []
  | i + 1 => match l[i]? with
    | none => jl near zn l i
    | some r => if goes near l (jl near zn l i) i r = true then jmod (jl near zn l i) (jtake zn r) else jl near zn l i ++ [jtake zn r (r.2.2.2.1, 0, 5, 1)]
theorem jmod_len (J : List Jrn) (f : Jrn → Jrn) : (jmod J f).length = J.length := by
  unfold jmod
  split
  · exact List.length_set
  · rfl
theorem jmod_app (J : List Jrn) (q : Jrn) (f : Jrn → Jrn) : jmod (J ++ [q]) f = J ++ [f q] := by
  unfold jmod
  have e : (J ++ [q])[(J ++ [q]).length - 1]? = some q := by
    rw [List.length_append, List.length_singleton, Nat.add_sub_cancel, List.getElem?_append_right (Nat.le_refl _), Nat.sub_self]
    rfl
  rw [e]
  dsimp only
  rw [List.length_append, List.length_singleton, Nat.add_sub_cancel, List.set_append_right _ _ (Nat.le_refl _), Nat.sub_self]
  rfl
theorem jl_len (near : Int32) (zn : Int32 → Int32) (l : List Rde) : ∀ i, (jl near zn l i).length ≤ i
  | 0 => Nat.le_refl 0
  | i + 1 => by
    have ih := jl_len near zn l i
    unfold jl
    split
    · omega
    · split
      · rw [jmod_len]; omega
      · rw [List.length_append, List.length_singleton]; omega
def JRep (J : List Jrn) (mo rc lz gz : Nat → Int32) : Prop := ∀ j q, J[j]? = some q → mo j = q.1 ∧ rc j = nI q.2.1 ∧ lz j = q.2.2.1 ∧ gz j = q.2.2.2
theorem JRep.app {J : List Jrn} {mo rc lz gz : Nat → Int32} (R : JRep J mo rc lz gz) {c : Nat} (hc : J.length = c) {x : Int32} : JRep (J ++ [(x, 0, 5, 1)]) (upd mo c x) (upd rc c (nI 0)) (upd lz c (nI 5)) (upd gz c (nI 1)) := by
  intro j q hq
  by_cases hj : j < J.length
  · rw [List.getElem?_append_left hj] at hq
    obtain ⟨a1, a2, a3, a4⟩ := R j q hq
    have hne : j ≠ c := by omega
    rw [updN hne, updN hne, updN hne, updN hne]
    exact ⟨a1, a2, a3, a4⟩
  · rw [List.getElem?_append_right (by omega)] at hq
    have hz : j - J.length < 1 := (List.getElem?_eq_some_iff.mp hq).1
    have hjc : j = c := by omega
    rw [show j - J.length = 0 by omega] at hq
    cases hq
    subst hjc
    rw [updS, updS, updS, updS]
    exact ⟨rfl, rfl, rfl, rfl⟩
theorem updU {f : Nat → Int32} {k : Nat} {x y : Int32} : upd (upd f k x) k y = upd f k y := by
  funext j
  by_cases hj : j = k
  · subst hj; rw [updS, updS]
  · rw [updN hj, updN hj, updN hj]
theorem JRep.mod {J : List Jrn} {mo rc lz gz : Nat → Int32} (R : JRep J mo rc lz gz) {c : Nat} (hc : J.length = c + 1) {zn : Int32 → Int32} {r : Rde} : JRep (jmod J (jtake zn r)) mo (upd rc c (rc c + nI 1)) (upd lz c (zmin (zmin (lz c) (zoneA zn r)) (zoneZ zn r))) (upd gz c (zmax (zmax (gz c) (zoneA zn r)) (zoneZ zn r))) := by
  obtain ⟨p, hp⟩ : ∃ p, J[c]? = some p := ⟨_, List.getElem?_eq_getElem (by omega)⟩
  obtain ⟨b1, b2, b3, b4⟩ := R c p hp
  intro j q hq
  unfold jmod at hq
  rw [show J.length - 1 = c by omega, hp] at hq
  dsimp only at hq
  by_cases hj : j = c
  · subst hj
    rw [List.getElem?_set_self (by omega)] at hq
    cases hq
    rw [updS, updS, updS, b2, b3, b4]
    exact ⟨b1, nI_add _ _, rfl, rfl⟩
  · rw [List.getElem?_set_ne (fun z => hj z.symm)] at hq
    obtain ⟨a1, a2, a3, a4⟩ := R j q hq
    rw [updN hj, updN hj, updN hj]
    exact ⟨a1, a2, a3, a4⟩
def jcost (fr : Nat → Int32) (mr : Int32) (q : Jrn) : Int32 := rat 6 fr (q.2.2.2 - q.2.2.1 + nI 1) + (if busyB q.1 then mr else 0)
def goI (near : Int32) (kd bs es bm em : Nat → Int32) : Nat → Bool
  | 0 => false
  | i + 1 => goR near (kd i, bs i, es i, bm i, em i) (kd (i + 1), bs (i + 1), es (i + 1), bm (i + 1), em (i + 1))
section JY
variable {e n : Nat} {h : mz_H} {Q : mz_Q} {z : Int32} {mo rc lz gz co jr : Nat → Int32} {bs es bm em kd : Nat → Int32} {zr fr cr wr : Nat → Int32} {mr ne : Int32} {k : Nat}
theorem s_goesOn {j : Nat} {near : Int32} (F : Fx h) (R : RdA h k bs es bm em kd) (hj : j < 48) (H : Q (some (.int (bI (goI near kd bs es bm em j)))) n h) : mz_wc (e + 2) 49 [.ref 140, .int (nI j), .int near] n h Q := by
  refine mz_wc.enter (code := co_X5_goesOn) (idx := 49) rfl rfl (Nat.le_of_ble_eq_true rfl) rfl rfl ?_
  have no : goI near kd bs es bm em j = false → mz_WP (mz_wc (e + 1)) (e + 1) 2 co_X5_goesOn Q 28 [some (.ref 140), some (.int (nI j)), some (.int near), none, none] [] n h 0 0 := by
    intro hb
    rw [hb] at H
    refine mz_WP.run 80 rfl ?_
    exact mz_WP.zret rfl rfl (Or.inl rfl) H
  refine mz_WP.run 80 rfl ?_
  cases j with
  | zero =>
    refine mz_WP.ifc rfl (fun c => ?_) (fun c => ?_)
    · exact no rfl
    · exact absurd (show nI 0 ≤ 0 from Int32.le_refl _) c
  | succ i =>
    refine mz_WP.ifc rfl (fun c => ?_) (fun c => ?_)
    · exact absurd c (nI_nle (by omega) (by omega))
    · refine mz_WP.run 80 rfl ?_
      refine mz_WP.getf rfl (R.1) rfl (Nat.le_of_ble_eq_true rfl) ?_
      refine mz_WP.run 80 rfl ?_
      refine mz_WP.cv rfl rfl (Nat.le_of_ble_eq_true rfl) rfl (F _ _ rfl) rfl (s_at (F _ _ rfl) R.2.2.2.2.2 (by decide) ?_)
      rw [rat_in (by omega) (by decide)]
      refine mz_WP.ifc rfl (fun c1 => ?_) (fun c1 => ?_)
      · have c1 : ¬ kd (i + 1) = 0 := c1
        exact no (by show goR _ _ _ = false; unfold goR; rw [decide_eq_false c1]; rfl)
      · have c1 : kd (i + 1) = 0 := Classical.byContradiction c1
        refine mz_WP.run 80 rfl ?_
        refine mz_WP.getf rfl (R.1) rfl (Nat.le_of_ble_eq_true rfl) ?_
        refine mz_WP.run 80 rfl ?_
        refine mz_WP.cv rfl rfl (Nat.le_of_ble_eq_true rfl) rfl (F _ _ rfl) rfl (s_at (F _ _ rfl) R.2.2.2.2.2 (by decide) ?_)
        rw [show nI (i + 1) - nI 1 = nI i from nI_pred i, rat_in (by omega) (by decide)]
        refine mz_WP.ifc rfl (fun c2 => ?_) (fun c2 => ?_)
        · have c2 : kd i = 0 := c2
          refine mz_WP.run 80 rfl ?_
          refine mz_WP.getf rfl (R.1) rfl (Nat.le_of_ble_eq_true rfl) ?_
          refine mz_WP.run 80 rfl ?_
          refine mz_WP.cv rfl rfl (Nat.le_of_ble_eq_true rfl) rfl (F _ _ rfl) rfl (s_at (F _ _ rfl) R.2.2.2.1 (by decide) ?_)
          rw [rat_in (by omega) (by decide)]
          refine mz_WP.run 80 rfl ?_
          refine mz_WP.getf rfl (R.1) rfl (Nat.le_of_ble_eq_true rfl) ?_
          refine mz_WP.run 80 rfl ?_
          refine mz_WP.cv rfl rfl (Nat.le_of_ble_eq_true rfl) rfl (F _ _ rfl) rfl (s_at (F _ _ rfl) R.2.2.2.2.1 (by decide) ?_)
          rw [show nI (i + 1) - nI 1 = nI i from nI_pred i, rat_in (by omega) (by decide)]
          refine mz_WP.run 80 rfl ?_
          refine mz_WP.cs rfl (by decide) rfl (Nat.le_of_ble_eq_true rfl) rfl (s_dayOf ?_)
          refine mz_WP.run 80 rfl ?_
          refine mz_WP.cs rfl (by decide) rfl (Nat.le_of_ble_eq_true rfl) rfl (s_dayOf ?_)
          have no2 : goR near (kd i, bs i, es i, bm i, em i) (kd (i + 1), bs (i + 1), es (i + 1), bm (i + 1), em (i + 1)) = false → mz_WP (mz_wc (e + 1)) (e + 1) 2 co_X5_goesOn Q 96 [some (.ref 140), some (.int (nI (i + 1))), some (.int near), some (.int (bm (i + 1))), some (.int (em i))] [] n h 0 0 := by
            intro hb
            have H : Q (some (.int (bI (goR near (kd i, bs i, es i, bm i, em i) (kd (i + 1), bs (i + 1), es (i + 1), bm (i + 1), em (i + 1)))))) n h := H
            rw [hb] at H
            refine mz_WP.run 80 rfl ?_
            exact mz_WP.zret rfl rfl (Or.inl rfl) H
          refine mz_WP.icmp rfl (fun c3 => ?_) (fun c3 => ?_)
          · have c3 : ¬ bm (i + 1) / nI 1440 = em i / nI 1440 := c3
            exact no2 (by unfold goR; rw [decide_eq_false c3, Bool.and_false, Bool.false_and, Bool.false_and])
          · have c3 : bm (i + 1) / nI 1440 = em i / nI 1440 := Classical.byContradiction c3
            refine mz_WP.run 80 rfl ?_
            refine mz_WP.icmp rfl (fun c4 => ?_) (fun c4 => ?_)
            · have c4 : near < bm (i + 1) - em i := c4
              exact no2 (by unfold goR; rw [decide_eq_false (Int32.not_le.mpr c4), Bool.and_false, Bool.false_and])
            · have c4 : bm (i + 1) - em i ≤ near := Int32.not_lt.mp c4
              refine mz_WP.run 80 rfl ?_
              refine mz_WP.getf rfl (R.1) rfl (Nat.le_of_ble_eq_true rfl) ?_
              refine mz_WP.run 80 rfl ?_
              refine mz_WP.cv rfl rfl (Nat.le_of_ble_eq_true rfl) rfl (F _ _ rfl) rfl (s_at (F _ _ rfl) R.2.1 (by decide) ?_)
              rw [rat_in (by omega) (by decide)]
              refine mz_WP.run 80 rfl ?_
              refine mz_WP.getf rfl (R.1) rfl (Nat.le_of_ble_eq_true rfl) ?_
              refine mz_WP.run 80 rfl ?_
              refine mz_WP.cv rfl rfl (Nat.le_of_ble_eq_true rfl) rfl (F _ _ rfl) rfl (s_at (F _ _ rfl) R.2.2.1 (by decide) ?_)
              rw [show nI (i + 1) - nI 1 = nI i from nI_pred i, rat_in (by omega) (by decide)]
              refine mz_WP.icmp rfl (fun c5 => ?_) (fun c5 => ?_)
              · have c5 : ¬ bs (i + 1) = es i := c5
                exact no2 (by unfold goR; rw [decide_eq_false c5, Bool.and_false])
              · have c5 : bs (i + 1) = es i := Classical.byContradiction c5
                have hb : goR near (kd i, bs i, es i, bm i, em i) (kd (i + 1), bs (i + 1), es (i + 1), bm (i + 1), em (i + 1)) = true := by
                  unfold goR
                  rw [decide_eq_true c1, decide_eq_true c2, decide_eq_true c3, decide_eq_true c4, decide_eq_true c5]
                  rfl
                have H : Q (some (.int (bI (goR near (kd i, bs i, es i, bm i, em i) (kd (i + 1), bs (i + 1), es (i + 1), bm (i + 1), em (i + 1)))))) n h := H
                rw [hb] at H
                refine mz_WP.run 80 rfl ?_
                refine mz_WP.run 80 rfl ?_
                exact mz_WP.zret rfl rfl (Or.inr rfl) H
        · have c2 : ¬ kd i = 0 := c2
          exact no (by show goR _ _ _ = false; unfold goR; rw [decide_eq_false c2, Bool.and_false, Bool.false_and, Bool.false_and, Bool.false_and])
theorem s_jopen {c : Nat} {x : Int32} (F : Fx h) (hc : c < 48) (H : Q none n (jyH h (nI (c + 1)) (upd mo c x) (upd rc c (nI 0)) (upd lz c (nI 5)) (upd gz c (nI 1)) co jr)) : mz_wc (e + 2) 21 [.ref 155, .int x] n (jyH h (nI c) mo rc lz gz co jr) Q := by
  refine mz_wc.enter (code := co_X3_open) (idx := 21) rfl rfl (Nat.le_of_ble_eq_true rfl) rfl rfl ?_
  refine mz_WP.run 80 rfl ?_
  refine mz_WP.getf rfl (rfl) rfl (Nat.le_of_ble_eq_true rfl) ?_
  refine mz_WP.run 80 rfl ?_
  refine mz_WP.getf rfl (rfl) rfl (Nat.le_of_ble_eq_true rfl) ?_
  refine mz_WP.run 80 rfl ?_
  refine mz_WP.cv rfl rfl (Nat.le_of_ble_eq_true rfl) rfl (jy_F F _ _ rfl) rfl (s_put (jy_F F _ _ rfl) rfl (by decide) (by decide) ?_)
  rw [jy_u1, rput_in hc (by decide)]
  refine mz_WP.run 80 rfl ?_
  refine mz_WP.getf rfl (rfl) rfl (Nat.le_of_ble_eq_true rfl) ?_
  refine mz_WP.run 80 rfl ?_
  refine mz_WP.getf rfl (rfl) rfl (Nat.le_of_ble_eq_true rfl) ?_
  refine mz_WP.run 80 rfl ?_
  refine mz_WP.cv rfl rfl (Nat.le_of_ble_eq_true rfl) rfl (jy_F F _ _ rfl) rfl (s_put (jy_F F _ _ rfl) rfl (by decide) (by decide) ?_)
  rw [jy_u2, rput_in hc (by decide)]
  refine mz_WP.run 80 rfl ?_
  refine mz_WP.getf rfl (rfl) rfl (Nat.le_of_ble_eq_true rfl) ?_
  refine mz_WP.run 80 rfl ?_
  refine mz_WP.getf rfl (rfl) rfl (Nat.le_of_ble_eq_true rfl) ?_
  refine mz_WP.run 80 rfl ?_
  refine mz_WP.cv rfl rfl (Nat.le_of_ble_eq_true rfl) rfl (jy_F F _ _ rfl) rfl (s_put (jy_F F _ _ rfl) rfl (by decide) (by decide) ?_)
  rw [jy_u3, rput_in hc (by decide)]
  refine mz_WP.run 80 rfl ?_
  refine mz_WP.getf rfl (rfl) rfl (Nat.le_of_ble_eq_true rfl) ?_
  refine mz_WP.run 80 rfl ?_
  refine mz_WP.getf rfl (rfl) rfl (Nat.le_of_ble_eq_true rfl) ?_
  refine mz_WP.run 80 rfl ?_
  refine mz_WP.cv rfl rfl (Nat.le_of_ble_eq_true rfl) rfl (jy_F F _ _ rfl) rfl (s_put (jy_F F _ _ rfl) rfl (by decide) (by decide) ?_)
  rw [jy_u4, rput_in hc (by decide)]
  refine mz_WP.run 80 rfl ?_
  refine mz_WP.getf rfl (rfl) rfl (Nat.le_of_ble_eq_true rfl) ?_
  refine mz_WP.run 80 rfl ?_
  refine mz_WP.putf rfl (rfl) (Nat.le_of_ble_eq_true rfl) (Nat.le_of_ble_eq_true rfl) rfl ?_
  refine mz_WP.vret rfl rfl ?_
  show Q none n (mz_up _ 155 (.inr (3, [.ref 156, .ref 158, .ref 160, .ref 162, .ref 164, .ref 166, .int (nI c + nI 1)])))
  rw [jy_u0, nI_add]
  exact H
theorem s_jzone {c : Nat} {x : Int32} (F : Fx h) (hc : c < 48) (H : Q none n (jyH h z mo rc (upd lz c (zmin (lz c) x)) (upd gz c (zmax (gz c) x)) co jr)) : mz_wc (e + 2) 23 [.ref 155, .int (nI c), .int x] n (jyH h z mo rc lz gz co jr) Q := by
  refine mz_wc.enter (code := co_X3_takeZone) (idx := 23) rfl rfl (Nat.le_of_ble_eq_true rfl) rfl rfl ?_
  refine mz_WP.run 80 rfl ?_
  refine mz_WP.getf rfl (rfl) rfl (Nat.le_of_ble_eq_true rfl) ?_
  refine mz_WP.run 80 rfl ?_
  refine mz_WP.getf rfl (rfl) rfl (Nat.le_of_ble_eq_true rfl) ?_
  refine mz_WP.run 80 rfl ?_
  refine mz_WP.cv rfl rfl (Nat.le_of_ble_eq_true rfl) rfl (jy_F F _ _ rfl) rfl (s_at (jy_F F _ _ rfl) rfl (by decide) ?_)
  rw [rat_in hc (by decide)]
  refine mz_WP.run 80 rfl ?_
  refine mz_WP.mn rfl rfl (by omega) (Nat.le_of_ble_eq_true rfl) ?_
  refine mz_WP.cv rfl rfl (Nat.le_of_ble_eq_true rfl) rfl (jy_F F _ _ rfl) rfl (s_put (jy_F F _ _ rfl) rfl (by decide) (by decide) ?_)
  rw [jy_u3, rput_in hc (by decide)]
  refine mz_WP.run 80 rfl ?_
  refine mz_WP.getf rfl (rfl) rfl (Nat.le_of_ble_eq_true rfl) ?_
  refine mz_WP.run 80 rfl ?_
  refine mz_WP.getf rfl (rfl) rfl (Nat.le_of_ble_eq_true rfl) ?_
  refine mz_WP.run 80 rfl ?_
  refine mz_WP.cv rfl rfl (Nat.le_of_ble_eq_true rfl) rfl (jy_F F _ _ rfl) rfl (s_at (jy_F F _ _ rfl) rfl (by decide) ?_)
  rw [rat_in hc (by decide)]
  refine mz_WP.run 80 rfl ?_
  refine mz_WP.mx rfl rfl (by omega) (Nat.le_of_ble_eq_true rfl) ?_
  refine mz_WP.cv rfl rfl (Nat.le_of_ble_eq_true rfl) rfl (jy_F F _ _ rfl) rfl (s_put (jy_F F _ _ rfl) rfl (by decide) (by decide) ?_)
  rw [jy_u4, rput_in hc (by decide)]
  exact mz_WP.vret rfl rfl H
theorem RdA.jy (R : RdA h k bs es bm em kd) : RdA (jyH h z mo rc lz gz co jr) k bs es bm em kd := R.to (fun b _ h2 => jy_lt (by omega))
theorem TrA.jy (T : TrA h 32 zr fr cr wr mr ne) : TrA (jyH h z mo rc lz gz co jr) 32 zr fr cr wr mr ne := T.to (fun b _ h2 => jy_lt (by omega))
theorem s_takeRide {c i : Nat} {r : Rde} (F : Fx h) (R : RdA h k bs es bm em kd) (T : TrA h 32 zr fr cr wr mr ne) (hc : c < 48) (hi : i < 48) (h1 : bs i = r.2.1) (h2 : es i = r.2.2.1) (H : Q none n (jyH h (nI (c + 1)) mo (upd rc c (rc c + nI 1)) (upd lz c (zmin (zmin (lz c) (zoneA (rat 8 zr) r)) (zoneZ (rat 8 zr) r))) (upd gz c (zmax (zmax (gz c) (zoneA (rat 8 zr) r)) (zoneZ (rat 8 zr) r))) co (upd jr i (nI c)))) : mz_wc (e + 3) 22 [.ref 155, .ref 140, .int (nI i), .ref 32] n (jyH h (nI (c + 1)) mo rc lz gz co jr) Q := by
  refine mz_wc.enter (code := co_X3_takeRide) (idx := 22) rfl rfl (Nat.le_of_ble_eq_true rfl) rfl rfl ?_
  refine mz_WP.run 80 rfl ?_
  refine mz_WP.getf rfl (rfl) rfl (Nat.le_of_ble_eq_true rfl) ?_
  refine mz_WP.run 80 rfl ?_
  refine mz_WP.getf rfl (rfl) rfl (Nat.le_of_ble_eq_true rfl) ?_
  refine mz_WP.run 80 rfl ?_
  rw [show nI (c + 1) - nI 1 = nI c from nI_pred c]
  refine mz_WP.cv rfl rfl (Nat.le_of_ble_eq_true rfl) rfl (jy_F F _ _ rfl) rfl (s_put (jy_F F _ _ rfl) rfl (by decide) (by decide) ?_)
  rw [jy_u6, rput_in hi (by decide)]
  refine mz_WP.run 80 rfl ?_
  refine mz_WP.getf rfl (rfl) rfl (Nat.le_of_ble_eq_true rfl) ?_
  refine mz_WP.run 80 rfl ?_
  refine mz_WP.cv rfl rfl (Nat.le_of_ble_eq_true rfl) rfl (jy_F F _ _ rfl) rfl (s_add (jy_F F _ _ rfl) rfl (by decide) (by decide) ?_)
  rw [jy_u2, rput_in hc (by decide), rat_in hc (by decide)]
  refine mz_WP.run 80 rfl ?_
  refine mz_WP.cv rfl rfl (Nat.le_of_ble_eq_true rfl) rfl (R.jy.1) rfl (s_rlame (jy_F F) R.jy ?_)
  rw [rat_in hi (by decide), rat_in hi (by decide), h1, h2]
  refine mz_WP.ifc rfl (fun c1 => ?_) (fun c1 => ?_)
  · have c1 := bI_f c1
    refine mz_WP.run 80 rfl ?_
    refine mz_WP.cv rfl rfl (Nat.le_of_ble_eq_true rfl) rfl (R.jy.1) rfl (s_rbs (jy_F F) R.jy ?_)
    rw [rat_in hi (by decide), h1]
    refine mz_WP.cv rfl rfl (Nat.le_of_ble_eq_true rfl) rfl (T.jy.1) rfl (s_zoneOf T.jy ?_)
    refine mz_WP.cv rfl rfl (Nat.le_of_ble_eq_true rfl) rfl (rfl) rfl (s_jzone F hc ?_)
    refine mz_WP.run 80 rfl ?_
    refine mz_WP.cv rfl rfl (Nat.le_of_ble_eq_true rfl) rfl (R.jy.1) rfl (s_res (jy_F F) R.jy ?_)
    rw [rat_in hi (by decide), h2]
    refine mz_WP.cv rfl rfl (Nat.le_of_ble_eq_true rfl) rfl (T.jy.1) rfl (s_zoneOf T.jy ?_)
    refine mz_WP.cv rfl rfl (Nat.le_of_ble_eq_true rfl) rfl (rfl) rfl (s_jzone F hc ?_)
    refine mz_WP.vret rfl rfl ?_
    rw [updS, updS, updU, updU]
    have ea : zoneA (rat 8 zr) r = rat 8 zr r.2.1 := by unfold zoneA; rw [c1]; rfl
    have ez : zoneZ (rat 8 zr) r = rat 8 zr r.2.2.1 := by unfold zoneZ; rw [c1]; rfl
    rw [ea, ez] at H
    exact H
  · have c1 := bI_t c1
    refine mz_WP.run 80 rfl ?_
    refine mz_WP.cv rfl rfl (Nat.le_of_ble_eq_true rfl) rfl (rfl) rfl (s_jzone F hc ?_)
    refine mz_WP.run 80 rfl ?_
    refine mz_WP.cv rfl rfl (Nat.le_of_ble_eq_true rfl) rfl (rfl) rfl (s_jzone F hc ?_)
    refine mz_WP.run 80 rfl ?_
    refine mz_WP.vret rfl rfl ?_
    rw [updS, updS, updU, updU]
    have ea : zoneA (rat 8 zr) r = 1 := by unfold zoneA; rw [c1]; rfl
    have ez : zoneZ (rat 8 zr) r = 5 := by unfold zoneZ; rw [c1]; rfl
    rw [ea, ez] at H
    exact H
theorem s_jwidth {j : Nat} (F : Fx h) (hj : j < 48) (H : Q (some (.int (gz j - lz j + nI 1))) n (jyH h z mo rc lz gz co jr)) : mz_wc (e + 2) 27 [.ref 155, .int (nI j)] n (jyH h z mo rc lz gz co jr) Q := by
  refine mz_wc.enter (code := co_X3_width) (idx := 27) rfl rfl (Nat.le_of_ble_eq_true rfl) rfl rfl ?_
  refine mz_WP.run 80 rfl ?_
  refine mz_WP.getf rfl (rfl) rfl (Nat.le_of_ble_eq_true rfl) ?_
  refine mz_WP.run 80 rfl ?_
  refine mz_WP.cv rfl rfl (Nat.le_of_ble_eq_true rfl) rfl (jy_F F _ _ rfl) rfl (s_at (jy_F F _ _ rfl) rfl (by decide) ?_)
  rw [rat_in hj (by decide)]
  refine mz_WP.run 80 rfl ?_
  refine mz_WP.getf rfl (rfl) rfl (Nat.le_of_ble_eq_true rfl) ?_
  refine mz_WP.run 80 rfl ?_
  refine mz_WP.cv rfl rfl (Nat.le_of_ble_eq_true rfl) rfl (jy_F F _ _ rfl) rfl (s_at (jy_F F _ _ rfl) rfl (by decide) ?_)
  rw [rat_in hj (by decide)]
  refine mz_WP.run 80 rfl ?_
  exact mz_WP.ret rfl rfl H
end JY
end
section
/-! Journeys.build -/
section JB
variable {e n : Nat} {h : mz_H} {Q : mz_Q} {z : Int32} {mo rc lz gz co jr : Nat → Int32} {bs es bm em kd : Nat → Int32} {zr fr cr wr : Nat → Int32} {mr ne : Int32} {k : Nat} {l : List Rde}
theorem goes_eq {i : Nat} {r : Rde} {J : List Jrn} (RA : RepA l bs es bm em kd) (hr : l[i]? = some r) (JR : JRep J mo rc lz gz) {c : Nat} (hc : J.length = c + 1) (h3 : rc c < nI 3) : goes ne l J i r = goI ne kd bs es bm em i := by
  cases i with
  | zero => rfl
  | succ j =>
    have hlt := (List.getElem?_eq_some_iff.mp hr).1
    obtain ⟨p, hp⟩ : ∃ p, l[j]? = some p := ⟨_, List.getElem?_eq_getElem (by omega)⟩
    obtain ⟨q, hq⟩ : ∃ q, J[c]? = some q := ⟨_, List.getElem?_eq_getElem (by omega)⟩
    obtain ⟨a1, a2, a3, a4, a5⟩ := RA j p hp
    obtain ⟨b1, b2, b3, b4, b5⟩ := RA (j + 1) r hr
    obtain ⟨-, c2, -, -⟩ := JR c q hq
    rw [c2] at h3
    show (match l[j]?, J[J.length - 1]? with
      | some p, some q => decide (nI q.2.1 < nI 3) && goR ne p r
      | _, _ => false) = goR ne (kd j, bs j, es j, bm j, em j) (kd (j + 1), bs (j + 1), es (j + 1), bm (j + 1), em (j + 1))
    rw [hp, show J.length - 1 = c by omega, hq, a1, a2, a3, a4, a5, b1, b2, b3, b4, b5]
    show (decide (nI q.2.1 < nI 3) && goR ne p r) = goR ne p r
    rw [decide_eq_true h3, Bool.true_and]
theorem goes_no {i : Nat} {r : Rde} {J : List Jrn} (JR : JRep J mo rc lz gz) {c : Nat} (hc : J.length = c + 1) (h3 : ¬ rc c < nI 3) : goes ne l J i r = false := by
  cases i with
  | zero => rfl
  | succ j =>
    obtain ⟨q, hq⟩ : ∃ q, J[c]? = some q := ⟨_, List.getElem?_eq_getElem (by omega)⟩
    obtain ⟨-, c2, -, -⟩ := JR c q hq
    rw [c2] at h3
    show (match l[j]?, J[J.length - 1]? with
      | some p, some q => decide (nI q.2.1 < nI 3) && goR ne p r
      | _, _ => false) = false
    rw [show J.length - 1 = c by omega, hq]
    cases l[j]? with
    | none => rfl
    | some p =>
      show (decide (nI q.2.1 < nI 3) && goR ne p r) = false
      rw [decide_eq_false h3, Bool.false_and]
theorem goes_nil {i : Nat} {r : Rde} : goes ne l [] i r = false := by
  cases i with
  | zero => rfl
  | succ j =>
    show (match l[j]?, ([] : List Jrn)[0 - 1]? with
      | some p, some q => decide (nI q.2.1 < nI 3) && goR ne p r
      | _, _ => false) = false
    cases l[j]? <;> rfl
theorem s_jbuild (F : Fx h) (R : RdA h l.length bs es bm em kd) (RA : RepA l bs es bm em kd) (T : TrA h 32 zr fr cr wr mr ne) (hk : l.length ≤ 48) (H : ∀ mo rc lz gz co jr, JRep (jl ne (rat 8 zr) l l.length) mo rc lz gz → (∀ j q, (jl ne (rat 8 zr) l l.length)[j]? = some q → co j = jcost fr mr q) → (∀ i, i < l.length → jr i = nI ((jl ne (rat 8 zr) l (i + 1)).length - 1)) → Q none n (jyH h (nI (jl ne (rat 8 zr) l l.length).length) mo rc lz gz co jr)) : mz_wc (e + 4) 20 [.ref 155, .ref 140, .ref 32] n (jyH h z mo rc lz gz co jr) Q := by
  refine mz_wc.enter (code := co_X3_build) (idx := 20) rfl rfl (Nat.le_of_ble_eq_true rfl) rfl rfl ?_
  refine mz_WP.run 80 rfl ?_
  refine mz_WP.putf rfl (rfl) (Nat.le_of_ble_eq_true rfl) (Nat.le_of_ble_eq_true rfl) rfl ?_
  show mz_WP _ _ _ _ _ _ _ _ _ (mz_up _ 155 (.inr (3, [.ref 156, .ref 158, .ref 160, .ref 162, .ref 164, .ref 166, .int (nI 0)]))) _ _
  rw [jy_u0]
  refine mz_WP.run 2 rfl ?_
  have two : ∀ x4 : Option Value, ∀ mo rc lz gz co jr, JRep (jl ne (rat 8 zr) l l.length) mo rc lz gz → (∀ i, i < l.length → jr i = nI ((jl ne (rat 8 zr) l (i + 1)).length - 1)) → mz_WP (mz_wc (e + 3)) (e + 3) 0 co_X3_build Q 85 [some (.ref 155), some (.ref 140), some (.ref 32), some (.int (nI l.length)), x4] [] n (jyH h (nI (jl ne (rat 8 zr) l l.length).length) mo rc lz gz co jr) 0 0 := by
    intro x4 mo rc lz gz co jr JR hj
    have hJ := jl_len ne (rat 8 zr) l l.length
    refine mz_WP.run 2 rfl ?_
    have loop2 : ∀ q i, i + q = (jl ne (rat 8 zr) l l.length).length → ∀ co, (∀ j q, j < i → (jl ne (rat 8 zr) l l.length)[j]? = some q → co j = jcost fr mr q) → mz_WP (mz_wc (e + 3)) (e + 3) 0 co_X3_build Q 87 [some (.ref 155), some (.ref 140), some (.ref 32), some (.int (nI i)), x4] [] n (jyH h (nI (jl ne (rat 8 zr) l l.length).length) mo rc lz gz co jr) 0 0 := by
      intro q
      induction q with
      | zero =>
        intro i hi co hco
        refine mz_WP.run 80 rfl ?_
        refine mz_WP.getf rfl (rfl) rfl (Nat.le_of_ble_eq_true rfl) ?_
        refine mz_WP.icmp rfl (fun c => ?_) (fun c => ?_)
        · exact mz_WP.vret rfl rfl (H mo rc lz gz co jr JR (fun j q hq => hco j q (by have := (List.getElem?_eq_some_iff.mp hq).1; omega) hq) hj)
        · exact absurd (nI_le (by omega) (by omega)) c
      | succ q ih =>
        intro i hi co hco
        obtain ⟨p, hp⟩ : ∃ p, (jl ne (rat 8 zr) l l.length)[i]? = some p := ⟨_, List.getElem?_eq_getElem (by omega)⟩
        obtain ⟨a1, a2, a3, a4⟩ := JR i p hp
        refine mz_WP.run 80 rfl ?_
        refine mz_WP.getf rfl (rfl) rfl (Nat.le_of_ble_eq_true rfl) ?_
        refine mz_WP.icmp rfl (fun c => ?_) (fun c => ?_)
        · exact absurd c (nI_ge (by omega) (by omega))
        · refine mz_WP.run 80 rfl ?_
          refine mz_WP.getf rfl (rfl) rfl (Nat.le_of_ble_eq_true rfl) ?_
          refine mz_WP.run 80 rfl ?_
          refine mz_WP.cv rfl rfl (Nat.le_of_ble_eq_true rfl) rfl (rfl) rfl (s_jwidth F (by omega) ?_)
          refine mz_WP.run 80 rfl ?_
          refine mz_WP.getf rfl (rfl) rfl (Nat.le_of_ble_eq_true rfl) ?_
          refine mz_WP.run 80 rfl ?_
          refine mz_WP.cv rfl rfl (Nat.le_of_ble_eq_true rfl) rfl (jy_F F _ _ rfl) rfl (s_at (jy_F F _ _ rfl) rfl (by decide) ?_)
          rw [rat_in (by omega) (by decide)]
          refine mz_WP.cs rfl (by decide) rfl (Nat.le_of_ble_eq_true rfl) rfl (s_busy ?_)
          refine mz_WP.cv rfl rfl (Nat.le_of_ble_eq_true rfl) rfl (T.jy.1) rfl (s_jcost T.jy ?_)
          refine mz_WP.cv rfl rfl (Nat.le_of_ble_eq_true rfl) rfl (jy_F F _ _ rfl) rfl (s_put (jy_F F _ _ rfl) rfl (by decide) (by decide) ?_)
          rw [jy_u5, rput_in (by omega) (by decide)]
          refine mz_WP.run 80 rfl ?_
          have := ih (i + 1) (by omega) (upd co i (rat 6 fr (gz i - lz i + nI 1) + (if busyB (mo i) then mr else 0))) (fun j q hj hq => by
            by_cases hji : j = i
            · subst hji
              rw [hp] at hq
              cases hq
              rw [updS, a1, a3, a4]
              rfl
            · rw [updN hji]
              exact hco j q (by omega) hq)
          rw [nI_succ] at this
          exact this
    exact loop2 _ 0 (Nat.zero_add _) co (fun j q hj => by omega)
  have loop : ∀ q i, i + q = l.length → ∀ (x4 : Option Value) (mo rc lz gz co jr), JRep (jl ne (rat 8 zr) l i) mo rc lz gz → (∀ j, j < i → jr j = nI ((jl ne (rat 8 zr) l (j + 1)).length - 1)) → mz_WP (mz_wc (e + 3)) (e + 3) 0 co_X3_build Q 7 [some (.ref 155), some (.ref 140), some (.ref 32), some (.int (nI i)), x4] [] n (jyH h (nI (jl ne (rat 8 zr) l i).length) mo rc lz gz co jr) 0 0 := by
    intro q
    induction q with
    | zero =>
      intro i hi x4 mo rc lz gz co jr JR hj
      have hi : i = l.length := by omega
      subst hi
      refine mz_WP.run 80 rfl ?_
      refine mz_WP.cv rfl rfl (Nat.le_of_ble_eq_true rfl) rfl (R.jy.1) rfl (s_rsize R.jy ?_)
      refine mz_WP.icmp rfl (fun c => ?_) (fun c => ?_)
      · exact two x4 mo rc lz gz co jr JR hj
      · exact absurd (nI_le (Nat.le_refl _) (by omega)) c
    | succ q ih =>
      intro i hi x4 mo rc lz gz co jr JR hj
      have hJ := jl_len ne (rat 8 zr) l i
      obtain ⟨r, hr⟩ : ∃ r, l[i]? = some r := ⟨_, List.getElem?_eq_getElem (by omega)⟩
      obtain ⟨r1, r2, r3, r4, r5⟩ := RA i r hr
      have hjl : jl ne (rat 8 zr) l (i + 1) = if goes ne l (jl ne (rat 8 zr) l i) i r = true then jmod (jl ne (rat 8 zr) l i) (jtake (rat 8 zr) r) else jl ne (rat 8 zr) l i ++ [jtake (rat 8 zr) r (r.2.2.2.1, 0, 5, 1)] := by
        show (match l[i]? with
          | none => jl ne (rat 8 zr) l i
          | some r => if goes ne l (jl ne (rat 8 zr) l i) i r = true then jmod (jl ne (rat 8 zr) l i) (jtake (rat 8 zr) r) else jl ne (rat 8 zr) l i ++ [jtake (rat 8 zr) r (r.2.2.2.1, 0, 5, 1)]) = _
        rw [hr]
      -- from the taking of the ride on
      have k72 : ∀ (x4 : Option Value) (J : List Jrn) (mo rc lz gz : Nat → Int32) (c : Nat), J.length = c + 1 → c < 48 → JRep J mo rc lz gz → jmod J (jtake (rat 8 zr) r) = jl ne (rat 8 zr) l (i + 1) → mz_WP (mz_wc (e + 3)) (e + 3) 0 co_X3_build Q 72 [some (.ref 155), some (.ref 140), some (.ref 32), some (.int (nI i)), x4] [] n (jyH h (nI (c + 1)) mo rc lz gz co jr) 0 0 := by
        intro x4 J mo rc lz gz c hc hc48 JR hjm
        refine mz_WP.run 80 rfl ?_
        refine mz_WP.cv rfl rfl (Nat.le_of_ble_eq_true rfl) rfl (rfl) rfl (s_takeRide (r := r) F R T hc48 (by omega) r2 r3 ?_)
        refine mz_WP.run 80 rfl ?_
        have hlen : (jl ne (rat 8 zr) l (i + 1)).length = c + 1 := by rw [← hjm, jmod_len, hc]
        have := ih (i + 1) (by omega) x4 mo _ _ _ co (upd jr i (nI c)) (by rw [← hjm]; exact JR.mod hc) (fun j hj2 => by
          by_cases hji : j = i
          · subst hji
            rw [updS, hlen, Nat.add_sub_cancel]
          · rw [updN hji]
            exact hj j (by omega))
        rw [nI_succ i, hlen] at this
        exact this
      have k60 : mz_WP (mz_wc (e + 3)) (e + 3) 0 co_X3_build Q 60 [some (.ref 155), some (.ref 140), some (.ref 32), some (.int (nI i)), some (.int (bI (goes ne l (jl ne (rat 8 zr) l i) i r)))] [.int (bI (goes ne l (jl ne (rat 8 zr) l i) i r))] n (jyH h (nI (jl ne (rat 8 zr) l i).length) mo rc lz gz co jr) 0 0 := by
        refine mz_WP.ifc rfl (fun c => ?_) (fun c => ?_)
        · have c := bI_t c
          rw [if_pos c] at hjl
          have hne : jl ne (rat 8 zr) l i ≠ [] := fun hz => by rw [hz, goes_nil] at c; exact absurd c (by decide)
          have hpos := List.length_pos_iff.mpr hne
          have hcc : (jl ne (rat 8 zr) l i).length = (jl ne (rat 8 zr) l i).length - 1 + 1 := by omega
          rw [hcc]
          exact k72 _ _ mo rc lz gz _ hcc (by omega) JR hjl.symm
        · have c := bI_f (Classical.byContradiction c)
          rw [if_neg (by rw [c]; decide)] at hjl
          refine mz_WP.run 80 rfl ?_
          refine mz_WP.cv rfl rfl (Nat.le_of_ble_eq_true rfl) rfl (R.jy.1) rfl (s_rbm (jy_F F) R.jy ?_)
          rw [rat_in (by omega) (by decide), r4]
          refine mz_WP.cv rfl rfl (Nat.le_of_ble_eq_true rfl) rfl (rfl) rfl (s_jopen F (by omega) ?_)
          exact k72 _ (jl ne (rat 8 zr) l i ++ [(r.2.2.2.1, 0, 5, 1)]) _ _ _ _ _ (by rw [List.length_append, List.length_singleton]) (by omega) (JR.app rfl) (by rw [hjl, jmod_app])
      have k55 : goes ne l (jl ne (rat 8 zr) l i) i r = false → mz_WP (mz_wc (e + 3)) (e + 3) 0 co_X3_build Q 55 [some (.ref 155), some (.ref 140), some (.ref 32), some (.int (nI i)), x4] [] n (jyH h (nI (jl ne (rat 8 zr) l i).length) mo rc lz gz co jr) 0 0 := by
        intro hg
        rw [hg] at k60
        refine mz_WP.run 80 rfl ?_
        exact k60
      refine mz_WP.run 80 rfl ?_
      refine mz_WP.cv rfl rfl (Nat.le_of_ble_eq_true rfl) rfl (R.jy.1) rfl (s_rsize R.jy ?_)
      refine mz_WP.icmp rfl (fun c => ?_) (fun c => ?_)
      · exact absurd c (nI_ge (by omega) (by omega))
      · refine mz_WP.run 80 rfl ?_
        refine mz_WP.getf rfl (rfl) rfl (Nat.le_of_ble_eq_true rfl) ?_
        refine mz_WP.ifc rfl (fun c1 => ?_) (fun c1 => ?_)
        · refine k55 ?_
          have hz : (jl ne (rat 8 zr) l i).length = 0 := by
            rcases Nat.eq_zero_or_pos (jl ne (rat 8 zr) l i).length with q | q
            · exact q
            · exact absurd c1 (nI_nle q (by omega))
          rw [List.length_eq_zero_iff.mp hz]
          exact goes_nil
        · have hpos : 0 < (jl ne (rat 8 zr) l i).length := by
            rcases Nat.eq_zero_or_pos (jl ne (rat 8 zr) l i).length with q | q
            · rw [q] at c1
              exact absurd (show nI 0 ≤ 0 from Int32.le_refl _) c1
            · exact q
          have hcc : (jl ne (rat 8 zr) l i).length = (jl ne (rat 8 zr) l i).length - 1 + 1 := by omega
          refine mz_WP.run 80 rfl ?_
          refine mz_WP.getf rfl (rfl) rfl (Nat.le_of_ble_eq_true rfl) ?_
          refine mz_WP.run 80 rfl ?_
          refine mz_WP.getf rfl (rfl) rfl (Nat.le_of_ble_eq_true rfl) ?_
          refine mz_WP.run 80 rfl ?_
          refine mz_WP.cv rfl rfl (Nat.le_of_ble_eq_true rfl) rfl (jy_F F _ _ rfl) rfl (s_at (jy_F F _ _ rfl) rfl (by decide) ?_)
          rw [show nI (jl ne (rat 8 zr) l i).length - nI 1 = nI ((jl ne (rat 8 zr) l i).length - 1) from pk_sub (by omega), rat_in (by omega) (by decide)]
          refine mz_WP.run 80 rfl ?_
          refine mz_WP.icmp rfl (fun c2 => ?_) (fun c2 => ?_)
          · have c2 : nI 3 ≤ rc ((jl ne (rat 8 zr) l i).length - 1) := c2
            exact k55 (goes_no JR hcc (Int32.not_lt.mpr c2))
          · have c2 : ¬ nI 3 ≤ rc ((jl ne (rat 8 zr) l i).length - 1) := c2
            have hgo := goes_eq (ne := ne) RA hr JR hcc (Int32.not_le.mp c2)
            refine mz_WP.run 80 rfl ?_
            refine mz_WP.cv rfl rfl (Nat.le_of_ble_eq_true rfl) rfl (T.jy.1) rfl (s_near T.jy ?_)
            refine mz_WP.cv rfl rfl (Nat.le_of_ble_eq_true rfl) rfl (R.jy.1) rfl (s_goesOn (jy_F F) R.jy (by omega) ?_)
            rw [← hgo]
            refine mz_WP.ifc rfl (fun c3 => ?_) (fun c3 => ?_)
            · exact k55 (bI_f c3)
            · rw [bI_t c3] at k60
              refine mz_WP.run 80 rfl ?_
              refine mz_WP.run 80 rfl ?_
              exact k60
  exact loop l.length 0 (by omega) none mo rc lz gz co jr (fun j q hq => by simp [jl] at hq) (fun j hj => by omega)
end JB
end
section
/-! Days; the journeys, read only -/
def jwid (q : Jrn) : Int32 := q.2.2.2 - q.2.2.1 + nI 1
def dsm (fr : Nat → Int32) (mr : Int32) (J : List Jrn) (d : Nat) : Int32 := J.foldl (fun a q => if q.1 / nI 1440 = nI d then a + jcost fr mr q else a) 0
def dwd (J : List Jrn) (d : Nat) : Int32 := J.foldl (fun a q => if q.1 / nI 1440 = nI d then zmax a (jwid q) else a) 0
def dow (cr : Nat → Int32) (sm wd : Int32) : Int32 := if wd = 0 then 0 else if rat 6 cr wd < sm then rat 6 cr wd else sm
theorem dsm_app {fr : Nat → Int32} {mr : Int32} {J : List Jrn} {q : Jrn} {d : Nat} : dsm fr mr (J ++ [q]) d = if q.1 / nI 1440 = nI d then dsm fr mr J d + jcost fr mr q else dsm fr mr J d := by
  unfold dsm
  rw [List.foldl_append]
  rfl
theorem dwd_app {J : List Jrn} {q : Jrn} {d : Nat} : dwd (J ++ [q]) d = if q.1 / nI 1440 = nI d then zmax (dwd J d) (jwid q) else dwd J d := by
  unfold dwd
  rw [List.foldl_append]
  rfl
/-- the greatest of k places from d on, and w -/
def wmx (f : Nat → Int32) : Nat → Nat → Int32 → Int32
  | 0, _, w => w
  | k + 1, d, w => wmx f k (d + 1) (zmax w (f d))
section DY
variable {e n : Nat} {h : mz_H} {Q : mz_Q} {z : Int32} {mo rc lz gz co jr : Nat → Int32} {sm wd ow : Nat → Int32} {zr fr cr wr : Nat → Int32} {mr ne : Int32} {c : Nat}
def JyA (h : mz_H) (c : Nat) (mo rc lz gz co jr : Nat → Int32) : Prop := h 155 = .inr (3, [.ref 156, .ref 158, .ref 160, .ref 162, .ref 164, .ref 166, .int (nI c)]) ∧ h 157 = .inl (0, 48, mo) ∧ h 159 = .inl (0, 48, rc) ∧ h 161 = .inl (0, 48, lz) ∧ h 163 = .inl (0, 48, gz) ∧ h 165 = .inl (0, 48, co) ∧ h 167 = .inl (0, 48, jr)
theorem JyA.to {h' : mz_H} (R : JyA h c mo rc lz gz co jr) (hh : ∀ b, 155 ≤ b → b ≤ 167 → h' b = h b) : JyA h' c mo rc lz gz co jr := by
  obtain ⟨e0, e1, e2, e3, e4, e5, e6⟩ := R
  exact ⟨(hh _ (by omega) (by omega)).trans e0, (hh _ (by omega) (by omega)).trans e1, (hh _ (by omega) (by omega)).trans e2, (hh _ (by omega) (by omega)).trans e3, (hh _ (by omega) (by omega)).trans e4, (hh _ (by omega) (by omega)).trans e5, (hh _ (by omega) (by omega)).trans e6⟩
theorem JyA.eq (R : JyA h c mo rc lz gz co jr) : jyH h (nI c) mo rc lz gz co jr = h := jy_id R.1 R.2.1 R.2.2.1 R.2.2.2.1 R.2.2.2.2.1 R.2.2.2.2.2.1 R.2.2.2.2.2.2
theorem r_jsize (R : JyA h c mo rc lz gz co jr) (H : Q (some (.int (nI c))) n h) : mz_wc (e + 1) 24 [.ref 155] n h Q := by
  refine mz_wc.enter (code := co_X3_size) (idx := 24) rfl rfl (Nat.le_of_ble_eq_true rfl) rfl rfl ?_
  refine mz_WP.run 80 rfl ?_
  refine mz_WP.getf rfl (R.1) rfl (Nat.le_of_ble_eq_true rfl) ?_
  exact mz_WP.ret rfl rfl H
theorem r_jmom {i : Int32} (F : Fx h) (R : JyA h c mo rc lz gz co jr) (H : Q (some (.int (rat 48 mo i))) n h) : mz_wc (e + 2) 25 [.ref 155, .int i] n h Q := by
  refine mz_wc.enter (code := co_X3_moment) (idx := 25) rfl rfl (Nat.le_of_ble_eq_true rfl) rfl rfl ?_
  refine mz_WP.run 80 rfl ?_
  refine mz_WP.getf rfl (R.1) rfl (Nat.le_of_ble_eq_true rfl) ?_
  refine mz_WP.run 80 rfl ?_
  refine mz_WP.cv rfl rfl (Nat.le_of_ble_eq_true rfl) rfl (F _ _ rfl) rfl (s_at (F _ _ rfl) R.2.1 (by decide) ?_)
  exact mz_WP.ret rfl rfl H
theorem r_jrides {i : Int32} (F : Fx h) (R : JyA h c mo rc lz gz co jr) (H : Q (some (.int (rat 48 rc i))) n h) : mz_wc (e + 2) 26 [.ref 155, .int i] n h Q := by
  refine mz_wc.enter (code := co_X3_ridesIn) (idx := 26) rfl rfl (Nat.le_of_ble_eq_true rfl) rfl rfl ?_
  refine mz_WP.run 80 rfl ?_
  refine mz_WP.getf rfl (R.1) rfl (Nat.le_of_ble_eq_true rfl) ?_
  refine mz_WP.run 80 rfl ?_
  refine mz_WP.cv rfl rfl (Nat.le_of_ble_eq_true rfl) rfl (F _ _ rfl) rfl (s_at (F _ _ rfl) R.2.2.1 (by decide) ?_)
  exact mz_WP.ret rfl rfl H
theorem r_jcostA {i : Int32} (F : Fx h) (R : JyA h c mo rc lz gz co jr) (H : Q (some (.int (rat 48 co i))) n h) : mz_wc (e + 2) 28 [.ref 155, .int i] n h Q := by
  refine mz_wc.enter (code := co_X3_cost) (idx := 28) rfl rfl (Nat.le_of_ble_eq_true rfl) rfl rfl ?_
  refine mz_WP.run 80 rfl ?_
  refine mz_WP.getf rfl (R.1) rfl (Nat.le_of_ble_eq_true rfl) ?_
  refine mz_WP.run 80 rfl ?_
  refine mz_WP.cv rfl rfl (Nat.le_of_ble_eq_true rfl) rfl (F _ _ rfl) rfl (s_at (F _ _ rfl) R.2.2.2.2.2.1 (by decide) ?_)
  exact mz_WP.ret rfl rfl H
theorem r_jofr {i : Int32} (F : Fx h) (R : JyA h c mo rc lz gz co jr) (H : Q (some (.int (rat 48 jr i))) n h) : mz_wc (e + 2) 29 [.ref 155, .int i] n h Q := by
  refine mz_wc.enter (code := co_X3_journeyOfRide) (idx := 29) rfl rfl (Nat.le_of_ble_eq_true rfl) rfl rfl ?_
  refine mz_WP.run 80 rfl ?_
  refine mz_WP.getf rfl (R.1) rfl (Nat.le_of_ble_eq_true rfl) ?_
  refine mz_WP.run 80 rfl ?_
  refine mz_WP.cv rfl rfl (Nat.le_of_ble_eq_true rfl) rfl (F _ _ rfl) rfl (s_at (F _ _ rfl) R.2.2.2.2.2.2 (by decide) ?_)
  exact mz_WP.ret rfl rfl H
theorem r_jwidth {j : Nat} (F : Fx h) (R : JyA h c mo rc lz gz co jr) (hj : j < 48) (H : Q (some (.int (gz j - lz j + nI 1))) n h) : mz_wc (e + 2) 27 [.ref 155, .int (nI j)] n h Q := by
  rw [← R.eq]
  exact s_jwidth F hj (by rw [R.eq]; exact H)
theorem JyA.dy (R : JyA h c mo rc lz gz co jr) : JyA (dyH h sm wd ow) c mo rc lz gz co jr := R.to (fun b _ h2 => dy_lt (by omega))
theorem TrA.dy (T : TrA h 32 zr fr cr wr mr ne) : TrA (dyH h sm wd ow) 32 zr fr cr wr mr ne := T.to (fun b _ h2 => dy_lt (by omega))
theorem s_dbuild {J : List Jrn} (F : Fx h) (R : JyA h J.length mo rc lz gz co jr) (JR : JRep J mo rc lz gz) (hco : ∀ j q, J[j]? = some q → co j = jcost fr mr q) (hd : ∀ (j : Nat) (q : Jrn), J[j]? = some q → ∃ d, d < 28 ∧ q.1 / nI 1440 = nI d) (T : TrA h 32 zr fr cr wr mr ne) (hk : J.length ≤ 48) (H : ∀ sm wd ow, (∀ d, d < 28 → sm d = dsm fr mr J d ∧ wd d = dwd J d ∧ ow d = dow cr (dsm fr mr J d) (dwd J d)) → Q none n (dyH h sm wd ow)) : mz_wc (e + 4) 12 [.ref 168, .ref 155, .ref 32] n (dyH h sm wd ow) Q := by
  have F' : ∀ {sm wd ow : Nat → Int32}, Fx (dyH h sm wd ow) := dy_F F
  refine mz_wc.enter (code := co_X2_build) (idx := 12) rfl rfl (Nat.le_of_ble_eq_true rfl) rfl rfl ?_
  refine mz_WP.run 80 rfl ?_
  refine mz_WP.getf rfl (F' _ _ rfl) rfl (Nat.le_of_ble_eq_true rfl) ?_
  refine mz_WP.run 80 rfl ?_
  refine mz_WP.cv rfl rfl (Nat.le_of_ble_eq_true rfl) rfl (F' _ _ rfl) rfl (s_fill (F' _ _ rfl) rfl (by decide) (by decide) ?_)
  rw [dy_u1]
  refine mz_WP.run 80 rfl ?_
  refine mz_WP.getf rfl (F' _ _ rfl) rfl (Nat.le_of_ble_eq_true rfl) ?_
  refine mz_WP.run 80 rfl ?_
  refine mz_WP.cv rfl rfl (Nat.le_of_ble_eq_true rfl) rfl (F' _ _ rfl) rfl (s_fill (F' _ _ rfl) rfl (by decide) (by decide) ?_)
  rw [dy_u2]
  refine mz_WP.run 2 rfl ?_
  have two : ∀ (x4 : Option Value) (i0 : Int32) (sm wd ow : Nat → Int32), (∀ d, d < 28 → sm d = dsm fr mr J d ∧ wd d = dwd J d) → mz_WP (mz_wc (e + 3)) (e + 3) 0 co_X2_build Q 82 [some (.ref 168), some (.ref 155), some (.ref 32), some (.int i0), x4] [] n (dyH h sm wd ow) 0 0 := by
    intro x4 i0 sm wd ow hs
    refine mz_WP.run 2 rfl ?_
    have loop2 : ∀ q i, i + q = 28 → ∀ ow, (∀ d, d < i → ow d = dow cr (dsm fr mr J d) (dwd J d)) → mz_WP (mz_wc (e + 3)) (e + 3) 0 co_X2_build Q 84 [some (.ref 168), some (.ref 155), some (.ref 32), some (.int (nI i)), x4] [] n (dyH h sm wd ow) 0 0 := by
      intro q
      induction q with
      | zero =>
        intro i hi ow hw
        have hi : i = 28 := by omega
        subst hi
        refine mz_WP.run 80 rfl ?_
        refine mz_WP.icmp rfl (fun c => ?_) (fun c => ?_)
        · exact mz_WP.vret rfl rfl (H sm wd ow (fun d hd => ⟨(hs d hd).1, (hs d hd).2, hw d hd⟩))
        · exact absurd (nI_le (Nat.le_refl _) (by decide)) c
      | succ q ih =>
        intro i hi ow hw
        refine mz_WP.run 80 rfl ?_
        refine mz_WP.icmp rfl (fun c => ?_) (fun c => ?_)
        · exact absurd c (nI_ge (by omega) (by decide))
        · refine mz_WP.run 80 rfl ?_
          refine mz_WP.getf rfl (F' _ _ rfl) rfl (Nat.le_of_ble_eq_true rfl) ?_
          refine mz_WP.run 80 rfl ?_
          refine mz_WP.getf rfl (F' _ _ rfl) rfl (Nat.le_of_ble_eq_true rfl) ?_
          refine mz_WP.run 80 rfl ?_
          refine mz_WP.cv rfl rfl (Nat.le_of_ble_eq_true rfl) rfl (F' _ _ rfl) rfl (s_at (F' _ _ rfl) rfl (by decide) ?_)
          rw [rat_in (by omega) (by decide)]
          refine mz_WP.run 80 rfl ?_
          refine mz_WP.getf rfl (F' _ _ rfl) rfl (Nat.le_of_ble_eq_true rfl) ?_
          refine mz_WP.run 80 rfl ?_
          refine mz_WP.cv rfl rfl (Nat.le_of_ble_eq_true rfl) rfl (F' _ _ rfl) rfl (s_at (F' _ _ rfl) rfl (by decide) ?_)
          rw [rat_in (by omega) (by decide)]
          refine mz_WP.cv rfl rfl (Nat.le_of_ble_eq_true rfl) rfl (T.dy.1) rfl (s_capped T.dy ?_)
          refine mz_WP.cv rfl rfl (Nat.le_of_ble_eq_true rfl) rfl (F' _ _ rfl) rfl (s_put (F' _ _ rfl) rfl (by decide) (by decide) ?_)
          rw [dy_u3, rput_in (by omega) (by decide)]
          refine mz_WP.run 80 rfl ?_
          have := ih (i + 1) (by omega) (upd ow i (dow cr (sm i) (wd i))) (fun d hd => by
            by_cases hdi : d = i
            · subst hdi
              rw [updS, (hs d (by omega)).1, (hs d (by omega)).2]
            · rw [updN hdi]
              exact hw d (by omega))
          rw [nI_succ] at this
          exact this
    exact loop2 28 0 rfl ow (fun d hd => by omega)
  have loop : ∀ q i, i + q = J.length → ∀ (x4 : Option Value) (sm wd : Nat → Int32), (∀ d, d < 28 → sm d = dsm fr mr (J.take i) d ∧ wd d = dwd (J.take i) d) → mz_WP (mz_wc (e + 3)) (e + 3) 0 co_X2_build Q 18 [some (.ref 168), some (.ref 155), some (.ref 32), some (.int (nI i)), x4] [] n (dyH h sm wd ow) 0 0 := by
    intro q
    induction q with
    | zero =>
      intro i hi x4 sm wd hs
      have hi : i = J.length := by omega
      subst hi
      rw [List.take_length] at hs
      refine mz_WP.run 80 rfl ?_
      refine mz_WP.cv rfl rfl (Nat.le_of_ble_eq_true rfl) rfl (R.dy.1) rfl (r_jsize R.dy ?_)
      refine mz_WP.icmp rfl (fun c => ?_) (fun c => ?_)
      · exact two x4 _ sm wd ow hs
      · exact absurd (nI_le (Nat.le_refl _) (by omega)) c
    | succ q ih =>
      intro i hi x4 sm wd hs
      obtain ⟨p, hp⟩ : ∃ p, J[i]? = some p := ⟨_, List.getElem?_eq_getElem (by omega)⟩
      obtain ⟨a1, a2, a3, a4⟩ := JR i p hp
      obtain ⟨d, hd28, hd⟩ := hd i p hp
      have htk : J.take (i + 1) = J.take i ++ [p] := by
        rw [List.take_add_one, hp]
        rfl
      refine mz_WP.run 80 rfl ?_
      refine mz_WP.cv rfl rfl (Nat.le_of_ble_eq_true rfl) rfl (R.dy.1) rfl (r_jsize R.dy ?_)
      refine mz_WP.icmp rfl (fun c => ?_) (fun c => ?_)
      · exact absurd c (nI_ge (by omega) (by omega))
      · refine mz_WP.run 80 rfl ?_
        refine mz_WP.cv rfl rfl (Nat.le_of_ble_eq_true rfl) rfl (R.dy.1) rfl (r_jmom F' R.dy ?_)
        rw [rat_in (by omega) (by decide), a1]
        refine mz_WP.cs rfl (by decide) rfl (Nat.le_of_ble_eq_true rfl) rfl (s_dayOf ?_)
        rw [hd]
        refine mz_WP.run 80 rfl ?_
        refine mz_WP.getf rfl (F' _ _ rfl) rfl (Nat.le_of_ble_eq_true rfl) ?_
        refine mz_WP.run 80 rfl ?_
        refine mz_WP.cv rfl rfl (Nat.le_of_ble_eq_true rfl) rfl (R.dy.1) rfl (r_jcostA F' R.dy ?_)
        rw [rat_in (by omega) (by decide), hco i p hp]
        refine mz_WP.cv rfl rfl (Nat.le_of_ble_eq_true rfl) rfl (F' _ _ rfl) rfl (s_add (F' _ _ rfl) rfl (by decide) (by decide) ?_)
        rw [dy_u1, rput_in hd28 (by decide), rat_in hd28 (by decide)]
        refine mz_WP.run 80 rfl ?_
        refine mz_WP.getf rfl (F' _ _ rfl) rfl (Nat.le_of_ble_eq_true rfl) ?_
        refine mz_WP.run 80 rfl ?_
        refine mz_WP.getf rfl (F' _ _ rfl) rfl (Nat.le_of_ble_eq_true rfl) ?_
        refine mz_WP.run 80 rfl ?_
        refine mz_WP.cv rfl rfl (Nat.le_of_ble_eq_true rfl) rfl (F' _ _ rfl) rfl (s_at (F' _ _ rfl) rfl (by decide) ?_)
        rw [rat_in hd28 (by decide)]
        refine mz_WP.run 80 rfl ?_
        refine mz_WP.cv rfl rfl (Nat.le_of_ble_eq_true rfl) rfl (R.dy.1) rfl (r_jwidth F' R.dy (by omega) ?_)
        rw [a3, a4]
        refine mz_WP.mx rfl rfl (by omega) (Nat.le_of_ble_eq_true rfl) ?_
        refine mz_WP.cv rfl rfl (Nat.le_of_ble_eq_true rfl) rfl (F' _ _ rfl) rfl (s_put (F' _ _ rfl) rfl (by decide) (by decide) ?_)
        rw [dy_u2, rput_in hd28 (by decide)]
        refine mz_WP.run 80 rfl ?_
        have := ih (i + 1) (by omega) (some (.int (nI d))) (upd sm d (sm d + jcost fr mr p)) (upd wd d (zmax (wd d) (jwid p))) (fun d2 hd2 => by
          rw [htk, dsm_app, dwd_app, hd]
          by_cases hdd : d2 = d
          · subst hdd
            rw [updS, updS, if_pos rfl, if_pos rfl, (hs d2 hd2).1, (hs d2 hd2).2]
            exact ⟨rfl, rfl⟩
          · have hne : ¬ nI d = nI d2 := fun z => hdd ((nI_eq (by omega) (by omega)).mp z).symm
            rw [updN hdd, updN hdd, if_neg hne, if_neg hne]
            exact hs d2 hd2)
        rw [nI_succ] at this
        exact this
  exact loop J.length 0 (by omega) none _ _ (fun d hd => ⟨if_pos hd, if_pos hd⟩)
/-- the days, read only -/
def DyA (h : mz_H) (sm wd ow : Nat → Int32) : Prop := h 170 = .inl (0, 28, sm) ∧ h 172 = .inl (0, 28, wd) ∧ h 174 = .inl (0, 28, ow)
theorem DyA.to {h' : mz_H} (R : DyA h sm wd ow) (hh : ∀ b, 168 ≤ b → b ≤ 174 → h' b = h b) : DyA h' sm wd ow := ⟨(hh _ (by omega) (by omega)).trans R.1, (hh _ (by omega) (by omega)).trans R.2.1, (hh _ (by omega) (by omega)).trans R.2.2⟩
theorem r_dsum {i : Int32} (F : Fx h) (R : DyA h sm wd ow) (H : Q (some (.int (rat 28 sm i))) n h) : mz_wc (e + 2) 13 [.ref 168, .int i] n h Q := by
  refine mz_wc.enter (code := co_X2_sum) (idx := 13) rfl rfl (Nat.le_of_ble_eq_true rfl) rfl rfl ?_
  refine mz_WP.run 80 rfl ?_
  refine mz_WP.getf rfl (F _ _ rfl) rfl (Nat.le_of_ble_eq_true rfl) ?_
  refine mz_WP.run 80 rfl ?_
  refine mz_WP.cv rfl rfl (Nat.le_of_ble_eq_true rfl) rfl (F _ _ rfl) rfl (s_at (F _ _ rfl) R.1 (by decide) ?_)
  exact mz_WP.ret rfl rfl H
theorem r_dwidth {i : Int32} (F : Fx h) (R : DyA h sm wd ow) (H : Q (some (.int (rat 28 wd i))) n h) : mz_wc (e + 2) 14 [.ref 168, .int i] n h Q := by
  refine mz_wc.enter (code := co_X2_width) (idx := 14) rfl rfl (Nat.le_of_ble_eq_true rfl) rfl rfl ?_
  refine mz_WP.run 80 rfl ?_
  refine mz_WP.getf rfl (F _ _ rfl) rfl (Nat.le_of_ble_eq_true rfl) ?_
  refine mz_WP.run 80 rfl ?_
  refine mz_WP.cv rfl rfl (Nat.le_of_ble_eq_true rfl) rfl (F _ _ rfl) rfl (s_at (F _ _ rfl) R.2.1 (by decide) ?_)
  exact mz_WP.ret rfl rfl H
theorem r_dowed {i : Int32} (F : Fx h) (R : DyA h sm wd ow) (H : Q (some (.int (rat 28 ow i))) n h) : mz_wc (e + 2) 15 [.ref 168, .int i] n h Q := by
  refine mz_wc.enter (code := co_X2_owed) (idx := 15) rfl rfl (Nat.le_of_ble_eq_true rfl) rfl rfl ?_
  refine mz_WP.run 80 rfl ?_
  refine mz_WP.getf rfl (F _ _ rfl) rfl (Nat.le_of_ble_eq_true rfl) ?_
  refine mz_WP.run 80 rfl ?_
  refine mz_WP.cv rfl rfl (Nat.le_of_ble_eq_true rfl) rfl (F _ _ rfl) rfl (s_at (F _ _ rfl) R.2.2 (by decide) ?_)
  exact mz_WP.ret rfl rfl H
theorem r_dallS (F : Fx h) (R : DyA h sm wd ow) (H : Q (some (.int (rsum sm 28))) n h) : mz_wc (e + 2) 16 [.ref 168] n h Q := by
  refine mz_wc.enter (code := co_X2_allSums) (idx := 16) rfl rfl (Nat.le_of_ble_eq_true rfl) rfl rfl ?_
  refine mz_WP.run 80 rfl ?_
  refine mz_WP.getf rfl (F _ _ rfl) rfl (Nat.le_of_ble_eq_true rfl) ?_
  refine mz_WP.cv rfl rfl (Nat.le_of_ble_eq_true rfl) rfl (F _ _ rfl) rfl (s_sum (F _ _ rfl) R.1 (by decide) ?_)
  exact mz_WP.ret rfl rfl H
theorem r_dallO (F : Fx h) (R : DyA h sm wd ow) (H : Q (some (.int (rsum ow 28))) n h) : mz_wc (e + 2) 17 [.ref 168] n h Q := by
  refine mz_wc.enter (code := co_X2_allOwed) (idx := 17) rfl rfl (Nat.le_of_ble_eq_true rfl) rfl rfl ?_
  refine mz_WP.run 80 rfl ?_
  refine mz_WP.getf rfl (F _ _ rfl) rfl (Nat.le_of_ble_eq_true rfl) ?_
  refine mz_WP.cv rfl rfl (Nat.le_of_ble_eq_true rfl) rfl (F _ _ rfl) rfl (s_sum (F _ _ rfl) R.2.2 (by decide) ?_)
  exact mz_WP.ret rfl rfl H
theorem r_dweek {d : Nat} (F : Fx h) (R : DyA h sm wd ow) (hd : d + 7 ≤ 28) (H : Q (some (.int (wmx wd 7 d 0))) n h) : mz_wc (e + 2) 18 [.ref 168, .int (nI d)] n h Q := by
  refine mz_wc.enter (code := co_X2_widthOfWeek) (idx := 18) rfl rfl (Nat.le_of_ble_eq_true rfl) rfl rfl ?_
  refine mz_WP.run 4 rfl ?_
  have loop : ∀ q i x, i + q = d + 7 → Q (some (.int (wmx wd q i x))) n h → mz_WP (mz_wc (e + 1)) (e + 1) 1 co_X2_widthOfWeek Q 4 [some (.ref 168), some (.int (nI d)), some (.int x), some (.int (nI i))] [] n h 0 0 := by
    intro q
    induction q with
    | zero =>
      intro i x hi H
      refine mz_WP.run 80 rfl ?_
      rw [nI_add]
      refine mz_WP.icmp rfl (fun c => ?_) (fun c => ?_)
      · refine mz_WP.run 80 rfl ?_
        exact mz_WP.ret rfl rfl H
      · exact absurd (nI_le (by omega) (by omega)) c
    | succ q ih =>
      intro i x hi H
      refine mz_WP.run 80 rfl ?_
      rw [nI_add]
      refine mz_WP.icmp rfl (fun c => ?_) (fun c => ?_)
      · exact absurd c (nI_ge (by omega) (by omega))
      · refine mz_WP.run 80 rfl ?_
        refine mz_WP.getf rfl (F _ _ rfl) rfl (Nat.le_of_ble_eq_true rfl) ?_
        refine mz_WP.run 80 rfl ?_
        refine mz_WP.cv rfl rfl (Nat.le_of_ble_eq_true rfl) rfl (F _ _ rfl) rfl (s_at (F _ _ rfl) R.2.1 (by decide) ?_)
        rw [rat_in (by omega) (by decide)]
        refine mz_WP.mx rfl rfl (by omega) (Nat.le_of_ble_eq_true rfl) ?_
        refine mz_WP.run 80 rfl ?_
        have := ih (i + 1) (zmax x (wd i)) (by omega) H
        rw [nI_succ] at this
        exact this
  exact loop 7 d 0 rfl H
end DY
end
section
/-! Plan -/
abbrev Dpv : Type := Int32 × Int32 × Bool
def dstep (ow wk : Int32) (w : Bool) (a b : Dpv) : Dpv := if w = true ∧ (wk + b.1 < ow + a.1 ∨ (wk + b.1 = ow + a.1 ∧ nI 1 + b.2.1 ≤ a.2.1)) then (wk + b.1, nI 1 + b.2.1, true) else (ow + a.1, a.2.1, false)
/-- from the last day backwards: the values of the days 28 - r to 28 -/
def dpl (ow wk : Nat → Int32) : Nat → List Dpv
  | 0 => [(0, 0, false)]
  | r + 1 => dstep (ow (27 - r)) (wk (27 - r)) (decide (6 ≤ r)) ((dpl ow wk r).getD 0 (0, 0, false)) ((dpl ow wk r).getD 6 (0, 0, false)) :: dpl ow wk r
theorem dpl_len (ow wk : Nat → Int32) : ∀ r, (dpl ow wk r).length = r + 1
  | 0 => rfl
  | r + 1 => congrArg Nat.succ (dpl_len ow wk r)
def PRep (l : List Dpv) (d : Nat) (cf wf wb : Nat → Int32) : Prop := ∀ j v, l[j]? = some v → cf (d + j) = v.1 ∧ wf (d + j) = v.2.1 ∧ (d + j < 28 → wb (d + j) = bI v.2.2)
def wkc (wr wd : Nat → Int32) (d : Nat) : Int32 := if wmx wd 7 d 0 = 0 then 0 else rat 6 wr (wmx wd 7 d 0)
section PL
variable {e n : Nat} {h : mz_H} {Q : mz_Q} {cf wf wb sr iw : Nat → Int32} {sm wd ow : Nat → Int32} {zr fr cr wr : Nat → Int32} {mr ne : Int32}
theorem DyA.pl (R : DyA h sm wd ow) : DyA (plH h cf wf wb sr iw) sm wd ow := R.to (fun b _ h2 => pl_lt (by omega))
theorem TrA.pl (T : TrA h 32 zr fr cr wr mr ne) : TrA (plH h cf wf wb sr iw) 32 zr fr cr wr mr ne := T.to (fun b _ h2 => pl_lt (by omega))
theorem s_weigh {d : Nat} {x : Int32} (F : Fx h) (hd : d + 7 ≤ 28) (H1 : (x + cf (d + 7) < cf d ∨ (x + cf (d + 7) = cf d ∧ nI 1 + wf (d + 7) ≤ wf d)) → Q none n (plH h (upd cf d (x + cf (d + 7))) (upd wf d (nI 1 + wf (d + 7))) (upd wb d (nI 1)) sr iw)) (H0 : ¬ (x + cf (d + 7) < cf d ∨ (x + cf (d + 7) = cf d ∧ nI 1 + wf (d + 7) ≤ wf d)) → Q none n (plH h cf wf wb sr iw)) : mz_wc (e + 2) 32 [.ref 175, .int (nI d), .int x] n (plH h cf wf wb sr iw) Q := by
  have F' : ∀ {cf wf wb sr iw : Nat → Int32}, Fx (plH h cf wf wb sr iw) := pl_F F
  refine mz_wc.enter (code := co_X4_weighWeek) (idx := 32) rfl rfl (Nat.le_of_ble_eq_true rfl) rfl rfl ?_
  refine mz_WP.run 80 rfl ?_
  refine mz_WP.getf rfl (F' _ _ rfl) rfl (Nat.le_of_ble_eq_true rfl) ?_
  refine mz_WP.run 80 rfl ?_
  rw [nI_add]
  refine mz_WP.cv rfl rfl (Nat.le_of_ble_eq_true rfl) rfl (F' _ _ rfl) rfl (s_at (F' _ _ rfl) rfl (by decide) ?_)
  rw [rat_in (by omega) (by decide)]
  refine mz_WP.run 80 rfl ?_
  refine mz_WP.getf rfl (F' _ _ rfl) rfl (Nat.le_of_ble_eq_true rfl) ?_
  refine mz_WP.run 80 rfl ?_
  rw [nI_add]
  refine mz_WP.cv rfl rfl (Nat.le_of_ble_eq_true rfl) rfl (F' _ _ rfl) rfl (s_at (F' _ _ rfl) rfl (by decide) ?_)
  rw [rat_in (by omega) (by decide)]
  refine mz_WP.run 80 rfl ?_
  refine mz_WP.getf rfl (F' _ _ rfl) rfl (Nat.le_of_ble_eq_true rfl) ?_
  refine mz_WP.run 80 rfl ?_
  refine mz_WP.cv rfl rfl (Nat.le_of_ble_eq_true rfl) rfl (F' _ _ rfl) rfl (s_at (F' _ _ rfl) rfl (by decide) ?_)
  rw [rat_in (by omega) (by decide)]
  have k90 : ∀ x5 x6 : Option Value, (x + cf (d + 7) < cf d ∨ (x + cf (d + 7) = cf d ∧ nI 1 + wf (d + 7) ≤ wf d)) → mz_WP (mz_wc (e + 1)) (e + 1) 0 co_X4_weighWeek Q 90 [some (.ref 175), some (.int (nI d)), some (.int x), some (.int (x + cf (d + 7))), some (.int (nI 1 + wf (d + 7))), x5, x6] [] n (plH h cf wf wb sr iw) 0 0 := by
    intro x5 x6 hc
    refine mz_WP.run 80 rfl ?_
    refine mz_WP.getf rfl (F' _ _ rfl) rfl (Nat.le_of_ble_eq_true rfl) ?_
    refine mz_WP.run 80 rfl ?_
    refine mz_WP.cv rfl rfl (Nat.le_of_ble_eq_true rfl) rfl (F' _ _ rfl) rfl (s_put (F' _ _ rfl) rfl (by decide) (by decide) ?_)
    rw [pl_u1, rput_in (by omega) (by decide)]
    refine mz_WP.run 80 rfl ?_
    refine mz_WP.getf rfl (F' _ _ rfl) rfl (Nat.le_of_ble_eq_true rfl) ?_
    refine mz_WP.run 80 rfl ?_
    refine mz_WP.cv rfl rfl (Nat.le_of_ble_eq_true rfl) rfl (F' _ _ rfl) rfl (s_put (F' _ _ rfl) rfl (by decide) (by decide) ?_)
    rw [pl_u2, rput_in (by omega) (by decide)]
    refine mz_WP.run 80 rfl ?_
    refine mz_WP.getf rfl (F' _ _ rfl) rfl (Nat.le_of_ble_eq_true rfl) ?_
    refine mz_WP.run 80 rfl ?_
    refine mz_WP.cv rfl rfl (Nat.le_of_ble_eq_true rfl) rfl (F' _ _ rfl) rfl (s_put (F' _ _ rfl) rfl (by decide) (by decide) ?_)
    rw [pl_u3, rput_in (by omega) (by decide)]
    exact mz_WP.vret rfl rfl (H1 hc)
  have k48 : ∀ b5 : Bool, (b5 = true ↔ x + cf (d + 7) < cf d) → mz_WP (mz_wc (e + 1)) (e + 1) 0 co_X4_weighWeek Q 48 [some (.ref 175), some (.int (nI d)), some (.int x), some (.int (x + cf (d + 7))), some (.int (nI 1 + wf (d + 7))), some (.int (bI b5)), none] [] n (plH h cf wf wb sr iw) 0 0 := by
    intro b5 h5
    have k80 : ∀ b6 : Bool, (b6 = true ↔ (x + cf (d + 7) = cf d ∧ nI 1 + wf (d + 7) ≤ wf d)) → mz_WP (mz_wc (e + 1)) (e + 1) 0 co_X4_weighWeek Q 80 [some (.ref 175), some (.int (nI d)), some (.int x), some (.int (x + cf (d + 7))), some (.int (nI 1 + wf (d + 7))), some (.int (bI b5)), some (.int (bI b6))] [] n (plH h cf wf wb sr iw) 0 0 := by
      intro b6 h6
      refine mz_WP.run 80 rfl ?_
      refine mz_WP.ifc rfl (fun c => ?_) (fun c => ?_)
      · exact k90 _ _ (Or.inl (h5.mp (bI_t c)))
      · have c := bI_f (Classical.byContradiction c)
        refine mz_WP.run 80 rfl ?_
        refine mz_WP.ifc rfl (fun c2 => ?_) (fun c2 => ?_)
        · refine mz_WP.vret rfl rfl (H0 (fun q => ?_))
          rcases q with q | q
          · have := h5.mpr q
            rw [c] at this
            exact absurd this (by decide)
          · have := h6.mpr q
            rw [bI_f c2] at this
            exact absurd this (by decide)
        · exact k90 _ _ (Or.inr (h6.mp (bI_t c2)))
    have k77 : ¬ (x + cf (d + 7) = cf d ∧ nI 1 + wf (d + 7) ≤ wf d) → mz_WP (mz_wc (e + 1)) (e + 1) 0 co_X4_weighWeek Q 77 [some (.ref 175), some (.int (nI d)), some (.int x), some (.int (x + cf (d + 7))), some (.int (nI 1 + wf (d + 7))), some (.int (bI b5)), none] [] n (plH h cf wf wb sr iw) 0 0 := by
      intro hn
      refine mz_WP.run 2 rfl ?_
      exact k80 false ⟨fun z => absurd z (by decide), fun z => absurd z hn⟩
    refine mz_WP.run 80 rfl ?_
    refine mz_WP.getf rfl (F' _ _ rfl) rfl (Nat.le_of_ble_eq_true rfl) ?_
    refine mz_WP.run 80 rfl ?_
    refine mz_WP.cv rfl rfl (Nat.le_of_ble_eq_true rfl) rfl (F' _ _ rfl) rfl (s_at (F' _ _ rfl) rfl (by decide) ?_)
    rw [rat_in (by omega) (by decide)]
    refine mz_WP.icmp rfl (fun c => ?_) (fun c => ?_)
    · exact k77 (fun q => c q.1)
    · have c : x + cf (d + 7) = cf d := Classical.byContradiction c
      refine mz_WP.run 80 rfl ?_
      refine mz_WP.getf rfl (F' _ _ rfl) rfl (Nat.le_of_ble_eq_true rfl) ?_
      refine mz_WP.run 80 rfl ?_
      refine mz_WP.cv rfl rfl (Nat.le_of_ble_eq_true rfl) rfl (F' _ _ rfl) rfl (s_at (F' _ _ rfl) rfl (by decide) ?_)
      rw [rat_in (by omega) (by decide)]
      refine mz_WP.icmp rfl (fun c2 => ?_) (fun c2 => ?_)
      · have c2 : wf d < nI 1 + wf (d + 7) := c2
        exact k77 (fun q => Int32.not_le.mpr c2 q.2)
      · have c2 : nI 1 + wf (d + 7) ≤ wf d := Int32.not_lt.mp c2
        refine mz_WP.run 80 rfl ?_
        refine mz_WP.run 1 rfl ?_
        exact k80 true ⟨fun _ => ⟨c, c2⟩, fun _ => rfl⟩
  refine mz_WP.icmp rfl (fun c => ?_) (fun c => ?_)
  · have c : cf d ≤ x + cf (d + 7) := c
    refine mz_WP.run 2 rfl ?_
    exact k48 false ⟨fun z => absurd z (by decide), fun z => absurd c (Int32.not_le.mpr z)⟩
  · have c : x + cf (d + 7) < cf d := Int32.not_le.mp c
    refine mz_WP.run 80 rfl ?_
    refine mz_WP.run 1 rfl ?_
    exact k48 true ⟨fun _ => c, fun _ => rfl⟩
theorem PRep.get {l : List Dpv} {d j : Nat} (P : PRep l d cf wf wb) (hj : j < l.length) : cf (d + j) = (l.getD j (0, 0, false)).1 ∧ wf (d + j) = (l.getD j (0, 0, false)).2.1 := by
  have := P j _ (List.getElem?_eq_getElem hj)
  have hg : l.getD j (0, 0, false) = l[j] := by rw [List.getD_eq_getElem?_getD, List.getElem?_eq_getElem hj]; rfl
  rw [hg]
  exact ⟨this.1, this.2.1⟩
end PL
end
section
/-! Plan: the weeks of the best plan -/
def wks (bg : Nat → Bool) : Nat → Nat → List Nat
  | 0, _ => []
  | k + 1, d => if d < 28 then (if bg d = true then d :: wks bg k (d + 7) else wks bg k (d + 1)) else []
theorem wks_fuel (bg : Nat → Bool) : ∀ k k' d, 28 ≤ d + k → 28 ≤ d + k' → wks bg k d = wks bg k' d
  | 0, 0, _, _, _ => rfl
  | 0, k' + 1, d, h, _ => by
    show [] = if d < 28 then _ else []
    rw [if_neg (by omega)]
  | k + 1, 0, d, _, h => by
    show (if d < 28 then _ else []) = []
    rw [if_neg (by omega)]
  | k + 1, k' + 1, d, h, h' => by
    show (if d < 28 then (if bg d = true then d :: wks bg k (d + 7) else wks bg k (d + 1)) else []) = (if d < 28 then (if bg d = true then d :: wks bg k' (d + 7) else wks bg k' (d + 1)) else [])
    rw [wks_fuel bg k k' (d + 7) (by omega) (by omega), wks_fuel bg k k' (d + 1) (by omega) (by omega)]
def wkd (bg : Nat → Bool) (d : Nat) : List Nat := wks bg (28 - d) d
theorem wkd_e {bg : Nat → Bool} {d : Nat} (h : 28 ≤ d) : wkd bg d = [] := by
  unfold wkd
  rw [show 28 - d = 0 by omega]
  rfl
theorem wkd_b {bg : Nat → Bool} {d : Nat} (h : d < 28) (hb : bg d = true) : wkd bg d = d :: wkd bg (d + 7) := by
  unfold wkd
  rw [show 28 - d = (27 - d) + 1 by omega]
  show (if d < 28 then (if bg d = true then d :: wks bg (27 - d) (d + 7) else _) else []) = _
  rw [if_pos h, if_pos hb, wks_fuel bg (27 - d) (28 - (d + 7)) (d + 7) (by omega) (by omega)]
theorem wkd_n {bg : Nat → Bool} {d : Nat} (h : d < 28) (hb : bg d = false) : wkd bg d = wkd bg (d + 1) := by
  unfold wkd
  rw [show 28 - d = (27 - d) + 1 by omega]
  show (if d < 28 then (if bg d = true then _ else wks bg (27 - d) (d + 1)) else []) = _
  rw [if_pos h, if_neg (by rw [hb]; decide), wks_fuel bg (27 - d) (28 - (d + 1)) (d + 1) (by omega) (by omega)]
theorem wkd_ge {bg : Nat → Bool} : ∀ (k d : Nat), d + k = 28 → ∀ s ∈ wkd bg d, d ≤ s ∧ s < 28 := by
  intro k
  induction k using Nat.strongRecOn with
  | _ k ih =>
    intro d hk s hs
    cases k with
    | zero =>
      rw [wkd_e (by omega)] at hs
      cases hs
    | succ k =>
      cases hb : bg d with
      | true =>
        rw [wkd_b (by omega) hb] at hs
        rcases List.mem_cons.mp hs with z | z
        · omega
        · by_cases h7 : d + 7 ≤ 28
          · have := ih (28 - (d + 7)) (by omega) (d + 7) (by omega) s z
            omega
          · rw [wkd_e (by omega)] at z
            cases z
      | false =>
        rw [wkd_n (by omega) hb] at hs
        have := ih k (by omega) (d + 1) (by omega) s hs
        omega
theorem wkd_len {bg : Nat → Bool} (h21 : ∀ d, bg d = true → d ≤ 21) : ∀ (k d : Nat), d + k = 28 → (wkd bg d).length * 7 ≤ k := by
  intro k
  induction k using Nat.strongRecOn with
  | _ k ih =>
    intro d hk
    cases k with
    | zero =>
      rw [wkd_e (by omega)]
      exact Nat.le_refl 0
    | succ k =>
      cases hb : bg d with
      | true =>
        rw [wkd_b (by omega) hb, List.length_cons]
        have := h21 d hb
        have := ih (28 - (d + 7)) (by omega) (d + 7) (by omega)
        omega
      | false =>
        rw [wkd_n (by omega) hb]
        have := ih k (by omega) (d + 1) (by omega)
        omega
def inS (S : List Nat) (j : Nat) : Bool := S.any (fun s => decide (s ≤ j) && decide (j < s + 7))
theorem inS_iff {S : List Nat} {j : Nat} : inS S j = true ↔ ∃ s, s ∈ S ∧ s ≤ j ∧ j < s + 7 := by
  unfold inS
  rw [List.any_eq_true]
  constructor
  · intro ⟨s, h1, h2⟩
    simp only [Bool.and_eq_true, decide_eq_true_eq] at h2
    exact ⟨s, h1, h2.1, h2.2⟩
  · intro ⟨s, h1, h2, h3⟩
    exact ⟨s, h1, by simp only [Bool.and_eq_true, decide_eq_true_eq]; exact ⟨h2, h3⟩⟩
/-- the values of a day -/
def dpv (ow wk : Nat → Int32) (d : Nat) : Dpv := (dpl ow wk (28 - d)).getD 0 (0, 0, false)
theorem dpl_at (ow wk : Nat → Int32) : ∀ (s r : Nat), (dpl ow wk (r + s)).getD s (0, 0, false) = (dpl ow wk r).getD 0 (0, 0, false)
  | 0, r => rfl
  | s + 1, r => by
    have := dpl_at ow wk s r
    rw [← this]
    rfl
theorem dpv_28 {ow wk : Nat → Int32} : dpv ow wk 28 = (0, 0, false) := rfl
theorem dpv_s {ow wk : Nat → Int32} {d : Nat} (hd : d < 28) : dpv ow wk d = dstep (ow d) (wk d) (decide (d ≤ 21)) (dpv ow wk (d + 1)) (dpv ow wk (d + 7)) := by
  unfold dpv
  have e1 : dpl ow wk (28 - d) = dstep (ow (27 - (27 - d))) (wk (27 - (27 - d))) (decide (6 ≤ 27 - d)) ((dpl ow wk (27 - d)).getD 0 (0, 0, false)) ((dpl ow wk (27 - d)).getD 6 (0, 0, false)) :: dpl ow wk (27 - d) := by
    rw [show 28 - d = 27 - d + 1 by omega]
    rfl
  rw [e1]
  show dstep _ _ _ _ _ = _
  rw [show 27 - (27 - d) = d by omega, show 28 - (d + 1) = 27 - d by omega]
  by_cases h21 : d ≤ 21
  · rw [show 27 - d = (28 - (d + 7)) + 6 by omega, dpl_at, show (28 - (d + 7)) + 6 = 27 - d by omega, decide_eq_true (show 6 ≤ 27 - d by omega), decide_eq_true h21]
  · rw [decide_eq_false (show ¬ 6 ≤ 27 - d by omega), decide_eq_false h21]
    unfold dstep
    rw [if_neg (fun z => absurd z.1 (by decide)), if_neg (fun z => absurd z.1 (by decide))]
def bgn (ow wk : Nat → Int32) (d : Nat) : Bool := if d < 28 then (dpv ow wk d).2.2 else false
theorem bgn_21 {ow wk : Nat → Int32} {d : Nat} (h : bgn ow wk d = true) : d ≤ 21 := by
  unfold bgn at h
  split at h
  · rename_i hd
    rw [dpv_s hd] at h
    unfold dstep at h
    split at h
    · rename_i hz
      exact of_decide_eq_true hz.1
    · exact absurd (show false = true from h) (by decide)
  · exact absurd h (by decide)
theorem dpv_weeks {ow wk : Nat → Int32} : ∀ (k d : Nat), d + k = 28 → (dpv ow wk d).2.1 = nI (wkd (bgn ow wk) d).length := by
  intro k
  induction k using Nat.strongRecOn with
  | _ k ih =>
    intro d hk
    cases k with
    | zero =>
      have : d = 28 := by omega
      subst this
      rw [wkd_e (by omega)]
      rfl
    | succ k =>
      have hd : d < 28 := by omega
      have hbd : bgn ow wk d = (dpv ow wk d).2.2 := if_pos hd
      cases hb : bgn ow wk d with
      | true =>
        have h21 := bgn_21 hb
        rw [wkd_b hd hb, List.length_cons, Nat.add_comm, ← nI_add, ← ih (28 - (d + 7)) (by omega) (d + 7) (by omega)]
        rw [hbd, dpv_s hd] at hb
        rw [dpv_s hd]
        unfold dstep at hb ⊢
        split
        · rfl
        · rename_i hz
          rw [if_neg hz] at hb
          exact absurd (show false = true from hb) (by decide)
      | false =>
        rw [wkd_n hd hb, ← ih k (by omega) (d + 1) (by omega)]
        rw [hbd, dpv_s hd] at hb
        rw [dpv_s hd]
        unfold dstep at hb ⊢
        split
        · rename_i hz
          rw [if_pos hz] at hb
          exact absurd (show true = false from hb) (by decide)
        · rfl
theorem wkd_4 {ow wk : Nat → Int32} : (wkd (bgn ow wk) 0).length ≤ 4 := by
  have := wkd_len (bg := bgn ow wk) (fun d h => bgn_21 h) 28 0 rfl
  omega
end
section
/-! Plan.markWeeks, Plan.build, Bill.reckon -/
section PB
variable {e n : Nat} {h : mz_H} {Q : mz_Q} {cf wf wb sr iw : Nat → Int32} {sm wd ow : Nat → Int32} {zr fr cr wr : Nat → Int32} {mr ne : Int32}
theorem s_mark {bg : Nat → Bool} (F : Fx h) (hwb : ∀ d, d < 28 → wb d = bI (bg d)) (h4 : (wkd bg 0).length ≤ 4) (H : ∀ sr iw : Nat → Int32, (∀ j s, (wkd bg 0)[j]? = some s → sr j = nI s) → (∀ d, d < 28 → iw d = bI (inS (wkd bg 0) d)) → Q none n (plH h cf wf wb sr iw)) : mz_wc (e + 2) 33 [.ref 175] n (plH h cf wf wb sr iw) Q := by
  have F' : ∀ {cf wf wb sr iw : Nat → Int32}, Fx (plH h cf wf wb sr iw) := pl_F F
  refine mz_wc.enter (code := co_X4_markWeeks) (idx := 33) rfl rfl (Nat.le_of_ble_eq_true rfl) rfl rfl ?_
  refine mz_WP.run 6 rfl ?_
  have loop : ∀ q d, d + q = 28 → ∀ (S : List Nat) (bh : Nat) (sr iw : Nat → Int32), bh ≤ 34 → wkd bg 0 = S ++ wkd bg (max d bh) → (∀ s ∈ S, s < d ∧ s + 7 ≤ bh) → (bh = 0 ∨ ∃ s, s ∈ S ∧ bh = s + 7) → (∀ j s, S[j]? = some s → sr j = nI s) → (∀ j, j < d → iw j = bI (inS S j)) → mz_WP (mz_wc (e + 1)) (e + 1) 0 co_X4_markWeeks Q 6 [some (.ref 175), some (.int (nI S.length)), some (.int (nI bh)), some (.int (nI d))] [] n (plH h cf wf wb sr iw) 0 0 := by
    intro q
    induction q with
    | zero =>
      intro d hd S bh sr iw hbh hS h1 h2 h3 h5
      have hd : d = 28 := by omega
      subst hd
      refine mz_WP.run 80 rfl ?_
      refine mz_WP.icmp rfl (fun c => ?_) (fun c => ?_)
      · have hS : wkd bg 0 = S := by rw [hS, wkd_e (by omega), List.append_nil]
        refine mz_WP.vret rfl rfl (H sr iw ?_ ?_)
        · rw [hS]; exact h3
        · rw [hS]; exact h5
      · exact absurd (nI_le (Nat.le_refl _) (by decide)) c
    | succ q ih =>
      intro d hd S bh sr iw hbh hS h1 h2 h3 h5
      -- from the mark of the day on
      have k46 : ∀ (S : List Nat) (bh : Nat) (sr : Nat → Int32), bh ≤ 34 → wkd bg 0 = S ++ wkd bg (max (d + 1) bh) → (∀ s ∈ S, s ≤ d ∧ s + 7 ≤ bh) → (bh = 0 ∨ ∃ s, s ∈ S ∧ bh = s + 7) → (∀ j s, S[j]? = some s → sr j = nI s) → (∀ j, j < d → iw j = bI (inS S j)) → mz_WP (mz_wc (e + 1)) (e + 1) 0 co_X4_markWeeks Q 46 [some (.ref 175), some (.int (nI S.length)), some (.int (nI bh)), some (.int (nI d))] [] n (plH h cf wf wb sr iw) 0 0 := by
        intro S bh sr hbh hS h1 h2 h3 h5
        have k61 : ∀ b : Bool, (b = true ↔ d < bh) → mz_WP (mz_wc (e + 1)) (e + 1) 0 co_X4_markWeeks Q 61 [some (.ref 175), some (.int (nI S.length)), some (.int (nI bh)), some (.int (nI d))] [.int (bI b), .int (nI d), .ref 184] n (plH h cf wf wb sr iw) 0 0 := by
          intro b hb
          have hin : inS S d = b := by
            cases b with
            | true =>
              rcases h2 with z | ⟨s, z1, z2⟩
              · have := hb.mp rfl
                omega
              · have := hb.mp rfl
                exact inS_iff.mpr ⟨s, z1, (h1 s z1).1, by omega⟩
            | false =>
              refine Bool.eq_false_iff.mpr (fun z => ?_)
              obtain ⟨s, z1, z2, z3⟩ := inS_iff.mp z
              have := (h1 s z1).2
              exact absurd (hb.mpr (by omega)) (by decide)
          refine mz_WP.cv rfl rfl (Nat.le_of_ble_eq_true rfl) rfl (F' _ _ rfl) rfl (s_put (F' _ _ rfl) rfl (by decide) (by decide) ?_)
          rw [pl_u5, rput_in (by omega) (by decide)]
          refine mz_WP.run 80 rfl ?_
          have := ih (d + 1) (by omega) S bh sr (upd iw d (bI b)) hbh hS (fun s hs => ⟨by have := (h1 s hs).1; omega, (h1 s hs).2⟩) h2 h3 (fun j hj => by
            by_cases hjd : j = d
            · subst hjd
              rw [updS, hin]
            · rw [updN hjd]
              exact h5 j (by omega))
          rw [nI_succ d] at this
          exact this
        refine mz_WP.run 80 rfl ?_
        refine mz_WP.getf rfl (F' _ _ rfl) rfl (Nat.le_of_ble_eq_true rfl) ?_
        refine mz_WP.run 80 rfl ?_
        refine mz_WP.icmp rfl (fun c => ?_) (fun c => ?_)
        · refine mz_WP.run 80 rfl ?_
          refine k61 false ⟨fun z => absurd z (by decide), fun z => absurd c (nI_ge z (by omega))⟩
        · refine mz_WP.run 80 rfl ?_
          refine k61 true ⟨fun _ => ?_, fun _ => rfl⟩
          rcases Nat.lt_or_ge d bh with z | z
          · exact z
          · exact absurd (nI_le z (by omega)) c
      have skip : max d bh = d → bg d = false → mz_WP (mz_wc (e + 1)) (e + 1) 0 co_X4_markWeeks Q 46 [some (.ref 175), some (.int (nI S.length)), some (.int (nI bh)), some (.int (nI d))] [] n (plH h cf wf wb sr iw) 0 0 := by
        intro hm hb
        refine k46 S bh sr hbh ?_ (fun s hs => ⟨by have := (h1 s hs).1; omega, (h1 s hs).2⟩) h2 h3 h5
        rw [hS, hm, wkd_n (by omega) hb, show max (d + 1) bh = d + 1 by omega]
      refine mz_WP.run 80 rfl ?_
      refine mz_WP.icmp rfl (fun c => ?_) (fun c => ?_)
      · exact absurd c (nI_ge (by omega) (by decide))
      · refine mz_WP.run 80 rfl ?_
        refine mz_WP.icmp rfl (fun c1 => ?_) (fun c1 => ?_)
        · have hlt : d < bh := (nI_ltI (by omega) (by omega)).mp c1
          refine k46 S bh sr hbh ?_ (fun s hs => ⟨by have := (h1 s hs).1; omega, (h1 s hs).2⟩) h2 h3 h5
          rw [hS, show max d bh = bh by omega, show max (d + 1) bh = bh by omega]
        · have hge : bh ≤ d := by
            rcases Nat.lt_or_ge d bh with z | z
            · exact absurd (nI_lt z (by omega)) c1
            · exact z
          have hm : max d bh = d := by omega
          refine mz_WP.run 80 rfl ?_
          refine mz_WP.getf rfl (F' _ _ rfl) rfl (Nat.le_of_ble_eq_true rfl) ?_
          refine mz_WP.run 80 rfl ?_
          refine mz_WP.cv rfl rfl (Nat.le_of_ble_eq_true rfl) rfl (F' _ _ rfl) rfl (s_at (F' _ _ rfl) rfl (by decide) ?_)
          rw [rat_in (by omega) (by decide), hwb d (by omega)]
          refine mz_WP.run 80 rfl ?_
          refine mz_WP.icmp rfl (fun c2 => ?_) (fun c2 => ?_)
          · have hb : bg d = false := by
              cases hb : bg d with
              | false => rfl
              | true => rw [hb] at c2; exact absurd rfl c2
            exact skip hm hb
          · have hb : bg d = true := by
              cases hb : bg d with
              | true => rfl
              | false => rw [hb] at c2; exact absurd (show ¬ (0 : Int32) = 1 by decide) c2
            have hS2 : wkd bg 0 = (S ++ [d]) ++ wkd bg (d + 7) := by rw [hS, hm, wkd_b (by omega) hb, List.append_assoc]; rfl
            have hl4 : S.length < 4 := by
              rw [hS2, List.length_append, List.length_append, List.length_singleton] at h4
              omega
            refine mz_WP.run 80 rfl ?_
            refine mz_WP.getf rfl (F' _ _ rfl) rfl (Nat.le_of_ble_eq_true rfl) ?_
            refine mz_WP.run 80 rfl ?_
            refine mz_WP.cv rfl rfl (Nat.le_of_ble_eq_true rfl) rfl (F' _ _ rfl) rfl (s_put (F' _ _ rfl) rfl (by decide) (by decide) ?_)
            rw [pl_u4, rput_in hl4 (by decide)]
            refine mz_WP.run 5 rfl ?_
            rw [nI_add, nI_add]
            have := k46 (S ++ [d]) (d + 7) (upd sr S.length (nI d)) (by omega) (by rw [hS2, show max (d + 1) (d + 7) = d + 7 by omega]) (fun s hs => by
              rcases List.mem_append.mp hs with z | z
              · have := h1 s z
                omega
              · have := List.mem_singleton.mp z
                omega) (Or.inr ⟨d, List.mem_append_right _ (List.mem_singleton.mpr rfl), rfl⟩) (fun j s hs => by
              by_cases hj : j < S.length
              · rw [List.getElem?_append_left hj] at hs
                rw [updN (by omega)]
                exact h3 j s hs
              · rw [List.getElem?_append_right (by omega)] at hs
                have hz : j - S.length < 1 := (List.getElem?_eq_some_iff.mp hs).1
                have hjc : j = S.length := by omega
                rw [show j - S.length = 0 by omega] at hs
                cases hs
                subst hjc
                rw [updS]) (fun j hj => by
              rw [h5 j hj]
              congr 1
              refine Bool.eq_iff_iff.mpr ⟨fun z => ?_, fun z => ?_⟩
              · obtain ⟨s, z1, z2⟩ := inS_iff.mp z
                exact inS_iff.mpr ⟨s, List.mem_append_left _ z1, z2⟩
              · obtain ⟨s, z1, z2, z3⟩ := inS_iff.mp z
                rcases List.mem_append.mp z1 with z4 | z4
                · exact inS_iff.mpr ⟨s, z4, z2, z3⟩
                · have := List.mem_singleton.mp z4
                  omega)
            rw [List.length_append, List.length_singleton] at this
            exact this
  exact loop 28 0 rfl [] 0 sr iw (by omega) (by rw [List.nil_append, Nat.max_self]) (fun s hs => by cases hs) (Or.inl rfl) (fun j s hs => by simp at hs) (fun j hj => by omega)
theorem dstep_t {o k : Int32} {a b : Dpv} (hc : k + b.1 < o + a.1 ∨ (k + b.1 = o + a.1 ∧ nI 1 + b.2.1 ≤ a.2.1)) : dstep o k true a b = (k + b.1, nI 1 + b.2.1, true) := if_pos ⟨rfl, hc⟩
theorem dstep_f {o k : Int32} {w : Bool} {a b : Dpv} (hc : ¬ (w = true ∧ (k + b.1 < o + a.1 ∨ (k + b.1 = o + a.1 ∧ nI 1 + b.2.1 ≤ a.2.1)))) : dstep o k w a b = (o + a.1, a.2.1, false) := if_neg hc
theorem PRep.cons {l : List Dpv} {d : Nat} {v : Dpv} (P : PRep l (d + 1) cf wf wb) (hd : d < 28) : PRep (v :: l) d (upd cf d v.1) (upd wf d v.2.1) (upd wb d (bI v.2.2)) := by
  intro j x hx
  cases j with
  | zero =>
    cases hx
    rw [Nat.add_zero, updS, updS, updS]
    exact ⟨rfl, rfl, fun _ => rfl⟩
  | succ j =>
    rw [List.getElem?_cons_succ] at hx
    have := P j x hx
    rw [show d + (j + 1) = d + 1 + j by omega, updN (by omega), updN (by omega), updN (by omega)]
    exact this
theorem s_pbuild (F : Fx h) (R : DyA h sm wd ow) (T : TrA h 32 zr fr cr wr mr ne) (H : ∀ cf wf wb sr iw : Nat → Int32, cf 0 = (dpv ow (wkc wr wd) 0).1 → wf 0 = (dpv ow (wkc wr wd) 0).2.1 → (∀ j s, (wkd (bgn ow (wkc wr wd)) 0)[j]? = some s → sr j = nI s) → (∀ d, d < 28 → iw d = bI (inS (wkd (bgn ow (wkc wr wd)) 0) d)) → Q none n (plH h cf wf wb sr iw)) : mz_wc (e + 3) 31 [.ref 175, .ref 168, .ref 32] n (plH h cf wf wb sr iw) Q := by
  have F' : ∀ {cf wf wb sr iw : Nat → Int32}, Fx (plH h cf wf wb sr iw) := pl_F F
  refine mz_wc.enter (code := co_X4_build) (idx := 31) rfl rfl (Nat.le_of_ble_eq_true rfl) rfl rfl ?_
  refine mz_WP.run 80 rfl ?_
  refine mz_WP.getf rfl (F' _ _ rfl) rfl (Nat.le_of_ble_eq_true rfl) ?_
  refine mz_WP.run 80 rfl ?_
  refine mz_WP.cv rfl rfl (Nat.le_of_ble_eq_true rfl) rfl (F' _ _ rfl) rfl (s_put (F' _ _ rfl) rfl (by decide) (by decide) ?_)
  rw [pl_u1, rput_in (by decide) (by decide)]
  refine mz_WP.run 80 rfl ?_
  refine mz_WP.getf rfl (F' _ _ rfl) rfl (Nat.le_of_ble_eq_true rfl) ?_
  refine mz_WP.run 80 rfl ?_
  refine mz_WP.cv rfl rfl (Nat.le_of_ble_eq_true rfl) rfl (F' _ _ rfl) rfl (s_put (F' _ _ rfl) rfl (by decide) (by decide) ?_)
  rw [pl_u2, rput_in (by decide) (by decide)]
  refine mz_WP.run 2 rfl ?_
  have fin : ∀ (x3 : Int32) (cf wf wb : Nat → Int32), PRep (dpl ow (wkc wr wd) 28) 0 cf wf wb → mz_WP (mz_wc (e + 2)) (e + 2) 0 co_X4_build Q 107 [some (.ref 175), some (.ref 168), some (.ref 32), some (.int x3)] [] n (plH h cf wf wb sr iw) 0 0 := by
    intro x3 cf wf wb P
    have at' : ∀ d, d ≤ 28 → (dpl ow (wkc wr wd) 28)[d]? = some (dpv ow (wkc wr wd) d) := by
      intro d hd
      have hlt : d < (dpl ow (wkc wr wd) 28).length := by rw [dpl_len]; omega
      rw [List.getElem?_eq_getElem hlt]
      have e1 := dpl_at ow (wkc wr wd) d (28 - d)
      rw [show 28 - d + d = 28 by omega, List.getD_eq_getElem?_getD, List.getElem?_eq_getElem hlt] at e1
      exact congrArg some e1
    refine mz_WP.run 80 rfl ?_
    refine mz_WP.cv rfl rfl (Nat.le_of_ble_eq_true rfl) rfl (F' _ _ rfl) rfl (s_mark (bg := bgn ow (wkc wr wd)) F (fun d hd => ?_) wkd_4 (fun sr iw hs hw => ?_))
    · have := (P d _ (at' d (by omega))).2.2 (by omega)
      rw [Nat.zero_add] at this
      rw [this]
      unfold bgn
      rw [if_pos hd]
    · have z := P 0 _ (at' 0 (by omega))
      exact mz_WP.vret rfl rfl (H cf wf wb sr iw z.1 z.2.1 hs hw)
  have loop : ∀ q r, r + q = 28 → ∀ cf wf wb : Nat → Int32, PRep (dpl ow (wkc wr wd) r) (28 - r) cf wf wb → mz_WP (mz_wc (e + 2)) (e + 2) 0 co_X4_build Q 23 [some (.ref 175), some (.ref 168), some (.ref 32), some (.int (nI q - nI 1))] [] n (plH h cf wf wb sr iw) 0 0 := by
    intro q
    induction q with
    | zero =>
      intro r hr cf wf wb P
      have hr : r = 28 := by omega
      subst hr
      refine mz_WP.run 80 rfl ?_
      refine mz_WP.ifc rfl (fun c => ?_) (fun c => ?_)
      · exact fin _ cf wf wb P
      · exact absurd (show nI 0 - nI 1 < 0 by decide) c
    | succ q ih =>
      intro r hr cf wf wb P
      obtain ⟨P0c, P0w⟩ := P.get (j := 0) (by rw [dpl_len]; omega)
      rw [Nat.add_zero, show 28 - r = q + 1 by omega] at P0c P0w
      rw [show nI (q + 1) - nI 1 = nI q from nI_pred q]
      have P' : PRep (dpl ow (wkc wr wd) r) (q + 1) cf wf wb := by rw [show q + 1 = 28 - r by omega]; exact P
      have hnew : dpl ow (wkc wr wd) (r + 1) = dstep (ow q) (wkc wr wd q) (decide (6 ≤ r)) ((dpl ow (wkc wr wd) r).getD 0 (0, 0, false)) ((dpl ow (wkc wr wd) r).getD 6 (0, 0, false)) :: dpl ow (wkc wr wd) r := by
        show dstep (ow (27 - r)) (wkc wr wd (27 - r)) _ _ _ :: _ = _
        rw [show 27 - r = q by omega]
      have next : ∀ cf wf wb : Nat → Int32, PRep (dpl ow (wkc wr wd) (r + 1)) q cf wf wb → mz_WP (mz_wc (e + 2)) (e + 2) 0 co_X4_build Q 101 [some (.ref 175), some (.ref 168), some (.ref 32), some (.int (nI q))] [] n (plH h cf wf wb sr iw) 0 0 := by
        intro cf wf wb P
        refine mz_WP.run 80 rfl ?_
        have := ih (r + 1) (by omega) cf wf wb (by rw [show 28 - (r + 1) = q by omega]; exact P)
        rw [show nI q + nI 4294967295 = nI q - nI 1 from by rw [Int32.sub_eq_add_neg]; rfl]
        exact this
      refine mz_WP.run 80 rfl ?_
      refine mz_WP.ifc rfl (fun c => ?_) (fun c => ?_)
      · exact absurd c (nI_pos (by omega))
      · refine mz_WP.run 80 rfl ?_
        refine mz_WP.getf rfl (F' _ _ rfl) rfl (Nat.le_of_ble_eq_true rfl) ?_
        refine mz_WP.run 80 rfl ?_
        refine mz_WP.cv rfl rfl (Nat.le_of_ble_eq_true rfl) rfl (F' _ _ rfl) rfl (r_dowed F' R.pl ?_)
        rw [rat_in (by omega) (by decide)]
        refine mz_WP.run 80 rfl ?_
        refine mz_WP.getf rfl (F' _ _ rfl) rfl (Nat.le_of_ble_eq_true rfl) ?_
        refine mz_WP.run 80 rfl ?_
        rw [nI_add]
        refine mz_WP.cv rfl rfl (Nat.le_of_ble_eq_true rfl) rfl (F' _ _ rfl) rfl (s_at (F' _ _ rfl) rfl (by decide) ?_)
        rw [rat_in (by omega) (by decide)]
        refine mz_WP.run 80 rfl ?_
        refine mz_WP.cv rfl rfl (Nat.le_of_ble_eq_true rfl) rfl (F' _ _ rfl) rfl (s_put (F' _ _ rfl) rfl (by decide) (by decide) ?_)
        rw [pl_u1, rput_in (by omega) (by decide)]
        refine mz_WP.run 80 rfl ?_
        refine mz_WP.getf rfl (F' _ _ rfl) rfl (Nat.le_of_ble_eq_true rfl) ?_
        refine mz_WP.run 80 rfl ?_
        refine mz_WP.getf rfl (F' _ _ rfl) rfl (Nat.le_of_ble_eq_true rfl) ?_
        refine mz_WP.run 80 rfl ?_
        rw [nI_add]
        refine mz_WP.cv rfl rfl (Nat.le_of_ble_eq_true rfl) rfl (F' _ _ rfl) rfl (s_at (F' _ _ rfl) rfl (by decide) ?_)
        rw [rat_in (by omega) (by decide)]
        refine mz_WP.cv rfl rfl (Nat.le_of_ble_eq_true rfl) rfl (F' _ _ rfl) rfl (s_put (F' _ _ rfl) rfl (by decide) (by decide) ?_)
        rw [pl_u2, rput_in (by omega) (by decide)]
        refine mz_WP.run 80 rfl ?_
        refine mz_WP.getf rfl (F' _ _ rfl) rfl (Nat.le_of_ble_eq_true rfl) ?_
        refine mz_WP.run 80 rfl ?_
        refine mz_WP.cv rfl rfl (Nat.le_of_ble_eq_true rfl) rfl (F' _ _ rfl) rfl (s_put (F' _ _ rfl) rfl (by decide) (by decide) ?_)
        rw [pl_u3, rput_in (by omega) (by decide)]
        refine mz_WP.run 80 rfl ?_
        rw [nI_add]
        refine mz_WP.icmp rfl (fun c1 => ?_) (fun c1 => ?_)
        · have hq : 28 < q + 7 := (nI_ltI (by omega) (by omega)).mp c1
          refine next _ _ _ ?_
          rw [hnew, dstep_f (fun z => absurd (of_decide_eq_true z.1) (by omega)), P0c, P0w]
          exact P'.cons (v := (ow q + ((dpl ow (wkc wr wd) r).getD 0 (0, 0, false)).1, ((dpl ow (wkc wr wd) r).getD 0 (0, 0, false)).2.1, false)) (by omega)
        · have hq : q + 7 ≤ 28 := by
            rcases Nat.lt_or_ge 28 (q + 7) with z | z
            · exact absurd (nI_lt z (by omega)) c1
            · exact z
          obtain ⟨P6c, P6w⟩ := P'.get (j := 6) (by rw [dpl_len]; omega)
          rw [show q + 1 + 6 = q + 7 by omega] at P6c P6w
          refine mz_WP.run 80 rfl ?_
          refine mz_WP.cv rfl rfl (Nat.le_of_ble_eq_true rfl) rfl (F' _ _ rfl) rfl (r_dweek F' R.pl hq ?_)
          refine mz_WP.cv rfl rfl (Nat.le_of_ble_eq_true rfl) rfl (T.pl.1) rfl (s_weekCost T.pl ?_)
          refine mz_WP.cv rfl rfl (Nat.le_of_ble_eq_true rfl) rfl (F' _ _ rfl) rfl (s_weigh (x := wkc wr wd q) F hq (fun hc => ?_) (fun hc => ?_))
          · rw [updS, updS, updN (by omega), updN (by omega)] at hc
            refine next _ _ _ ?_
            rw [P6c, P6w, P0c, P0w] at hc
            rw [hnew, decide_eq_true (show 6 ≤ r by omega), dstep_t hc, updU, updU, updU, updN (show q + 7 ≠ q by omega), updN (show q + 7 ≠ q by omega), P6c, P6w]
            exact P'.cons (v := (wkc wr wd q + ((dpl ow (wkc wr wd) r).getD 6 (0, 0, false)).1, nI 1 + ((dpl ow (wkc wr wd) r).getD 6 (0, 0, false)).2.1, true)) (by omega)
          · rw [updS, updS, updN (by omega), updN (by omega)] at hc
            refine next _ _ _ ?_
            rw [P6c, P6w, P0c, P0w] at hc
            rw [hnew, dstep_f (fun z => hc z.2), P0c, P0w]
            exact P'.cons (v := (ow q + ((dpl ow (wkc wr wd) r).getD 0 (0, 0, false)).1, ((dpl ow (wkc wr wd) r).getD 0 (0, 0, false)).2.1, false)) (by omega)
  have := loop 28 0 rfl (upd cf 28 (nI 0)) (upd wf 28 (nI 0)) wb (by
    intro j v hv
    cases j with
    | zero =>
      cases hv
      show upd cf 28 (nI 0) 28 = _ ∧ upd wf 28 (nI 0) 28 = _ ∧ _
      rw [updS, updS]
      exact ⟨rfl, rfl, fun z => absurd z (by decide)⟩
    | succ j => simp [dpl] at hv)
  exact this
end PB
end
section
/-! Bill.reckon: all that follows from the taps -/
def RdS (h : mz_H) : Prop := ∃ (z : Int32) (bs es bm em kd le lb : Nat → Int32), h 140 = .inr (5, [.ref 141, .ref 143, .ref 145, .ref 147, .ref 149, .ref 151, .ref 153, .int z]) ∧ h 142 = .inl (0, 48, bs) ∧ h 144 = .inl (0, 48, es) ∧ h 146 = .inl (0, 48, bm) ∧ h 148 = .inl (0, 48, em) ∧ h 150 = .inl (0, 48, kd) ∧ h 152 = .inl (0, 8, le) ∧ h 154 = .inl (0, 8, lb)
def JyS (h : mz_H) : Prop := ∃ (z : Int32) (mo rc lz gz co jr : Nat → Int32), h 155 = .inr (3, [.ref 156, .ref 158, .ref 160, .ref 162, .ref 164, .ref 166, .int z]) ∧ h 157 = .inl (0, 48, mo) ∧ h 159 = .inl (0, 48, rc) ∧ h 161 = .inl (0, 48, lz) ∧ h 163 = .inl (0, 48, gz) ∧ h 165 = .inl (0, 48, co) ∧ h 167 = .inl (0, 48, jr)
def DyS (h : mz_H) : Prop := ∃ sm wd ow : Nat → Int32, h 170 = .inl (0, 28, sm) ∧ h 172 = .inl (0, 28, wd) ∧ h 174 = .inl (0, 28, ow)
def PlS (h : mz_H) : Prop := ∃ cf wf wb sr iw : Nat → Int32, h 177 = .inl (0, 29, cf) ∧ h 179 = .inl (0, 29, wf) ∧ h 181 = .inl (0, 28, wb) ∧ h 183 = .inl (0, 4, sr) ∧ h 185 = .inl (0, 28, iw)
def BS (h : mz_H) : Prop := RdS h ∧ JyS h ∧ DyS h ∧ PlS h
/-! the pure values -/
def vL (k : Nat) (m s w : Nat → Int32) : List Rde := rl k m s w k
def vJ (ne : Int32) (zn : Int32 → Int32) (l : List Rde) : List Jrn := jl ne zn l l.length
def vO (fr cr : Nat → Int32) (mr : Int32) (J : List Jrn) : Nat → Int32 := fun d => dow cr (dsm fr mr J d) (dwd J d)
def vK (wr : Nat → Int32) (J : List Jrn) : Nat → Int32 := wkc wr (dwd J)
def PlR (h : mz_H) (ow wk : Nat → Int32) : Prop := ∃ cf wf wb sr iw : Nat → Int32, (h 177 = .inl (0, 29, cf) ∧ h 179 = .inl (0, 29, wf) ∧ h 181 = .inl (0, 28, wb) ∧ h 183 = .inl (0, 4, sr) ∧ h 185 = .inl (0, 28, iw)) ∧ cf 0 = (dpv ow wk 0).1 ∧ wf 0 = (dpv ow wk 0).2.1 ∧ (∀ j s, (wkd (bgn ow wk) 0)[j]? = some s → sr j = nI s) ∧ (∀ d, d < 28 → iw d = bI (inS (wkd (bgn ow wk) 0) d))
def DyR (h : mz_H) (fr cr : Nat → Int32) (mr : Int32) (J : List Jrn) : Prop := ∃ sm wd ow : Nat → Int32, DyA h sm wd ow ∧ ∀ d, d < 28 → sm d = dsm fr mr J d ∧ wd d = dwd J d ∧ ow d = vO fr cr mr J d
def JyR (h : mz_H) (fr : Nat → Int32) (mr ne : Int32) (zn : Int32 → Int32) (l : List Rde) : Prop := ∃ mo rc lz gz co jr : Nat → Int32, JyA h (vJ ne zn l).length mo rc lz gz co jr ∧ JRep (vJ ne zn l) mo rc lz gz ∧ (∀ j q, (vJ ne zn l)[j]? = some q → co j = jcost fr mr q) ∧ (∀ i, i < l.length → jr i = nI ((jl ne zn l (i + 1)).length - 1))
def RdR (h : mz_H) (l : List Rde) : Prop := ∃ bs es bm em kd : Nat → Int32, RdA h l.length bs es bm em kd ∧ RepA l bs es bm em kd
theorem dstep_c {o o' k k' : Int32} {w : Bool} {a b : Dpv} (h1 : o = o') (h2 : w = true → k = k') : dstep o k w a b = dstep o' k' w a b := by
  subst h1
  cases w with
  | true => rw [h2 rfl]
  | false =>
    unfold dstep
    rw [if_neg (fun z => absurd z.1 (by decide)), if_neg (fun z => absurd z.1 (by decide))]
theorem dpl_c {ow ow' wk wk' : Nat → Int32} (h1 : ∀ d, d < 28 → ow d = ow' d) (h2 : ∀ d, d ≤ 21 → wk d = wk' d) : ∀ r, dpl ow wk r = dpl ow' wk' r
  | 0 => rfl
  | r + 1 => by
    have ih := dpl_c h1 h2 r
    show dstep _ _ _ _ _ :: dpl ow wk r = dstep _ _ _ _ _ :: dpl ow' wk' r
    rw [ih, dstep_c (h1 (27 - r) (by omega)) (fun z => h2 (27 - r) (by have := of_decide_eq_true z; omega))]
theorem wmx_c {f g : Nat → Int32} : ∀ (k d : Nat) (x : Int32), (∀ j, d ≤ j → j < d + k → f j = g j) → wmx f k d x = wmx g k d x
  | 0, _, _, _ => rfl
  | k + 1, d, x, hh => by
    show wmx f k (d + 1) (zmax x (f d)) = wmx g k (d + 1) (zmax x (g d))
    rw [hh d (by omega) (by omega)]
    exact wmx_c k (d + 1) _ (fun j h1 h2 => hh j (by omega) (by omega))
theorem dpv_c {ow ow' wk wk' : Nat → Int32} (h1 : ∀ d, d < 28 → ow d = ow' d) (h2 : ∀ d, d ≤ 21 → wk d = wk' d) (d : Nat) : dpv ow wk d = dpv ow' wk' d := by
  unfold dpv
  rw [dpl_c h1 h2]
theorem bgn_c {ow ow' wk wk' : Nat → Int32} (h1 : ∀ d, d < 28 → ow d = ow' d) (h2 : ∀ d, d ≤ 21 → wk d = wk' d) : bgn ow wk = bgn ow' wk' := by
  funext d
  unfold bgn
  rw [dpv_c h1 h2]
section BL
variable {e n : Nat} {h : mz_H} {Q : mz_Q} {t : Nat} {m s w : Nat → Int32} {zr fr cr wr : Nat → Int32} {mr ne : Int32} {k : Nat}
theorem r_rbuild (F : Fx h) (S : RdS h) (T : TA h t (nI k) m s w) (ht : t + 6 < 140) (hk : k ≤ 48) (hs : ∀ j, j < k → ∃ a, a < 8 ∧ s j = nI a) (H : ∀ bs es bm em kd le lb, RepA (vL k m s w) bs es bm em kd → Q none n (rdH h (nI (vL k m s w).length) bs es bm em kd le lb)) : mz_wc (e + 4) 39 [.ref 140, .ref t] n h Q := by
  obtain ⟨z, bs, es, bm, em, kd, le, lb, e0, e1, e2, e3, e4, e5, e6, e7⟩ := S
  have := s_rbuild (e := e) (Q := Q) (n := n) (z := z) (bs := bs) (es := es) (bm := bm) (em := em) (kd := kd) (le := le) (lb := lb) F T ht hk hs H
  rw [rd_id e0 e1 e2 e3 e4 e5 e6 e7] at this
  exact this
theorem r_jbuild {l : List Rde} {bs es bm em kd : Nat → Int32} (F : Fx h) (S : JyS h) (R : RdA h l.length bs es bm em kd) (RA : RepA l bs es bm em kd) (T : TrA h 32 zr fr cr wr mr ne) (hk : l.length ≤ 48) (H : ∀ mo rc lz gz co jr, JRep (vJ ne (rat 8 zr) l) mo rc lz gz → (∀ j q, (vJ ne (rat 8 zr) l)[j]? = some q → co j = jcost fr mr q) → (∀ i, i < l.length → jr i = nI ((jl ne (rat 8 zr) l (i + 1)).length - 1)) → Q none n (jyH h (nI (vJ ne (rat 8 zr) l).length) mo rc lz gz co jr)) : mz_wc (e + 4) 20 [.ref 155, .ref 140, .ref 32] n h Q := by
  obtain ⟨z, mo, rc, lz, gz, co, jr, e0, e1, e2, e3, e4, e5, e6⟩ := S
  have := s_jbuild (e := e) (Q := Q) (n := n) (z := z) (mo := mo) (rc := rc) (lz := lz) (gz := gz) (co := co) (jr := jr) F R RA T hk H
  rw [jy_id e0 e1 e2 e3 e4 e5 e6] at this
  exact this
theorem r_dbuild {J : List Jrn} {mo rc lz gz co jr : Nat → Int32} (F : Fx h) (S : DyS h) (R : JyA h J.length mo rc lz gz co jr) (JR : JRep J mo rc lz gz) (hco : ∀ j q, J[j]? = some q → co j = jcost fr mr q) (hd : ∀ (j : Nat) (q : Jrn), J[j]? = some q → ∃ d, d < 28 ∧ q.1 / nI 1440 = nI d) (T : TrA h 32 zr fr cr wr mr ne) (hk : J.length ≤ 48) (H : ∀ sm wd ow, (∀ d, d < 28 → sm d = dsm fr mr J d ∧ wd d = dwd J d ∧ ow d = vO fr cr mr J d) → Q none n (dyH h sm wd ow)) : mz_wc (e + 4) 12 [.ref 168, .ref 155, .ref 32] n h Q := by
  obtain ⟨sm, wd, ow, e1, e2, e3⟩ := S
  have := s_dbuild (e := e) (Q := Q) (n := n) (sm := sm) (wd := wd) (ow := ow) F R JR hco hd T hk H
  rw [dy_id e1 e2 e3] at this
  exact this
theorem r_pbuild {J : List Jrn} {sm wd ow : Nat → Int32} (F : Fx h) (S : PlS h) (R : DyA h sm wd ow) (hD : ∀ d, d < 28 → sm d = dsm fr mr J d ∧ wd d = dwd J d ∧ ow d = vO fr cr mr J d) (T : TrA h 32 zr fr cr wr mr ne) (H : ∀ cf wf wb sr iw : Nat → Int32, PlR (plH h cf wf wb sr iw) (vO fr cr mr J) (vK wr J) → Q none n (plH h cf wf wb sr iw)) : mz_wc (e + 3) 31 [.ref 175, .ref 168, .ref 32] n h Q := by
  obtain ⟨cf, wf, wb, sr, iw, e1, e2, e3, e4, e5⟩ := S
  have c1 : ∀ d, d < 28 → ow d = vO fr cr mr J d := fun d hd => (hD d hd).2.2
  have c2 : ∀ d, d ≤ 21 → wkc wr wd d = vK wr J d := by
    intro d hd
    unfold vK wkc
    rw [wmx_c 7 d 0 (fun j h1 h2 => (hD j (by omega)).2.1)]
  have := s_pbuild (e := e) (Q := Q) (n := n) (cf := cf) (wf := wf) (wb := wb) (sr := sr) (iw := iw) F R T (fun cf wf wb sr iw a1 a2 a3 a4 => H cf wf wb sr iw ⟨cf, wf, wb, sr, iw, ⟨rfl, rfl, rfl, rfl, rfl⟩, by rw [a1, dpv_c c1 c2], by rw [a2, dpv_c c1 c2], by rw [bgn_c c1 c2] at a3; exact a3, by rw [bgn_c c1 c2] at a4; exact a4⟩)
  rw [pl_id e1 e2 e3 e4 e5] at this
  exact this
theorem jl_mom {near : Int32} {zn : Int32 → Int32} {l : List Rde} (P : Int32 → Prop) (hl : ∀ (j : Nat) (r : Rde), l[j]? = some r → P r.2.2.2.1) : ∀ i (j : Nat) (q : Jrn), (jl near zn l i)[j]? = some q → P q.1
  | 0, j, q, h => by simp [jl] at h
  | i + 1, j, q, h => by
    have ih := jl_mom P hl (near := near) (zn := zn) i
    unfold jl at h
    split at h
    · exact ih j q h
    · rename_i r hr
      split at h
      · unfold jmod at h
        split at h
        · rename_i q0 hq0
          by_cases hj : j = (jl near zn l i).length - 1
          · subst hj
            rw [List.getElem?_set_self ((List.getElem?_eq_some_iff.mp hq0).1)] at h
            cases h
            exact ih _ q0 hq0
          · rw [List.getElem?_set_ne (fun z => hj z.symm)] at h
            exact ih j q h
        · exact ih j q h
      · by_cases hj : j < (jl near zn l i).length
        · rw [List.getElem?_append_left hj] at h
          exact ih j q h
        · rw [List.getElem?_append_right (by omega)] at h
          have hz : j - (jl near zn l i).length < 1 := (List.getElem?_eq_some_iff.mp h).1
          rw [show j - (jl near zn l i).length = 0 by omega] at h
          cases h
          exact hl i r hr
theorem rl_mom {P : Int32 → Prop} (hm : ∀ j, j < k → P (m j)) : ∀ i, i ≤ k → ∀ (j : Nat) (r : Rde), (rl k m s w i)[j]? = some r → P r.2.2.2.1 ∧ P r.2.2.2.2
  | 0, _, j, r, h => by simp [rl] at h
  | i + 1, hi, j, r, h => by
    have ih := rl_mom hm i (by omega)
    unfold rl at h
    split at h
    · exact ih j r h
    · by_cases hj : j < (rl k m s w i).length
      · rw [List.getElem?_append_left hj] at h
        exact ih j r h
      · rw [List.getElem?_append_right (by omega)] at h
        have hz : j - (rl k m s w i).length < 1 := (List.getElem?_eq_some_iff.mp h).1
        rw [show j - (rl k m s w i).length = 0 by omega] at h
        cases h
        unfold rideOf
        split
        · rename_i hw
          exact ⟨hm i (by omega), hm (i + 1) (wholeB_iff.mp hw).1⟩
        · split
          · exact ⟨hm i (by omega), hm i (by omega)⟩
          · exact ⟨hm i (by omega), hm i (by omega)⟩
def dayP (x : Int32) : Prop := ∃ d, d < 28 ∧ x / nI 1440 = nI d
theorem dayP_of {x : Nat} (hx : x < 40320) : dayP (nI x) := ⟨x / 1440, by omega, pk_div (by omega) (by omega) (by omega)⟩
theorem s_breckon (F : Fx h) (B : BS h) (T : TA h t (nI k) m s w) (ht : t + 6 < 139) (hk : k ≤ 48) (hs : ∀ j, j < k → ∃ a, a < 8 ∧ s j = nI a) (hm : ∀ j, j < k → ∃ x, x < 40320 ∧ m j = nI x) (Tr : TrA h 32 zr fr cr wr mr ne) (H : ∀ h', Fx h' → BS h' → (∀ b, b < 140 ∨ 185 < b → h' b = h b) → RdR h' (vL k m s w) → JyR h' fr mr ne (rat 8 zr) (vL k m s w) → DyR h' fr cr mr (vJ ne (rat 8 zr) (vL k m s w)) → PlR h' (vO fr cr mr (vJ ne (rat 8 zr) (vL k m s w))) (vK wr (vJ ne (rat 8 zr) (vL k m s w))) → Q none n h') : mz_wc (e + 5) 10 [.ref 139, .ref t, .ref 32] n h Q := by
  obtain ⟨BR, BJ, BD, BP⟩ := B
  have hl : (vL k m s w).length ≤ 48 := Nat.le_trans (rl_len k m s w k) hk
  have hJl : (vJ ne (rat 8 zr) (vL k m s w)).length ≤ 48 := Nat.le_trans (jl_len _ _ _ _) hl
  have hday : ∀ (j : Nat) (q : Jrn), (vJ ne (rat 8 zr) (vL k m s w))[j]? = some q → ∃ d, d < 28 ∧ q.1 / nI 1440 = nI d := jl_mom dayP (fun j r hr => (rl_mom (P := dayP) (fun j hj => by
    obtain ⟨x, hx, he⟩ := hm j hj
    rw [he]
    exact dayP_of hx) k (Nat.le_refl k) j r hr).1) _
  have F1 : ∀ {z bs es bm em kd le lb}, Fx (rdH h z bs es bm em kd le lb) := rd_F F
  refine mz_wc.enter (code := co_X1_reckon) (idx := 10) rfl rfl (Nat.le_of_ble_eq_true rfl) rfl rfl ?_
  refine mz_WP.run 80 rfl ?_
  refine mz_WP.getf rfl (F _ _ rfl) rfl (Nat.le_of_ble_eq_true rfl) ?_
  refine mz_WP.run 80 rfl ?_
  obtain ⟨z0, b1, b2, b3, b4, b5, b6, b7, g0, g1⟩ := id BR
  refine mz_WP.cv rfl rfl (Nat.le_of_ble_eq_true rfl) rfl (g0) rfl (r_rbuild F BR T (by omega) hk hs (fun bs es bm em kd le lb RA => ?_))
  refine mz_WP.run 80 rfl ?_
  refine mz_WP.getf rfl (F1 _ _ rfl) rfl (Nat.le_of_ble_eq_true rfl) ?_
  refine mz_WP.run 80 rfl ?_
  refine mz_WP.getf rfl (F1 _ _ rfl) rfl (Nat.le_of_ble_eq_true rfl) ?_
  refine mz_WP.run 80 rfl ?_
  have T1 : TrA (rdH h (nI (vL k m s w).length) bs es bm em kd le lb) 32 zr fr cr wr mr ne := Tr.to (fun b _ _ => rd_lt (by omega))
  have R1 : RdA (rdH h (nI (vL k m s w).length) bs es bm em kd le lb) (vL k m s w).length bs es bm em kd := ⟨rfl, rfl, rfl, rfl, rfl, rfl⟩
  obtain ⟨z1, c1, c2, c3, c4, c5, c6, f0, f1, f2, f3, f4, f5, f6⟩ := BJ
  have J1 : JyS (rdH h (nI (vL k m s w).length) bs es bm em kd le lb) := ⟨z1, c1, c2, c3, c4, c5, c6, f0, f1, f2, f3, f4, f5, f6⟩
  refine mz_WP.cv rfl rfl (Nat.le_of_ble_eq_true rfl) rfl (f0) rfl (r_jbuild F1 J1 R1 RA T1 hl (fun mo rc lz gz co jr JR hco hjr => ?_))
  have F2 : ∀ {z mo rc lz gz co jr}, Fx (jyH (rdH h (nI (vL k m s w).length) bs es bm em kd le lb) z mo rc lz gz co jr) := jy_F F1
  refine mz_WP.run 80 rfl ?_
  refine mz_WP.getf rfl (F2 _ _ rfl) rfl (Nat.le_of_ble_eq_true rfl) ?_
  refine mz_WP.run 80 rfl ?_
  refine mz_WP.getf rfl (F2 _ _ rfl) rfl (Nat.le_of_ble_eq_true rfl) ?_
  refine mz_WP.run 80 rfl ?_
  have T2 : TrA (jyH (rdH h (nI (vL k m s w).length) bs es bm em kd le lb) (nI (vJ ne (rat 8 zr) (vL k m s w)).length) mo rc lz gz co jr) 32 zr fr cr wr mr ne := T1.jy
  have J2 : JyA (jyH (rdH h (nI (vL k m s w).length) bs es bm em kd le lb) (nI (vJ ne (rat 8 zr) (vL k m s w)).length) mo rc lz gz co jr) (vJ ne (rat 8 zr) (vL k m s w)).length mo rc lz gz co jr := ⟨rfl, rfl, rfl, rfl, rfl, rfl, rfl⟩
  obtain ⟨d1, d2, d3, i1, i2, i3⟩ := BD
  have D2 : DyS (jyH (rdH h (nI (vL k m s w).length) bs es bm em kd le lb) (nI (vJ ne (rat 8 zr) (vL k m s w)).length) mo rc lz gz co jr) := ⟨d1, d2, d3, i1, i2, i3⟩
  refine mz_WP.cv rfl rfl (Nat.le_of_ble_eq_true rfl) rfl (F2 _ _ rfl) rfl (r_dbuild F2 D2 J2 JR hco hday T2 hJl (fun sm wd ow hD => ?_))
  have F3 : ∀ {sm wd ow}, Fx (dyH (jyH (rdH h (nI (vL k m s w).length) bs es bm em kd le lb) (nI (vJ ne (rat 8 zr) (vL k m s w)).length) mo rc lz gz co jr) sm wd ow) := dy_F F2
  refine mz_WP.run 80 rfl ?_
  refine mz_WP.getf rfl (F3 _ _ rfl) rfl (Nat.le_of_ble_eq_true rfl) ?_
  refine mz_WP.run 80 rfl ?_
  refine mz_WP.getf rfl (F3 _ _ rfl) rfl (Nat.le_of_ble_eq_true rfl) ?_
  refine mz_WP.run 80 rfl ?_
  obtain ⟨p1, p2, p3, p4, p5, q1, q2, q3, q4, q5⟩ := BP
  have P3 : PlS (dyH (jyH (rdH h (nI (vL k m s w).length) bs es bm em kd le lb) (nI (vJ ne (rat 8 zr) (vL k m s w)).length) mo rc lz gz co jr) sm wd ow) := ⟨p1, p2, p3, p4, p5, q1, q2, q3, q4, q5⟩
  refine mz_WP.cv rfl rfl (Nat.le_of_ble_eq_true rfl) rfl (F3 _ _ rfl) rfl (r_pbuild F3 P3 ⟨rfl, rfl, rfl⟩ hD T2.dy (fun cf wf wb sr iw hP => ?_))
  refine mz_WP.vret rfl rfl (H _ (pl_F F3) ⟨⟨_, bs, es, bm, em, kd, le, lb, rfl, rfl, rfl, rfl, rfl, rfl, rfl, rfl⟩, ⟨_, mo, rc, lz, gz, co, jr, rfl, rfl, rfl, rfl, rfl, rfl, rfl⟩, ⟨sm, wd, ow, rfl, rfl, rfl⟩, ⟨cf, wf, wb, sr, iw, rfl, rfl, rfl, rfl, rfl⟩⟩ (fun b hb => ?_) ⟨bs, es, bm, em, kd, ⟨rfl, rfl, rfl, rfl, rfl, rfl⟩, RA⟩ ⟨mo, rc, lz, gz, co, jr, ⟨rfl, rfl, rfl, rfl, rfl, rfl, rfl⟩, JR, hco, hjr⟩ ⟨sm, wd, ow, ⟨rfl, rfl, rfl⟩, hD⟩ hP)
  rw [pl_lt (by omega), dy_lt (by omega), jy_lt (by omega), rd_lt (by omega)]
end BL
end
section
/-! what the class holds, beside the reference's row g of numbers -/
theorem inB_of {x : Int32} {a b : Nat} (hb : b < 2 ^ 31) (hab : a ≤ b) (h : inB x (nI a) (nI b) = true) : ∃ j, a ≤ j ∧ j ≤ b ∧ x = nI j := by
  unfold inB at h
  simp only [Bool.and_eq_true, Bool.not_eq_true', decide_eq_false_iff_not] at h
  obtain ⟨h1, h2⟩ := h
  have h0 : ¬ x < 0 := fun z => h1 (Int32.lt_of_lt_of_le z (nI_pos' (by omega)))
  obtain ⟨j, hj, rfl⟩ := nI_of h0
  rw [nI_ltI hj (by omega)] at h1
  rw [nI_ltI hb hj] at h2
  exact ⟨j, by omega, by omega, rfl⟩
theorem inB_in {a b j : Nat} (hb : b < 2 ^ 31) (h1 : a ≤ j) (h2 : j ≤ b) : inB (nI j) (nI a) (nI b) = true := by
  unfold inB
  rw [decide_eq_false (nI_nlt h1 (by omega)), decide_eq_false (nI_nlt h2 hb)]
  rfl
theorem mz_WP.tin {e d rk : Nat} {code : List mz_I} {Q : mz_Q} {pc : Nat} {L : List (Option Value)} {n : Nat} {h : mz_H} {bc bs : Nat} {df lo hi off : Int} {offs : Array Int} {len x y : Nat} {a : Int32} {r : List Value} (hl : mz_lk code pc = some (.tableswitch df lo hi offs, len, x, y)) (h1 : ¬ (a.toInt < lo ∨ hi < a.toInt)) (ho : offs[(a.toInt - lo).toNat]? = some off) (H : mz_WP (mz_wc e) d rk code Q ((pc : Int) + off).toNat L r n h bc bs) : mz_WP (mz_wc e) d rk code Q pc L (.int a :: r) n h bc bs := by
  refine mz_WP.tsw hl (fun z => absurd z h1) (fun o _ _ z => ?_)
  rw [ho] at z
  cases z
  exact H
theorem mz_WP.tout {e d rk : Nat} {code : List mz_I} {Q : mz_Q} {pc : Nat} {L : List (Option Value)} {n : Nat} {h : mz_H} {bc bs : Nat} {df lo hi : Int} {offs : Array Int} {len x y : Nat} {a : Int32} {r : List Value} (hl : mz_lk code pc = some (.tableswitch df lo hi offs, len, x, y)) (h1 : a.toInt < lo ∨ hi < a.toInt) (H : mz_WP (mz_wc e) d rk code Q ((pc : Int) + df).toNat L r n h bc bs) : mz_WP (mz_wc e) d rk code Q pc L (.int a :: r) n h bc bs := by
  refine mz_WP.tsw hl (fun z => H) (fun o z1 z2 _ => ?_)
  rcases h1 with z | z
  · exact absurd z z1
  · exact absurd z z2
/-! the row g -/
def gm (g : Nat → Int32) (c : Nat) : Nat → Int32 := fun j => g (48 * c + j)
def gw (g : Nat → Int32) (c : Nat) : Nat → Int32 := fun j => g (192 + 48 * c + j)
def gS (g : Nat → Int32) (c : Nat) : Nat → Int32 := fun j => gw g c j / nI 2
def gY (g : Nat → Int32) (c : Nat) : Nat → Int32 := fun j => gw g c j - gw g c j / nI 2 * nI 2
def zG (g : Nat → Int32) : Nat → Int32 := fun i => g (388 + i)
def frG (g : Nat → Int32) : Nat → Int32 := fun i => if i = 0 then 0 else g (395 + i)
def crG (g : Nat → Int32) : Nat → Int32 := fun i => if i = 0 then 0 else g (400 + i)
def wrG (g : Nat → Int32) : Nat → Int32 := fun i => if i = 0 then 0 else g (405 + i)
def WFc (g : Nat → Int32) (c k : Nat) : Prop := k ≤ 48 ∧ g (384 + c) = nI k ∧ (∀ j, j < k → ∃ x, x < 40320 ∧ gm g c j = nI x) ∧ (∀ j, j < k → ∃ a b, a < 8 ∧ b < 2 ∧ gw g c j = nI (2 * a + b)) ∧ (∀ i j, i < j → j < k → gm g c i ≠ gm g c j)
def WF (g : Nat → Int32) : Prop := (∀ c, c < 4 → ∃ k, WFc g c k) ∧ (∀ i, i < 8 → ∃ z, 1 ≤ z ∧ z ≤ 5 ∧ g (388 + i) = nI z) ∧ (∃ b, b < 16 ∧ g 413 = nI b) ∧ (∀ r, r < 4 → ∃ b, b < 16 ∧ g (419 + r) = nI b)
/-- one card's taps -/
def RepT (h : mz_H) (t : Nat) (g : Nat → Int32) (c k : Nat) : Prop := ∃ m s w : Nat → Int32, TA h t (nI k) m s w ∧ ∀ j, j < k → m j = gm g c j ∧ s j = gS g c j ∧ w j = gY g c j
/-- the list at a -/
def BlA (h : mz_H) (a : Nat) (nb bb : Nat → Int32) (nu ba : Int32) : Prop := h a = .inr (0, [.ref (a + 1), .ref (a + 3), .int nu, .int ba]) ∧ (h (a + 1) = .inr (6, [.ref (a + 2)]) ∧ h (a + 3) = .inr (6, [.ref (a + 4)])) ∧ h (a + 2) = .inl (0, 4, nb) ∧ h (a + 4) = .inl (0, 4, bb)
def RepP (h : mz_H) (a : Nat) (g : Nat → Int32) : Prop := ∃ zr fr cr wr : Nat → Int32, TrA h a zr fr cr wr (g 411) (g 412) ∧ rat 8 zr = rat 8 (zG g) ∧ rat 6 fr = rat 6 (frG g) ∧ rat 6 cr = rat 6 (crG g) ∧ rat 6 wr = rat 6 (wrG g)
def RepB (h : mz_H) (a : Nat) (g : Nat → Int32) : Prop := ∃ nb bb : Nat → Int32, BlA h a nb bb (g 414) (g 413) ∧ ∀ r, r < 4 → nb r = g (415 + r) ∧ bb r = g (419 + r)
def Rep (S : Nat) (h : mz_H) (g : Nat → Int32) : Prop := (∀ c, c < 4 → ∃ k, WFc g c k ∧ RepT h (S + 1 + 7 * c) g c k) ∧ RepP h (S + 29) g ∧ RepB h (S + 38) g
def Shp (S : Nat) (h : mz_H) : Prop := (∀ c, c < 4 → ∃ z m s w, TA h (S + 1 + 7 * c) z m s w) ∧ (∃ zr fr cr wr mr ne, TrA h (S + 29) zr fr cr wr mr ne) ∧ (∃ nb bb nu ba, BlA h (S + 38) nb bb nu ba)
theorem Rep.shp {S : Nat} {h : mz_H} {g : Nat → Int32} (R : Rep S h g) : Shp S h := by
  obtain ⟨r1, ⟨zr, fr, cr, wr, r2, -⟩, nb, bb, r3, -⟩ := R
  refine ⟨fun c hc => ?_, ⟨zr, fr, cr, wr, _, _, r2⟩, nb, bb, _, _, r3⟩
  obtain ⟨k, -, m, s, w, T, -⟩ := r1 c hc
  exact ⟨_, m, s, w, T⟩
theorem BlA.to {h h' : mz_H} {a : Nat} {nb bb : Nat → Int32} {nu ba : Int32} (T : BlA h a nb bb nu ba) (hh : ∀ b, a ≤ b → b ≤ a + 4 → h' b = h b) : BlA h' a nb bb nu ba := by
  obtain ⟨e0, ⟨e1, e3⟩, e2, e4⟩ := T
  exact ⟨(hh _ (by omega) (by omega)).trans e0, ⟨(hh _ (by omega) (by omega)).trans e1, (hh _ (by omega) (by omega)).trans e3⟩, (hh _ (by omega) (by omega)).trans e2, (hh _ (by omega) (by omega)).trans e4⟩
theorem RepT.to {h h' : mz_H} {t : Nat} {g : Nat → Int32} {c k : Nat} (R : RepT h t g c k) (hh : ∀ b, t ≤ b → b ≤ t + 6 → h' b = h b) : RepT h' t g c k := by
  obtain ⟨m, s, w, T, r⟩ := R
  exact ⟨m, s, w, T.to hh, r⟩
theorem RepP.to {h h' : mz_H} {a : Nat} {g : Nat → Int32} (R : RepP h a g) (hh : ∀ b, a ≤ b → b ≤ a + 8 → h' b = h b) : RepP h' a g := by
  obtain ⟨zr, fr, cr, wr, T, r⟩ := R
  exact ⟨zr, fr, cr, wr, T.to hh, r⟩
theorem RepB.to {h h' : mz_H} {a : Nat} {g : Nat → Int32} (R : RepB h a g) (hh : ∀ b, a ≤ b → b ≤ a + 4 → h' b = h b) : RepB h' a g := by
  obtain ⟨nb, bb, T, r⟩ := R
  exact ⟨nb, bb, T.to hh, r⟩
theorem Rep.to {S : Nat} {h h' : mz_H} {g : Nat → Int32} (R : Rep S h g) (hh : ∀ b, S ≤ b → b ≤ S + 42 → h' b = h b) : Rep S h' g := by
  refine ⟨fun c hc => ?_, R.2.1.to (fun b h1 h2 => hh b (by omega) (by omega)), R.2.2.to (fun b h1 h2 => hh b (by omega) (by omega))⟩
  obtain ⟨k, w, r⟩ := R.1 c hc
  exact ⟨k, w, r.to (fun b h1 h2 => hh b (by omega) (by omega))⟩
theorem Shp.to {S : Nat} {h h' : mz_H} (R : Shp S h) (hh : ∀ b, S ≤ b → b ≤ S + 42 → h' b = h b) : Shp S h' := by
  obtain ⟨r1, ⟨zr, fr, cr, wr, mr, ne, r2⟩, nb, bb, nu, ba, r3⟩ := R
  refine ⟨fun c hc => ?_, ⟨zr, fr, cr, wr, mr, ne, r2.to (fun b h1 h2 => hh b (by omega) (by omega))⟩, nb, bb, nu, ba, r3.to (fun b h1 h2 => hh b (by omega) (by omega))⟩
  obtain ⟨z, m, s, w, T⟩ := r1 c hc
  exact ⟨z, m, s, w, T.to (fun b h1 h2 => hh b (by omega) (by omega))⟩
/-- the class, all of it: g the present, gi the kept -/
def CI (h : mz_H) (g : Nat → Int32) (kp : Nat) (gi : Nat → Nat → Int32) : Prop := Fx h ∧ BS h ∧ h 2 = .inr (10, [.ref 3, .ref 46, .ref 89, .int (nI kp), .ref 132, .ref 139]) ∧ WF g ∧ Rep 3 h g ∧ (∃ z m s w, TA h 132 z m s w) ∧ Shp 46 h ∧ Shp 89 h ∧ (kp < 4 ∧ ∀ i, i < 2 → kp / 2 ^ i % 2 = 1 → WF (gi i) ∧ Rep (46 + 43 * i) h (gi i))
/-- what the bill alone changed -/
theorem CI.bill {h h' : mz_H} {g : Nat → Int32} {kp : Nat} {gi : Nat → Nat → Int32} (C : CI h g kp gi) (F : Fx h') (B : BS h') (hh : ∀ b, b < 140 ∨ 185 < b → h' b = h b) : CI h' g kp gi := by
  obtain ⟨c1, c2, c3, c4, c5, ⟨z, m, s, w, c6⟩, c7, c8, c9, c10⟩ := C
  refine ⟨F, B, (hh 2 (by omega)).trans c3, c4, c5.to (fun b _ h2 => hh b (by omega)), ⟨z, m, s, w, c6.to (fun b _ h2 => hh b (by omega))⟩, c7.to (fun b _ h2 => hh b (by omega)), c8.to (fun b _ h2 => hh b (by omega)), c9, fun i hi hk => ⟨(c10 i hi hk).1, (c10 i hi hk).2.to (fun b _ h2 => hh b (by omega))⟩⟩
/-! the pure values, by g -/
def gL (g : Nat → Int32) (c k : Nat) : List Rde := vL k (gm g c) (gS g c) (gY g c)
def gJ (g : Nat → Int32) (l : List Rde) : List Jrn := vJ (g 412) (rat 8 (zG g)) l
def gO (g : Nat → Int32) (J : List Jrn) : Nat → Int32 := vO (frG g) (crG g) (g 411) J
def gK (g : Nat → Int32) (J : List Jrn) : Nat → Int32 := vK (wrG g) J
theorem wholeB_c {k : Nat} {m w m' w' : Nat → Int32} (hm : ∀ j, j < k → m j = m' j) (hw : ∀ j, j < k → w j = w' j) {j : Nat} (hj : j < k) : wholeB k m w j = wholeB k m' w' j := by
  unfold wholeB
  by_cases h1 : j + 1 < k
  · rw [hm j hj, hm (j + 1) h1, hw j hj, hw (j + 1) h1]
  · rw [decide_eq_false h1, Bool.false_and, Bool.false_and, Bool.false_and, Bool.false_and, Bool.false_and, Bool.false_and]
theorem rl_c {k : Nat} {m s w m' s' w' : Nat → Int32} (hm : ∀ j, j < k → m j = m' j) (hs : ∀ j, j < k → s j = s' j) (hw : ∀ j, j < k → w j = w' j) : ∀ i, i ≤ k → rl k m s w i = rl k m' s' w' i
  | 0, _ => rfl
  | i + 1, hi => by
    have ih := rl_c hm hs hw i (by omega)
    have e1 := wholeB_c hm hw (show i < k by omega)
    have e2 : behind k m w i = behind k m' w' i := by
      cases i with
      | zero => rfl
      | succ j => exact wholeB_c hm hw (by omega)
    have e3 : rideOf k m s w (rl k m s w i) i = rideOf k m' s' w' (rl k m' s' w' i) i := by
      rw [ih]
      unfold rideOf
      rw [e1]
      by_cases hb : wholeB k m' w' i = true
      · rw [if_pos hb, if_pos hb]
        have hlt := (wholeB_iff.mp hb).1
        rw [hm i (by omega), hm (i + 1) hlt, hs i (by omega), hs (i + 1) hlt]
      · rw [if_neg hb, if_neg hb, hm i (by omega), hs i (by omega), hw i (by omega)]
    show (if wholeB k m w i = false ∧ behind k m w i = true then rl k m s w i else rl k m s w i ++ [rideOf k m s w (rl k m s w i) i]) = (if wholeB k m' w' i = false ∧ behind k m' w' i = true then rl k m' s' w' i else rl k m' s' w' i ++ [rideOf k m' s' w' (rl k m' s' w' i) i])
    rw [e1, e2, e3, ih]
theorem vL_c {k : Nat} {m s w m' s' w' : Nat → Int32} (hh : ∀ j, j < k → m j = m' j ∧ s j = s' j ∧ w j = w' j) : vL k m s w = vL k m' s' w' := rl_c (fun j hj => (hh j hj).1) (fun j hj => (hh j hj).2.1) (fun j hj => (hh j hj).2.2) k (Nat.le_refl k)
theorem jcost_c {fr fr' : Nat → Int32} (h : rat 6 fr = rat 6 fr') : jcost fr = jcost fr' := by
  funext mr q
  unfold jcost
  rw [h]
theorem dsm_c {fr fr' : Nat → Int32} (h : rat 6 fr = rat 6 fr') : dsm fr = dsm fr' := by
  funext mr J d
  unfold dsm
  rw [jcost_c h]
theorem vO_c {fr fr' cr cr' : Nat → Int32} (h : rat 6 fr = rat 6 fr') (h2 : rat 6 cr = rat 6 cr') : vO fr cr = vO fr' cr' := by
  funext mr J d
  unfold vO dow
  rw [dsm_c h, h2]
theorem vK_c {wr wr' : Nat → Int32} (h : rat 6 wr = rat 6 wr') : vK wr = vK wr' := by
  funext J d
  unfold vK wkc
  rw [h]
theorem gsy {a b : Nat} (ha : a < 8) (hb : b < 2) : nI (2 * a + b) / nI 2 = nI a ∧ nI (2 * a + b) - nI (2 * a + b) / nI 2 * nI 2 = nI b := by
  refine ⟨?_, ?_⟩
  · rw [pk_div (by omega) (by omega) (by omega), show (2 * a + b) / 2 = a by omega]
  · rw [pk_rem (by omega) (by omega) (by omega), show (2 * a + b) % 2 = b by omega]
section RC
variable {e n : Nat} {h : mz_H} {Q : mz_Q} {g : Nat → Int32} {kp : Nat} {gi : Nat → Nat → Int32}
theorem s_tapsOf {c : Nat} (F : Fx h) (hc : c < 4) (H : Q (some (.ref (3 + 1 + 7 * c))) n h) : mz_wc (e + 1) 58 [.ref 3, .int (nI c)] n h Q := by
  refine mz_wc.enter (code := co_X7_tapsOf) (idx := 58) rfl rfl (Nat.le_of_ble_eq_true rfl) rfl rfl ?_
  refine mz_WP.run 80 rfl ?_
  match c, hc with
  | 0, _ =>
    refine mz_WP.tin (off := 27) rfl (by decide) (by decide) ?_
    refine mz_WP.run 80 rfl ?_
    refine mz_WP.getf rfl (F _ _ rfl) rfl (Nat.le_of_ble_eq_true rfl) ?_
    exact mz_WP.aret rfl rfl H
  | 1, _ =>
    refine mz_WP.tin (off := 32) rfl (by decide) (by decide) ?_
    refine mz_WP.run 80 rfl ?_
    refine mz_WP.getf rfl (F _ _ rfl) rfl (Nat.le_of_ble_eq_true rfl) ?_
    exact mz_WP.aret rfl rfl H
  | 2, _ =>
    refine mz_WP.tin (off := 37) rfl (by decide) (by decide) ?_
    refine mz_WP.run 80 rfl ?_
    refine mz_WP.getf rfl (F _ _ rfl) rfl (Nat.le_of_ble_eq_true rfl) ?_
    exact mz_WP.aret rfl rfl H
  | 3, _ =>
    refine mz_WP.tout rfl (by decide) ?_
    refine mz_WP.run 80 rfl ?_
    refine mz_WP.getf rfl (F _ _ rfl) rfl (Nat.le_of_ble_eq_true rfl) ?_
    exact mz_WP.aret rfl rfl H
/-- what is known of the bill, for the taps T -/
def BlR (h : mz_H) (g : Nat → Int32) (l : List Rde) : Prop := RdR h l ∧ JyR h (frG g) (g 411) (g 412) (rat 8 (zG g)) l ∧ DyR h (frG g) (crG g) (g 411) (gJ g l) ∧ PlR h (gO g (gJ g l)) (gK g (gJ g l))
theorem r_breckon {t k : Nat} {m s w : Nat → Int32} (C : CI h g kp gi) (T : TA h t (nI k) m s w) (ht : t + 6 < 139) (hk : k ≤ 48) (hs : ∀ j, j < k → ∃ a, a < 8 ∧ s j = nI a) (hm : ∀ j, j < k → ∃ x, x < 40320 ∧ m j = nI x) (H : ∀ h', CI h' g kp gi → (∀ b, b < 140 ∨ 185 < b → h' b = h b) → BlR h' g (vL k m s w) → Q none n h') : mz_wc (e + 5) 10 [.ref 139, .ref t, .ref 32] n h Q := by
  obtain ⟨F, B, -, -, R, -⟩ := id C
  obtain ⟨-, ⟨zr, fr, cr, wr, Tr, t1, t2, t3, t4⟩, -⟩ := R
  refine s_breckon F B T ht hk hs hm Tr (fun h' F' B' hh b1 b2 b3 b4 => H h' (C.bill F' B' hh) hh ⟨b1, ?_, ?_, ?_⟩)
  · rw [t1] at b2
    unfold JyR at b2 ⊢
    rw [jcost_c t2] at b2
    exact b2
  · rw [t1] at b3
    unfold DyR at b3 ⊢
    rw [dsm_c t2, vO_c t2 t3] at b3
    exact b3
  · rw [t1, vO_c t2 t3, vK_c t4] at b4
    exact b4
theorem RepT.facts {t c k : Nat} (R : RepT h t g c k) (W : WFc g c k) : ∃ m s w : Nat → Int32, TA h t (nI k) m s w ∧ (∀ j, j < k → m j = gm g c j ∧ s j = gS g c j ∧ w j = gY g c j) ∧ (∀ j, j < k → ∃ a, a < 8 ∧ s j = nI a) ∧ (∀ j, j < k → ∃ x, x < 40320 ∧ m j = nI x) := by
  obtain ⟨m, s, w, T, r⟩ := R
  refine ⟨m, s, w, T, r, fun j hj => ?_, fun j hj => ?_⟩
  · obtain ⟨a, b, ha, hb, hw⟩ := W.2.2.2.1 j hj
    refine ⟨a, ha, ?_⟩
    rw [(r j hj).2.1]
    unfold gS
    rw [hw, (gsy ha hb).1]
  · obtain ⟨x, hx, hw⟩ := W.2.2.1 j hj
    exact ⟨x, hx, by rw [(r j hj).1, hw]⟩
theorem s_reckon {c k : Nat} (C : CI h g kp gi) (hc : c < 4) (W : WFc g c k) (H : ∀ h', CI h' g kp gi → (∀ b, b < 140 ∨ 185 < b → h' b = h b) → BlR h' g (gL g c k) → Q none n h') : mz_wc (e + 6) 101 [.ref 2, .int (nI c)] n h Q := by
  obtain ⟨F, B, h2, -, R, -⟩ := id C
  obtain ⟨k', W', RT⟩ := R.1 c hc
  have hk : k' = k := (nI_eq (by have := W'.1; omega) (by have := W.1; omega)).mp (W'.2.1.symm.trans W.2.1)
  subst hk
  obtain ⟨m, s, w, T, r, hs, hm⟩ := RT.facts W
  obtain ⟨zr, fr, cr, wr, Tr, -⟩ := R.2.1
  refine mz_wc.enter (code := co_X10_reckon) (idx := 101) rfl rfl (Nat.le_of_ble_eq_true rfl) rfl rfl ?_
  refine mz_WP.run 80 rfl ?_
  refine mz_WP.getf rfl (h2) rfl (Nat.le_of_ble_eq_true rfl) ?_
  refine mz_WP.run 80 rfl ?_
  refine mz_WP.getf rfl (h2) rfl (Nat.le_of_ble_eq_true rfl) ?_
  refine mz_WP.run 80 rfl ?_
  refine mz_WP.cv rfl rfl (Nat.le_of_ble_eq_true rfl) rfl (F _ _ rfl) rfl (s_tapsOf F hc ?_)
  refine mz_WP.run 80 rfl ?_
  refine mz_WP.getf rfl (h2) rfl (Nat.le_of_ble_eq_true rfl) ?_
  refine mz_WP.getf rfl (F _ _ rfl) rfl (Nat.le_of_ble_eq_true rfl) ?_
  refine mz_WP.cv rfl rfl (Nat.le_of_ble_eq_true rfl) rfl (F _ _ rfl) rfl (r_breckon C T (by omega) W.1 hs hm (fun h' C' hh b => ?_))
  refine mz_WP.vret rfl rfl (H h' C' hh ?_)
  rw [vL_c r] at b
  exact b
end RC
end
section
/-! the answers, by g -/
def U1 : Int32 := nI 4294967295
def U2 : Int32 := nI 4294967294
def U3 : Int32 := nI 4294967293
def U4 : Int32 := nI 4294967292
def U5 : Int32 := nI 4294967291
def kOf (g : Nat → Int32) (c : Nat) : Nat := (g (384 + c)).toNatClampNeg
def kL (g : Nat → Int32) (c : Nat) : List Rde := gL g c (kOf g c)
theorem WFc.k {g : Nat → Int32} {c k : Nat} (W : WFc g c k) : kOf g c = k := by
  unfold kOf
  rw [W.2.1, nI_clamp (by have := W.1; omega)]
def rideW (g : Nat → Int32) (l : List Rde) (j : Nat) (what : Int32) : Int32 := match l[j]? with
  | none => NN
  | some r => if what = nI 0 then r.2.1 else if what = nI 1 then r.2.2.1 else if what = nI 2 then r.1 else if what = nI 3 then bI (lameB r.2.1 r.2.2.1) else nI ((jl (g 412) (rat 8 (zG g)) l (j + 1)).length - 1)
def rideV (g : Nat → Int32) (l : List Rde) (i what : Int32) : Int32 := if i < 0 then nI l.length else if nI l.length ≤ i then NN else rideW g l i.toNatClampNeg what
def partR (card i what : Int32) (v : Int32) : Int32 := if inB card (nI 0) (nI 3) = false then U1 else if i < U1 ∨ inB what (nI 0) (nI 4) = false then U2 else v
def rideR (g : Nat → Int32) (card i what : Int32) : Int32 := partR card i what (rideV g (kL g card.toNatClampNeg) i what)
def jrnW (g : Nat → Int32) (J : List Jrn) (j : Nat) (what : Int32) : Int32 := match J[j]? with
  | none => NN
  | some q => if what = nI 0 then q.1 / nI 1440 else if what = nI 1 then nI q.2.1 else if what = nI 2 then jwid q else if what = nI 3 then jcost (frG g) (g 411) q else bI (busyB q.1)
def jrnV (g : Nat → Int32) (J : List Jrn) (i what : Int32) : Int32 := if i < 0 then nI J.length else if nI J.length ≤ i then NN else jrnW g J i.toNatClampNeg what
def jrnR (g : Nat → Int32) (card i what : Int32) : Int32 := partR card i what (jrnV g (gJ g (kL g card.toNatClampNeg)) i what)
def dayV (g : Nat → Int32) (J : List Jrn) (d : Nat) (what : Int32) : Int32 := if what = nI 0 then dsm (frG g) (g 411) J d else if what = nI 1 then dwd J d else if what = nI 2 then gO g J d else bI (inS (wkd (bgn (gO g J) (gK g J)) 0) d)
def dayR (g : Nat → Int32) (card day what : Int32) : Int32 := if inB card (nI 0) (nI 3) = false then U1 else if inB day (nI 0) (nI 27) = false ∨ inB what (nI 0) (nI 3) = false then U2 else dayV g (gJ g (kL g card.toNatClampNeg)) day.toNatClampNeg what
def costV (g : Nat → Int32) (J : List Jrn) : Int32 := (dpv (gO g J) (gK g J) 0).1
def bestV (g : Nat → Int32) (J : List Jrn) (what : Int32) : Int32 := if what = nI 0 then costV g J else if what = nI 1 then (dpv (gO g J) (gK g J) 0).2.1 else match (wkd (bgn (gO g J) (gK g J)) 0)[(what - nI 10).toNatClampNeg]? with
  | some s => nI s
  | none => NN
def bestR (g : Nat → Int32) (card what : Int32) : Int32 := if inB card (nI 0) (nI 3) = false then U1 else if inB what (nI 0) (nI 1) = false ∧ inB what (nI 10) (nI 13) = false then U2 else bestV g (gJ g (kL g card.toNatClampNeg)) what
def savedV (g : Nat → Int32) (J : List Jrn) (what : Int32) : Int32 := if what = nI 0 then rsum (dsm (frG g) (g 411) J) 28 - rsum (gO g J) 28 else rsum (gO g J) 28 - costV g J
def savedR (g : Nat → Int32) (card what : Int32) : Int32 := if inB card (nI 0) (nI 3) = false then U1 else if inB what (nI 0) (nI 1) = false then U2 else savedV g (gJ g (kL g card.toNatClampNeg)) what
theorem rsum_c {f g : Nat → Int32} : ∀ k, (∀ j, j < k → f j = g j) → rsum f k = rsum g k
  | 0, _ => rfl
  | k + 1, h => by
    show rsum f k + f k = rsum g k + g k
    rw [rsum_c k (fun j hj => h j (by omega)), h k (by omega)]
theorem tF {b : Bool} (h : ¬ b = false) : b = true := by
  cases b
  · exact absurd rfl h
  · rfl
theorem U1_lt {i : Int32} (h : ¬ i < U1) : i < 0 → i = U1 := by
  intro h0
  have e1 : U1.toInt = -1 := by decide
  rw [Int32.lt_iff_toInt_lt, e1] at h
  rw [Int32.lt_iff_toInt_lt] at h0
  have e0 : (0 : Int32).toInt = 0 := by decide
  rw [e0] at h0
  exact Int32.toInt_inj.mp (by omega)
end
section
/-! the class: what is asked of the bill -/
section P1
variable {e n : Nat} {h : mz_H} {Q : mz_Q} {g : Nat → Int32} {kp : Nat} {gi : Nat → Nat → Int32}
theorem s_isCard {x : Int32} (H : Q (some (.int (bI (inB x (nI 0) (nI 3))))) n h) : mz_wc (e + 2) 105 [.int x] n h Q := by
  refine mz_wc.enter (code := co_X10_isCard) (idx := 105) rfl rfl (Nat.le_of_ble_eq_true rfl) rfl rfl ?_
  refine mz_WP.run 80 rfl ?_
  refine mz_WP.cs rfl (by decide) rfl (Nat.le_of_ble_eq_true rfl) rfl (s_within ?_)
  exact mz_WP.zret rfl rfl (bI_01 _) H
theorem s_isStation {x : Int32} (H : Q (some (.int (bI (inB x (nI 0) (nI 7))))) n h) : mz_wc (e + 2) 106 [.int x] n h Q := by
  refine mz_wc.enter (code := co_X10_isStation) (idx := 106) rfl rfl (Nat.le_of_ble_eq_true rfl) rfl rfl ?_
  refine mz_WP.run 80 rfl ?_
  refine mz_WP.cs rfl (by decide) rfl (Nat.le_of_ble_eq_true rfl) rfl (s_within ?_)
  exact mz_WP.zret rfl rfl (bI_01 _) H
theorem s_isReader {x : Int32} (H : Q (some (.int (bI (inB x (nI 0) (nI 3))))) n h) : mz_wc (e + 2) 107 [.int x] n h Q := by
  refine mz_wc.enter (code := co_X10_isReader) (idx := 107) rfl rfl (Nat.le_of_ble_eq_true rfl) rfl rfl ?_
  refine mz_WP.run 80 rfl ?_
  refine mz_WP.cs rfl (by decide) rfl (Nat.le_of_ble_eq_true rfl) rfl (s_within ?_)
  exact mz_WP.zret rfl rfl (bI_01 _) H
theorem s_isImage {x : Int32} (H : Q (some (.int (bI (inB x (nI 0) (nI 1))))) n h) : mz_wc (e + 2) 108 [.int x] n h Q := by
  refine mz_wc.enter (code := co_X10_isImage) (idx := 108) rfl rfl (Nat.le_of_ble_eq_true rfl) rfl rfl ?_
  refine mz_WP.run 80 rfl ?_
  refine mz_WP.cs rfl (by decide) rfl (Nat.le_of_ble_eq_true rfl) rfl (s_within ?_)
  exact mz_WP.zret rfl rfl (bI_01 _) H
theorem s_isDay {x : Int32} (H : Q (some (.int (bI (inB x (nI 0) (nI 27))))) n h) : mz_wc (e + 2) 109 [.int x] n h Q := by
  refine mz_wc.enter (code := co_X10_isDay) (idx := 109) rfl rfl (Nat.le_of_ble_eq_true rfl) rfl rfl ?_
  refine mz_WP.run 80 rfl ?_
  refine mz_WP.cs rfl (by decide) rfl (Nat.le_of_ble_eq_true rfl) rfl (s_within ?_)
  exact mz_WP.zret rfl rfl (bI_01 _) H
theorem s_isMinute {x : Int32} (H : Q (some (.int (bI (inB x (nI 0) (nI 1439))))) n h) : mz_wc (e + 2) 110 [.int x] n h Q := by
  refine mz_wc.enter (code := co_X10_isMinute) (idx := 110) rfl rfl (Nat.le_of_ble_eq_true rfl) rfl rfl ?_
  refine mz_WP.run 80 rfl ?_
  refine mz_WP.cs rfl (by decide) rfl (Nat.le_of_ble_eq_true rfl) rfl (s_within ?_)
  exact mz_WP.zret rfl rfl (bI_01 _) H
theorem s_isWidth {x : Int32} (H : Q (some (.int (bI (inB x (nI 1) (nI 5))))) n h) : mz_wc (e + 2) 111 [.int x] n h Q := by
  refine mz_wc.enter (code := co_X10_isWidth) (idx := 111) rfl rfl (Nat.le_of_ble_eq_true rfl) rfl rfl ?_
  refine mz_WP.run 80 rfl ?_
  refine mz_WP.cs rfl (by decide) rfl (Nat.le_of_ble_eq_true rfl) rfl (s_within ?_)
  exact mz_WP.zret rfl rfl (bI_01 _) H
theorem s_refPart {card i what : Int32} (H : Q (some (.int (partR card i what (nI 0)))) n h) : mz_wc (e + 3) 100 [.int card, .int i, .int what] n h Q := by
  refine mz_wc.enter (code := co_X10_refusalOfPart) (idx := 100) rfl rfl (Nat.le_of_ble_eq_true rfl) rfl rfl ?_
  refine mz_WP.run 80 rfl ?_
  refine mz_WP.cs rfl (by decide) rfl (Nat.le_of_ble_eq_true rfl) rfl (s_isCard ?_)
  refine mz_WP.ifc rfl (fun c => ?_) (fun c => ?_)
  · have c := bI_t c
    unfold partR at H
    rw [if_neg (by rw [c]; decide)] at H
    have out : (i < U1 ∨ inB what (nI 0) (nI 4) = false) → mz_WP (mz_wc (e + 2)) (e + 2) 1 co_X10_refusalOfPart Q 23 [some (.int card), some (.int i), some (.int what)] [] n h 0 0 := by
      intro ho
      rw [if_pos ho] at H
      refine mz_WP.run 80 rfl ?_
      refine mz_WP.run 80 rfl ?_
      exact mz_WP.ret rfl rfl H
    refine mz_WP.run 80 rfl ?_
    refine mz_WP.icmp rfl (fun c1 => ?_) (fun c1 => ?_)
    · exact out (Or.inl c1)
    · have c1 : ¬ i < U1 := c1
      refine mz_WP.run 80 rfl ?_
      refine mz_WP.cs rfl (by decide) rfl (Nat.le_of_ble_eq_true rfl) rfl (s_within ?_)
      refine mz_WP.ifc rfl (fun c2 => ?_) (fun c2 => ?_)
      · have c2 := bI_t c2
        rw [if_neg (fun z => z.elim c1 (fun z => by rw [c2] at z; exact absurd z (by decide)))] at H
        refine mz_WP.run 80 rfl ?_
        exact mz_WP.ret rfl rfl H
      · exact out (Or.inr (bI_f (Classical.byContradiction c2)))
  · have c := bI_f (Classical.byContradiction c)
    unfold partR at H
    rw [if_pos c] at H
    refine mz_WP.run 80 rfl ?_
    exact mz_WP.ret rfl rfl H
theorem partR_U {card i what : Int32} (v w : Int32) (h : ¬ partR card i what (nI 0) = 0) : partR card i what v = partR card i what w := by
  unfold partR at h ⊢
  split
  · rfl
  · rename_i h1
    rw [if_neg h1] at h
    split
    · rfl
    · rename_i h2
      rw [if_neg h2] at h
      exact absurd rfl h
theorem partR_ok {card i what : Int32} (h : partR card i what (nI 0) = 0) : ∃ c j, c < 4 ∧ card = nI c ∧ j ≤ 4 ∧ what = nI j ∧ ¬ i < U1 := by
  unfold partR at h
  split at h
  · exact absurd h (by decide)
  · rename_i h1
    split at h
    · exact absurd h (by decide)
    · rename_i h2
      obtain ⟨c, -, hc, ec⟩ := inB_of (by decide) (by decide) (tF h1)
      obtain ⟨j, -, hj, ej⟩ := inB_of (by decide) (by decide) (tF (fun z => h2 (Or.inr z)))
      exact ⟨c, j, by omega, ec, hj, ej, fun z => h2 (Or.inl z)⟩
theorem partR_v {c : Nat} {i : Int32} {j : Nat} {v : Int32} (hc : c < 4) (hj : j ≤ 4) (hi : ¬ i < U1) : partR (nI c) i (nI j) v = v := by
  unfold partR
  rw [if_neg (by rw [inB_in (by decide) (by omega) (by omega)]; decide), if_neg (fun z => z.elim hi (fun z => by rw [inB_in (by decide) (by omega) (by omega)] at z; exact absurd z (by decide)))]
theorem s_ride {card i what : Int32} (C : CI h g kp gi) (H : ∀ h', CI h' g kp gi → (∀ b, b < 140 ∨ 185 < b → h' b = h b) → Q (some (.int (rideR g card i what))) n h') : mz_wc (e + 7) 87 [.ref 2, .int card, .int i, .int what] n h Q := by
  refine mz_wc.enter (code := co_X10_ride) (idx := 87) rfl rfl (Nat.le_of_ble_eq_true rfl) rfl rfl ?_
  refine mz_WP.run 80 rfl ?_
  refine mz_WP.cs rfl (by decide) rfl (Nat.le_of_ble_eq_true rfl) rfl (s_refPart ?_)
  refine mz_WP.run 80 rfl ?_
  refine mz_WP.ifc rfl (fun c0 => ?_) (fun c0 => ?_)
  · obtain ⟨c, j, hc, rfl, hj, rfl, hi⟩ := partR_ok c0
    obtain ⟨k, W⟩ := C.2.2.2.1.1 c hc
    have hR : rideR g (nI c) i (nI j) = rideV g (gL g c k) i (nI j) := by
      unfold rideR kL
      rw [partR_v hc hj hi, nI_clamp (by omega), W.k]
    rw [hR] at H
    refine mz_WP.run 80 rfl ?_
    refine mz_WP.cv rfl rfl (Nat.le_of_ble_eq_true rfl) rfl (C.2.2.1) rfl (s_reckon C hc W (fun h' C' hh B => ?_))
    have H := H h' C' hh
    obtain ⟨F, -, h2, -⟩ := id C'
    obtain ⟨⟨bs, es, bm, em, kd, R, RA⟩, ⟨mo, rc, lz, gz, co, jr, RJ, JR, hco, hjr⟩, -⟩ := B
    have hl : (gL g c k).length ≤ 48 := Nat.le_trans (rl_len _ _ _ _ _) W.1
    refine mz_WP.run 80 rfl ?_
    refine mz_WP.getf rfl (h2) rfl (Nat.le_of_ble_eq_true rfl) ?_
    refine mz_WP.getf rfl (F _ _ rfl) rfl (Nat.le_of_ble_eq_true rfl) ?_
    refine mz_WP.run 80 rfl ?_
    refine mz_WP.ifc rfl (fun c1 => ?_) (fun c1 => ?_)
    · have c1 : 0 ≤ i := c1
      have n0 : ¬ i < 0 := Int32.not_lt.mpr c1
      unfold rideV at H
      rw [if_neg n0] at H
      refine mz_WP.run 80 rfl ?_
      refine mz_WP.cv rfl rfl (Nat.le_of_ble_eq_true rfl) rfl (R.1) rfl (s_rsize R ?_)
      refine mz_WP.icmp rfl (fun c2 => ?_) (fun c2 => ?_)
      · have c2 : i < nI (gL g c k).length := c2
        rw [if_neg (Int32.not_le.mpr c2)] at H
        obtain ⟨p, hp, rfl⟩ := nI_of n0
        have hp2 := (nI_ltI hp (by omega)).mp c2
        obtain ⟨r, hr⟩ : ∃ r, (gL g c k)[p]? = some r := ⟨_, List.getElem?_eq_getElem hp2⟩
        obtain ⟨a1, a2, a3, a4, a5⟩ := RA p r hr
        rw [nI_clamp hp] at H
        unfold rideW at H
        rw [hr] at H
        refine mz_WP.run 80 rfl ?_
        match j, hj with
        | 0, _ =>
          refine mz_WP.tin (off := 31) rfl (by decide) (by decide) ?_
          refine mz_WP.run 80 rfl ?_
          refine mz_WP.cv rfl rfl (Nat.le_of_ble_eq_true rfl) rfl (R.1) rfl (s_rbs F R ?_)
          rw [rat_in (by omega) (by decide), a2]
          exact mz_WP.ret rfl rfl H
        | 1, _ =>
          refine mz_WP.tin (off := 38) rfl (by decide) (by decide) ?_
          refine mz_WP.run 80 rfl ?_
          refine mz_WP.cv rfl rfl (Nat.le_of_ble_eq_true rfl) rfl (R.1) rfl (s_res F R ?_)
          rw [rat_in (by omega) (by decide), a3]
          exact mz_WP.ret rfl rfl H
        | 2, _ =>
          refine mz_WP.tin (off := 45) rfl (by decide) (by decide) ?_
          refine mz_WP.run 80 rfl ?_
          refine mz_WP.cv rfl rfl (Nat.le_of_ble_eq_true rfl) rfl (R.1) rfl (s_rkd F R ?_)
          rw [rat_in (by omega) (by decide), a1]
          exact mz_WP.ret rfl rfl H
        | 3, _ =>
          refine mz_WP.tin (off := 52) rfl (by decide) (by decide) ?_
          refine mz_WP.run 80 rfl ?_
          refine mz_WP.cv rfl rfl (Nat.le_of_ble_eq_true rfl) rfl (R.1) rfl (s_rlame F R ?_)
          rw [rat_in (by omega) (by decide), rat_in (by omega) (by decide), a2, a3]
          have H : Q (some (.int (bI (lameB r.2.1 r.2.2.1)))) n h' := H
          refine mz_WP.ifc rfl (fun c4 => ?_) (fun c4 => ?_)
          · rw [bI_f c4] at H
            refine mz_WP.run 80 rfl ?_
            exact mz_WP.ret rfl rfl H
          · rw [bI_t c4] at H
            refine mz_WP.run 80 rfl ?_
            refine mz_WP.run 80 rfl ?_
            exact mz_WP.ret rfl rfl H
        | 4, _ =>
          refine mz_WP.tout rfl (by decide) ?_
          refine mz_WP.run 80 rfl ?_
          refine mz_WP.getf rfl (h2) rfl (Nat.le_of_ble_eq_true rfl) ?_
          refine mz_WP.getf rfl (F _ _ rfl) rfl (Nat.le_of_ble_eq_true rfl) ?_
          refine mz_WP.run 80 rfl ?_
          refine mz_WP.cv rfl rfl (Nat.le_of_ble_eq_true rfl) rfl (RJ.1) rfl (r_jofr F RJ ?_)
          rw [rat_in (by omega) (by decide), hjr p hp2]
          exact mz_WP.ret rfl rfl H
      · have c2 : ¬ i < nI (gL g c k).length := c2
        rw [if_pos (Int32.not_lt.mp c2)] at H
        refine mz_WP.run 80 rfl ?_
        exact mz_WP.ret rfl rfl H
    · have c1 : i < 0 := Int32.not_le.mp c1
      unfold rideV at H
      rw [if_pos c1] at H
      refine mz_WP.run 80 rfl ?_
      refine mz_WP.cv rfl rfl (Nat.le_of_ble_eq_true rfl) rfl (R.1) rfl (s_rsize R ?_)
      exact mz_WP.ret rfl rfl H
  · have := H h C (fun b _ => rfl)
    unfold rideR at this
    rw [partR_U _ (nI 0) c0] at this
    refine mz_WP.run 80 rfl ?_
    exact mz_WP.ret rfl rfl this
theorem s_journey {card i what : Int32} (C : CI h g kp gi) (H : ∀ h', CI h' g kp gi → (∀ b, b < 140 ∨ 185 < b → h' b = h b) → Q (some (.int (jrnR g card i what))) n h') : mz_wc (e + 7) 88 [.ref 2, .int card, .int i, .int what] n h Q := by
  refine mz_wc.enter (code := co_X10_journey) (idx := 88) rfl rfl (Nat.le_of_ble_eq_true rfl) rfl rfl ?_
  refine mz_WP.run 80 rfl ?_
  refine mz_WP.cs rfl (by decide) rfl (Nat.le_of_ble_eq_true rfl) rfl (s_refPart ?_)
  refine mz_WP.run 80 rfl ?_
  refine mz_WP.ifc rfl (fun c0 => ?_) (fun c0 => ?_)
  · obtain ⟨c, j, hc, rfl, hj, rfl, hi⟩ := partR_ok c0
    obtain ⟨k, W⟩ := C.2.2.2.1.1 c hc
    have hR : jrnR g (nI c) i (nI j) = jrnV g (gJ g (gL g c k)) i (nI j) := by
      unfold jrnR kL
      rw [partR_v hc hj hi, nI_clamp (by omega), W.k]
    rw [hR] at H
    refine mz_WP.run 80 rfl ?_
    refine mz_WP.cv rfl rfl (Nat.le_of_ble_eq_true rfl) rfl (C.2.2.1) rfl (s_reckon C hc W (fun h' C' hh B => ?_))
    have H := H h' C' hh
    obtain ⟨F, -, h2, -⟩ := id C'
    obtain ⟨-, ⟨mo, rc, lz, gz, co, jr, RJ, JR, hco, hjr⟩, -⟩ := B
    have hl : (gL g c k).length ≤ 48 := Nat.le_trans (rl_len _ _ _ _ _) W.1
    have hJl : (gJ g (gL g c k)).length ≤ 48 := Nat.le_trans (jl_len _ _ _ _) hl
    refine mz_WP.run 80 rfl ?_
    refine mz_WP.getf rfl (h2) rfl (Nat.le_of_ble_eq_true rfl) ?_
    refine mz_WP.getf rfl (F _ _ rfl) rfl (Nat.le_of_ble_eq_true rfl) ?_
    refine mz_WP.run 80 rfl ?_
    refine mz_WP.ifc rfl (fun c1 => ?_) (fun c1 => ?_)
    · have c1 : 0 ≤ i := c1
      have n0 : ¬ i < 0 := Int32.not_lt.mpr c1
      unfold jrnV at H
      rw [if_neg n0] at H
      refine mz_WP.run 80 rfl ?_
      refine mz_WP.cv rfl rfl (Nat.le_of_ble_eq_true rfl) rfl (RJ.1) rfl (r_jsize RJ ?_)
      refine mz_WP.icmp rfl (fun c2 => ?_) (fun c2 => ?_)
      · have c2 : i < nI (gJ g (gL g c k)).length := c2
        rw [if_neg (Int32.not_le.mpr c2)] at H
        obtain ⟨p, hp, rfl⟩ := nI_of n0
        have hp2 := (nI_ltI hp (by omega)).mp c2
        obtain ⟨r, hr⟩ : ∃ r, (gJ g (gL g c k))[p]? = some r := ⟨_, List.getElem?_eq_getElem hp2⟩
        obtain ⟨a1, a2, a3, a4⟩ := JR p r hr
        rw [nI_clamp hp] at H
        unfold jrnW at H
        rw [hr] at H
        refine mz_WP.run 80 rfl ?_
        match j, hj with
        | 0, _ =>
          refine mz_WP.tin (off := 31) rfl (by decide) (by decide) ?_
          refine mz_WP.run 80 rfl ?_
          refine mz_WP.cv rfl rfl (Nat.le_of_ble_eq_true rfl) rfl (RJ.1) rfl (r_jmom F RJ ?_)
          rw [rat_in (by omega) (by decide), a1]
          refine mz_WP.cs rfl (by decide) rfl (Nat.le_of_ble_eq_true rfl) rfl (s_dayOf ?_)
          exact mz_WP.ret rfl rfl H
        | 1, _ =>
          refine mz_WP.tin (off := 41) rfl (by decide) (by decide) ?_
          refine mz_WP.run 80 rfl ?_
          refine mz_WP.cv rfl rfl (Nat.le_of_ble_eq_true rfl) rfl (RJ.1) rfl (r_jrides F RJ ?_)
          rw [rat_in (by omega) (by decide), a2]
          exact mz_WP.ret rfl rfl H
        | 2, _ =>
          refine mz_WP.tin (off := 48) rfl (by decide) (by decide) ?_
          refine mz_WP.run 80 rfl ?_
          refine mz_WP.cv rfl rfl (Nat.le_of_ble_eq_true rfl) rfl (RJ.1) rfl (r_jwidth F RJ (by omega) ?_)
          rw [a3, a4]
          exact mz_WP.ret rfl rfl H
        | 3, _ =>
          refine mz_WP.tin (off := 55) rfl (by decide) (by decide) ?_
          refine mz_WP.run 80 rfl ?_
          refine mz_WP.cv rfl rfl (Nat.le_of_ble_eq_true rfl) rfl (RJ.1) rfl (r_jcostA F RJ ?_)
          rw [rat_in (by omega) (by decide), hco p r hr]
          exact mz_WP.ret rfl rfl H
        | 4, _ =>
          refine mz_WP.tout rfl (by decide) ?_
          refine mz_WP.run 80 rfl ?_
          refine mz_WP.cv rfl rfl (Nat.le_of_ble_eq_true rfl) rfl (RJ.1) rfl (r_jmom F RJ ?_)
          rw [rat_in (by omega) (by decide), a1]
          refine mz_WP.cs rfl (by decide) rfl (Nat.le_of_ble_eq_true rfl) rfl (s_busy ?_)
          have H : Q (some (.int (bI (busyB r.1)))) n h' := H
          refine mz_WP.ifc rfl (fun c4 => ?_) (fun c4 => ?_)
          · rw [bI_f c4] at H
            refine mz_WP.run 80 rfl ?_
            exact mz_WP.ret rfl rfl H
          · rw [bI_t c4] at H
            refine mz_WP.run 80 rfl ?_
            refine mz_WP.run 80 rfl ?_
            exact mz_WP.ret rfl rfl H
      · have c2 : ¬ i < nI (gJ g (gL g c k)).length := c2
        rw [if_pos (Int32.not_lt.mp c2)] at H
        refine mz_WP.run 80 rfl ?_
        exact mz_WP.ret rfl rfl H
    · have c1 : i < 0 := Int32.not_le.mp c1
      unfold jrnV at H
      rw [if_pos c1] at H
      refine mz_WP.run 80 rfl ?_
      refine mz_WP.cv rfl rfl (Nat.le_of_ble_eq_true rfl) rfl (RJ.1) rfl (r_jsize RJ ?_)
      exact mz_WP.ret rfl rfl H
  · have := H h C (fun b _ => rfl)
    unfold jrnR at this
    rw [partR_U _ (nI 0) c0] at this
    refine mz_WP.run 80 rfl ?_
    exact mz_WP.ret rfl rfl this
end P1
end
section
/-! the class: day, best, saved -/
section P2
variable {e n : Nat} {h : mz_H} {Q : mz_Q} {g : Nat → Int32} {kp : Nat} {gi : Nat → Nat → Int32}
theorem r_pcost {cf : Nat → Int32} (F : Fx h) (h1 : h 177 = .inl (0, 29, cf)) (H : Q (some (.int (cf 0))) n h) : mz_wc (e + 2) 34 [.ref 175] n h Q := by
  refine mz_wc.enter (code := co_X4_cost) (idx := 34) rfl rfl (Nat.le_of_ble_eq_true rfl) rfl rfl ?_
  refine mz_WP.run 80 rfl ?_
  refine mz_WP.getf rfl (F _ _ rfl) rfl (Nat.le_of_ble_eq_true rfl) ?_
  refine mz_WP.run 80 rfl ?_
  refine mz_WP.cv rfl rfl (Nat.le_of_ble_eq_true rfl) rfl (F _ _ rfl) rfl (s_at (F _ _ rfl) h1 (by decide) ?_)
  rw [rat_in (by decide) (by decide)]
  exact mz_WP.ret rfl rfl H
theorem r_pweeks {wf : Nat → Int32} (F : Fx h) (h1 : h 179 = .inl (0, 29, wf)) (H : Q (some (.int (wf 0))) n h) : mz_wc (e + 2) 35 [.ref 175] n h Q := by
  refine mz_wc.enter (code := co_X4_weeks) (idx := 35) rfl rfl (Nat.le_of_ble_eq_true rfl) rfl rfl ?_
  refine mz_WP.run 80 rfl ?_
  refine mz_WP.getf rfl (F _ _ rfl) rfl (Nat.le_of_ble_eq_true rfl) ?_
  refine mz_WP.run 80 rfl ?_
  refine mz_WP.cv rfl rfl (Nat.le_of_ble_eq_true rfl) rfl (F _ _ rfl) rfl (s_at (F _ _ rfl) h1 (by decide) ?_)
  rw [rat_in (by decide) (by decide)]
  exact mz_WP.ret rfl rfl H
theorem r_pstart {sr : Nat → Int32} {i : Int32} (F : Fx h) (h1 : h 183 = .inl (0, 4, sr)) (H : Q (some (.int (rat 4 sr i))) n h) : mz_wc (e + 2) 36 [.ref 175, .int i] n h Q := by
  refine mz_wc.enter (code := co_X4_start) (idx := 36) rfl rfl (Nat.le_of_ble_eq_true rfl) rfl rfl ?_
  refine mz_WP.run 80 rfl ?_
  refine mz_WP.getf rfl (F _ _ rfl) rfl (Nat.le_of_ble_eq_true rfl) ?_
  refine mz_WP.run 80 rfl ?_
  refine mz_WP.cv rfl rfl (Nat.le_of_ble_eq_true rfl) rfl (F _ _ rfl) rfl (s_at (F _ _ rfl) h1 (by decide) ?_)
  exact mz_WP.ret rfl rfl H
theorem r_pin {iw : Nat → Int32} {d : Nat} {b : Bool} (F : Fx h) (h1 : h 185 = .inl (0, 28, iw)) (hd : d < 28) (hb : iw d = bI b) (H : Q (some (.int (bI b))) n h) : mz_wc (e + 2) 37 [.ref 175, .int (nI d)] n h Q := by
  refine mz_wc.enter (code := co_X4_isInWeek) (idx := 37) rfl rfl (Nat.le_of_ble_eq_true rfl) rfl rfl ?_
  refine mz_WP.run 80 rfl ?_
  refine mz_WP.getf rfl (F _ _ rfl) rfl (Nat.le_of_ble_eq_true rfl) ?_
  refine mz_WP.run 80 rfl ?_
  refine mz_WP.cv rfl rfl (Nat.le_of_ble_eq_true rfl) rfl (F _ _ rfl) rfl (s_at (F _ _ rfl) h1 (by decide) ?_)
  rw [rat_in hd (by decide), hb]
  refine mz_WP.run 80 rfl ?_
  cases b with
  | true =>
    refine mz_WP.icmp rfl (fun c => ?_) (fun c => ?_)
    · exact absurd rfl c
    · refine mz_WP.run 80 rfl ?_
      refine mz_WP.run 80 rfl ?_
      exact mz_WP.zret rfl rfl (Or.inr rfl) H
  | false =>
    refine mz_WP.icmp rfl (fun c => ?_) (fun c => ?_)
    · refine mz_WP.run 80 rfl ?_
      exact mz_WP.zret rfl rfl (Or.inl rfl) H
    · exact absurd (show ¬ (0 : Int32) = 1 by decide) c
theorem s_day {card day what : Int32} (C : CI h g kp gi) (H : ∀ h', CI h' g kp gi → (∀ b, b < 140 ∨ 185 < b → h' b = h b) → Q (some (.int (dayR g card day what))) n h') : mz_wc (e + 7) 89 [.ref 2, .int card, .int day, .int what] n h Q := by
  refine mz_wc.enter (code := co_X10_day) (idx := 89) rfl rfl (Nat.le_of_ble_eq_true rfl) rfl rfl ?_
  refine mz_WP.run 80 rfl ?_
  refine mz_WP.cs rfl (by decide) rfl (Nat.le_of_ble_eq_true rfl) rfl (s_isCard ?_)
  refine mz_WP.ifc rfl (fun c0 => ?_) (fun c0 => ?_)
  · have c0 := bI_t c0
    obtain ⟨c, -, hc, rfl⟩ := inB_of (by decide) (by decide) c0
    unfold dayR at H
    rw [if_neg (by rw [c0]; decide)] at H
    have out : (inB day (nI 0) (nI 27) = false ∨ inB what (nI 0) (nI 3) = false) → mz_WP (mz_wc (e + 6)) (e + 6) 1 co_X10_day Q 25 [some (.ref 2), some (.int (nI c)), some (.int day), some (.int what)] [] n h 0 0 := by
      intro ho
      have H := H h C (fun b _ => rfl)
      rw [if_pos ho] at H
      refine mz_WP.run 80 rfl ?_
      exact mz_WP.ret rfl rfl H
    refine mz_WP.run 80 rfl ?_
    refine mz_WP.cs rfl (by decide) rfl (Nat.le_of_ble_eq_true rfl) rfl (s_isDay ?_)
    refine mz_WP.ifc rfl (fun c1 => ?_) (fun c1 => ?_)
    · exact out (Or.inl (bI_f c1))
    · have c1 := bI_t c1
      refine mz_WP.run 80 rfl ?_
      refine mz_WP.cs rfl (by decide) rfl (Nat.le_of_ble_eq_true rfl) rfl (s_within ?_)
      refine mz_WP.ifc rfl (fun c2 => ?_) (fun c2 => ?_)
      · have c2 := bI_t c2
        rw [if_neg (fun z => z.elim (fun z => by rw [c1] at z; exact absurd z (by decide)) (fun z => by rw [c2] at z; exact absurd z (by decide)))] at H
        obtain ⟨d, -, hd, rfl⟩ := inB_of (by decide) (by decide) c1
        obtain ⟨j, -, hj, rfl⟩ := inB_of (by decide) (by decide) c2
        obtain ⟨k, W⟩ := C.2.2.2.1.1 c (by omega)
        unfold kL at H
        rw [nI_clamp (by omega), nI_clamp (by omega), W.k] at H
        refine mz_WP.run 80 rfl ?_
        refine mz_WP.cv rfl rfl (Nat.le_of_ble_eq_true rfl) rfl (C.2.2.1) rfl (s_reckon C (by omega) W (fun h' C' hh B => ?_))
        have H := H h' C' hh
        obtain ⟨F, -, h2, -⟩ := id C'
        obtain ⟨-, -, ⟨sm, wd, ow, RD, hD⟩, ⟨cf, wf, wb, sr, iw, ⟨p1, p2, p3, p4, p5⟩, a1, a2, a3, a4⟩⟩ := B
        obtain ⟨d1, d2, d3⟩ := hD d (by omega)
        unfold dayV at H
        refine mz_WP.run 80 rfl ?_
        rcases (show j = 0 ∨ j = 1 ∨ j = 2 ∨ j = 3 by omega) with rfl | rfl | rfl | rfl
        · refine mz_WP.tin (off := 26) rfl (by decide) (by decide) ?_
          refine mz_WP.run 80 rfl ?_
          refine mz_WP.getf rfl (h2) rfl (Nat.le_of_ble_eq_true rfl) ?_
          refine mz_WP.getf rfl (F _ _ rfl) rfl (Nat.le_of_ble_eq_true rfl) ?_
          refine mz_WP.run 80 rfl ?_
          refine mz_WP.cv rfl rfl (Nat.le_of_ble_eq_true rfl) rfl (F _ _ rfl) rfl (r_dsum F RD ?_)
          rw [rat_in (by omega) (by decide), d1]
          exact mz_WP.ret rfl rfl H
        · refine mz_WP.tin (off := 38) rfl (by decide) (by decide) ?_
          refine mz_WP.run 80 rfl ?_
          refine mz_WP.getf rfl (h2) rfl (Nat.le_of_ble_eq_true rfl) ?_
          refine mz_WP.getf rfl (F _ _ rfl) rfl (Nat.le_of_ble_eq_true rfl) ?_
          refine mz_WP.run 80 rfl ?_
          refine mz_WP.cv rfl rfl (Nat.le_of_ble_eq_true rfl) rfl (F _ _ rfl) rfl (r_dwidth F RD ?_)
          rw [rat_in (by omega) (by decide), d2]
          exact mz_WP.ret rfl rfl H
        · refine mz_WP.tin (off := 50) rfl (by decide) (by decide) ?_
          refine mz_WP.run 80 rfl ?_
          refine mz_WP.getf rfl (h2) rfl (Nat.le_of_ble_eq_true rfl) ?_
          refine mz_WP.getf rfl (F _ _ rfl) rfl (Nat.le_of_ble_eq_true rfl) ?_
          refine mz_WP.run 80 rfl ?_
          refine mz_WP.cv rfl rfl (Nat.le_of_ble_eq_true rfl) rfl (F _ _ rfl) rfl (r_dowed F RD ?_)
          rw [rat_in (by omega) (by decide), d3]
          exact mz_WP.ret rfl rfl H
        · refine mz_WP.tout rfl (by decide) ?_
          refine mz_WP.run 80 rfl ?_
          refine mz_WP.getf rfl (h2) rfl (Nat.le_of_ble_eq_true rfl) ?_
          refine mz_WP.getf rfl (F _ _ rfl) rfl (Nat.le_of_ble_eq_true rfl) ?_
          refine mz_WP.run 80 rfl ?_
          refine mz_WP.cv rfl rfl (Nat.le_of_ble_eq_true rfl) rfl (F _ _ rfl) rfl (r_pin F p5 (by omega) (a4 d (by omega)) ?_)
          rw [if_neg (show ¬ nI 3 = nI 0 by decide), if_neg (show ¬ nI 3 = nI 1 by decide), if_neg (show ¬ nI 3 = nI 2 by decide)] at H
          refine mz_WP.ifc rfl (fun c4 => ?_) (fun c4 => ?_)
          · rw [bI_f c4] at H
            refine mz_WP.run 80 rfl ?_
            exact mz_WP.ret rfl rfl H
          · rw [bI_t c4] at H
            refine mz_WP.run 80 rfl ?_
            refine mz_WP.run 80 rfl ?_
            exact mz_WP.ret rfl rfl H
      · exact out (Or.inr (bI_f (Classical.byContradiction c2)))
  · have c0 := bI_f (Classical.byContradiction c0)
    have H := H h C (fun b _ => rfl)
    unfold dayR at H
    rw [if_pos c0] at H
    refine mz_WP.run 80 rfl ?_
    exact mz_WP.ret rfl rfl H
theorem s_best {card what : Int32} (C : CI h g kp gi) (H : ∀ h', CI h' g kp gi → (∀ b, b < 140 ∨ 185 < b → h' b = h b) → Q (some (.int (bestR g card what))) n h') : mz_wc (e + 7) 90 [.ref 2, .int card, .int what] n h Q := by
  refine mz_wc.enter (code := co_X10_best) (idx := 90) rfl rfl (Nat.le_of_ble_eq_true rfl) rfl rfl ?_
  refine mz_WP.run 80 rfl ?_
  refine mz_WP.cs rfl (by decide) rfl (Nat.le_of_ble_eq_true rfl) rfl (s_isCard ?_)
  refine mz_WP.ifc rfl (fun c0 => ?_) (fun c0 => ?_)
  · have c0 := bI_t c0
    obtain ⟨c, -, hc, rfl⟩ := inB_of (by decide) (by decide) c0
    unfold bestR at H
    rw [if_neg (by rw [c0]; decide)] at H
    have ok : ¬ (inB what (nI 0) (nI 1) = false ∧ inB what (nI 10) (nI 13) = false) → mz_WP (mz_wc (e + 6)) (e + 6) 1 co_X10_best Q 32 [some (.ref 2), some (.int (nI c)), some (.int what), none] [] n h 0 0 := by
      intro ho
      rw [if_neg ho] at H
      obtain ⟨k, W⟩ := C.2.2.2.1.1 c (by omega)
      unfold kL at H
      rw [nI_clamp (by omega), W.k] at H
      refine mz_WP.run 80 rfl ?_
      refine mz_WP.cv rfl rfl (Nat.le_of_ble_eq_true rfl) rfl (C.2.2.1) rfl (s_reckon C (by omega) W (fun h' C' hh B => ?_))
      have H := H h' C' hh
      obtain ⟨F, -, h2, -⟩ := id C'
      obtain ⟨-, -, -, ⟨cf, wf, wb, sr, iw, ⟨p1, p2, p3, p4, p5⟩, a1, a2, a3, a4⟩⟩ := B
      unfold bestV at H
      refine mz_WP.run 80 rfl ?_
      refine mz_WP.getf rfl (h2) rfl (Nat.le_of_ble_eq_true rfl) ?_
      refine mz_WP.getf rfl (F _ _ rfl) rfl (Nat.le_of_ble_eq_true rfl) ?_
      refine mz_WP.run 80 rfl ?_
      refine mz_WP.ifc rfl (fun c1 => ?_) (fun c1 => ?_)
      · have c1 : ¬ what = 0 := c1
        rw [if_neg (show ¬ what = nI 0 from c1)] at H
        refine mz_WP.run 80 rfl ?_
        refine mz_WP.icmp rfl (fun c2 => ?_) (fun c2 => ?_)
        · have c2 : ¬ what = nI 1 := c2
          rw [if_neg c2] at H
          have h10 : inB what (nI 10) (nI 13) = true := by
            cases hb : inB what (nI 10) (nI 13) with
            | true => rfl
            | false =>
              have h01 : inB what (nI 0) (nI 1) = true := tF (fun z => ho ⟨z, hb⟩)
              obtain ⟨j, -, hj, rfl⟩ := inB_of (by decide) (by decide) h01
              rcases (show j = 0 ∨ j = 1 by omega) with rfl | rfl
              · exact absurd rfl c1
              · exact absurd rfl c2
          obtain ⟨j, hj1, hj2, rfl⟩ := inB_of (by decide) (by decide) h10
          have e10 : nI j - nI 10 = nI (j - 10) := pk_sub (by omega)
          rw [e10, nI_clamp (by omega)] at H
          have hw4 := wkd_4 (ow := gO g (gJ g (gL g c k))) (wk := gK g (gJ g (gL g c k)))
          have hwk : wf 0 = nI (wkd (bgn (gO g (gJ g (gL g c k))) (gK g (gJ g (gL g c k)))) 0).length := by rw [a2, dpv_weeks 28 0 rfl]
          refine mz_WP.run 80 rfl ?_
          refine mz_WP.cv rfl rfl (Nat.le_of_ble_eq_true rfl) rfl (F _ _ rfl) rfl (r_pweeks F p2 ?_)
          rw [e10, hwk]
          refine mz_WP.icmp rfl (fun c3 => ?_) (fun c3 => ?_)
          · have hge : (wkd (bgn (gO g (gJ g (gL g c k))) (gK g (gJ g (gL g c k)))) 0).length ≤ j - 10 := by
              rcases Nat.lt_or_ge (j - 10) (wkd (bgn (gO g (gJ g (gL g c k))) (gK g (gJ g (gL g c k)))) 0).length with z | z
              · exact absurd c3 (nI_ge z (by omega))
              · exact z
            rw [List.getElem?_eq_none hge] at H
            refine mz_WP.run 80 rfl ?_
            exact mz_WP.ret rfl rfl H
          · have hlt : j - 10 < (wkd (bgn (gO g (gJ g (gL g c k))) (gK g (gJ g (gL g c k)))) 0).length := by
              rcases Nat.lt_or_ge (j - 10) (wkd (bgn (gO g (gJ g (gL g c k))) (gK g (gJ g (gL g c k)))) 0).length with z | z
              · exact z
              · exact absurd (nI_le z (by omega)) c3
            obtain ⟨s, hs⟩ : ∃ s, (wkd (bgn (gO g (gJ g (gL g c k))) (gK g (gJ g (gL g c k)))) 0)[j - 10]? = some s := ⟨_, List.getElem?_eq_getElem hlt⟩
            rw [hs] at H
            refine mz_WP.run 80 rfl ?_
            rw [e10]
            refine mz_WP.cv rfl rfl (Nat.le_of_ble_eq_true rfl) rfl (F _ _ rfl) rfl (r_pstart F p4 ?_)
            rw [rat_in (by omega) (by decide), a3 _ s hs]
            refine mz_WP.run 80 rfl ?_
            exact mz_WP.ret rfl rfl H
        · have c2 : what = nI 1 := Classical.byContradiction c2
          rw [if_pos c2, ← a2] at H
          refine mz_WP.run 80 rfl ?_
          refine mz_WP.cv rfl rfl (Nat.le_of_ble_eq_true rfl) rfl (F _ _ rfl) rfl (r_pweeks F p2 ?_)
          exact mz_WP.ret rfl rfl H
      · have c1 : what = 0 := Classical.byContradiction c1
        rw [if_pos (show what = nI 0 from c1)] at H
        unfold costV at H
        rw [← a1] at H
        refine mz_WP.run 80 rfl ?_
        refine mz_WP.cv rfl rfl (Nat.le_of_ble_eq_true rfl) rfl (F _ _ rfl) rfl (r_pcost F p1 ?_)
        exact mz_WP.ret rfl rfl H
    refine mz_WP.run 80 rfl ?_
    refine mz_WP.cs rfl (by decide) rfl (Nat.le_of_ble_eq_true rfl) rfl (s_within ?_)
    refine mz_WP.ifc rfl (fun c1 => ?_) (fun c1 => ?_)
    · exact ok (fun z => by rw [bI_t c1] at z; exact absurd z.1 (by decide))
    · have c1 := bI_f (Classical.byContradiction c1)
      refine mz_WP.run 80 rfl ?_
      refine mz_WP.cs rfl (by decide) rfl (Nat.le_of_ble_eq_true rfl) rfl (s_within ?_)
      refine mz_WP.ifc rfl (fun c2 => ?_) (fun c2 => ?_)
      · exact ok (fun z => by rw [bI_t c2] at z; exact absurd z.2 (by decide))
      · have c2 := bI_f (Classical.byContradiction c2)
        have H := H h C (fun b _ => rfl)
        rw [if_pos ⟨c1, c2⟩] at H
        refine mz_WP.run 80 rfl ?_
        exact mz_WP.ret rfl rfl H
  · have c0 := bI_f (Classical.byContradiction c0)
    have H := H h C (fun b _ => rfl)
    unfold bestR at H
    rw [if_pos c0] at H
    refine mz_WP.run 80 rfl ?_
    exact mz_WP.ret rfl rfl H
theorem s_saved {card what : Int32} (C : CI h g kp gi) (H : ∀ h', CI h' g kp gi → (∀ b, b < 140 ∨ 185 < b → h' b = h b) → Q (some (.int (savedR g card what))) n h') : mz_wc (e + 7) 91 [.ref 2, .int card, .int what] n h Q := by
  refine mz_wc.enter (code := co_X10_saved) (idx := 91) rfl rfl (Nat.le_of_ble_eq_true rfl) rfl rfl ?_
  refine mz_WP.run 80 rfl ?_
  refine mz_WP.cs rfl (by decide) rfl (Nat.le_of_ble_eq_true rfl) rfl (s_isCard ?_)
  refine mz_WP.ifc rfl (fun c0 => ?_) (fun c0 => ?_)
  · have c0 := bI_t c0
    obtain ⟨c, -, hc, rfl⟩ := inB_of (by decide) (by decide) c0
    unfold savedR at H
    rw [if_neg (by rw [c0]; decide)] at H
    refine mz_WP.run 80 rfl ?_
    refine mz_WP.cs rfl (by decide) rfl (Nat.le_of_ble_eq_true rfl) rfl (s_within ?_)
    refine mz_WP.ifc rfl (fun c1 => ?_) (fun c1 => ?_)
    · have c1 := bI_t c1
      rw [if_neg (by rw [c1]; decide)] at H
      obtain ⟨k, W⟩ := C.2.2.2.1.1 c (by omega)
      unfold kL at H
      rw [nI_clamp (by omega), W.k] at H
      refine mz_WP.run 80 rfl ?_
      refine mz_WP.cv rfl rfl (Nat.le_of_ble_eq_true rfl) rfl (C.2.2.1) rfl (s_reckon C (by omega) W (fun h' C' hh B => ?_))
      have H := H h' C' hh
      obtain ⟨F, -, h2, -⟩ := id C'
      obtain ⟨-, -, ⟨sm, wd, ow, RD, hD⟩, ⟨cf, wf, wb, sr, iw, ⟨p1, p2, p3, p4, p5⟩, a1, a2, a3, a4⟩⟩ := B
      have e1 : rsum sm 28 = rsum (dsm (frG g) (g 411) (gJ g (gL g c k))) 28 := rsum_c 28 (fun d hd => (hD d hd).1)
      have e2 : rsum ow 28 = rsum (gO g (gJ g (gL g c k))) 28 := rsum_c 28 (fun d hd => (hD d hd).2.2)
      unfold savedV costV at H
      rw [← a1, ← e1, ← e2] at H
      refine mz_WP.run 80 rfl ?_
      refine mz_WP.getf rfl (h2) rfl (Nat.le_of_ble_eq_true rfl) ?_
      refine mz_WP.getf rfl (F _ _ rfl) rfl (Nat.le_of_ble_eq_true rfl) ?_
      refine mz_WP.cv rfl rfl (Nat.le_of_ble_eq_true rfl) rfl (F _ _ rfl) rfl (r_dallO F RD ?_)
      refine mz_WP.run 80 rfl ?_
      refine mz_WP.ifc rfl (fun c2 => ?_) (fun c2 => ?_)
      · have c2 : ¬ what = nI 0 := c2
        rw [if_neg c2] at H
        refine mz_WP.run 80 rfl ?_
        refine mz_WP.getf rfl (h2) rfl (Nat.le_of_ble_eq_true rfl) ?_
        refine mz_WP.getf rfl (F _ _ rfl) rfl (Nat.le_of_ble_eq_true rfl) ?_
        refine mz_WP.cv rfl rfl (Nat.le_of_ble_eq_true rfl) rfl (F _ _ rfl) rfl (r_pcost F p1 ?_)
        refine mz_WP.run 80 rfl ?_
        exact mz_WP.ret rfl rfl H
      · have c2 : what = nI 0 := Classical.byContradiction c2
        rw [if_pos c2] at H
        refine mz_WP.run 80 rfl ?_
        refine mz_WP.getf rfl (h2) rfl (Nat.le_of_ble_eq_true rfl) ?_
        refine mz_WP.getf rfl (F _ _ rfl) rfl (Nat.le_of_ble_eq_true rfl) ?_
        refine mz_WP.cv rfl rfl (Nat.le_of_ble_eq_true rfl) rfl (F _ _ rfl) rfl (r_dallS F RD ?_)
        refine mz_WP.run 80 rfl ?_
        exact mz_WP.ret rfl rfl H
    · have c1 := bI_f (Classical.byContradiction c1)
      have H := H h C (fun b _ => rfl)
      rw [if_pos c1] at H
      refine mz_WP.run 80 rfl ?_
      exact mz_WP.ret rfl rfl H
  · have c0 := bI_f (Classical.byContradiction c0)
    have H := H h C (fun b _ => rfl)
    unfold savedR at H
    rw [if_pos c0] at H
    refine mz_WP.run 80 rfl ?_
    exact mz_WP.ret rfl rfl H
end P2
end
section
/-! the class: zone, price, bar, hear, pass -/
theorem rat_c {m : Nat} (hm : m < 2 ^ 31) {f f' : Nat → Int32} (h : ∀ j, j < m → f j = f' j) : rat m f = rat m f' := by
  funext i
  unfold rat
  split
  · rfl
  · rename_i h0
    split
    · rfl
    · rename_i h1
      obtain ⟨j, hj, rfl⟩ := nI_of h0
      rw [nI_leI hm hj] at h1
      rw [nI_clamp hj]
      exact h j (by omega)
section P3
variable {e n : Nat} {h h' : mz_H} {Q : mz_Q} {g g' : Nat → Int32} {kp : Nat} {gi : Nat → Nat → Int32} {a : Nat} {zr fr cr wr : Nat → Int32} {mo ne : Int32}
theorem BS.to (B : BS h) (hh : ∀ b, 140 ≤ b → b ≤ 185 → h' b = h b) : BS h' := by
  obtain ⟨⟨z0, b1, b2, b3, b4, b5, b6, b7, g0, g1, g2, g3, g4, g5, g6, g7⟩, ⟨z1, c1, c2, c3, c4, c5, c6, f0, f1, f2, f3, f4, f5, f6⟩, ⟨d1, d2, d3, i1, i2, i3⟩, p1, p2, p3, p4, p5, q1, q2, q3, q4, q5⟩ := B
  have t : ∀ {b x}, 140 ≤ b → b ≤ 185 → h b = x → h' b = x := fun h1 h2 h3 => (hh _ h1 h2).trans h3
  exact ⟨⟨z0, b1, b2, b3, b4, b5, b6, b7, t (by omega) (by omega) g0, t (by omega) (by omega) g1, t (by omega) (by omega) g2, t (by omega) (by omega) g3, t (by omega) (by omega) g4, t (by omega) (by omega) g5, t (by omega) (by omega) g6, t (by omega) (by omega) g7⟩, ⟨z1, c1, c2, c3, c4, c5, c6, t (by omega) (by omega) f0, t (by omega) (by omega) f1, t (by omega) (by omega) f2, t (by omega) (by omega) f3, t (by omega) (by omega) f4, t (by omega) (by omega) f5, t (by omega) (by omega) f6⟩, ⟨d1, d2, d3, t (by omega) (by omega) i1, t (by omega) (by omega) i2, t (by omega) (by omega) i3⟩, p1, p2, p3, p4, p5, t (by omega) (by omega) q1, t (by omega) (by omega) q2, t (by omega) (by omega) q3, t (by omega) (by omega) q4, t (by omega) (by omega) q5⟩
theorem CI.now (C : CI h g kp gi) (hh : ∀ b, b < 3 ∨ 45 < b → h' b = h b) (F : Fx h') (W : WF g') (R : Rep 3 h' g') : CI h' g' kp gi := by
  obtain ⟨c1, c2, c3, c4, c5, ⟨z, m, s, w, c6⟩, c7, c8, c9, c10⟩ := C
  exact ⟨F, c2.to (fun b h1 _ => hh b (by omega)), (hh 2 (by omega)).trans c3, W, R, ⟨z, m, s, w, c6.to (fun b h1 _ => hh b (by omega))⟩, c7.to (fun b h1 _ => hh b (by omega)), c8.to (fun b h1 _ => hh b (by omega)), c9, fun i hi hk => ⟨(c10 i hi hk).1, (c10 i hi hk).2.to (fun b h1 _ => hh b (by omega))⟩⟩
theorem WFc.gg {c k : Nat} (W : WFc g c k) (hc : c < 4) (hg : ∀ x, x < 388 → g' x = g x) : WFc g' c k := by
  obtain ⟨w1, w2, w3, w4, w5⟩ := W
  have e1 : ∀ j, j < k → gm g' c j = gm g c j := fun j hj => hg _ (by omega)
  have e2 : ∀ j, j < k → gw g' c j = gw g c j := fun j hj => hg _ (by omega)
  exact ⟨w1, (hg _ (by omega)).trans w2, fun j hj => by rw [e1 j hj]; exact w3 j hj, fun j hj => by rw [e2 j hj]; exact w4 j hj, fun i j hi hj => by rw [e1 i (by omega), e1 j hj]; exact w5 i j hi hj⟩
theorem RepT.gg {t c k : Nat} (R : RepT h t g c k) (hc : c < 4) (hk : k ≤ 48) (hg : ∀ x, x < 388 → g' x = g x) : RepT h t g' c k := by
  obtain ⟨m, s, w, T, r⟩ := R
  have e1 : ∀ j, j < k → gm g' c j = gm g c j := fun j hj => hg _ (by omega)
  have e2 : ∀ j, j < k → gw g' c j = gw g c j := fun j hj => hg _ (by omega)
  refine ⟨m, s, w, T, fun j hj => ?_⟩
  obtain ⟨r1, r2, r3⟩ := r j hj
  refine ⟨by rw [e1 j hj]; exact r1, ?_, ?_⟩
  · rw [r2]
    unfold gS
    rw [e2 j hj]
  · rw [r3]
    unfold gY
    rw [e2 j hj]
theorem RepP.gg (R : RepP h a g) (hg : ∀ x, 388 ≤ x → x ≤ 412 → g' x = g x) : RepP h a g' := by
  obtain ⟨zr, fr, cr, wr, T, t1, t2, t3, t4⟩ := R
  have ez : rat 8 (zG g) = rat 8 (zG g') := rat_c (by decide) (fun j hj => (hg _ (by omega) (by omega)).symm)
  have ef : rat 6 (frG g) = rat 6 (frG g') := rat_c (by decide) (fun j hj => by
    unfold frG
    split
    · rfl
    · exact (hg _ (by omega) (by omega)).symm)
  have ec : rat 6 (crG g) = rat 6 (crG g') := rat_c (by decide) (fun j hj => by
    unfold crG
    split
    · rfl
    · exact (hg _ (by omega) (by omega)).symm)
  have ew : rat 6 (wrG g) = rat 6 (wrG g') := rat_c (by decide) (fun j hj => by
    unfold wrG
    split
    · rfl
    · exact (hg _ (by omega) (by omega)).symm)
  exact ⟨zr, fr, cr, wr, by rw [hg 411 (by omega) (by omega), hg 412 (by omega) (by omega)]; exact T, t1.trans ez, t2.trans ef, t3.trans ec, t4.trans ew⟩
theorem RepB.gg (R : RepB h a g) (hg : ∀ x, 413 ≤ x → x ≤ 422 → g' x = g x) : RepB h a g' := by
  obtain ⟨nb, bb, T, r⟩ := R
  exact ⟨nb, bb, by rw [hg 413 (by omega) (by omega), hg 414 (by omega) (by omega)]; exact T, fun i hi => by rw [hg (415 + i) (by omega) (by omega), hg (419 + i) (by omega) (by omega)]; exact r i hi⟩
theorem TrA.u2 {f : Nat → Int32} (T : TrA h a zr fr cr wr mo ne) : TrA (mz_up h (a + 2) (.inl (0, 8, f))) a f fr cr wr mo ne := by
  obtain ⟨e0, ⟨e1, e3, e5, e7⟩, e2, e4, e6, e8⟩ := T
  exact ⟨(mz_up_n (by omega)).trans e0, ⟨(mz_up_n (by omega)).trans e1, (mz_up_n (by omega)).trans e3, (mz_up_n (by omega)).trans e5, (mz_up_n (by omega)).trans e7⟩, mz_up_s, (mz_up_n (by omega)).trans e4, (mz_up_n (by omega)).trans e6, (mz_up_n (by omega)).trans e8⟩
theorem TrA.u4 {f : Nat → Int32} (T : TrA h a zr fr cr wr mo ne) : TrA (mz_up h (a + 4) (.inl (0, 6, f))) a zr f cr wr mo ne := by
  obtain ⟨e0, ⟨e1, e3, e5, e7⟩, e2, e4, e6, e8⟩ := T
  exact ⟨(mz_up_n (by omega)).trans e0, ⟨(mz_up_n (by omega)).trans e1, (mz_up_n (by omega)).trans e3, (mz_up_n (by omega)).trans e5, (mz_up_n (by omega)).trans e7⟩, (mz_up_n (by omega)).trans e2, mz_up_s, (mz_up_n (by omega)).trans e6, (mz_up_n (by omega)).trans e8⟩
theorem TrA.u6 {f : Nat → Int32} (T : TrA h a zr fr cr wr mo ne) : TrA (mz_up h (a + 6) (.inl (0, 6, f))) a zr fr f wr mo ne := by
  obtain ⟨e0, ⟨e1, e3, e5, e7⟩, e2, e4, e6, e8⟩ := T
  exact ⟨(mz_up_n (by omega)).trans e0, ⟨(mz_up_n (by omega)).trans e1, (mz_up_n (by omega)).trans e3, (mz_up_n (by omega)).trans e5, (mz_up_n (by omega)).trans e7⟩, (mz_up_n (by omega)).trans e2, (mz_up_n (by omega)).trans e4, mz_up_s, (mz_up_n (by omega)).trans e8⟩
theorem TrA.u8 {f : Nat → Int32} (T : TrA h a zr fr cr wr mo ne) : TrA (mz_up h (a + 8) (.inl (0, 6, f))) a zr fr cr f mo ne := by
  obtain ⟨e0, ⟨e1, e3, e5, e7⟩, e2, e4, e6, e8⟩ := T
  exact ⟨(mz_up_n (by omega)).trans e0, ⟨(mz_up_n (by omega)).trans e1, (mz_up_n (by omega)).trans e3, (mz_up_n (by omega)).trans e5, (mz_up_n (by omega)).trans e7⟩, (mz_up_n (by omega)).trans e2, (mz_up_n (by omega)).trans e4, (mz_up_n (by omega)).trans e6, mz_up_s⟩
theorem TrA.u0 {x y : Int32} (T : TrA h a zr fr cr wr mo ne) : TrA (mz_up h a (.inr (9, [.ref (a + 1), .ref (a + 3), .ref (a + 5), .ref (a + 7), .int x, .int y]))) a zr fr cr wr x y := by
  obtain ⟨e0, ⟨e1, e3, e5, e7⟩, e2, e4, e6, e8⟩ := T
  exact ⟨mz_up_s, ⟨(mz_up_n (by omega)).trans e1, (mz_up_n (by omega)).trans e3, (mz_up_n (by omega)).trans e5, (mz_up_n (by omega)).trans e7⟩, (mz_up_n (by omega)).trans e2, (mz_up_n (by omega)).trans e4, (mz_up_n (by omega)).trans e6, (mz_up_n (by omega)).trans e8⟩
theorem s_putZone {i v : Int32} (T : TrA h a zr fr cr wr mo ne) (H : Q none n (mz_up h (a + 2) (.inl (0, 8, rput 8 zr i v)))) : mz_wc (e + 2) 73 [.ref a, .int i, .int v] n h Q := by
  refine mz_wc.enter (code := co_X9_putZone) (idx := 73) rfl rfl (Nat.le_of_ble_eq_true rfl) rfl rfl ?_
  refine mz_WP.run 80 rfl ?_
  refine mz_WP.getf rfl (T.1) rfl (Nat.le_of_ble_eq_true rfl) ?_
  refine mz_WP.run 80 rfl ?_
  refine mz_WP.cv rfl rfl (Nat.le_of_ble_eq_true rfl) rfl (T.2.1.1) rfl (s_put T.2.1.1 T.2.2.1 (by omega) (by decide) ?_)
  exact mz_WP.vret rfl rfl H
def zoneR (g : Nat → Int32) (x y : Int32) : Int32 := if inB x (nI 0) (nI 7) = false then U1 else if inB y (nI 1) (nI 5) = false then U2 else g (388 + x.toNatClampNeg)
def zoneG (g : Nat → Int32) (x y : Int32) : Nat → Int32 := if inB x (nI 0) (nI 7) = false then g else if inB y (nI 1) (nI 5) = false then g else upd g (388 + x.toNatClampNeg) y
theorem WF.up {i : Nat} {v : Int32} (W : WF g) (hi : 388 ≤ i) (hz : i < 396 → ∃ z, 1 ≤ z ∧ z ≤ 5 ∧ v = nI z) (hb : i = 413 ∨ 419 ≤ i → ∃ b, b < 16 ∧ v = nI b) : WF (upd g i v) := by
  obtain ⟨w1, w2, w3, w4⟩ := W
  refine ⟨fun c hc => ?_, fun j hj => ?_, ?_, fun r hr => ?_⟩
  · obtain ⟨k, W⟩ := w1 c hc
    exact ⟨k, W.gg hc (fun x hx => updN (by omega))⟩
  · by_cases e : 388 + j = i
    · subst e
      rw [updS]
      exact hz (by omega)
    · rw [updN e]
      exact w2 j hj
  · by_cases e : 413 = i
    · subst e
      rw [updS]
      exact hb (Or.inl rfl)
    · rw [updN e]
      exact w3
  · by_cases e : 419 + r = i
    · subst e
      rw [updS]
      exact hb (Or.inr (by omega))
    · rw [updN e]
      exact w4 r hr
theorem s_zone {x y : Int32} (C : CI h g kp gi) (H : ∀ h', CI h' (zoneG g x y) kp gi → (∀ b, 45 < b → h' b = h b) → Q (some (.int (zoneR g x y))) n h') : mz_wc (e + 7) 82 [.ref 2, .int x, .int y] n h Q := by
  unfold zoneG zoneR at H
  refine mz_wc.enter (code := co_X10_zone) (idx := 82) rfl rfl (Nat.le_of_ble_eq_true rfl) rfl rfl ?_
  refine mz_WP.run 80 rfl ?_
  refine mz_WP.cs rfl (by decide) rfl (Nat.le_of_ble_eq_true rfl) rfl (s_isStation ?_)
  refine mz_WP.ifc rfl (fun c0 => ?_) (fun c0 => ?_)
  · have c0 := bI_t c0
    have n0 : ¬ inB x (nI 0) (nI 7) = false := by rw [c0]; decide
    rw [if_neg n0, if_neg n0] at H
    refine mz_WP.run 80 rfl ?_
    refine mz_WP.cs rfl (by decide) rfl (Nat.le_of_ble_eq_true rfl) rfl (s_isWidth ?_)
    refine mz_WP.ifc rfl (fun c1 => ?_) (fun c1 => ?_)
    · have c1 := bI_t c1
      have n1 : ¬ inB y (nI 1) (nI 5) = false := by rw [c1]; decide
      rw [if_neg n1, if_neg n1] at H
      obtain ⟨s, -, hs, rfl⟩ := inB_of (by decide) (by decide) c0
      obtain ⟨z, hz1, hz2, rfl⟩ := inB_of (by decide) (by decide) c1
      rw [nI_clamp (by omega)] at H
      obtain ⟨F, B, h2, W, R, -⟩ := id C
      obtain ⟨R1, ⟨zr, fr, cr, wr, Tr, t1, t2, t3, t4⟩, R3⟩ := R
      refine mz_WP.run 80 rfl ?_
      refine mz_WP.getf rfl (h2) rfl (Nat.le_of_ble_eq_true rfl) ?_
      refine mz_WP.getf rfl (F _ _ rfl) rfl (Nat.le_of_ble_eq_true rfl) ?_
      refine mz_WP.run 80 rfl ?_
      refine mz_WP.cv rfl rfl (Nat.le_of_ble_eq_true rfl) rfl (Tr.1) rfl (s_zoneOf Tr ?_)
      rw [t1, rat_in (by omega) (by decide)]
      refine mz_WP.run 80 rfl ?_
      refine mz_WP.getf rfl (h2) rfl (Nat.le_of_ble_eq_true rfl) ?_
      refine mz_WP.getf rfl (F _ _ rfl) rfl (Nat.le_of_ble_eq_true rfl) ?_
      refine mz_WP.run 80 rfl ?_
      refine mz_WP.cv rfl rfl (Nat.le_of_ble_eq_true rfl) rfl (Tr.1) rfl (s_putZone Tr ?_)
      rw [rput_in (by omega) (by decide)]
      refine mz_WP.run 80 rfl ?_
      refine mz_WP.ret rfl rfl (H _ (C.now (fun b hb => mz_up_n (by omega)) (F.up rfl) (W.up (by omega) (fun _ => ⟨z, hz1, hz2, rfl⟩) (fun q => by omega)) ⟨fun c hc => ?_, ?_, ?_⟩) (fun b hb => mz_up_n (by omega)))
      · obtain ⟨k, Wc, RT⟩ := R1 c hc
        exact ⟨k, Wc.gg hc (fun q hq => updN (by omega)), (RT.to (fun b h1 h2 => mz_up_n (by omega))).gg hc Wc.1 (fun q hq => updN (by omega))⟩
      · refine ⟨upd zr s (nI z), fr, cr, wr, ?_, ?_, t2.trans ?_, t3.trans ?_, t4.trans ?_⟩
        · rw [updN (show 411 ≠ 388 + s by omega), updN (show 412 ≠ 388 + s by omega)]
          exact Tr.u2
        · refine rat_c (by decide) (fun j hj => ?_)
          by_cases hjs : j = s
          · subst hjs
            show _ = upd g (388 + j) (nI z) (388 + j)
            rw [updS, updS]
          · show _ = upd g (388 + s) (nI z) (388 + j)
            rw [updN hjs, updN (by omega)]
            have := congrFun t1 (nI j)
            rw [rat_in hj (by decide), rat_in hj (by decide)] at this
            exact this
        · refine rat_c (by decide) (fun j hj => ?_)
          unfold frG
          split
          · rfl
          · rw [updN (by omega)]
        · refine rat_c (by decide) (fun j hj => ?_)
          unfold crG
          split
          · rfl
          · rw [updN (by omega)]
        · refine rat_c (by decide) (fun j hj => ?_)
          unfold wrG
          split
          · rfl
          · rw [updN (by omega)]
      · exact (R3.to (fun b h1 h2 => mz_up_n (by omega))).gg (fun q h1 h2 => updN (by omega))
    · have c1 := bI_f (Classical.byContradiction c1)
      rw [if_pos c1, if_pos c1] at H
      refine mz_WP.run 80 rfl ?_
      exact mz_WP.ret rfl rfl (H h C (fun _ _ => rfl))
  · have c0 := bI_f (Classical.byContradiction c0)
    rw [if_pos c0, if_pos c0] at H
    refine mz_WP.run 80 rfl ?_
    exact mz_WP.ret rfl rfl (H h C (fun _ _ => rfl))
end P3
end
section
/-! the class: price, bar, hear, pass -/
def priceB (what w x : Int32) : Bool := if what = nI 4 then inB x (nI 0) (nI 200) else if what = nI 3 then inB x (nI 0) (nI 9999) else inB what (nI 0) (nI 2) && inB w (nI 1) (nI 5) && inB x (nI 0) (nI 9999)
def pIx (what w : Int32) : Nat := if what = nI 4 then 412 else if what = nI 3 then 411 else 395 + 5 * what.toNatClampNeg + w.toNatClampNeg
def priceR (g : Nat → Int32) (what w x : Int32) : Int32 := if priceB what w x = false then U2 else g (pIx what w)
def priceG (g : Nat → Int32) (what w x : Int32) : Nat → Int32 := if priceB what w x = false then g else upd g (pIx what w) x
def valA (fr cr wr : Nat → Int32) (mo ne i : Int32) : Nat → Int32
  | 0 => rat 6 fr i
  | 1 => rat 6 cr i
  | 2 => rat 6 wr i
  | 3 => mo
  | _ => ne
def putA (h : mz_H) (a : Nat) (fr cr wr : Nat → Int32) (mo ne i v : Int32) : Nat → mz_H
  | 0 => mz_up h (a + 4) (.inl (0, 6, rput 6 fr i v))
  | 1 => mz_up h (a + 6) (.inl (0, 6, rput 6 cr i v))
  | 2 => mz_up h (a + 8) (.inl (0, 6, rput 6 wr i v))
  | 3 => mz_up h a (.inr (9, [.ref (a + 1), .ref (a + 3), .ref (a + 5), .ref (a + 7), .int v, .int ne]))
  | _ => mz_up h a (.inr (9, [.ref (a + 1), .ref (a + 3), .ref (a + 5), .ref (a + 7), .int mo, .int v]))
def barCh (g : Nat → Int32) (card on : Int32) : Bool := !decide (g 413 >>> (card &&& 31) &&& nI 1 = on)
def barG (g : Nat → Int32) (card on : Int32) : Nat → Int32 := if inB card (nI 0) (nI 3) = false then g else if inB on (nI 0) (nI 1) = false then g else if barCh g card on = true then upd (upd g 413 (g 413 ^^^ nI 1 <<< (card &&& 31))) 414 (g 414 + nI 1) else g
def barR (g : Nat → Int32) (card on : Int32) : Int32 := if inB card (nI 0) (nI 3) = false then U1 else if inB on (nI 0) (nI 1) = false then U2 else barG g card on 414
def hearG (g : Nat → Int32) (rd : Int32) : Nat → Int32 := if inB rd (nI 0) (nI 3) = false then g else upd (upd g (415 + rd.toNatClampNeg) (g 414)) (419 + rd.toNatClampNeg) (g 413)
def hearR (g : Nat → Int32) (rd : Int32) : Int32 := if inB rd (nI 0) (nI 3) = false then U1 else g 414 - g (415 + rd.toNatClampNeg)
def passR (g : Nat → Int32) (rd card : Int32) : Int32 := if inB rd (nI 0) (nI 3) = false ∨ inB card (nI 0) (nI 3) = false then U1 else if g (419 + rd.toNatClampNeg) >>> (card &&& 31) &&& nI 1 = nI 1 then 0 else 1
theorem bar_1 : ∀ b, b < 16 → ∀ c, c < 4 → (nI b ||| nI 1 <<< (nI c &&& 31) = nI b ↔ nI b >>> (nI c &&& 31) &&& nI 1 = nI 1) ∧ (¬ nI b >>> (nI c &&& 31) &&& nI 1 = nI 1 → nI b ||| nI 1 <<< (nI c &&& 31) = nI b ^^^ nI 1 <<< (nI c &&& 31)) := by decide +kernel
theorem bar_0 : ∀ b, b < 16 → ∀ c, c < 4 → (nI b &&& (nI 1 <<< (nI c &&& 31) ^^^ nI 4294967295) = nI b ↔ nI b >>> (nI c &&& 31) &&& nI 1 = nI 0) ∧ (¬ nI b >>> (nI c &&& 31) &&& nI 1 = nI 0 → nI b &&& (nI 1 <<< (nI c &&& 31) ^^^ nI 4294967295) = nI b ^^^ nI 1 <<< (nI c &&& 31)) := by decide +kernel
theorem bar_x : ∀ b, b < 16 → ∀ c, c < 4 → ∃ b', b' < 16 ∧ nI b ^^^ nI 1 <<< (nI c &&& 31) = nI b' := by decide +kernel
section P4
variable {e n : Nat} {h h' : mz_H} {Q : mz_Q} {g g' : Nat → Int32} {kp : Nat} {gi : Nat → Nat → Int32} {a : Nat} {zr fr cr wr : Nat → Int32} {mo ne : Int32} {nb bb : Nat → Int32} {nu ba : Int32}
theorem s_valueOf {p : Nat} {i : Int32} (hp : p ≤ 4) (T : TrA h a zr fr cr wr mo ne) (H : Q (some (.int (valA fr cr wr mo ne i p))) n h) : mz_wc (e + 2) 74 [.ref a, .int (nI p), .int i] n h Q := by
  refine mz_wc.enter (code := co_X9_valueOf) (idx := 74) rfl rfl (Nat.le_of_ble_eq_true rfl) rfl rfl ?_
  refine mz_WP.run 80 rfl ?_
  match p, hp with
  | 0, _ =>
    refine mz_WP.tin (off := 31) rfl (by decide) (by decide) ?_
    refine mz_WP.run 80 rfl ?_
    refine mz_WP.getf rfl (T.1) rfl (Nat.le_of_ble_eq_true rfl) ?_
    refine mz_WP.run 80 rfl ?_
    refine mz_WP.cv rfl rfl (Nat.le_of_ble_eq_true rfl) rfl (T.2.1.2.1) rfl (s_at T.2.1.2.1 T.2.2.2.1 (by decide) ?_)
    exact mz_WP.ret rfl rfl H
  | 1, _ =>
    refine mz_WP.tin (off := 40) rfl (by decide) (by decide) ?_
    refine mz_WP.run 80 rfl ?_
    refine mz_WP.getf rfl (T.1) rfl (Nat.le_of_ble_eq_true rfl) ?_
    refine mz_WP.run 80 rfl ?_
    refine mz_WP.cv rfl rfl (Nat.le_of_ble_eq_true rfl) rfl (T.2.1.2.2.1) rfl (s_at T.2.1.2.2.1 T.2.2.2.2.1 (by decide) ?_)
    exact mz_WP.ret rfl rfl H
  | 2, _ =>
    refine mz_WP.tin (off := 49) rfl (by decide) (by decide) ?_
    refine mz_WP.run 80 rfl ?_
    refine mz_WP.getf rfl (T.1) rfl (Nat.le_of_ble_eq_true rfl) ?_
    refine mz_WP.run 80 rfl ?_
    refine mz_WP.cv rfl rfl (Nat.le_of_ble_eq_true rfl) rfl (T.2.1.2.2.2) rfl (s_at T.2.1.2.2.2 T.2.2.2.2.2 (by decide) ?_)
    exact mz_WP.ret rfl rfl H
  | 3, _ =>
    refine mz_WP.tin (off := 58) rfl (by decide) (by decide) ?_
    refine mz_WP.run 80 rfl ?_
    refine mz_WP.getf rfl (T.1) rfl (Nat.le_of_ble_eq_true rfl) ?_
    exact mz_WP.ret rfl rfl H
  | 4, _ =>
    refine mz_WP.tout rfl (by decide) ?_
    refine mz_WP.run 80 rfl ?_
    refine mz_WP.getf rfl (T.1) rfl (Nat.le_of_ble_eq_true rfl) ?_
    exact mz_WP.ret rfl rfl H
theorem s_putValue {p : Nat} {i v : Int32} (hp : p ≤ 4) (h2 : 2 ≤ a) (T : TrA h a zr fr cr wr mo ne) (H : Q none n (putA h a fr cr wr mo ne i v p)) : mz_wc (e + 2) 75 [.ref a, .int (nI p), .int i, .int v] n h Q := by
  refine mz_wc.enter (code := co_X9_putValue) (idx := 75) rfl rfl (Nat.le_of_ble_eq_true rfl) rfl rfl ?_
  refine mz_WP.run 80 rfl ?_
  match p, hp with
  | 0, _ =>
    refine mz_WP.tin (off := 31) rfl (by decide) (by decide) ?_
    refine mz_WP.run 80 rfl ?_
    refine mz_WP.getf rfl (T.1) rfl (Nat.le_of_ble_eq_true rfl) ?_
    refine mz_WP.run 80 rfl ?_
    refine mz_WP.cv rfl rfl (Nat.le_of_ble_eq_true rfl) rfl (T.2.1.2.1) rfl (s_put T.2.1.2.1 T.2.2.2.1 (by omega) (by decide) ?_)
    refine mz_WP.run 80 rfl ?_
    exact mz_WP.vret rfl rfl H
  | 1, _ =>
    refine mz_WP.tin (off := 43) rfl (by decide) (by decide) ?_
    refine mz_WP.run 80 rfl ?_
    refine mz_WP.getf rfl (T.1) rfl (Nat.le_of_ble_eq_true rfl) ?_
    refine mz_WP.run 80 rfl ?_
    refine mz_WP.cv rfl rfl (Nat.le_of_ble_eq_true rfl) rfl (T.2.1.2.2.1) rfl (s_put T.2.1.2.2.1 T.2.2.2.2.1 (by omega) (by decide) ?_)
    refine mz_WP.run 80 rfl ?_
    exact mz_WP.vret rfl rfl H
  | 2, _ =>
    refine mz_WP.tin (off := 55) rfl (by decide) (by decide) ?_
    refine mz_WP.run 80 rfl ?_
    refine mz_WP.getf rfl (T.1) rfl (Nat.le_of_ble_eq_true rfl) ?_
    refine mz_WP.run 80 rfl ?_
    refine mz_WP.cv rfl rfl (Nat.le_of_ble_eq_true rfl) rfl (T.2.1.2.2.2) rfl (s_put T.2.1.2.2.2 T.2.2.2.2.2 (by omega) (by decide) ?_)
    refine mz_WP.run 80 rfl ?_
    exact mz_WP.vret rfl rfl H
  | 3, _ =>
    refine mz_WP.tin (off := 67) rfl (by decide) (by decide) ?_
    refine mz_WP.run 80 rfl ?_
    refine mz_WP.putf rfl (T.1) (Nat.le_of_ble_eq_true rfl) (Nat.le_of_ble_eq_true rfl) rfl ?_
    refine mz_WP.run 80 rfl ?_
    exact mz_WP.vret rfl rfl H
  | 4, _ =>
    refine mz_WP.tout rfl (by decide) ?_
    refine mz_WP.run 80 rfl ?_
    refine mz_WP.putf rfl (T.1) (Nat.le_of_ble_eq_true rfl) (Nat.le_of_ble_eq_true rfl) rfl ?_
    exact mz_WP.vret rfl rfl H
theorem s_isPrice {what w x : Int32} (H : Q (some (.int (bI (priceB what w x)))) n h) : mz_wc (e + 3) 112 [.int what, .int w, .int x] n h Q := by
  refine mz_wc.enter (code := co_X10_isPrice) (idx := 112) rfl rfl (Nat.le_of_ble_eq_true rfl) rfl rfl ?_
  unfold priceB at H
  refine mz_WP.run 80 rfl ?_
  refine mz_WP.icmp rfl (fun c0 => ?_) (fun c0 => ?_)
  · have c0 : ¬ what = nI 4 := c0
    rw [if_neg c0] at H
    refine mz_WP.run 80 rfl ?_
    refine mz_WP.icmp rfl (fun c1 => ?_) (fun c1 => ?_)
    · have c1 : ¬ what = nI 3 := c1
      rw [if_neg c1] at H
      have no : (inB what (nI 0) (nI 2) && inB w (nI 1) (nI 5) && inB x (nI 0) (nI 9999)) = false → mz_WP (mz_wc (e + 2)) (e + 2) 2 co_X10_isPrice Q 59 [some (.int what), some (.int w), some (.int x)] [] n h 0 0 := by
        intro hb
        rw [hb] at H
        refine mz_WP.run 80 rfl ?_
        exact mz_WP.zret rfl rfl (Or.inl rfl) H
      refine mz_WP.run 80 rfl ?_
      refine mz_WP.cs rfl (by decide) rfl (Nat.le_of_ble_eq_true rfl) rfl (s_within ?_)
      refine mz_WP.ifc rfl (fun c2 => ?_) (fun c2 => ?_)
      · exact no (by rw [bI_f c2]; rfl)
      · have c2 := bI_t c2
        refine mz_WP.run 80 rfl ?_
        refine mz_WP.cs rfl (by decide) rfl (Nat.le_of_ble_eq_true rfl) rfl (s_isWidth ?_)
        refine mz_WP.ifc rfl (fun c3 => ?_) (fun c3 => ?_)
        · exact no (by rw [bI_f c3, Bool.and_false]; rfl)
        · have c3 := bI_t c3
          refine mz_WP.run 80 rfl ?_
          refine mz_WP.cs rfl (by decide) rfl (Nat.le_of_ble_eq_true rfl) rfl (s_within ?_)
          refine mz_WP.ifc rfl (fun c4 => ?_) (fun c4 => ?_)
          · exact no (by rw [bI_f c4, Bool.and_false])
          · rw [c2, c3, bI_t c4] at H
            refine mz_WP.run 80 rfl ?_
            refine mz_WP.run 80 rfl ?_
            exact mz_WP.zret rfl rfl (Or.inr rfl) H
    · have c1 : what = nI 3 := Classical.byContradiction c1
      rw [if_pos c1] at H
      refine mz_WP.run 80 rfl ?_
      refine mz_WP.cs rfl (by decide) rfl (Nat.le_of_ble_eq_true rfl) rfl (s_within ?_)
      exact mz_WP.zret rfl rfl (bI_01 _) H
  · have c0 : what = nI 4 := Classical.byContradiction c0
    rw [if_pos c0] at H
    refine mz_WP.run 80 rfl ?_
    refine mz_WP.cs rfl (by decide) rfl (Nat.le_of_ble_eq_true rfl) rfl (s_within ?_)
    exact mz_WP.zret rfl rfl (bI_01 _) H
theorem rat_upd {f f' : Nat → Int32} {q : Nat} {v : Int32} (hq : q < 6) (hf : rat 6 f = rat 6 f') {f2 : Nat → Int32} (h1 : f2 q = v) (h2 : ∀ j, j < 6 → j ≠ q → f2 j = f' j) : rat 6 (upd f q v) = rat 6 f2 := by
  refine rat_c (by decide) (fun j hj => ?_)
  by_cases e : j = q
  · subst e
    rw [updS, h1]
  · rw [updN e, h2 j hj e]
    have := congrFun hf (nI j)
    rw [rat_in hj (by decide), rat_in hj (by decide)] at this
    exact this
theorem s_price {what w x : Int32} (C : CI h g kp gi) (H : ∀ h', CI h' (priceG g what w x) kp gi → (∀ b, 45 < b → h' b = h b) → Q (some (.int (priceR g what w x))) n h') : mz_wc (e + 7) 83 [.ref 2, .int what, .int w, .int x] n h Q := by
  unfold priceG priceR at H
  refine mz_wc.enter (code := co_X10_price) (idx := 83) rfl rfl (Nat.le_of_ble_eq_true rfl) rfl rfl ?_
  refine mz_WP.run 80 rfl ?_
  refine mz_WP.cs rfl (by decide) rfl (Nat.le_of_ble_eq_true rfl) rfl (s_isPrice ?_)
  refine mz_WP.ifc rfl (fun c0 => ?_) (fun c0 => ?_)
  · have c0 := bI_t c0
    have n0 : ¬ priceB what w x = false := by rw [c0]; decide
    rw [if_neg n0, if_neg n0] at H
    obtain ⟨F, B, h2, W, R, -⟩ := id C
    obtain ⟨R1, ⟨zr, fr, cr, wr, Tr, t1, t2, t3, t4⟩, R3⟩ := R
    -- what stays, whatever price it is
    have done : ∀ h' ix, 396 ≤ ix → ix ≤ 412 → (∀ b, b < 32 ∨ 40 < b → h' b = h b) → Fx h' → RepP h' 32 (upd g ix x) → CI h' (upd g ix x) kp gi := by
      intro h' ix i1 i2 hh F' RP
      refine C.now (fun b hb => hh b (by omega)) F' (W.up (by omega) (fun _ => by omega) (fun _ => by omega)) ⟨fun c hc => ?_, RP, (R3.to (fun b h1 h2 => hh b (by omega))).gg (fun q h1 h2 => updN (by omega))⟩
      obtain ⟨k, Wc, RT⟩ := R1 c hc
      exact ⟨k, Wc.gg hc (fun q hq => updN (by omega)), (RT.to (fun b h1 h2 => hh b (by omega))).gg hc Wc.1 (fun q hq => updN (by omega))⟩
    have zs : ∀ ix, 396 ≤ ix → rat 8 (zG g) = rat 8 (zG (upd g ix x)) := fun ix hi => rat_c (by decide) (fun j hj => by
      show g (388 + j) = upd g ix x (388 + j)
      rw [updN (by omega)])
    have fs : ∀ ix, ix < 396 ∨ 400 < ix → rat 6 (frG g) = rat 6 (frG (upd g ix x)) := fun ix hi => rat_c (by decide) (fun j hj => by
      unfold frG
      split
      · rfl
      · rw [updN (by omega)])
    have cs : ∀ ix, ix < 401 ∨ 405 < ix → rat 6 (crG g) = rat 6 (crG (upd g ix x)) := fun ix hi => rat_c (by decide) (fun j hj => by
      unfold crG
      split
      · rfl
      · rw [updN (by omega)])
    have ws : ∀ ix, ix < 406 ∨ 410 < ix → rat 6 (wrG g) = rat 6 (wrG (upd g ix x)) := fun ix hi => rat_c (by decide) (fun j hj => by
      unfold wrG
      split
      · rfl
      · rw [updN (by omega)])
    have fin : ∀ p, p ≤ 4 → what = nI p → valA fr cr wr (g 411) (g 412) w p = g (pIx what w) → (∀ b, b < 32 ∨ 40 < b → putA h 32 fr cr wr (g 411) (g 412) w x p b = h b) → CI (putA h 32 fr cr wr (g 411) (g 412) w x p) (upd g (pIx what w) x) kp gi → mz_WP (mz_wc (e + 6)) (e + 6) 1 co_X10_price Q 12 [some (.ref 2), some (.int what), some (.int w), some (.int x), none] [] n h 0 0 := by
      intro p hp hw hv hb hC
      subst hw
      refine mz_WP.run 80 rfl ?_
      refine mz_WP.getf rfl (h2) rfl (Nat.le_of_ble_eq_true rfl) ?_
      refine mz_WP.getf rfl (F _ _ rfl) rfl (Nat.le_of_ble_eq_true rfl) ?_
      refine mz_WP.run 80 rfl ?_
      refine mz_WP.cv rfl rfl (Nat.le_of_ble_eq_true rfl) rfl (Tr.1) rfl (s_valueOf hp Tr ?_)
      rw [hv]
      refine mz_WP.run 80 rfl ?_
      refine mz_WP.getf rfl (h2) rfl (Nat.le_of_ble_eq_true rfl) ?_
      refine mz_WP.getf rfl (F _ _ rfl) rfl (Nat.le_of_ble_eq_true rfl) ?_
      refine mz_WP.run 80 rfl ?_
      refine mz_WP.cv rfl rfl (Nat.le_of_ble_eq_true rfl) rfl (Tr.1) rfl (s_putValue hp (by decide) Tr ?_)
      refine mz_WP.run 80 rfl ?_
      exact mz_WP.ret rfl rfl (H _ hC (fun b hb2 => hb b (by omega)))
    by_cases w4 : what = nI 4
    · have hix : pIx what w = 412 := if_pos w4
      rw [hix] at fin
      refine fin 4 (by decide) w4 rfl (fun b hb => mz_up_n (by omega)) (done _ 412 (by decide) (by decide) (fun b hb => mz_up_n (by omega)) (F.up rfl) ⟨zr, fr, cr, wr, ?_, t1.trans (zs 412 (by decide)), t2.trans (fs 412 (by decide)), t3.trans (cs 412 (by decide)), t4.trans (ws 412 (by decide))⟩)
      rw [updN (show 411 ≠ 412 by decide), updS]
      exact Tr.u0
    · by_cases w3 : what = nI 3
      · have hix : pIx what w = 411 := by unfold pIx; rw [if_neg w4, if_pos w3]
        rw [hix] at fin
        refine fin 3 (by decide) w3 rfl (fun b hb => mz_up_n (by omega)) (done _ 411 (by decide) (by decide) (fun b hb => mz_up_n (by omega)) (F.up rfl) ⟨zr, fr, cr, wr, ?_, t1.trans (zs 411 (by decide)), t2.trans (fs 411 (by decide)), t3.trans (cs 411 (by decide)), t4.trans (ws 411 (by decide))⟩)
        rw [updN (show 412 ≠ 411 by decide), updS]
        exact Tr.u0
      · have hpb := c0
        unfold priceB at hpb
        rw [if_neg w4, if_neg w3] at hpb
        simp only [Bool.and_eq_true] at hpb
        obtain ⟨p, -, hp, hwp⟩ := inB_of (by decide) (by decide) hpb.1.1
        obtain ⟨q, hq1, hq2, hwq⟩ := inB_of (by decide) (by decide) hpb.1.2
        have hix : pIx what w = 395 + 5 * p + q := by
          unfold pIx
          rw [if_neg w4, if_neg w3, hwp, hwq, nI_clamp (by omega), nI_clamp (by omega)]
        rw [hix] at fin
        have vat : ∀ {f f' : Nat → Int32}, rat 6 f = rat 6 f' → rat 6 f w = f' q := fun hf => by rw [hf, hwq, rat_in (by omega) (by decide)]
        have pat : ∀ {f : Nat → Int32}, rput 6 f w x = upd f q x := fun {f} => by rw [hwq, rput_in (by omega) (by decide)]
        rcases (show p = 0 ∨ p = 1 ∨ p = 2 by omega) with rfl | rfl | rfl
        · refine fin 0 (by decide) hwp ?_ (fun b hb => mz_up_n (by omega)) (done _ (395 + 5 * 0 + q) (by omega) (by omega) (fun b hb => mz_up_n (by omega)) (F.up rfl) ⟨zr, upd fr q x, cr, wr, ?_, t1.trans (zs _ (by omega)), rat_upd (by omega) t2 ?_ (fun j hj hne => ?_), t3.trans (cs _ (by omega)), t4.trans (ws _ (by omega))⟩)
          · show rat 6 fr w = _
            rw [vat t2]
            unfold frG
            rw [if_neg (by omega)]
          · rw [updN (by omega), updN (by omega)]
            show TrA (mz_up h (32 + 4) (.inl (0, 6, rput 6 fr w x))) 32 zr (upd fr q x) cr wr (g 411) (g 412)
            rw [pat]
            exact Tr.u4
          · unfold frG
            rw [if_neg (by omega), show 395 + q = 395 + 5 * 0 + q by omega, updS]
          · unfold frG
            split
            · rfl
            · rw [updN (by omega)]
        · refine fin 1 (by decide) hwp ?_ (fun b hb => mz_up_n (by omega)) (done _ (395 + 5 * 1 + q) (by omega) (by omega) (fun b hb => mz_up_n (by omega)) (F.up rfl) ⟨zr, fr, upd cr q x, wr, ?_, t1.trans (zs _ (by omega)), t2.trans (fs _ (by omega)), rat_upd (by omega) t3 ?_ (fun j hj hne => ?_), t4.trans (ws _ (by omega))⟩)
          · show rat 6 cr w = _
            rw [vat t3]
            unfold crG
            rw [if_neg (by omega)]
          · rw [updN (by omega), updN (by omega)]
            show TrA (mz_up h (32 + 6) (.inl (0, 6, rput 6 cr w x))) 32 zr fr (upd cr q x) wr (g 411) (g 412)
            rw [pat]
            exact Tr.u6
          · unfold crG
            rw [if_neg (by omega), show 400 + q = 395 + 5 * 1 + q by omega, updS]
          · unfold crG
            split
            · rfl
            · rw [updN (by omega)]
        · refine fin 2 (by decide) hwp ?_ (fun b hb => mz_up_n (by omega)) (done _ (395 + 5 * 2 + q) (by omega) (by omega) (fun b hb => mz_up_n (by omega)) (F.up rfl) ⟨zr, fr, cr, upd wr q x, ?_, t1.trans (zs _ (by omega)), t2.trans (fs _ (by omega)), t3.trans (cs _ (by omega)), rat_upd (by omega) t4 ?_ (fun j hj hne => ?_)⟩)
          · show rat 6 wr w = _
            rw [vat t4]
            unfold wrG
            rw [if_neg (by omega)]
          · rw [updN (by omega), updN (by omega)]
            show TrA (mz_up h (32 + 8) (.inl (0, 6, rput 6 wr w x))) 32 zr fr cr (upd wr q x) (g 411) (g 412)
            rw [pat]
            exact Tr.u8
          · unfold wrG
            rw [if_neg (by omega), show 405 + q = 395 + 5 * 2 + q by omega, updS]
          · unfold wrG
            split
            · rfl
            · rw [updN (by omega)]
  · have c0 := bI_f (Classical.byContradiction c0)
    rw [if_pos c0, if_pos c0] at H
    refine mz_WP.run 80 rfl ?_
    exact mz_WP.ret rfl rfl (H h C (fun _ _ => rfl))
end P4
end
section
/-! the class: bar, hear, pass -/
section P5
variable {e n : Nat} {h h' : mz_H} {Q : mz_Q} {g g' : Nat → Int32} {kp : Nat} {gi : Nat → Nat → Int32} {a : Nat} {nb bb : Nat → Int32} {nu ba : Int32}
theorem BlA.u0 {x y : Int32} (T : BlA h a nb bb nu ba) : BlA (mz_up h a (.inr (0, [.ref (a + 1), .ref (a + 3), .int x, .int y]))) a nb bb x y := by
  obtain ⟨e0, ⟨e1, e3⟩, e2, e4⟩ := T
  exact ⟨mz_up_s, ⟨(mz_up_n (by omega)).trans e1, (mz_up_n (by omega)).trans e3⟩, (mz_up_n (by omega)).trans e2, (mz_up_n (by omega)).trans e4⟩
theorem BlA.u2 {f : Nat → Int32} (T : BlA h a nb bb nu ba) : BlA (mz_up h (a + 2) (.inl (0, 4, f))) a f bb nu ba := by
  obtain ⟨e0, ⟨e1, e3⟩, e2, e4⟩ := T
  exact ⟨(mz_up_n (by omega)).trans e0, ⟨(mz_up_n (by omega)).trans e1, (mz_up_n (by omega)).trans e3⟩, mz_up_s, (mz_up_n (by omega)).trans e4⟩
theorem BlA.u4 {f : Nat → Int32} (T : BlA h a nb bb nu ba) : BlA (mz_up h (a + 4) (.inl (0, 4, f))) a nb f nu ba := by
  obtain ⟨e0, ⟨e1, e3⟩, e2, e4⟩ := T
  exact ⟨(mz_up_n (by omega)).trans e0, ⟨(mz_up_n (by omega)).trans e1, (mz_up_n (by omega)).trans e3⟩, (mz_up_n (by omega)).trans e2, mz_up_s⟩
theorem s_number (T : BlA h a nb bb nu ba) (H : Q (some (.int nu)) n h) : mz_wc (e + 1) 1 [.ref a] n h Q := by
  refine mz_wc.enter (code := co_X0_number) (idx := 1) rfl rfl (Nat.le_of_ble_eq_true rfl) rfl rfl ?_
  refine mz_WP.run 80 rfl ?_
  refine mz_WP.getf rfl (T.1) rfl (Nat.le_of_ble_eq_true rfl) ?_
  exact mz_WP.ret rfl rfl H
theorem s_barred (T : BlA h a nb bb nu ba) (H : Q (some (.int ba)) n h) : mz_wc (e + 1) 2 [.ref a] n h Q := by
  refine mz_wc.enter (code := co_X0_barred) (idx := 2) rfl rfl (Nat.le_of_ble_eq_true rfl) rfl rfl ?_
  refine mz_WP.run 80 rfl ?_
  refine mz_WP.getf rfl (T.1) rfl (Nat.le_of_ble_eq_true rfl) ?_
  exact mz_WP.ret rfl rfl H
theorem s_numberAt {i : Int32} (T : BlA h a nb bb nu ba) (H : Q (some (.int (rat 4 nb i))) n h) : mz_wc (e + 2) 3 [.ref a, .int i] n h Q := by
  refine mz_wc.enter (code := co_X0_numberAt) (idx := 3) rfl rfl (Nat.le_of_ble_eq_true rfl) rfl rfl ?_
  refine mz_WP.run 80 rfl ?_
  refine mz_WP.getf rfl (T.1) rfl (Nat.le_of_ble_eq_true rfl) ?_
  refine mz_WP.run 80 rfl ?_
  refine mz_WP.cv rfl rfl (Nat.le_of_ble_eq_true rfl) rfl (T.2.1.1) rfl (s_at T.2.1.1 T.2.2.1 (by decide) ?_)
  exact mz_WP.ret rfl rfl H
theorem s_barredAt {i c : Int32} (T : BlA h a nb bb nu ba) (H1 : rat 4 bb i >>> (c &&& 31) &&& nI 1 = nI 1 → Q (some (.int 1)) n h) (H0 : ¬ rat 4 bb i >>> (c &&& 31) &&& nI 1 = nI 1 → Q (some (.int 0)) n h) : mz_wc (e + 2) 4 [.ref a, .int i, .int c] n h Q := by
  refine mz_wc.enter (code := co_X0_isBarredAt) (idx := 4) rfl rfl (Nat.le_of_ble_eq_true rfl) rfl rfl ?_
  refine mz_WP.run 80 rfl ?_
  refine mz_WP.getf rfl (T.1) rfl (Nat.le_of_ble_eq_true rfl) ?_
  refine mz_WP.run 80 rfl ?_
  refine mz_WP.cv rfl rfl (Nat.le_of_ble_eq_true rfl) rfl (T.2.1.2) rfl (s_at T.2.1.2 T.2.2.2 (by decide) ?_)
  refine mz_WP.run 80 rfl ?_
  refine mz_WP.icmp rfl (fun c0 => ?_) (fun c0 => ?_)
  · refine mz_WP.run 80 rfl ?_
    exact mz_WP.zret rfl rfl (Or.inl rfl) (H0 c0)
  · refine mz_WP.run 80 rfl ?_
    refine mz_WP.run 80 rfl ?_
    exact mz_WP.zret rfl rfl (Or.inr rfl) (H1 (Classical.byContradiction c0))
theorem s_bringTo {r : Nat} (T : BlA h a nb bb nu ba) (h2 : 2 ≤ a) (hr : r < 4) (H : Q none n (mz_up (mz_up h (a + 2) (.inl (0, 4, upd nb r nu))) (a + 4) (.inl (0, 4, upd bb r ba)))) : mz_wc (e + 2) 6 [.ref a, .int (nI r)] n h Q := by
  have T2 : BlA (mz_up h (a + 2) (.inl (0, 4, upd nb r nu))) a (upd nb r nu) bb nu ba := T.u2
  refine mz_wc.enter (code := co_X0_bringTo) (idx := 6) rfl rfl (Nat.le_of_ble_eq_true rfl) rfl rfl ?_
  refine mz_WP.run 80 rfl ?_
  refine mz_WP.getf rfl (T.1) rfl (Nat.le_of_ble_eq_true rfl) ?_
  refine mz_WP.run 80 rfl ?_
  refine mz_WP.getf rfl (T.1) rfl (Nat.le_of_ble_eq_true rfl) ?_
  refine mz_WP.cv rfl rfl (Nat.le_of_ble_eq_true rfl) rfl (T.2.1.1) rfl (s_put T.2.1.1 T.2.2.1 (by omega) (by decide) ?_)
  rw [rput_in hr (by decide)]
  refine mz_WP.run 80 rfl ?_
  refine mz_WP.getf rfl (T2.1) rfl (Nat.le_of_ble_eq_true rfl) ?_
  refine mz_WP.run 80 rfl ?_
  refine mz_WP.getf rfl (T2.1) rfl (Nat.le_of_ble_eq_true rfl) ?_
  refine mz_WP.cv rfl rfl (Nat.le_of_ble_eq_true rfl) rfl (T2.2.1.2) rfl (s_put T2.2.1.2 T2.2.2.2 (by omega) (by decide) ?_)
  rw [rput_in hr (by decide)]
  exact mz_WP.vret rfl rfl H
theorem s_putBarred {b c : Nat} {on : Bool} (hb : b < 16) (hc : c < 4) (T : BlA h a nb bb nu (nI b)) (H1 : ¬ nI b >>> (nI c &&& 31) &&& nI 1 = bI on → Q none n (mz_up h a (.inr (0, [.ref (a + 1), .ref (a + 3), .int (nu + nI 1), .int (nI b ^^^ nI 1 <<< (nI c &&& 31))])))) (H0 : nI b >>> (nI c &&& 31) &&& nI 1 = bI on → Q none n h) : mz_wc (e + 1) 5 [.ref a, .int (nI c), .int (bI on)] n h Q := by
  refine mz_wc.enter (code := co_X0_putBarred) (idx := 5) rfl rfl (Nat.le_of_ble_eq_true rfl) rfl rfl ?_
  have tail : ∀ x : Int32, (x = nI b ↔ nI b >>> (nI c &&& 31) &&& nI 1 = bI on) → (¬ nI b >>> (nI c &&& 31) &&& nI 1 = bI on → x = nI b ^^^ nI 1 <<< (nI c &&& 31)) → mz_WP (mz_wc e) e 0 co_X0_putBarred Q 25 [some (.ref a), some (.int (nI c)), some (.int (bI on)), none] [.int x] n h 0 0 := by
    intro x hx hx2
    refine mz_WP.run 80 rfl ?_
    refine mz_WP.getf rfl (T.1) rfl (Nat.le_of_ble_eq_true rfl) ?_
    refine mz_WP.icmp rfl (fun c0 => ?_) (fun c0 => ?_)
    · exact mz_WP.vret rfl rfl (H0 (hx.mp c0))
    · have nc : ¬ nI b >>> (nI c &&& 31) &&& nI 1 = bI on := fun z => c0 (hx.mpr z)
      have H1 := H1 nc
      rw [← hx2 nc] at H1
      refine mz_WP.run 80 rfl ?_
      refine mz_WP.putf rfl (T.1) (Nat.le_of_ble_eq_true rfl) (Nat.le_of_ble_eq_true rfl) rfl ?_
      show mz_WP _ _ _ _ _ _ _ _ _ (mz_up h a (.inr (0, [.ref (a + 1), .ref (a + 3), .int nu, .int x]))) _ _
      have T2 : BlA (mz_up h a (.inr (0, [.ref (a + 1), .ref (a + 3), .int nu, .int x]))) a nb bb nu x := T.u0
      refine mz_WP.run 80 rfl ?_
      refine mz_WP.getf rfl (T2.1) rfl (Nat.le_of_ble_eq_true rfl) ?_
      refine mz_WP.run 80 rfl ?_
      refine mz_WP.putf rfl (T2.1) (Nat.le_of_ble_eq_true rfl) (Nat.le_of_ble_eq_true rfl) rfl ?_
      refine mz_WP.vret rfl rfl ?_
      show Q none n (mz_up _ a (.inr (0, [.ref (a + 1), .ref (a + 3), .int (nu + nI 1), .int x])))
      rw [mz_up_up]
      exact H1
  refine mz_WP.run 80 rfl ?_
  cases on with
  | true =>
    refine mz_WP.ifc rfl (fun c0 => ?_) (fun c0 => ?_)
    · exact absurd c0 (show ¬ (1 : Int32) = 0 by decide)
    · refine mz_WP.run 80 rfl ?_
      refine mz_WP.getf rfl (T.1) rfl (Nat.le_of_ble_eq_true rfl) ?_
      refine mz_WP.run 80 rfl ?_
      exact tail _ (bar_1 b hb c hc).1 (bar_1 b hb c hc).2
  | false =>
    refine mz_WP.ifc rfl (fun c0 => ?_) (fun c0 => ?_)
    · refine mz_WP.run 80 rfl ?_
      refine mz_WP.getf rfl (T.1) rfl (Nat.le_of_ble_eq_true rfl) ?_
      refine mz_WP.run 6 rfl ?_
      exact tail _ (bar_0 b hb c hc).1 (bar_0 b hb c hc).2
    · exact absurd rfl c0
theorem s_bar {card on : Int32} (C : CI h g kp gi) (H : ∀ h', CI h' (barG g card on) kp gi → (∀ b, 45 < b → h' b = h b) → Q (some (.int (barR g card on))) n h') : mz_wc (e + 7) 93 [.ref 2, .int card, .int on] n h Q := by
  unfold barR barG at H
  refine mz_wc.enter (code := co_X10_bar) (idx := 93) rfl rfl (Nat.le_of_ble_eq_true rfl) rfl rfl ?_
  refine mz_WP.run 80 rfl ?_
  refine mz_WP.cs rfl (by decide) rfl (Nat.le_of_ble_eq_true rfl) rfl (s_isCard ?_)
  refine mz_WP.ifc rfl (fun c0 => ?_) (fun c0 => ?_)
  · have c0 := bI_t c0
    have n0 : ¬ inB card (nI 0) (nI 3) = false := by rw [c0]; decide
    rw [if_neg n0, if_neg n0] at H
    refine mz_WP.run 80 rfl ?_
    refine mz_WP.cs rfl (by decide) rfl (Nat.le_of_ble_eq_true rfl) rfl (s_within ?_)
    refine mz_WP.ifc rfl (fun c1 => ?_) (fun c1 => ?_)
    · have c1 := bI_t c1
      have n1 : ¬ inB on (nI 0) (nI 1) = false := by rw [c1]; decide
      rw [if_neg n1, if_neg n1] at H
      obtain ⟨c, -, hc, rfl⟩ := inB_of (by decide) (by decide) c0
      obtain ⟨o, -, ho, rfl⟩ := inB_of (by decide) (by decide) c1
      obtain ⟨F, B, h2, W, R, -⟩ := id C
      obtain ⟨R1, R2, nb, bb, Bl, r⟩ := R
      obtain ⟨b, hb, hgb⟩ := W.2.2.1
      rw [hgb] at Bl
      have fin : ∀ on2 : Bool, nI o = bI on2 → mz_WP (mz_wc (e + 6)) (e + 6) 1 co_X10_bar Q 39 [some (.ref 2), some (.int (nI c)), some (.int (nI o))] [.int (bI on2), .int (nI c), .ref 41] n h 0 0 := by
        intro on2 hon
        unfold barCh at H
        rw [hon, hgb] at H
        refine mz_WP.cv rfl rfl (Nat.le_of_ble_eq_true rfl) rfl (Bl.1) rfl (s_putBarred hb (by omega) Bl (fun hch => ?_) (fun hch => ?_))
        · have hd : (!decide (nI b >>> (nI c &&& 31) &&& nI 1 = bI on2)) = true := by rw [decide_eq_false hch]; rfl
          rw [if_pos hd, updS] at H
          obtain ⟨b', hb', hx⟩ := bar_x b hb c (by omega)
          have Bl2 : BlA (mz_up h 41 (.inr (0, [.ref (41 + 1), .ref (41 + 3), .int (g 414 + nI 1), .int (nI b ^^^ nI 1 <<< (nI c &&& 31))]))) 41 nb bb (g 414 + nI 1) (nI b ^^^ nI 1 <<< (nI c &&& 31)) := Bl.u0
          have F2 : Fx (mz_up h 41 (.inr (0, [.ref (41 + 1), .ref (41 + 3), .int (g 414 + nI 1), .int (nI b ^^^ nI 1 <<< (nI c &&& 31))]))) := F.up rfl
          refine mz_WP.run 80 rfl ?_
          refine mz_WP.getf rfl ((mz_up_n (by decide)).trans h2) rfl (Nat.le_of_ble_eq_true rfl) ?_
          refine mz_WP.getf rfl (F2 _ _ rfl) rfl (Nat.le_of_ble_eq_true rfl) ?_
          refine mz_WP.cv rfl rfl (Nat.le_of_ble_eq_true rfl) rfl (Bl2.1) rfl (s_number Bl2 ?_)
          refine mz_WP.ret rfl rfl (H _ (C.now (fun b hb => mz_up_n (by omega)) F2 ((W.up (by omega) (fun _ => by omega) (fun _ => ⟨b', hb', hx⟩)).up (by omega) (fun _ => by omega) (fun _ => by omega)) ⟨fun c hc => ?_, ?_, ?_⟩) (fun b hb => mz_up_n (by omega)))
          · obtain ⟨k, Wc, RT⟩ := R1 c hc
            exact ⟨k, Wc.gg hc (fun q hq => by rw [updN (by omega), updN (by omega)]), (RT.to (fun b h1 h2 => mz_up_n (by omega))).gg hc Wc.1 (fun q hq => by rw [updN (by omega), updN (by omega)])⟩
          · exact (R2.to (fun b h1 h2 => mz_up_n (by omega))).gg (fun q h1 h2 => by rw [updN (by omega), updN (by omega)])
          · refine ⟨nb, bb, ?_, fun i hi => ?_⟩
            · rw [updS, updN (show 413 ≠ 414 by decide), updS]
              exact Bl2
            · rw [updN (by omega), updN (by omega), updN (by omega), updN (by omega)]
              exact r i hi
        · have hd : ¬ (!decide (nI b >>> (nI c &&& 31) &&& nI 1 = bI on2)) = true := by rw [decide_eq_true hch]; decide
          rw [if_neg hd] at H
          refine mz_WP.run 80 rfl ?_
          refine mz_WP.getf rfl (h2) rfl (Nat.le_of_ble_eq_true rfl) ?_
          refine mz_WP.getf rfl (F _ _ rfl) rfl (Nat.le_of_ble_eq_true rfl) ?_
          refine mz_WP.cv rfl rfl (Nat.le_of_ble_eq_true rfl) rfl (Bl.1) rfl (s_number Bl ?_)
          exact mz_WP.ret rfl rfl (H h C (fun _ _ => rfl))
      refine mz_WP.run 80 rfl ?_
      refine mz_WP.getf rfl (h2) rfl (Nat.le_of_ble_eq_true rfl) ?_
      refine mz_WP.getf rfl (F _ _ rfl) rfl (Nat.le_of_ble_eq_true rfl) ?_
      refine mz_WP.run 80 rfl ?_
      rcases (show o = 0 ∨ o = 1 by omega) with rfl | rfl
      · refine mz_WP.icmp rfl (fun c2 => ?_) (fun c2 => ?_)
        · refine mz_WP.run 80 rfl ?_
          exact fin false rfl
        · exact absurd (show ¬ nI 0 = nI 1 by decide) c2
      · refine mz_WP.icmp rfl (fun c2 => ?_) (fun c2 => ?_)
        · exact absurd rfl c2
        · refine mz_WP.run 80 rfl ?_
          exact fin true rfl
    · have c1 := bI_f (Classical.byContradiction c1)
      rw [if_pos c1, if_pos c1] at H
      refine mz_WP.run 80 rfl ?_
      exact mz_WP.ret rfl rfl (H h C (fun _ _ => rfl))
  · have c0 := bI_f (Classical.byContradiction c0)
    rw [if_pos c0, if_pos c0] at H
    refine mz_WP.run 80 rfl ?_
    exact mz_WP.ret rfl rfl (H h C (fun _ _ => rfl))
theorem s_hear {rd : Int32} (C : CI h g kp gi) (H : ∀ h', CI h' (hearG g rd) kp gi → (∀ b, 45 < b → h' b = h b) → Q (some (.int (hearR g rd))) n h') : mz_wc (e + 7) 94 [.ref 2, .int rd] n h Q := by
  unfold hearG hearR at H
  refine mz_wc.enter (code := co_X10_hear) (idx := 94) rfl rfl (Nat.le_of_ble_eq_true rfl) rfl rfl ?_
  refine mz_WP.run 80 rfl ?_
  refine mz_WP.cs rfl (by decide) rfl (Nat.le_of_ble_eq_true rfl) rfl (s_isReader ?_)
  refine mz_WP.ifc rfl (fun c0 => ?_) (fun c0 => ?_)
  · have c0 := bI_t c0
    have n0 : ¬ inB rd (nI 0) (nI 3) = false := by rw [c0]; decide
    rw [if_neg n0, if_neg n0] at H
    obtain ⟨i, -, hi, rfl⟩ := inB_of (by decide) (by decide) c0
    rw [nI_clamp (by omega)] at H
    obtain ⟨F, B, h2, W, R, -⟩ := id C
    obtain ⟨R1, R2, nb, bb, Bl, r⟩ := R
    refine mz_WP.run 80 rfl ?_
    refine mz_WP.getf rfl (h2) rfl (Nat.le_of_ble_eq_true rfl) ?_
    refine mz_WP.getf rfl (F _ _ rfl) rfl (Nat.le_of_ble_eq_true rfl) ?_
    refine mz_WP.run 80 rfl ?_
    refine mz_WP.cv rfl rfl (Nat.le_of_ble_eq_true rfl) rfl (Bl.1) rfl (s_numberAt Bl ?_)
    rw [rat_in (by omega) (by decide), (r i (by omega)).1]
    refine mz_WP.run 80 rfl ?_
    refine mz_WP.getf rfl (h2) rfl (Nat.le_of_ble_eq_true rfl) ?_
    refine mz_WP.getf rfl (F _ _ rfl) rfl (Nat.le_of_ble_eq_true rfl) ?_
    refine mz_WP.run 80 rfl ?_
    refine mz_WP.cv rfl rfl (Nat.le_of_ble_eq_true rfl) rfl (Bl.1) rfl (s_bringTo Bl (by decide) (by omega) ?_)
    have Bl2 : BlA (mz_up (mz_up h (41 + 2) (.inl (0, 4, upd nb i (g 414)))) (41 + 4) (.inl (0, 4, upd bb i (g 413)))) 41 (upd nb i (g 414)) (upd bb i (g 413)) (g 414) (g 413) := Bl.u2.u4
    have F2 : Fx (mz_up (mz_up h (41 + 2) (.inl (0, 4, upd nb i (g 414)))) (41 + 4) (.inl (0, 4, upd bb i (g 413)))) := (F.up rfl).up rfl
    refine mz_WP.run 80 rfl ?_
    refine mz_WP.getf rfl (((mz_up_n (by decide)).trans (mz_up_n (by decide))).trans h2) rfl (Nat.le_of_ble_eq_true rfl) ?_
    refine mz_WP.getf rfl (F2 _ _ rfl) rfl (Nat.le_of_ble_eq_true rfl) ?_
    refine mz_WP.cv rfl rfl (Nat.le_of_ble_eq_true rfl) rfl (Bl2.1) rfl (s_number Bl2 ?_)
    refine mz_WP.run 80 rfl ?_
    refine mz_WP.ret rfl rfl (H _ (C.now (fun b hb => (mz_up_n (by omega)).trans (mz_up_n (by omega))) F2 ((W.up (by omega) (fun _ => by omega) (fun _ => by omega)).up (by omega) (fun _ => by omega) (fun _ => W.2.2.1)) ⟨fun c hc => ?_, ?_, ?_⟩) (fun b hb => (mz_up_n (by omega)).trans (mz_up_n (by omega))))
    · obtain ⟨k, Wc, RT⟩ := R1 c hc
      exact ⟨k, Wc.gg hc (fun q hq => by rw [updN (by omega), updN (by omega)]), (RT.to (fun b h1 h2 => (mz_up_n (by omega)).trans (mz_up_n (by omega)))).gg hc Wc.1 (fun q hq => by rw [updN (by omega), updN (by omega)])⟩
    · exact (R2.to (fun b h1 h2 => (mz_up_n (by omega)).trans (mz_up_n (by omega)))).gg (fun q h1 h2 => by rw [updN (by omega), updN (by omega)])
    · refine ⟨upd nb i (g 414), upd bb i (g 413), ?_, fun j hj => ?_⟩
      · rw [updN (by omega), updN (by omega), updN (by omega), updN (by omega)]
        exact Bl2
      · by_cases hji : j = i
        · subst hji
          rw [updS, updS, updS, updN (by omega), updS]
          exact ⟨rfl, rfl⟩
        · rw [updN hji, updN hji, updN (by omega), updN (by omega), updN (by omega), updN (by omega)]
          exact r j hj
  · have c0 := bI_f (Classical.byContradiction c0)
    rw [if_pos c0, if_pos c0] at H
    refine mz_WP.run 80 rfl ?_
    exact mz_WP.ret rfl rfl (H h C (fun _ _ => rfl))
theorem s_pass {rd card : Int32} (C : CI h g kp gi) (H : Q (some (.int (passR g rd card))) n h) : mz_wc (e + 7) 95 [.ref 2, .int rd, .int card] n h Q := by
  unfold passR at H
  refine mz_wc.enter (code := co_X10_pass) (idx := 95) rfl rfl (Nat.le_of_ble_eq_true rfl) rfl rfl ?_
  have out : (inB rd (nI 0) (nI 3) = false ∨ inB card (nI 0) (nI 3) = false) → mz_WP (mz_wc (e + 6)) (e + 6) 1 co_X10_pass Q 14 [some (.ref 2), some (.int rd), some (.int card)] [] n h 0 0 := by
    intro ho
    rw [if_pos ho] at H
    refine mz_WP.run 80 rfl ?_
    exact mz_WP.ret rfl rfl H
  refine mz_WP.run 80 rfl ?_
  refine mz_WP.cs rfl (by decide) rfl (Nat.le_of_ble_eq_true rfl) rfl (s_isReader ?_)
  refine mz_WP.ifc rfl (fun c0 => ?_) (fun c0 => ?_)
  · exact out (Or.inl (bI_f c0))
  · have c0 := bI_t c0
    refine mz_WP.run 80 rfl ?_
    refine mz_WP.cs rfl (by decide) rfl (Nat.le_of_ble_eq_true rfl) rfl (s_isCard ?_)
    refine mz_WP.ifc rfl (fun c1 => ?_) (fun c1 => ?_)
    · have c1 := bI_t c1
      rw [if_neg (fun z => z.elim (fun z => by rw [c0] at z; exact absurd z (by decide)) (fun z => by rw [c1] at z; exact absurd z (by decide)))] at H
      obtain ⟨i, -, hi, rfl⟩ := inB_of (by decide) (by decide) c0
      rw [nI_clamp (by omega)] at H
      obtain ⟨F, B, h2, W, R, -⟩ := id C
      obtain ⟨R1, R2, nb, bb, Bl, r⟩ := R
      have eb : rat 4 bb (nI i) = g (419 + i) := by rw [rat_in (by omega) (by decide), (r i (by omega)).2]
      refine mz_WP.run 80 rfl ?_
      refine mz_WP.getf rfl (h2) rfl (Nat.le_of_ble_eq_true rfl) ?_
      refine mz_WP.getf rfl (F _ _ rfl) rfl (Nat.le_of_ble_eq_true rfl) ?_
      refine mz_WP.run 80 rfl ?_
      refine mz_WP.cv rfl rfl (Nat.le_of_ble_eq_true rfl) rfl (Bl.1) rfl (s_barredAt Bl (fun hb => ?_) (fun hb => ?_))
      · rw [eb] at hb
        rw [if_pos hb] at H
        refine mz_WP.ifc rfl (fun c2 => ?_) (fun c2 => ?_)
        · exact absurd c2 (show ¬ (1 : Int32) = 0 by decide)
        · refine mz_WP.run 80 rfl ?_
          refine mz_WP.run 80 rfl ?_
          exact mz_WP.ret rfl rfl H
      · rw [eb] at hb
        rw [if_neg hb] at H
        refine mz_WP.ifc rfl (fun c2 => ?_) (fun c2 => ?_)
        · refine mz_WP.run 80 rfl ?_
          exact mz_WP.ret rfl rfl H
        · exact absurd rfl c2
    · exact out (Or.inr (bI_f (Classical.byContradiction c1)))
end P5
end
section
/-! the class: tap, untap, told -/
def fnd (f : Nat → Int32) (x : Int32) : Nat → Option Nat
  | 0 => none
  | k + 1 => if f k = x then some k else fnd f x k
theorem fnd_n {f : Nat → Int32} {x : Int32} : ∀ {k : Nat}, (∀ j, j < k → f j ≠ x) → fnd f x k = none
  | 0, _ => rfl
  | k + 1, h => by
    show (if f k = x then some k else fnd f x k) = none
    rw [if_neg (h k (by omega)), fnd_n (fun j hj => h j (by omega))]
theorem fnd_s {f : Nat → Int32} {x : Int32} : ∀ {k j : Nat}, j < k → f j = x → (∀ i, i < k → i ≠ j → f i ≠ x) → fnd f x k = some j
  | 0, _, h, _, _ => by omega
  | k + 1, j, h, hj, hu => by
    show (if f k = x then some k else fnd f x k) = some j
    by_cases e : j = k
    · subst e
      rw [if_pos hj]
    · rw [if_neg (hu k (by omega) (by omega)), fnd_s (by omega) hj (fun i hi hne => hu i (by omega) hne)]
theorem fnd_lt {f : Nat → Int32} {x : Int32} : ∀ {k j : Nat}, fnd f x k = some j → j < k ∧ f j = x
  | 0, _, h => by cases h
  | k + 1, j, h => by
    have h : (if f k = x then some k else fnd f x k) = some j := h
    by_cases e : f k = x
    · rw [if_pos e] at h
      cases h
      exact ⟨by omega, e⟩
    · rw [if_neg e] at h
      have := fnd_lt h
      exact ⟨by omega, this.2⟩
theorem fnd_no {f : Nat → Int32} {x : Int32} : ∀ {k : Nat}, fnd f x k = none → ∀ j, j < k → f j ≠ x
  | 0, _, j, hj => by omega
  | k + 1, h, j, hj => by
    have h : (if f k = x then some k else fnd f x k) = none := h
    by_cases e : f k = x
    · rw [if_pos e] at h
      cases h
    · rw [if_neg e] at h
      by_cases ej : j = k
      · subst ej
        exact e
      · exact fnd_no h j (by omega)
def ipos (f : Nat → Int32) (x : Int32) : Nat → Nat
  | 0 => 0
  | p + 1 => if f p ≤ x then p + 1 else ipos f x p
theorem ipos_eq {f : Nat → Int32} {x : Int32} : ∀ {k p : Nat}, p ≤ k → (∀ j, p ≤ j → j < k → x < f j) → (p = 0 ∨ f (p - 1) ≤ x) → p = ipos f x k
  | 0, p, h, _, _ => by
    show p = 0
    omega
  | k + 1, p, h, h1, h2 => by
    show p = if f k ≤ x then k + 1 else ipos f x k
    by_cases e : p = k + 1
    · subst e
      rcases h2 with z | z
      · omega
      · rw [if_pos (show f k ≤ x from z)]
    · rw [if_neg (Int32.not_le.mpr (h1 k (by omega) (by omega)))]
      exact ipos_eq (by omega) (fun j a b => h1 j a (by omega)) h2
theorem ipos_le {f : Nat → Int32} {x : Int32} : ∀ {k : Nat}, ipos f x k ≤ k
  | 0 => Nat.le_refl 0
  | k + 1 => by
    show (if f k ≤ x then k + 1 else ipos f x k) ≤ k + 1
    split
    · exact Nat.le_refl _
    · exact Nat.le_succ_of_le ipos_le
/-- card c's part of g becomes: count, moments, wheres -/
def setG (g : Nat → Int32) (c : Nat) (z : Int32) (m w : Nat → Int32) : Nat → Int32 := fun a => if a = 384 + c then z else if 48 * c ≤ a ∧ a < 48 * c + 48 then m (a - 48 * c) else if 192 + 48 * c ≤ a ∧ a < 192 + 48 * c + 48 then w (a - (192 + 48 * c)) else g a
def addG (g : Nat → Int32) (c : Nat) (x y : Int32) : Nat → Int32 := setG g c (nI (kOf g c + 1)) (insf (gm g c) (kOf g c) (ipos (gm g c) x (kOf g c)) x) (insf (gw g c) (kOf g c) (ipos (gm g c) x (kOf g c)) y)
def rmG (g : Nat → Int32) (c p : Nat) : Nat → Int32 := setG g c (nI (kOf g c - 1)) (rmf (gm g c) (kOf g c) p) (rmf (gw g c) (kOf g c) p)
theorem setG_k {g : Nat → Int32} {c : Nat} {z : Int32} {m w : Nat → Int32} : setG g c z m w (384 + c) = z := if_pos rfl
theorem setG_m {g : Nat → Int32} {c : Nat} {z : Int32} {m w : Nat → Int32} (hc : c < 4) {j : Nat} (hj : j < 48) : gm (setG g c z m w) c j = m j := by
  unfold gm setG
  rw [if_neg (by omega), if_pos (by omega), show 48 * c + j - 48 * c = j by omega]
theorem setG_w {g : Nat → Int32} {c : Nat} {z : Int32} {m w : Nat → Int32} (hc : c < 4) {j : Nat} (hj : j < 48) : gw (setG g c z m w) c j = w j := by
  unfold gw setG
  rw [if_neg (by omega), if_neg (by omega), if_pos (by omega), show 192 + 48 * c + j - (192 + 48 * c) = j by omega]
theorem setG_o {g : Nat → Int32} {c : Nat} {z : Int32} {m w : Nat → Int32} (hc : c < 4) {a : Nat} (ha : 388 ≤ a) : setG g c z m w a = g a := by
  unfold setG
  rw [if_neg (by omega), if_neg (by omega), if_neg (by omega)]
theorem setG_c {g : Nat → Int32} {c c' : Nat} {z : Int32} {m w : Nat → Int32} (hc : c < 4) (hc' : c' < 4) (hne : c' ≠ c) : setG g c z m w (384 + c') = g (384 + c') ∧ (∀ j, j < 48 → gm (setG g c z m w) c' j = gm g c' j) ∧ (∀ j, j < 48 → gw (setG g c z m w) c' j = gw g c' j) := by
  refine ⟨?_, fun j hj => ?_, fun j hj => ?_⟩
  · unfold setG
    rw [if_neg (by omega), if_neg (by omega), if_neg (by omega)]
  · unfold gm setG
    rw [if_neg (by omega), if_neg (by omega), if_neg (by omega)]
  · unfold gw setG
    rw [if_neg (by omega), if_neg (by omega), if_neg (by omega)]
/-- the same, for the class' three rows -/
def cardR (g g' : Nat → Int32) (c : Nat) : Prop := g' (384 + c) = g (384 + c) ∧ (∀ j, j < 48 → gm g' c j = gm g c j) ∧ (∀ j, j < 48 → gw g' c j = gw g c j)
theorem WFc.card {g g' : Nat → Int32} {c k : Nat} (W : WFc g c k) (h : cardR g g' c) : WFc g' c k := by
  obtain ⟨w1, w2, w3, w4, w5⟩ := W
  exact ⟨w1, h.1.trans w2, fun j hj => by rw [h.2.1 j (by omega)]; exact w3 j hj, fun j hj => by rw [h.2.2 j (by omega)]; exact w4 j hj, fun i j hi hj => by rw [h.2.1 i (by omega), h.2.1 j (by omega)]; exact w5 i j hi hj⟩
theorem RepT.card {h : mz_H} {t : Nat} {g g' : Nat → Int32} {c k : Nat} (R : RepT h t g c k) (hk : k ≤ 48) (hh : cardR g g' c) : RepT h t g' c k := by
  obtain ⟨m, s, w, T, r⟩ := R
  refine ⟨m, s, w, T, fun j hj => ?_⟩
  obtain ⟨r1, r2, r3⟩ := r j hj
  refine ⟨by rw [hh.2.1 j (by omega)]; exact r1, ?_, ?_⟩
  · rw [r2]
    unfold gS
    rw [hh.2.2 j (by omega)]
  · rw [r3]
    unfold gY
    rw [hh.2.2 j (by omega)]
theorem WFc.add {g : Nat → Int32} {c k : Nat} (W : WFc g c k) (hc : c < 4) (hk : k < 48) {x st wy : Nat} (hx : x < 40320) (hs : st < 8) (hw : wy < 2) (hn : ∀ j, j < k → gm g c j ≠ nI x) : WFc (addG g c (nI x) (nI (2 * st + wy))) c (k + 1) := by
  have hkk := W.k
  obtain ⟨w1, w2, w3, w4, w5⟩ := W
  have hp := ipos_le (f := gm g c) (x := nI x) (k := k)
  unfold addG
  rw [hkk]
  generalize ipos (gm g c) (nI x) k = p at hp
  refine ⟨by omega, setG_k, fun j hj => ?_, fun j hj => ?_, fun i j hij hj => ?_⟩
  · rw [setG_m hc (by omega)]
    unfold insf
    split
    · exact ⟨x, hx, rfl⟩
    · split
      · exact w3 (j - 1) (by omega)
      · exact w3 j (by omega)
  · rw [setG_w hc (by omega)]
    unfold insf
    split
    · exact ⟨st, wy, hs, hw, rfl⟩
    · split
      · exact w4 (j - 1) (by omega)
      · exact w4 j (by omega)
  · rw [setG_m hc (by omega), setG_m hc (by omega)]
    unfold insf
    by_cases i1 : i = p
    · rw [if_pos i1, if_neg (by omega), if_pos (by omega)]
      exact (hn (j - 1) (by omega)).symm
    · rw [if_neg i1]
      by_cases j1 : j = p
      · rw [if_pos j1, if_neg (by omega)]
        exact hn i (by omega)
      · rw [if_neg j1]
        by_cases i2 : p < i ∧ i ≤ k
        · rw [if_pos i2, if_pos (by omega)]
          exact w5 (i - 1) (j - 1) (by omega) (by omega)
        · rw [if_neg i2]
          by_cases j2 : p < j ∧ j ≤ k
          · rw [if_pos j2]
            exact w5 i (j - 1) (by omega) (by omega)
          · rw [if_neg j2]
            exact w5 i j hij (by omega)
theorem WFc.rm {g : Nat → Int32} {c k p : Nat} (W : WFc g c k) (hc : c < 4) (hp : p < k) : WFc (rmG g c p) c (k - 1) := by
  have hkk := W.k
  obtain ⟨w1, w2, w3, w4, w5⟩ := W
  unfold rmG
  rw [hkk]
  refine ⟨by omega, setG_k, fun j hj => ?_, fun j hj => ?_, fun i j hij hj => ?_⟩
  · rw [setG_m hc (by omega)]
    unfold rmf
    split
    · exact w3 (j + 1) (by omega)
    · exact w3 j (by omega)
  · rw [setG_w hc (by omega)]
    unfold rmf
    split
    · exact w4 (j + 1) (by omega)
    · exact w4 j (by omega)
  · rw [setG_m hc (by omega), setG_m hc (by omega)]
    unfold rmf
    by_cases i1 : p ≤ i ∧ i + 1 < k
    · rw [if_pos i1, if_pos (by omega)]
      exact w5 (i + 1) (j + 1) (by omega) (by omega)
    · rw [if_neg i1]
      by_cases j1 : p ≤ j ∧ j + 1 < k
      · rw [if_pos j1]
        exact w5 i (j + 1) (by omega) (by omega)
      · rw [if_neg j1]
        exact w5 i j hij (by omega)
theorem WF.setG {g : Nat → Int32} {c : Nat} {z : Int32} {m w : Nat → Int32} (W : WF g) (hc : c < 4) {k : Nat} (Wc : WFc (setG g c z m w) c k) : WF (setG g c z m w) := by
  obtain ⟨w1, w2, w3, w4⟩ := W
  refine ⟨fun c' hc' => ?_, fun i hi => ?_, ?_, fun r hr => ?_⟩
  · by_cases e : c' = c
    · subst e
      exact ⟨k, Wc⟩
    · obtain ⟨k', W'⟩ := w1 c' hc'
      exact ⟨k', W'.card (setG_c hc hc' e)⟩
  · rw [setG_o hc (by omega)]
    exact w2 i hi
  · rw [setG_o hc (by omega)]
    exact w3
  · rw [setG_o hc (by omega)]
    exact w4 r hr
/-- the taps of card c in place of those that were -/
theorem CI.card {h : mz_H} {g : Nat → Int32} {kp : Nat} {gi : Nat → Nat → Int32} (C : CI h g kp gi) {c k : Nat} (hc : c < 4) {z : Int32} {m w : Nat → Int32} {m1 s1 w1 : Nat → Int32} (F : tpF h (3 + 1 + 7 * c)) (Wc : WFc (setG g c z m w) c k) (hr : ∀ j, j < k → m1 j = gm (setG g c z m w) c j ∧ s1 j = gS (setG g c z m w) c j ∧ w1 j = gY (setG g c z m w) c j) : CI (tpH h (3 + 1 + 7 * c) (nI k) m1 s1 w1) (setG g c z m w) kp gi := by
  obtain ⟨F0, B, h2, W, R, -⟩ := id C
  have out : ∀ b, (b < 3 + 1 + 7 * c ∨ 3 + 1 + 7 * c + 6 < b) → tpH h (3 + 1 + 7 * c) (nI k) m1 s1 w1 b = h b := fun b hb => tp_n (by omega) (by omega) (by omega) (by omega)
  refine C.now (fun b hb => out b (by omega)) (fun a x hx => ?_) (W.setG hc Wc) ⟨fun c' hc' => ?_, ?_, ?_⟩
  · have hne : ∀ q, fxt q = none → a ≠ q := fun q hq e => by rw [e, hq] at hx; cases hx
    have f4 : ∀ c, c < 4 → fxt (3 + 1 + 7 * c) = none ∧ fxt (3 + 1 + 7 * c + 2) = none ∧ fxt (3 + 1 + 7 * c + 4) = none ∧ fxt (3 + 1 + 7 * c + 6) = none := by
      intro c hc
      rcases (show c = 0 ∨ c = 1 ∨ c = 2 ∨ c = 3 by omega) with rfl | rfl | rfl | rfl <;> exact ⟨rfl, rfl, rfl, rfl⟩
    obtain ⟨f0, f2, f4, f6⟩ := f4 c hc
    rw [tp_n (hne _ f0) (hne _ f2) (hne _ f4) (hne _ f6)]
    exact F0 a x hx
  · by_cases e : c' = c
    · subst e
      exact ⟨k, Wc, m1, s1, w1, TA.tp F, hr⟩
    · obtain ⟨k', W', RT⟩ := R.1 c' hc'
      exact ⟨k', W'.card (setG_c hc hc' e), (RT.to (fun b h1 h2 => out b (by omega))).card W'.1 (setG_c hc hc' e)⟩
  · exact (R.2.1.to (fun b h1 h2 => out b (by omega))).gg (fun q h1 h2 => setG_o hc (by omega))
  · exact (R.2.2.to (fun b h1 h2 => out b (by omega))).gg (fun q h1 h2 => setG_o hc (by omega))
end
section
/-! the class: tap, untap, told -/
def momG (day minute : Int32) : Int32 := day * nI 1440 + minute
def tapRef (g : Nat → Int32) (card day minute station way : Int32) : Int32 := if inB card (nI 0) (nI 3) = false ∨ inB station (nI 0) (nI 7) = false then U1 else if inB day (nI 0) (nI 27) = false ∨ inB minute (nI 0) (nI 1439) = false ∨ inB way (nI 0) (nI 1) = false then U2 else match fnd (gm g card.toNatClampNeg) (momG day minute) (kOf g card.toNatClampNeg) with
  | some _ => U5
  | none => if kOf g card.toNatClampNeg < 48 then nI 0 else U4
def tapG (g : Nat → Int32) (card day minute station way : Int32) : Nat → Int32 := if tapRef g card day minute station way = 0 then addG g card.toNatClampNeg (momG day minute) (nI 2 * station + way) else g
def tapR (g : Nat → Int32) (card day minute station way : Int32) : Int32 := if tapRef g card day minute station way = 0 then nI (kOf g card.toNatClampNeg + 1) else tapRef g card day minute station way
def untapF (g : Nat → Int32) (card day minute : Int32) : Option Nat := fnd (gm g card.toNatClampNeg) (momG day minute) (kOf g card.toNatClampNeg)
def untapR (g : Nat → Int32) (card day minute : Int32) : Int32 := if inB card (nI 0) (nI 3) = false then U1 else if inB day (nI 0) (nI 27) = false ∨ inB minute (nI 0) (nI 1439) = false then U2 else match untapF g card day minute with
  | some _ => nI (kOf g card.toNatClampNeg - 1)
  | none => U5
def untapG (g : Nat → Int32) (card day minute : Int32) : Nat → Int32 := if inB card (nI 0) (nI 3) = false then g else if inB day (nI 0) (nI 27) = false ∨ inB minute (nI 0) (nI 1439) = false then g else match untapF g card day minute with
  | some p => rmG g card.toNatClampNeg p
  | none => g
def toldW (g : Nat → Int32) (c j : Nat) (what : Int32) : Int32 := if what = nI 0 then gm g c j / nI 1440 else if what = nI 1 then gm g c j - gm g c j / nI 1440 * nI 1440 else if what = nI 2 then gS g c j else gY g c j
def toldR (g : Nat → Int32) (card i what : Int32) : Int32 := if inB card (nI 0) (nI 3) = false then U1 else if inB what (nI 0) (nI 3) = false then U2 else if i < 0 ∨ g (384 + card.toNatClampNeg) ≤ i then NN else toldW g card.toNatClampNeg i.toNatClampNeg what
theorem momG_n {d m : Nat} (hd : d ≤ 27) (hm : m ≤ 1439) : momG (nI d) (nI m) = nI (d * 1440 + m) ∧ d * 1440 + m < 40320 := by
  unfold momG
  rw [pk_mul, nI_add]
  exact ⟨rfl, by omega⟩
section TT
variable {e n : Nat} {h : mz_H} {Q : mz_Q} {g : Nat → Int32} {kp : Nat} {gi : Nat → Nat → Int32}
/-- the class' find, by g -/
theorem r_find {c k : Nat} {v : Int32} {m s w : Nat → Int32} {t : Nat} (T : TA h t (nI k) m s w) (W : WFc g c k) (hm : ∀ j, j < k → m j = gm g c j) (H1 : ∀ p, fnd (gm g c) v k = some p → Q (some (.int (nI p))) n h) (H0 : fnd (gm g c) v k = none → Q (some (.int U1)) n h) : mz_wc (e + 2) 65 [.ref t, .int v] n h Q := by
  rw [← T.eq]
  refine s_tfind T.1 W.1 (fun j hj he hlt => ?_) (fun hn => ?_)
  · rw [T.eq]
    refine H1 j (fnd_s hj (by rw [← hm j hj]; exact he) (fun i hi hne => ?_))
    rcases Nat.lt_or_ge i j with z | z
    · rw [← hm i hi]
      exact hlt i z
    · rw [← he, hm j hj]
      exact (W.2.2.2.2 j i (by omega) hi).symm
  · rw [T.eq]
    exact H0 (fnd_n (fun j hj => by rw [← hm j hj]; exact hn j hj))
theorem s_refTap {card day minute station way : Int32} (C : CI h g kp gi) (H : Q (some (.int (tapRef g card day minute station way))) n h) : mz_wc (e + 3) 99 [.ref 2, .int card, .int day, .int minute, .int station, .int way] n h Q := by
  unfold tapRef at H
  refine mz_wc.enter (code := co_X10_refusalOfTap) (idx := 99) rfl rfl (Nat.le_of_ble_eq_true rfl) rfl rfl ?_
  have o1 : (inB card (nI 0) (nI 3) = false ∨ inB station (nI 0) (nI 7) = false) → mz_WP (mz_wc (e + 2)) (e + 2) 1 co_X10_refusalOfTap Q 15 [some (.ref 2), some (.int card), some (.int day), some (.int minute), some (.int station), some (.int way), none] [] n h 0 0 := by
    intro ho
    rw [if_pos ho] at H
    refine mz_WP.run 80 rfl ?_
    exact mz_WP.ret rfl rfl H
  refine mz_WP.run 80 rfl ?_
  refine mz_WP.cs rfl (by decide) rfl (Nat.le_of_ble_eq_true rfl) rfl (s_isCard ?_)
  refine mz_WP.ifc rfl (fun c0 => ?_) (fun c0 => ?_)
  · exact o1 (Or.inl (bI_f c0))
  · have c0 := bI_t c0
    refine mz_WP.run 80 rfl ?_
    refine mz_WP.cs rfl (by decide) rfl (Nat.le_of_ble_eq_true rfl) rfl (s_isStation ?_)
    refine mz_WP.ifc rfl (fun c1 => ?_) (fun c1 => ?_)
    · have c1 := bI_t c1
      rw [if_neg (fun z => z.elim (fun z => by rw [c0] at z; exact absurd z (by decide)) (fun z => by rw [c1] at z; exact absurd z (by decide)))] at H
      have o2 : (inB day (nI 0) (nI 27) = false ∨ inB minute (nI 0) (nI 1439) = false ∨ inB way (nI 0) (nI 1) = false) → mz_WP (mz_wc (e + 2)) (e + 2) 1 co_X10_refusalOfTap Q 41 [some (.ref 2), some (.int card), some (.int day), some (.int minute), some (.int station), some (.int way), none] [] n h 0 0 := by
        intro ho
        rw [if_pos ho] at H
        refine mz_WP.run 80 rfl ?_
        exact mz_WP.ret rfl rfl H
      refine mz_WP.run 80 rfl ?_
      refine mz_WP.cs rfl (by decide) rfl (Nat.le_of_ble_eq_true rfl) rfl (s_isDay ?_)
      refine mz_WP.ifc rfl (fun c2 => ?_) (fun c2 => ?_)
      · exact o2 (Or.inl (bI_f c2))
      · have c2 := bI_t c2
        refine mz_WP.run 80 rfl ?_
        refine mz_WP.cs rfl (by decide) rfl (Nat.le_of_ble_eq_true rfl) rfl (s_isMinute ?_)
        refine mz_WP.ifc rfl (fun c3 => ?_) (fun c3 => ?_)
        · exact o2 (Or.inr (Or.inl (bI_f c3)))
        · have c3 := bI_t c3
          refine mz_WP.run 80 rfl ?_
          refine mz_WP.cs rfl (by decide) rfl (Nat.le_of_ble_eq_true rfl) rfl (s_within ?_)
          refine mz_WP.ifc rfl (fun c4 => ?_) (fun c4 => ?_)
          · have c4 := bI_t c4
            rw [if_neg (fun z => z.elim (fun z => by rw [c2] at z; exact absurd z (by decide)) (fun z => z.elim (fun z => by rw [c3] at z; exact absurd z (by decide)) (fun z => by rw [c4] at z; exact absurd z (by decide))))] at H
            obtain ⟨c, -, hc, rfl⟩ := inB_of (by decide) (by decide) c0
            obtain ⟨F, B, h2, W, R, -⟩ := id C
            obtain ⟨k, Wc, m, s, w, T, r⟩ := R.1 c (by omega)
            rw [nI_clamp (by omega), Wc.k] at H
            refine mz_WP.run 80 rfl ?_
            refine mz_WP.getf rfl (h2) rfl (Nat.le_of_ble_eq_true rfl) ?_
            refine mz_WP.run 80 rfl ?_
            refine mz_WP.cv rfl rfl (Nat.le_of_ble_eq_true rfl) rfl (F _ _ rfl) rfl (s_tapsOf F (by omega) ?_)
            refine mz_WP.run 80 rfl ?_
            refine mz_WP.cs rfl (by decide) rfl (Nat.le_of_ble_eq_true rfl) rfl (s_momentOf ?_)
            refine mz_WP.cv rfl rfl (Nat.le_of_ble_eq_true rfl) rfl (T.2.1) rfl (r_find T Wc (fun j hj => (r j hj).1) (fun p hp => ?_) (fun hp => ?_))
            · have hp : fnd (gm g c) (momG day minute) k = some p := hp
              rw [hp] at H
              have := (fnd_lt hp).1
              have := Wc.1
              refine mz_WP.ifc rfl (fun c5 => ?_) (fun c5 => ?_)
              · exact absurd c5 (nI_pos (by omega))
              · refine mz_WP.run 80 rfl ?_
                exact mz_WP.ret rfl rfl H
            · have hp : fnd (gm g c) (momG day minute) k = none := hp
              rw [hp] at H
              dsimp only at H
              refine mz_WP.ifc rfl (fun c5 => ?_) (fun c5 => ?_)
              · refine mz_WP.run 80 rfl ?_
                refine mz_WP.cv rfl rfl (Nat.le_of_ble_eq_true rfl) rfl (T.2.1) rfl (r_tsize T ?_)
                refine mz_WP.run 80 rfl ?_
                have := Wc.1
                refine mz_WP.icmp rfl (fun c6 => ?_) (fun c6 => ?_)
                · have hk : k < 48 := (nI_ltI (by omega) (by decide)).mp c6
                  rw [if_pos hk] at H
                  refine mz_WP.run 80 rfl ?_
                  exact mz_WP.ret rfl rfl H
                · have hk : ¬ k < 48 := fun z => c6 (nI_lt z (by decide))
                  rw [if_neg hk] at H
                  refine mz_WP.run 80 rfl ?_
                  refine mz_WP.run 80 rfl ?_
                  exact mz_WP.ret rfl rfl H
              · exact absurd (show U1 < 0 by decide) c5
          · exact o2 (Or.inr (Or.inr (bI_f (Classical.byContradiction c4))))
    · exact o1 (Or.inr (bI_f (Classical.byContradiction c1)))
theorem tapRef_ok {card day minute station way : Int32} (hr : tapRef g card day minute station way = 0) : ∃ c d m st wy, c < 4 ∧ card = nI c ∧ d ≤ 27 ∧ day = nI d ∧ m ≤ 1439 ∧ minute = nI m ∧ st < 8 ∧ station = nI st ∧ wy < 2 ∧ way = nI wy ∧ fnd (gm g c) (nI (d * 1440 + m)) (kOf g c) = none ∧ kOf g c < 48 := by
  unfold tapRef at hr
  split at hr
  · exact absurd hr (by decide)
  · rename_i h1
    split at hr
    · exact absurd hr (by decide)
    · rename_i h2
      obtain ⟨c, -, hc, ec⟩ := inB_of (by decide) (by decide) (tF (fun z => h1 (Or.inl z)))
      obtain ⟨st, -, hs, es⟩ := inB_of (by decide) (by decide) (tF (fun z => h1 (Or.inr z)))
      obtain ⟨d, -, hd, ed⟩ := inB_of (by decide) (by decide) (tF (fun z => h2 (Or.inl z)))
      obtain ⟨m, -, hm, em⟩ := inB_of (by decide) (by decide) (tF (fun z => h2 (Or.inr (Or.inl z))))
      obtain ⟨wy, -, hw, ew⟩ := inB_of (by decide) (by decide) (tF (fun z => h2 (Or.inr (Or.inr z))))
      rw [ec, ed, em, (momG_n hd hm).1, nI_clamp (by omega)] at hr
      split at hr
      · exact absurd hr (by decide)
      · rename_i hf
        split at hr
        · rename_i hk
          exact ⟨c, d, m, st, wy, by omega, ec, hd, ed, hm, em, by omega, es, by omega, ew, hf, hk⟩
        · exact absurd hr (by decide)
theorem insf_c {f f' : Nat → Int32} {k p : Nat} {x : Int32} (hf : ∀ j, j < k → f j = f' j) (hp : p ≤ k) {j : Nat} (hj : j < k + 1) : insf f k p x j = insf f' k p x j := by
  unfold insf
  split
  · rfl
  · split
    · exact hf (j - 1) (by omega)
    · exact hf j (by omega)
theorem rmf_c {f f' : Nat → Int32} {k p : Nat} (hf : ∀ j, j < k → f j = f' j) {j : Nat} (hj : j < k - 1) : rmf f k p j = rmf f' k p j := by
  unfold rmf
  split
  · exact hf (j + 1) (by omega)
  · exact hf j (by omega)
/-- what insertion makes of the three rows, beside addG -/
theorem add_rows {c k : Nat} {x st wy p : Nat} {m s w : Nat → Int32} (hc : c < 4) (Wc : WFc g c k) (hk : k < 48) (hs : st < 8) (hw : wy < 2) (r : ∀ j, j < k → m j = gm g c j ∧ s j = gS g c j ∧ w j = gY g c j) (hp : p ≤ k) (hip : p = ipos (gm g c) (nI x) k) : ∀ j, j < k + 1 → insf m k p (nI x) j = gm (addG g c (nI x) (nI (2 * st + wy))) c j ∧ insf s k p (nI st) j = gS (addG g c (nI x) (nI (2 * st + wy))) c j ∧ insf w k p (nI wy) j = gY (addG g c (nI x) (nI (2 * st + wy))) c j := by
  intro j hj
  have e1 : gm (addG g c (nI x) (nI (2 * st + wy))) c j = insf (gm g c) k p (nI x) j := by
    unfold addG
    rw [setG_m hc (by omega), Wc.k, ← hip]
  have e2 : gw (addG g c (nI x) (nI (2 * st + wy))) c j = insf (gw g c) k p (nI (2 * st + wy)) j := by
    unfold addG
    rw [setG_w hc (by omega), Wc.k, ← hip]
  have e3 : gS (addG g c (nI x) (nI (2 * st + wy))) c j = insf (gS g c) k p (nI st) j := by
    show gw (addG g c (nI x) (nI (2 * st + wy))) c j / nI 2 = _
    rw [e2]
    unfold insf
    split
    · exact (gsy hs hw).1
    · split <;> rfl
  have e4 : gY (addG g c (nI x) (nI (2 * st + wy))) c j = insf (gY g c) k p (nI wy) j := by
    show gw (addG g c (nI x) (nI (2 * st + wy))) c j - gw (addG g c (nI x) (nI (2 * st + wy))) c j / nI 2 * nI 2 = _
    rw [e2]
    unfold insf
    split
    · exact (gsy hs hw).2
    · split <;> rfl
  rw [e1, e3, e4]
  exact ⟨insf_c (fun j hj => (r j hj).1) hp hj, insf_c (fun j hj => (r j hj).2.1) hp hj, insf_c (fun j hj => (r j hj).2.2) hp hj⟩
theorem s_tap {card day minute station way : Int32} (C : CI h g kp gi) (H : ∀ h', CI h' (tapG g card day minute station way) kp gi → (∀ b, 45 < b → h' b = h b) → Q (some (.int (tapR g card day minute station way))) n h') : mz_wc (e + 7) 84 [.ref 2, .int card, .int day, .int minute, .int station, .int way] n h Q := by
  unfold tapR tapG at H
  refine mz_wc.enter (code := co_X10_tap) (idx := 84) rfl rfl (Nat.le_of_ble_eq_true rfl) rfl rfl ?_
  refine mz_WP.run 80 rfl ?_
  refine mz_WP.cv rfl rfl (Nat.le_of_ble_eq_true rfl) rfl (C.2.2.1) rfl (s_refTap C ?_)
  refine mz_WP.run 80 rfl ?_
  refine mz_WP.ifc rfl (fun c0 => ?_) (fun c0 => ?_)
  · have c0 : tapRef g card day minute station way = 0 := c0
    rw [if_pos c0, if_pos c0] at H
    obtain ⟨c, d, m, st, wy, hc, rfl, hd, rfl, hm, rfl, hs, rfl, hw, rfl, hf, hk⟩ := tapRef_ok c0
    rw [nI_clamp (by omega), (momG_n hd hm).1, pk_mul, nI_add] at H
    obtain ⟨F, B, h2, W, R, -⟩ := id C
    obtain ⟨k, Wc, m1, s1, w1, T, r⟩ := R.1 c hc
    rw [Wc.k] at H hf hk
    refine mz_WP.run 80 rfl ?_
    refine mz_WP.getf rfl (h2) rfl (Nat.le_of_ble_eq_true rfl) ?_
    refine mz_WP.run 80 rfl ?_
    refine mz_WP.cv rfl rfl (Nat.le_of_ble_eq_true rfl) rfl (F _ _ rfl) rfl (s_tapsOf F hc ?_)
    refine mz_WP.run 80 rfl ?_
    refine mz_WP.cs rfl (by decide) rfl (Nat.le_of_ble_eq_true rfl) rfl (s_momentOf ?_)
    rw [pk_mul, nI_add]
    refine mz_WP.run 80 rfl ?_
    have ins : mz_wc (e + 6) 66 [.ref (3 + 1 + 7 * c), .int (nI (d * 1440 + m)), .int (nI st), .int (nI wy)] n (tpH h (3 + 1 + 7 * c) (nI k) m1 s1 w1) (fun v n' h' => mz_WP (mz_wc (e + 6)) (e + 6) 1 co_X10_tap Q 45 [some (.ref 2), some (.int (nI c)), some (.int (nI d)), some (.int (nI m)), some (.int (nI st)), some (.int (nI wy)), some (.int (tapRef g (nI c) (nI d) (nI m) (nI st) (nI wy))), some (.ref (3 + 1 + 7 * c))] (v.toList ++ []) n' h' 0 0) := by
      refine s_tins T.1 hk (fun p hp hgt hle => ?_)
      have hip : p = ipos (gm g c) (nI (d * 1440 + m)) k := ipos_eq hp (fun j a b => by rw [← (r j b).1]; exact hgt j a b) (by
        rcases hle with z | z
        · exact Or.inl z
        · by_cases e0 : p = 0
          · exact Or.inl e0
          · exact Or.inr (by rw [← (r (p - 1) (by omega)).1]; exact z))
      have CI' : CI (tpH h (3 + 1 + 7 * c) (nI (k + 1)) (insf m1 k p (nI (d * 1440 + m))) (insf s1 k p (nI st)) (insf w1 k p (nI wy))) (addG g c (nI (d * 1440 + m)) (nI (2 * st + wy))) kp gi := C.card hc T.1 (Wc.add hc hk (momG_n hd hm).2 hs hw (fnd_no hf)) (add_rows hc Wc hk hs hw r hp hip)
      refine mz_WP.run 80 rfl ?_
      refine mz_WP.cv rfl rfl (Nat.le_of_ble_eq_true rfl) rfl (tp_o) rfl (s_tsize ?_)
      exact mz_WP.ret rfl rfl (H _ CI' (fun b hb => tp_n (by omega) (by omega) (by omega) (by omega)))
    rw [T.eq] at ins
    refine mz_WP.cv rfl rfl (Nat.le_of_ble_eq_true rfl) rfl (T.2.1) rfl (ins)
  · have c0 : ¬ tapRef g card day minute station way = 0 := c0
    rw [if_neg c0, if_neg c0] at H
    refine mz_WP.run 80 rfl ?_
    exact mz_WP.ret rfl rfl (H h C (fun _ _ => rfl))
theorem s_untap {card day minute : Int32} (C : CI h g kp gi) (H : ∀ h', CI h' (untapG g card day minute) kp gi → (∀ b, 45 < b → h' b = h b) → Q (some (.int (untapR g card day minute))) n h') : mz_wc (e + 7) 85 [.ref 2, .int card, .int day, .int minute] n h Q := by
  unfold untapR untapG at H
  refine mz_wc.enter (code := co_X10_untap) (idx := 85) rfl rfl (Nat.le_of_ble_eq_true rfl) rfl rfl ?_
  refine mz_WP.run 80 rfl ?_
  refine mz_WP.cs rfl (by decide) rfl (Nat.le_of_ble_eq_true rfl) rfl (s_isCard ?_)
  refine mz_WP.ifc rfl (fun c0 => ?_) (fun c0 => ?_)
  · have c0 := bI_t c0
    have n0 : ¬ inB card (nI 0) (nI 3) = false := by rw [c0]; decide
    rw [if_neg n0, if_neg n0] at H
    have o2 : (inB day (nI 0) (nI 27) = false ∨ inB minute (nI 0) (nI 1439) = false) → mz_WP (mz_wc (e + 6)) (e + 6) 1 co_X10_untap Q 23 [some (.ref 2), some (.int card), some (.int day), some (.int minute), none, none] [] n h 0 0 := by
      intro ho
      rw [if_pos ho, if_pos ho] at H
      refine mz_WP.run 80 rfl ?_
      exact mz_WP.ret rfl rfl (H h C (fun _ _ => rfl))
    refine mz_WP.run 80 rfl ?_
    refine mz_WP.cs rfl (by decide) rfl (Nat.le_of_ble_eq_true rfl) rfl (s_isDay ?_)
    refine mz_WP.ifc rfl (fun c1 => ?_) (fun c1 => ?_)
    · exact o2 (Or.inl (bI_f c1))
    · have c1 := bI_t c1
      refine mz_WP.run 80 rfl ?_
      refine mz_WP.cs rfl (by decide) rfl (Nat.le_of_ble_eq_true rfl) rfl (s_isMinute ?_)
      refine mz_WP.ifc rfl (fun c2 => ?_) (fun c2 => ?_)
      · have c2 := bI_t c2
        have n2 : ¬ (inB day (nI 0) (nI 27) = false ∨ inB minute (nI 0) (nI 1439) = false) := fun z => z.elim (fun z => by rw [c1] at z; exact absurd z (by decide)) (fun z => by rw [c2] at z; exact absurd z (by decide))
        rw [if_neg n2, if_neg n2] at H
        obtain ⟨c, -, hc, rfl⟩ := inB_of (by decide) (by decide) c0
        obtain ⟨F, B, h2, W, R, -⟩ := id C
        obtain ⟨k, Wc, m1, s1, w1, T, r⟩ := R.1 c (by omega)
        unfold untapF at H
        rw [nI_clamp (by omega), Wc.k] at H
        have hk := Wc.1
        refine mz_WP.run 80 rfl ?_
        refine mz_WP.getf rfl (h2) rfl (Nat.le_of_ble_eq_true rfl) ?_
        refine mz_WP.run 80 rfl ?_
        refine mz_WP.cv rfl rfl (Nat.le_of_ble_eq_true rfl) rfl (F _ _ rfl) rfl (s_tapsOf F (by omega) ?_)
        refine mz_WP.run 80 rfl ?_
        refine mz_WP.cs rfl (by decide) rfl (Nat.le_of_ble_eq_true rfl) rfl (s_momentOf ?_)
        refine mz_WP.cv rfl rfl (Nat.le_of_ble_eq_true rfl) rfl (T.2.1) rfl (r_find T Wc (fun j hj => (r j hj).1) (fun p hp => ?_) (fun hp => ?_))
        · have hp : fnd (gm g c) (momG day minute) k = some p := hp
          rw [hp] at H
          dsimp only at H
          have hpk := (fnd_lt hp).1
          refine mz_WP.run 80 rfl ?_
          refine mz_WP.ifc rfl (fun c5 => ?_) (fun c5 => ?_)
          · refine mz_WP.run 80 rfl ?_
            have rem : mz_wc (e + 6) 67 [.ref (3 + 1 + 7 * c), .int (nI p)] n (tpH h (3 + 1 + 7 * c) (nI k) m1 s1 w1) (fun v n' h' => mz_WP (mz_wc (e + 6)) (e + 6) 1 co_X10_untap Q 63 [some (.ref 2), some (.int (nI c)), some (.int day), some (.int minute), some (.ref (3 + 1 + 7 * c)), some (.int (nI p))] (v.toList ++ []) n' h' 0 0) := by
              refine s_trem T.1 hk hpk ?_
              have hr : ∀ j, j < k - 1 → rmf m1 k p j = gm (rmG g c p) c j ∧ rmf s1 k p j = gS (rmG g c p) c j ∧ rmf w1 k p j = gY (rmG g c p) c j := by
                intro j hj
                have e1 : gm (rmG g c p) c j = rmf (gm g c) k p j := by
                  unfold rmG
                  rw [setG_m (by omega) (by omega), Wc.k]
                have e2 : gw (rmG g c p) c j = rmf (gw g c) k p j := by
                  unfold rmG
                  rw [setG_w (by omega) (by omega), Wc.k]
                have e3 : gS (rmG g c p) c j = rmf (gS g c) k p j := by
                  show gw (rmG g c p) c j / nI 2 = _
                  rw [e2]
                  unfold rmf
                  split <;> rfl
                have e4 : gY (rmG g c p) c j = rmf (gY g c) k p j := by
                  show gw (rmG g c p) c j - gw (rmG g c p) c j / nI 2 * nI 2 = _
                  rw [e2]
                  unfold rmf
                  split <;> rfl
                rw [e1, e3, e4]
                exact ⟨rmf_c (fun j hj => (r j hj).1) hj, rmf_c (fun j hj => (r j hj).2.1) hj, rmf_c (fun j hj => (r j hj).2.2) hj⟩
              have CI' : CI (tpH h (3 + 1 + 7 * c) (nI (k - 1)) (rmf m1 k p) (rmf s1 k p) (rmf w1 k p)) (rmG g c p) kp gi := C.card (by omega) T.1 (Wc.rm (by omega) hpk) hr
              refine mz_WP.run 80 rfl ?_
              refine mz_WP.cv rfl rfl (Nat.le_of_ble_eq_true rfl) rfl (tp_o) rfl (s_tsize ?_)
              exact mz_WP.ret rfl rfl (H _ CI' (fun b hb => tp_n (by omega) (by omega) (by omega) (by omega)))
            rw [T.eq] at rem
            refine mz_WP.cv rfl rfl (Nat.le_of_ble_eq_true rfl) rfl (T.2.1) rfl (rem)
          · exact absurd (nI_pos' (by omega)) c5
        · have hp : fnd (gm g c) (momG day minute) k = none := hp
          rw [hp] at H
          dsimp only at H
          refine mz_WP.run 80 rfl ?_
          refine mz_WP.ifc rfl (fun c5 => ?_) (fun c5 => ?_)
          · exact absurd c5 (show ¬ 0 ≤ U1 by decide)
          · refine mz_WP.run 80 rfl ?_
            exact mz_WP.ret rfl rfl (H h C (fun _ _ => rfl))
      · exact o2 (Or.inr (bI_f (Classical.byContradiction c2)))
  · have c0 := bI_f (Classical.byContradiction c0)
    rw [if_pos c0, if_pos c0] at H
    refine mz_WP.run 80 rfl ?_
    exact mz_WP.ret rfl rfl (H h C (fun _ _ => rfl))
theorem s_told {card i what : Int32} (C : CI h g kp gi) (H : Q (some (.int (toldR g card i what))) n h) : mz_wc (e + 7) 86 [.ref 2, .int card, .int i, .int what] n h Q := by
  unfold toldR at H
  refine mz_wc.enter (code := co_X10_told) (idx := 86) rfl rfl (Nat.le_of_ble_eq_true rfl) rfl rfl ?_
  refine mz_WP.run 80 rfl ?_
  refine mz_WP.cs rfl (by decide) rfl (Nat.le_of_ble_eq_true rfl) rfl (s_isCard ?_)
  refine mz_WP.ifc rfl (fun c0 => ?_) (fun c0 => ?_)
  · have c0 := bI_t c0
    rw [if_neg (by rw [c0]; decide)] at H
    refine mz_WP.run 80 rfl ?_
    refine mz_WP.cs rfl (by decide) rfl (Nat.le_of_ble_eq_true rfl) rfl (s_within ?_)
    refine mz_WP.ifc rfl (fun c1 => ?_) (fun c1 => ?_)
    · have c1 := bI_t c1
      rw [if_neg (by rw [c1]; decide)] at H
      obtain ⟨c, -, hc, rfl⟩ := inB_of (by decide) (by decide) c0
      obtain ⟨q, -, hq, rfl⟩ := inB_of (by decide) (by decide) c1
      obtain ⟨F, B, h2, W, R, -⟩ := id C
      obtain ⟨k, Wc, m1, s1, w1, T, r⟩ := R.1 c (by omega)
      have hk := Wc.1
      rw [nI_clamp (by omega), Wc.2.1] at H
      have none' : (i < 0 ∨ nI k ≤ i) → mz_WP (mz_wc (e + 6)) (e + 6) 1 co_X10_told Q 44 [some (.ref 2), some (.int (nI c)), some (.int i), some (.int (nI q)), some (.ref (3 + 1 + 7 * c))] [] n h 0 0 := by
        intro ho
        rw [if_pos ho] at H
        refine mz_WP.run 80 rfl ?_
        exact mz_WP.ret rfl rfl H
      refine mz_WP.run 80 rfl ?_
      refine mz_WP.getf rfl (h2) rfl (Nat.le_of_ble_eq_true rfl) ?_
      refine mz_WP.run 80 rfl ?_
      refine mz_WP.cv rfl rfl (Nat.le_of_ble_eq_true rfl) rfl (F _ _ rfl) rfl (s_tapsOf F (by omega) ?_)
      refine mz_WP.run 80 rfl ?_
      refine mz_WP.ifc rfl (fun c2 => ?_) (fun c2 => ?_)
      · exact none' (Or.inl c2)
      · have c2 : ¬ i < 0 := c2
        refine mz_WP.run 80 rfl ?_
        refine mz_WP.cv rfl rfl (Nat.le_of_ble_eq_true rfl) rfl (T.2.1) rfl (r_tsize T ?_)
        refine mz_WP.icmp rfl (fun c3 => ?_) (fun c3 => ?_)
        · have c3 : i < nI k := c3
          obtain ⟨j, hj, rfl⟩ := nI_of c2
          have hjk := (nI_ltI hj (by omega)).mp c3
          rw [if_neg (fun z => z.elim c2 (fun z => Int32.not_le.mpr c3 z)), nI_clamp hj] at H
          obtain ⟨r1, r2, r3⟩ := r j hjk
          unfold toldW at H
          refine mz_WP.run 80 rfl ?_
          rcases (show q = 0 ∨ q = 1 ∨ q = 2 ∨ q = 3 by omega) with rfl | rfl | rfl | rfl
          · refine mz_WP.tin (off := 28) rfl (by decide) (by decide) ?_
            refine mz_WP.run 80 rfl ?_
            refine mz_WP.cv rfl rfl (Nat.le_of_ble_eq_true rfl) rfl (T.2.1) rfl (r_tmom T ?_)
            rw [rat_in (by omega) (by decide), r1]
            refine mz_WP.cs rfl (by decide) rfl (Nat.le_of_ble_eq_true rfl) rfl (s_dayOf ?_)
            exact mz_WP.ret rfl rfl H
          · refine mz_WP.tin (off := 38) rfl (by decide) (by decide) ?_
            refine mz_WP.run 80 rfl ?_
            refine mz_WP.cv rfl rfl (Nat.le_of_ble_eq_true rfl) rfl (T.2.1) rfl (r_tmom T ?_)
            rw [rat_in (by omega) (by decide), r1]
            refine mz_WP.cs rfl (by decide) rfl (Nat.le_of_ble_eq_true rfl) rfl (s_minuteOf ?_)
            exact mz_WP.ret rfl rfl H
          · refine mz_WP.tin (off := 48) rfl (by decide) (by decide) ?_
            refine mz_WP.run 80 rfl ?_
            refine mz_WP.cv rfl rfl (Nat.le_of_ble_eq_true rfl) rfl (T.2.1) rfl (r_tsta T ?_)
            rw [rat_in (by omega) (by decide), r2]
            exact mz_WP.ret rfl rfl H
          · refine mz_WP.tout rfl (by decide) ?_
            refine mz_WP.run 80 rfl ?_
            refine mz_WP.cv rfl rfl (Nat.le_of_ble_eq_true rfl) rfl (T.2.1) rfl (r_tway T ?_)
            rw [rat_in (by omega) (by decide), r3]
            exact mz_WP.ret rfl rfl H
        · exact none' (Or.inr (Int32.not_lt.mp c3))
    · have c1 := bI_f (Classical.byContradiction c1)
      rw [if_pos c1] at H
      refine mz_WP.run 80 rfl ?_
      exact mz_WP.ret rfl rfl H
  · have c0 := bI_f (Classical.byContradiction c0)
    rw [if_pos c0] at H
    refine mz_WP.run 80 rfl ?_
    exact mz_WP.ret rfl rfl H
end TT
end
section
/-! the class: copies of all that lasts -/
section CP
variable {e n : Nat} {h : mz_H} {Q : mz_Q} {g : Nat → Int32} {t t2 : Nat} {z z2 : Int32} {m s w m2 s2 w2 : Nat → Int32} {a a2 : Nat}
theorem tp_F (F : Fx h) (f0 : fxt t = none) (f2 : fxt (t + 2) = none) (f4 : fxt (t + 4) = none) (f6 : fxt (t + 6) = none) : Fx (tpH h t z m s w) := by
  intro b x hx
  have hne : ∀ q, fxt q = none → b ≠ q := fun q hq e => by rw [e, hq] at hx; cases hx
  rw [tp_n (hne _ f0) (hne _ f2) (hne _ f4) (hne _ f6)]
  exact F b x hx
theorem s_tcpy (F : tpF h t) (T2 : TA h t2 z2 m2 s2 w2) (hd : t + 6 < t2 ∨ t2 + 6 < t) (H : Q none n (tpH h t z2 (rcpy 48 m m2) (rcpy 48 s s2) (rcpy 48 w w2))) : mz_wc (e + 3) 70 [.ref t, .ref t2] n (tpH h t z m s w) Q := by
  have h2 := F.1
  have T : ∀ {z m s w}, TA (tpH h t z m s w) t2 z2 m2 s2 w2 := T2.to (fun b h1 h2 => tp_n (by omega) (by omega) (by omega) (by omega))
  refine mz_wc.enter (code := co_X8_copyFrom) (idx := 70) rfl rfl (Nat.le_of_ble_eq_true rfl) rfl rfl ?_
  refine mz_WP.run 80 rfl ?_
  refine mz_WP.getf rfl (tp_o) rfl (Nat.le_of_ble_eq_true rfl) ?_
  refine mz_WP.run 80 rfl ?_
  refine mz_WP.getf rfl (T.2.1) rfl (Nat.le_of_ble_eq_true rfl) ?_
  refine mz_WP.cv rfl rfl (Nat.le_of_ble_eq_true rfl) rfl (tp_1 F) rfl (s_cpy (tp_1 F) tp_2 (by omega) (by decide) T.1.2.1 T.2.2.1 (by omega) ?_)
  rw [tp_u2]
  refine mz_WP.run 80 rfl ?_
  refine mz_WP.getf rfl (tp_o) rfl (Nat.le_of_ble_eq_true rfl) ?_
  refine mz_WP.run 80 rfl ?_
  refine mz_WP.getf rfl (T.2.1) rfl (Nat.le_of_ble_eq_true rfl) ?_
  refine mz_WP.cv rfl rfl (Nat.le_of_ble_eq_true rfl) rfl (tp_3 F) rfl (s_cpy (tp_3 F) tp_4 (by omega) (by decide) T.1.2.2.1 T.2.2.2.1 (by omega) ?_)
  rw [tp_u4]
  refine mz_WP.run 80 rfl ?_
  refine mz_WP.getf rfl (tp_o) rfl (Nat.le_of_ble_eq_true rfl) ?_
  refine mz_WP.run 80 rfl ?_
  refine mz_WP.getf rfl (T.2.1) rfl (Nat.le_of_ble_eq_true rfl) ?_
  refine mz_WP.cv rfl rfl (Nat.le_of_ble_eq_true rfl) rfl (tp_5 F) rfl (s_cpy (tp_5 F) tp_6 (by omega) (by decide) T.1.2.2.2 T.2.2.2.2 (by omega) ?_)
  rw [tp_u6]
  refine mz_WP.run 80 rfl ?_
  refine mz_WP.getf rfl (T.2.1) rfl (Nat.le_of_ble_eq_true rfl) ?_
  refine mz_WP.putf rfl (tp_o) (Nat.le_of_ble_eq_true rfl) (Nat.le_of_ble_eq_true rfl) rfl ?_
  refine mz_WP.vret rfl rfl ?_
  show Q none n (mz_up _ t (.inr (8, [.ref (t + 1), .ref (t + 3), .ref (t + 5), .int z2])))
  rw [tp_u0]
  exact H
theorem r_tcpy (T1 : TA h t z m s w) (T2 : TA h t2 z2 m2 s2 w2) (hd : t + 6 < t2 ∨ t2 + 6 < t) (H : ∀ m' s' w' : Nat → Int32, (∀ j, j < 48 → m' j = m2 j ∧ s' j = s2 j ∧ w' j = w2 j) → Q none n (tpH h t z2 m' s' w')) : mz_wc (e + 3) 70 [.ref t, .ref t2] n h Q := by
  have := s_tcpy (e := e) (n := n) (Q := Q) (z := z) (m := m) (s := s) (w := w) T1.1 T2 hd (H _ _ _ (fun j hj => ⟨if_pos hj, if_pos hj, if_pos hj⟩))
  rw [T1.eq] at this
  exact this
theorem rat_cpy {m : Nat} (hm : m < 2 ^ 31) {f g : Nat → Int32} : rat m (rcpy m f g) = rat m g := rat_c hm (fun j hj => if_pos hj)
theorem s_prcpy {zr fr cr wr zr2 fr2 cr2 wr2 : Nat → Int32} {mo ne mo2 ne2 : Int32} (T : TrA h a zr fr cr wr mo ne) (T2 : TrA h a2 zr2 fr2 cr2 wr2 mo2 ne2) (h2 : 2 ≤ a) (hd : a + 8 < a2 ∨ a2 + 8 < a) (fx : fxt a = none ∧ fxt (a + 2) = none ∧ fxt (a + 4) = none ∧ fxt (a + 6) = none ∧ fxt (a + 8) = none) (H : ∀ h', TrA h' a (rcpy 8 zr zr2) (rcpy 6 fr fr2) (rcpy 6 cr cr2) (rcpy 6 wr wr2) mo2 ne2 → (∀ b, b < a ∨ a + 8 < b → h' b = h b) → (Fx h → Fx h') → Q none n h') : mz_wc (e + 3) 80 [.ref a, .ref a2] n h Q := by
  obtain ⟨x0, x2, x4, x6, x8⟩ := fx
  refine mz_wc.enter (code := co_X9_copyFrom) (idx := 80) rfl rfl (Nat.le_of_ble_eq_true rfl) rfl rfl ?_
  refine mz_WP.run 80 rfl ?_
  refine mz_WP.getf rfl (T.1) rfl (Nat.le_of_ble_eq_true rfl) ?_
  refine mz_WP.run 80 rfl ?_
  refine mz_WP.getf rfl (T2.1) rfl (Nat.le_of_ble_eq_true rfl) ?_
  refine mz_WP.cv rfl rfl (Nat.le_of_ble_eq_true rfl) rfl (T.2.1.1) rfl (s_cpy T.2.1.1 T.2.2.1 (by omega) (by decide) T2.2.1.1 T2.2.2.1 (by omega) ?_)
  have U1 := T.u2 (f := rcpy 8 zr zr2)
  have o1 : ∀ b, b < a ∨ a + 8 < b → mz_up h (a + 2) (.inl (0, 8, rcpy 8 zr zr2)) b = h b := fun b hb => mz_up_n (by omega)
  have f1 : Fx h → Fx (mz_up h (a + 2) (.inl (0, 8, rcpy 8 zr zr2))) := fun F => F.up x2
  have V1 := T2.to (h' := mz_up h (a + 2) (.inl (0, 8, rcpy 8 zr zr2))) (fun b h1 h2 => o1 b (by omega))
  generalize mz_up h (a + 2) (.inl (0, 8, rcpy 8 zr zr2)) = h1 at U1 o1 f1 V1 ⊢
  refine mz_WP.run 80 rfl ?_
  refine mz_WP.getf rfl (U1.1) rfl (Nat.le_of_ble_eq_true rfl) ?_
  refine mz_WP.run 80 rfl ?_
  refine mz_WP.getf rfl (V1.1) rfl (Nat.le_of_ble_eq_true rfl) ?_
  refine mz_WP.cv rfl rfl (Nat.le_of_ble_eq_true rfl) rfl (U1.2.1.2.1) rfl (s_cpy U1.2.1.2.1 U1.2.2.2.1 (by omega) (by decide) V1.2.1.2.1 V1.2.2.2.1 (by omega) ?_)
  have U2 := U1.u4 (f := rcpy 6 fr fr2)
  have o2 : ∀ b, b < a ∨ a + 8 < b → mz_up h1 (a + 4) (.inl (0, 6, rcpy 6 fr fr2)) b = h b := fun b hb => (mz_up_n (by omega)).trans (o1 b hb)
  have f2 : Fx h → Fx (mz_up h1 (a + 4) (.inl (0, 6, rcpy 6 fr fr2))) := fun F => (f1 F).up x4
  have V2 := T2.to (h' := mz_up h1 (a + 4) (.inl (0, 6, rcpy 6 fr fr2))) (fun b h1 h2 => o2 b (by omega))
  generalize mz_up h1 (a + 4) (.inl (0, 6, rcpy 6 fr fr2)) = h2 at U2 o2 f2 V2 ⊢
  refine mz_WP.run 80 rfl ?_
  refine mz_WP.getf rfl (U2.1) rfl (Nat.le_of_ble_eq_true rfl) ?_
  refine mz_WP.run 80 rfl ?_
  refine mz_WP.getf rfl (V2.1) rfl (Nat.le_of_ble_eq_true rfl) ?_
  refine mz_WP.cv rfl rfl (Nat.le_of_ble_eq_true rfl) rfl (U2.2.1.2.2.1) rfl (s_cpy U2.2.1.2.2.1 U2.2.2.2.2.1 (by omega) (by decide) V2.2.1.2.2.1 V2.2.2.2.2.1 (by omega) ?_)
  have U3 := U2.u6 (f := rcpy 6 cr cr2)
  have o3 : ∀ b, b < a ∨ a + 8 < b → mz_up h2 (a + 6) (.inl (0, 6, rcpy 6 cr cr2)) b = h b := fun b hb => (mz_up_n (by omega)).trans (o2 b hb)
  have f3 : Fx h → Fx (mz_up h2 (a + 6) (.inl (0, 6, rcpy 6 cr cr2))) := fun F => (f2 F).up x6
  have V3 := T2.to (h' := mz_up h2 (a + 6) (.inl (0, 6, rcpy 6 cr cr2))) (fun b h1 h2 => o3 b (by omega))
  generalize mz_up h2 (a + 6) (.inl (0, 6, rcpy 6 cr cr2)) = h3 at U3 o3 f3 V3 ⊢
  refine mz_WP.run 80 rfl ?_
  refine mz_WP.getf rfl (U3.1) rfl (Nat.le_of_ble_eq_true rfl) ?_
  refine mz_WP.run 80 rfl ?_
  refine mz_WP.getf rfl (V3.1) rfl (Nat.le_of_ble_eq_true rfl) ?_
  refine mz_WP.cv rfl rfl (Nat.le_of_ble_eq_true rfl) rfl (U3.2.1.2.2.2) rfl (s_cpy U3.2.1.2.2.2 U3.2.2.2.2.2 (by omega) (by decide) V3.2.1.2.2.2 V3.2.2.2.2.2 (by omega) ?_)
  have U4 := U3.u8 (f := rcpy 6 wr wr2)
  have o4 : ∀ b, b < a ∨ a + 8 < b → mz_up h3 (a + 8) (.inl (0, 6, rcpy 6 wr wr2)) b = h b := fun b hb => (mz_up_n (by omega)).trans (o3 b hb)
  have f4 : Fx h → Fx (mz_up h3 (a + 8) (.inl (0, 6, rcpy 6 wr wr2))) := fun F => (f3 F).up x8
  have V4 := T2.to (h' := mz_up h3 (a + 8) (.inl (0, 6, rcpy 6 wr wr2))) (fun b h1 h2 => o4 b (by omega))
  generalize mz_up h3 (a + 8) (.inl (0, 6, rcpy 6 wr wr2)) = h4 at U4 o4 f4 V4 ⊢
  refine mz_WP.run 80 rfl ?_
  refine mz_WP.getf rfl (V4.1) rfl (Nat.le_of_ble_eq_true rfl) ?_
  refine mz_WP.putf rfl (U4.1) (Nat.le_of_ble_eq_true rfl) (Nat.le_of_ble_eq_true rfl) rfl ?_
  show mz_WP _ _ _ _ _ _ _ _ _ (mz_up h4 a (.inr (9, [.ref (a + 1), .ref (a + 3), .ref (a + 5), .ref (a + 7), .int mo2, .int ne]))) _ _
  have U5' := U4.u0 (x := mo2) (y := ne)
  have V5 := V4.to (h' := mz_up h4 a (.inr (9, [.ref (a + 1), .ref (a + 3), .ref (a + 5), .ref (a + 7), .int mo2, .int ne]))) (fun b h1 h2 => mz_up_n (by omega))
  refine mz_WP.run 80 rfl ?_
  refine mz_WP.getf rfl (V5.1) rfl (Nat.le_of_ble_eq_true rfl) ?_
  refine mz_WP.putf rfl (U5'.1) (Nat.le_of_ble_eq_true rfl) (Nat.le_of_ble_eq_true rfl) rfl ?_
  refine mz_WP.vret rfl rfl ?_
  show Q none n (mz_up _ a (.inr (9, [.ref (a + 1), .ref (a + 3), .ref (a + 5), .ref (a + 7), .int mo2, .int ne2])))
  rw [mz_up_up]
  exact H _ U4.u0 (fun b hb => (mz_up_n (by omega)).trans (o4 b hb)) (fun F => (f4 F).up x0)
theorem s_blcpy {nb bb nb2 bb2 : Nat → Int32} {nu ba nu2 ba2 : Int32} (T : BlA h a nb bb nu ba) (T2 : BlA h a2 nb2 bb2 nu2 ba2) (h2 : 2 ≤ a) (hd : a + 4 < a2 ∨ a2 + 4 < a) (fx : fxt a = none ∧ fxt (a + 2) = none ∧ fxt (a + 4) = none) (H : ∀ h', BlA h' a (rcpy 4 nb nb2) (rcpy 4 bb bb2) nu2 ba2 → (∀ b, b < a ∨ a + 4 < b → h' b = h b) → (Fx h → Fx h') → Q none n h') : mz_wc (e + 3) 8 [.ref a, .ref a2] n h Q := by
  obtain ⟨x0, x2, x4⟩ := fx
  refine mz_wc.enter (code := co_X0_copyFrom) (idx := 8) rfl rfl (Nat.le_of_ble_eq_true rfl) rfl rfl ?_
  refine mz_WP.run 80 rfl ?_
  refine mz_WP.getf rfl (T.1) rfl (Nat.le_of_ble_eq_true rfl) ?_
  refine mz_WP.run 80 rfl ?_
  refine mz_WP.getf rfl (T2.1) rfl (Nat.le_of_ble_eq_true rfl) ?_
  refine mz_WP.cv rfl rfl (Nat.le_of_ble_eq_true rfl) rfl (T.2.1.1) rfl (s_cpy T.2.1.1 T.2.2.1 (by omega) (by decide) T2.2.1.1 T2.2.2.1 (by omega) ?_)
  have U1 := T.u2 (f := rcpy 4 nb nb2)
  have o1 : ∀ b, b < a ∨ a + 4 < b → mz_up h (a + 2) (.inl (0, 4, rcpy 4 nb nb2)) b = h b := fun b hb => mz_up_n (by omega)
  have f1 : Fx h → Fx (mz_up h (a + 2) (.inl (0, 4, rcpy 4 nb nb2))) := fun F => F.up x2
  have V1 := T2.to (h' := mz_up h (a + 2) (.inl (0, 4, rcpy 4 nb nb2))) (fun b h1 h2 => o1 b (by omega))
  generalize mz_up h (a + 2) (.inl (0, 4, rcpy 4 nb nb2)) = h1 at U1 o1 f1 V1 ⊢
  refine mz_WP.run 80 rfl ?_
  refine mz_WP.getf rfl (U1.1) rfl (Nat.le_of_ble_eq_true rfl) ?_
  refine mz_WP.run 80 rfl ?_
  refine mz_WP.getf rfl (V1.1) rfl (Nat.le_of_ble_eq_true rfl) ?_
  refine mz_WP.cv rfl rfl (Nat.le_of_ble_eq_true rfl) rfl (U1.2.1.2) rfl (s_cpy U1.2.1.2 U1.2.2.2 (by omega) (by decide) V1.2.1.2 V1.2.2.2 (by omega) ?_)
  have U2 := U1.u4 (f := rcpy 4 bb bb2)
  have o2 : ∀ b, b < a ∨ a + 4 < b → mz_up h1 (a + 4) (.inl (0, 4, rcpy 4 bb bb2)) b = h b := fun b hb => (mz_up_n (by omega)).trans (o1 b hb)
  have f2 : Fx h → Fx (mz_up h1 (a + 4) (.inl (0, 4, rcpy 4 bb bb2))) := fun F => (f1 F).up x4
  have V2 := T2.to (h' := mz_up h1 (a + 4) (.inl (0, 4, rcpy 4 bb bb2))) (fun b h1 h2 => o2 b (by omega))
  generalize mz_up h1 (a + 4) (.inl (0, 4, rcpy 4 bb bb2)) = h2 at U2 o2 f2 V2 ⊢
  refine mz_WP.run 80 rfl ?_
  refine mz_WP.getf rfl (V2.1) rfl (Nat.le_of_ble_eq_true rfl) ?_
  refine mz_WP.putf rfl (U2.1) (Nat.le_of_ble_eq_true rfl) (Nat.le_of_ble_eq_true rfl) rfl ?_
  show mz_WP _ _ _ _ _ _ _ _ _ (mz_up h2 a (.inr (0, [.ref (a + 1), .ref (a + 3), .int nu2, .int ba]))) _ _
  have U5' := U2.u0 (x := nu2) (y := ba)
  have V5 := V2.to (h' := mz_up h2 a (.inr (0, [.ref (a + 1), .ref (a + 3), .int nu2, .int ba]))) (fun b h1 h2 => mz_up_n (by omega))
  refine mz_WP.run 80 rfl ?_
  refine mz_WP.getf rfl (V5.1) rfl (Nat.le_of_ble_eq_true rfl) ?_
  refine mz_WP.putf rfl (U5'.1) (Nat.le_of_ble_eq_true rfl) (Nat.le_of_ble_eq_true rfl) rfl ?_
  refine mz_WP.vret rfl rfl ?_
  show Q none n (mz_up _ a (.inr (0, [.ref (a + 1), .ref (a + 3), .int nu2, .int ba2])))
  rw [mz_up_up]
  exact H _ U2.u0 (fun b hb => (mz_up_n (by omega)).trans (o2 b hb)) (fun F => (f2 F).up x0)
def NXS (S : Nat) : Bool := [1, 3, 5, 7, 8, 10, 12, 14, 15, 17, 19, 21, 22, 24, 26, 28, 29, 31, 33, 35, 37, 38, 40, 42].all (fun i => (fxt (S + i)).isNone)
theorem NXS_g {S i : Nat} (N : NXS S = true) (hi : i ∈ [1, 3, 5, 7, 8, 10, 12, 14, 15, 17, 19, 21, 22, 24, 26, 28, 29, 31, 33, 35, 37, 38, 40, 42]) : fxt (S + i) = none := Option.isNone_iff_eq_none.mp (List.all_eq_true.mp N i hi)
def stO (S : Nat) : mz_C := .inr (7, [.ref (S + 1), .ref (S + 8), .ref (S + 15), .ref (S + 22), .ref (S + 29), .ref (S + 38)])
theorem s_scpy {S S2 : Nat} (F : Fx h) (N : NXS S = true) (hS : fxt S = some (stO S)) (hS2 : fxt S2 = some (stO S2)) (h2 : 2 ≤ S) (hd : S + 42 < S2 ∨ S2 + 42 < S) (Sh : Shp S h) (R : Rep S2 h g) (H : ∀ h', Rep S h' g → (∀ b, b < S ∨ S + 42 < b → h' b = h b) → Fx h' → Q none n h') : mz_wc (e + 4) 59 [.ref S, .ref S2] n h Q := by
  obtain ⟨A1, ⟨zr, fr, cr, wr, mr, ne, Tr⟩, nb, bb, nu, ba, Bl⟩ := Sh
  obtain ⟨R1, ⟨zr2, fr2, cr2, wr2, Tr2, t1, t2, t3, t4⟩, nb2, bb2, Bl2, rb⟩ := R
  obtain ⟨z0, m0, s0, w0, T0⟩ := A1 0 (by decide)
  obtain ⟨z1, m1, s1, w1, T1⟩ := A1 1 (by decide)
  obtain ⟨z2, m2, s2, w2, T2⟩ := A1 2 (by decide)
  obtain ⟨z3, m3, s3, w3, T3⟩ := A1 3 (by decide)
  obtain ⟨k0, W0, p0, q0, r0, V0, e0⟩ := R1 0 (by decide)
  obtain ⟨k1, W1, p1, q1, r1, V1, e1⟩ := R1 1 (by decide)
  obtain ⟨k2, W2, p2, q2, r2, V2, e2⟩ := R1 2 (by decide)
  obtain ⟨k3, W3, p3, q3, r3, V3, e3⟩ := R1 3 (by decide)
  have T0 : TA h (S + 1) z0 m0 s0 w0 := T0
  have T1 : TA h (S + 8) z1 m1 s1 w1 := T1
  have T2 : TA h (S + 15) z2 m2 s2 w2 := T2
  have T3 : TA h (S + 22) z3 m3 s3 w3 := T3
  have V0 : TA h (S2 + 1) (nI k0) p0 q0 r0 := V0
  have V1 : TA h (S2 + 8) (nI k1) p1 q1 r1 := V1
  have V2 : TA h (S2 + 15) (nI k2) p2 q2 r2 := V2
  have V3 : TA h (S2 + 22) (nI k3) p3 q3 r3 := V3
  refine mz_wc.enter (code := co_X7_copyFrom) (idx := 59) rfl rfl (Nat.le_of_ble_eq_true rfl) rfl rfl ?_
  refine mz_WP.run 80 rfl ?_
  refine mz_WP.getf rfl (F _ _ hS) rfl (Nat.le_of_ble_eq_true rfl) ?_
  refine mz_WP.run 80 rfl ?_
  refine mz_WP.getf rfl (F _ _ hS2) rfl (Nat.le_of_ble_eq_true rfl) ?_
  refine mz_WP.cv rfl rfl (Nat.le_of_ble_eq_true rfl) rfl (T0.2.1) rfl (r_tcpy T0 V0 (by omega) (fun a0 b0 c0 E0 => ?_))
  have X0 : TA (tpH h (S + 1) (nI k0) a0 b0 c0) (S + 1) (nI k0) a0 b0 c0 := TA.tp T0.1
  have o0 : ∀ b, b < S + 1 ∨ S + 1 + 6 < b → tpH h (S + 1) (nI k0) a0 b0 c0 b = h b := fun b hb => tp_n (by omega) (by omega) (by omega) (by omega)
  have F0 : Fx (tpH h (S + 1) (nI k0) a0 b0 c0) := tp_F F (NXS_g N (by decide)) (NXS_g (i := 3) N (by decide)) (NXS_g (i := 5) N (by decide)) (NXS_g (i := 7) N (by decide))
  generalize tpH h (S + 1) (nI k0) a0 b0 c0 = h0 at X0 o0 F0 ⊢
  refine mz_WP.run 80 rfl ?_
  refine mz_WP.getf rfl (F0 _ _ hS) rfl (Nat.le_of_ble_eq_true rfl) ?_
  refine mz_WP.run 80 rfl ?_
  refine mz_WP.getf rfl (F0 _ _ hS2) rfl (Nat.le_of_ble_eq_true rfl) ?_
  have T1 := T1.to (h' := h0) (fun b x y => o0 b (by omega))
  have V1 := V1.to (h' := h0) (fun b x y => o0 b (by omega))
  refine mz_WP.cv rfl rfl (Nat.le_of_ble_eq_true rfl) rfl (T1.2.1) rfl (r_tcpy T1 V1 (by omega) (fun a1 b1 c1 E1 => ?_))
  have X1 : TA (tpH h0 (S + 8) (nI k1) a1 b1 c1) (S + 8) (nI k1) a1 b1 c1 := TA.tp T1.1
  have o1 : ∀ b, b < S + 8 ∨ S + 8 + 6 < b → tpH h0 (S + 8) (nI k1) a1 b1 c1 b = h0 b := fun b hb => tp_n (by omega) (by omega) (by omega) (by omega)
  have F1 : Fx (tpH h0 (S + 8) (nI k1) a1 b1 c1) := tp_F F0 (NXS_g N (by decide)) (NXS_g (i := 10) N (by decide)) (NXS_g (i := 12) N (by decide)) (NXS_g (i := 14) N (by decide))
  generalize tpH h0 (S + 8) (nI k1) a1 b1 c1 = h1 at X1 o1 F1 ⊢
  refine mz_WP.run 80 rfl ?_
  refine mz_WP.getf rfl (F1 _ _ hS) rfl (Nat.le_of_ble_eq_true rfl) ?_
  refine mz_WP.run 80 rfl ?_
  refine mz_WP.getf rfl (F1 _ _ hS2) rfl (Nat.le_of_ble_eq_true rfl) ?_
  have T2 := T2.to (h' := h1) (fun b x y => (o1 b (by omega)).trans (o0 b (by omega)))
  have V2 := V2.to (h' := h1) (fun b x y => (o1 b (by omega)).trans (o0 b (by omega)))
  refine mz_WP.cv rfl rfl (Nat.le_of_ble_eq_true rfl) rfl (T2.2.1) rfl (r_tcpy T2 V2 (by omega) (fun a2 b2 c2 E2 => ?_))
  have X2 : TA (tpH h1 (S + 15) (nI k2) a2 b2 c2) (S + 15) (nI k2) a2 b2 c2 := TA.tp T2.1
  have o2 : ∀ b, b < S + 15 ∨ S + 15 + 6 < b → tpH h1 (S + 15) (nI k2) a2 b2 c2 b = h1 b := fun b hb => tp_n (by omega) (by omega) (by omega) (by omega)
  have F2 : Fx (tpH h1 (S + 15) (nI k2) a2 b2 c2) := tp_F F1 (NXS_g N (by decide)) (NXS_g (i := 17) N (by decide)) (NXS_g (i := 19) N (by decide)) (NXS_g (i := 21) N (by decide))
  generalize tpH h1 (S + 15) (nI k2) a2 b2 c2 = h2' at X2 o2 F2 ⊢
  refine mz_WP.run 80 rfl ?_
  refine mz_WP.getf rfl (F2 _ _ hS) rfl (Nat.le_of_ble_eq_true rfl) ?_
  refine mz_WP.run 80 rfl ?_
  refine mz_WP.getf rfl (F2 _ _ hS2) rfl (Nat.le_of_ble_eq_true rfl) ?_
  have T3 := T3.to (h' := h2') (fun b x y => ((o2 b (by omega)).trans (o1 b (by omega))).trans (o0 b (by omega)))
  have V3 := V3.to (h' := h2') (fun b x y => ((o2 b (by omega)).trans (o1 b (by omega))).trans (o0 b (by omega)))
  refine mz_WP.cv rfl rfl (Nat.le_of_ble_eq_true rfl) rfl (T3.2.1) rfl (r_tcpy T3 V3 (by omega) (fun a3 b3 c3 E3 => ?_))
  have X3 : TA (tpH h2' (S + 22) (nI k3) a3 b3 c3) (S + 22) (nI k3) a3 b3 c3 := TA.tp T3.1
  have o3 : ∀ b, b < S + 22 ∨ S + 22 + 6 < b → tpH h2' (S + 22) (nI k3) a3 b3 c3 b = h2' b := fun b hb => tp_n (by omega) (by omega) (by omega) (by omega)
  have F3 : Fx (tpH h2' (S + 22) (nI k3) a3 b3 c3) := tp_F F2 (NXS_g N (by decide)) (NXS_g (i := 24) N (by decide)) (NXS_g (i := 26) N (by decide)) (NXS_g (i := 28) N (by decide))
  generalize tpH h2' (S + 22) (nI k3) a3 b3 c3 = h3 at X3 o3 F3 ⊢
  have p3 : ∀ b, b < S + 1 ∨ S + 28 < b → h3 b = h b := fun b hb => (((o3 b (by omega)).trans (o2 b (by omega))).trans (o1 b (by omega))).trans (o0 b (by omega))
  refine mz_WP.run 80 rfl ?_
  refine mz_WP.getf rfl (F3 _ _ hS) rfl (Nat.le_of_ble_eq_true rfl) ?_
  refine mz_WP.run 80 rfl ?_
  refine mz_WP.getf rfl (F3 _ _ hS2) rfl (Nat.le_of_ble_eq_true rfl) ?_
  have Tr := Tr.to (h' := h3) (fun b x y => p3 b (by omega))
  have Tr2 := Tr2.to (h' := h3) (fun b x y => p3 b (by omega))
  refine mz_WP.cv rfl rfl (Nat.le_of_ble_eq_true rfl) rfl (Tr.1) rfl (s_prcpy Tr Tr2 (by omega) (by omega) ⟨NXS_g N (by decide), NXS_g (i := 31) N (by decide), NXS_g (i := 33) N (by decide), NXS_g (i := 35) N (by decide), NXS_g (i := 37) N (by decide)⟩ (fun h4 X4 o4 F4 => ?_))
  have F4 := F4 F3
  refine mz_WP.run 80 rfl ?_
  refine mz_WP.getf rfl (F4 _ _ hS) rfl (Nat.le_of_ble_eq_true rfl) ?_
  refine mz_WP.run 80 rfl ?_
  refine mz_WP.getf rfl (F4 _ _ hS2) rfl (Nat.le_of_ble_eq_true rfl) ?_
  have Bl := Bl.to (h' := h4) (fun b x y => (o4 b (by omega)).trans (p3 b (by omega)))
  have Bl2 := Bl2.to (h' := h4) (fun b x y => (o4 b (by omega)).trans (p3 b (by omega)))
  refine mz_WP.cv rfl rfl (Nat.le_of_ble_eq_true rfl) rfl (Bl.1) rfl (s_blcpy Bl Bl2 (by omega) (by omega) ⟨NXS_g N (by decide), NXS_g (i := 40) N (by decide), NXS_g (i := 42) N (by decide)⟩ (fun h5 X5 o5 F5 => ?_))
  refine mz_WP.vret rfl rfl (H h5 ⟨fun c hc => ?_, ?_, ?_⟩ (fun b hb => ((o5 b (by omega)).trans (o4 b (by omega))).trans (p3 b (by omega))) (F5 F4))
  · have p5 : ∀ b, b < S + 29 → h5 b = h3 b := fun b hb => (o5 b (by omega)).trans (o4 b (by omega))
    rcases (show c = 0 ∨ c = 1 ∨ c = 2 ∨ c = 3 by omega) with rfl | rfl | rfl | rfl
    · refine ⟨k0, W0, a0, b0, c0, X0.to (fun b x y => (((p5 b (by omega)).trans (o3 b (by omega))).trans (o2 b (by omega))).trans (o1 b (by omega))), fun j hj => ?_⟩
      have hk := W0.1
      rw [(E0 j (by omega)).1, (E0 j (by omega)).2.1, (E0 j (by omega)).2.2]
      exact e0 j hj
    · refine ⟨k1, W1, a1, b1, c1, X1.to (fun b x y => ((p5 b (by omega)).trans (o3 b (by omega))).trans (o2 b (by omega))), fun j hj => ?_⟩
      have hk := W1.1
      rw [(E1 j (by omega)).1, (E1 j (by omega)).2.1, (E1 j (by omega)).2.2]
      exact e1 j hj
    · refine ⟨k2, W2, a2, b2, c2, X2.to (fun b x y => (p5 b (by omega)).trans (o3 b (by omega))), fun j hj => ?_⟩
      have hk := W2.1
      rw [(E2 j (by omega)).1, (E2 j (by omega)).2.1, (E2 j (by omega)).2.2]
      exact e2 j hj
    · refine ⟨k3, W3, a3, b3, c3, X3.to (fun b x y => p5 b (by omega)), fun j hj => ?_⟩
      have hk := W3.1
      rw [(E3 j (by omega)).1, (E3 j (by omega)).2.1, (E3 j (by omega)).2.2]
      exact e3 j hj
  · exact ⟨_, _, _, _, X4.to (fun b x y => o5 b (by omega)), (rat_cpy (by decide)).trans t1, (rat_cpy (by decide)).trans t2, (rat_cpy (by decide)).trans t3, (rat_cpy (by decide)).trans t4⟩
  · exact ⟨_, _, X5, fun r hr => by
      have z1 : rcpy 4 nb nb2 r = nb2 r := if_pos hr
      have z2 : rcpy 4 bb bb2 r = bb2 r := if_pos hr
      rw [z1, z2]
      exact rb r hr⟩
end CP
end
section
/-! the class: image, restore, would, count -/
def kpS (kp i : Nat) : Nat := kp ||| 2 ^ i
theorem kp_or : ∀ kp, kp < 4 → ∀ i, i < 2 → nI kp ||| nI 1 <<< (nI i &&& 31) = nI (kpS kp i) ∧ kpS kp i < 4 := by decide +kernel
theorem kp_bit : ∀ kp, kp < 4 → ∀ i, i < 2 → (nI kp >>> (nI i &&& 31) &&& nI 1 = 0 ↔ kp / 2 ^ i % 2 = 0) := by decide +kernel
theorem kp_set0 : ∀ kp, kp < 4 → ∀ i, i < 2 → ∀ j, j < 2 → (¬ kpS kp i / 2 ^ j % 2 = 1 ∨ j = i ∨ kp / 2 ^ j % 2 = 1) := by decide +kernel
theorem kp_set (kp : Nat) (hk : kp < 4) (i : Nat) (hi : i < 2) (j : Nat) (hj : j < 2) (h : kpS kp i / 2 ^ j % 2 = 1) (hne : j ≠ i) : kp / 2 ^ j % 2 = 1 := by
  rcases kp_set0 kp hk i hi j hj with z | z | z
  · exact absurd h z
  · exact absurd z hne
  · exact z
def imageR (x : Int32) : Int32 := if inB x (nI 0) (nI 1) = false then U2 else nI 1
def imageK (kp : Nat) (x : Int32) : Nat := if inB x (nI 0) (nI 1) = false then kp else kpS kp x.toNatClampNeg
def imageI (g : Nat → Int32) (gi : Nat → Nat → Int32) (x : Int32) : Nat → Nat → Int32 := if inB x (nI 0) (nI 1) = false then gi else fun j => if j = x.toNatClampNeg then g else gi j
def restR (kp : Nat) (x : Int32) : Int32 := if inB x (nI 0) (nI 1) = false then U2 else if kp / 2 ^ x.toNatClampNeg % 2 = 0 then U3 else nI 1
def restG (g : Nat → Int32) (kp : Nat) (gi : Nat → Nat → Int32) (x : Int32) : Nat → Int32 := if inB x (nI 0) (nI 1) = false then g else if kp / 2 ^ x.toNatClampNeg % 2 = 0 then g else gi x.toNatClampNeg
def costC (g : Nat → Int32) (c : Nat) : Int32 := costV g (gJ g (kL g c))
def wouldR (g : Nat → Int32) (card day minute station way : Int32) : Int32 := if tapRef g card day minute station way = 0 then costC (tapG g card day minute station way) card.toNatClampNeg - costC g card.toNatClampNeg + nI 100000 else tapRef g card day minute station way
def lagN (g : Nat → Int32) : Nat → Int32
  | 0 => 0
  | r + 1 => if g (415 + r) < g 414 then lagN g r + nI 1 else lagN g r
def allC (g : Nat → Int32) : Nat → Int32
  | 0 => 0
  | c + 1 => allC g c + costC g c
def countR (g : Nat → Int32) (kp : Nat) (what : Int32) : Int32 := if inB what (nI 0) (nI 3) = true then g (384 + what.toNatClampNeg) else if inB what (nI 10) (nI 13) = true then g (415 + (what - nI 10).toNatClampNeg) else if inB what (nI 20) (nI 27) = true then g (388 + (what - nI 20).toNatClampNeg) else if what = nI 4 then g 414 else if what = nI 5 then g 413 else if what = nI 6 then lagN g 4 else if what = nI 7 then allC g 4 else if what = nI 8 then nI kp else U2
theorem setG_tar {g : Nat → Int32} {c : Nat} {z : Int32} {m w : Nat → Int32} (hc : c < 4) : (∀ l, gJ (setG g c z m w) l = gJ g l) ∧ (∀ J, costV (setG g c z m w) J = costV g J) := by
  have h1 : zG (setG g c z m w) = zG g := by funext i; exact setG_o hc (by omega)
  have h2 : frG (setG g c z m w) = frG g := by
    funext i
    unfold frG
    split
    · rfl
    · exact setG_o hc (by omega)
  have h3 : crG (setG g c z m w) = crG g := by
    funext i
    unfold crG
    split
    · rfl
    · exact setG_o hc (by omega)
  have h4 : wrG (setG g c z m w) = wrG g := by
    funext i
    unfold wrG
    split
    · rfl
    · exact setG_o hc (by omega)
  have h5 : setG g c z m w 411 = g 411 := setG_o hc (by omega)
  have h6 : setG g c z m w 412 = g 412 := setG_o hc (by omega)
  refine ⟨fun l => ?_, fun J => ?_⟩
  · unfold gJ
    rw [h1, h6]
  · unfold costV gO gK
    rw [h2, h3, h4, h5]
section P6
variable {e n : Nat} {h h' : mz_H} {Q : mz_Q} {g : Nat → Int32} {kp : Nat} {gi : Nat → Nat → Int32}
theorem s_imageOf {i : Nat} (h2 : h 2 = .inr (10, [.ref 3, .ref 46, .ref 89, .int (nI kp), .ref 132, .ref 139])) (hi : i < 2) (H : Q (some (.ref (46 + 43 * i))) n h) : mz_wc (e + 1) 103 [.ref 2, .int (nI i)] n h Q := by
  refine mz_wc.enter (code := co_X10_imageOf) (idx := 103) rfl rfl (Nat.le_of_ble_eq_true rfl) rfl rfl ?_
  refine mz_WP.run 80 rfl ?_
  rcases (show i = 0 ∨ i = 1 by omega) with rfl | rfl
  · refine mz_WP.ifc rfl (fun c => ?_) (fun c => ?_)
    · exact absurd rfl c
    · refine mz_WP.run 80 rfl ?_
      refine mz_WP.getf rfl (h2) rfl (Nat.le_of_ble_eq_true rfl) ?_
      refine mz_WP.run 80 rfl ?_
      exact mz_WP.aret rfl rfl H
  · refine mz_WP.ifc rfl (fun c => ?_) (fun c => ?_)
    · refine mz_WP.run 80 rfl ?_
      refine mz_WP.getf rfl (h2) rfl (Nat.le_of_ble_eq_true rfl) ?_
      exact mz_WP.aret rfl rfl H
    · exact absurd (show ¬ nI 1 = 0 by decide) c
theorem fx2 : fxt 2 = none := rfl
theorem s_image {x : Int32} (C : CI h g kp gi) (H : ∀ h', CI h' g (imageK kp x) (imageI g gi x) → (∀ b, 185 < b → h' b = h b) → Q (some (.int (imageR x))) n h') : mz_wc (e + 7) 96 [.ref 2, .int x] n h Q := by
  unfold imageK imageI imageR at H
  refine mz_wc.enter (code := co_X10_image) (idx := 96) rfl rfl (Nat.le_of_ble_eq_true rfl) rfl rfl ?_
  refine mz_WP.run 80 rfl ?_
  refine mz_WP.cs rfl (by decide) rfl (Nat.le_of_ble_eq_true rfl) rfl (s_isImage ?_)
  refine mz_WP.ifc rfl (fun c0 => ?_) (fun c0 => ?_)
  · have c0 := bI_t c0
    have n0 : ¬ inB x (nI 0) (nI 1) = false := by rw [c0]; decide
    rw [if_neg n0, if_neg n0, if_neg n0] at H
    obtain ⟨i, -, hi, rfl⟩ := inB_of (by decide) (by decide) c0
    rw [nI_clamp (by omega)] at H
    obtain ⟨F, B, h2, W, R, ⟨tz, tm, ts, tw, T⟩, S1, S2, hk4, hK⟩ := id C
    obtain ⟨k1, k2⟩ := kp_or kp hk4 i (by omega)
    refine mz_WP.run 80 rfl ?_
    refine mz_WP.cv rfl rfl (Nat.le_of_ble_eq_true rfl) rfl (h2) rfl (s_imageOf h2 (by omega) ?_)
    refine mz_WP.run 80 rfl ?_
    refine mz_WP.getf rfl (h2) rfl (Nat.le_of_ble_eq_true rfl) ?_
    have fin : ∀ h' : mz_H, Rep (46 + 43 * i) h' g → (∀ b, b < 46 + 43 * i ∨ 46 + 43 * i + 42 < b → h' b = h b) → Fx h' → mz_WP (mz_wc (e + 6)) (e + 6) 1 co_X10_image Q 22 [some (.ref 2), some (.int (nI i))] [] n h' 0 0 := by
      intro h' R' o' F'
      have h2' := (o' 2 (by omega)).trans h2
      refine mz_WP.run 80 rfl ?_
      refine mz_WP.getf rfl (h2') rfl (Nat.le_of_ble_eq_true rfl) ?_
      refine mz_WP.run 80 rfl ?_
      refine mz_WP.putf rfl (h2') (Nat.le_of_ble_eq_true rfl) (Nat.le_of_ble_eq_true rfl) rfl ?_
      show mz_WP _ _ _ _ _ _ _ _ _ (mz_up h' 2 (.inr (10, [.ref 3, .ref 46, .ref 89, .int (nI kp ||| nI 1 <<< (nI i &&& 31)), .ref 132, .ref 139]))) _ _
      rw [k1]
      refine mz_WP.run 80 rfl ?_
      have o2 : ∀ b, b ≠ 2 → (b < 46 + 43 * i ∨ 46 + 43 * i + 42 < b) → mz_up h' 2 (.inr (10, [.ref 3, .ref 46, .ref 89, .int (nI (kpS kp i)), .ref 132, .ref 139])) b = h b := fun b hb hb2 => (mz_up_n hb).trans (o' b hb2)
      have o3 : ∀ b, 46 + 43 * i ≤ b → mz_up h' 2 (.inr (10, [.ref 3, .ref 46, .ref 89, .int (nI (kpS kp i)), .ref 132, .ref 139])) b = h' b := fun b hb => mz_up_n (by omega)
      have RI : Rep (46 + 43 * i) (mz_up h' 2 (.inr (10, [.ref 3, .ref 46, .ref 89, .int (nI (kpS kp i)), .ref 132, .ref 139]))) g := R'.to (fun b x y => o3 b (by omega))
      have Sj : ∀ j, j < 2 → j ≠ i → Shp (46 + 43 * j) h → Shp (46 + 43 * j) (mz_up h' 2 (.inr (10, [.ref 3, .ref 46, .ref 89, .int (nI (kpS kp i)), .ref 132, .ref 139]))) := fun j hj hne Sh => Sh.to (fun b x y => o2 b (by omega) (by omega))
      have SA : ∀ j, j < 2 → Shp (46 + 43 * j) h → Shp (46 + 43 * j) (mz_up h' 2 (.inr (10, [.ref 3, .ref 46, .ref 89, .int (nI (kpS kp i)), .ref 132, .ref 139]))) := by
        intro j hj Sh
        by_cases e : j = i
        · subst e
          exact RI.shp
        · exact Sj j hj e Sh
      refine mz_WP.ret rfl rfl (H _ ⟨F'.up fx2, B.to (fun b x y => o2 b (by omega) (by omega)), mz_up_s, W, R.to (fun b x y => o2 b (by omega) (by omega)), ⟨tz, tm, ts, tw, T.to (fun b x y => o2 b (by omega) (by omega))⟩, SA 0 (by decide) S1, SA 1 (by decide) S2, k2, fun j hj hb => ?_⟩ (fun b hb => o2 b (by omega) (by omega)))
      by_cases e : j = i
      · subst e
        show WF (if j = j then g else gi j) ∧ Rep _ _ (if j = j then g else gi j)
        rw [if_pos rfl]
        exact ⟨W, RI⟩
      · show WF (if j = i then g else gi j) ∧ Rep _ _ (if j = i then g else gi j)
        rw [if_neg e]
        obtain ⟨q1, q2⟩ := hK j hj (kp_set kp hk4 i (by omega) j hj hb e)
        exact ⟨q1, q2.to (fun b x y => o2 b (by omega) (by omega))⟩
    rcases (show i = 0 ∨ i = 1 by omega) with rfl | rfl
    · refine mz_WP.cv rfl rfl (Nat.le_of_ble_eq_true rfl) rfl (F _ _ rfl) rfl (s_scpy (S := 46) (S2 := 3) F rfl rfl rfl (by decide) (by decide) S1 R (fun h' R' o' F' => fin h' R' o' F'))
    · refine mz_WP.cv rfl rfl (Nat.le_of_ble_eq_true rfl) rfl (F _ _ rfl) rfl (s_scpy (S := 89) (S2 := 3) F rfl rfl rfl (by decide) (by decide) S2 R (fun h' R' o' F' => fin h' R' o' F'))
  · have c0 := bI_f (Classical.byContradiction c0)
    rw [if_pos c0, if_pos c0, if_pos c0] at H
    refine mz_WP.run 80 rfl ?_
    exact mz_WP.ret rfl rfl (H h C (fun _ _ => rfl))
theorem s_restore {x : Int32} (C : CI h g kp gi) (H : ∀ h', CI h' (restG g kp gi x) kp gi → (∀ b, 185 < b → h' b = h b) → Q (some (.int (restR kp x))) n h') : mz_wc (e + 7) 97 [.ref 2, .int x] n h Q := by
  unfold restG restR at H
  refine mz_wc.enter (code := co_X10_restore) (idx := 97) rfl rfl (Nat.le_of_ble_eq_true rfl) rfl rfl ?_
  refine mz_WP.run 80 rfl ?_
  refine mz_WP.cs rfl (by decide) rfl (Nat.le_of_ble_eq_true rfl) rfl (s_isImage ?_)
  refine mz_WP.ifc rfl (fun c0 => ?_) (fun c0 => ?_)
  · have c0 := bI_t c0
    have n0 : ¬ inB x (nI 0) (nI 1) = false := by rw [c0]; decide
    rw [if_neg n0, if_neg n0] at H
    obtain ⟨i, -, hi, rfl⟩ := inB_of (by decide) (by decide) c0
    rw [nI_clamp (by omega)] at H
    obtain ⟨F, B, h2, W, R, ⟨tz, tm, ts, tw, T⟩, S1, S2, hk4, hK⟩ := id C
    have hbit := kp_bit kp hk4 i (by omega)
    refine mz_WP.run 80 rfl ?_
    refine mz_WP.getf rfl (h2) rfl (Nat.le_of_ble_eq_true rfl) ?_
    refine mz_WP.run 80 rfl ?_
    refine mz_WP.ifc rfl (fun c1 => ?_) (fun c1 => ?_)
    · have c1 : ¬ kp / 2 ^ i % 2 = 0 := fun z => c1 (hbit.mpr z)
      rw [if_neg c1, if_neg c1] at H
      obtain ⟨W', R'⟩ := hK i (by omega) (by omega)
      refine mz_WP.run 80 rfl ?_
      refine mz_WP.getf rfl (h2) rfl (Nat.le_of_ble_eq_true rfl) ?_
      refine mz_WP.run 80 rfl ?_
      refine mz_WP.cv rfl rfl (Nat.le_of_ble_eq_true rfl) rfl (h2) rfl (s_imageOf h2 (by omega) ?_)
      have fin : ∀ h' : mz_H, Rep 3 h' (gi i) → (∀ b, b < 3 ∨ 3 + 42 < b → h' b = h b) → Fx h' → mz_WP (mz_wc (e + 6)) (e + 6) 1 co_X10_restore Q 36 [some (.ref 2), some (.int (nI i))] [] n h' 0 0 := by
        intro h' R' o' F'
        refine mz_WP.run 80 rfl ?_
        exact mz_WP.ret rfl rfl (H h' (C.now (fun b hb => o' b (by omega)) F' W' R') (fun b hb => o' b (by omega)))
      rcases (show i = 0 ∨ i = 1 by omega) with rfl | rfl
      · refine mz_WP.cv rfl rfl (Nat.le_of_ble_eq_true rfl) rfl (F _ _ rfl) rfl (s_scpy (S := 3) (S2 := 46) F rfl rfl rfl (by decide) (by decide) R.shp R' (fun h' R' o' F' => fin h' R' o' F'))
      · refine mz_WP.cv rfl rfl (Nat.le_of_ble_eq_true rfl) rfl (F _ _ rfl) rfl (s_scpy (S := 3) (S2 := 89) F rfl rfl rfl (by decide) (by decide) R.shp R' (fun h' R' o' F' => fin h' R' o' F'))
    · have c1 : kp / 2 ^ i % 2 = 0 := hbit.mp (Classical.byContradiction c1)
      rw [if_pos c1, if_pos c1] at H
      refine mz_WP.run 80 rfl ?_
      exact mz_WP.ret rfl rfl (H h C (fun _ _ => rfl))
  · have c0 := bI_f (Classical.byContradiction c0)
    rw [if_pos c0, if_pos c0] at H
    refine mz_WP.run 80 rfl ?_
    exact mz_WP.ret rfl rfl (H h C (fun _ _ => rfl))
theorem CI.trial {z : Int32} {m s w : Nat → Int32} (C : CI h g kp gi) : CI (tpH h 132 z m s w) g kp gi := by
  obtain ⟨c1, c2, c3, c4, c5, ⟨z0, m0, s0, w0, c6⟩, c7, c8, c9, c10⟩ := C
  have o : ∀ b, b < 132 ∨ 138 < b → tpH h 132 z m s w b = h b := fun b hb => tp_n (by omega) (by omega) (by omega) (by omega)
  exact ⟨tp_F c1 rfl rfl rfl rfl, c2.to (fun b x y => o b (by omega)), (o 2 (by omega)).trans c3, c4, c5.to (fun b x y => o b (by omega)), ⟨z, m, s, w, TA.tp c6.1⟩, c7.to (fun b x y => o b (by omega)), c8.to (fun b x y => o b (by omega)), c9, fun i hi hk => ⟨(c10 i hi hk).1, (c10 i hi hk).2.to (fun b x y => o b (by omega))⟩⟩
theorem s_would {card day minute station way : Int32} (C : CI h g kp gi) (H : ∀ h', CI h' g kp gi → (∀ b, 185 < b → h' b = h b) → Q (some (.int (wouldR g card day minute station way))) n h') : mz_wc (e + 7) 92 [.ref 2, .int card, .int day, .int minute, .int station, .int way] n h Q := by
  unfold wouldR tapG at H
  refine mz_wc.enter (code := co_X10_would) (idx := 92) rfl rfl (Nat.le_of_ble_eq_true rfl) rfl rfl ?_
  refine mz_WP.run 80 rfl ?_
  refine mz_WP.cv rfl rfl (Nat.le_of_ble_eq_true rfl) rfl (C.2.2.1) rfl (s_refTap C ?_)
  refine mz_WP.run 80 rfl ?_
  refine mz_WP.ifc rfl (fun c0 => ?_) (fun c0 => ?_)
  · have c0 : tapRef g card day minute station way = 0 := c0
    rw [if_pos c0, if_pos c0] at H
    obtain ⟨c, d, mi, st, wy, hc, rfl, hd, rfl, hm, rfl, hs, rfl, hw, rfl, hf, hk⟩ := tapRef_ok c0
    rw [nI_clamp (by omega), (momG_n hd hm).1, pk_mul, nI_add] at H
    obtain ⟨k, Wc⟩ := C.2.2.2.1.1 c hc
    rw [Wc.k] at hf hk
    have e0 : costC g c = costV g (gJ g (gL g c k)) := by unfold costC kL; rw [Wc.k]
    refine mz_WP.run 80 rfl ?_
    refine mz_WP.cv rfl rfl (Nat.le_of_ble_eq_true rfl) rfl (C.2.2.1) rfl (s_reckon C hc Wc (fun h1 C1 o1 B1 => ?_))
    obtain ⟨-, -, -, ⟨cf, wf, wb, sr, iw, ⟨p1, p2, p3, p4, p5⟩, a1, -⟩⟩ := B1
    obtain ⟨F1, BB1, g1, W1, R1, ⟨tz, tm, ts, tw, TT⟩, -⟩ := id C1
    have a1 : cf 0 = costC g c := by rw [e0, a1]; rfl
    obtain ⟨k', Wc', m1, s1, w1, T, r⟩ := R1.1 c hc
    have hkk : k' = k := by rw [← Wc'.k, Wc.k]
    subst hkk
    refine mz_WP.run 80 rfl ?_
    refine mz_WP.getf rfl (g1) rfl (Nat.le_of_ble_eq_true rfl) ?_
    refine mz_WP.getf rfl (F1 _ _ rfl) rfl (Nat.le_of_ble_eq_true rfl) ?_
    refine mz_WP.cv rfl rfl (Nat.le_of_ble_eq_true rfl) rfl (F1 _ _ rfl) rfl (r_pcost F1 p1 ?_)
    rw [a1]
    refine mz_WP.run 80 rfl ?_
    refine mz_WP.getf rfl (g1) rfl (Nat.le_of_ble_eq_true rfl) ?_
    refine mz_WP.run 80 rfl ?_
    refine mz_WP.getf rfl (g1) rfl (Nat.le_of_ble_eq_true rfl) ?_
    refine mz_WP.run 80 rfl ?_
    refine mz_WP.cv rfl rfl (Nat.le_of_ble_eq_true rfl) rfl (F1 _ _ rfl) rfl (s_tapsOf F1 hc ?_)
    refine mz_WP.cv rfl rfl (Nat.le_of_ble_eq_true rfl) rfl (TT.2.1) rfl (r_tcpy TT T (by omega) (fun m' s' w' E => ?_))
    have C2 : CI (tpH h1 132 (nI k') m' s' w') g kp gi := C1.trial
    obtain ⟨F2, -, g2, -⟩ := id C2
    have TF := TT.1
    refine mz_WP.run 80 rfl ?_
    refine mz_WP.getf rfl (g2) rfl (Nat.le_of_ble_eq_true rfl) ?_
    refine mz_WP.run 80 rfl ?_
    refine mz_WP.cs rfl (by decide) rfl (Nat.le_of_ble_eq_true rfl) rfl (s_momentOf ?_)
    rw [pk_mul, nI_add]
    refine mz_WP.run 80 rfl ?_
    refine mz_WP.cv rfl rfl (Nat.le_of_ble_eq_true rfl) rfl (tp_o) rfl (s_tins TF hk (fun p hp hgt hle => ?_))
    have r' : ∀ j, j < k' → m' j = gm g c j ∧ s' j = gS g c j ∧ w' j = gY g c j := fun j hj => by
      have hkk := Wc.1
      rw [(E j (by omega)).1, (E j (by omega)).2.1, (E j (by omega)).2.2]
      exact r j hj
    have hip : p = ipos (gm g c) (nI (d * 1440 + mi)) k' := ipos_eq hp (fun j a b => by rw [← (r' j b).1]; exact hgt j a b) (by
      rcases hle with z | z
      · exact Or.inl z
      · by_cases e0 : p = 0
        · exact Or.inl e0
        · exact Or.inr (by rw [← (r' (p - 1) (by omega)).1]; exact z))
    have rows := add_rows (x := d * 1440 + mi) hc Wc hk hs hw r' hp hip
    have Wa := Wc.add hc hk (momG_n hd hm).2 hs hw (fnd_no hf)
    have C3 : CI (tpH h1 132 (nI (k' + 1)) (insf m' k' p (nI (d * 1440 + mi))) (insf s' k' p (nI st)) (insf w' k' p (nI wy))) g kp gi := C1.trial
    obtain ⟨F3, -, g3, -⟩ := id C3
    have T3 : TA (tpH h1 132 (nI (k' + 1)) (insf m' k' p (nI (d * 1440 + mi))) (insf s' k' p (nI st)) (insf w' k' p (nI wy))) 132 (nI (k' + 1)) (insf m' k' p (nI (d * 1440 + mi))) (insf s' k' p (nI st)) (insf w' k' p (nI wy)) := TA.tp TF
    obtain ⟨m3, s3, w3, TA3, r3, hs3, hm3⟩ := RepT.facts (h := tpH h1 132 (nI (k' + 1)) (insf m' k' p (nI (d * 1440 + mi))) (insf s' k' p (nI st)) (insf w' k' p (nI wy))) (t := 132) ⟨_, _, _, T3, rows⟩ Wa
    refine mz_WP.run 80 rfl ?_
    refine mz_WP.getf rfl (g3) rfl (Nat.le_of_ble_eq_true rfl) ?_
    refine mz_WP.run 80 rfl ?_
    refine mz_WP.getf rfl (g3) rfl (Nat.le_of_ble_eq_true rfl) ?_
    refine mz_WP.run 80 rfl ?_
    refine mz_WP.getf rfl (g3) rfl (Nat.le_of_ble_eq_true rfl) ?_
    refine mz_WP.getf rfl (F3 _ _ rfl) rfl (Nat.le_of_ble_eq_true rfl) ?_
    refine mz_WP.cv rfl rfl (Nat.le_of_ble_eq_true rfl) rfl (F3 _ _ rfl) rfl (r_breckon C3 TA3 (by decide) Wa.1 hs3 hm3 (fun h4 C4 o4 B4 => ?_))
    obtain ⟨-, -, -, ⟨cf4, wf4, wb4, sr4, iw4, ⟨x1, x2, x3, x4, x5⟩, b1, -⟩⟩ := B4
    obtain ⟨F4, -, g4, -⟩ := id C4
    have e4 : cf4 0 = costC (addG g c (nI (d * 1440 + mi)) (nI (2 * st + wy))) c := by
      rw [b1, vL_c r3]
      unfold costC kL
      rw [Wa.k]
      unfold addG
      rw [(setG_tar hc).1, (setG_tar hc).2]
      rfl
    refine mz_WP.run 80 rfl ?_
    refine mz_WP.getf rfl (g4) rfl (Nat.le_of_ble_eq_true rfl) ?_
    refine mz_WP.getf rfl (F4 _ _ rfl) rfl (Nat.le_of_ble_eq_true rfl) ?_
    refine mz_WP.cv rfl rfl (Nat.le_of_ble_eq_true rfl) rfl (F4 _ _ rfl) rfl (r_pcost F4 x1 ?_)
    rw [e4]
    refine mz_WP.run 80 rfl ?_
    have H4 := H h4 C4 (fun b hb => by rw [o4 b (by omega), tp_n (by omega) (by omega) (by omega) (by omega), o1 b (by omega)])
    generalize costC (addG g c (nI (d * 1440 + mi)) (nI (2 * st + wy))) c = u1 at H4 ⊢
    rw [e0] at H4
    unfold costV at H4
    exact mz_WP.ret rfl rfl H4
  · have c0 : ¬ tapRef g card day minute station way = 0 := c0
    rw [if_neg c0] at H
    refine mz_WP.run 80 rfl ?_
    exact mz_WP.ret rfl rfl (H h C (fun _ _ => rfl))
end P6
end
section
/-! the class: count -/
section P7
variable {e n : Nat} {h : mz_H} {Q : mz_Q} {g : Nat → Int32} {kp : Nat} {gi : Nat → Nat → Int32} {a : Nat} {nb bb : Nat → Int32} {nu ba : Int32}
theorem s_laggards (T : BlA h a nb bb nu ba) (hn : nu = g 414) (hb : ∀ r, r < 4 → nb r = g (415 + r)) (H : Q (some (.int (lagN g 4))) n h) : mz_wc (e + 2) 7 [.ref a] n h Q := by
  refine mz_wc.enter (code := co_X0_laggards) (idx := 7) rfl rfl (Nat.le_of_ble_eq_true rfl) rfl rfl ?_
  refine mz_WP.run 4 rfl ?_
  have loop : ∀ q r, r + q = 4 → mz_WP (mz_wc (e + 1)) (e + 1) 1 co_X0_laggards Q 4 [some (.ref a), some (.int (lagN g r)), some (.int (nI r))] [] n h 0 0 := by
    intro q
    induction q with
    | zero =>
      intro r hr
      have hr : r = 4 := by omega
      subst hr
      refine mz_WP.run 80 rfl ?_
      refine mz_WP.icmp rfl (fun c => ?_) (fun c => ?_)
      · refine mz_WP.run 80 rfl ?_
        exact mz_WP.ret rfl rfl H
      · exact absurd (nI_le (Nat.le_refl _) (by decide)) c
    | succ q ih =>
      intro r hr
      have ih := ih (r + 1) (by omega)
      rw [nI_succ] at ih
      refine mz_WP.run 80 rfl ?_
      refine mz_WP.icmp rfl (fun c => ?_) (fun c => ?_)
      · exact absurd c (nI_ge (by omega) (by decide))
      · refine mz_WP.run 80 rfl ?_
        refine mz_WP.getf rfl (T.1) rfl (Nat.le_of_ble_eq_true rfl) ?_
        refine mz_WP.run 80 rfl ?_
        refine mz_WP.cv rfl rfl (Nat.le_of_ble_eq_true rfl) rfl (T.2.1.1) rfl (s_at T.2.1.1 T.2.2.1 (by decide) ?_)
        rw [rat_in (by omega) (by decide), hb r (by omega)]
        refine mz_WP.run 80 rfl ?_
        refine mz_WP.getf rfl (T.1) rfl (Nat.le_of_ble_eq_true rfl) ?_
        rw [hn]
        refine mz_WP.icmp rfl (fun c1 => ?_) (fun c1 => ?_)
        · have c1 : g 414 ≤ g (415 + r) := c1
          have e1 : lagN g (r + 1) = lagN g r := if_neg (Int32.not_lt.mpr c1)
          rw [e1] at ih
          refine mz_WP.run 80 rfl ?_
          exact ih
        · have c1 : ¬ g 414 ≤ g (415 + r) := c1
          have e1 : lagN g (r + 1) = lagN g r + nI 1 := if_pos (Int32.not_le.mp c1)
          rw [e1] at ih
          refine mz_WP.run 80 rfl ?_
          exact ih
  exact loop 4 0 rfl
theorem s_allCost (C : CI h g kp gi) (H : ∀ h', CI h' g kp gi → (∀ b, b < 140 ∨ 185 < b → h' b = h b) → Q (some (.int (allC g 4))) n h') : mz_wc (e + 6) 102 [.ref 2] n h Q := by
  refine mz_wc.enter (code := co_X10_costOfAllCards) (idx := 102) rfl rfl (Nat.le_of_ble_eq_true rfl) rfl rfl ?_
  refine mz_WP.run 4 rfl ?_
  have loop : ∀ q c, c + q = 4 → ∀ h', CI h' g kp gi → (∀ b, b < 140 ∨ 185 < b → h' b = h b) → mz_WP (mz_wc (e + 5)) (e + 5) 1 co_X10_costOfAllCards Q 4 [some (.ref 2), some (.int (allC g c)), some (.int (nI c))] [] n h' 0 0 := by
    intro q
    induction q with
    | zero =>
      intro c hc h' C' o'
      have hc : c = 4 := by omega
      subst hc
      refine mz_WP.run 80 rfl ?_
      refine mz_WP.icmp rfl (fun c0 => ?_) (fun c0 => ?_)
      · refine mz_WP.run 80 rfl ?_
        exact mz_WP.ret rfl rfl (H h' C' o')
      · exact absurd (nI_le (Nat.le_refl _) (by decide)) c0
    | succ q ih =>
      intro c hc h' C' o'
      obtain ⟨F, B, h2, W, R, -⟩ := id C'
      obtain ⟨k, Wc, RT⟩ := R.1 c (by omega)
      obtain ⟨m, s, w, T, r, hs, hm⟩ := RT.facts Wc
      refine mz_WP.run 80 rfl ?_
      refine mz_WP.icmp rfl (fun c0 => ?_) (fun c0 => ?_)
      · exact absurd c0 (nI_ge (by omega) (by decide))
      · refine mz_WP.run 80 rfl ?_
        refine mz_WP.getf rfl (h2) rfl (Nat.le_of_ble_eq_true rfl) ?_
        refine mz_WP.run 80 rfl ?_
        refine mz_WP.getf rfl (h2) rfl (Nat.le_of_ble_eq_true rfl) ?_
        refine mz_WP.run 80 rfl ?_
        refine mz_WP.cv rfl rfl (Nat.le_of_ble_eq_true rfl) rfl (F _ _ rfl) rfl (s_tapsOf F (by omega) ?_)
        refine mz_WP.run 80 rfl ?_
        refine mz_WP.getf rfl (h2) rfl (Nat.le_of_ble_eq_true rfl) ?_
        refine mz_WP.getf rfl (F _ _ rfl) rfl (Nat.le_of_ble_eq_true rfl) ?_
        refine mz_WP.cv rfl rfl (Nat.le_of_ble_eq_true rfl) rfl (F _ _ rfl) rfl (r_breckon C' T (by omega) Wc.1 hs hm (fun h1 C1 o1 B1 => ?_))
        rw [vL_c r] at B1
        obtain ⟨-, -, -, ⟨cf, wf, wb, sr, iw, ⟨p1, p2, p3, p4, p5⟩, a1, -⟩⟩ := B1
        obtain ⟨F1, -, g1, -⟩ := id C1
        have a2 : cf 0 = costC g c := by
          rw [a1]
          unfold costC kL costV
          rw [Wc.k]
          rfl
        refine mz_WP.run 80 rfl ?_
        refine mz_WP.getf rfl (g1) rfl (Nat.le_of_ble_eq_true rfl) ?_
        refine mz_WP.getf rfl (F1 _ _ rfl) rfl (Nat.le_of_ble_eq_true rfl) ?_
        refine mz_WP.cv rfl rfl (Nat.le_of_ble_eq_true rfl) rfl (F1 _ _ rfl) rfl (r_pcost F1 p1 ?_)
        rw [a2]
        refine mz_WP.run 80 rfl ?_
        have := ih (c + 1) (by omega) h1 C1 (fun b hb => (o1 b hb).trans (o' b hb))
        rw [nI_succ] at this
        exact this
  exact loop 4 0 rfl h C (fun _ _ => rfl)
theorem s_count {what : Int32} (C : CI h g kp gi) (H : ∀ h', CI h' g kp gi → (∀ b, b < 140 ∨ 185 < b → h' b = h b) → Q (some (.int (countR g kp what))) n h') : mz_wc (e + 7) 98 [.ref 2, .int what] n h Q := by
  obtain ⟨F, B, h2, W, R, -⟩ := id C
  obtain ⟨R1, ⟨zr, fr, cr, wr, Tr, t1, -⟩, nb, bb, Bl, rb⟩ := id R
  unfold countR at H
  refine mz_wc.enter (code := co_X10_count) (idx := 98) rfl rfl (Nat.le_of_ble_eq_true rfl) rfl rfl ?_
  refine mz_WP.run 80 rfl ?_
  refine mz_WP.cs rfl (by decide) rfl (Nat.le_of_ble_eq_true rfl) rfl (s_isCard ?_)
  refine mz_WP.ifc rfl (fun c0 => ?_) (fun c0 => ?_)
  · have c0 := bI_f c0
    rw [if_neg (by rw [c0]; decide)] at H
    refine mz_WP.run 80 rfl ?_
    refine mz_WP.cs rfl (by decide) rfl (Nat.le_of_ble_eq_true rfl) rfl (s_within ?_)
    refine mz_WP.ifc rfl (fun c1 => ?_) (fun c1 => ?_)
    · have c1 := bI_f c1
      rw [if_neg (by rw [c1]; decide)] at H
      refine mz_WP.run 80 rfl ?_
      refine mz_WP.cs rfl (by decide) rfl (Nat.le_of_ble_eq_true rfl) rfl (s_within ?_)
      refine mz_WP.ifc rfl (fun c2 => ?_) (fun c2 => ?_)
      · have c2 := bI_f c2
        rw [if_neg (by rw [c2]; decide)] at H
        refine mz_WP.run 80 rfl ?_
        by_cases w4 : what = nI 4
        · subst w4
          have H := H h C (fun _ _ => rfl)
          rw [if_pos rfl] at H
          refine mz_WP.tin (off := 36) rfl (by decide) (by decide) ?_
          refine mz_WP.run 80 rfl ?_
          refine mz_WP.getf rfl (h2) rfl (Nat.le_of_ble_eq_true rfl) ?_
          refine mz_WP.getf rfl (F _ _ rfl) rfl (Nat.le_of_ble_eq_true rfl) ?_
          refine mz_WP.cv rfl rfl (Nat.le_of_ble_eq_true rfl) rfl (Bl.1) rfl (s_number Bl ?_)
          exact mz_WP.ret rfl rfl H
        rw [if_neg w4] at H
        by_cases w5 : what = nI 5
        · subst w5
          have H := H h C (fun _ _ => rfl)
          rw [if_pos rfl] at H
          refine mz_WP.tin (off := 47) rfl (by decide) (by decide) ?_
          refine mz_WP.run 80 rfl ?_
          refine mz_WP.getf rfl (h2) rfl (Nat.le_of_ble_eq_true rfl) ?_
          refine mz_WP.getf rfl (F _ _ rfl) rfl (Nat.le_of_ble_eq_true rfl) ?_
          refine mz_WP.cv rfl rfl (Nat.le_of_ble_eq_true rfl) rfl (Bl.1) rfl (s_barred Bl ?_)
          exact mz_WP.ret rfl rfl H
        rw [if_neg w5] at H
        by_cases w6 : what = nI 6
        · subst w6
          have H := H h C (fun _ _ => rfl)
          rw [if_pos rfl] at H
          refine mz_WP.tin (off := 58) rfl (by decide) (by decide) ?_
          refine mz_WP.run 80 rfl ?_
          refine mz_WP.getf rfl (h2) rfl (Nat.le_of_ble_eq_true rfl) ?_
          refine mz_WP.getf rfl (F _ _ rfl) rfl (Nat.le_of_ble_eq_true rfl) ?_
          refine mz_WP.cv rfl rfl (Nat.le_of_ble_eq_true rfl) rfl (Bl.1) rfl (s_laggards Bl rfl (fun r hr => (rb r hr).1) ?_)
          exact mz_WP.ret rfl rfl H
        rw [if_neg w6] at H
        by_cases w7 : what = nI 7
        · subst w7
          rw [if_pos rfl] at H
          refine mz_WP.tin (off := 69) rfl (by decide) (by decide) ?_
          refine mz_WP.run 80 rfl ?_
          refine mz_WP.cv rfl rfl (Nat.le_of_ble_eq_true rfl) rfl (h2) rfl (s_allCost C (fun h' C' o' => ?_))
          exact mz_WP.ret rfl rfl (H h' C' o')
        rw [if_neg w7] at H
        by_cases w8 : what = nI 8
        · subst w8
          have H := H h C (fun _ _ => rfl)
          rw [if_pos rfl] at H
          refine mz_WP.tin (off := 74) rfl (by decide) (by decide) ?_
          refine mz_WP.run 80 rfl ?_
          refine mz_WP.getf rfl (h2) rfl (Nat.le_of_ble_eq_true rfl) ?_
          exact mz_WP.ret rfl rfl H
        rw [if_neg w8] at H
        have hout : what.toInt < 4 ∨ 8 < what.toInt := by
          apply Classical.byContradiction
          intro hz
          have key : ∀ j : Nat, j < 2 ^ 31 → what.toInt = (j : Int) → what = nI j := fun j hj he => Int32.toInt_inj.mp (by rw [he, nI_toInt hj])
          have : what.toInt = 4 ∨ what.toInt = 5 ∨ what.toInt = 6 ∨ what.toInt = 7 ∨ what.toInt = 8 := by omega
          rcases this with z | z | z | z | z
          · exact w4 (key 4 (by decide) z)
          · exact w5 (key 5 (by decide) z)
          · exact w6 (key 6 (by decide) z)
          · exact w7 (key 7 (by decide) z)
          · exact w8 (key 8 (by decide) z)
        refine mz_WP.tout rfl hout ?_
        refine mz_WP.run 80 rfl ?_
        exact mz_WP.ret rfl rfl (H h C (fun _ _ => rfl))
      · have c2 := bI_t c2
        have H := H h C (fun _ _ => rfl)
        rw [if_pos c2] at H
        obtain ⟨j, hj1, hj2, rfl⟩ := inB_of (by decide) (by decide) c2
        have e1 : nI j - nI 20 = nI (j - 20) := pk_sub (by omega)
        rw [e1, nI_clamp (by omega)] at H
        refine mz_WP.run 80 rfl ?_
        refine mz_WP.getf rfl (h2) rfl (Nat.le_of_ble_eq_true rfl) ?_
        refine mz_WP.getf rfl (F _ _ rfl) rfl (Nat.le_of_ble_eq_true rfl) ?_
        refine mz_WP.run 80 rfl ?_
        rw [e1]
        refine mz_WP.cv rfl rfl (Nat.le_of_ble_eq_true rfl) rfl (Tr.1) rfl (s_zoneOf Tr ?_)
        rw [t1, rat_in (by omega) (by decide)]
        exact mz_WP.ret rfl rfl H
    · have c1 := bI_t c1
      have H := H h C (fun _ _ => rfl)
      rw [if_pos c1] at H
      obtain ⟨j, hj1, hj2, rfl⟩ := inB_of (by decide) (by decide) c1
      have e1 : nI j - nI 10 = nI (j - 10) := pk_sub (by omega)
      rw [e1, nI_clamp (by omega)] at H
      refine mz_WP.run 80 rfl ?_
      refine mz_WP.getf rfl (h2) rfl (Nat.le_of_ble_eq_true rfl) ?_
      refine mz_WP.getf rfl (F _ _ rfl) rfl (Nat.le_of_ble_eq_true rfl) ?_
      refine mz_WP.run 80 rfl ?_
      rw [e1]
      refine mz_WP.cv rfl rfl (Nat.le_of_ble_eq_true rfl) rfl (Bl.1) rfl (s_numberAt Bl ?_)
      rw [rat_in (by omega) (by decide), (rb _ (by omega)).1]
      exact mz_WP.ret rfl rfl H
  · have c0 := bI_t c0
    have H := H h C (fun _ _ => rfl)
    rw [if_pos c0] at H
    obtain ⟨c, -, hc, rfl⟩ := inB_of (by decide) (by decide) c0
    rw [nI_clamp (by omega)] at H
    obtain ⟨k, Wc, m, s, w, T, r⟩ := R1 c (by omega)
    rw [Wc.2.1] at H
    refine mz_WP.run 80 rfl ?_
    refine mz_WP.getf rfl (h2) rfl (Nat.le_of_ble_eq_true rfl) ?_
    refine mz_WP.run 80 rfl ?_
    refine mz_WP.cv rfl rfl (Nat.le_of_ble_eq_true rfl) rfl (F _ _ rfl) rfl (s_tapsOf F (by omega) ?_)
    refine mz_WP.cv rfl rfl (Nat.le_of_ble_eq_true rfl) rfl (T.2.1) rfl (r_tsize T ?_)
    exact mz_WP.ret rfl rfl H
end P7
end
section
/-! the makers of the class -/
def zf : Nat → Int32 := fun _ => 0
def RI (h : mz_H) (t i : Nat) (ln : Nat → Nat) : Prop := ∀ j, j < i → h (t + 1 + 2 * j) = .inr (6, [.ref (t + 2 + 2 * j)]) ∧ h (t + 2 + 2 * j) = .inl (0, ln j, zf)
section MK
variable {e d rk n : Nat} {code : List mz_I} {h h0 : mz_H} {Q : mz_Q} {L : List (Option Value)} {bc bs : Nat}
theorem s_rowinit {k : Nat} (hk : k ≤ 1000) (hr : h (n + 1) = .inr (6, [.null])) (H : ∀ h', h' (n + 1) = .inr (6, [.ref (n + 2)]) → h' (n + 2) = .inl (0, k, zf) → (∀ b, b ≠ n + 1 → b ≠ n + 2 → h' b = h b) → Q none (n + 1) h') : mz_wc (e + 2) 50 [.ref (n + 1), .int (nI k)] n h Q := by
  have hck : (nI k).toNatClampNeg = k := nI_clamp (by omega)
  refine mz_wc.enter (code := co_X6_init) (idx := 50) rfl rfl (Nat.le_of_ble_eq_true rfl) rfl rfl ?_
  refine mz_WP.run 80 rfl ?_
  refine mz_WP.oi rfl rfl (by omega) (Nat.le_of_ble_eq_true rfl) ?_
  refine mz_WP.run 80 rfl ?_
  refine mz_WP.ifc rfl (fun c => ?_) (fun c => ?_)
  · refine mz_WP.run 80 rfl ?_
    refine mz_WP.newI rfl (nI_pos (by omega)) (by rw [hck]; exact hk) (Nat.le_refl 1) (Nat.le_refl _) ?_
    rw [hck]
    refine mz_WP.putf rfl ((mz_up_n (by omega)).trans hr) (Nat.le_of_ble_eq_true rfl) (Nat.le_of_ble_eq_true rfl) rfl ?_
    refine mz_WP.vret rfl rfl (H _ mz_up_s ((mz_up_n (by omega)).trans mz_up_s) (fun b h1 h2 => (mz_up_n h1).trans (mz_up_n h2)))
  · exact absurd (nI_pos' (by omega)) c
/-- a row into a field of the object at t, whose i rows stand already -/
theorem mk_row {t i k ci y cp cp3 cp4 len1 len3 len4 y0 y3 pc pc1 pc2 : Nat} {ln : Nat → Nat} {fs : List Value} (hn : n + 1 = t + 2 * i) (ha : h t = .inr (ci, fs)) (R : RI h t i ln) (o : ∀ b, b < t ∨ t + 2 * i < b → h b = h0 b) (hr0 : mz_run code 1 pc L [] = (pc1, L, [.ref t])) (l1 : mz_lk code pc1 = some (.new cp, len1, 6, y0)) (hr2 : mz_run code 2 (pc1 + 3) L [.ref (n + 2), .ref t] = (pc2, L, [.int (nI k), .ref (n + 2), .ref (n + 2), .ref t])) (l3 : mz_lk code pc2 = some (.invokespecial cp3, len3, 50, y3)) (hy3 : ¬ y3 = 6) (l4 : mz_lk code (pc2 + 3) = some (.putfield cp4, len4, ci, y)) (hk : ln i = k) (hk2 : k ≤ 1000) (b1 : 2 ≤ bc) (b2 : 1 + k ≤ bs) (hy : y < mz_N ci) (hy2 : y < fs.length) (ht : mz_vt (mz_ty ci y) (.ref 0) = true) (H : ∀ h', h' t = .inr (ci, fs.set y (.ref (t + 1 + 2 * i))) → RI h' t (i + 1) ln → (∀ b, b < t ∨ t + 2 * (i + 1) < b → h' b = h0 b) → mz_WP (mz_wc (e + 2)) d rk code Q (pc2 + 6) L [] (n + 2) h' (bc - 2) (bs - (1 + k))) : mz_WP (mz_wc (e + 2)) d rk code Q pc L [] n h bc bs := by
  have hck : (nI k).toNatClampNeg = k := nI_clamp (by omega)
  refine mz_WP.run 1 hr0 ?_
  refine mz_WP.new l1 (by decide) (by omega) (by show 1 ≤ bs; omega) ?_
  refine mz_WP.run 2 hr2 ?_
  refine mz_WP.ci (as := [.ref (n + 1 + 1), .int (nI k)]) (r := [.ref (n + 2), .ref t]) (mc := 1) (ms := k) l3 hy3 rfl (Nat.le_of_ble_eq_true rfl) rfl (by show (1, (nI k).toNatClampNeg) = _; rw [hck]) (by omega) (by show k ≤ bs - 1; omega) ?_
  refine s_rowinit hk2 mz_up_s (fun h' e1 e2 e3 => ?_)
  have htv : mz_vt (mz_ty ci y) (.ref (n + 2)) = true := by
    revert ht
    cases mz_ty ci y <;> exact id
  have hat : h' t = .inr (ci, fs) := (e3 t (by omega) (by omega)).trans ((mz_up_n (by omega)).trans ha)
  refine mz_WP.putf l4 hat hy hy2 htv ?_
  have hfin := H (mz_up h' t (.inr (ci, fs.set y (.ref (n + 2))))) (by rw [mz_up_s, show t + 1 + 2 * i = n + 2 by omega]) (fun j hj => ?_) (fun b hb => ?_)
  · rw [show bc - 2 = bc - 1 - 1 by omega, show bs - (1 + k) = bs - mz_N 6 - k by show _ = bs - 1 - k; omega] at hfin
    exact hfin
  · rw [mz_up_n (by omega), mz_up_n (by omega)]
    by_cases hji : j = i
    · subst hji
      rw [show t + 1 + 2 * j = n + 1 + 1 by omega, show t + 2 + 2 * j = n + 1 + 2 by omega, hk]
      exact ⟨e1, e2⟩
    · rw [e3 _ (by omega) (by omega), e3 _ (by omega) (by omega), mz_up_n (by omega), mz_up_n (by omega)]
      exact R j (by omega)
  · rw [mz_up_n (by omega), e3 b (by omega) (by omega), mz_up_n (by omega)]
    exact o b (by omega)
end MK
section MK2
variable {e n : Nat} {h : mz_H} {Q : mz_Q}
theorem RI.z {t : Nat} {ln : Nat → Nat} : RI h t 0 ln := fun j hj => by omega
theorem s_tapinit (hn : 1 ≤ n) (ht : h (n + 1) = .inr (8, mz_df 8)) (H : ∀ h', TA h' (n + 1) (nI 0) zf zf zf → (∀ b, b < n + 1 ∨ n + 1 + 6 < b → h' b = h b) → Q none (n + 6) h') : mz_wc (e + 3) 60 [.ref (n + 1)] n h Q := by
  refine mz_wc.enter (code := co_X8_init) (idx := 60) rfl rfl (Nat.le_of_ble_eq_true rfl) rfl rfl ?_
  refine mz_WP.run 80 rfl ?_
  refine mz_WP.oi rfl rfl (by omega) (Nat.le_of_ble_eq_true rfl) ?_
  refine mk_row (t := n + 1) (i := 0) (ln := fun _ => 48) (h0 := h) (by omega) ht RI.z (fun _ _ => rfl) rfl rfl rfl rfl (by decide) rfl rfl (by decide) (by decide) (by decide) (Nat.le_of_ble_eq_true rfl) (Nat.le_of_ble_eq_true rfl) rfl (fun h1 a1 R1 o1 => ?_)
  refine mk_row (t := n + 1) (i := 1) (by omega) a1 R1 o1 rfl rfl rfl rfl (by decide) rfl rfl (by decide) (by decide) (by decide) (Nat.le_of_ble_eq_true rfl) (Nat.le_of_ble_eq_true rfl) rfl (fun h2 a2 R2 o2 => ?_)
  refine mk_row (t := n + 1) (i := 2) (by omega) a2 R2 o2 rfl rfl rfl rfl (by decide) rfl rfl (by decide) (by decide) (by decide) (Nat.le_of_ble_eq_true rfl) (Nat.le_of_ble_eq_true rfl) rfl (fun h3 a3 R3 o3 => ?_)
  refine mz_WP.run 80 rfl ?_
  refine mz_WP.putf rfl (a3) (Nat.le_of_ble_eq_true rfl) (Nat.le_of_ble_eq_true rfl) rfl ?_
  refine mz_WP.vret rfl rfl (H _ ⟨⟨?_, ?_, ?_, ?_⟩, ?_, ?_, ?_, ?_⟩ (fun b hb => (mz_up_n (by omega)).trans (o3 b (by omega))))
  · omega
  · exact (mz_up_n (by omega)).trans (R3 0 (by decide)).1
  · exact (mz_up_n (by omega)).trans (R3 1 (by decide)).1
  · exact (mz_up_n (by omega)).trans (R3 2 (by decide)).1
  · exact mz_up_s
  · exact (mz_up_n (by omega)).trans (R3 0 (by decide)).2
  · exact (mz_up_n (by omega)).trans (R3 1 (by decide)).2
  · exact (mz_up_n (by omega)).trans (R3 2 (by decide)).2
end MK2
end
section
/-! the makers of the class, on -/
def tfz (a b i : Nat) : Nat → Int32 := fun j => if 1 ≤ j ∧ j < i then nI (a + b * j) else 0
theorem tfz_1 {a b : Nat} : zf = tfz a b 1 := by
  funext j
  exact (if_neg (by omega)).symm
theorem tfz_s {a b i : Nat} (hi : 1 ≤ i) : upd (tfz a b i) i (nI a + nI b * nI i) = tfz a b (i + 1) := by
  funext j
  unfold upd tfz
  by_cases h1 : j = i
  · subst h1
    rw [if_pos rfl, if_pos (by omega), ← nI_add, pk_mul]
  · rw [if_neg h1]
    by_cases h2 : 1 ≤ j ∧ j < i
    · rw [if_pos h2, if_pos (by omega)]
    · rw [if_neg h2, if_neg (by omega)]
section MK3
variable {e d rk n : Nat} {code : List mz_I} {h : mz_H} {Q : mz_Q} {L : List (Option Value)} {bc bs : Nat}
/-- an object into a field of the object at t -/
theorem mk_obj {t ci y cp cp3 cp4 len1 len3 len4 y0 y3 pc pc1 pc2 cj idx mc ms : Nat} {fs : List Value} (ha : h t = .inr (ci, fs)) (hr0 : mz_run code 1 pc L [] = (pc1, L, [.ref t])) (l1 : mz_lk code pc1 = some (.new cp, len1, cj, y0)) (hcj : cj < 12) (hr2 : mz_run code 1 (pc1 + 3) L [.ref (n + 2), .ref t] = (pc2, L, [.ref (n + 2), .ref (n + 2), .ref t])) (l3 : mz_lk code pc2 = some (.invokespecial cp3, len3, idx, y3)) (hy3 : ¬ y3 = 6) (hnp : mz_np.getD idx 0 = 0) (hal : mz_al idx [.ref (n + 2)] = (mc, ms)) (l4 : mz_lk code (pc2 + 3) = some (.putfield cp4, len4, ci, y)) (b1 : 1 + mc ≤ bc) (b2 : mz_N cj + ms ≤ bs) (hy : y < mz_N ci) (hy2 : y < fs.length) (ht : mz_vt (mz_ty ci y) (.ref (n + 2)) = true) (H : mz_wc e idx [.ref (n + 2)] (n + 1) (mz_up h (n + 2) (.inr (cj, mz_df cj))) (fun v n' h' => v = none ∧ h' t = .inr (ci, fs) ∧ mz_WP (mz_wc e) d rk code Q (pc2 + 6) L [] n' (mz_up h' t (.inr (ci, fs.set y (.ref (n + 2))))) (bc - (1 + mc)) (bs - (mz_N cj + ms)))) : mz_WP (mz_wc e) d rk code Q pc L [] n h bc bs := by
  refine mz_WP.run 1 hr0 ?_
  refine mz_WP.new l1 hcj (by omega) (by omega) ?_
  refine mz_WP.run 1 hr2 ?_
  refine mz_WP.ci (as := [.ref (n + 2)]) (r := [.ref (n + 2), .ref t]) (mc := mc) (ms := ms) l3 hy3 (by rw [hnp]; rfl) (Nat.le_of_ble_eq_true rfl) rfl hal (by omega) (by omega) ?_
  refine mz_wc_mono e _ _ _ _ _ _ (fun v n' h' q => ?_) H
  obtain ⟨rfl, q1, q2⟩ := q
  refine mz_WP.putf l4 q1 hy hy2 ht ?_
  rw [show bc - 1 - mc = bc - (1 + mc) by omega, show bs - mz_N cj - ms = bs - (mz_N cj + ms) by omega]
  exact q2
end MK3
section MK4
variable {e n : Nat} {h : mz_H} {Q : mz_Q}
def RowAt (h : mz_H) (a k : Nat) : Prop := h a = .inr (6, [.ref (a + 1)]) ∧ h (a + 1) = .inl (0, k, zf)

theorem s_blinit (ht : h (n + 1) = .inr (0, mz_df 0)) (H : ∀ h', BlA h' (n + 1) zf zf (nI 0) (nI 0) → (∀ b, b < n + 1 ∨ n + 1 + 4 < b → h' b = h b) → Q none (n + 4) h') : mz_wc (e + 3) 0 [.ref (n + 1)] n h Q := by
  refine mz_wc.enter (code := co_X0_init) (idx := 0) rfl rfl (Nat.le_of_ble_eq_true rfl) rfl rfl ?_
  refine mz_WP.run 80 rfl ?_
  refine mz_WP.oi rfl rfl (by omega) (Nat.le_of_ble_eq_true rfl) ?_
  refine mk_row (t := n + 1) (i := 0) (ln := fun j => ([4, 4] : List Nat).getD j 0) (h0 := h) (by omega) ht RI.z (fun _ _ => rfl) rfl rfl rfl rfl (by decide) rfl rfl (by decide) (by decide) (by decide) (Nat.le_of_ble_eq_true rfl) (Nat.le_of_ble_eq_true rfl) rfl (fun h1 a1 R1 o1 => ?_)
  refine mk_row (t := n + 1) (i := 1) (by omega) a1 R1 o1 rfl rfl rfl rfl (by decide) rfl rfl (by decide) (by decide) (by decide) (Nat.le_of_ble_eq_true rfl) (Nat.le_of_ble_eq_true rfl) rfl (fun h2 a2 R2 o2 => ?_)
  refine mz_WP.run 80 rfl ?_
  refine mz_WP.putf rfl (a2) (Nat.le_of_ble_eq_true rfl) (Nat.le_of_ble_eq_true rfl) rfl ?_
  refine mz_WP.run 80 rfl ?_
  refine mz_WP.putf rfl (mz_up_s) (Nat.le_of_ble_eq_true rfl) (Nat.le_of_ble_eq_true rfl) rfl ?_
  refine mz_WP.vret rfl rfl (H _ ⟨mz_up_s, ⟨?_, ?_⟩, ?_, ?_⟩ (fun b hb => (mz_up_n (by omega)).trans ((mz_up_n (by omega)).trans (o2 b (by omega)))))
  · exact (mz_up_n (by omega)).trans ((mz_up_n (by omega)).trans (R2 0 (by decide)).1)
  · exact (mz_up_n (by omega)).trans ((mz_up_n (by omega)).trans (R2 1 (by decide)).1)
  · exact (mz_up_n (by omega)).trans ((mz_up_n (by omega)).trans (R2 0 (by decide)).2)
  · exact (mz_up_n (by omega)).trans ((mz_up_n (by omega)).trans (R2 1 (by decide)).2)
theorem s_init2 (ht : h (n + 1) = .inr (2, mz_df 2)) (H : ∀ h', h' (n + 1) = .inr (2, [.ref (n + 1 + 1 + 2 * 0), .ref (n + 1 + 1 + 2 * 1), .ref (n + 1 + 1 + 2 * 2)]) → RI h' (n + 1) 3 (fun j => ([28, 28, 28] : List Nat).getD j 0) → (∀ b, b < n + 1 ∨ n + 1 + 6 < b → h' b = h b) → Q none (n + 6) h') : mz_wc (e + 3) 11 [.ref (n + 1)] n h Q := by
  refine mz_wc.enter (code := co_X2_init) (idx := 11) rfl rfl (Nat.le_of_ble_eq_true rfl) rfl rfl ?_
  refine mz_WP.run 80 rfl ?_
  refine mz_WP.oi rfl rfl (by omega) (Nat.le_of_ble_eq_true rfl) ?_
  refine mk_row (t := n + 1) (i := 0) (ln := fun j => ([28, 28, 28] : List Nat).getD j 0) (h0 := h) (by omega) ht RI.z (fun _ _ => rfl) rfl rfl rfl rfl (by decide) rfl rfl (by decide) (by decide) (by decide) (Nat.le_of_ble_eq_true rfl) (Nat.le_of_ble_eq_true rfl) rfl (fun h1 a1 R1 o1 => ?_)
  refine mk_row (t := n + 1) (i := 1) (by omega) a1 R1 o1 rfl rfl rfl rfl (by decide) rfl rfl (by decide) (by decide) (by decide) (Nat.le_of_ble_eq_true rfl) (Nat.le_of_ble_eq_true rfl) rfl (fun h2 a2 R2 o2 => ?_)
  refine mk_row (t := n + 1) (i := 2) (by omega) a2 R2 o2 rfl rfl rfl rfl (by decide) rfl rfl (by decide) (by decide) (by decide) (Nat.le_of_ble_eq_true rfl) (Nat.le_of_ble_eq_true rfl) rfl (fun h3 a3 R3 o3 => ?_)
  exact mz_WP.vret rfl rfl (H _ a3 R3 o3)
theorem s_init3 (ht : h (n + 1) = .inr (3, mz_df 3)) (H : ∀ h', h' (n + 1) = .inr (3, [.ref (n + 1 + 1 + 2 * 0), .ref (n + 1 + 1 + 2 * 1), .ref (n + 1 + 1 + 2 * 2), .ref (n + 1 + 1 + 2 * 3), .ref (n + 1 + 1 + 2 * 4), .ref (n + 1 + 1 + 2 * 5), .int (nI 0)]) → RI h' (n + 1) 6 (fun j => ([48, 48, 48, 48, 48, 48] : List Nat).getD j 0) → (∀ b, b < n + 1 ∨ n + 1 + 12 < b → h' b = h b) → Q none (n + 12) h') : mz_wc (e + 3) 19 [.ref (n + 1)] n h Q := by
  refine mz_wc.enter (code := co_X3_init) (idx := 19) rfl rfl (Nat.le_of_ble_eq_true rfl) rfl rfl ?_
  refine mz_WP.run 80 rfl ?_
  refine mz_WP.oi rfl rfl (by omega) (Nat.le_of_ble_eq_true rfl) ?_
  refine mk_row (t := n + 1) (i := 0) (ln := fun j => ([48, 48, 48, 48, 48, 48] : List Nat).getD j 0) (h0 := h) (by omega) ht RI.z (fun _ _ => rfl) rfl rfl rfl rfl (by decide) rfl rfl (by decide) (by decide) (by decide) (Nat.le_of_ble_eq_true rfl) (Nat.le_of_ble_eq_true rfl) rfl (fun h1 a1 R1 o1 => ?_)
  refine mk_row (t := n + 1) (i := 1) (by omega) a1 R1 o1 rfl rfl rfl rfl (by decide) rfl rfl (by decide) (by decide) (by decide) (Nat.le_of_ble_eq_true rfl) (Nat.le_of_ble_eq_true rfl) rfl (fun h2 a2 R2 o2 => ?_)
  refine mk_row (t := n + 1) (i := 2) (by omega) a2 R2 o2 rfl rfl rfl rfl (by decide) rfl rfl (by decide) (by decide) (by decide) (Nat.le_of_ble_eq_true rfl) (Nat.le_of_ble_eq_true rfl) rfl (fun h3 a3 R3 o3 => ?_)
  refine mk_row (t := n + 1) (i := 3) (by omega) a3 R3 o3 rfl rfl rfl rfl (by decide) rfl rfl (by decide) (by decide) (by decide) (Nat.le_of_ble_eq_true rfl) (Nat.le_of_ble_eq_true rfl) rfl (fun h4 a4 R4 o4 => ?_)
  refine mk_row (t := n + 1) (i := 4) (by omega) a4 R4 o4 rfl rfl rfl rfl (by decide) rfl rfl (by decide) (by decide) (by decide) (Nat.le_of_ble_eq_true rfl) (Nat.le_of_ble_eq_true rfl) rfl (fun h5 a5 R5 o5 => ?_)
  refine mk_row (t := n + 1) (i := 5) (by omega) a5 R5 o5 rfl rfl rfl rfl (by decide) rfl rfl (by decide) (by decide) (by decide) (Nat.le_of_ble_eq_true rfl) (Nat.le_of_ble_eq_true rfl) rfl (fun h6 a6 R6 o6 => ?_)
  refine mz_WP.run 80 rfl ?_
  refine mz_WP.putf rfl (a6) (Nat.le_of_ble_eq_true rfl) (Nat.le_of_ble_eq_true rfl) rfl ?_
  exact mz_WP.vret rfl rfl (H _ mz_up_s (fun j hj => ⟨(mz_up_n (by omega)).trans (R6 j hj).1, (mz_up_n (by omega)).trans (R6 j hj).2⟩) (fun b hb => (mz_up_n (by omega)).trans (o6 b (by omega))))
theorem s_init5 (ht : h (n + 1) = .inr (5, mz_df 5)) (H : ∀ h', h' (n + 1) = .inr (5, [.ref (n + 1 + 1 + 2 * 0), .ref (n + 1 + 1 + 2 * 1), .ref (n + 1 + 1 + 2 * 2), .ref (n + 1 + 1 + 2 * 3), .ref (n + 1 + 1 + 2 * 4), .ref (n + 1 + 1 + 2 * 5), .ref (n + 1 + 1 + 2 * 6), .int (nI 0)]) → RI h' (n + 1) 7 (fun j => ([48, 48, 48, 48, 48, 8, 8] : List Nat).getD j 0) → (∀ b, b < n + 1 ∨ n + 1 + 14 < b → h' b = h b) → Q none (n + 14) h') : mz_wc (e + 3) 38 [.ref (n + 1)] n h Q := by
  refine mz_wc.enter (code := co_X5_init) (idx := 38) rfl rfl (Nat.le_of_ble_eq_true rfl) rfl rfl ?_
  refine mz_WP.run 80 rfl ?_
  refine mz_WP.oi rfl rfl (by omega) (Nat.le_of_ble_eq_true rfl) ?_
  refine mk_row (t := n + 1) (i := 0) (ln := fun j => ([48, 48, 48, 48, 48, 8, 8] : List Nat).getD j 0) (h0 := h) (by omega) ht RI.z (fun _ _ => rfl) rfl rfl rfl rfl (by decide) rfl rfl (by decide) (by decide) (by decide) (Nat.le_of_ble_eq_true rfl) (Nat.le_of_ble_eq_true rfl) rfl (fun h1 a1 R1 o1 => ?_)
  refine mk_row (t := n + 1) (i := 1) (by omega) a1 R1 o1 rfl rfl rfl rfl (by decide) rfl rfl (by decide) (by decide) (by decide) (Nat.le_of_ble_eq_true rfl) (Nat.le_of_ble_eq_true rfl) rfl (fun h2 a2 R2 o2 => ?_)
  refine mk_row (t := n + 1) (i := 2) (by omega) a2 R2 o2 rfl rfl rfl rfl (by decide) rfl rfl (by decide) (by decide) (by decide) (Nat.le_of_ble_eq_true rfl) (Nat.le_of_ble_eq_true rfl) rfl (fun h3 a3 R3 o3 => ?_)
  refine mk_row (t := n + 1) (i := 3) (by omega) a3 R3 o3 rfl rfl rfl rfl (by decide) rfl rfl (by decide) (by decide) (by decide) (Nat.le_of_ble_eq_true rfl) (Nat.le_of_ble_eq_true rfl) rfl (fun h4 a4 R4 o4 => ?_)
  refine mk_row (t := n + 1) (i := 4) (by omega) a4 R4 o4 rfl rfl rfl rfl (by decide) rfl rfl (by decide) (by decide) (by decide) (Nat.le_of_ble_eq_true rfl) (Nat.le_of_ble_eq_true rfl) rfl (fun h5 a5 R5 o5 => ?_)
  refine mk_row (t := n + 1) (i := 5) (by omega) a5 R5 o5 rfl rfl rfl rfl (by decide) rfl rfl (by decide) (by decide) (by decide) (Nat.le_of_ble_eq_true rfl) (Nat.le_of_ble_eq_true rfl) rfl (fun h6 a6 R6 o6 => ?_)
  refine mk_row (t := n + 1) (i := 6) (by omega) a6 R6 o6 rfl rfl rfl rfl (by decide) rfl rfl (by decide) (by decide) (by decide) (Nat.le_of_ble_eq_true rfl) (Nat.le_of_ble_eq_true rfl) rfl (fun h7 a7 R7 o7 => ?_)
  refine mz_WP.run 80 rfl ?_
  refine mz_WP.putf rfl (a7) (Nat.le_of_ble_eq_true rfl) (Nat.le_of_ble_eq_true rfl) rfl ?_
  exact mz_WP.vret rfl rfl (H _ mz_up_s (fun j hj => ⟨(mz_up_n (by omega)).trans (R7 j hj).1, (mz_up_n (by omega)).trans (R7 j hj).2⟩) (fun b hb => (mz_up_n (by omega)).trans (o7 b (by omega))))
theorem s_init4 (ht : h (n + 1) = .inr (4, mz_df 4)) (H : ∀ h', h' (n + 1) = .inr (4, [.ref (n + 1 + 1 + 2 * 0), .ref (n + 1 + 1 + 2 * 1), .ref (n + 1 + 1 + 2 * 2), .ref (n + 1 + 1 + 2 * 3), .ref (n + 1 + 1 + 2 * 4)]) → RI h' (n + 1) 5 (fun j => ([29, 29, 28, 4, 28] : List Nat).getD j 0) → (∀ b, b < n + 1 ∨ n + 1 + 10 < b → h' b = h b) → Q none (n + 10) h') : mz_wc (e + 3) 30 [.ref (n + 1)] n h Q := by
  refine mz_wc.enter (code := co_X4_init) (idx := 30) rfl rfl (Nat.le_of_ble_eq_true rfl) rfl rfl ?_
  refine mz_WP.run 80 rfl ?_
  refine mz_WP.oi rfl rfl (by omega) (Nat.le_of_ble_eq_true rfl) ?_
  refine mk_row (t := n + 1) (i := 0) (ln := fun j => ([29, 29, 28, 4, 28] : List Nat).getD j 0) (h0 := h) (by omega) ht RI.z (fun _ _ => rfl) rfl rfl rfl rfl (by decide) rfl rfl (by decide) (by decide) (by decide) (Nat.le_of_ble_eq_true rfl) (Nat.le_of_ble_eq_true rfl) rfl (fun h1 a1 R1 o1 => ?_)
  refine mk_row (t := n + 1) (i := 1) (by omega) a1 R1 o1 rfl rfl rfl rfl (by decide) rfl rfl (by decide) (by decide) (by decide) (Nat.le_of_ble_eq_true rfl) (Nat.le_of_ble_eq_true rfl) rfl (fun h2 a2 R2 o2 => ?_)
  refine mk_row (t := n + 1) (i := 2) (by omega) a2 R2 o2 rfl rfl rfl rfl (by decide) rfl rfl (by decide) (by decide) (by decide) (Nat.le_of_ble_eq_true rfl) (Nat.le_of_ble_eq_true rfl) rfl (fun h3 a3 R3 o3 => ?_)
  refine mk_row (t := n + 1) (i := 3) (by omega) a3 R3 o3 rfl rfl rfl rfl (by decide) rfl rfl (by decide) (by decide) (by decide) (Nat.le_of_ble_eq_true rfl) (Nat.le_of_ble_eq_true rfl) rfl (fun h4 a4 R4 o4 => ?_)
  refine mk_row (t := n + 1) (i := 4) (by omega) a4 R4 o4 rfl rfl rfl rfl (by decide) rfl rfl (by decide) (by decide) (by decide) (Nat.le_of_ble_eq_true rfl) (Nat.le_of_ble_eq_true rfl) rfl (fun h5 a5 R5 o5 => ?_)
  exact mz_WP.vret rfl rfl (H _ a5 R5 o5)
end MK4
end
section
/-! the makers of the class: Tariff, State, Bill, the whole -/
section MK5
variable {e n : Nat} {h : mz_H} {Q : mz_Q}
theorem s_trinit (hn : 1 ≤ n) (hz : h 0 = .inl (0, 8, mz_zn)) (ht : h (n + 1) = .inr (9, mz_df 9)) (H : ∀ h', TrA h' (n + 1) (rcpy 8 zf mz_zn) (tfz 150 50 6) (tfz 400 100 6) (tfz 1500 400 6) (nI 50) (nI 30) → (∀ b, b < n + 1 ∨ n + 1 + 8 < b → h' b = h b) → Q none (n + 8) h') : mz_wc (e + 3) 71 [.ref (n + 1)] n h Q := by
  refine mz_wc.enter (code := co_X9_init) (idx := 71) rfl rfl (Nat.le_of_ble_eq_true rfl) rfl rfl ?_
  refine mz_WP.run 80 rfl ?_
  refine mz_WP.oi rfl rfl (by omega) (Nat.le_of_ble_eq_true rfl) ?_
  refine mk_row (t := n + 1) (i := 0) (ln := fun j => ([8, 6, 6, 6] : List Nat).getD j 0) (h0 := h) (by omega) ht RI.z (fun _ _ => rfl) rfl rfl rfl rfl (by decide) rfl rfl (by decide) (by decide) (by decide) (Nat.le_of_ble_eq_true rfl) (Nat.le_of_ble_eq_true rfl) rfl (fun h1 a1 R1 o1 => ?_)
  refine mk_row (t := n + 1) (i := 1) (by omega) a1 R1 o1 rfl rfl rfl rfl (by decide) rfl rfl (by decide) (by decide) (by decide) (Nat.le_of_ble_eq_true rfl) (Nat.le_of_ble_eq_true rfl) rfl (fun h2 a2 R2 o2 => ?_)
  refine mk_row (t := n + 1) (i := 2) (by omega) a2 R2 o2 rfl rfl rfl rfl (by decide) rfl rfl (by decide) (by decide) (by decide) (Nat.le_of_ble_eq_true rfl) (Nat.le_of_ble_eq_true rfl) rfl (fun h3 a3 R3 o3 => ?_)
  refine mk_row (t := n + 1) (i := 3) (by omega) a3 R3 o3 rfl rfl rfl rfl (by decide) rfl rfl (by decide) (by decide) (by decide) (Nat.le_of_ble_eq_true rfl) (Nat.le_of_ble_eq_true rfl) rfl (fun h4 a4 R4 o4 => ?_)
  refine mz_WP.run 80 rfl ?_
  refine mz_WP.putf rfl (a4) (Nat.le_of_ble_eq_true rfl) (Nat.le_of_ble_eq_true rfl) rfl ?_
  refine mz_WP.run 80 rfl ?_
  refine mz_WP.putf rfl (mz_up_s) (Nat.le_of_ble_eq_true rfl) (Nat.le_of_ble_eq_true rfl) rfl ?_
  have loop2 : ∀ k w h', w + k = 6 → 1 ≤ w → TrA h' (n + 1) (rcpy 8 zf mz_zn) (tfz 150 50 w) (tfz 400 100 w) (tfz 1500 400 w) (nI 50) (nI 30) → (∀ b, b < n + 1 ∨ n + 1 + 8 < b → h' b = h b) → mz_WP (mz_wc (e + 2)) (e + 2) 0 co_X9_init Q 99 [some (.ref (n + 1)), some (.int (nI w))] [] (n + 8) h' 0 0 := by
    intro k
    induction k with
    | zero =>
      intro w h' hw h1 T o
      have hw : w = 6 := by omega
      subst hw
      refine mz_WP.run 80 rfl ?_
      refine mz_WP.icmp rfl (fun c => ?_) (fun c => ?_)
      · exact mz_WP.vret rfl rfl (H h' T o)
      · exact absurd (by decide : nI 5 < nI 6) c
    | succ k ih =>
      intro w h' hw h1 T o
      refine mz_WP.run 80 rfl ?_
      refine mz_WP.icmp rfl (fun c => ?_) (fun c => ?_)
      · exact absurd c (nI_nlt (by omega) (by omega))
      · refine mz_WP.run 80 rfl ?_
        refine mz_WP.getf rfl (T.1) rfl (Nat.le_of_ble_eq_true rfl) ?_
        refine mz_WP.run 80 rfl ?_
        refine mz_WP.cv rfl rfl (Nat.le_of_ble_eq_true rfl) rfl (T.2.1.2.1) rfl (s_put T.2.1.2.1 T.2.2.2.1 (by omega) (by decide) ?_)
        rw [rput_in (by omega) (by decide), tfz_s h1]
        have T := T.u4 (f := tfz 150 50 (w + 1))
        refine mz_WP.run 80 rfl ?_
        refine mz_WP.getf rfl (T.1) rfl (Nat.le_of_ble_eq_true rfl) ?_
        refine mz_WP.run 80 rfl ?_
        refine mz_WP.cv rfl rfl (Nat.le_of_ble_eq_true rfl) rfl (T.2.1.2.2.1) rfl (s_put T.2.1.2.2.1 T.2.2.2.2.1 (by omega) (by decide) ?_)
        rw [rput_in (by omega) (by decide), tfz_s h1]
        have T := T.u6 (f := tfz 400 100 (w + 1))
        refine mz_WP.run 80 rfl ?_
        refine mz_WP.getf rfl (T.1) rfl (Nat.le_of_ble_eq_true rfl) ?_
        refine mz_WP.run 80 rfl ?_
        refine mz_WP.cv rfl rfl (Nat.le_of_ble_eq_true rfl) rfl (T.2.1.2.2.2) rfl (s_put T.2.1.2.2.2 T.2.2.2.2.2 (by omega) (by decide) ?_)
        rw [rput_in (by omega) (by decide), tfz_s h1]
        have T := T.u8 (f := tfz 1500 400 (w + 1))
        refine mz_WP.run 80 rfl ?_
        have := ih (w + 1) _ (by omega) (by omega) T (fun b hb => (mz_up_n (by omega)).trans ((mz_up_n (by omega)).trans ((mz_up_n (by omega)).trans (o b hb))))
        rw [nI_succ] at this
        exact this
  have loop1 : ∀ k w h', w + k = 8 → TrA h' (n + 1) (rcpy w zf mz_zn) zf zf zf (nI 50) (nI 30) → (∀ b, b < n + 1 ∨ n + 1 + 8 < b → h' b = h b) → mz_WP (mz_wc (e + 2)) (e + 2) 0 co_X9_init Q 70 [some (.ref (n + 1)), some (.int (nI w))] [] (n + 8) h' 0 0 := by
    intro k
    induction k with
    | zero =>
      intro w h' hw T o
      have hw : w = 8 := by omega
      subst hw
      refine mz_WP.run 80 rfl ?_
      refine mz_WP.alen rfl ((o 0 (by omega)).trans hz) ?_
      refine mz_WP.icmp rfl (fun c => ?_) (fun c => ?_)
      · refine mz_WP.run 2 rfl ?_
        have := loop2 5 1 h' (by omega) (by omega) (by rw [← tfz_1, ← tfz_1, ← tfz_1]; exact T) o
        exact this
      · exact absurd (by decide : nI 8 ≤ nI 8) c
    | succ k ih =>
      intro w h' hw T o
      refine mz_WP.run 80 rfl ?_
      refine mz_WP.alen rfl ((o 0 (by omega)).trans hz) ?_
      refine mz_WP.icmp rfl (fun c => ?_) (fun c => ?_)
      · exact absurd c (nI_ge (by omega) (by omega))
      · refine mz_WP.run 80 rfl ?_
        refine mz_WP.getf rfl (T.1) rfl (Nat.le_of_ble_eq_true rfl) ?_
        refine mz_WP.run 80 rfl ?_
        refine mz_WP.ald rfl ((o 0 (by omega)).trans hz) (vp_in_nI (by omega) (by omega)) ?_
        rw [nI_clamp (by omega)]
        refine mz_WP.cv rfl rfl (Nat.le_of_ble_eq_true rfl) rfl (T.2.1.1) rfl (s_put T.2.1.1 T.2.2.1 (by omega) (by decide) ?_)
        rw [rput_in (by omega) (by decide), rcpy_s]
        have T := T.u2 (f := rcpy (w + 1) zf mz_zn)
        refine mz_WP.run 80 rfl ?_
        have := ih (w + 1) _ (by omega) T (fun b hb => (mz_up_n (by omega)).trans (o b hb))
        rw [nI_succ] at this
        exact this
  refine mz_WP.run 2 rfl ?_
  refine loop1 8 0 _ (by omega) ?_ (fun b hb => (mz_up_n (by omega)).trans ((mz_up_n (by omega)).trans (o4 b (by omega))))
  rw [rcpy_0]
  refine ⟨mz_up_s, ⟨?_, ?_, ?_, ?_⟩, ?_, ?_, ?_, ?_⟩
  · exact (mz_up_n (by omega)).trans ((mz_up_n (by omega)).trans (R4 0 (by decide)).1)
  · exact (mz_up_n (by omega)).trans ((mz_up_n (by omega)).trans (R4 1 (by decide)).1)
  · exact (mz_up_n (by omega)).trans ((mz_up_n (by omega)).trans (R4 2 (by decide)).1)
  · exact (mz_up_n (by omega)).trans ((mz_up_n (by omega)).trans (R4 3 (by decide)).1)
  · exact (mz_up_n (by omega)).trans ((mz_up_n (by omega)).trans (R4 0 (by decide)).2)
  · exact (mz_up_n (by omega)).trans ((mz_up_n (by omega)).trans (R4 1 (by decide)).2)
  · exact (mz_up_n (by omega)).trans ((mz_up_n (by omega)).trans (R4 2 (by decide)).2)
  · exact (mz_up_n (by omega)).trans ((mz_up_n (by omega)).trans (R4 3 (by decide)).2)
/-- a fresh State at S -/
def SI (h : mz_H) (S : Nat) : Prop := h S = .inr (7, [.ref (S + 1), .ref (S + 8), .ref (S + 15), .ref (S + 22), .ref (S + 29), .ref (S + 38)]) ∧ (TA h (S + 1) (nI 0) zf zf zf ∧ TA h (S + 8) (nI 0) zf zf zf ∧ TA h (S + 15) (nI 0) zf zf zf ∧ TA h (S + 22) (nI 0) zf zf zf) ∧ TrA h (S + 29) (rcpy 8 zf mz_zn) (tfz 150 50 6) (tfz 400 100 6) (tfz 1500 400 6) (nI 50) (nI 30) ∧ BlA h (S + 38) zf zf (nI 0) (nI 0)
theorem SI.to {h' : mz_H} {S : Nat} (I : SI h S) (hh : ∀ b, S ≤ b → b ≤ S + 42 → h' b = h b) : SI h' S := by
  obtain ⟨e0, ⟨e1, e2, e3, e4⟩, e5, e6⟩ := I
  exact ⟨(hh _ (by omega) (by omega)).trans e0, ⟨e1.to (fun b _ _ => hh b (by omega) (by omega)), e2.to (fun b _ _ => hh b (by omega) (by omega)), e3.to (fun b _ _ => hh b (by omega) (by omega)), e4.to (fun b _ _ => hh b (by omega) (by omega))⟩, e5.to (fun b _ _ => hh b (by omega) (by omega)), e6.to (fun b _ _ => hh b (by omega) (by omega))⟩
theorem s_stinit (hn : 1 ≤ n) (hz : h 0 = .inl (0, 8, mz_zn)) (hs : h (n + 1) = .inr (7, mz_df 7)) (H : ∀ h', SI h' (n + 1) → (∀ b, b < n + 1 ∨ n + 1 + 42 < b → h' b = h b) → Q none (n + 42) h') : mz_wc (e + 4) 57 [.ref (n + 1)] n h Q := by
  refine mz_wc.enter (code := co_X7_init) (idx := 57) rfl rfl (Nat.le_of_ble_eq_true rfl) rfl rfl ?_
  refine mz_WP.run 80 rfl ?_
  refine mz_WP.oi rfl rfl (by omega) (Nat.le_of_ble_eq_true rfl) ?_
  refine mk_obj (hs) rfl rfl (by decide) rfl rfl (by decide) rfl rfl rfl (by decide) (by decide) (Nat.le_of_ble_eq_true rfl) (Nat.le_of_ble_eq_true rfl) rfl ?_
  refine s_tapinit (by omega) mz_up_s (fun h1 T1 q1 => ⟨rfl, (q1 _ (by omega)).trans ((mz_up_n (by omega)).trans (hs)), ?_⟩)
  refine mk_obj (mz_up_s) rfl rfl (by decide) rfl rfl (by decide) rfl rfl rfl (by decide) (by decide) (Nat.le_of_ble_eq_true rfl) (Nat.le_of_ble_eq_true rfl) rfl ?_
  refine s_tapinit (by omega) mz_up_s (fun h2 T2 q2 => ⟨rfl, (q2 _ (by omega)).trans ((mz_up_n (by omega)).trans mz_up_s), ?_⟩)
  refine mk_obj (mz_up_s) rfl rfl (by decide) rfl rfl (by decide) rfl rfl rfl (by decide) (by decide) (Nat.le_of_ble_eq_true rfl) (Nat.le_of_ble_eq_true rfl) rfl ?_
  refine s_tapinit (by omega) mz_up_s (fun h3 T3 q3 => ⟨rfl, (q3 _ (by omega)).trans ((mz_up_n (by omega)).trans mz_up_s), ?_⟩)
  refine mk_obj (mz_up_s) rfl rfl (by decide) rfl rfl (by decide) rfl rfl rfl (by decide) (by decide) (Nat.le_of_ble_eq_true rfl) (Nat.le_of_ble_eq_true rfl) rfl ?_
  refine s_tapinit (by omega) mz_up_s (fun h4 T4 q4 => ⟨rfl, (q4 _ (by omega)).trans ((mz_up_n (by omega)).trans mz_up_s), ?_⟩)
  refine mk_obj (mz_up_s) rfl rfl (by decide) rfl rfl (by decide) rfl rfl rfl (by decide) (by decide) (Nat.le_of_ble_eq_true rfl) (Nat.le_of_ble_eq_true rfl) rfl ?_
  refine s_trinit (by omega) ((mz_up_n (by omega)).trans (Eq.trans ((mz_up_n (by omega)).trans ((q4 _ (by omega)).trans ((mz_up_n (by omega)).trans ((mz_up_n (by omega)).trans ((q3 _ (by omega)).trans ((mz_up_n (by omega)).trans ((mz_up_n (by omega)).trans ((q2 _ (by omega)).trans ((mz_up_n (by omega)).trans ((mz_up_n (by omega)).trans ((q1 _ (by omega)).trans ((mz_up_n (by omega)).trans (rfl))))))))))))) hz)) mz_up_s (fun h5 T5 q5 => ⟨rfl, (q5 _ (by omega)).trans ((mz_up_n (by omega)).trans mz_up_s), ?_⟩)
  refine mk_obj (mz_up_s) rfl rfl (by decide) rfl rfl (by decide) rfl rfl rfl (by decide) (by decide) (Nat.le_of_ble_eq_true rfl) (Nat.le_of_ble_eq_true rfl) rfl ?_
  refine s_blinit mz_up_s (fun h6 T6 q6 => ⟨rfl, (q6 _ (by omega)).trans ((mz_up_n (by omega)).trans mz_up_s), ?_⟩)
  refine mz_WP.vret rfl rfl (H _ ⟨mz_up_s, ⟨?_, ?_, ?_, ?_⟩, ?_, ?_⟩ (fun b hb => ?_))
  · exact T1.to (fun b _ _ => (mz_up_n (by omega)).trans ((q6 b (by omega)).trans ((mz_up_n (by omega)).trans ((mz_up_n (by omega)).trans ((q5 b (by omega)).trans ((mz_up_n (by omega)).trans ((mz_up_n (by omega)).trans ((q4 b (by omega)).trans ((mz_up_n (by omega)).trans ((mz_up_n (by omega)).trans ((q3 b (by omega)).trans ((mz_up_n (by omega)).trans ((mz_up_n (by omega)).trans ((q2 b (by omega)).trans ((mz_up_n (by omega)).trans ((mz_up_n (by omega)).trans (rfl)))))))))))))))))
  · exact T2.to (fun b _ _ => (mz_up_n (by omega)).trans ((q6 b (by omega)).trans ((mz_up_n (by omega)).trans ((mz_up_n (by omega)).trans ((q5 b (by omega)).trans ((mz_up_n (by omega)).trans ((mz_up_n (by omega)).trans ((q4 b (by omega)).trans ((mz_up_n (by omega)).trans ((mz_up_n (by omega)).trans ((q3 b (by omega)).trans ((mz_up_n (by omega)).trans ((mz_up_n (by omega)).trans (rfl))))))))))))))
  · exact T3.to (fun b _ _ => (mz_up_n (by omega)).trans ((q6 b (by omega)).trans ((mz_up_n (by omega)).trans ((mz_up_n (by omega)).trans ((q5 b (by omega)).trans ((mz_up_n (by omega)).trans ((mz_up_n (by omega)).trans ((q4 b (by omega)).trans ((mz_up_n (by omega)).trans ((mz_up_n (by omega)).trans (rfl)))))))))))
  · exact T4.to (fun b _ _ => (mz_up_n (by omega)).trans ((q6 b (by omega)).trans ((mz_up_n (by omega)).trans ((mz_up_n (by omega)).trans ((q5 b (by omega)).trans ((mz_up_n (by omega)).trans ((mz_up_n (by omega)).trans (rfl))))))))
  · exact T5.to (fun b _ _ => (mz_up_n (by omega)).trans ((q6 b (by omega)).trans ((mz_up_n (by omega)).trans ((mz_up_n (by omega)).trans (rfl)))))
  · exact T6.to (fun b _ _ => (mz_up_n (by omega)).trans (rfl))
  · exact (mz_up_n (by omega)).trans ((q6 b (by omega)).trans ((mz_up_n (by omega)).trans ((mz_up_n (by omega)).trans ((q5 b (by omega)).trans ((mz_up_n (by omega)).trans ((mz_up_n (by omega)).trans ((q4 b (by omega)).trans ((mz_up_n (by omega)).trans ((mz_up_n (by omega)).trans ((q3 b (by omega)).trans ((mz_up_n (by omega)).trans ((mz_up_n (by omega)).trans ((q2 b (by omega)).trans ((mz_up_n (by omega)).trans ((mz_up_n (by omega)).trans ((q1 b (by omega)).trans (mz_up_n (by omega))))))))))))))))))
end MK5
end
section
/-! the makers of the class: Bill, the whole; what stands then -/
def gz0 : Nat → Int32 := fun b => if b < 388 then 0 else if b < 396 then mz_zn (b - 388) else if b < 401 then nI (150 + 50 * (b - 395)) else if b < 406 then nI (400 + 100 * (b - 400)) else if b < 411 then nI (1500 + 400 * (b - 405)) else if b = 411 then nI 50 else if b = 412 then nI 30 else 0
section MK6
variable {e : Nat} {h : mz_H} {Q : mz_Q}
def BI (h : mz_H) : Prop := h 139 = .inr (1, [.ref 140, .ref 155, .ref 168, .ref 175]) ∧ (h 140 = .inr (5, [.ref 141, .ref 143, .ref 145, .ref 147, .ref 149, .ref 151, .ref 153, .int (nI 0)]) ∧ RI h 140 7 (fun j => ([48, 48, 48, 48, 48, 8, 8] : List Nat).getD j 0)) ∧ (h 155 = .inr (3, [.ref 156, .ref 158, .ref 160, .ref 162, .ref 164, .ref 166, .int (nI 0)]) ∧ RI h 155 6 (fun j => ([48, 48, 48, 48, 48, 48] : List Nat).getD j 0)) ∧ (h 168 = .inr (2, [.ref 169, .ref 171, .ref 173]) ∧ RI h 168 3 (fun j => ([28, 28, 28] : List Nat).getD j 0)) ∧ (h 175 = .inr (4, [.ref 176, .ref 178, .ref 180, .ref 182, .ref 184]) ∧ RI h 175 5 (fun j => ([29, 29, 28, 4, 28] : List Nat).getD j 0))
theorem RI.to {h' : mz_H} {t k : Nat} {ln : Nat → Nat} (R : RI h t k ln) (hh : ∀ b, t < b → b ≤ t + 2 * k → h' b = h b) : RI h' t k ln := fun j hj => ⟨(hh _ (by omega) (by omega)).trans (R j hj).1, (hh _ (by omega) (by omega)).trans (R j hj).2⟩
theorem BI.to {h' : mz_H} (B : BI h) (hh : ∀ b, 139 ≤ b → b ≤ 185 → h' b = h b) : BI h' := by
  obtain ⟨e0, ⟨e1, r1⟩, ⟨e2, r2⟩, ⟨e3, r3⟩, e4, r4⟩ := B
  exact ⟨(hh _ (by omega) (by omega)).trans e0, ⟨(hh _ (by omega) (by omega)).trans e1, r1.to (fun b _ _ => hh b (by omega) (by omega))⟩, ⟨(hh _ (by omega) (by omega)).trans e2, r2.to (fun b _ _ => hh b (by omega) (by omega))⟩, ⟨(hh _ (by omega) (by omega)).trans e3, r3.to (fun b _ _ => hh b (by omega) (by omega))⟩, (hh _ (by omega) (by omega)).trans e4, r4.to (fun b _ _ => hh b (by omega) (by omega))⟩
theorem s_billinit (hs : h 139 = .inr (1, mz_df 1)) (H : ∀ h', BI h' → (∀ b, b < 139 ∨ 185 < b → h' b = h b) → Q none 184 h') : mz_wc (e + 4) 9 [.ref 139] 138 h Q := by
  refine mz_wc.enter (code := co_X1_init) (idx := 9) rfl rfl (Nat.le_of_ble_eq_true rfl) rfl rfl ?_
  refine mz_WP.run 80 rfl ?_
  refine mz_WP.oi rfl rfl (by omega) (Nat.le_of_ble_eq_true rfl) ?_
  refine mk_obj (hs) rfl rfl (by decide) rfl rfl (by decide) rfl rfl rfl (by decide) (by decide) (Nat.le_of_ble_eq_true rfl) (Nat.le_of_ble_eq_true rfl) rfl ?_
  refine s_init5 (n := 139) mz_up_s (fun h1 T1 R1 q1 => ⟨rfl, (q1 _ (by omega)).trans ((mz_up_n (by omega)).trans (hs)), ?_⟩)
  refine mk_obj (mz_up_s) rfl rfl (by decide) rfl rfl (by decide) rfl rfl rfl (by decide) (by decide) (Nat.le_of_ble_eq_true rfl) (Nat.le_of_ble_eq_true rfl) rfl ?_
  refine s_init3 (n := 154) mz_up_s (fun h2 T2 R2 q2 => ⟨rfl, (q2 _ (by omega)).trans ((mz_up_n (by omega)).trans mz_up_s), ?_⟩)
  refine mk_obj (mz_up_s) rfl rfl (by decide) rfl rfl (by decide) rfl rfl rfl (by decide) (by decide) (Nat.le_of_ble_eq_true rfl) (Nat.le_of_ble_eq_true rfl) rfl ?_
  refine s_init2 (n := 167) mz_up_s (fun h3 T3 R3 q3 => ⟨rfl, (q3 _ (by omega)).trans ((mz_up_n (by omega)).trans mz_up_s), ?_⟩)
  refine mk_obj (mz_up_s) rfl rfl (by decide) rfl rfl (by decide) rfl rfl rfl (by decide) (by decide) (Nat.le_of_ble_eq_true rfl) (Nat.le_of_ble_eq_true rfl) rfl ?_
  refine s_init4 (n := 174) mz_up_s (fun h4 T4 R4 q4 => ⟨rfl, (q4 _ (by omega)).trans ((mz_up_n (by omega)).trans mz_up_s), ?_⟩)
  refine mz_WP.vret rfl rfl (H _ ⟨mz_up_s, ⟨?_, ?_⟩, ⟨?_, ?_⟩, ⟨?_, ?_⟩, ?_, ?_⟩ (fun b hb => ?_))
  · exact (mz_up_n (by omega)).trans (Eq.trans ((q4 _ (by omega)).trans ((mz_up_n (by omega)).trans ((mz_up_n (by omega)).trans ((q3 _ (by omega)).trans ((mz_up_n (by omega)).trans ((mz_up_n (by omega)).trans ((q2 _ (by omega)).trans ((mz_up_n (by omega)).trans ((mz_up_n (by omega)).trans (rfl)))))))))) T1)
  · exact RI.to R1 (fun b _ _ => (mz_up_n (by omega)).trans ((q4 b (by omega)).trans ((mz_up_n (by omega)).trans ((mz_up_n (by omega)).trans ((q3 b (by omega)).trans ((mz_up_n (by omega)).trans ((mz_up_n (by omega)).trans ((q2 b (by omega)).trans ((mz_up_n (by omega)).trans ((mz_up_n (by omega)).trans (rfl)))))))))))
  · exact (mz_up_n (by omega)).trans (Eq.trans ((q4 _ (by omega)).trans ((mz_up_n (by omega)).trans ((mz_up_n (by omega)).trans ((q3 _ (by omega)).trans ((mz_up_n (by omega)).trans ((mz_up_n (by omega)).trans (rfl))))))) T2)
  · exact RI.to R2 (fun b _ _ => (mz_up_n (by omega)).trans ((q4 b (by omega)).trans ((mz_up_n (by omega)).trans ((mz_up_n (by omega)).trans ((q3 b (by omega)).trans ((mz_up_n (by omega)).trans ((mz_up_n (by omega)).trans (rfl))))))))
  · exact (mz_up_n (by omega)).trans (Eq.trans ((q4 _ (by omega)).trans ((mz_up_n (by omega)).trans ((mz_up_n (by omega)).trans (rfl)))) T3)
  · exact RI.to R3 (fun b _ _ => (mz_up_n (by omega)).trans ((q4 b (by omega)).trans ((mz_up_n (by omega)).trans ((mz_up_n (by omega)).trans (rfl)))))
  · exact (mz_up_n (by omega)).trans (Eq.trans (rfl) T4)
  · exact RI.to R4 (fun b _ _ => (mz_up_n (by omega)).trans (rfl))
  · exact (mz_up_n (by omega)).trans ((q4 b (by omega)).trans ((mz_up_n (by omega)).trans ((mz_up_n (by omega)).trans ((q3 b (by omega)).trans ((mz_up_n (by omega)).trans ((mz_up_n (by omega)).trans ((q2 b (by omega)).trans ((mz_up_n (by omega)).trans ((mz_up_n (by omega)).trans ((q1 b (by omega)).trans (mz_up_n (by omega))))))))))))
theorem s_ledinit0 (hz : h 0 = .inl (0, 8, mz_zn)) (hs : h 2 = .inr (10, mz_df 10)) (H : ∀ h', h' 2 = .inr (10, [.ref 3, .ref 46, .ref 89, .int (nI 0), .ref 132, .ref 139]) → SI h' 3 → SI h' 46 → SI h' 89 → TA h' 132 (nI 0) zf zf zf → BI h' → (∀ b, b < 2 ∨ 185 < b → h' b = h b) → Q none 184 h') : mz_wc (e + 5) 81 [.ref 2] 1 h Q := by
  refine mz_wc.enter (code := co_X10_init) (idx := 81) rfl rfl (Nat.le_of_ble_eq_true rfl) rfl rfl ?_
  refine mz_WP.run 80 rfl ?_
  refine mz_WP.oi rfl rfl (by omega) (Nat.le_of_ble_eq_true rfl) ?_
  refine mk_obj (hs) rfl rfl (by decide) rfl rfl (by decide) rfl rfl rfl (by decide) (by decide) (Nat.le_of_ble_eq_true rfl) (Nat.le_of_ble_eq_true rfl) rfl ?_
  refine s_stinit (n := 2) (by omega) ((mz_up_n (by omega)).trans hz) mz_up_s (fun h1 T1 q1 => ⟨rfl, (q1 _ (by omega)).trans ((mz_up_n (by omega)).trans hs), ?_⟩)
  refine mk_obj (mz_up_s) rfl rfl (by decide) rfl rfl (by decide) rfl rfl rfl (by decide) (by decide) (Nat.le_of_ble_eq_true rfl) (Nat.le_of_ble_eq_true rfl) rfl ?_
  refine s_stinit (n := 45) (by omega) ((mz_up_n (by omega)).trans ((mz_up_n (by omega)).trans ((q1 0 (by omega)).trans ((mz_up_n (by omega)).trans hz)))) mz_up_s (fun h2 T2 q2 => ⟨rfl, (q2 _ (by omega)).trans ((mz_up_n (by omega)).trans mz_up_s), ?_⟩)
  refine mk_obj (mz_up_s) rfl rfl (by decide) rfl rfl (by decide) rfl rfl rfl (by decide) (by decide) (Nat.le_of_ble_eq_true rfl) (Nat.le_of_ble_eq_true rfl) rfl ?_
  refine s_stinit (n := 88) (by omega) ((mz_up_n (by omega)).trans ((mz_up_n (by omega)).trans ((q2 0 (by omega)).trans ((mz_up_n (by omega)).trans ((mz_up_n (by omega)).trans ((q1 0 (by omega)).trans ((mz_up_n (by omega)).trans hz))))))) mz_up_s (fun h3 T3 q3 => ⟨rfl, (q3 _ (by omega)).trans ((mz_up_n (by omega)).trans mz_up_s), ?_⟩)
  refine mz_WP.run 80 rfl ?_
  refine mz_WP.putf rfl (mz_up_s) (Nat.le_of_ble_eq_true rfl) (Nat.le_of_ble_eq_true rfl) rfl ?_
  rw [mz_up_up]
  refine mk_obj (mz_up_s) rfl rfl (by decide) rfl rfl (by decide) rfl rfl rfl (by decide) (by decide) (Nat.le_of_ble_eq_true rfl) (Nat.le_of_ble_eq_true rfl) rfl ?_
  refine s_tapinit (n := 131) (by omega) mz_up_s (fun h4 T4 q4 => ⟨rfl, (q4 _ (by omega)).trans ((mz_up_n (by omega)).trans mz_up_s), ?_⟩)
  refine mk_obj (mz_up_s) rfl rfl (by decide) rfl rfl (by decide) rfl rfl rfl (by decide) (by decide) (Nat.le_of_ble_eq_true rfl) (Nat.le_of_ble_eq_true rfl) rfl ?_
  refine s_billinit mz_up_s (fun h5 T5 q5 => ⟨rfl, (q5 _ (by omega)).trans ((mz_up_n (by omega)).trans mz_up_s), ?_⟩)
  refine mz_WP.vret rfl rfl (H _ mz_up_s ?_ ?_ ?_ ?_ ?_ (fun b hb => ?_))
  · exact SI.to T1 (fun b _ _ => (mz_up_n (by omega)).trans ((q5 b (by omega)).trans ((mz_up_n (by omega)).trans ((mz_up_n (by omega)).trans ((q4 b (by omega)).trans ((mz_up_n (by omega)).trans ((mz_up_n (by omega)).trans ((q3 b (by omega)).trans ((mz_up_n (by omega)).trans ((mz_up_n (by omega)).trans ((q2 b (by omega)).trans ((mz_up_n (by omega)).trans ((mz_up_n (by omega)).trans (rfl))))))))))))))
  · exact SI.to T2 (fun b _ _ => (mz_up_n (by omega)).trans ((q5 b (by omega)).trans ((mz_up_n (by omega)).trans ((mz_up_n (by omega)).trans ((q4 b (by omega)).trans ((mz_up_n (by omega)).trans ((mz_up_n (by omega)).trans ((q3 b (by omega)).trans ((mz_up_n (by omega)).trans ((mz_up_n (by omega)).trans (rfl)))))))))))
  · exact SI.to T3 (fun b _ _ => (mz_up_n (by omega)).trans ((q5 b (by omega)).trans ((mz_up_n (by omega)).trans ((mz_up_n (by omega)).trans ((q4 b (by omega)).trans ((mz_up_n (by omega)).trans ((mz_up_n (by omega)).trans (rfl))))))))
  · exact TA.to T4 (fun b _ _ => (mz_up_n (by omega)).trans ((q5 b (by omega)).trans ((mz_up_n (by omega)).trans ((mz_up_n (by omega)).trans (rfl)))))
  · exact BI.to T5 (fun b _ _ => (mz_up_n (by omega)).trans (rfl))
  · exact (mz_up_n (by omega)).trans ((q5 b (by omega)).trans ((mz_up_n (by omega)).trans ((mz_up_n (by omega)).trans ((q4 b (by omega)).trans ((mz_up_n (by omega)).trans ((mz_up_n (by omega)).trans ((q3 b (by omega)).trans ((mz_up_n (by omega)).trans ((mz_up_n (by omega)).trans ((q2 b (by omega)).trans ((mz_up_n (by omega)).trans ((mz_up_n (by omega)).trans ((q1 b (by omega)).trans (mz_up_n (by omega)))))))))))))))
theorem fxf_mem : ∀ {l : List (Nat × mz_C)} {a : Nat} {c : mz_C}, fxf l a = some c → (a, c) ∈ l
  | [], _, _, z => by cases z
  | x :: r, a, c, z => by
    unfold fxf at z
    cases hb : Nat.beq x.1 a with
    | true =>
      rw [hb] at z
      have e1 : x.1 = a := Nat.eq_of_beq_eq_true hb
      have e2 : x.2 = c := Option.some.inj z
      subst e1; subst e2
      exact List.mem_cons_self
    | false =>
      rw [hb] at z
      exact List.mem_cons_of_mem _ (fxf_mem z)
def fxa (h : mz_H) : List (Nat × mz_C) → Prop
  | [] => True
  | x :: r => h x.1 = x.2 ∧ fxa h r
theorem fxa_mem : ∀ {l : List (Nat × mz_C)}, fxa h l → ∀ x ∈ l, h x.1 = x.2
  | [], _, x, hx => by cases hx
  | y :: r, H, x, hx => by
    cases hx with
    | head => exact H.1
    | tail _ hx => exact fxa_mem H.2 x hx
theorem ini_Fx (S1 : SI h 3) (S2 : SI h 46) (S3 : SI h 89) (T : TA h 132 (nI 0) zf zf zf) (B : BI h) : Fx h := by
  have F : fxa h fxl := ⟨S1.1, S1.2.1.1.1.2.1, S1.2.1.1.1.2.2.1, S1.2.1.1.1.2.2.2, S1.2.1.2.1.1.2.1, S1.2.1.2.1.1.2.2.1, S1.2.1.2.1.1.2.2.2, S1.2.1.2.2.1.1.2.1, S1.2.1.2.2.1.1.2.2.1, S1.2.1.2.2.1.1.2.2.2, S1.2.1.2.2.2.1.2.1, S1.2.1.2.2.2.1.2.2.1, S1.2.1.2.2.2.1.2.2.2, S1.2.2.1.2.1.1, S1.2.2.1.2.1.2.1, S1.2.2.1.2.1.2.2.1, S1.2.2.1.2.1.2.2.2, S1.2.2.2.2.1.1, S1.2.2.2.2.1.2, S2.1, S2.2.1.1.1.2.1, S2.2.1.1.1.2.2.1, S2.2.1.1.1.2.2.2, S2.2.1.2.1.1.2.1, S2.2.1.2.1.1.2.2.1, S2.2.1.2.1.1.2.2.2, S2.2.1.2.2.1.1.2.1, S2.2.1.2.2.1.1.2.2.1, S2.2.1.2.2.1.1.2.2.2, S2.2.1.2.2.2.1.2.1, S2.2.1.2.2.2.1.2.2.1, S2.2.1.2.2.2.1.2.2.2, S2.2.2.1.2.1.1, S2.2.2.1.2.1.2.1, S2.2.2.1.2.1.2.2.1, S2.2.2.1.2.1.2.2.2, S2.2.2.2.2.1.1, S2.2.2.2.2.1.2, S3.1, S3.2.1.1.1.2.1, S3.2.1.1.1.2.2.1, S3.2.1.1.1.2.2.2, S3.2.1.2.1.1.2.1, S3.2.1.2.1.1.2.2.1, S3.2.1.2.1.1.2.2.2, S3.2.1.2.2.1.1.2.1, S3.2.1.2.2.1.1.2.2.1, S3.2.1.2.2.1.1.2.2.2, S3.2.1.2.2.2.1.2.1, S3.2.1.2.2.2.1.2.2.1, S3.2.1.2.2.2.1.2.2.2, S3.2.2.1.2.1.1, S3.2.2.1.2.1.2.1, S3.2.2.1.2.1.2.2.1, S3.2.2.1.2.1.2.2.2, S3.2.2.2.2.1.1, S3.2.2.2.2.1.2, T.1.2.1, T.1.2.2.1, T.1.2.2.2, B.1, (B.2.1.2 0 (by decide)).1, (B.2.1.2 1 (by decide)).1, (B.2.1.2 2 (by decide)).1, (B.2.1.2 3 (by decide)).1, (B.2.1.2 4 (by decide)).1, (B.2.1.2 5 (by decide)).1, (B.2.1.2 6 (by decide)).1, (B.2.2.1.2 0 (by decide)).1, (B.2.2.1.2 1 (by decide)).1, (B.2.2.1.2 2 (by decide)).1, (B.2.2.1.2 3 (by decide)).1, (B.2.2.1.2 4 (by decide)).1, (B.2.2.1.2 5 (by decide)).1, B.2.2.2.1.1, (B.2.2.2.1.2 0 (by decide)).1, (B.2.2.2.1.2 1 (by decide)).1, (B.2.2.2.1.2 2 (by decide)).1, B.2.2.2.2.1, (B.2.2.2.2.2 0 (by decide)).1, (B.2.2.2.2.2 1 (by decide)).1, (B.2.2.2.2.2 2 (by decide)).1, (B.2.2.2.2.2 3 (by decide)).1, (B.2.2.2.2.2 4 (by decide)).1, trivial⟩
  intro a c hc
  exact fxa_mem F (a, c) (fxf_mem hc)
theorem ini_BS (B : BI h) : BS h := by
  obtain ⟨-, ⟨e1, r1⟩, ⟨e2, r2⟩, ⟨-, r3⟩, -, r4⟩ := B
  refine ⟨⟨nI 0, zf, zf, zf, zf, zf, zf, zf, e1, (r1 0 (by decide)).2, (r1 1 (by decide)).2, (r1 2 (by decide)).2, (r1 3 (by decide)).2, (r1 4 (by decide)).2, (r1 5 (by decide)).2, (r1 6 (by decide)).2⟩, ⟨nI 0, zf, zf, zf, zf, zf, zf, e2, (r2 0 (by decide)).2, (r2 1 (by decide)).2, (r2 2 (by decide)).2, (r2 3 (by decide)).2, (r2 4 (by decide)).2, (r2 5 (by decide)).2⟩, ⟨zf, zf, zf, (r3 0 (by decide)).2, (r3 1 (by decide)).2, (r3 2 (by decide)).2⟩, ⟨zf, zf, zf, zf, zf, (r4 0 (by decide)).2, (r4 1 (by decide)).2, (r4 2 (by decide)).2, (r4 3 (by decide)).2, (r4 4 (by decide)).2⟩⟩
theorem gz0_c {c : Nat} (hc : c < 4) : WFc gz0 c 0 := by
  refine ⟨by omega, ?_, fun j hj => by omega, fun j hj => by omega, fun i j _ hj => by omega⟩
  unfold gz0
  rw [if_pos (by omega)]
  rfl
theorem mz_znI : ∀ i, i < 8 → mz_zn i = nI (i % 5 + 1) := by decide
theorem gz0_z {i : Nat} (hi : i < 8) : gz0 (388 + i) = nI (i % 5 + 1) := by
  unfold gz0
  rw [if_neg (by omega), if_pos (by omega), show 388 + i - 388 = i by omega, mz_znI i hi]
theorem gz0_WF : WF gz0 := by
  refine ⟨fun c hc => ⟨0, gz0_c hc⟩, fun i hi => ⟨i % 5 + 1, by omega, by omega, gz0_z hi⟩, ⟨0, by omega, rfl⟩, fun r hr => ⟨0, by omega, ?_⟩⟩
  unfold gz0
  rw [if_neg (by omega), if_neg (by omega), if_neg (by omega), if_neg (by omega), if_neg (by omega), if_neg (by omega), if_neg (by omega)]
  rfl
theorem rat_cc {m : Nat} {f g : Nat → Int32} (hm : m < 2 ^ 31) (hh : ∀ j, j < m → f j = g j) : rat m f = rat m g := by
  funext i
  unfold rat
  by_cases h0 : i < 0
  · rw [if_pos h0, if_pos h0]
  · rw [if_neg h0, if_neg h0]
    by_cases h1 : nI m ≤ i
    · rw [if_pos h1, if_pos h1]
    · rw [if_neg h1, if_neg h1]
      obtain ⟨j, hj, rfl⟩ := nI_of h0
      rw [nI_leI hm hj] at h1
      rw [nI_clamp hj]
      exact hh j (by omega)
theorem ini_Rep {S : Nat} (I : SI h S) : Rep S h gz0 := by
  obtain ⟨e0, ⟨t0, t1, t2, t3⟩, tr, bl⟩ := I
  refine ⟨fun c hc => ⟨0, gz0_c hc, zf, zf, zf, ?_, fun j hj => by omega⟩, ⟨_, _, _, _, tr, ?_, ?_, ?_, ?_⟩, ⟨_, _, bl, fun r hr => ⟨?_, ?_⟩⟩⟩
  · match c, hc with
    | 0, _ => exact t0
    | 1, _ => exact t1
    | 2, _ => exact t2
    | 3, _ => exact t3
  · refine rat_cc (by decide) (fun j hj => ?_)
    unfold rcpy zG gz0
    rw [if_pos hj, if_neg (by omega), if_pos (by omega), show 388 + j - 388 = j by omega]
  · refine rat_cc (by decide) (fun j hj => ?_)
    unfold tfz frG gz0
    by_cases hj0 : j = 0
    · rw [if_pos hj0, if_neg (by omega)]
    · rw [if_neg hj0, if_pos (by omega), if_neg (by omega), if_neg (by omega), if_pos (by omega), show 395 + j - 395 = j by omega]
  · refine rat_cc (by decide) (fun j hj => ?_)
    unfold tfz crG gz0
    by_cases hj0 : j = 0
    · rw [if_pos hj0, if_neg (by omega)]
    · rw [if_neg hj0, if_pos (by omega), if_neg (by omega), if_neg (by omega), if_neg (by omega), if_pos (by omega), show 400 + j - 400 = j by omega]
  · refine rat_cc (by decide) (fun j hj => ?_)
    unfold tfz wrG gz0
    by_cases hj0 : j = 0
    · rw [if_pos hj0, if_neg (by omega)]
    · rw [if_neg hj0, if_pos (by omega), if_neg (by omega), if_neg (by omega), if_neg (by omega), if_neg (by omega), if_pos (by omega), show 405 + j - 405 = j by omega]
  · unfold gz0
    rw [if_neg (by omega), if_neg (by omega), if_neg (by omega), if_neg (by omega), if_neg (by omega), if_neg (by omega), if_neg (by omega)]
    rfl
  · unfold gz0
    rw [if_neg (by omega), if_neg (by omega), if_neg (by omega), if_neg (by omega), if_neg (by omega), if_neg (by omega), if_neg (by omega)]
    rfl
theorem s_ledinit {gi : Nat → Nat → Int32} (hz : h 0 = .inl (0, 8, mz_zn)) (hs : h 2 = .inr (10, mz_df 10)) (H : ∀ h', CI h' gz0 0 gi → (∀ b, b < 2 ∨ 185 < b → h' b = h b) → Q none 184 h') : mz_wc (e + 5) 81 [.ref 2] 1 h Q := by
  refine s_ledinit0 hz hs (fun h' e0 S1 S2 S3 T B hh => H h' ⟨ini_Fx S1 S2 S3 T B, ini_BS B, e0, gz0_WF, ini_Rep S1, ⟨_, _, _, _, T⟩, (ini_Rep S2).shp, (ini_Rep S3).shp, by omega, fun i hi hk => ?_⟩ hh)
  match i, hi with
  | 0, _ => exact absurd hk (by decide)
  | 1, _ => exact absurd hk (by decide)
end MK6
end
section
/-! the reference: its object, its rows; by program (wip/whole/gen50.py) -/
abbrev mo (r j : Int32) : mz_C := .inr (11, [.ref 187, .ref 188, .ref 189, .ref 190, .ref 191, .ref 192, .ref 193, .ref 194, .ref 195, .ref 196, .int r, .ref 197, .ref 198, .ref 199, .ref 200, .int j, .ref 201, .ref 202, .ref 203, .ref 204, .ref 205, .ref 206])
def mrH (h0 : mz_H) (r j : Int32) (kd st sp bg en lm : Nat → Int32) : mz_H := fun b => if b = 186 then mo r j else if b = 190 then .inl (0, 48, kd) else if b = 191 then .inl (0, 48, st) else if b = 192 then .inl (0, 48, sp) else if b = 193 then .inl (0, 48, bg) else if b = 194 then .inl (0, 48, en) else if b = 195 then .inl (1, 48, lm) else h0 b
theorem mr_lt {h0 : mz_H} {r j : Int32} {kd st sp bg en lm : Nat → Int32} {b : Nat} (hb : b ≠ 186 ∧ (b < 190 ∨ 195 < b)) : mrH h0 r j kd st sp bg en lm b = h0 b := by
  unfold mrH
  rw [if_neg (by omega), if_neg (by omega), if_neg (by omega), if_neg (by omega), if_neg (by omega), if_neg (by omega), if_neg (by omega)]
theorem mr_u0 {h0 : mz_H} {r j : Int32} {kd st sp bg en lm : Nat → Int32} {r2 j2 : Int32} : mz_up (mrH h0 r j kd st sp bg en lm) 186 (mo r2 j2) = mrH h0 r2 j2 kd st sp bg en lm := by
  funext b
  by_cases hb : b = 186
  · subst hb; rfl
  · simp only [mz_up, mrH, hb, if_false]
theorem mr_u1 {h0 : mz_H} {r j : Int32} {kd st sp bg en lm : Nat → Int32} {x2 : Nat → Int32} : mz_up (mrH h0 r j kd st sp bg en lm) 190 (.inl (0, 48, x2)) = mrH h0 r j x2 st sp bg en lm := by
  funext b
  by_cases hb : b = 190
  · subst hb; rfl
  · simp only [mz_up, mrH, hb, if_false]
theorem mr_u2 {h0 : mz_H} {r j : Int32} {kd st sp bg en lm : Nat → Int32} {x2 : Nat → Int32} : mz_up (mrH h0 r j kd st sp bg en lm) 191 (.inl (0, 48, x2)) = mrH h0 r j kd x2 sp bg en lm := by
  funext b
  by_cases hb : b = 191
  · subst hb; rfl
  · simp only [mz_up, mrH, hb, if_false]
theorem mr_u3 {h0 : mz_H} {r j : Int32} {kd st sp bg en lm : Nat → Int32} {x2 : Nat → Int32} : mz_up (mrH h0 r j kd st sp bg en lm) 192 (.inl (0, 48, x2)) = mrH h0 r j kd st x2 bg en lm := by
  funext b
  by_cases hb : b = 192
  · subst hb; rfl
  · simp only [mz_up, mrH, hb, if_false]
theorem mr_u4 {h0 : mz_H} {r j : Int32} {kd st sp bg en lm : Nat → Int32} {x2 : Nat → Int32} : mz_up (mrH h0 r j kd st sp bg en lm) 193 (.inl (0, 48, x2)) = mrH h0 r j kd st sp x2 en lm := by
  funext b
  by_cases hb : b = 193
  · subst hb; rfl
  · simp only [mz_up, mrH, hb, if_false]
theorem mr_u5 {h0 : mz_H} {r j : Int32} {kd st sp bg en lm : Nat → Int32} {x2 : Nat → Int32} : mz_up (mrH h0 r j kd st sp bg en lm) 194 (.inl (0, 48, x2)) = mrH h0 r j kd st sp bg x2 lm := by
  funext b
  by_cases hb : b = 194
  · subst hb; rfl
  · simp only [mz_up, mrH, hb, if_false]
theorem mr_u6 {h0 : mz_H} {r j : Int32} {kd st sp bg en lm : Nat → Int32} {x2 : Nat → Int32} : mz_up (mrH h0 r j kd st sp bg en lm) 195 (.inl (1, 48, x2)) = mrH h0 r j kd st sp bg en x2 := by
  funext b
  by_cases hb : b = 195
  · subst hb; rfl
  · simp only [mz_up, mrH, hb, if_false]
theorem mr_id {h0 : mz_H} {r j : Int32} {kd st sp bg en lm : Nat → Int32} (e0 : h0 186 = mo r j) (e1 : h0 190 = .inl (0, 48, kd)) (e2 : h0 191 = .inl (0, 48, st)) (e3 : h0 192 = .inl (0, 48, sp)) (e4 : h0 193 = .inl (0, 48, bg)) (e5 : h0 194 = .inl (0, 48, en)) (e6 : h0 195 = .inl (1, 48, lm)) : mrH h0 r j kd st sp bg en lm = h0 := by
  funext b
  unfold mrH
  by_cases b0 : b = 186
  · subst b0; exact e0.symm
  rw [if_neg b0]
  by_cases b1 : b = 190
  · subst b1; exact e1.symm
  rw [if_neg b1]
  by_cases b2 : b = 191
  · subst b2; exact e2.symm
  rw [if_neg b2]
  by_cases b3 : b = 192
  · subst b3; exact e3.symm
  rw [if_neg b3]
  by_cases b4 : b = 193
  · subst b4; exact e4.symm
  rw [if_neg b4]
  by_cases b5 : b = 194
  · subst b5; exact e5.symm
  rw [if_neg b5]
  by_cases b6 : b = 195
  · subst b6; exact e6.symm
  rw [if_neg b6]
def mrS (h : mz_H) : Prop := ∃ kd st sp bg en lm : Nat → Int32, h 190 = .inl (0, 48, kd) ∧ h 191 = .inl (0, 48, st) ∧ h 192 = .inl (0, 48, sp) ∧ h 193 = .inl (0, 48, bg) ∧ h 194 = .inl (0, 48, en) ∧ h 195 = .inl (1, 48, lm)
def mjH (h0 : mz_H) (r j : Int32) (jo fi le wi co : Nat → Int32) : mz_H := fun b => if b = 186 then mo r j else if b = 196 then .inl (0, 48, jo) else if b = 197 then .inl (0, 48, fi) else if b = 198 then .inl (0, 48, le) else if b = 199 then .inl (0, 48, wi) else if b = 200 then .inl (0, 48, co) else h0 b
theorem mj_lt {h0 : mz_H} {r j : Int32} {jo fi le wi co : Nat → Int32} {b : Nat} (hb : b ≠ 186 ∧ (b < 196 ∨ 200 < b)) : mjH h0 r j jo fi le wi co b = h0 b := by
  unfold mjH
  rw [if_neg (by omega), if_neg (by omega), if_neg (by omega), if_neg (by omega), if_neg (by omega), if_neg (by omega)]
theorem mj_u0 {h0 : mz_H} {r j : Int32} {jo fi le wi co : Nat → Int32} {r2 j2 : Int32} : mz_up (mjH h0 r j jo fi le wi co) 186 (mo r2 j2) = mjH h0 r2 j2 jo fi le wi co := by
  funext b
  by_cases hb : b = 186
  · subst hb; rfl
  · simp only [mz_up, mjH, hb, if_false]
theorem mj_u1 {h0 : mz_H} {r j : Int32} {jo fi le wi co : Nat → Int32} {x2 : Nat → Int32} : mz_up (mjH h0 r j jo fi le wi co) 196 (.inl (0, 48, x2)) = mjH h0 r j x2 fi le wi co := by
  funext b
  by_cases hb : b = 196
  · subst hb; rfl
  · simp only [mz_up, mjH, hb, if_false]
theorem mj_u2 {h0 : mz_H} {r j : Int32} {jo fi le wi co : Nat → Int32} {x2 : Nat → Int32} : mz_up (mjH h0 r j jo fi le wi co) 197 (.inl (0, 48, x2)) = mjH h0 r j jo x2 le wi co := by
  funext b
  by_cases hb : b = 197
  · subst hb; rfl
  · simp only [mz_up, mjH, hb, if_false]
theorem mj_u3 {h0 : mz_H} {r j : Int32} {jo fi le wi co : Nat → Int32} {x2 : Nat → Int32} : mz_up (mjH h0 r j jo fi le wi co) 198 (.inl (0, 48, x2)) = mjH h0 r j jo fi x2 wi co := by
  funext b
  by_cases hb : b = 198
  · subst hb; rfl
  · simp only [mz_up, mjH, hb, if_false]
theorem mj_u4 {h0 : mz_H} {r j : Int32} {jo fi le wi co : Nat → Int32} {x2 : Nat → Int32} : mz_up (mjH h0 r j jo fi le wi co) 199 (.inl (0, 48, x2)) = mjH h0 r j jo fi le x2 co := by
  funext b
  by_cases hb : b = 199
  · subst hb; rfl
  · simp only [mz_up, mjH, hb, if_false]
theorem mj_u5 {h0 : mz_H} {r j : Int32} {jo fi le wi co : Nat → Int32} {x2 : Nat → Int32} : mz_up (mjH h0 r j jo fi le wi co) 200 (.inl (0, 48, x2)) = mjH h0 r j jo fi le wi x2 := by
  funext b
  by_cases hb : b = 200
  · subst hb; rfl
  · simp only [mz_up, mjH, hb, if_false]
theorem mj_id {h0 : mz_H} {r j : Int32} {jo fi le wi co : Nat → Int32} (e0 : h0 186 = mo r j) (e1 : h0 196 = .inl (0, 48, jo)) (e2 : h0 197 = .inl (0, 48, fi)) (e3 : h0 198 = .inl (0, 48, le)) (e4 : h0 199 = .inl (0, 48, wi)) (e5 : h0 200 = .inl (0, 48, co)) : mjH h0 r j jo fi le wi co = h0 := by
  funext b
  unfold mjH
  by_cases b0 : b = 186
  · subst b0; exact e0.symm
  rw [if_neg b0]
  by_cases b1 : b = 196
  · subst b1; exact e1.symm
  rw [if_neg b1]
  by_cases b2 : b = 197
  · subst b2; exact e2.symm
  rw [if_neg b2]
  by_cases b3 : b = 198
  · subst b3; exact e3.symm
  rw [if_neg b3]
  by_cases b4 : b = 199
  · subst b4; exact e4.symm
  rw [if_neg b4]
  by_cases b5 : b = 200
  · subst b5; exact e5.symm
  rw [if_neg b5]
def mjS (h : mz_H) : Prop := ∃ jo fi le wi co : Nat → Int32, h 196 = .inl (0, 48, jo) ∧ h 197 = .inl (0, 48, fi) ∧ h 198 = .inl (0, 48, le) ∧ h 199 = .inl (0, 48, wi) ∧ h 200 = .inl (0, 48, co)
def mdH (h0 : mz_H) (su wd ow la wk iw : Nat → Int32) : mz_H := fun b => if b = 201 then .inl (0, 28, su) else if b = 202 then .inl (0, 28, wd) else if b = 203 then .inl (0, 28, ow) else if b = 204 then .inl (0, 36, la) else if b = 205 then .inl (0, 36, wk) else if b = 206 then .inl (1, 36, iw) else h0 b
theorem md_lt {h0 : mz_H} {su wd ow la wk iw : Nat → Int32} {b : Nat} (hb : b < 201 ∨ 206 < b) : mdH h0 su wd ow la wk iw b = h0 b := by
  unfold mdH
  rw [if_neg (by omega), if_neg (by omega), if_neg (by omega), if_neg (by omega), if_neg (by omega), if_neg (by omega)]
theorem md_u1 {h0 : mz_H} {su wd ow la wk iw : Nat → Int32} {x2 : Nat → Int32} : mz_up (mdH h0 su wd ow la wk iw) 201 (.inl (0, 28, x2)) = mdH h0 x2 wd ow la wk iw := by
  funext b
  by_cases hb : b = 201
  · subst hb; rfl
  · simp only [mz_up, mdH, hb, if_false]
theorem md_u2 {h0 : mz_H} {su wd ow la wk iw : Nat → Int32} {x2 : Nat → Int32} : mz_up (mdH h0 su wd ow la wk iw) 202 (.inl (0, 28, x2)) = mdH h0 su x2 ow la wk iw := by
  funext b
  by_cases hb : b = 202
  · subst hb; rfl
  · simp only [mz_up, mdH, hb, if_false]
theorem md_u3 {h0 : mz_H} {su wd ow la wk iw : Nat → Int32} {x2 : Nat → Int32} : mz_up (mdH h0 su wd ow la wk iw) 203 (.inl (0, 28, x2)) = mdH h0 su wd x2 la wk iw := by
  funext b
  by_cases hb : b = 203
  · subst hb; rfl
  · simp only [mz_up, mdH, hb, if_false]
theorem md_u4 {h0 : mz_H} {su wd ow la wk iw : Nat → Int32} {x2 : Nat → Int32} : mz_up (mdH h0 su wd ow la wk iw) 204 (.inl (0, 36, x2)) = mdH h0 su wd ow x2 wk iw := by
  funext b
  by_cases hb : b = 204
  · subst hb; rfl
  · simp only [mz_up, mdH, hb, if_false]
theorem md_u5 {h0 : mz_H} {su wd ow la wk iw : Nat → Int32} {x2 : Nat → Int32} : mz_up (mdH h0 su wd ow la wk iw) 205 (.inl (0, 36, x2)) = mdH h0 su wd ow la x2 iw := by
  funext b
  by_cases hb : b = 205
  · subst hb; rfl
  · simp only [mz_up, mdH, hb, if_false]
theorem md_u6 {h0 : mz_H} {su wd ow la wk iw : Nat → Int32} {x2 : Nat → Int32} : mz_up (mdH h0 su wd ow la wk iw) 206 (.inl (1, 36, x2)) = mdH h0 su wd ow la wk x2 := by
  funext b
  by_cases hb : b = 206
  · subst hb; rfl
  · simp only [mz_up, mdH, hb, if_false]
theorem md_id {h0 : mz_H} {su wd ow la wk iw : Nat → Int32} (e0 : h0 201 = .inl (0, 28, su)) (e1 : h0 202 = .inl (0, 28, wd)) (e2 : h0 203 = .inl (0, 28, ow)) (e3 : h0 204 = .inl (0, 36, la)) (e4 : h0 205 = .inl (0, 36, wk)) (e5 : h0 206 = .inl (1, 36, iw)) : mdH h0 su wd ow la wk iw = h0 := by
  funext b
  unfold mdH
  by_cases b0 : b = 201
  · subst b0; exact e0.symm
  rw [if_neg b0]
  by_cases b1 : b = 202
  · subst b1; exact e1.symm
  rw [if_neg b1]
  by_cases b2 : b = 203
  · subst b2; exact e2.symm
  rw [if_neg b2]
  by_cases b3 : b = 204
  · subst b3; exact e3.symm
  rw [if_neg b3]
  by_cases b4 : b = 205
  · subst b4; exact e4.symm
  rw [if_neg b4]
  by_cases b5 : b = 206
  · subst b5; exact e5.symm
  rw [if_neg b5]
def mdS (h : mz_H) : Prop := ∃ su wd ow la wk iw : Nat → Int32, h 201 = .inl (0, 28, su) ∧ h 202 = .inl (0, 28, wd) ∧ h 203 = .inl (0, 28, ow) ∧ h 204 = .inl (0, 36, la) ∧ h 205 = .inl (0, 36, wk) ∧ h 206 = .inl (1, 36, iw)
def MS (h : mz_H) : Prop := (∃ r j, h 186 = mo r j) ∧ mrS h ∧ mjS h ∧ mdS h
end
section
/-! the reference: reading and writing places; the taps -/
section MX
variable {e d rk : Nat} {code : List mz_I} {Q : mz_Q} {pc : Nat} {L : List (Option Value)} {n : Nat} {h : mz_H} {bc bs : Nat}
theorem mz_WP.alN {len x y a m k : Nat} {f : Nat → Int32} {i : Int32} {r : List Value} (hl : mz_lk code pc = some (.iaload, len, x, y)) (ha : h a = .inl (0, m, f)) (hi : i = nI k) (hk : k < m) (hm : m < 2 ^ 31) (H : mz_WP (mz_wc e) d rk code Q (pc + 1) L (.int (f k) :: r) n h bc bs) : mz_WP (mz_wc e) d rk code Q pc L (.int i :: .ref a :: r) n h bc bs := by
  subst hi
  refine mz_WP.ald hl ha (vp_in_nI (by omega) (by omega)) ?_
  rw [nI_clamp (by omega)]
  exact H
theorem mz_WP.blN {len x y a m k : Nat} {f : Nat → Int32} {i : Int32} {r : List Value} (hl : mz_lk code pc = some (.baload, len, x, y)) (ha : h a = .inl (1, m, f)) (hi : i = nI k) (hk : k < m) (hm : m < 2 ^ 31) (H : mz_WP (mz_wc e) d rk code Q (pc + 1) L (.int (f k) :: r) n h bc bs) : mz_WP (mz_wc e) d rk code Q pc L (.int i :: .ref a :: r) n h bc bs := by
  subst hi
  refine mz_WP.bld hl ha (vp_in_nI (by omega) (by omega)) ?_
  rw [nI_clamp (by omega)]
  exact H
theorem mz_WP.asN {len x y a m k : Nat} {f : Nat → Int32} {i v : Int32} {r : List Value} (hl : mz_lk code pc = some (.iastore, len, x, y)) (ha : h a = .inl (0, m, f)) (h2 : 2 ≤ a) (hi : i = nI k) (hk : k < m) (hm : m < 2 ^ 31) (H : mz_WP (mz_wc e) d rk code Q (pc + 1) L r n (mz_up h a (.inl (0, m, upd f k v))) bc bs) : mz_WP (mz_wc e) d rk code Q pc L (.int v :: .int i :: .ref a :: r) n h bc bs := by
  subst hi
  refine mz_WP.ast hl ha h2 (vp_in_nI (by omega) (by omega)) ?_
  rw [nI_clamp (by omega)]
  exact H
theorem nar_b (b : Bool) : vp_nar .boolean (bI b) = bI b := by cases b <;> decide
theorem mz_WP.bsN {len x y a m k : Nat} {f : Nat → Int32} {i v : Int32} {r : List Value} (b : Bool) (hl : mz_lk code pc = some (.bastore, len, x, y)) (ha : h a = .inl (1, m, f)) (h2 : 2 ≤ a) (hi : i = nI k) (hk : k < m) (hm : m < 2 ^ 31) (hv : v = bI b) (H : mz_WP (mz_wc e) d rk code Q (pc + 1) L r n (mz_up h a (.inl (1, m, upd f k (bI b)))) bc bs) : mz_WP (mz_wc e) d rk code Q pc L (.int v :: .int i :: .ref a :: r) n h bc bs := by
  subst hi
  subst hv
  refine mz_WP.bst hl ha h2 (vp_in_nI (by omega) (by omega)) ?_
  rw [nI_clamp (by omega), nar_b]
  exact H
end MX
theorem ix0 {c i : Nat} : nI 0 + nI 48 * nI c + nI i = nI (48 * c + i) := by
  rw [pk_mul, nI_add, nI_add]
  congr 1
  omega
theorem ix192 {c i : Nat} : nI 192 + nI 48 * nI c + nI i = nI (192 + 48 * c + i) := by
  rw [pk_mul, nI_add, nI_add]
section MT
variable {e n : Nat} {h : mz_H} {Q : mz_Q} {g : Nat → Int32} {r j : Int32}
theorem m_in {x lo hi : Int32} (H : Q (some (.int (bI (inB x lo hi)))) n h) : mz_wc (e + 1) 118 [.int x, .int lo, .int hi] n h Q := by
  refine mz_wc.enter (code := co_X11_in) (idx := 118) rfl rfl (Nat.le_of_ble_eq_true rfl) rfl rfl ?_
  refine mz_WP.run 80 rfl ?_
  have out : inB x lo hi = false → mz_WP (mz_wc e) e 2 co_X11_in Q 14 [some (.int x), some (.int lo), some (.int hi)] [] n h 0 0 := by
    intro hb
    rw [hb] at H
    refine mz_WP.run 80 rfl ?_
    exact mz_WP.zret rfl rfl (Or.inl rfl) H
  refine mz_WP.icmp rfl (fun c => ?_) (fun c => ?_)
  · have c : x < lo := c
    exact out (by unfold inB; rw [decide_eq_true c]; rfl)
  · have c : ¬ x < lo := c
    refine mz_WP.run 80 rfl ?_
    refine mz_WP.icmp rfl (fun c2 => ?_) (fun c2 => ?_)
    · have c2 : hi < x := c2
      exact out (by unfold inB; rw [decide_eq_true c2, Bool.not_true, Bool.and_false])
    · have c2 : ¬ hi < x := c2
      have hb : inB x lo hi = true := by unfold inB; rw [decide_eq_false c, decide_eq_false c2]; rfl
      rw [hb] at H
      refine mz_WP.run 80 rfl ?_
      refine mz_WP.run 80 rfl ?_
      exact mz_WP.zret rfl rfl (Or.inr rfl) H
theorem m_isCard {x : Int32} (H : Q (some (.int (bI (inB x (nI 0) (nI 3))))) n h) : mz_wc (e + 2) 119 [.int x] n h Q := by
  refine mz_wc.enter (code := co_X11_isCard) (idx := 119) rfl rfl (Nat.le_of_ble_eq_true rfl) rfl rfl ?_
  refine mz_WP.run 80 rfl ?_
  refine mz_WP.cs rfl (by decide) rfl (Nat.le_of_ble_eq_true rfl) rfl (m_in ?_)
  exact mz_WP.zret rfl rfl (bI_01 _) H
theorem m_isStation {x : Int32} (H : Q (some (.int (bI (inB x (nI 0) (nI 7))))) n h) : mz_wc (e + 2) 120 [.int x] n h Q := by
  refine mz_wc.enter (code := co_X11_isStation) (idx := 120) rfl rfl (Nat.le_of_ble_eq_true rfl) rfl rfl ?_
  refine mz_WP.run 80 rfl ?_
  refine mz_WP.cs rfl (by decide) rfl (Nat.le_of_ble_eq_true rfl) rfl (m_in ?_)
  exact mz_WP.zret rfl rfl (bI_01 _) H
theorem m_isDay {x : Int32} (H : Q (some (.int (bI (inB x (nI 0) (nI 27))))) n h) : mz_wc (e + 2) 121 [.int x] n h Q := by
  refine mz_wc.enter (code := co_X11_isDay) (idx := 121) rfl rfl (Nat.le_of_ble_eq_true rfl) rfl rfl ?_
  refine mz_WP.run 80 rfl ?_
  refine mz_WP.cs rfl (by decide) rfl (Nat.le_of_ble_eq_true rfl) rfl (m_in ?_)
  exact mz_WP.zret rfl rfl (bI_01 _) H
theorem m_when {c i : Nat} (ho : h 186 = mo r j) (hg : h 187 = .inl (0, 423, g)) (hc : c < 4) (hi : i < 48) (H : Q (some (.int (gm g c i))) n h) : mz_wc (e + 1) 124 [.ref 186, .int (nI c), .int (nI i)] n h Q := by
  refine mz_wc.enter (code := co_X11_when) (idx := 124) rfl rfl (Nat.le_of_ble_eq_true rfl) rfl rfl ?_
  refine mz_WP.run 80 rfl ?_
  refine mz_WP.getf rfl (ho) rfl (Nat.le_of_ble_eq_true rfl) ?_
  refine mz_WP.run 80 rfl ?_
  refine mz_WP.alN rfl hg ix0 (by omega) (by decide) ?_
  exact mz_WP.ret rfl rfl H
theorem m_sta {c i : Nat} (ho : h 186 = mo r j) (hg : h 187 = .inl (0, 423, g)) (hc : c < 4) (hi : i < 48) (H : Q (some (.int (gS g c i))) n h) : mz_wc (e + 1) 125 [.ref 186, .int (nI c), .int (nI i)] n h Q := by
  refine mz_wc.enter (code := co_X11_stationOf) (idx := 125) rfl rfl (Nat.le_of_ble_eq_true rfl) rfl rfl ?_
  refine mz_WP.run 80 rfl ?_
  refine mz_WP.getf rfl (ho) rfl (Nat.le_of_ble_eq_true rfl) ?_
  refine mz_WP.run 80 rfl ?_
  refine mz_WP.alN rfl hg ix192 (by omega) (by decide) ?_
  refine mz_WP.run 80 rfl ?_
  refine mz_WP.div rfl (by decide) ?_
  exact mz_WP.ret rfl rfl H
theorem m_isIn {c i : Nat} (ho : h 186 = mo r j) (hg : h 187 = .inl (0, 423, g)) (hc : c < 4) (hi : i < 48) (H : Q (some (.int (bI (decide (gY g c i = 0))))) n h) : mz_wc (e + 1) 126 [.ref 186, .int (nI c), .int (nI i)] n h Q := by
  refine mz_wc.enter (code := co_X11_isIn) (idx := 126) rfl rfl (Nat.le_of_ble_eq_true rfl) rfl rfl ?_
  refine mz_WP.run 80 rfl ?_
  refine mz_WP.getf rfl (ho) rfl (Nat.le_of_ble_eq_true rfl) ?_
  refine mz_WP.run 80 rfl ?_
  refine mz_WP.alN rfl hg ix192 (by omega) (by decide) ?_
  refine mz_WP.run 80 rfl ?_
  refine mz_WP.rem rfl (by decide) ?_
  refine mz_WP.ifc rfl (fun c => ?_) (fun c => ?_)
  · have c : ¬ gY g _ i = 0 := c
    rw [decide_eq_false c] at H
    refine mz_WP.run 80 rfl ?_
    exact mz_WP.zret rfl rfl (Or.inl rfl) H
  · have c : gY g _ i = 0 := Classical.byContradiction c
    rw [decide_eq_true c] at H
    refine mz_WP.run 80 rfl ?_
    refine mz_WP.run 80 rfl ?_
    exact mz_WP.zret rfl rfl (Or.inr rfl) H
def fndI (f : Nat → Int32) (x : Int32) (k : Nat) : Int32 := match fnd f x k with
  | some p => nI p
  | none => NN
theorem fndI_s {f : Nat → Int32} {x : Int32} {k : Nat} : fndI f x (k + 1) = if f k = x then nI k else fndI f x k := by
  unfold fndI
  show (match (if f k = x then some k else fnd f x k) with
    | some p => nI p
    | none => NN) = _
  by_cases hh : f k = x
  · rw [if_pos hh, if_pos hh]
  · rw [if_neg hh, if_neg hh]
theorem m_tapAt {c k : Nat} {v : Int32} (ho : h 186 = mo r j) (hg : h 187 = .inl (0, 423, g)) (hc : c < 4) (hk : k ≤ 48) (hgk : g (384 + c) = nI k) (H : Q (some (.int (fndI (gm g c) v k))) n h) : mz_wc (e + 2) 127 [.ref 186, .int (nI c), .int v] n h Q := by
  refine mz_wc.enter (code := co_X11_tapAt) (idx := 127) rfl rfl (Nat.le_of_ble_eq_true rfl) rfl rfl ?_
  refine mz_WP.run 4 rfl ?_
  have loop : ∀ q i, i + q = k → mz_WP (mz_wc (e + 1)) (e + 1) 1 co_X11_tapAt Q 6 [some (.ref 186), some (.int (nI c)), some (.int v), some (.int (fndI (gm g c) v i)), some (.int (nI i))] [] n h 0 0 := by
    intro q
    induction q with
    | zero =>
      intro i hi
      have hi : i = k := by omega
      subst hi
      refine mz_WP.run 80 rfl ?_
      refine mz_WP.getf rfl (ho) rfl (Nat.le_of_ble_eq_true rfl) ?_
      refine mz_WP.run 80 rfl ?_
      refine mz_WP.alN rfl hg (nI_add _ _) (by omega) (by decide) ?_
      rw [hgk]
      refine mz_WP.icmp rfl (fun cc => ?_) (fun cc => ?_)
      · refine mz_WP.run 80 rfl ?_
        exact mz_WP.ret rfl rfl H
      · exact absurd (nI_le (Nat.le_refl _) (by omega)) cc
    | succ q ih =>
      intro i hi
      refine mz_WP.run 80 rfl ?_
      refine mz_WP.getf rfl (ho) rfl (Nat.le_of_ble_eq_true rfl) ?_
      refine mz_WP.run 80 rfl ?_
      refine mz_WP.alN rfl hg (nI_add _ _) (by omega) (by decide) ?_
      rw [hgk]
      refine mz_WP.icmp rfl (fun cc => ?_) (fun cc => ?_)
      · exact absurd cc (nI_ge (by omega) (by omega))
      · refine mz_WP.run 80 rfl ?_
        refine mz_WP.cv rfl rfl (Nat.le_of_ble_eq_true rfl) rfl (ho) rfl (m_when ho hg hc (by omega) ?_)
        refine mz_WP.run 80 rfl ?_
        have nx := ih (i + 1) (by omega)
        rw [nI_succ, fndI_s] at nx
        refine mz_WP.icmp rfl (fun c2 => ?_) (fun c2 => ?_)
        · have c2 : ¬ gm g c i = v := c2
          rw [if_neg c2] at nx
          refine mz_WP.run 80 rfl ?_
          exact nx
        · have c2 : gm g c i = v := Classical.byContradiction c2
          rw [if_pos c2] at nx
          refine mz_WP.run 80 rfl ?_
          refine mz_WP.run 80 rfl ?_
          exact nx
  exact loop k 0 (by omega)
theorem fndI_neg {f : Nat → Int32} {x : Int32} {k : Nat} (hk : k ≤ 48) : fndI f x k < 0 ↔ fnd f x k = none := by
  unfold fndI
  cases hf : fnd f x k with
  | none => exact ⟨fun _ => rfl, fun _ => (by decide : NN < 0)⟩
  | some p => exact ⟨fun z => absurd z (nI_pos (by have := (fnd_lt hf).1; omega)), fun z => by cases z⟩
end MT
end
section
/-! the reference: refusal, add, remove, tap, untap, told -/
section MT2
variable {e n : Nat} {h : mz_H} {Q : mz_Q} {g : Nat → Int32} {r j : Int32}
theorem mom_eq {day minute : Int32} : nI 1440 * day + minute = momG day minute := by
  unfold momG
  rw [Int32.mul_comm]
theorem m_refusal {card day minute station way : Int32} (W : WF g) (ho : h 186 = mo r j) (hg : h 187 = .inl (0, 423, g)) (H : Q (some (.int (tapRef g card day minute station way))) n h) : mz_wc (e + 3) 128 [.ref 186, .int card, .int day, .int minute, .int station, .int way] n h Q := by
  refine mz_wc.enter (code := co_X11_refusal) (idx := 128) rfl rfl (Nat.le_of_ble_eq_true rfl) rfl rfl ?_
  refine mz_WP.run 80 rfl ?_
  have o1 : (inB card (nI 0) (nI 3) = false ∨ inB station (nI 0) (nI 7) = false) → mz_WP (mz_wc (e + 2)) (e + 2) 1 co_X11_refusal Q 15 [some (.ref 186), some (.int card), some (.int day), some (.int minute), some (.int station), some (.int way)] [] n h 0 0 := by
    intro hh
    rw [tapRef, if_pos hh] at H
    refine mz_WP.run 80 rfl ?_
    exact mz_WP.ret rfl rfl H
  refine mz_WP.cs rfl (by decide) rfl (Nat.le_of_ble_eq_true rfl) rfl (m_isCard ?_)
  refine mz_WP.ifc rfl (fun c1 => ?_) (fun c1 => ?_)
  · exact o1 (Or.inl (bI_f c1))
  have c1 := bI_t c1
  refine mz_WP.run 80 rfl ?_
  refine mz_WP.cs rfl (by decide) rfl (Nat.le_of_ble_eq_true rfl) rfl (m_isStation ?_)
  refine mz_WP.ifc rfl (fun c2 => ?_) (fun c2 => ?_)
  rotate_left
  · exact o1 (Or.inr (bI_f (Classical.byContradiction c2)))
  have c2 := bI_t c2
  have n1 : ¬ (inB card (nI 0) (nI 3) = false ∨ inB station (nI 0) (nI 7) = false) := by
    rw [c1, c2]
    decide
  rw [tapRef, if_neg n1] at H
  have o2 : (inB day (nI 0) (nI 27) = false ∨ inB minute (nI 0) (nI 1439) = false ∨ inB way (nI 0) (nI 1) = false) → mz_WP (mz_wc (e + 2)) (e + 2) 1 co_X11_refusal Q 45 [some (.ref 186), some (.int card), some (.int day), some (.int minute), some (.int station), some (.int way)] [] n h 0 0 := by
    intro hh
    rw [if_pos hh] at H
    refine mz_WP.run 80 rfl ?_
    exact mz_WP.ret rfl rfl H
  refine mz_WP.run 80 rfl ?_
  refine mz_WP.cs rfl (by decide) rfl (Nat.le_of_ble_eq_true rfl) rfl (m_isDay ?_)
  refine mz_WP.ifc rfl (fun c3 => ?_) (fun c3 => ?_)
  · exact o2 (Or.inl (bI_f c3))
  have c3 := bI_t c3
  refine mz_WP.run 80 rfl ?_
  refine mz_WP.cs rfl (by decide) rfl (Nat.le_of_ble_eq_true rfl) rfl (m_in ?_)
  refine mz_WP.ifc rfl (fun c4 => ?_) (fun c4 => ?_)
  · exact o2 (Or.inr (Or.inl (bI_f c4)))
  have c4 := bI_t c4
  refine mz_WP.run 80 rfl ?_
  refine mz_WP.cs rfl (by decide) rfl (Nat.le_of_ble_eq_true rfl) rfl (m_in ?_)
  refine mz_WP.ifc rfl (fun c5 => ?_) (fun c5 => ?_)
  rotate_left
  · exact o2 (Or.inr (Or.inr (bI_f (Classical.byContradiction c5))))
  have c5 := bI_t c5
  have n2 : ¬ (inB day (nI 0) (nI 27) = false ∨ inB minute (nI 0) (nI 1439) = false ∨ inB way (nI 0) (nI 1) = false) := by
    rw [c3, c4, c5]
    decide
  rw [if_neg n2] at H
  obtain ⟨c, -, hc, rfl⟩ := inB_of (by decide) (by omega) c1
  have hc : c < 4 := by omega
  rw [nI_clamp (by omega)] at H
  obtain ⟨k, Wc⟩ := W.1 c hc
  rw [Wc.k] at H
  have hk := Wc.1
  refine mz_WP.run 80 rfl ?_
  rw [mom_eq]
  refine mz_WP.cv rfl rfl (Nat.le_of_ble_eq_true rfl) rfl (ho) rfl (m_tapAt ho hg hc hk Wc.2.1 ?_)
  refine mz_WP.ifc rfl (fun c6 => ?_) (fun c6 => ?_)
  · have hn := (fndI_neg hk).mp c6
    rw [hn] at H
    refine mz_WP.run 80 rfl ?_
    refine mz_WP.getf rfl (ho) rfl (Nat.le_of_ble_eq_true rfl) ?_
    refine mz_WP.run 80 rfl ?_
    refine mz_WP.alN rfl hg (nI_add _ _) (by omega) (by decide) ?_
    rw [Wc.2.1]
    refine mz_WP.run 80 rfl ?_
    refine mz_WP.icmp rfl (fun c7 => ?_) (fun c7 => ?_)
    · have c7 : ¬ nI k = nI 48 := c7
      have : k < 48 := by
        rcases Nat.lt_or_ge k 48 with z | z
        · exact z
        · exact absurd (by rw [show k = 48 by omega]) c7
      have H : Q (some (.int (if k < 48 then nI 0 else U4))) n h := H
      rw [if_pos this] at H
      refine mz_WP.run 80 rfl ?_
      exact mz_WP.ret rfl rfl H
    · have c7 : nI k = nI 48 := Classical.byContradiction c7
      have : k = 48 := (nI_eq (by omega) (by omega)).mp c7
      have H : Q (some (.int (if k < 48 then nI 0 else U4))) n h := H
      rw [if_neg (by omega)] at H
      refine mz_WP.run 80 rfl ?_
      refine mz_WP.run 80 rfl ?_
      exact mz_WP.ret rfl rfl H
  · have hn : ∃ p, fnd (gm g c) (momG day minute) k = some p := by
      cases hf : fnd (gm g c) (momG day minute) k with
      | none => exact absurd ((fndI_neg hk).mpr hf) c6
      | some p => exact ⟨p, rfl⟩
    obtain ⟨p, hp⟩ := hn
    rw [hp] at H
    refine mz_WP.run 80 rfl ?_
    exact mz_WP.ret rfl rfl H
theorem setG_um {c i : Nat} {z v : Int32} {m w : Nat → Int32} (hc : c < 4) (hi : i < 48) : upd (setG g c z m w) (48 * c + i) v = setG g c z (upd m i v) w := by
  funext b
  unfold upd setG
  by_cases hb : b = 48 * c + i
  · subst hb
    rw [if_pos rfl, if_neg (by omega), if_pos (by omega)]
    exact (if_pos (by omega)).symm
  · rw [if_neg hb]
    by_cases h1 : b = 384 + c
    · rw [if_pos h1, if_pos h1]
    · rw [if_neg h1, if_neg h1]
      by_cases h2 : 48 * c ≤ b ∧ b < 48 * c + 48
      · rw [if_pos h2, if_pos h2]
        exact (if_neg (by omega)).symm
      · rw [if_neg h2, if_neg h2]
theorem setG_uw {c i : Nat} {z v : Int32} {m w : Nat → Int32} (hc : c < 4) (hi : i < 48) : upd (setG g c z m w) (192 + 48 * c + i) v = setG g c z m (upd w i v) := by
  funext b
  unfold upd setG
  by_cases hb : b = 192 + 48 * c + i
  · subst hb
    rw [if_pos rfl, if_neg (by omega), if_neg (by omega), if_pos (by omega)]
    exact (if_pos (by omega)).symm
  · rw [if_neg hb]
    by_cases h1 : b = 384 + c
    · rw [if_pos h1, if_pos h1]
    · rw [if_neg h1, if_neg h1]
      by_cases h2 : 48 * c ≤ b ∧ b < 48 * c + 48
      · rw [if_pos h2, if_pos h2]
      · rw [if_neg h2, if_neg h2]
        by_cases h3 : 192 + 48 * c ≤ b ∧ b < 192 + 48 * c + 48
        · rw [if_pos h3, if_pos h3]
          exact (if_neg (by omega)).symm
        · rw [if_neg h3, if_neg h3]
theorem setG_uz {c : Nat} {v : Int32} (hc : c < 4) : upd g (384 + c) v = setG g c v (gm g c) (gw g c) := by
  funext b
  unfold upd setG gm gw
  by_cases h1 : b = 384 + c
  · rw [if_pos h1, if_pos h1]
  · rw [if_neg h1, if_neg h1]
    by_cases h2 : 48 * c ≤ b ∧ b < 48 * c + 48
    · rw [if_pos h2, show 48 * c + (b - 48 * c) = b by omega]
    · rw [if_neg h2]
      by_cases h3 : 192 + 48 * c ≤ b ∧ b < 192 + 48 * c + 48
      · rw [if_pos h3, show 192 + 48 * c + (b - (192 + 48 * c)) = b by omega]
      · rw [if_neg h3]
theorem setG_m1 {c i : Nat} {z : Int32} {m w : Nat → Int32} (hc : c < 4) (hi : i < 48) : setG g c z m w (48 * c + i) = m i := setG_m hc hi
theorem setG_w1 {c i : Nat} {z : Int32} {m w : Nat → Int32} (hc : c < 4) (hi : i < 48) : setG g c z m w (192 + 48 * c + i) = w i := setG_w hc hi
theorem ix0p {c i : Nat} : nI 0 + nI 48 * nI c + nI (i + 1) - nI 1 = nI (48 * c + i) := by
  rw [ix0, pk_sub (by omega)]
  congr 1
theorem ix192p {c i : Nat} : nI 192 + nI 48 * nI c + nI (i + 1) - nI 1 = nI (192 + 48 * c + i) := by
  rw [ix192, pk_sub (by omega)]
  congr 1
theorem ix0s {c i : Nat} : nI 0 + nI 48 * nI c + nI i + nI 1 = nI (48 * c + (i + 1)) := by
  rw [ix0, nI_add]
  congr 1
theorem ix192s {c i : Nat} : nI 192 + nI 48 * nI c + nI i + nI 1 = nI (192 + 48 * c + (i + 1)) := by
  rw [ix192, nI_add]
  congr 1
theorem m_add {c k : Nat} {x y : Int32} (ho : h 186 = mo r j) (hg : h 187 = .inl (0, 423, g)) (hc : c < 4) (hk : k < 48) (hgk : g (384 + c) = nI k) (H : Q none n (mz_up h 187 (.inl (0, 423, addG g c x y)))) : mz_wc (e + 2) 129 [.ref 186, .int (nI c), .int x, .int y] n h Q := by
  have hkO : kOf g c = k := by
    unfold kOf
    rw [hgk, nI_clamp (by omega)]
  have ho' : ∀ {z : mz_C}, mz_up h 187 z 186 = mo r j := fun {z} => (mz_up_n (by omega)).trans ho
  refine mz_wc.enter (code := co_X11_add) (idx := 129) rfl rfl (Nat.le_of_ble_eq_true rfl) rfl rfl ?_
  refine mz_WP.run 80 rfl ?_
  refine mz_WP.getf rfl (ho) rfl (Nat.le_of_ble_eq_true rfl) ?_
  refine mz_WP.run 80 rfl ?_
  refine mz_WP.alN rfl hg (nI_add _ _) (by omega) (by decide) ?_
  rw [hgk]
  refine mz_WP.run 80 rfl ?_
  refine mz_WP.getf rfl (ho) rfl (Nat.le_of_ble_eq_true rfl) ?_
  refine mz_WP.run 80 rfl ?_
  refine mz_WP.alN rfl hg (nI_add _ _) (by omega) (by decide) ?_
  rw [hgk]
  refine mz_WP.run 80 rfl ?_
  refine mz_WP.asN rfl hg (by omega) (nI_add _ _) (by omega) (by decide) ?_
  rw [nI_add, setG_uz hc]
  have out : ∀ p, p ≤ k → p = ipos (gm g c) x k → mz_WP (mz_wc (e + 1)) (e + 1) 0 co_X11_add Q 114 [some (.ref 186), some (.int (nI c)), some (.int x), some (.int y), some (.int (nI p))] [] n (mz_up h 187 (.inl (0, 423, setG g c (nI (k + 1)) (shf (gm g c) k p) (shf (gw g c) k p)))) 0 0 := by
    intro p hp he
    refine mz_WP.run 80 rfl ?_
    refine mz_WP.getf rfl (ho') rfl (Nat.le_of_ble_eq_true rfl) ?_
    refine mz_WP.run 80 rfl ?_
    refine mz_WP.asN rfl mz_up_s (by omega) ix0 (by omega) (by decide) ?_
    rw [mz_up_up, setG_um hc (by omega)]
    refine mz_WP.run 80 rfl ?_
    refine mz_WP.getf rfl (ho') rfl (Nat.le_of_ble_eq_true rfl) ?_
    refine mz_WP.run 80 rfl ?_
    refine mz_WP.asN rfl mz_up_s (by omega) ix192 (by omega) (by decide) ?_
    rw [mz_up_up, setG_uw hc (by omega), shf_e, shf_e]
    unfold addG at H
    rw [hkO, ← he] at H
    exact mz_WP.vret rfl rfl H
  have loop : ∀ p, p ≤ k → (∀ i, p ≤ i → i < k → x < gm g c i) → mz_WP (mz_wc (e + 1)) (e + 1) 0 co_X11_add Q 26 [some (.ref 186), some (.int (nI c)), some (.int x), some (.int y), some (.int (nI p))] [] n (mz_up h 187 (.inl (0, 423, setG g c (nI (k + 1)) (shf (gm g c) k p) (shf (gw g c) k p)))) 0 0 := by
    intro p
    induction p with
    | zero =>
      intro hp hlt
      refine mz_WP.run 80 rfl ?_
      refine mz_WP.ifc rfl (fun c0 => ?_) (fun c0 => ?_)
      · exact out _ hp (ipos_eq hp hlt (Or.inl rfl))
      · exact absurd (by decide : nI 0 ≤ 0) c0
    | succ p ih =>
      intro hp hlt
      refine mz_WP.run 80 rfl ?_
      refine mz_WP.ifc rfl (fun c0 => ?_) (fun c0 => ?_)
      · exact absurd c0 (nI_nle (by omega) (by omega))
      · refine mz_WP.run 80 rfl ?_
        rw [pk_sub (by omega), show p + 1 - 1 = p by omega]
        refine mz_WP.cv rfl rfl (Nat.le_of_ble_eq_true rfl) rfl (ho') rfl (m_when ho' mz_up_s hc (by omega) ?_)
        rw [setG_m hc (by omega), show shf (gm g c) k (p + 1) p = gm g c p from if_neg (by omega)]
        refine mz_WP.run 80 rfl ?_
        refine mz_WP.icmp rfl (fun c1 => ?_) (fun c1 => ?_)
        · exact out _ hp (ipos_eq hp hlt (Or.inr c1))
        · have c1 : x < gm g c p := Int32.not_le.mp c1
          refine mz_WP.run 80 rfl ?_
          refine mz_WP.getf rfl (ho') rfl (Nat.le_of_ble_eq_true rfl) ?_
          refine mz_WP.run 80 rfl ?_
          refine mz_WP.getf rfl (ho') rfl (Nat.le_of_ble_eq_true rfl) ?_
          refine mz_WP.run 80 rfl ?_
          refine mz_WP.alN rfl mz_up_s ix0p (by omega) (by decide) ?_
          rw [setG_m1 hc (by omega)]
          refine mz_WP.asN rfl mz_up_s (by omega) ix0 (by omega) (by decide) ?_
          rw [mz_up_up, setG_um hc (by omega), shf_s hp]
          refine mz_WP.run 80 rfl ?_
          refine mz_WP.getf rfl (ho') rfl (Nat.le_of_ble_eq_true rfl) ?_
          refine mz_WP.run 80 rfl ?_
          refine mz_WP.getf rfl (ho') rfl (Nat.le_of_ble_eq_true rfl) ?_
          refine mz_WP.run 80 rfl ?_
          refine mz_WP.alN rfl mz_up_s ix192p (by omega) (by decide) ?_
          rw [setG_w1 hc (by omega)]
          refine mz_WP.asN rfl mz_up_s (by omega) ix192 (by omega) (by decide) ?_
          rw [mz_up_up, setG_uw hc (by omega), shf_s hp]
          refine mz_WP.run 80 rfl ?_
          have nx := ih (by omega) (fun i h1 h2 => by
            by_cases hip : i = p
            · subst hip
              exact c1
            · exact hlt i (by omega) h2)
          have ep : nI (p + 1) + nI 4294967295 = nI p := by
            rw [show nI 4294967295 = -1 by decide]
            exact pk_m1 p
          rw [ep]
          exact nx
  have := loop k (Nat.le_refl k) (fun i h1 h2 => by omega)
  rw [shf_0, shf_0] at this
  exact this
theorem m_remove {c k p : Nat} (ho : h 186 = mo r j) (hg : h 187 = .inl (0, 423, g)) (hc : c < 4) (hk : k ≤ 48) (hp : p < k) (hgk : g (384 + c) = nI k) (H : Q none n (mz_up h 187 (.inl (0, 423, rmG g c p)))) : mz_wc (e + 1) 130 [.ref 186, .int (nI c), .int (nI p)] n h Q := by
  have hkO : kOf g c = k := by
    unfold kOf
    rw [hgk, nI_clamp (by omega)]
  have ho' : ∀ {z : mz_C}, mz_up h 187 z 186 = mo r j := fun {z} => (mz_up_n (by omega)).trans ho
  refine mz_wc.enter (code := co_X11_remove) (idx := 130) rfl rfl (Nat.le_of_ble_eq_true rfl) rfl rfl ?_
  refine mz_WP.run 80 rfl ?_
  refine mz_WP.getf rfl (ho) rfl (Nat.le_of_ble_eq_true rfl) ?_
  refine mz_WP.run 80 rfl ?_
  refine mz_WP.alN rfl hg (nI_add _ _) (by omega) (by decide) ?_
  rw [hgk]
  refine mz_WP.run 80 rfl ?_
  refine mz_WP.asN rfl hg (by omega) (nI_add _ _) (by omega) (by decide) ?_
  rw [pk_sub (by omega), setG_uz hc]
  refine mz_WP.run 2 rfl ?_
  have loop : ∀ q i, i + q = k - 1 → p ≤ i → mz_WP (mz_wc e) e 0 co_X11_remove Q 16 [some (.ref 186), some (.int (nI c)), some (.int (nI p)), some (.int (nI i))] [] n (mz_up h 187 (.inl (0, 423, setG g c (nI (k - 1)) (rmf (gm g c) (i + 1) p) (rmf (gw g c) (i + 1) p)))) 0 0 := by
    intro q
    induction q with
    | zero =>
      intro i hi hpi
      have hi : i = k - 1 := by omega
      subst hi
      refine mz_WP.run 80 rfl ?_
      refine mz_WP.getf rfl (ho') rfl (Nat.le_of_ble_eq_true rfl) ?_
      refine mz_WP.run 80 rfl ?_
      refine mz_WP.alN rfl mz_up_s (nI_add _ _) (by omega) (by decide) ?_
      rw [setG_k]
      refine mz_WP.icmp rfl (fun cc => ?_) (fun cc => ?_)
      · rw [show k - 1 + 1 = k by omega]
        unfold rmG at H
        rw [hkO] at H
        exact mz_WP.vret rfl rfl H
      · exact absurd (nI_le (Nat.le_refl _) (by omega)) cc
    | succ q ih =>
      intro i hi hpi
      refine mz_WP.run 80 rfl ?_
      refine mz_WP.getf rfl (ho') rfl (Nat.le_of_ble_eq_true rfl) ?_
      refine mz_WP.run 80 rfl ?_
      refine mz_WP.alN rfl mz_up_s (nI_add _ _) (by omega) (by decide) ?_
      rw [setG_k]
      refine mz_WP.icmp rfl (fun cc => ?_) (fun cc => ?_)
      · exact absurd cc (nI_ge (by omega) (by omega))
      · refine mz_WP.run 80 rfl ?_
        refine mz_WP.getf rfl (ho') rfl (Nat.le_of_ble_eq_true rfl) ?_
        refine mz_WP.run 80 rfl ?_
        refine mz_WP.getf rfl (ho') rfl (Nat.le_of_ble_eq_true rfl) ?_
        refine mz_WP.run 80 rfl ?_
        refine mz_WP.alN rfl mz_up_s ix0s (by omega) (by decide) ?_
        rw [setG_m1 hc (by omega)]
        refine mz_WP.asN rfl mz_up_s (by omega) ix0 (by omega) (by decide) ?_
        rw [mz_up_up, setG_um hc (by omega), show upd (rmf (gm g c) (i + 1) p) i (rmf (gm g c) (i + 1) p (i + 1)) = rmf (gm g c) (i + 1 + 1) p from rmf_s (by omega)]
        refine mz_WP.run 80 rfl ?_
        refine mz_WP.getf rfl (ho') rfl (Nat.le_of_ble_eq_true rfl) ?_
        refine mz_WP.run 80 rfl ?_
        refine mz_WP.getf rfl (ho') rfl (Nat.le_of_ble_eq_true rfl) ?_
        refine mz_WP.run 80 rfl ?_
        refine mz_WP.alN rfl mz_up_s ix192s (by omega) (by decide) ?_
        rw [setG_w1 hc (by omega)]
        refine mz_WP.asN rfl mz_up_s (by omega) ix192 (by omega) (by decide) ?_
        rw [mz_up_up, setG_uw hc (by omega), show upd (rmf (gw g c) (i + 1) p) i (rmf (gw g c) (i + 1) p (i + 1)) = rmf (gw g c) (i + 1 + 1) p from rmf_s (by omega)]
        refine mz_WP.run 80 rfl ?_
        have nx := ih (i + 1) (by omega) (by omega)
        rw [nI_succ] at nx
        exact nx
  have := loop (k - 1 - p) p (by omega) (Nat.le_refl p)
  rw [rmf_0, rmf_0] at this
  exact this
theorem m_tap {card day minute station way : Int32} (W : WF g) (ho : h 186 = mo r j) (hg : h 187 = .inl (0, 423, g)) (H : Q (some (.int (tapR g card day minute station way))) n (mz_up h 187 (.inl (0, 423, tapG g card day minute station way)))) : mz_wc (e + 4) 131 [.ref 186, .int card, .int day, .int minute, .int station, .int way] n h Q := by
  refine mz_wc.enter (code := co_X11_tap) (idx := 131) rfl rfl (Nat.le_of_ble_eq_true rfl) rfl rfl ?_
  refine mz_WP.run 80 rfl ?_
  refine mz_WP.cv rfl rfl (Nat.le_of_ble_eq_true rfl) rfl (ho) rfl (m_refusal W ho hg ?_)
  refine mz_WP.run 80 rfl ?_
  refine mz_WP.ifc rfl (fun cc => ?_) (fun cc => ?_)
  · have cc : tapRef g card day minute station way = 0 := cc
    rw [tapR, tapG, if_pos cc, if_pos cc] at H
    obtain ⟨c, d, m, st, wy, hc, rfl, -, -, -, -, -, -, -, -, -, hk⟩ := tapRef_ok cc
    rw [nI_clamp (by omega)] at H
    obtain ⟨k, Wc⟩ := W.1 c hc
    have hk : k < 48 := by
      rw [Wc.k] at hk
      exact hk
    refine mz_WP.run 80 rfl ?_
    rw [mom_eq]
    refine mz_WP.cv rfl rfl (Nat.le_of_ble_eq_true rfl) rfl (ho) rfl (m_add ho hg hc hk Wc.2.1 ?_)
    refine mz_WP.run 80 rfl ?_
    refine mz_WP.getf rfl ((mz_up_n (by omega)).trans ho) rfl (Nat.le_of_ble_eq_true rfl) ?_
    refine mz_WP.run 80 rfl ?_
    refine mz_WP.alN rfl mz_up_s (nI_add _ _) (by omega) (by decide) ?_
    unfold addG
    rw [setG_k]
    exact mz_WP.ret rfl rfl H
  · have cc : ¬ tapRef g card day minute station way = 0 := cc
    rw [tapR, tapG, if_neg cc, if_neg cc, mz_up_id hg] at H
    refine mz_WP.run 80 rfl ?_
    exact mz_WP.ret rfl rfl H
theorem m_untap {card day minute : Int32} (W : WF g) (ho : h 186 = mo r j) (hg : h 187 = .inl (0, 423, g)) (H : Q (some (.int (untapR g card day minute))) n (mz_up h 187 (.inl (0, 423, untapG g card day minute)))) : mz_wc (e + 3) 132 [.ref 186, .int card, .int day, .int minute] n h Q := by
  refine mz_wc.enter (code := co_X11_untap) (idx := 132) rfl rfl (Nat.le_of_ble_eq_true rfl) rfl rfl ?_
  refine mz_WP.run 80 rfl ?_
  refine mz_WP.cs rfl (by decide) rfl (Nat.le_of_ble_eq_true rfl) rfl (m_isCard ?_)
  refine mz_WP.ifc rfl (fun c1 => ?_) (fun c1 => ?_)
  rotate_left
  · have c1 := bI_f (Classical.byContradiction c1)
    rw [untapR, untapG, if_pos c1, if_pos c1, mz_up_id hg] at H
    refine mz_WP.run 80 rfl ?_
    exact mz_WP.ret rfl rfl H
  have c1 := bI_t c1
  have c1f : ¬ inB card (nI 0) (nI 3) = false := by
    rw [c1]
    decide
  rw [untapR, untapG, if_neg c1f, if_neg c1f] at H
  have o2 : (inB day (nI 0) (nI 27) = false ∨ inB minute (nI 0) (nI 1439) = false) → mz_WP (mz_wc (e + 2)) (e + 2) 1 co_X11_untap Q 27 [some (.ref 186), some (.int card), some (.int day), some (.int minute), none] [] n h 0 0 := by
    intro hh
    rw [if_pos hh, if_pos hh, mz_up_id hg] at H
    refine mz_WP.run 80 rfl ?_
    exact mz_WP.ret rfl rfl H
  refine mz_WP.run 80 rfl ?_
  refine mz_WP.cs rfl (by decide) rfl (Nat.le_of_ble_eq_true rfl) rfl (m_isDay ?_)
  refine mz_WP.ifc rfl (fun c2 => ?_) (fun c2 => ?_)
  · exact o2 (Or.inl (bI_f c2))
  have c2 := bI_t c2
  refine mz_WP.run 80 rfl ?_
  refine mz_WP.cs rfl (by decide) rfl (Nat.le_of_ble_eq_true rfl) rfl (m_in ?_)
  refine mz_WP.ifc rfl (fun c3 => ?_) (fun c3 => ?_)
  rotate_left
  · exact o2 (Or.inr (bI_f (Classical.byContradiction c3)))
  have c3 := bI_t c3
  have n2 : ¬ (inB day (nI 0) (nI 27) = false ∨ inB minute (nI 0) (nI 1439) = false) := by
    rw [c2, c3]
    decide
  rw [if_neg n2, if_neg n2] at H
  obtain ⟨c, -, hc, rfl⟩ := inB_of (by decide) (by omega) c1
  have hc : c < 4 := by omega
  obtain ⟨k, Wc⟩ := W.1 c hc
  have hk := Wc.1
  rw [untapF, nI_clamp (by omega), Wc.k] at H
  refine mz_WP.run 80 rfl ?_
  rw [mom_eq]
  refine mz_WP.cv rfl rfl (Nat.le_of_ble_eq_true rfl) rfl (ho) rfl (m_tapAt ho hg hc hk Wc.2.1 ?_)
  refine mz_WP.run 80 rfl ?_
  cases hf : fnd (gm g c) (momG day minute) k with
  | none =>
    rw [hf] at H
    have H : Q (some (.int U5)) n (mz_up h 187 (.inl (0, 423, g))) := H
    rw [mz_up_id hg] at H
    refine mz_WP.ifc rfl (fun c4 => ?_) (fun c4 => ?_)
    · exact absurd ((fndI_neg hk).mpr hf) (Int32.not_lt.mpr c4)
    · refine mz_WP.run 80 rfl ?_
      exact mz_WP.ret rfl rfl H
  | some p =>
    rw [hf] at H
    have H : Q (some (.int (nI (k - 1)))) n (mz_up h 187 (.inl (0, 423, rmG g c p))) := H
    have hI : fndI (gm g c) (momG day minute) k = nI p := by
      unfold fndI
      rw [hf]
    have hp := (fnd_lt hf).1
    rw [hI]
    refine mz_WP.ifc rfl (fun c4 => ?_) (fun c4 => ?_)
    · refine mz_WP.run 80 rfl ?_
      refine mz_WP.cv rfl rfl (Nat.le_of_ble_eq_true rfl) rfl (ho) rfl (m_remove ho hg hc hk hp Wc.2.1 ?_)
      refine mz_WP.run 80 rfl ?_
      refine mz_WP.getf rfl ((mz_up_n (by omega)).trans ho) rfl (Nat.le_of_ble_eq_true rfl) ?_
      refine mz_WP.run 80 rfl ?_
      refine mz_WP.alN rfl mz_up_s (nI_add _ _) (by omega) (by decide) ?_
      unfold rmG
      rw [setG_k, Wc.k]
      unfold rmG at H
      rw [Wc.k] at H
      exact mz_WP.ret rfl rfl H
    · exact absurd (nI_pos' (by omega)) c4
theorem m_told {card i what : Int32} (W : WF g) (ho : h 186 = mo r j) (hg : h 187 = .inl (0, 423, g)) (H : Q (some (.int (toldR g card i what))) n h) : mz_wc (e + 3) 133 [.ref 186, .int card, .int i, .int what] n h Q := by
  refine mz_wc.enter (code := co_X11_told) (idx := 133) rfl rfl (Nat.le_of_ble_eq_true rfl) rfl rfl ?_
  refine mz_WP.run 80 rfl ?_
  refine mz_WP.cs rfl (by decide) rfl (Nat.le_of_ble_eq_true rfl) rfl (m_isCard ?_)
  refine mz_WP.ifc rfl (fun c1 => ?_) (fun c1 => ?_)
  rotate_left
  · have c1 := bI_f (Classical.byContradiction c1)
    rw [toldR, if_pos c1] at H
    refine mz_WP.run 80 rfl ?_
    exact mz_WP.ret rfl rfl H
  have c1 := bI_t c1
  have c1f : ¬ inB card (nI 0) (nI 3) = false := by
    rw [c1]
    decide
  rw [toldR, if_neg c1f] at H
  refine mz_WP.run 80 rfl ?_
  refine mz_WP.cs rfl (by decide) rfl (Nat.le_of_ble_eq_true rfl) rfl (m_in ?_)
  refine mz_WP.ifc rfl (fun c2 => ?_) (fun c2 => ?_)
  rotate_left
  · have c2 := bI_f (Classical.byContradiction c2)
    rw [if_pos c2] at H
    refine mz_WP.run 80 rfl ?_
    exact mz_WP.ret rfl rfl H
  have c2 := bI_t c2
  have c2f : ¬ inB what (nI 0) (nI 3) = false := by
    rw [c2]
    decide
  rw [if_neg c2f] at H
  obtain ⟨c, -, hc, rfl⟩ := inB_of (by decide) (by omega) c1
  have hc : c < 4 := by omega
  obtain ⟨k, Wc⟩ := W.1 c hc
  have hk := Wc.1
  rw [nI_clamp (by omega), Wc.2.1] at H
  refine mz_WP.run 80 rfl ?_
  refine mz_WP.getf rfl (ho) rfl (Nat.le_of_ble_eq_true rfl) ?_
  refine mz_WP.run 80 rfl ?_
  refine mz_WP.alN rfl hg (nI_add _ _) (by omega) (by decide) ?_
  rw [Wc.2.1]
  refine mz_WP.run 80 rfl ?_
  have hcond : (inB i (nI 0) (nI k - nI 1) = false) ↔ (i < 0 ∨ nI k ≤ i) := by
    unfold inB
    have e0 : nI 0 = 0 := nI_0
    rw [e0]
    by_cases h0 : i < 0
    · rw [decide_eq_true h0]
      exact ⟨fun _ => Or.inl h0, fun _ => rfl⟩
    · rw [decide_eq_false h0]
      obtain ⟨q, hq, rfl⟩ := nI_of h0
      have hlt : (nI k - nI 1 < nI q) ↔ nI k ≤ nI q := by
        cases k with
        | zero =>
          rw [nI_leI (by omega) hq]
          refine ⟨fun _ => by omega, fun _ => ?_⟩
          have e1 : nI 0 - nI 1 < nI 0 := by decide
          exact Int32.lt_of_lt_of_le e1 (nI_le (by omega) hq)
        | succ k =>
          rw [pk_sub (by omega), nI_leI (by omega) hq, nI_ltI (by omega) hq]
          omega
      by_cases h1 : nI k ≤ nI q
      · rw [decide_eq_true (hlt.mpr h1)]
        exact ⟨fun _ => Or.inr h1, fun _ => rfl⟩
      · rw [decide_eq_false (fun z => h1 (hlt.mp z))]
        exact ⟨fun z => (by cases z), fun z => (Or.elim z (fun z => absurd z h0) (fun z => absurd z h1))⟩
  refine mz_WP.cs rfl (by decide) rfl (Nat.le_of_ble_eq_true rfl) rfl (m_in ?_)
  refine mz_WP.ifc rfl (fun c3 => ?_) (fun c3 => ?_)
  rotate_left
  · have c3 := bI_f (Classical.byContradiction c3)
    rw [if_pos (hcond.mp c3)] at H
    refine mz_WP.run 80 rfl ?_
    exact mz_WP.ret rfl rfl H
  have c3 := bI_t c3
  have c3f : ¬ (i < 0 ∨ nI k ≤ i) := fun z => by
    rw [hcond.mpr z] at c3
    cases c3
  rw [if_neg c3f] at H
  obtain ⟨q, hq, rfl⟩ := nI_of (fun z => c3f (Or.inl z))
  have hqk : q < k := by
    have h9 : ¬ nI k ≤ nI q := fun z => c3f (Or.inr z)
    rw [nI_leI (by omega) hq] at h9
    omega
  rw [nI_clamp hq] at H
  have hq8 : q < 48 := by omega
  unfold toldW at H
  refine mz_WP.run 80 rfl ?_
  refine mz_WP.ifc rfl (fun c4 => ?_) (fun c4 => ?_)
  · have c4 : ¬ what = nI 0 := c4
    rw [if_neg c4] at H
    refine mz_WP.run 80 rfl ?_
    refine mz_WP.icmp rfl (fun c5 => ?_) (fun c5 => ?_)
    · have c5 : ¬ what = nI 1 := c5
      rw [if_neg c5] at H
      refine mz_WP.run 80 rfl ?_
      refine mz_WP.icmp rfl (fun c6 => ?_) (fun c6 => ?_)
      · have c6 : ¬ what = nI 2 := c6
        rw [if_neg c6] at H
        refine mz_WP.run 80 rfl ?_
        refine mz_WP.cv rfl rfl (Nat.le_of_ble_eq_true rfl) rfl (ho) rfl (m_isIn ho hg hc hq8 ?_)
        obtain ⟨a, b, ha, hb, hw⟩ := Wc.2.2.2.1 q hqk
        have hy : gY g c q = nI b := by
          unfold gY
          rw [hw, (gsy ha hb).2]
        rw [hy] at H ⊢
        match b, hb with
        | 0, _ =>
          refine mz_WP.ifc rfl (fun c7 => ?_) (fun c7 => ?_)
          · exact absurd c7 (by show ¬ bI (decide (nI 0 = 0)) = 0; decide)
          · refine mz_WP.run 80 rfl ?_
            refine mz_WP.run 80 rfl ?_
            exact mz_WP.ret rfl rfl H
        | 1, _ =>
          refine mz_WP.ifc rfl (fun c7 => ?_) (fun c7 => ?_)
          · refine mz_WP.run 80 rfl ?_
            exact mz_WP.ret rfl rfl H
          · exact absurd (by show bI (decide (nI 1 = 0)) = 0; decide) c7
      · have c6 : what = nI 2 := Classical.byContradiction c6
        rw [if_pos c6] at H
        refine mz_WP.run 80 rfl ?_
        refine mz_WP.cv rfl rfl (Nat.le_of_ble_eq_true rfl) rfl (ho) rfl (m_sta ho hg hc hq8 ?_)
        refine mz_WP.run 80 rfl ?_
        exact mz_WP.ret rfl rfl H
    · have c5 : what = nI 1 := Classical.byContradiction c5
      rw [if_pos c5] at H
      refine mz_WP.run 80 rfl ?_
      refine mz_WP.cv rfl rfl (Nat.le_of_ble_eq_true rfl) rfl (ho) rfl (m_when ho hg hc hq8 ?_)
      refine mz_WP.run 80 rfl ?_
      refine mz_WP.rem rfl (by decide) ?_
      refine mz_WP.run 80 rfl ?_
      exact mz_WP.ret rfl rfl H
  · have c4 : what = nI 0 := Classical.byContradiction c4
    rw [if_pos c4] at H
    refine mz_WP.run 80 rfl ?_
    refine mz_WP.cv rfl rfl (Nat.le_of_ble_eq_true rfl) rfl (ho) rfl (m_when ho hg hc hq8 ?_)
    refine mz_WP.run 80 rfl ?_
    refine mz_WP.div rfl (by decide) ?_
    refine mz_WP.run 80 rfl ?_
    exact mz_WP.ret rfl rfl H
end MT2
end
section
/-! the reference: rides -/
theorem tk {α : Type} : ∀ {l : List α} {i : Nat} {r : α}, l[i]? = some r → l.take (i + 1) = l.take i ++ [r]
  | [], i, r, h => by cases h
  | a :: l, 0, r, h => by cases h; rfl
  | a :: l, i + 1, r, h => congrArg (a :: ·) (tk (l := l) (i := i) h)
theorem geti {α : Type} {l : List α} {i : Nat} (h : i < l.length) : ∃ r, l[i]? = some r := ⟨_, List.getElem?_eq_getElem h⟩
def stP (x : Int32) : Prop := x = NN ∨ ∃ a, a < 8 ∧ x = nI a
theorem stP.neg {x : Int32} (h : stP x) : x < 0 ↔ x = NN := by
  rcases h with rfl | ⟨a, ha, rfl⟩
  · exact ⟨fun _ => rfl, fun _ => (by decide : NN < 0)⟩
  · refine ⟨fun z => absurd z (nI_pos (by omega)), fun z => ?_⟩
    have : ∀ a, a < 8 → ¬ nI a = NN := by decide
    exact absurd z (this a ha)
def RP (r : Rde) : Prop := stP r.2.1 ∧ stP r.2.2.1 ∧ (r.1 = 0 → r.2.2.2.1 / nI 1440 = r.2.2.2.2 / nI 1440)
theorem lastE_P {l : List Rde} (h : ∀ r ∈ l, RP r) (x : Int32) : stP (lastE l x) := by
  unfold lastE
  have gen : ∀ (l : List Rde) (a : Int32), (∀ r ∈ l, RP r) → stP a → stP (l.foldl (fun a r => if r.1 = 0 ∧ r.2.1 = x then r.2.2.1 else a) a) := by
    intro l
    induction l with
    | nil => exact fun a _ ha => ha
    | cons r l ih =>
      intro a hl ha
      refine ih _ (fun q hq => hl q (List.mem_cons_of_mem _ hq)) ?_
      dsimp only
      by_cases hh : r.1 = 0 ∧ r.2.1 = x
      · rw [if_pos hh]
        exact (hl r List.mem_cons_self).2.1
      · rw [if_neg hh]
        exact ha
  exact gen l NN h (Or.inl rfl)
theorem lastB_P {l : List Rde} (h : ∀ r ∈ l, RP r) (x : Int32) : stP (lastB l x) := by
  unfold lastB
  have gen : ∀ (l : List Rde) (a : Int32), (∀ r ∈ l, RP r) → stP a → stP (l.foldl (fun a r => if r.1 = 0 ∧ r.2.2.1 = x then r.2.1 else a) a) := by
    intro l
    induction l with
    | nil => exact fun a _ ha => ha
    | cons r l ih =>
      intro a hl ha
      refine ih _ (fun q hq => hl q (List.mem_cons_of_mem _ hq)) ?_
      dsimp only
      by_cases hh : r.1 = 0 ∧ r.2.2.1 = x
      · rw [if_pos hh]
        exact (hl r List.mem_cons_self).1
      · rw [if_neg hh]
        exact ha
  exact gen l NN h (Or.inl rfl)
theorem rl_RP {k : Nat} {m s w : Nat → Int32} (hs : ∀ j, j < k → ∃ a, a < 8 ∧ s j = nI a) : ∀ i, i ≤ k → ∀ r ∈ rl k m s w i, RP r
  | 0, _, r, hr => by cases hr
  | i + 1, hi, r, hr => by
    have ih := rl_RP (m := m) (w := w) hs i (by omega)
    unfold rl at hr
    split at hr
    · exact ih r hr
    · rcases List.mem_append.mp hr with hr | hr
      · exact ih r hr
      · have hr : r = rideOf k m s w (rl k m s w i) i := List.mem_singleton.mp hr
        subst hr
        unfold rideOf
        by_cases hb : wholeB k m w i = true
        · rw [if_pos hb]
          obtain ⟨h1, -, -, h4⟩ := wholeB_iff.mp hb
          exact ⟨Or.inr (hs i (by omega)), Or.inr (hs (i + 1) h1), fun _ => h4⟩
        · rw [if_neg hb]
          by_cases hw : w i = 0
          · rw [if_pos hw]
            exact ⟨Or.inr (hs i (by omega)), lastE_P ih _, fun _ => rfl⟩
          · rw [if_neg hw]
            exact ⟨lastB_P ih _, Or.inr (hs i (by omega)), fun _ => rfl⟩
section MR
variable {e n : Nat} {h : mz_H} {Q : mz_Q} {g : Nat → Int32} {r j : Int32} {kd st sp bg en lm : Nat → Int32}
theorem m_mendE {l : List Rde} {x : Int32} (ho : h 186 = mo (nI l.length) j) (hk : h 190 = .inl (0, 48, kd)) (h1 : h 191 = .inl (0, 48, st)) (h2 : h 192 = .inl (0, 48, sp)) (hl : l.length ≤ 48) (R : RepA l st sp bg en kd) (H : Q (some (.int (lastE l x))) n h) : mz_wc (e + 1) 134 [.ref 186, .int (nI 1), .int x] n h Q := by
  refine mz_wc.enter (code := co_X11_mended) (idx := 134) rfl rfl (Nat.le_of_ble_eq_true rfl) rfl rfl ?_
  refine mz_WP.run 4 rfl ?_
  have loop : ∀ q i, i + q = l.length → mz_WP (mz_wc e) e 1 co_X11_mended Q 6 [some (.ref 186), some (.int (nI 1)), some (.int x), some (.int (lastE (l.take i) x)), some (.int (nI i))] [] n h 0 0 := by
    intro q
    induction q with
    | zero =>
      intro i hi
      have hi : i = l.length := by omega
      subst hi
      refine mz_WP.run 80 rfl ?_
      refine mz_WP.getf rfl (ho) rfl (Nat.le_of_ble_eq_true rfl) ?_
      refine mz_WP.icmp rfl (fun cc => ?_) (fun cc => ?_)
      · rw [List.take_length]
        refine mz_WP.run 80 rfl ?_
        exact mz_WP.ret rfl rfl H
      · exact absurd (nI_le (Nat.le_refl _) (by omega)) cc
    | succ q ih =>
      intro i hi
      refine mz_WP.run 80 rfl ?_
      refine mz_WP.getf rfl (ho) rfl (Nat.le_of_ble_eq_true rfl) ?_
      refine mz_WP.icmp rfl (fun cc => ?_) (fun cc => ?_)
      · exact absurd cc (nI_ge (by omega) (by omega))
      obtain ⟨p, hp⟩ := geti (show i < l.length by omega)
      obtain ⟨a1, a2, a3, -, -⟩ := R i p hp
      have nx := ih (i + 1) (by omega)
      rw [nI_succ i, tk hp, lastE_app] at nx
      refine mz_WP.run 80 rfl ?_
      refine mz_WP.getf rfl (ho) rfl (Nat.le_of_ble_eq_true rfl) ?_
      refine mz_WP.run 80 rfl ?_
      refine mz_WP.alN rfl hk rfl (by omega) (by decide) ?_
      rw [a1]
      refine mz_WP.ifc rfl (fun c1 => ?_) (fun c1 => ?_)
      · have c1 : ¬ p.1 = 0 := c1
        rw [if_neg (fun z => c1 z.1)] at nx
        refine mz_WP.run 80 rfl ?_
        exact nx
      · have c1 : p.1 = 0 := Classical.byContradiction c1
        refine mz_WP.run 80 rfl ?_
        refine mz_WP.ifc rfl (fun c2 => ?_) (fun c2 => ?_)
        · exact absurd c2 (by show ¬ nI 1 = 0; decide)
        · refine mz_WP.run 80 rfl ?_
          refine mz_WP.getf rfl (ho) rfl (Nat.le_of_ble_eq_true rfl) ?_
          refine mz_WP.run 80 rfl ?_
          refine mz_WP.alN rfl h1 rfl (by omega) (by decide) ?_
          rw [a2]
          refine mz_WP.run 80 rfl ?_
          refine mz_WP.run 80 rfl ?_
          refine mz_WP.icmp rfl (fun c3 => ?_) (fun c3 => ?_)
          · have c3 : ¬ p.2.1 = x := c3
            rw [if_neg (fun z => c3 z.2)] at nx
            refine mz_WP.run 80 rfl ?_
            exact nx
          · have c3 : p.2.1 = x := Classical.byContradiction c3
            rw [if_pos ⟨c1, c3⟩] at nx
            refine mz_WP.run 80 rfl ?_
            refine mz_WP.ifc rfl (fun c4 => ?_) (fun c4 => ?_)
            · exact absurd c4 (by show ¬ nI 1 = 0; decide)
            · refine mz_WP.run 80 rfl ?_
              refine mz_WP.getf rfl (ho) rfl (Nat.le_of_ble_eq_true rfl) ?_
              refine mz_WP.run 80 rfl ?_
              refine mz_WP.alN rfl h2 rfl (by omega) (by decide) ?_
              rw [a3]
              refine mz_WP.run 80 rfl ?_
              refine mz_WP.run 80 rfl ?_
              exact nx
  exact loop l.length 0 (by omega)
theorem m_mendB {l : List Rde} {x : Int32} (ho : h 186 = mo (nI l.length) j) (hk : h 190 = .inl (0, 48, kd)) (h1 : h 191 = .inl (0, 48, st)) (h2 : h 192 = .inl (0, 48, sp)) (hl : l.length ≤ 48) (R : RepA l st sp bg en kd) (H : Q (some (.int (lastB l x))) n h) : mz_wc (e + 1) 134 [.ref 186, .int (nI 0), .int x] n h Q := by
  refine mz_wc.enter (code := co_X11_mended) (idx := 134) rfl rfl (Nat.le_of_ble_eq_true rfl) rfl rfl ?_
  refine mz_WP.run 4 rfl ?_
  have loop : ∀ q i, i + q = l.length → mz_WP (mz_wc e) e 1 co_X11_mended Q 6 [some (.ref 186), some (.int (nI 0)), some (.int x), some (.int (lastB (l.take i) x)), some (.int (nI i))] [] n h 0 0 := by
    intro q
    induction q with
    | zero =>
      intro i hi
      have hi : i = l.length := by omega
      subst hi
      refine mz_WP.run 80 rfl ?_
      refine mz_WP.getf rfl (ho) rfl (Nat.le_of_ble_eq_true rfl) ?_
      refine mz_WP.icmp rfl (fun cc => ?_) (fun cc => ?_)
      · rw [List.take_length]
        refine mz_WP.run 80 rfl ?_
        exact mz_WP.ret rfl rfl H
      · exact absurd (nI_le (Nat.le_refl _) (by omega)) cc
    | succ q ih =>
      intro i hi
      refine mz_WP.run 80 rfl ?_
      refine mz_WP.getf rfl (ho) rfl (Nat.le_of_ble_eq_true rfl) ?_
      refine mz_WP.icmp rfl (fun cc => ?_) (fun cc => ?_)
      · exact absurd cc (nI_ge (by omega) (by omega))
      obtain ⟨p, hp⟩ := geti (show i < l.length by omega)
      obtain ⟨a1, a2, a3, -, -⟩ := R i p hp
      have nx := ih (i + 1) (by omega)
      rw [nI_succ i, tk hp, lastB_app] at nx
      refine mz_WP.run 80 rfl ?_
      refine mz_WP.getf rfl (ho) rfl (Nat.le_of_ble_eq_true rfl) ?_
      refine mz_WP.run 80 rfl ?_
      refine mz_WP.alN rfl hk rfl (by omega) (by decide) ?_
      rw [a1]
      refine mz_WP.ifc rfl (fun c1 => ?_) (fun c1 => ?_)
      · have c1 : ¬ p.1 = 0 := c1
        rw [if_neg (fun z => c1 z.1)] at nx
        refine mz_WP.run 80 rfl ?_
        exact nx
      · have c1 : p.1 = 0 := Classical.byContradiction c1
        refine mz_WP.run 80 rfl ?_
        refine mz_WP.ifc rfl (fun c2 => ?_) (fun c2 => ?_)
        · refine mz_WP.run 80 rfl ?_
          refine mz_WP.getf rfl (ho) rfl (Nat.le_of_ble_eq_true rfl) ?_
          refine mz_WP.run 80 rfl ?_
          refine mz_WP.alN rfl h2 rfl (by omega) (by decide) ?_
          rw [a3]
          refine mz_WP.run 80 rfl ?_
          refine mz_WP.icmp rfl (fun c3 => ?_) (fun c3 => ?_)
          · have c3 : ¬ p.2.2.1 = x := c3
            rw [if_neg (fun z => c3 z.2)] at nx
            refine mz_WP.run 80 rfl ?_
            exact nx
          · have c3 : p.2.2.1 = x := Classical.byContradiction c3
            rw [if_pos ⟨c1, c3⟩] at nx
            refine mz_WP.run 80 rfl ?_
            refine mz_WP.ifc rfl (fun c4 => ?_) (fun c4 => ?_)
            · refine mz_WP.run 80 rfl ?_
              refine mz_WP.getf rfl (ho) rfl (Nat.le_of_ble_eq_true rfl) ?_
              refine mz_WP.run 80 rfl ?_
              refine mz_WP.alN rfl h1 rfl (by omega) (by decide) ?_
              rw [a2]
              refine mz_WP.run 80 rfl ?_
              exact nx
            · exact absurd (by show nI 0 = 0; decide) c4
        · exact absurd (by show nI 0 = 0; decide) c2
  exact loop l.length 0 (by omega)
def LmP (l : List Rde) (lm : Nat → Int32) : Prop := ∀ i r, l[i]? = some r → lm i = bI (lameB r.2.1 r.2.2.1)
theorem LmP.app {l : List Rde} (R : LmP l lm) {c : Nat} (hc : l.length = c) (p : Rde) : LmP (l ++ [p]) (upd lm c (bI (lameB p.2.1 p.2.2.1))) := by
  intro i q hq
  by_cases hj : i < l.length
  · rw [List.getElem?_append_left hj] at hq
    rw [updN (by omega)]
    exact R i q hq
  · rw [List.getElem?_append_right (by omega)] at hq
    have hz : i - l.length < 1 := (List.getElem?_eq_some_iff.mp hq).1
    have hjc : i = c := by omega
    rw [show i - l.length = 0 by omega] at hq
    cases hq
    subst hjc
    rw [updS]
theorem m_addRide {k : Nat} {a b c f d : Int32} (hk : k < 48) (hb : stP b) (hc : stP c) (H : Q none n (mrH h (nI (k + 1)) j (upd kd k a) (upd st k b) (upd sp k c) (upd bg k f) (upd en k d) (upd lm k (bI (lameB b c))))) : mz_wc (e + 1) 135 [.ref 186, .int a, .int b, .int c, .int f, .int d] n (mrH h (nI k) j kd st sp bg en lm) Q := by
  refine mz_wc.enter (code := co_X11_addRide) (idx := 135) rfl rfl (Nat.le_of_ble_eq_true rfl) rfl rfl ?_
  refine mz_WP.run 80 rfl ?_
  refine mz_WP.getf rfl (rfl) rfl (Nat.le_of_ble_eq_true rfl) ?_
  refine mz_WP.run 80 rfl ?_
  refine mz_WP.getf rfl (rfl) rfl (Nat.le_of_ble_eq_true rfl) ?_
  refine mz_WP.run 80 rfl ?_
  refine mz_WP.asN rfl rfl (by omega) rfl hk (by decide) ?_
  rw [mr_u1]
  refine mz_WP.run 80 rfl ?_
  refine mz_WP.getf rfl (rfl) rfl (Nat.le_of_ble_eq_true rfl) ?_
  refine mz_WP.run 80 rfl ?_
  refine mz_WP.getf rfl (rfl) rfl (Nat.le_of_ble_eq_true rfl) ?_
  refine mz_WP.run 80 rfl ?_
  refine mz_WP.asN rfl rfl (by omega) rfl hk (by decide) ?_
  rw [mr_u2]
  refine mz_WP.run 80 rfl ?_
  refine mz_WP.getf rfl (rfl) rfl (Nat.le_of_ble_eq_true rfl) ?_
  refine mz_WP.run 80 rfl ?_
  refine mz_WP.getf rfl (rfl) rfl (Nat.le_of_ble_eq_true rfl) ?_
  refine mz_WP.run 80 rfl ?_
  refine mz_WP.asN rfl rfl (by omega) rfl hk (by decide) ?_
  rw [mr_u3]
  refine mz_WP.run 80 rfl ?_
  refine mz_WP.getf rfl (rfl) rfl (Nat.le_of_ble_eq_true rfl) ?_
  refine mz_WP.run 80 rfl ?_
  refine mz_WP.getf rfl (rfl) rfl (Nat.le_of_ble_eq_true rfl) ?_
  refine mz_WP.run 80 rfl ?_
  refine mz_WP.asN rfl rfl (by omega) rfl hk (by decide) ?_
  rw [mr_u4]
  refine mz_WP.run 80 rfl ?_
  refine mz_WP.getf rfl (rfl) rfl (Nat.le_of_ble_eq_true rfl) ?_
  refine mz_WP.run 80 rfl ?_
  refine mz_WP.getf rfl (rfl) rfl (Nat.le_of_ble_eq_true rfl) ?_
  refine mz_WP.run 80 rfl ?_
  refine mz_WP.asN rfl rfl (by omega) rfl hk (by decide) ?_
  rw [mr_u5]
  refine mz_WP.run 80 rfl ?_
  refine mz_WP.getf rfl (rfl) rfl (Nat.le_of_ble_eq_true rfl) ?_
  refine mz_WP.run 80 rfl ?_
  refine mz_WP.getf rfl (rfl) rfl (Nat.le_of_ble_eq_true rfl) ?_
  refine mz_WP.run 80 rfl ?_
  have fin : ∀ t : Bool, lameB b c = t → mz_WP (mz_wc e) e 0 co_X11_addRide Q 73 [some (.ref 186), some (.int a), some (.int b), some (.int c), some (.int f), some (.int d)] [.int (bI t), .int (nI k), .ref 195] n (mrH h (nI k) j (upd kd k a) (upd st k b) (upd sp k c) (upd bg k f) (upd en k d) lm) 0 0 := by
    intro t ht
    refine mz_WP.bsN t rfl rfl (by omega) rfl hk (by decide) rfl ?_
    rw [mr_u6, ← ht]
    refine mz_WP.run 80 rfl ?_
    refine mz_WP.getf rfl (rfl) rfl (Nat.le_of_ble_eq_true rfl) ?_
    refine mz_WP.run 80 rfl ?_
    rw [nI_add]
    refine mz_WP.putf rfl (rfl) (Nat.le_of_ble_eq_true rfl) (Nat.le_of_ble_eq_true rfl) rfl ?_
    refine mz_WP.vret rfl rfl ?_
    rw [← mr_u0] at H
    exact H
  refine mz_WP.ifc rfl (fun c1 => ?_) (fun c1 => ?_)
  · have c1 : b = NN := hb.neg.mp c1
    refine mz_WP.run 80 rfl ?_
    refine mz_WP.run 80 rfl ?_
    exact fin true (by unfold lameB; rw [decide_eq_true c1]; rfl)
  · have c1 : ¬ b = NN := fun z => c1 (hb.neg.mpr z)
    refine mz_WP.run 80 rfl ?_
    refine mz_WP.ifc rfl (fun c2 => ?_) (fun c2 => ?_)
    · have c2 : ¬ c = NN := fun z => absurd (hc.neg.mpr z) (Int32.not_lt.mpr c2)
      refine mz_WP.run 80 rfl ?_
      exact fin false (by unfold lameB; rw [decide_eq_false c1, decide_eq_false c2]; rfl)
    · have c2 : c = NN := hc.neg.mp (Int32.not_le.mp c2)
      refine mz_WP.run 80 rfl ?_
      refine mz_WP.run 80 rfl ?_
      exact fin true (by unfold lameB; rw [decide_eq_true c2, Bool.or_true])
end MR
end
section
/-! the reference: rides laid -/
theorem nI1 : nI 1 = 1 := by decide
theorem nI2 : nI 2 = 2 := by decide
section PR
variable {k i : Nat} {m s w : Nat → Int32}
theorem rl_s (hb : behind k m w i = false) : rl k m s w (i + 1) = rl k m s w i ++ [rideOf k m s w (rl k m s w i) i] := if_neg (fun z => by rw [hb] at z; cases z.2)
theorem wholeB_n (hw : ¬ w i = 0) : wholeB k m w i = false := by
  cases hb : wholeB k m w i with
  | false => rfl
  | true => exact absurd (wholeB_iff.mp hb).2.1 hw
theorem rl_out (hb : behind k m w i = false) (hw : ¬ w i = 0) : rl k m s w (i + 1) = rl k m s w i ++ [(nI 2, lastB (rl k m s w i) (s i), s i, m i, m i)] := by
  rw [rl_s hb, nI2]
  unfold rideOf
  rw [wholeB_n hw, if_neg (by decide), if_neg hw]
theorem rl_in (hb : behind k m w i = false) (hn : wholeB k m w i = false) (hw : w i = 0) : rl k m s w (i + 1) = rl k m s w i ++ [(nI 1, s i, lastE (rl k m s w i) (s i), m i, m i)] := by
  rw [rl_s hb, nI1]
  unfold rideOf
  rw [hn, if_neg (by decide), if_pos hw]
theorem rl_wh (hb : behind k m w i = false) (hn : wholeB k m w i = true) : rl k m s w (i + 1 + 1) = rl k m s w i ++ [(nI 0, s i, s (i + 1), m i, m (i + 1))] ∧ behind k m w (i + 1 + 1) = false := by
  have hw : ¬ w (i + 1) = 0 := by
    rw [(wholeB_iff.mp hn).2.2.1]
    decide
  refine ⟨?_, wholeB_n hw⟩
  have e1 : rl k m s w (i + 1 + 1) = rl k m s w (i + 1) := if_pos ⟨wholeB_n hw, hn⟩
  rw [e1, rl_s hb, nI_0]
  unfold rideOf
  rw [if_pos hn]
end PR
section MR2
variable {e n : Nat} {h : mz_H} {Q : mz_Q} {g : Nat → Int32} {r j : Int32} {kd st sp bg en lm : Nat → Int32}
theorem m_layRides {c k : Nat} (Wc : WFc g c k) (hc : c < 4) (hg : h 187 = .inl (0, 423, g)) (H : ∀ kd st sp bg en lm, RepA (gL g c k) st sp bg en kd → LmP (gL g c k) lm → Q none n (mrH h (nI (gL g c k).length) j kd st sp bg en lm)) : mz_wc (e + 2) 136 [.ref 186, .int (nI c)] n (mrH h r j kd st sp bg en lm) Q := by
  have hk := Wc.1
  have hs : ∀ q, q < k → ∃ a, a < 8 ∧ gS g c q = nI a := fun q hq => by
    obtain ⟨a, b, ha, hb, hw⟩ := Wc.2.2.2.1 q hq
    refine ⟨a, ha, ?_⟩
    unfold gS
    rw [hw, (gsy ha hb).1]
  have hy : ∀ q, q < k → ¬ gY g c q = 0 → gY g c q = 1 := fun q hq hz => by
    obtain ⟨a, b, ha, hb, hw⟩ := Wc.2.2.2.1 q hq
    have hy : gY g c q = nI b := by
      unfold gY
      rw [hw, (gsy ha hb).2]
    rw [hy] at hz ⊢
    match b, hb with
    | 0, _ => exact absurd nI_0 hz
    | 1, _ => exact nI1
  have hg' : ∀ {r j kd st sp bg en lm}, mrH h r j kd st sp bg en lm 187 = .inl (0, 423, g) := fun {r j kd st sp bg en lm} => (mr_lt (by omega)).trans hg
  refine mz_wc.enter (code := co_X11_layRides) (idx := 136) rfl rfl (Nat.le_of_ble_eq_true rfl) rfl rfl ?_
  refine mz_WP.run 80 rfl ?_
  refine mz_WP.putf rfl (rfl) (Nat.le_of_ble_eq_true rfl) (Nat.le_of_ble_eq_true rfl) rfl ?_
  show mz_WP _ _ _ _ _ _ _ _ _ (mz_up (mrH h r j kd st sp bg en lm) 186 (mo (nI 0) j)) _ _
  rw [mr_u0]
  refine mz_WP.run 2 rfl ?_
  have loop : ∀ q i x3 x4 kd st sp bg en lm, k - i ≤ q → i ≤ k → behind k (gm g c) (gY g c) i = false → RepA (rl k (gm g c) (gS g c) (gY g c) i) st sp bg en kd → LmP (rl k (gm g c) (gS g c) (gY g c) i) lm → mz_WP (mz_wc (e + 1)) (e + 1) 0 co_X11_layRides Q 7 [some (.ref 186), some (.int (nI c)), some (.int (nI i)), x3, x4] [] n (mrH h (nI (rl k (gm g c) (gS g c) (gY g c) i).length) j kd st sp bg en lm) 0 0 := by
    intro q
    induction q with
    | zero =>
      intro i x3 x4 kd st sp bg en lm hq hi hb R M
      have hi : i = k := by omega
      subst hi
      refine mz_WP.run 80 rfl ?_
      refine mz_WP.getf rfl (rfl) rfl (Nat.le_of_ble_eq_true rfl) ?_
      refine mz_WP.run 80 rfl ?_
      refine mz_WP.alN rfl hg' (nI_add _ _) (by omega) (by decide) ?_
      rw [Wc.2.1]
      refine mz_WP.icmp rfl (fun cc => ?_) (fun cc => ?_)
      · exact mz_WP.vret rfl rfl (H _ _ _ _ _ _ R M)
      · exact absurd (nI_le (Nat.le_refl _) (by omega)) cc
    | succ q ih =>
      intro i x3 x4 kd st sp bg en lm hq hi hb R M
      have hlen := rl_len k (gm g c) (gS g c) (gY g c) i
      refine mz_WP.run 80 rfl ?_
      refine mz_WP.getf rfl (rfl) rfl (Nat.le_of_ble_eq_true rfl) ?_
      refine mz_WP.run 80 rfl ?_
      refine mz_WP.alN rfl hg' (nI_add _ _) (by omega) (by decide) ?_
      rw [Wc.2.1]
      refine mz_WP.icmp rfl (fun cc => ?_) (fun cc => ?_)
      · have cc : nI k ≤ nI i := cc
        rw [nI_leI (by omega) (by omega)] at cc
        have hi : i = k := by omega
        subst hi
        exact mz_WP.vret rfl rfl (H _ _ _ _ _ _ R M)
      have cc : ¬ nI k ≤ nI i := cc
      rw [nI_leI (by omega) (by omega)] at cc
      have hik : i < k := by omega
      have RPs := rl_RP (m := gm g c) (w := gY g c) hs i hi
      refine mz_WP.run 80 rfl ?_
      refine mz_WP.cv rfl rfl (Nat.le_of_ble_eq_true rfl) rfl (rfl) rfl (m_when rfl hg' hc (by omega) ?_)
      refine mz_WP.run 80 rfl ?_
      refine mz_WP.cv rfl rfl (Nat.le_of_ble_eq_true rfl) rfl (rfl) rfl (m_sta rfl hg' hc (by omega) ?_)
      refine mz_WP.run 80 rfl ?_
      refine mz_WP.cv rfl rfl (Nat.le_of_ble_eq_true rfl) rfl (rfl) rfl (m_isIn rfl hg' hc (by omega) ?_)
      refine mz_WP.ifc rfl (fun c1 => ?_) (fun c1 => ?_)
      rotate_left
      · have c1 := of_decide_eq_false (bI_f (Classical.byContradiction c1))
        have e1 := rl_out (s := gS g c) hb c1
        refine mz_WP.run 80 rfl ?_
        refine mz_WP.cv rfl rfl (Nat.le_of_ble_eq_true rfl) rfl (rfl) rfl (m_mendB rfl rfl rfl rfl (by omega) R ?_)
        refine mz_WP.run 80 rfl ?_
        refine mz_WP.cv rfl rfl (Nat.le_of_ble_eq_true rfl) rfl (rfl) rfl (m_addRide (by omega) (lastB_P RPs _) (Or.inr (hs i hik)) ?_)
        refine mz_WP.run 80 rfl ?_
        refine mz_WP.run 80 rfl ?_
        have nx := ih (i + 1) (some (.int (gm g c i))) (some (.int (gS g c i))) _ _ _ _ _ _ (by omega) (by omega) (wholeB_n c1) (by rw [e1]; exact R.app rfl (nI 2, lastB (rl k (gm g c) (gS g c) (gY g c) i) (gS g c i), gS g c i, gm g c i, gm g c i)) (by rw [e1]; exact M.app rfl _)
        rw [e1, List.length_append, List.length_singleton, nI_succ i] at nx
        exact nx
      have c1 := of_decide_eq_true (bI_t c1)
      have lack : wholeB k (gm g c) (gY g c) i = false → mz_WP (mz_wc (e + 1)) (e + 1) 0 co_X11_layRides Q 137 [some (.ref 186), some (.int (nI c)), some (.int (nI i)), some (.int (gm g c i)), some (.int (gS g c i))] [] n (mrH h (nI (rl k (gm g c) (gS g c) (gY g c) i).length) j kd st sp bg en lm) 0 0 := by
        intro hw
        have e1 := rl_in (s := gS g c) hb hw c1
        refine mz_WP.run 80 rfl ?_
        refine mz_WP.cv rfl rfl (Nat.le_of_ble_eq_true rfl) rfl (rfl) rfl (m_mendE rfl rfl rfl rfl (by omega) R ?_)
        refine mz_WP.run 80 rfl ?_
        refine mz_WP.cv rfl rfl (Nat.le_of_ble_eq_true rfl) rfl (rfl) rfl (m_addRide (by omega) (Or.inr (hs i hik)) (lastE_P RPs _) ?_)
        refine mz_WP.run 80 rfl ?_
        have nx := ih (i + 1) (some (.int (gm g c i))) (some (.int (gS g c i))) _ _ _ _ _ _ (by omega) (by omega) hw (by rw [e1]; exact R.app rfl (nI 1, gS g c i, lastE (rl k (gm g c) (gS g c) (gY g c) i) (gS g c i), gm g c i, gm g c i)) (by rw [e1]; exact M.app rfl _)
        rw [e1, List.length_append, List.length_singleton, nI_succ i] at nx
        exact nx
      refine mz_WP.run 80 rfl ?_
      refine mz_WP.getf rfl (rfl) rfl (Nat.le_of_ble_eq_true rfl) ?_
      refine mz_WP.run 80 rfl ?_
      refine mz_WP.alN rfl hg' (nI_add _ _) (by omega) (by decide) ?_
      rw [Wc.2.1, nI_add]
      refine mz_WP.icmp rfl (fun c2 => ?_) (fun c2 => ?_)
      · have c2 : nI k ≤ nI (i + 1) := c2
        rw [nI_leI (by omega) (by omega)] at c2
        refine lack ?_
        cases hb : wholeB k (gm g c) (gY g c) i with
        | false => rfl
        | true =>
          have := (wholeB_iff.mp hb).1
          omega
      have c2 : ¬ nI k ≤ nI (i + 1) := c2
      rw [nI_leI (by omega) (by omega)] at c2
      have hik1 : i + 1 < k := by omega
      refine mz_WP.run 80 rfl ?_
      rw [nI_add]
      refine mz_WP.cv rfl rfl (Nat.le_of_ble_eq_true rfl) rfl (rfl) rfl (m_isIn rfl hg' hc (by omega) ?_)
      refine mz_WP.ifc rfl (fun c3 => ?_) (fun c3 => ?_)
      · have c3 := of_decide_eq_true (bI_t c3)
        refine lack ?_
        cases hb : wholeB k (gm g c) (gY g c) i with
        | false => rfl
        | true =>
          have := (wholeB_iff.mp hb).2.2.1
          rw [c3] at this
          exact absurd this (by decide)
      have c3 := hy (i + 1) hik1 (of_decide_eq_false (bI_f (Classical.byContradiction c3)))
      refine mz_WP.run 80 rfl ?_
      rw [nI_add]
      refine mz_WP.cv rfl rfl (Nat.le_of_ble_eq_true rfl) rfl (rfl) rfl (m_when rfl hg' hc (by omega) ?_)
      refine mz_WP.run 80 rfl ?_
      refine mz_WP.div rfl (by decide) ?_
      refine mz_WP.run 80 rfl ?_
      refine mz_WP.div rfl (by decide) ?_
      refine mz_WP.icmp rfl (fun c4 => ?_) (fun c4 => ?_)
      · have c4 : ¬ gm g c (i + 1) / nI 1440 = gm g c i / nI 1440 := c4
        refine lack ?_
        cases hb : wholeB k (gm g c) (gY g c) i with
        | false => rfl
        | true => exact absurd (wholeB_iff.mp hb).2.2.2.symm c4
      have c4 : gm g c (i + 1) / nI 1440 = gm g c i / nI 1440 := Classical.byContradiction c4
      have hw : wholeB k (gm g c) (gY g c) i = true := wholeB_iff.mpr ⟨hik1, c1, c3, c4.symm⟩
      obtain ⟨e1, e2⟩ := rl_wh (s := gS g c) hb hw
      refine mz_WP.run 80 rfl ?_
      rw [nI_add]
      refine mz_WP.cv rfl rfl (Nat.le_of_ble_eq_true rfl) rfl (rfl) rfl (m_sta rfl hg' hc (by omega) ?_)
      refine mz_WP.run 80 rfl ?_
      refine mz_WP.cv rfl rfl (Nat.le_of_ble_eq_true rfl) rfl (rfl) rfl (m_when rfl hg' hc (by omega) ?_)
      refine mz_WP.cv rfl rfl (Nat.le_of_ble_eq_true rfl) rfl (rfl) rfl (m_addRide (by omega) (Or.inr (hs i hik)) (Or.inr (hs (i + 1) hik1)) ?_)
      refine mz_WP.run 80 rfl ?_
      refine mz_WP.run 80 rfl ?_
      have nx := ih (i + 1 + 1) (some (.int (gm g c i))) (some (.int (gS g c i))) _ _ _ _ _ _ (by omega) (by omega) e2 (by rw [e1]; exact R.app rfl (nI 0, gS g c i, gS g c (i + 1), gm g c i, gm g c (i + 1))) (by rw [e1]; exact M.app rfl _)
      rw [e1, List.length_append, List.length_singleton, nI_succ (i + 1)] at nx
      exact nx
  refine loop k 0 _ _ _ _ _ _ _ _ (by omega) (by omega) rfl (fun i p hp => ?_) (fun i p hp => ?_)
  · cases hp
  · cases hp
end MR2
end
section
/-! the reference: journeys, what is pure -/
def jbeg (l : List Rde) (f : Nat) : Int32 := match l[f]? with
  | some r => r.2.2.2.1
  | none => 0
def jseg (zn : Int32 → Int32) (l : List Rde) (f : Nat) : Nat → Jrn
  | 0 => (jbeg l f, 0, 5, 1)
  | c + 1 => match l[f + c]? with
    | some r => jtake zn r (jseg zn l f c)
    | none => jseg zn l f c
theorem jseg_s {zn : Int32 → Int32} {l : List Rde} {f c : Nat} {r : Rde} (h : l[f + c]? = some r) : jseg zn l f (c + 1) = jtake zn r (jseg zn l f c) := by
  show (match l[f + c]? with
    | some r => jtake zn r (jseg zn l f c)
    | none => jseg zn l f c) = _
  rw [h]
theorem jseg_1 {zn : Int32 → Int32} {l : List Rde} {f : Nat} : ∀ c, (jseg zn l f c).1 = jbeg l f
  | 0 => rfl
  | c + 1 => by
    have ih := jseg_1 (zn := zn) (l := l) (f := f) c
    show (match l[f + c]? with
      | some r => jtake zn r (jseg zn l f c)
      | none => jseg zn l f c).1 = _
    split
    · exact ih
    · exact ih
theorem zmin_n {a b : Nat} (ha : a < 2 ^ 31) (hb : b < 2 ^ 31) : zmin (nI a) (nI b) = nI (min a b) := by
  unfold zmin
  by_cases h : b < a
  · rw [if_pos (nI_lt h ha), show min a b = b by omega]
  · rw [if_neg (nI_nlt (by omega) hb), show min a b = a by omega]
theorem zmax_n {a b : Nat} (ha : a < 2 ^ 31) (hb : b < 2 ^ 31) : zmax (nI a) (nI b) = nI (max a b) := by
  unfold zmax
  by_cases h : a < b
  · rw [if_pos (nI_lt h hb), show max a b = b by omega]
  · rw [if_neg (nI_nlt (by omega) ha), show max a b = a by omega]
theorem nI5 : nI 5 = 5 := by decide
def znP (zn : Int32 → Int32) : Prop := ∀ s, s < 8 → ∃ z, 1 ≤ z ∧ z ≤ 5 ∧ zn (nI s) = nI z
theorem RP.st {r : Rde} (h : RP r) (hl : lameB r.2.1 r.2.2.1 = false) : ∃ a b, a < 8 ∧ b < 8 ∧ r.2.1 = nI a ∧ r.2.2.1 = nI b := by
  unfold lameB at hl
  obtain ⟨h1, h2, -⟩ := h
  rcases h1 with h1 | ⟨a, ha, h1⟩
  · rw [decide_eq_true h1] at hl
    cases hl
  · rcases h2 with h2 | ⟨b, hb, h2⟩
    · rw [decide_eq_true h2, Bool.or_true] at hl
      cases hl
    · exact ⟨a, b, ha, hb, h1, h2⟩
theorem zones_P {zn : Int32 → Int32} (hz : znP zn) {r : Rde} (h : RP r) : ∃ a b, 1 ≤ a ∧ a ≤ 5 ∧ 1 ≤ b ∧ b ≤ 5 ∧ zoneA zn r = nI a ∧ zoneZ zn r = nI b ∧ (lameB r.2.1 r.2.2.1 = true → a = 1 ∧ b = 5) := by
  unfold zoneA zoneZ
  cases hl : lameB r.2.1 r.2.2.1 with
  | true =>
    refine ⟨1, 5, by omega, by omega, by omega, by omega, ?_, ?_, fun _ => ⟨rfl, rfl⟩⟩
    · rw [if_pos rfl, nI1]
    · rw [if_pos rfl, nI5]
  | false =>
    obtain ⟨a, b, ha, hb, e1, e2⟩ := h.st hl
    obtain ⟨x, x1, x2, x3⟩ := hz a ha
    obtain ⟨y, y1, y2, y3⟩ := hz b hb
    refine ⟨x, y, x1, x2, y1, y2, ?_, ?_, fun z => by cases z⟩
    · rw [if_neg (by decide), e1, x3]
    · rw [if_neg (by decide), e2, y3]
theorem jseg_P {zn : Int32 → Int32} (hz : znP zn) {l : List Rde} (hl : ∀ r ∈ l, RP r) {f : Nat} : ∀ c, f + c ≤ l.length → ∃ a b, (jseg zn l f c).2.1 = c ∧ (jseg zn l f c).2.2 = (nI a, nI b) ∧ 1 ≤ a ∧ a ≤ 5 ∧ 1 ≤ b ∧ b ≤ 5 ∧ (1 ≤ c → a ≤ b) ∧ ((∃ i r, i < c ∧ l[f + i]? = some r ∧ lameB r.2.1 r.2.2.1 = true) → a = 1 ∧ b = 5)
  | 0, _ => ⟨5, 1, rfl, by rw [nI1, nI5]; rfl, by omega, by omega, by omega, by omega, fun h => by omega, fun ⟨i, _, hi, _⟩ => by omega⟩
  | c + 1, hc => by
    obtain ⟨a, b, e0, e1, a1, a2, b1, b2, ab, lam⟩ := jseg_P hz hl (f := f) c (by omega)
    obtain ⟨r, hr⟩ := geti (show f + c < l.length by omega)
    obtain ⟨x, y, x1, x2, y1, y2, x3, y3, xy⟩ := zones_P hz (hl r (List.mem_of_getElem? hr))
    rw [jseg_s hr]
    refine ⟨min (min a x) y, max (max b x) y, ?_, ?_, by omega, by omega, by omega, by omega, fun _ => by omega, fun ⟨i, r', hi, hr', hlm⟩ => ?_⟩
    · show (jseg zn l f c).2.1 + 1 = c + 1
      rw [e0]
    · show (zmin (zmin (jseg zn l f c).2.2.1 (zoneA zn r)) (zoneZ zn r), zmax (zmax (jseg zn l f c).2.2.2 (zoneA zn r)) (zoneZ zn r)) = _
      rw [e1, x3, y3]
      dsimp only
      rw [zmin_n (by omega) (by omega), zmin_n (by omega) (by omega), zmax_n (by omega) (by omega), zmax_n (by omega) (by omega)]
    · by_cases hic : i < c
      · obtain ⟨q1, q2⟩ := lam ⟨i, r', hic, hr', hlm⟩
        omega
      · have : i = c := by omega
        subst this
        rw [hr] at hr'
        cases hr'
        obtain ⟨q1, q2⟩ := xy hlm
        omega
theorem jseg_w {zn : Int32 → Int32} (hz : znP zn) {l : List Rde} (hl : ∀ r ∈ l, RP r) {f c : Nat} (hc : f + c ≤ l.length) (h1 : 1 ≤ c) : ∃ w, 1 ≤ w ∧ w ≤ 5 ∧ jwid (jseg zn l f c) = nI w ∧ ((∃ i r, i < c ∧ l[f + i]? = some r ∧ lameB r.2.1 r.2.2.1 = true) → w = 5) := by
  obtain ⟨a, b, e0, e1, a1, a2, b1, b2, ab, lam⟩ := jseg_P hz hl (f := f) c hc
  have ab := ab h1
  refine ⟨b - a + 1, by omega, by omega, ?_, fun h => by obtain ⟨q1, q2⟩ := lam h; omega⟩
  unfold jwid
  rw [e1]
  dsimp only
  rw [pk_sub ab, nI_add]
/-- firsts and lengths after i rides -/
def JM (zn : Int32 → Int32) (l : List Rde) (i : Nat) (J : List Jrn) (fi le : Nat → Int32) : Prop := ∀ j q, J[j]? = some q → ∃ f, fi j = nI f ∧ le j = nI q.2.1 ∧ 1 ≤ q.2.1 ∧ f + q.2.1 ≤ i ∧ (j + 1 = J.length → f + q.2.1 = i) ∧ q = jseg zn l f q.2.1
theorem JM.app {zn : Int32 → Int32} {l : List Rde} {i : Nat} {J : List Jrn} {fi le : Nat → Int32} (M : JM zn l i J fi le) {r : Rde} (hr : l[i]? = some r) {c : Nat} (hc : J.length = c) : JM zn l (i + 1) (J ++ [jtake zn r (r.2.2.2.1, 0, 5, 1)]) (upd fi c (nI i)) (upd le c (nI 1)) := by
  intro j q hq
  by_cases hj : j < J.length
  · rw [List.getElem?_append_left hj] at hq
    obtain ⟨f, a1, a2, a3, a4, a5, a6⟩ := M j q hq
    have hne : j ≠ c := by omega
    rw [updN hne, updN hne, List.length_append, List.length_singleton]
    exact ⟨f, a1, a2, a3, by omega, fun h => by omega, a6⟩
  · rw [List.getElem?_append_right (by omega)] at hq
    have hz : j - J.length < 1 := (List.getElem?_eq_some_iff.mp hq).1
    have hjc : j = c := by omega
    rw [show j - J.length = 0 by omega] at hq
    cases hq
    subst hjc
    rw [updS, updS]
    refine ⟨i, rfl, rfl, Nat.le_refl _, Nat.le_refl _, fun _ => rfl, ?_⟩
    show jtake zn r (r.2.2.2.1, 0, 5, 1) = jseg zn l i (0 + 1)
    rw [jseg_s (show l[i + 0]? = some r from hr)]
    show _ = jtake zn r (jbeg l i, 0, 5, 1)
    unfold jbeg
    rw [hr]
theorem JM.mod {zn : Int32 → Int32} {l : List Rde} {i : Nat} {J : List Jrn} {fi le : Nat → Int32} (M : JM zn l i J fi le) {r : Rde} (hr : l[i]? = some r) {c : Nat} (hc : J.length = c + 1) : JM zn l (i + 1) (jmod J (jtake zn r)) fi (upd le c (le c + nI 1)) := by
  obtain ⟨p, hp⟩ := geti (show c < J.length by omega)
  obtain ⟨f, b1, b2, b3, b4, b5, b6⟩ := M c p hp
  have b7 := b5 hc.symm
  intro j q hq
  rw [jmod_len]
  unfold jmod at hq
  rw [show J.length - 1 = c by omega, hp] at hq
  dsimp only at hq
  by_cases hj : j = c
  · subst hj
    rw [List.getElem?_set_self (by omega)] at hq
    cases hq
    rw [updS, b2]
    refine ⟨f, b1, nI_add _ _, Nat.le_add_left _ _, ?_, fun _ => ?_, ?_⟩
    · show f + (p.2.1 + 1) ≤ i + 1
      omega
    · show f + (p.2.1 + 1) = i + 1
      omega
    · show jtake zn r p = jseg zn l f (p.2.1 + 1)
      rw [jseg_s (show l[f + p.2.1]? = some r by rw [b7]; exact hr), ← b6]
  · rw [List.getElem?_set_ne (fun z => hj z.symm)] at hq
    obtain ⟨f, a1, a2, a3, a4, a5, a6⟩ := M j q hq
    have hlt := (List.getElem?_eq_some_iff.mp hq).1
    rw [updN hj]
    exact ⟨f, a1, a2, a3, by omega, fun h => by omega, a6⟩
theorem jl_st {near : Int32} {zn : Int32 → Int32} {l : List Rde} {i : Nat} {r : Rde} (hr : l[i]? = some r) : jl near zn l (i + 1) = if goes near l (jl near zn l i) i r = true then jmod (jl near zn l i) (jtake zn r) else jl near zn l i ++ [jtake zn r (r.2.2.2.1, 0, 5, 1)] := by
  show (match l[i]? with
    | none => jl near zn l i
    | some r => if goes near l (jl near zn l i) i r = true then jmod (jl near zn l i) (jtake zn r) else jl near zn l i ++ [jtake zn r (r.2.2.2.1, 0, 5, 1)]) = _
  rw [hr]
theorem goes_J {near : Int32} {l : List Rde} {J : List Jrn} {i : Nat} {r : Rde} (h : goes near l J i r = true) : 1 ≤ J.length ∧ 1 ≤ i := by
  cases i with
  | zero => cases h
  | succ i =>
    cases J with
    | nil => rw [goes_nil] at h; cases h
    | cons a J => exact ⟨Nat.le_add_left _ _, by omega⟩
theorem jl_pos {near : Int32} {zn : Int32 → Int32} {l : List Rde} {i : Nat} (h : i < l.length) : 1 ≤ (jl near zn l (i + 1)).length := by
  obtain ⟨r, hr⟩ := geti h
  rw [jl_st hr]
  split
  · rename_i hg
    rw [jmod_len]
    exact (goes_J hg).1
  · rw [List.length_append, List.length_singleton]
    omega
end
section
/-! the reference: journeys -/
section MJ1
variable {e n : Nat} {h : mz_H} {Q : mz_Q} {g : Nat → Int32} {r j : Int32} {kd st sp bg en lm jo fi le wi co : Nat → Int32}
theorem m_busy {x : Int32} (H : Q (some (.int (bI (busyB x)))) n h) : mz_wc (e + 2) 138 [.int x] n h Q := by
  refine mz_wc.enter (code := co_X11_isBusy) (idx := 138) rfl rfl (Nat.le_of_ble_eq_true rfl) rfl rfl ?_
  refine mz_WP.run 80 rfl ?_
  refine mz_WP.div rfl (by decide) ?_
  refine mz_WP.run 80 rfl ?_
  refine mz_WP.rem rfl (by decide) ?_
  refine mz_WP.run 80 rfl ?_
  refine mz_WP.rem rfl (by decide) ?_
  refine mz_WP.run 80 rfl ?_
  refine mz_WP.icmp rfl (fun c => ?_) (fun c => ?_)
  · have c : ¬ x / nI 1440 - x / nI 1440 / nI 7 * nI 7 < nI 5 := Int32.not_lt.mpr c
    have hb : busyB x = false := by unfold busyB; rw [decide_eq_false c]; rfl
    rw [hb] at H
    refine mz_WP.run 80 rfl ?_
    exact mz_WP.zret rfl rfl (Or.inl rfl) H
  · have c : x / nI 1440 - x / nI 1440 / nI 7 * nI 7 < nI 5 := Int32.not_le.mp c
    refine mz_WP.run 80 rfl ?_
    refine mz_WP.cs rfl (by decide) rfl (Nat.le_of_ble_eq_true rfl) rfl (m_in ?_)
    refine mz_WP.ifc rfl (fun c1 => ?_) (fun c1 => ?_)
    · have hb : busyB x = true := by unfold busyB; rw [decide_eq_true c, bI_t c1]; rfl
      rw [hb] at H
      refine mz_WP.run 80 rfl ?_
      refine mz_WP.run 80 rfl ?_
      exact mz_WP.zret rfl rfl (Or.inr rfl) H
    · have c1 := bI_f (Classical.byContradiction c1)
      refine mz_WP.run 80 rfl ?_
      refine mz_WP.cs rfl (by decide) rfl (Nat.le_of_ble_eq_true rfl) rfl (m_in ?_)
      refine mz_WP.ifc rfl (fun c2 => ?_) (fun c2 => ?_)
      · have hb : busyB x = false := by unfold busyB; rw [decide_eq_true c, c1, bI_f c2]; rfl
        rw [hb] at H
        refine mz_WP.run 80 rfl ?_
        exact mz_WP.zret rfl rfl (Or.inl rfl) H
      · have hb : busyB x = true := by unfold busyB; rw [decide_eq_true c, c1, bI_t c2]; rfl
        rw [hb] at H
        refine mz_WP.run 80 rfl ?_
        refine mz_WP.run 80 rfl ?_
        exact mz_WP.zret rfl rfl (Or.inr rfl) H
theorem m_zoneOf {s : Nat} (ho : h 186 = mo r j) (hg : h 187 = .inl (0, 423, g)) (hs : s < 8) (H : Q (some (.int (rat 8 (zG g) (nI s)))) n h) : mz_wc (e + 1) 139 [.ref 186, .int (nI s)] n h Q := by
  rw [rat_in hs (by decide)] at H
  refine mz_wc.enter (code := co_X11_zoneOf) (idx := 139) rfl rfl (Nat.le_of_ble_eq_true rfl) rfl rfl ?_
  refine mz_WP.run 80 rfl ?_
  refine mz_WP.getf rfl (ho) rfl (Nat.le_of_ble_eq_true rfl) ?_
  refine mz_WP.run 80 rfl ?_
  refine mz_WP.alN rfl hg (nI_add _ _) (by omega) (by decide) ?_
  exact mz_WP.ret rfl rfl H
theorem m_goesOn {i : Nat} {l : List Rde} {J : List Jrn} {p : Rde} (ho : h 186 = mo r j) (hg : h 187 = .inl (0, 423, g)) (h0 : h 190 = .inl (0, 48, kd)) (h1 : h 191 = .inl (0, 48, st)) (h2 : h 192 = .inl (0, 48, sp)) (h3 : h 193 = .inl (0, 48, bg)) (h4 : h 194 = .inl (0, 48, en)) (h6 : h 196 = .inl (0, 48, jo)) (h8 : h 198 = .inl (0, 48, le)) (R : RepA l st sp bg en kd) (RPs : ∀ p ∈ l, RP p) (hl : l.length ≤ 48) (hp : l[i]? = some p) (hJ : ∀ i', i = i' + 1 → ∃ c q, J.length = c + 1 ∧ c < 48 ∧ J[c]? = some q ∧ jo i' = nI c ∧ le c = nI q.2.1) (H : Q (some (.int (bI (goes (g 412) l J i p)))) n h) : mz_wc (e + 1) 137 [.ref 186, .int (nI i)] n h Q := by
  have hi := (List.getElem?_eq_some_iff.mp hp).1
  obtain ⟨b1, b2, b3, b4, b5⟩ := R i p hp
  cases i with
  | zero =>
    have H : Q (some (.int 0)) n h := H
    refine mz_wc.enter (code := co_X11_goesOn) (idx := 137) rfl rfl (Nat.le_of_ble_eq_true rfl) rfl rfl ?_
    refine mz_WP.run 80 rfl ?_
    refine mz_WP.ifc rfl (fun c0 => ?_) (fun c0 => ?_)
    · refine mz_WP.run 80 rfl ?_
      exact mz_WP.zret rfl rfl (Or.inl rfl) H
    · exact absurd nI_0 c0
  | succ i =>
    obtain ⟨c, q, hc, hc48, hq, hjo, hle⟩ := hJ i rfl
    obtain ⟨p', hp'⟩ := geti (show i < l.length by omega)
    obtain ⟨a1, a2, a3, a4, a5⟩ := R i p' hp'
    have hRP := RPs p' (List.mem_of_getElem? hp')
    have hgo : goes (g 412) l J (i + 1) p = (decide (nI q.2.1 < nI 3) && goR (g 412) p' p) := by
      show (match l[i]?, J[J.length - 1]? with
        | some p', some q => decide (nI q.2.1 < nI 3) && goR (g 412) p' p
        | _, _ => false) = _
      rw [hp', show J.length - 1 = c by omega, hq]
    have em : nI (i + 1) - nI 1 = nI i := by rw [pk_sub (by omega)]; rfl
    refine mz_wc.enter (code := co_X11_goesOn) (idx := 137) rfl rfl (Nat.le_of_ble_eq_true rfl) rfl rfl ?_
    have no24 : goR (g 412) p' p = false → mz_WP (mz_wc e) e 2 co_X11_goesOn Q 24 [some (.ref 186), some (.int (nI (i + 1))), none] [] n h 0 0 := by
      intro hf
      rw [hgo, hf, Bool.and_false] at H
      refine mz_WP.run 80 rfl ?_
      exact mz_WP.zret rfl rfl (Or.inl rfl) H
    have no125 : ∀ x, (goR (g 412) p' p = false ∨ decide (nI q.2.1 < nI 3) = false) → mz_WP (mz_wc e) e 2 co_X11_goesOn Q 125 [some (.ref 186), some (.int (nI (i + 1))), x] [] n h 0 0 := by
      intro x hf
      have hz : goes (g 412) l J (i + 1) p = false := by
        rw [hgo]
        rcases hf with hf | hf
        · rw [hf, Bool.and_false]
        · rw [hf, Bool.false_and]
      rw [hz] at H
      refine mz_WP.run 80 rfl ?_
      exact mz_WP.zret rfl rfl (Or.inl rfl) H
    refine mz_WP.run 80 rfl ?_
    refine mz_WP.ifc rfl (fun c0 => ?_) (fun c0 => ?_)
    · exact absurd c0 (nI_ne0 (by omega) (by omega))
    refine mz_WP.run 80 rfl ?_
    refine mz_WP.getf rfl (ho) rfl (Nat.le_of_ble_eq_true rfl) ?_
    refine mz_WP.run 80 rfl ?_
    refine mz_WP.alN rfl h0 rfl (by omega) (by decide) ?_
    rw [b1]
    refine mz_WP.ifc rfl (fun c1 => ?_) (fun c1 => ?_)
    · have c1 : ¬ p.1 = 0 := c1
      exact no24 (by unfold goR; rw [decide_eq_false c1]; rfl)
    have c1 : p.1 = 0 := Classical.byContradiction c1
    refine mz_WP.run 80 rfl ?_
    refine mz_WP.getf rfl (ho) rfl (Nat.le_of_ble_eq_true rfl) ?_
    refine mz_WP.run 80 rfl ?_
    refine mz_WP.alN rfl h0 em (by omega) (by decide) ?_
    rw [a1]
    refine mz_WP.ifc rfl (fun c2 => ?_) (fun c2 => ?_)
    rotate_left
    · have c2 : ¬ p'.1 = 0 := c2
      exact no24 (by unfold goR; rw [decide_eq_false c2, Bool.and_false]; rfl)
    have c2 : p'.1 = 0 := c2
    have hday := hRP.2.2 c2
    refine mz_WP.run 80 rfl ?_
    refine mz_WP.getf rfl (ho) rfl (Nat.le_of_ble_eq_true rfl) ?_
    refine mz_WP.run 80 rfl ?_
    refine mz_WP.alN rfl h3 rfl (by omega) (by decide) ?_
    rw [b4]
    refine mz_WP.run 80 rfl ?_
    refine mz_WP.div rfl (by decide) ?_
    refine mz_WP.run 80 rfl ?_
    refine mz_WP.getf rfl (ho) rfl (Nat.le_of_ble_eq_true rfl) ?_
    refine mz_WP.run 80 rfl ?_
    refine mz_WP.alN rfl h3 em (by omega) (by decide) ?_
    rw [a4]
    refine mz_WP.run 80 rfl ?_
    refine mz_WP.div rfl (by decide) ?_
    have near0 : goR (g 412) p' p = false → mz_WP (mz_wc e) e 2 co_X11_goesOn Q 81 [some (.ref 186), some (.int (nI (i + 1))), none] [] n h 0 0 := by
      intro hf
      refine mz_WP.run 80 rfl ?_
      refine mz_WP.ifc rfl (fun c9 => ?_) (fun c9 => ?_)
      · exact no125 _ (Or.inl hf)
      · exact absurd nI_0 c9
    refine mz_WP.icmp rfl (fun c3 => ?_) (fun c3 => ?_)
    · have c3 : ¬ p.2.2.2.1 / nI 1440 = p'.2.2.2.1 / nI 1440 := c3
      rw [hday] at c3
      exact near0 (by unfold goR; rw [decide_eq_false c3, Bool.and_false]; rfl)
    have c3 : p.2.2.2.1 / nI 1440 = p'.2.2.2.1 / nI 1440 := Classical.byContradiction c3
    rw [hday] at c3
    refine mz_WP.run 80 rfl ?_
    refine mz_WP.getf rfl (ho) rfl (Nat.le_of_ble_eq_true rfl) ?_
    refine mz_WP.run 80 rfl ?_
    refine mz_WP.alN rfl h3 rfl (by omega) (by decide) ?_
    rw [b4]
    refine mz_WP.run 80 rfl ?_
    refine mz_WP.getf rfl (ho) rfl (Nat.le_of_ble_eq_true rfl) ?_
    refine mz_WP.run 80 rfl ?_
    refine mz_WP.alN rfl h4 em (by omega) (by decide) ?_
    rw [a5]
    refine mz_WP.run 80 rfl ?_
    refine mz_WP.getf rfl (ho) rfl (Nat.le_of_ble_eq_true rfl) ?_
    refine mz_WP.run 80 rfl ?_
    refine mz_WP.alN (k := 412) rfl hg rfl (by omega) (by decide) ?_
    refine mz_WP.icmp rfl (fun c4 => ?_) (fun c4 => ?_)
    · have c4 : ¬ p.2.2.2.1 - p'.2.2.2.2 ≤ g 412 := Int32.not_le.mpr c4
      exact near0 (by unfold goR; rw [decide_eq_false c4, Bool.and_false]; rfl)
    have c4 : p.2.2.2.1 - p'.2.2.2.2 ≤ g 412 := Int32.not_lt.mp c4
    refine mz_WP.run 80 rfl ?_
    refine mz_WP.run 80 rfl ?_
    refine mz_WP.ifc rfl (fun c9 => ?_) (fun c9 => ?_)
    · exact absurd c9 (by show ¬ nI 1 = 0; decide)
    refine mz_WP.run 80 rfl ?_
    refine mz_WP.getf rfl (ho) rfl (Nat.le_of_ble_eq_true rfl) ?_
    refine mz_WP.run 80 rfl ?_
    refine mz_WP.alN rfl h1 rfl (by omega) (by decide) ?_
    rw [b2]
    refine mz_WP.run 80 rfl ?_
    refine mz_WP.getf rfl (ho) rfl (Nat.le_of_ble_eq_true rfl) ?_
    refine mz_WP.run 80 rfl ?_
    refine mz_WP.alN rfl h2 em (by omega) (by decide) ?_
    rw [a3]
    refine mz_WP.icmp rfl (fun c5 => ?_) (fun c5 => ?_)
    · have c5 : ¬ p.2.1 = p'.2.2.1 := c5
      exact no125 _ (Or.inl (by unfold goR; rw [decide_eq_false c5, Bool.and_false]))
    have c5 : p.2.1 = p'.2.2.1 := Classical.byContradiction c5
    refine mz_WP.run 80 rfl ?_
    refine mz_WP.getf rfl (ho) rfl (Nat.le_of_ble_eq_true rfl) ?_
    refine mz_WP.run 80 rfl ?_
    refine mz_WP.getf rfl (ho) rfl (Nat.le_of_ble_eq_true rfl) ?_
    refine mz_WP.run 80 rfl ?_
    refine mz_WP.alN rfl h6 em (by omega) (by decide) ?_
    rw [hjo]
    refine mz_WP.alN rfl h8 rfl (by omega) (by decide) ?_
    rw [hle]
    refine mz_WP.run 80 rfl ?_
    refine mz_WP.icmp rfl (fun c6 => ?_) (fun c6 => ?_)
    · exact no125 _ (Or.inr (decide_eq_false (Int32.not_lt.mpr c6)))
    · have c6 : nI q.2.1 < nI 3 := Int32.not_le.mp c6
      have hz : goes (g 412) l J (i + 1) p = true := by
        rw [hgo]
        unfold goR
        rw [decide_eq_true c6, decide_eq_true c1, decide_eq_true c2, decide_eq_true c3, decide_eq_true c4, decide_eq_true c5]
        rfl
      rw [hz] at H
      refine mz_WP.run 80 rfl ?_
      refine mz_WP.run 80 rfl ?_
      exact mz_WP.zret rfl rfl (Or.inr rfl) H
end MJ1
end
section
/-! the reference: the width of a journey; journeys laid -/
section MJ2
variable {e n : Nat} {h : mz_H} {Q : mz_Q} {g : Nat → Int32} {r j : Int32} {kd st sp bg en lm jo fi le wi co : Nat → Int32}
theorem zmin_f {a b : Int32} (h : a ≤ b) : zmin a b = a := if_neg (Int32.not_lt.mpr h)
theorem zmin_t {a b : Int32} (h : ¬ a ≤ b) : zmin a b = b := if_pos (Int32.not_le.mp h)
theorem zmax_f {a b : Int32} (h : b ≤ a) : zmax a b = a := if_neg (Int32.not_lt.mpr h)
theorem zmax_t {a b : Int32} (h : ¬ b ≤ a) : zmax a b = b := if_pos (Int32.not_le.mp h)
theorem m_width {l : List Rde} {jj f c : Nat} (ho : h 186 = mo r j) (hg : h 187 = .inl (0, 423, g)) (h1 : h 191 = .inl (0, 48, st)) (h2 : h 192 = .inl (0, 48, sp)) (h5 : h 195 = .inl (1, 48, lm)) (h7 : h 197 = .inl (0, 48, fi)) (h8 : h 198 = .inl (0, 48, le)) (hf : fi jj = nI f) (hle : le jj = nI c) (hjj : jj < 48) (hfc : f + c ≤ l.length) (hc1 : 1 ≤ c) (hl : l.length ≤ 48) (R : RepA l st sp bg en kd) (M : LmP l lm) (RPs : ∀ p ∈ l, RP p) (hz : znP (rat 8 (zG g))) (H : Q (some (.int (jwid (jseg (rat 8 (zG g)) l f c)))) n h) : mz_wc (e + 2) 140 [.ref 186, .int (nI jj)] n h Q := by
  refine mz_wc.enter (code := co_X11_widthOf) (idx := 140) rfl rfl (Nat.le_of_ble_eq_true rfl) rfl rfl ?_
  refine mz_WP.run 80 rfl ?_
  refine mz_WP.getf rfl (ho) rfl (Nat.le_of_ble_eq_true rfl) ?_
  refine mz_WP.run 80 rfl ?_
  refine mz_WP.alN rfl h7 rfl hjj (by decide) ?_
  rw [hf]
  refine mz_WP.run 1 rfl ?_
  have loop : ∀ q i x5 x6, i + q = c → mz_WP (mz_wc (e + 1)) (e + 1) 1 co_X11_widthOf Q 12 [some (.ref 186), some (.int (nI jj)), some (.int (jseg (rat 8 (zG g)) l f i).2.2.1), some (.int (jseg (rat 8 (zG g)) l f i).2.2.2), some (.int (nI (f + i))), x5, x6] [] n h 0 0 := by
    intro q
    induction q with
    | zero =>
      intro i x5 x6 hi
      have hi : i = c := by omega
      subst hi
      refine mz_WP.run 80 rfl ?_
      refine mz_WP.getf rfl (ho) rfl (Nat.le_of_ble_eq_true rfl) ?_
      refine mz_WP.run 80 rfl ?_
      refine mz_WP.alN rfl h7 rfl hjj (by decide) ?_
      refine mz_WP.run 80 rfl ?_
      refine mz_WP.getf rfl (ho) rfl (Nat.le_of_ble_eq_true rfl) ?_
      refine mz_WP.run 80 rfl ?_
      refine mz_WP.alN rfl h8 rfl hjj (by decide) ?_
      rw [hf, hle]
      refine mz_WP.run 80 rfl ?_
      rw [nI_add]
      refine mz_WP.icmp rfl (fun cc => ?_) (fun cc => ?_)
      · refine mz_WP.run 80 rfl ?_
        exact mz_WP.ret rfl rfl H
      · exact absurd (nI_le (Nat.le_refl _) (by omega)) cc
    | succ q ih =>
      intro i x5 x6 hi
      obtain ⟨p, hp⟩ := geti (show f + i < l.length by omega)
      obtain ⟨a1, a2, a3, a4, a5⟩ := R _ p hp
      have hm := M _ p hp
      have hRP := RPs p (List.mem_of_getElem? hp)
      refine mz_WP.run 80 rfl ?_
      refine mz_WP.getf rfl (ho) rfl (Nat.le_of_ble_eq_true rfl) ?_
      refine mz_WP.run 80 rfl ?_
      refine mz_WP.alN rfl h7 rfl hjj (by decide) ?_
      refine mz_WP.run 80 rfl ?_
      refine mz_WP.getf rfl (ho) rfl (Nat.le_of_ble_eq_true rfl) ?_
      refine mz_WP.run 80 rfl ?_
      refine mz_WP.alN rfl h8 rfl hjj (by decide) ?_
      rw [hf, hle]
      refine mz_WP.run 80 rfl ?_
      rw [nI_add]
      refine mz_WP.icmp rfl (fun cc => ?_) (fun cc => ?_)
      · exact absurd cc (nI_ge (by omega) (by omega))
      refine mz_WP.run 80 rfl ?_
      refine mz_WP.getf rfl (ho) rfl (Nat.le_of_ble_eq_true rfl) ?_
      refine mz_WP.run 80 rfl ?_
      refine mz_WP.blN rfl h5 rfl (by omega) (by decide) ?_
      rw [hm]
      refine mz_WP.ifc rfl (fun cl => ?_) (fun cl => ?_)
      rotate_left
      · have cl := bI_t cl
        obtain ⟨w, -, -, w3, w4⟩ := jseg_w hz RPs hfc hc1
        rw [w3, w4 ⟨i, p, by omega, hp, cl⟩] at H
        refine mz_WP.run 80 rfl ?_
        exact mz_WP.ret rfl rfl H
      have cl := bI_f cl
      obtain ⟨a, b, ha, hb, ea, eb⟩ := hRP.st cl
      have hs := jseg_s (zn := rat 8 (zG g)) hp
      have za : zoneA (rat 8 (zG g)) p = rat 8 (zG g) (nI a) := by
        unfold zoneA
        rw [cl, if_neg (by decide), ea]
      have zz : zoneZ (rat 8 (zG g)) p = rat 8 (zG g) (nI b) := by
        unfold zoneZ
        rw [cl, if_neg (by decide), eb]
      have nx := fun x5 x6 => ih (i + 1) x5 x6 (by omega)
      rw [hs] at nx
      have nx : ∀ x5 x6, mz_WP (mz_wc (e + 1)) (e + 1) 1 co_X11_widthOf Q 12 [some (.ref 186), some (.int (nI jj)), some (.int (zmin (zmin (jseg (rat 8 (zG g)) l f i).2.2.1 (zoneA (rat 8 (zG g)) p)) (zoneZ (rat 8 (zG g)) p))), some (.int (zmax (zmax (jseg (rat 8 (zG g)) l f i).2.2.2 (zoneA (rat 8 (zG g)) p)) (zoneZ (rat 8 (zG g)) p))), some (.int (nI (f + i + 1))), x5, x6] [] n h 0 0 := nx
      rw [za, zz] at nx
      generalize hA : rat 8 (zG g) (nI a) = A at nx
      generalize hB : rat 8 (zG g) (nI b) = B at nx
      generalize (jseg (rat 8 (zG g)) l f i).2.2.1 = L0 at nx ⊢
      generalize (jseg (rat 8 (zG g)) l f i).2.2.2 = M0 at nx ⊢
      refine mz_WP.run 80 rfl ?_
      refine mz_WP.getf rfl (ho) rfl (Nat.le_of_ble_eq_true rfl) ?_
      refine mz_WP.run 80 rfl ?_
      refine mz_WP.alN rfl h1 rfl (by omega) (by decide) ?_
      rw [a2, ea]
      refine mz_WP.cv rfl rfl (Nat.le_of_ble_eq_true rfl) rfl (ho) rfl (m_zoneOf ho hg ha ?_)
      rw [hA]
      refine mz_WP.run 80 rfl ?_
      refine mz_WP.getf rfl (ho) rfl (Nat.le_of_ble_eq_true rfl) ?_
      refine mz_WP.run 80 rfl ?_
      refine mz_WP.alN rfl h2 rfl (by omega) (by decide) ?_
      rw [a3, eb]
      refine mz_WP.cv rfl rfl (Nat.le_of_ble_eq_true rfl) rfl (ho) rfl (m_zoneOf ho hg hb ?_)
      rw [hB]
      have k4 : mz_WP (mz_wc (e + 1)) (e + 1) 1 co_X11_widthOf Q 107 [some (.ref 186), some (.int (nI jj)), some (.int (zmin (zmin L0 A) B)), some (.int (zmax M0 A)), some (.int (nI (f + i))), some (.int A), some (.int B)] [] n h 0 0 := by
        have nx := nx (some (.int A)) (some (.int B))
        rw [nI_succ (f + i)] at nx
        refine mz_WP.run 80 rfl ?_
        refine mz_WP.icmp rfl (fun c => ?_) (fun c => ?_)
        · rw [zmax_f c] at nx
          refine mz_WP.run 80 rfl ?_
          exact nx
        · rw [zmax_t c] at nx
          refine mz_WP.run 80 rfl ?_
          refine mz_WP.run 80 rfl ?_
          exact nx
      have k3 : mz_WP (mz_wc (e + 1)) (e + 1) 1 co_X11_widthOf Q 94 [some (.ref 186), some (.int (nI jj)), some (.int (zmin (zmin L0 A) B)), some (.int M0), some (.int (nI (f + i))), some (.int A), some (.int B)] [] n h 0 0 := by
        refine mz_WP.run 80 rfl ?_
        refine mz_WP.icmp rfl (fun c => ?_) (fun c => ?_)
        · rw [zmax_f c] at k4
          refine mz_WP.run 2 rfl ?_
          exact k4
        · rw [zmax_t c] at k4
          refine mz_WP.run 2 rfl ?_
          refine mz_WP.run 1 rfl ?_
          exact k4
      have k2 : mz_WP (mz_wc (e + 1)) (e + 1) 1 co_X11_widthOf Q 81 [some (.ref 186), some (.int (nI jj)), some (.int (zmin L0 A)), some (.int M0), some (.int (nI (f + i))), some (.int A), some (.int B)] [] n h 0 0 := by
        refine mz_WP.run 80 rfl ?_
        refine mz_WP.icmp rfl (fun c => ?_) (fun c => ?_)
        · rw [zmin_f c] at k3
          refine mz_WP.run 2 rfl ?_
          exact k3
        · rw [zmin_t c] at k3
          refine mz_WP.run 2 rfl ?_
          refine mz_WP.run 1 rfl ?_
          exact k3
      refine mz_WP.run 80 rfl ?_
      refine mz_WP.icmp rfl (fun c => ?_) (fun c => ?_)
      · rw [zmin_f c] at k2
        refine mz_WP.run 2 rfl ?_
        exact k2
      · rw [zmin_t c] at k2
        refine mz_WP.run 2 rfl ?_
        refine mz_WP.run 1 rfl ?_
        exact k2
  exact loop c 0 _ _ (by omega)
end MJ2
end
section
/-! the reference: journeys laid -/
def mRows (h : mz_H) (kd st sp bg en lm : Nat → Int32) : Prop := h 190 = .inl (0, 48, kd) ∧ h 191 = .inl (0, 48, st) ∧ h 192 = .inl (0, 48, sp) ∧ h 193 = .inl (0, 48, bg) ∧ h 194 = .inl (0, 48, en) ∧ h 195 = .inl (1, 48, lm)
def jRows (h : mz_H) (jo fi le wi co : Nat → Int32) : Prop := h 196 = .inl (0, 48, jo) ∧ h 197 = .inl (0, 48, fi) ∧ h 198 = .inl (0, 48, le) ∧ h 199 = .inl (0, 48, wi) ∧ h 200 = .inl (0, 48, co)
theorem mRows.to {h h' : mz_H} {kd st sp bg en lm : Nat → Int32} (R : mRows h kd st sp bg en lm) (hh : ∀ b, 190 ≤ b → b ≤ 195 → h' b = h b) : mRows h' kd st sp bg en lm := by
  obtain ⟨e0, e1, e2, e3, e4, e5⟩ := R
  exact ⟨(hh _ (by omega) (by omega)).trans e0, (hh _ (by omega) (by omega)).trans e1, (hh _ (by omega) (by omega)).trans e2, (hh _ (by omega) (by omega)).trans e3, (hh _ (by omega) (by omega)).trans e4, (hh _ (by omega) (by omega)).trans e5⟩
theorem jRows.to {h h' : mz_H} {jo fi le wi co : Nat → Int32} (R : jRows h jo fi le wi co) (hh : ∀ b, 196 ≤ b → b ≤ 200 → h' b = h b) : jRows h' jo fi le wi co := by
  obtain ⟨e0, e1, e2, e3, e4⟩ := R
  exact ⟨(hh _ (by omega) (by omega)).trans e0, (hh _ (by omega) (by omega)).trans e1, (hh _ (by omega) (by omega)).trans e2, (hh _ (by omega) (by omega)).trans e3, (hh _ (by omega) (by omega)).trans e4⟩
/-- what stands when the journeys of the rides l are laid -/
def MJ (h : mz_H) (g : Nat → Int32) (l : List Rde) : Prop := ∃ kd st sp bg en lm jo fi le wi co : Nat → Int32, h 186 = mo (nI l.length) (nI (gJ g l).length) ∧ mRows h kd st sp bg en lm ∧ jRows h jo fi le wi co ∧ RepA l st sp bg en kd ∧ LmP l lm ∧ (∀ i, i < l.length → jo i = nI ((jl (g 412) (rat 8 (zG g)) l (i + 1)).length - 1)) ∧ (∀ j q, (gJ g l)[j]? = some q → ∃ f w, f < l.length ∧ fi j = nI f ∧ bg f = q.1 ∧ le j = nI q.2.1 ∧ 1 ≤ w ∧ w ≤ 5 ∧ jwid q = nI w ∧ wi j = nI w ∧ co j = jcost (frG g) (g 411) q)
section MJ3
variable {e n : Nat} {h : mz_H} {Q : mz_Q} {g : Nat → Int32} {r j : Int32}
theorem WFc.st {c k : Nat} (Wc : WFc g c k) : ∀ q, q < k → ∃ a, a < 8 ∧ gS g c q = nI a := fun q hq => by
  obtain ⟨a, b, ha, hb, hw⟩ := Wc.2.2.2.1 q hq
  refine ⟨a, ha, ?_⟩
  unfold gS
  rw [hw, (gsy ha hb).1]
theorem r_layRides {c k : Nat} (Wc : WFc g c k) (hc : c < 4) (ho : h 186 = mo r j) (hg : h 187 = .inl (0, 423, g)) (S : mrS h) (H : ∀ h1 kd st sp bg en lm, h1 186 = mo (nI (gL g c k).length) j → mRows h1 kd st sp bg en lm → RepA (gL g c k) st sp bg en kd → LmP (gL g c k) lm → (∀ b, b ≠ 186 → (b < 190 ∨ 195 < b) → h1 b = h b) → Q none n h1) : mz_wc (e + 2) 136 [.ref 186, .int (nI c)] n h Q := by
  obtain ⟨kd, st, sp, bg, en, lm, e0, e1, e2, e3, e4, e5⟩ := S
  have E := mr_id ho e0 e1 e2 e3 e4 e5
  have G : mz_wc (e + 2) 136 [.ref 186, .int (nI c)] n (mrH h r j kd st sp bg en lm) Q := by
    refine m_layRides Wc hc hg (fun kd st sp bg en lm R M => H _ kd st sp bg en lm rfl ⟨rfl, rfl, rfl, rfl, rfl, rfl⟩ R M (fun b h1 h2 => mr_lt ⟨h1, h2⟩))
  rw [E] at G
  exact G
theorem WF.zn (W : WF g) : znP (rat 8 (zG g)) := fun s hs => by
  obtain ⟨z, z1, z2, z3⟩ := W.2.1 s hs
  refine ⟨z, z1, z2, ?_⟩
  rw [rat_in hs (by decide)]
  exact z3
theorem m_layJ {c k : Nat} (W : WF g) (Wc : WFc g c k) (hc : c < 4) (ho : h 186 = mo r j) (hg : h 187 = .inl (0, 423, g)) (S1 : mrS h) (S2 : mjS h) (H : ∀ h', MJ h' g (gL g c k) → (∀ b, b ≠ 186 → (b < 190 ∨ 200 < b) → h' b = h b) → Q none n h') : mz_wc (e + 3) 141 [.ref 186, .int (nI c)] n h Q := by
  refine mz_wc.enter (code := co_X11_layJourneys) (idx := 141) rfl rfl (Nat.le_of_ble_eq_true rfl) rfl rfl ?_
  refine mz_WP.run 80 rfl ?_
  refine mz_WP.cv rfl rfl (Nat.le_of_ble_eq_true rfl) rfl (ho) rfl (r_layRides Wc hc ho hg S1 (fun h1 kd st sp bg en lm ho1 R1 RA LM o1 => ?_))
  have hl : (gL g c k).length ≤ 48 := Nat.le_trans (rl_len k _ _ _ k) Wc.1
  have RPs : ∀ p ∈ gL g c k, RP p := rl_RP Wc.st k (Nat.le_refl k)
  have hz := W.zn
  generalize hgl : gL g c k = l at *
  have hg1 : h1 187 = .inl (0, 423, g) := (o1 187 (by omega) (by omega)).trans hg
  obtain ⟨jo, fi, le, wi, co, e6, e7, e8, e9, e10⟩ := S2
  have e6 := (o1 196 (by omega) (by omega)).trans e6
  have e7 := (o1 197 (by omega) (by omega)).trans e7
  have e8 := (o1 198 (by omega) (by omega)).trans e8
  have e9 := (o1 199 (by omega) (by omega)).trans e9
  have e10 := (o1 200 (by omega) (by omega)).trans e10
  have E := mj_id ho1 e6 e7 e8 e9 e10
  obtain ⟨r0, r1, r2, r3, r4, r5⟩ := R1
  have l0 : ∀ {r j jo fi le wi co}, mjH h1 r j jo fi le wi co 190 = .inl (0, 48, kd) := fun {r j jo fi le wi co} => (mj_lt (by omega)).trans r0
  have l1 : ∀ {r j jo fi le wi co}, mjH h1 r j jo fi le wi co 191 = .inl (0, 48, st) := fun {r j jo fi le wi co} => (mj_lt (by omega)).trans r1
  have l2 : ∀ {r j jo fi le wi co}, mjH h1 r j jo fi le wi co 192 = .inl (0, 48, sp) := fun {r j jo fi le wi co} => (mj_lt (by omega)).trans r2
  have l3 : ∀ {r j jo fi le wi co}, mjH h1 r j jo fi le wi co 193 = .inl (0, 48, bg) := fun {r j jo fi le wi co} => (mj_lt (by omega)).trans r3
  have l4 : ∀ {r j jo fi le wi co}, mjH h1 r j jo fi le wi co 194 = .inl (0, 48, en) := fun {r j jo fi le wi co} => (mj_lt (by omega)).trans r4
  have l5 : ∀ {r j jo fi le wi co}, mjH h1 r j jo fi le wi co 195 = .inl (1, 48, lm) := fun {r j jo fi le wi co} => (mj_lt (by omega)).trans r5
  have lg : ∀ {r j jo fi le wi co}, mjH h1 r j jo fi le wi co 187 = .inl (0, 423, g) := fun {r j jo fi le wi co} => (mj_lt (by omega)).trans hg1
  have hJ48 : (gJ g l).length ≤ 48 := Nat.le_trans (jl_len _ _ l l.length) hl
  -- the second loop
  have loop2 : ∀ q jj jo fi le wi co, jj + q = (gJ g l).length → JM (rat 8 (zG g)) l l.length (gJ g l) fi le → (∀ i, i < l.length → jo i = nI ((jl (g 412) (rat 8 (zG g)) l (i + 1)).length - 1)) → (∀ i q, i < jj → (gJ g l)[i]? = some q → wi i = jwid q ∧ co i = jcost (frG g) (g 411) q) → mz_WP (mz_wc (e + 2)) (e + 2) 0 co_X11_layJourneys Q 108 [some (.ref 186), some (.int (nI c)), some (.int (nI jj))] [] n (mjH h1 (nI l.length) (nI (gJ g l).length) jo fi le wi co) 0 0 := by
    intro q
    induction q with
    | zero =>
      intro jj jo fi le wi co hi JMl hjo hw
      have hi : jj = (gJ g l).length := by omega
      subst hi
      refine mz_WP.run 80 rfl ?_
      refine mz_WP.getf rfl (rfl) rfl (Nat.le_of_ble_eq_true rfl) ?_
      refine mz_WP.icmp rfl (fun cc => ?_) (fun cc => ?_)
      · refine mz_WP.vret rfl rfl (H _ ⟨kd, st, sp, bg, en, lm, jo, fi, le, wi, co, rfl, ⟨l0, l1, l2, l3, l4, l5⟩, ⟨rfl, rfl, rfl, rfl, rfl⟩, RA, LM, hjo, fun i q hq => ?_⟩ (fun b b1 b2 => (mj_lt (by omega)).trans (o1 b b1 (by omega))))
        have hlt := (List.getElem?_eq_some_iff.mp hq).1
        obtain ⟨f, a1, a2, a3, a4, -, a6⟩ := JMl i q hq
        obtain ⟨w1, w2⟩ := hw i q hlt hq
        obtain ⟨w, x1, x2, x3, -⟩ := jseg_w hz RPs (f := f) a4 a3
        rw [← a6] at x3
        obtain ⟨p, hp⟩ := geti (show f < l.length by omega)
        refine ⟨f, w, by omega, a1, ?_, a2, x1, x2, x3, by rw [w1, x3], w2⟩
        rw [(RA f p hp).2.2.2.1, a6, jseg_1]
        unfold jbeg
        rw [hp]
      · exact absurd (nI_le (Nat.le_refl _) (by omega)) cc
    | succ q ih =>
      intro jj jo fi le wi co hi JMl hjo hw
      refine mz_WP.run 80 rfl ?_
      refine mz_WP.getf rfl (rfl) rfl (Nat.le_of_ble_eq_true rfl) ?_
      refine mz_WP.icmp rfl (fun cc => ?_) (fun cc => ?_)
      · exact absurd cc (nI_ge (by omega) (by omega))
      obtain ⟨q0, hq⟩ := geti (show jj < (gJ g l).length by omega)
      obtain ⟨f, a1, a2, a3, a4, -, a6⟩ := JMl jj q0 hq
      obtain ⟨w, x1, x2, x3, -⟩ := jseg_w hz RPs (f := f) a4 a3
      rw [← a6] at x3
      obtain ⟨p, hp⟩ := geti (show f < l.length by omega)
      have hbg : bg f = q0.1 := by
        rw [(RA f p hp).2.2.2.1, a6, jseg_1]
        unfold jbeg
        rw [hp]
      refine mz_WP.run 80 rfl ?_
      refine mz_WP.getf rfl (rfl) rfl (Nat.le_of_ble_eq_true rfl) ?_
      refine mz_WP.run 80 rfl ?_
      refine mz_WP.cv rfl rfl (Nat.le_of_ble_eq_true rfl) rfl (rfl) rfl (m_width rfl lg l1 l2 l5 rfl rfl a1 a2 (by omega) a4 a3 hl RA LM RPs hz ?_)
      rw [← a6]
      refine mz_WP.asN rfl rfl (by omega) rfl (by omega) (by decide) ?_
      rw [mj_u4]
      refine mz_WP.run 80 rfl ?_
      refine mz_WP.getf rfl (rfl) rfl (Nat.le_of_ble_eq_true rfl) ?_
      refine mz_WP.run 80 rfl ?_
      refine mz_WP.getf rfl (rfl) rfl (Nat.le_of_ble_eq_true rfl) ?_
      refine mz_WP.run 80 rfl ?_
      refine mz_WP.getf rfl (rfl) rfl (Nat.le_of_ble_eq_true rfl) ?_
      refine mz_WP.run 80 rfl ?_
      refine mz_WP.alN rfl rfl rfl (by omega) (by decide) ?_
      rw [updS]
      refine mz_WP.run 80 rfl ?_
      refine mz_WP.alN (k := 395 + w) rfl lg (by rw [x3, nI_add, pk_sub (by omega)]; congr 1; omega) (by omega) (by decide) ?_
      refine mz_WP.run 80 rfl ?_
      refine mz_WP.getf rfl (rfl) rfl (Nat.le_of_ble_eq_true rfl) ?_
      refine mz_WP.run 80 rfl ?_
      refine mz_WP.getf rfl (rfl) rfl (Nat.le_of_ble_eq_true rfl) ?_
      refine mz_WP.run 80 rfl ?_
      refine mz_WP.alN rfl rfl rfl (by omega) (by decide) ?_
      rw [a1]
      refine mz_WP.alN rfl l3 rfl (by omega) (by decide) ?_
      rw [hbg]
      refine mz_WP.cs rfl (by decide) rfl (Nat.le_of_ble_eq_true rfl) rfl (m_busy ?_)
      have hj : jcost (frG g) (g 411) q0 = g (395 + w) + (if busyB q0.1 then g 411 else 0) := by
        unfold jcost
        rw [show q0.2.2.2 - q0.2.2.1 + nI 1 = nI w from x3, rat_in (by omega) (by decide)]
        congr 1
        unfold frG
        rw [if_neg (by omega)]
      have fin : ∀ x, g (395 + w) + x = jcost (frG g) (g 411) q0 → mz_WP (mz_wc (e + 2)) (e + 2) 0 co_X11_layJourneys Q 178 [some (.ref 186), some (.int (nI c)), some (.int (nI jj))] [.int x, .int (g (395 + w)), .int (nI jj), .ref 200] n (mjH h1 (nI l.length) (nI (gJ g l).length) jo fi le (upd wi jj (jwid q0)) co) 0 0 := by
        intro x hx
        refine mz_WP.run 80 rfl ?_
        rw [hx]
        refine mz_WP.asN rfl rfl (by omega) rfl (by omega) (by decide) ?_
        rw [mj_u5]
        refine mz_WP.run 80 rfl ?_
        have nx := ih (jj + 1) jo fi le (upd wi jj (jwid q0)) (upd co jj (jcost (frG g) (g 411) q0)) (by omega) JMl hjo (fun i q hij hqi => by
          by_cases hij2 : i = jj
          · subst hij2
            rw [hq] at hqi
            cases hqi
            rw [updS, updS]
            exact ⟨rfl, rfl⟩
          · rw [updN hij2, updN hij2]
            exact hw i q (by omega) hqi)
        rw [nI_succ jj] at nx
        exact nx
      refine mz_WP.ifc rfl (fun cb => ?_) (fun cb => ?_)
      · have cb := bI_f cb
        rw [cb, if_neg (by decide)] at hj
        refine mz_WP.run 1 rfl ?_
        exact fin _ (by rw [hj, nI_0])
      · have cb := bI_t cb
        rw [cb, if_pos rfl] at hj
        refine mz_WP.run 80 rfl ?_
        refine mz_WP.getf rfl (rfl) rfl (Nat.le_of_ble_eq_true rfl) ?_
        refine mz_WP.run 80 rfl ?_
        refine mz_WP.alN (k := 411) rfl lg rfl (by omega) (by decide) ?_
        refine mz_WP.run 1 rfl ?_
        exact fin _ hj.symm
  -- the first loop
  have loop1 : ∀ q i jo fi le wi co, i + q = l.length → JM (rat 8 (zG g)) l i (jl (g 412) (rat 8 (zG g)) l i) fi le → (∀ i', i' < i → jo i' = nI ((jl (g 412) (rat 8 (zG g)) l (i' + 1)).length - 1)) → mz_WP (mz_wc (e + 2)) (e + 2) 0 co_X11_layJourneys Q 12 [some (.ref 186), some (.int (nI c)), some (.int (nI i))] [] n (mjH h1 (nI l.length) (nI (jl (g 412) (rat 8 (zG g)) l i).length) jo fi le wi co) 0 0 := by
    intro q
    induction q with
    | zero =>
      intro i jo fi le wi co hi JMl hjo
      have hi : i = l.length := by omega
      subst hi
      refine mz_WP.run 80 rfl ?_
      refine mz_WP.getf rfl (rfl) rfl (Nat.le_of_ble_eq_true rfl) ?_
      refine mz_WP.icmp rfl (fun cc => ?_) (fun cc => ?_)
      · refine mz_WP.run 2 rfl ?_
        exact loop2 (gJ g l).length 0 jo fi le wi co (by omega) JMl hjo (fun i q hij => by omega)
      · exact absurd (nI_le (Nat.le_refl _) (by omega)) cc
    | succ q ih =>
      intro i jo fi le wi co hi JMl hjo
      have hJl := jl_len (g 412) (rat 8 (zG g)) l i
      obtain ⟨p, hp⟩ := geti (show i < l.length by omega)
      have hst := jl_st (near := g 412) (zn := rat 8 (zG g)) hp
      refine mz_WP.run 80 rfl ?_
      refine mz_WP.getf rfl (rfl) rfl (Nat.le_of_ble_eq_true rfl) ?_
      refine mz_WP.icmp rfl (fun cc => ?_) (fun cc => ?_)
      · exact absurd cc (nI_ge (by omega) (by omega))
      have hJ : ∀ i', i = i' + 1 → ∃ c q, (jl (g 412) (rat 8 (zG g)) l i).length = c + 1 ∧ c < 48 ∧ (jl (g 412) (rat 8 (zG g)) l i)[c]? = some q ∧ jo i' = nI c ∧ le c = nI q.2.1 := by
        intro i' hi'
        subst hi'
        have hpos := jl_pos (near := g 412) (zn := rat 8 (zG g)) (show i' < l.length by omega)
        obtain ⟨q, hq⟩ := geti (show (jl (g 412) (rat 8 (zG g)) l (i' + 1)).length - 1 < (jl (g 412) (rat 8 (zG g)) l (i' + 1)).length by omega)
        obtain ⟨f, a1, a2, a3, a4, a5, a6⟩ := JMl _ q hq
        exact ⟨_, q, by omega, by omega, hq, hjo i' (by omega), a2⟩
      refine mz_WP.run 80 rfl ?_
      refine mz_WP.cv rfl rfl (Nat.le_of_ble_eq_true rfl) rfl (rfl) rfl (m_goesOn rfl lg l0 l1 l2 l3 l4 rfl rfl RA RPs hl hp hJ ?_)
      refine mz_WP.ifc rfl (fun cg => ?_) (fun cg => ?_)
      · have cg := bI_f cg
        rw [cg, if_neg (by decide)] at hst
        refine mz_WP.run 80 rfl ?_
        refine mz_WP.getf rfl (rfl) rfl (Nat.le_of_ble_eq_true rfl) ?_
        refine mz_WP.run 80 rfl ?_
        refine mz_WP.getf rfl (rfl) rfl (Nat.le_of_ble_eq_true rfl) ?_
        refine mz_WP.asN rfl rfl (by omega) rfl (by omega) (by decide) ?_
        rw [mj_u1]
        refine mz_WP.run 80 rfl ?_
        refine mz_WP.getf rfl (rfl) rfl (Nat.le_of_ble_eq_true rfl) ?_
        refine mz_WP.run 80 rfl ?_
        refine mz_WP.getf rfl (rfl) rfl (Nat.le_of_ble_eq_true rfl) ?_
        refine mz_WP.run 80 rfl ?_
        refine mz_WP.asN rfl rfl (by omega) rfl (by omega) (by decide) ?_
        rw [mj_u2]
        refine mz_WP.run 80 rfl ?_
        refine mz_WP.getf rfl (rfl) rfl (Nat.le_of_ble_eq_true rfl) ?_
        refine mz_WP.run 80 rfl ?_
        refine mz_WP.getf rfl (rfl) rfl (Nat.le_of_ble_eq_true rfl) ?_
        refine mz_WP.run 80 rfl ?_
        refine mz_WP.asN rfl rfl (by omega) rfl (by omega) (by decide) ?_
        rw [mj_u3]
        refine mz_WP.run 80 rfl ?_
        refine mz_WP.getf rfl (rfl) rfl (Nat.le_of_ble_eq_true rfl) ?_
        refine mz_WP.run 80 rfl ?_
        rw [nI_add]
        refine mz_WP.putf rfl (rfl) (Nat.le_of_ble_eq_true rfl) (Nat.le_of_ble_eq_true rfl) rfl ?_
        have nx := ih (i + 1) (upd jo i (nI (jl (g 412) (rat 8 (zG g)) l i).length)) (upd fi (jl (g 412) (rat 8 (zG g)) l i).length (nI i)) (upd le (jl (g 412) (rat 8 (zG g)) l i).length (nI 1)) wi co (by omega) (by rw [hst]; exact JMl.app hp rfl) (fun i' hi' => by
          by_cases hii : i' = i
          · subst hii
            rw [updS, hst, List.length_append, List.length_singleton, Nat.add_sub_cancel]
          · rw [updN hii]
            exact hjo i' (by omega))
        rw [hst, List.length_append, List.length_singleton, nI_succ i, ← mj_u0 (r := nI l.length) (j := nI (jl (g 412) (rat 8 (zG g)) l i).length)] at nx
        refine mz_WP.run 80 rfl ?_
        exact nx
      · have cg := bI_t cg
        rw [cg, if_pos rfl] at hst
        obtain ⟨i', hii⟩ : ∃ i', i = i' + 1 := ⟨i - 1, by have := (goes_J cg).2; omega⟩
        obtain ⟨c', q', k1, k2, k3, k4, k5⟩ := hJ i' hii
        refine mz_WP.run 80 rfl ?_
        refine mz_WP.getf rfl (rfl) rfl (Nat.le_of_ble_eq_true rfl) ?_
        refine mz_WP.run 80 rfl ?_
        refine mz_WP.getf rfl (rfl) rfl (Nat.le_of_ble_eq_true rfl) ?_
        refine mz_WP.run 80 rfl ?_
        refine mz_WP.alN (k := i') rfl rfl (by rw [hii, pk_sub (by omega)]; rfl) (by omega) (by decide) ?_
        rw [k4]
        refine mz_WP.asN rfl rfl (by omega) rfl (by omega) (by decide) ?_
        rw [mj_u1]
        refine mz_WP.run 80 rfl ?_
        refine mz_WP.getf rfl (rfl) rfl (Nat.le_of_ble_eq_true rfl) ?_
        refine mz_WP.run 80 rfl ?_
        refine mz_WP.getf rfl (rfl) rfl (Nat.le_of_ble_eq_true rfl) ?_
        refine mz_WP.run 80 rfl ?_
        refine mz_WP.alN (k := i) rfl rfl rfl (by omega) (by decide) ?_
        rw [updS]
        refine mz_WP.run 80 rfl ?_
        refine mz_WP.alN (k := c') rfl rfl rfl (by omega) (by decide) ?_
        refine mz_WP.run 80 rfl ?_
        refine mz_WP.asN rfl rfl (by omega) rfl (by omega) (by decide) ?_
        rw [mj_u3]
        refine mz_WP.run 80 rfl ?_
        refine mz_WP.run 80 rfl ?_
        have nx := ih (i + 1) (upd jo i (nI c')) fi (upd le c' (le c' + nI 1)) wi co (by omega) (by rw [hst]; exact JMl.mod hp k1) (fun i2 hi2 => by
          by_cases hii2 : i2 = i
          · subst hii2
            rw [updS, hst, jmod_len, k1, Nat.add_sub_cancel]
          · rw [updN hii2]
            exact hjo i2 (by omega))
        rw [hst, jmod_len, nI_succ i] at nx
        exact nx
  have start := loop1 l.length 0 jo fi le wi co (by omega) (fun i q hq => by cases hq) (fun i' hi' => by omega)
  have u := mj_u0 (h0 := h1) (r := nI l.length) (j := j) (jo := jo) (fi := fi) (le := le) (wi := wi) (co := co) (r2 := nI l.length) (j2 := nI 0)
  rw [E] at u
  have start : mz_WP (mz_wc (e + 2)) (e + 2) 0 co_X11_layJourneys Q 12 [some (.ref 186), some (.int (nI c)), some (.int (nI 0))] [] n (mjH h1 (nI l.length) (nI 0) jo fi le wi co) 0 0 := start
  rw [← u] at start
  refine mz_WP.run 80 rfl ?_
  refine mz_WP.putf rfl (ho1) (Nat.le_of_ble_eq_true rfl) (Nat.le_of_ble_eq_true rfl) rfl ?_
  refine mz_WP.run 2 rfl ?_
  exact start
end MJ3
end
section
/-! the reference: days -/
def dRows (h : mz_H) (su wd ow la wk iw : Nat → Int32) : Prop := h 201 = .inl (0, 28, su) ∧ h 202 = .inl (0, 28, wd) ∧ h 203 = .inl (0, 28, ow) ∧ h 204 = .inl (0, 36, la) ∧ h 205 = .inl (0, 36, wk) ∧ h 206 = .inl (1, 36, iw)
/-- what stands when the days of the rides l are laid -/
def MD (h : mz_H) (g : Nat → Int32) (l : List Rde) : Prop := MJ h g l ∧ ∃ su wd ow la wk iw : Nat → Int32, dRows h su wd ow la wk iw ∧ (∀ d, d < 28 → su d = dsm (frG g) (g 411) (gJ g l) d ∧ wd d = dwd (gJ g l) d ∧ ow d = gO g (gJ g l) d) ∧ la 0 = (dpv (gO g (gJ g l)) (gK g (gJ g l)) 0).1 ∧ wk 0 = (dpv (gO g (gJ g l)) (gK g (gJ g l)) 0).2.1 ∧ (∀ d, d < 28 → iw d = bI (bgn (gO g (gJ g l)) (gK g (gJ g l)) d))
def widP (J : List Jrn) : Prop := ∀ q ∈ J, ∃ w, 1 ≤ w ∧ w ≤ 5 ∧ jwid q = nI w
def ddP (a b : Int32) : Prop := (a = 0 ∧ b = 0) ∨ ∃ w, 1 ≤ w ∧ w ≤ 5 ∧ b = nI w
theorem dd_gen {fr : Nat → Int32} {mr : Int32} {d : Nat} : ∀ (J : List Jrn) (a b : Int32), widP J → ddP a b → ddP (J.foldl (fun a q => if q.1 / nI 1440 = nI d then a + jcost fr mr q else a) a) (J.foldl (fun a q => if q.1 / nI 1440 = nI d then zmax a (jwid q) else a) b)
  | [], _, _, _, h => h
  | q :: J, a, b, hw, h => by
    refine dd_gen J _ _ (fun q hq => hw q (List.mem_cons_of_mem _ hq)) ?_
    dsimp only
    by_cases hh : q.1 / nI 1440 = nI d
    · rw [if_pos hh, if_pos hh]
      obtain ⟨w, w1, w2, w3⟩ := hw q List.mem_cons_self
      refine Or.inr ?_
      rw [w3]
      rcases h with ⟨-, h⟩ | ⟨v, v1, v2, h⟩
      · rw [h, ← nI_0, zmax_n (by omega) (by omega)]
        exact ⟨max 0 w, by omega, by omega, rfl⟩
      · rw [h, zmax_n (by omega) (by omega)]
        exact ⟨max v w, by omega, by omega, rfl⟩
    · rw [if_neg hh, if_neg hh]
      exact h
theorem dd_P {fr : Nat → Int32} {mr : Int32} {d : Nat} {J : List Jrn} (hw : widP J) : ddP (dsm fr mr J d) (dwd J d) := dd_gen J 0 0 hw (Or.inl ⟨rfl, rfl⟩)
theorem wmx_P {f : Nat → Int32} : ∀ (k d : Nat) (x : Int32), (∀ j, d ≤ j → j < d + k → ∃ w, w ≤ 5 ∧ f j = nI w) → (∃ w, w ≤ 5 ∧ x = nI w) → ∃ w, w ≤ 5 ∧ wmx f k d x = nI w
  | 0, _, _, _, hx => hx
  | k + 1, d, x, hf, hx => by
    refine wmx_P k (d + 1) _ (fun j h1 h2 => hf j (by omega) (by omega)) ?_
    obtain ⟨a, a1, a2⟩ := hx
    obtain ⟨b, b1, b2⟩ := hf d (by omega) (by omega)
    rw [a2, b2, zmax_n (by omega) (by omega)]
    exact ⟨max a b, by omega, rfl⟩
section MDy
variable {e n : Nat} {h : mz_H} {Q : mz_Q} {g : Nat → Int32} {r j : Int32} {su wd ow la wk iw : Nat → Int32}
theorem m_weekAt {d : Nat} (ho : h 186 = mo r j) (hg : h 187 = .inl (0, 423, g)) (hw : h 202 = .inl (0, 28, wd)) (hd : d ≤ 21) (hP : ∀ j, j < 28 → ∃ w, w ≤ 5 ∧ wd j = nI w) (H : Q (some (.int (wkc (wrG g) wd d))) n h) : mz_wc (e + 1) 144 [.ref 186, .int (nI d)] n h Q := by
  refine mz_wc.enter (code := co_X11_weekAt) (idx := 144) rfl rfl (Nat.le_of_ble_eq_true rfl) rfl rfl ?_
  refine mz_WP.run 4 rfl ?_
  have loop : ∀ q i x, i + q = d + 7 → wmx wd q i x = wmx wd 7 d 0 → mz_WP (mz_wc e) e 1 co_X11_weekAt Q 4 [some (.ref 186), some (.int (nI d)), some (.int x), some (.int (nI i))] [] n h 0 0 := by
    intro q
    induction q with
    | zero =>
      intro i x hi hx
      have hx : x = wmx wd 7 d 0 := hx
      obtain ⟨w, w1, w2⟩ := wmx_P (f := wd) 7 d 0 (fun j h1 h2 => hP j (by omega)) ⟨0, by omega, nI_0.symm⟩
      unfold wkc at H
      rw [← hx] at H w2
      refine mz_WP.run 80 rfl ?_
      rw [nI_add]
      refine mz_WP.icmp rfl (fun c => ?_) (fun c => ?_)
      · refine mz_WP.run 80 rfl ?_
        refine mz_WP.ifc rfl (fun c1 => ?_) (fun c1 => ?_)
        · have c1 : ¬ x = 0 := c1
          rw [if_neg c1, w2, rat_in (by omega) (by decide)] at H
          have hw0 : ¬ w = 0 := fun z => c1 (by rw [w2, z, nI_0])
          unfold wrG at H
          rw [if_neg hw0] at H
          refine mz_WP.run 80 rfl ?_
          refine mz_WP.getf rfl (ho) rfl (Nat.le_of_ble_eq_true rfl) ?_
          refine mz_WP.run 80 rfl ?_
          refine mz_WP.alN (k := 405 + w) rfl hg (by rw [w2, nI_add, pk_sub (by omega)]; congr 1; omega) (by omega) (by decide) ?_
          exact mz_WP.ret rfl rfl H
        · have c1 : x = 0 := Classical.byContradiction c1
          rw [if_pos c1] at H
          refine mz_WP.run 80 rfl ?_
          refine mz_WP.run 80 rfl ?_
          exact mz_WP.ret rfl rfl H
      · exact absurd (nI_le (by omega) (by omega)) c
    | succ q ih =>
      intro i x hi hx
      have hx : wmx wd q (i + 1) (zmax x (wd i)) = wmx wd 7 d 0 := hx
      have nx := ih (i + 1) (zmax x (wd i)) (by omega) hx
      rw [nI_succ i] at nx
      refine mz_WP.run 80 rfl ?_
      rw [nI_add]
      refine mz_WP.icmp rfl (fun c => ?_) (fun c => ?_)
      · exact absurd c (nI_ge (by omega) (by omega))
      · refine mz_WP.run 80 rfl ?_
        refine mz_WP.getf rfl (ho) rfl (Nat.le_of_ble_eq_true rfl) ?_
        refine mz_WP.run 80 rfl ?_
        refine mz_WP.alN rfl hw rfl (by omega) (by decide) ?_
        refine mz_WP.run 80 rfl ?_
        refine mz_WP.icmp rfl (fun c1 => ?_) (fun c1 => ?_)
        · rw [zmax_f c1] at nx
          refine mz_WP.run 80 rfl ?_
          exact nx
        · rw [zmax_t c1] at nx
          refine mz_WP.run 80 rfl ?_
          refine mz_WP.getf rfl (ho) rfl (Nat.le_of_ble_eq_true rfl) ?_
          refine mz_WP.run 80 rfl ?_
          refine mz_WP.alN rfl hw rfl (by omega) (by decide) ?_
          refine mz_WP.run 80 rfl ?_
          refine mz_WP.run 80 rfl ?_
          exact nx
  exact loop 7 d 0 rfl rfl
end MDy
end
section
/-! the reference: days laid -/
section MDl
variable {e n : Nat} {h : mz_H} {Q : mz_Q} {g : Nat → Int32} {r j : Int32}
theorem MJ.wid {l : List Rde} (M : MJ h g l) : widP (gJ g l) := by
  obtain ⟨kd, st, sp, bg, en, lm, jo, fi, le, wi, co, -, -, -, -, -, -, hq⟩ := M
  intro q hm
  obtain ⟨i, hi⟩ := List.getElem?_of_mem hm
  obtain ⟨f, w, -, -, -, -, w1, w2, w3, -, -⟩ := hq i q hi
  exact ⟨w, w1, w2, w3⟩
theorem MJ.to {h' : mz_H} {l : List Rde} (M : MJ h g l) (hh : ∀ b, 186 ≤ b → b ≤ 200 → b ≠ 187 → h' b = h b) : MJ h' g l := by
  obtain ⟨kd, st, sp, bg, en, lm, jo, fi, le, wi, co, e0, R, J, x⟩ := M
  exact ⟨kd, st, sp, bg, en, lm, jo, fi, le, wi, co, (hh _ (by omega) (by omega) (by omega)).trans e0, R.to (fun b _ _ => hh b (by omega) (by omega) (by omega)), J.to (fun b _ _ => hh b (by omega) (by omega) (by omega)), x⟩
theorem gJ_day {c k : Nat} (Wc : WFc g c k) : ∀ (i : Nat) (q : Jrn), (gJ g (gL g c k))[i]? = some q → dayP q.1 := by
  have hm : ∀ x, x < k → dayP (gm g c x) := fun x hx => by
    obtain ⟨y, y1, y2⟩ := Wc.2.2.1 x hx
    rw [y2]
    exact dayP_of y1
  exact jl_mom dayP (fun i r hr => (rl_mom hm k (Nat.le_refl k) i r hr).1) _
theorem r_layDays {c k : Nat} (W : WF g) (Wc : WFc g c k) (hc : c < 4) (ho : h 186 = mo r j) (hg : h 187 = .inl (0, 423, g)) (S1 : mrS h) (S2 : mjS h) (S3 : mdS h) (H : ∀ h', MD h' g (gL g c k) → (∀ b, b ≠ 186 → (b < 190 ∨ 206 < b) → h' b = h b) → Q none n h') : mz_wc (e + 4) 145 [.ref 186, .int (nI c)] n h Q := by
  refine mz_wc.enter (code := co_X11_layDays) (idx := 145) rfl rfl (Nat.le_of_ble_eq_true rfl) rfl rfl ?_
  refine mz_WP.run 80 rfl ?_
  refine mz_WP.cv rfl rfl (Nat.le_of_ble_eq_true rfl) rfl (ho) rfl (m_layJ W Wc hc ho hg S1 S2 (fun h1 M o1 => ?_))
  have hday := gJ_day Wc
  have hl : (gL g c k).length ≤ 48 := Nat.le_trans (rl_len k _ _ _ k) Wc.1
  generalize hgl : gL g c k = l at *
  have hJ48 : (gJ g l).length ≤ 48 := Nat.le_trans (jl_len _ _ l l.length) hl
  have hwP := M.wid
  have hg1 : h1 187 = .inl (0, 423, g) := (o1 187 (by omega) (by omega)).trans hg
  obtain ⟨su, wd, ow, la, wk, iw, e1, e2, e3, e4, e5, e6⟩ := S3
  have E := md_id (h0 := h1) ((o1 201 (by omega) (by omega)).trans e1) ((o1 202 (by omega) (by omega)).trans e2) ((o1 203 (by omega) (by omega)).trans e3) ((o1 204 (by omega) (by omega)).trans e4) ((o1 205 (by omega) (by omega)).trans e5) ((o1 206 (by omega) (by omega)).trans e6)
  obtain ⟨kd, st, sp, bg, en, lm, jo, fi, le, wi, co, ho1, R1, J1, RA, LM, hjo, hq⟩ := id M
  have lo : ∀ {su wd ow la wk iw}, mdH h1 su wd ow la wk iw 186 = mo (nI l.length) (nI (gJ g l).length) := fun {su wd ow la wk iw} => (md_lt (by omega)).trans ho1
  have lg : ∀ {su wd ow la wk iw}, mdH h1 su wd ow la wk iw 187 = .inl (0, 423, g) := fun {su wd ow la wk iw} => (md_lt (by omega)).trans hg1
  have lb : ∀ {su wd ow la wk iw}, mdH h1 su wd ow la wk iw 193 = .inl (0, 48, bg) := fun {su wd ow la wk iw} => (md_lt (by omega)).trans R1.2.2.2.1
  have lf : ∀ {su wd ow la wk iw}, mdH h1 su wd ow la wk iw 197 = .inl (0, 48, fi) := fun {su wd ow la wk iw} => (md_lt (by omega)).trans J1.2.1
  have lw : ∀ {su wd ow la wk iw}, mdH h1 su wd ow la wk iw 199 = .inl (0, 48, wi) := fun {su wd ow la wk iw} => (md_lt (by omega)).trans J1.2.2.2.1
  have lc : ∀ {su wd ow la wk iw}, mdH h1 su wd ow la wk iw 200 = .inl (0, 48, co) := fun {su wd ow la wk iw} => (md_lt (by omega)).trans J1.2.2.2.2
  -- the plans
  have plans : ∀ (x2 x3 x4 : Option Value) (su wd ow la wk iw : Nat → Int32), (∀ d, d < 28 → su d = dsm (frG g) (g 411) (gJ g l) d ∧ wd d = dwd (gJ g l) d ∧ ow d = gO g (gJ g l) d) → mz_WP (mz_wc (e + 3)) (e + 3) 0 co_X11_layDays Q 187 [some (.ref 186), some (.int (nI c)), x2, x3, x4] [] n (mdH h1 su wd ow la wk iw) 0 0 := by
    intro x2 x3 x4 su wd ow la wk iw hs
    have hP : ∀ j, j < 28 → ∃ w, w ≤ 5 ∧ wd j = nI w := fun j hj => by
      rw [(hs j hj).2.1]
      rcases dd_P (fr := frG g) (mr := g 411) (d := j) hwP with ⟨-, h⟩ | ⟨w, -, w2, h⟩
      · exact ⟨0, by omega, by rw [h, nI_0]⟩
      · exact ⟨w, w2, h⟩
    have hO : ∀ d, d < 28 → ow d = gO g (gJ g l) d := fun d hd => (hs d hd).2.2
    have hK : ∀ d, d ≤ 21 → wkc (wrG g) wd d = gK g (gJ g l) d := fun d hd => by
      show wkc (wrG g) wd d = wkc (wrG g) (dwd (gJ g l)) d
      unfold wkc
      rw [wmx_c 7 d 0 (fun j h1 h2 => (hs j (by omega)).2.1)]
    refine mz_WP.run 80 rfl ?_
    refine mz_WP.getf rfl (lo) rfl (Nat.le_of_ble_eq_true rfl) ?_
    refine mz_WP.run 80 rfl ?_
    refine mz_WP.asN (k := 28) rfl rfl (by omega) rfl (by omega) (by decide) ?_
    rw [md_u4]
    refine mz_WP.run 80 rfl ?_
    refine mz_WP.getf rfl (lo) rfl (Nat.le_of_ble_eq_true rfl) ?_
    refine mz_WP.run 80 rfl ?_
    refine mz_WP.asN (k := 28) rfl rfl (by omega) rfl (by omega) (by decide) ?_
    rw [md_u5]
    refine mz_WP.run 2 rfl ?_
    have fin : ∀ (x2 x3 x4 : Option Value) (la wk iw : Nat → Int32), PRep (dpl ow (wkc (wrG g) wd) 28) 0 la wk iw → mz_WP (mz_wc (e + 3)) (e + 3) 0 co_X11_layDays Q 346 [some (.ref 186), some (.int (nI c)), x2, x3, x4] [] n (mdH h1 su wd ow la wk iw) 0 0 := by
      intro x2 x3 x4 la wk iw P
      have at' : ∀ d, d ≤ 28 → (dpl ow (wkc (wrG g) wd) 28)[d]? = some (dpv ow (wkc (wrG g) wd) d) := by
        intro d hd
        have hlt : d < (dpl ow (wkc (wrG g) wd) 28).length := by rw [dpl_len]; omega
        rw [List.getElem?_eq_getElem hlt]
        have e1 := dpl_at ow (wkc (wrG g) wd) d (28 - d)
        rw [show 28 - d + d = 28 by omega, List.getD_eq_getElem?_getD, List.getElem?_eq_getElem hlt] at e1
        exact congrArg some e1
      have z := P 0 _ (at' 0 (by omega))
      refine mz_WP.vret rfl rfl (H _ ⟨M.to (fun b _ _ _ => md_lt (by omega)), su, wd, ow, la, wk, iw, ⟨rfl, rfl, rfl, rfl, rfl, rfl⟩, hs, ?_, ?_, fun d hd => ?_⟩ (fun b b1 b2 => (md_lt (by omega)).trans (o1 b b1 (by omega))))
      · rw [← dpv_c hO hK 0]
        exact z.1
      · rw [← dpv_c hO hK 0]
        exact z.2.1
      · have := (P d _ (at' d (by omega))).2.2 (by omega)
        rw [Nat.zero_add] at this
        rw [this, ← bgn_c hO hK]
        unfold bgn
        rw [if_pos hd]
    have loop : ∀ q r, r + q = 28 → ∀ (x3 x4 : Option Value) (la wk iw : Nat → Int32), PRep (dpl ow (wkc (wrG g) wd) r) (28 - r) la wk iw → mz_WP (mz_wc (e + 3)) (e + 3) 0 co_X11_layDays Q 206 [some (.ref 186), some (.int (nI c)), some (.int (nI q - nI 1)), x3, x4] [] n (mdH h1 su wd ow la wk iw) 0 0 := by
      intro q
      induction q with
      | zero =>
        intro r hr x3 x4 la wk iw P
        have hr : r = 28 := by omega
        subst hr
        refine mz_WP.run 80 rfl ?_
        refine mz_WP.ifc rfl (fun cn => ?_) (fun cn => ?_)
        · exact fin _ _ _ la wk iw P
        · exact absurd (show nI 0 - nI 1 < 0 by decide) cn
      | succ q ih =>
        intro r hr x3 x4 la wk iw P
        obtain ⟨P0c, P0w⟩ := P.get (j := 0) (by rw [dpl_len]; omega)
        rw [Nat.add_zero, show 28 - r = q + 1 by omega] at P0c P0w
        rw [show nI (q + 1) - nI 1 = nI q from nI_pred q]
        have P' : PRep (dpl ow (wkc (wrG g) wd) r) (q + 1) la wk iw := by rw [show q + 1 = 28 - r by omega]; exact P
        have hnew : dpl ow (wkc (wrG g) wd) (r + 1) = dstep (ow q) (wkc (wrG g) wd q) (decide (6 ≤ r)) ((dpl ow (wkc (wrG g) wd) r).getD 0 (0, 0, false)) ((dpl ow (wkc (wrG g) wd) r).getD 6 (0, 0, false)) :: dpl ow (wkc (wrG g) wd) r := by
          show dstep (ow (27 - r)) (wkc (wrG g) wd (27 - r)) _ _ _ :: _ = _
          rw [show 27 - r = q by omega]
        have next : ∀ (x3 x4 : Option Value) (la wk iw : Nat → Int32), PRep (dpl ow (wkc (wrG g) wd) (r + 1)) q la wk iw → mz_WP (mz_wc (e + 3)) (e + 3) 0 co_X11_layDays Q 340 [some (.ref 186), some (.int (nI c)), some (.int (nI q)), x3, x4] [] n (mdH h1 su wd ow la wk iw) 0 0 := by
          intro x3 x4 la wk iw P
          refine mz_WP.run 80 rfl ?_
          have := ih (r + 1) (by omega) x3 x4 la wk iw (by rw [show 28 - (r + 1) = q by omega]; exact P)
          rw [show nI q + nI 4294967295 = nI q - nI 1 from by rw [Int32.sub_eq_add_neg]; rfl]
          exact this
        refine mz_WP.run 80 rfl ?_
        refine mz_WP.ifc rfl (fun cn => ?_) (fun cn => ?_)
        · exact absurd cn (nI_pos (by omega))
        refine mz_WP.run 80 rfl ?_
        refine mz_WP.getf rfl (lo) rfl (Nat.le_of_ble_eq_true rfl) ?_
        refine mz_WP.run 80 rfl ?_
        refine mz_WP.getf rfl (lo) rfl (Nat.le_of_ble_eq_true rfl) ?_
        refine mz_WP.run 80 rfl ?_
        refine mz_WP.alN rfl rfl rfl (by omega) (by decide) ?_
        refine mz_WP.run 80 rfl ?_
        refine mz_WP.getf rfl (lo) rfl (Nat.le_of_ble_eq_true rfl) ?_
        refine mz_WP.run 80 rfl ?_
        refine mz_WP.alN rfl rfl (nI_add _ _) (by omega) (by decide) ?_
        refine mz_WP.run 80 rfl ?_
        refine mz_WP.asN rfl rfl (by omega) rfl (by omega) (by decide) ?_
        rw [md_u4]
        refine mz_WP.run 80 rfl ?_
        refine mz_WP.getf rfl (lo) rfl (Nat.le_of_ble_eq_true rfl) ?_
        refine mz_WP.run 80 rfl ?_
        refine mz_WP.getf rfl (lo) rfl (Nat.le_of_ble_eq_true rfl) ?_
        refine mz_WP.run 80 rfl ?_
        refine mz_WP.alN rfl rfl (nI_add _ _) (by omega) (by decide) ?_
        refine mz_WP.asN rfl rfl (by omega) rfl (by omega) (by decide) ?_
        rw [md_u5]
        refine mz_WP.run 80 rfl ?_
        refine mz_WP.getf rfl (lo) rfl (Nat.le_of_ble_eq_true rfl) ?_
        refine mz_WP.run 80 rfl ?_
        refine mz_WP.bsN false rfl rfl (by omega) rfl (by omega) (by decide) nI_0 ?_
        rw [md_u6]
        have keep : ∀ (x3 x4 : Option Value), dpl ow (wkc (wrG g) wd) (r + 1) = (ow q + ((dpl ow (wkc (wrG g) wd) r).getD 0 (0, 0, false)).1, ((dpl ow (wkc (wrG g) wd) r).getD 0 (0, 0, false)).2.1, false) :: dpl ow (wkc (wrG g) wd) r → mz_WP (mz_wc (e + 3)) (e + 3) 0 co_X11_layDays Q 340 [some (.ref 186), some (.int (nI c)), some (.int (nI q)), x3, x4] [] n (mdH h1 su wd ow (upd la q (ow q + la (q + 1))) (upd wk q (wk (q + 1))) (upd iw q (bI false))) 0 0 := by
          intro x3 x4 hz
          refine next x3 x4 _ _ _ ?_
          rw [hz, P0c, P0w]
          exact P'.cons (v := (ow q + ((dpl ow (wkc (wrG g) wd) r).getD 0 (0, 0, false)).1, ((dpl ow (wkc (wrG g) wd) r).getD 0 (0, 0, false)).2.1, false)) (by omega)
        refine mz_WP.run 80 rfl ?_
        refine mz_WP.icmp rfl (fun c1 => ?_) (fun c1 => ?_)
        · have hq : 21 < q := (nI_ltI (by omega) (by omega)).mp c1
          exact keep _ _ (by rw [hnew, dstep_f (fun z => absurd (of_decide_eq_true z.1) (by omega))])
        have hq : q ≤ 21 := by
          rcases Nat.lt_or_ge 21 q with z | z
          · exact absurd (nI_lt z (by omega)) c1
          · exact z
        obtain ⟨P6c, P6w⟩ := P'.get (j := 6) (by rw [dpl_len]; omega)
        rw [show q + 1 + 6 = q + 7 by omega] at P6c P6w
        refine mz_WP.run 80 rfl ?_
        refine mz_WP.cv rfl rfl (Nat.le_of_ble_eq_true rfl) rfl (lo) rfl (m_weekAt lo lg rfl hq hP ?_)
        refine mz_WP.run 80 rfl ?_
        refine mz_WP.getf rfl (lo) rfl (Nat.le_of_ble_eq_true rfl) ?_
        refine mz_WP.run 80 rfl ?_
        refine mz_WP.alN rfl rfl (nI_add _ _) (by omega) (by decide) ?_
        rw [updN (show q + 7 ≠ q by omega)]
        refine mz_WP.run 80 rfl ?_
        refine mz_WP.getf rfl (lo) rfl (Nat.le_of_ble_eq_true rfl) ?_
        refine mz_WP.run 80 rfl ?_
        refine mz_WP.alN rfl rfl (nI_add _ _) (by omega) (by decide) ?_
        rw [updN (show q + 7 ≠ q by omega)]
        refine mz_WP.run 80 rfl ?_
        refine mz_WP.getf rfl (lo) rfl (Nat.le_of_ble_eq_true rfl) ?_
        refine mz_WP.run 80 rfl ?_
        refine mz_WP.alN rfl rfl rfl (by omega) (by decide) ?_
        rw [updS]
        have take : (wkc (wrG g) wd q + la (q + 7) < ow q + la (q + 1) ∨ (wkc (wrG g) wd q + la (q + 7) = ow q + la (q + 1) ∧ nI 1 + wk (q + 7) ≤ wk (q + 1))) → mz_WP (mz_wc (e + 3)) (e + 3) 0 co_X11_layDays Q 318 [some (.ref 186), some (.int (nI c)), some (.int (nI q)), some (.int (wkc (wrG g) wd q + la (q + 7))), some (.int (nI 1 + wk (q + 7)))] [] n (mdH h1 su wd ow (upd la q (ow q + la (q + 1))) (upd wk q (wk (q + 1))) (upd iw q (bI false))) 0 0 := by
          intro hc
          refine mz_WP.run 80 rfl ?_
          refine mz_WP.getf rfl (lo) rfl (Nat.le_of_ble_eq_true rfl) ?_
          refine mz_WP.run 80 rfl ?_
          refine mz_WP.asN rfl rfl (by omega) rfl (by omega) (by decide) ?_
          rw [md_u4, updU]
          refine mz_WP.run 80 rfl ?_
          refine mz_WP.getf rfl (lo) rfl (Nat.le_of_ble_eq_true rfl) ?_
          refine mz_WP.run 80 rfl ?_
          refine mz_WP.asN rfl rfl (by omega) rfl (by omega) (by decide) ?_
          rw [md_u5, updU]
          refine mz_WP.run 80 rfl ?_
          refine mz_WP.getf rfl (lo) rfl (Nat.le_of_ble_eq_true rfl) ?_
          refine mz_WP.run 80 rfl ?_
          refine mz_WP.bsN true rfl rfl (by omega) rfl (by omega) (by decide) nI1 ?_
          rw [md_u6, updU]
          refine next _ _ _ _ _ ?_
          rw [P6c, P6w, P0c, P0w] at hc
          rw [hnew, decide_eq_true (show 6 ≤ r by omega), dstep_t hc, P6c, P6w]
          exact P'.cons (v := (wkc (wrG g) wd q + ((dpl ow (wkc (wrG g) wd) r).getD 6 (0, 0, false)).1, nI 1 + ((dpl ow (wkc (wrG g) wd) r).getD 6 (0, 0, false)).2.1, true)) (by omega)
        have leave : ¬ (wkc (wrG g) wd q + la (q + 7) < ow q + la (q + 1) ∨ (wkc (wrG g) wd q + la (q + 7) = ow q + la (q + 1) ∧ nI 1 + wk (q + 7) ≤ wk (q + 1))) → mz_WP (mz_wc (e + 3)) (e + 3) 0 co_X11_layDays Q 340 [some (.ref 186), some (.int (nI c)), some (.int (nI q)), some (.int (wkc (wrG g) wd q + la (q + 7))), some (.int (nI 1 + wk (q + 7)))] [] n (mdH h1 su wd ow (upd la q (ow q + la (q + 1))) (upd wk q (wk (q + 1))) (upd iw q (bI false))) 0 0 := by
          intro hc
          rw [P6c, P6w, P0c, P0w] at hc
          have := keep (some (.int (wkc (wrG g) wd q + la (q + 7)))) (some (.int (nI 1 + wk (q + 7)))) (by rw [hnew, dstep_f (fun z => hc z.2)])
          exact this
        refine mz_WP.icmp rfl (fun c2 => ?_) (fun c2 => ?_)
        · exact take (Or.inl c2)
        have c2 : ¬ wkc (wrG g) wd q + la (q + 7) < ow q + la (q + 1) := c2
        refine mz_WP.run 80 rfl ?_
        refine mz_WP.getf rfl (lo) rfl (Nat.le_of_ble_eq_true rfl) ?_
        refine mz_WP.run 80 rfl ?_
        refine mz_WP.alN rfl rfl rfl (by omega) (by decide) ?_
        rw [updS]
        refine mz_WP.icmp rfl (fun c3 => ?_) (fun c3 => ?_)
        · have c3 : ¬ wkc (wrG g) wd q + la (q + 7) = ow q + la (q + 1) := c3
          exact leave (fun z => Or.elim z c2 (fun z => c3 z.1))
        have c3 : wkc (wrG g) wd q + la (q + 7) = ow q + la (q + 1) := Classical.byContradiction c3
        refine mz_WP.run 80 rfl ?_
        refine mz_WP.getf rfl (lo) rfl (Nat.le_of_ble_eq_true rfl) ?_
        refine mz_WP.run 80 rfl ?_
        refine mz_WP.alN rfl rfl rfl (by omega) (by decide) ?_
        rw [updS]
        refine mz_WP.icmp rfl (fun c4 => ?_) (fun c4 => ?_)
        · have c4 : ¬ nI 1 + wk (q + 7) ≤ wk (q + 1) := Int32.not_le.mpr c4
          exact leave (fun z => Or.elim z c2 (fun z => c4 z.2))
        · have c4 : nI 1 + wk (q + 7) ≤ wk (q + 1) := Int32.not_lt.mp c4
          exact take (Or.inr ⟨c3, c4⟩)
    have := loop 28 0 rfl x3 x4 (upd la 28 (nI 0)) (upd wk 28 (nI 0)) iw (by
      intro j v hv
      cases j with
      | zero =>
        cases hv
        show upd la 28 (nI 0) 28 = _ ∧ upd wk 28 (nI 0) 28 = _ ∧ _
        rw [updS, updS]
        exact ⟨nI_0, nI_0, fun z => absurd z (by decide)⟩
      | succ j => simp [dpl] at hv)
    exact this
  -- what the days owe
  have owes : ∀ q i (x3 x4 : Option Value) (su wd ow la wk iw : Nat → Int32), i + q = 28 → (∀ d, d < 28 → su d = dsm (frG g) (g 411) (gJ g l) d ∧ wd d = dwd (gJ g l) d) → (∀ d, d < i → ow d = gO g (gJ g l) d) → mz_WP (mz_wc (e + 3)) (e + 3) 0 co_X11_layDays Q 118 [some (.ref 186), some (.int (nI c)), some (.int (nI i)), x3, x4] [] n (mdH h1 su wd ow la wk iw) 0 0 := by
    intro q
    induction q with
    | zero =>
      intro i x3 x4 su wd ow la wk iw hi hs hw
      have hi : i = 28 := by omega
      subst hi
      refine mz_WP.run 80 rfl ?_
      refine mz_WP.icmp rfl (fun cc => ?_) (fun cc => ?_)
      · exact plans _ _ _ su wd ow la wk iw (fun d hd => ⟨(hs d hd).1, (hs d hd).2, hw d hd⟩)
      · exact absurd (nI_le (Nat.le_refl _) (by decide)) cc
    | succ q ih =>
      intro i x3 x4 su wd ow la wk iw hi hs hw
      refine mz_WP.run 80 rfl ?_
      refine mz_WP.icmp rfl (fun cc => ?_) (fun cc => ?_)
      · exact absurd cc (nI_ge (by omega) (by decide))
      obtain ⟨s1, s2⟩ := hs i (by omega)
      have dP := dd_P (fr := frG g) (mr := g 411) (d := i) hwP
      rw [← s1, ← s2] at dP
      have hOi : gO g (gJ g l) i = dow (crG g) (su i) (wd i) := by
        rw [s1, s2]
        rfl
      have st : ∀ cap : Int32, (if cap < su i then cap else su i) = gO g (gJ g l) i → mz_WP (mz_wc (e + 3)) (e + 3) 0 co_X11_layDays Q 155 [some (.ref 186), some (.int (nI c)), some (.int (nI i)), some (.int cap), x4] [] n (mdH h1 su wd ow la wk iw) 0 0 := by
        intro cap hcap
        have nx := ih (i + 1) (some (.int cap)) x4 su wd (upd ow i (gO g (gJ g l) i)) la wk iw (by omega) hs (fun d hd => by
          by_cases hdi : d = i
          · subst hdi
            rw [updS]
          · rw [updN hdi]
            exact hw d (by omega))
        rw [nI_succ i] at nx
        refine mz_WP.run 80 rfl ?_
        refine mz_WP.getf rfl (lo) rfl (Nat.le_of_ble_eq_true rfl) ?_
        refine mz_WP.run 80 rfl ?_
        refine mz_WP.getf rfl (lo) rfl (Nat.le_of_ble_eq_true rfl) ?_
        refine mz_WP.run 80 rfl ?_
        refine mz_WP.alN rfl rfl rfl (by omega) (by decide) ?_
        refine mz_WP.icmp rfl (fun c1 => ?_) (fun c1 => ?_)
        · rw [if_neg (Int32.not_lt.mpr c1)] at hcap
          refine mz_WP.run 80 rfl ?_
          refine mz_WP.getf rfl (lo) rfl (Nat.le_of_ble_eq_true rfl) ?_
          refine mz_WP.run 80 rfl ?_
          refine mz_WP.alN rfl rfl rfl (by omega) (by decide) ?_
          refine mz_WP.asN rfl rfl (by omega) rfl (by omega) (by decide) ?_
          rw [md_u3, hcap]
          refine mz_WP.run 80 rfl ?_
          exact nx
        · rw [if_pos (Int32.not_le.mp c1)] at hcap
          rw [← hcap] at nx
          refine mz_WP.run 80 rfl ?_
          refine mz_WP.run 80 rfl ?_
          refine mz_WP.asN rfl rfl (by omega) rfl (by omega) (by decide) ?_
          rw [md_u3]
          refine mz_WP.run 80 rfl ?_
          exact nx
      refine mz_WP.run 80 rfl ?_
      refine mz_WP.getf rfl (lo) rfl (Nat.le_of_ble_eq_true rfl) ?_
      refine mz_WP.run 80 rfl ?_
      refine mz_WP.alN rfl rfl rfl (by omega) (by decide) ?_
      refine mz_WP.ifc rfl (fun c0 => ?_) (fun c0 => ?_)
      · have c0 : ¬ wd i = 0 := c0
        rcases dP with ⟨-, z⟩ | ⟨w, w1, w2, w3⟩
        · exact absurd z c0
        · refine mz_WP.run 80 rfl ?_
          refine mz_WP.getf rfl (lo) rfl (Nat.le_of_ble_eq_true rfl) ?_
          refine mz_WP.run 80 rfl ?_
          refine mz_WP.getf rfl (lo) rfl (Nat.le_of_ble_eq_true rfl) ?_
          refine mz_WP.run 80 rfl ?_
          refine mz_WP.alN rfl rfl rfl (by omega) (by decide) ?_
          rw [w3]
          refine mz_WP.run 80 rfl ?_
          refine mz_WP.alN (k := 400 + w) rfl lg (by rw [nI_add, pk_sub (by omega)]; congr 1; omega) (by omega) (by decide) ?_
          refine mz_WP.run 1 rfl ?_
          refine st _ ?_
          rw [hOi]
          unfold dow
          rw [if_neg c0, w3, rat_in (by omega) (by decide), show crG g w = g (400 + w) from if_neg (by omega)]
      · have c0 : wd i = 0 := Classical.byContradiction c0
        rcases dP with ⟨z1, z2⟩ | ⟨w, w1, w2, w3⟩
        · refine mz_WP.run 2 rfl ?_
          refine mz_WP.run 1 rfl ?_
          refine st _ ?_
          rw [hOi]
          unfold dow
          rw [if_pos c0, z1, nI_0]
          decide
        · rw [w3] at c0
          exact absurd c0 (nI_ne0 (by omega) (by omega))
  -- sums and widths
  have sums : ∀ q i (x3 x4 : Option Value) (su wd ow la wk iw : Nat → Int32), i + q = (gJ g l).length → (∀ d, d < 28 → su d = dsm (frG g) (g 411) ((gJ g l).take i) d ∧ wd d = dwd ((gJ g l).take i) d) → mz_WP (mz_wc (e + 3)) (e + 3) 0 co_X11_layDays Q 35 [some (.ref 186), some (.int (nI c)), some (.int (nI i)), x3, x4] [] n (mdH h1 su wd ow la wk iw) 0 0 := by
    intro q
    induction q with
    | zero =>
      intro i x3 x4 su wd ow la wk iw hi hs
      have hi : i = (gJ g l).length := by omega
      subst hi
      rw [List.take_length] at hs
      refine mz_WP.run 80 rfl ?_
      refine mz_WP.getf rfl (lo) rfl (Nat.le_of_ble_eq_true rfl) ?_
      refine mz_WP.icmp rfl (fun cc => ?_) (fun cc => ?_)
      · refine mz_WP.run 2 rfl ?_
        exact owes 28 0 _ _ su wd ow la wk iw rfl hs (fun d hd => by omega)
      · exact absurd (nI_le (Nat.le_refl _) (by omega)) cc
    | succ q ih =>
      intro i x3 x4 su wd ow la wk iw hi hs
      obtain ⟨p, hp⟩ := geti (show i < (gJ g l).length by omega)
      obtain ⟨f, w, f1, f2, f3, f4, w1, w2, w3, w4, w5⟩ := hq i p hp
      obtain ⟨d, hd28, hd⟩ := hday i p hp
      refine mz_WP.run 80 rfl ?_
      refine mz_WP.getf rfl (lo) rfl (Nat.le_of_ble_eq_true rfl) ?_
      refine mz_WP.icmp rfl (fun cc => ?_) (fun cc => ?_)
      · exact absurd cc (nI_ge (by omega) (by omega))
      refine mz_WP.run 80 rfl ?_
      refine mz_WP.getf rfl (lo) rfl (Nat.le_of_ble_eq_true rfl) ?_
      refine mz_WP.run 80 rfl ?_
      refine mz_WP.getf rfl (lo) rfl (Nat.le_of_ble_eq_true rfl) ?_
      refine mz_WP.run 80 rfl ?_
      refine mz_WP.alN rfl lf rfl (by omega) (by decide) ?_
      rw [f2]
      refine mz_WP.alN rfl lb rfl (by omega) (by decide) ?_
      rw [f3]
      refine mz_WP.run 80 rfl ?_
      refine mz_WP.div rfl (by decide) ?_
      rw [hd]
      refine mz_WP.run 80 rfl ?_
      refine mz_WP.getf rfl (lo) rfl (Nat.le_of_ble_eq_true rfl) ?_
      refine mz_WP.run 80 rfl ?_
      refine mz_WP.alN rfl rfl rfl (by omega) (by decide) ?_
      refine mz_WP.run 80 rfl ?_
      refine mz_WP.getf rfl (lo) rfl (Nat.le_of_ble_eq_true rfl) ?_
      refine mz_WP.run 80 rfl ?_
      refine mz_WP.alN rfl lc rfl (by omega) (by decide) ?_
      rw [w5]
      refine mz_WP.run 80 rfl ?_
      refine mz_WP.asN rfl rfl (by omega) rfl (by omega) (by decide) ?_
      rw [md_u1]
      have nx := ih (i + 1) (some (.int (nI d))) x4 (upd su d (su d + jcost (frG g) (g 411) p)) (upd wd d (zmax (wd d) (jwid p))) ow la wk iw (by omega) (fun d2 hd2 => by
        rw [tk hp, dsm_app, dwd_app, hd]
        by_cases hdd : d2 = d
        · subst hdd
          rw [updS, updS, if_pos rfl, if_pos rfl, (hs d2 hd2).1, (hs d2 hd2).2]
          exact ⟨rfl, rfl⟩
        · have hne : ¬ nI d = nI d2 := fun z => hdd ((nI_eq (by omega) (by omega)).mp z).symm
          rw [updN hdd, updN hdd, if_neg hne, if_neg hne]
          exact hs d2 hd2)
      rw [nI_succ i, w3] at nx
      refine mz_WP.run 80 rfl ?_
      refine mz_WP.getf rfl (lo) rfl (Nat.le_of_ble_eq_true rfl) ?_
      refine mz_WP.run 80 rfl ?_
      refine mz_WP.getf rfl (lo) rfl (Nat.le_of_ble_eq_true rfl) ?_
      refine mz_WP.run 80 rfl ?_
      refine mz_WP.alN rfl lw rfl (by omega) (by decide) ?_
      rw [w4]
      refine mz_WP.run 80 rfl ?_
      refine mz_WP.getf rfl (lo) rfl (Nat.le_of_ble_eq_true rfl) ?_
      refine mz_WP.run 80 rfl ?_
      refine mz_WP.alN rfl rfl rfl (by omega) (by decide) ?_
      refine mz_WP.icmp rfl (fun c1 => ?_) (fun c1 => ?_)
      · rw [zmax_f c1] at nx
        refine mz_WP.run 80 rfl ?_
        refine mz_WP.getf rfl (lo) rfl (Nat.le_of_ble_eq_true rfl) ?_
        refine mz_WP.run 80 rfl ?_
        refine mz_WP.alN rfl rfl rfl (by omega) (by decide) ?_
        refine mz_WP.asN rfl rfl (by omega) rfl (by omega) (by decide) ?_
        rw [md_u2]
        refine mz_WP.run 80 rfl ?_
        exact nx
      · rw [zmax_t c1] at nx
        refine mz_WP.run 80 rfl ?_
        refine mz_WP.getf rfl (lo) rfl (Nat.le_of_ble_eq_true rfl) ?_
        refine mz_WP.run 80 rfl ?_
        refine mz_WP.alN rfl lw rfl (by omega) (by decide) ?_
        rw [w4]
        refine mz_WP.run 1 rfl ?_
        refine mz_WP.asN rfl rfl (by omega) rfl (by omega) (by decide) ?_
        rw [md_u2]
        refine mz_WP.run 80 rfl ?_
        exact nx
  -- cleared
  have clear : ∀ q i (x3 x4 : Option Value) (su wd ow la wk iw : Nat → Int32), i + q = 28 → (∀ d, d < i → su d = 0 ∧ wd d = 0) → mz_WP (mz_wc (e + 3)) (e + 3) 0 co_X11_layDays Q 7 [some (.ref 186), some (.int (nI c)), some (.int (nI i)), x3, x4] [] n (mdH h1 su wd ow la wk iw) 0 0 := by
    intro q
    induction q with
    | zero =>
      intro i x3 x4 su wd ow la wk iw hi hs
      have hi : i = 28 := by omega
      subst hi
      refine mz_WP.run 80 rfl ?_
      refine mz_WP.icmp rfl (fun cc => ?_) (fun cc => ?_)
      · refine mz_WP.run 2 rfl ?_
        exact sums (gJ g l).length 0 _ _ su wd ow la wk iw (by omega) hs
      · exact absurd (nI_le (Nat.le_refl _) (by decide)) cc
    | succ q ih =>
      intro i x3 x4 su wd ow la wk iw hi hs
      refine mz_WP.run 80 rfl ?_
      refine mz_WP.icmp rfl (fun cc => ?_) (fun cc => ?_)
      · exact absurd cc (nI_ge (by omega) (by decide))
      refine mz_WP.run 80 rfl ?_
      refine mz_WP.getf rfl (lo) rfl (Nat.le_of_ble_eq_true rfl) ?_
      refine mz_WP.run 80 rfl ?_
      refine mz_WP.asN rfl rfl (by omega) rfl (by omega) (by decide) ?_
      rw [md_u1]
      refine mz_WP.run 80 rfl ?_
      refine mz_WP.getf rfl (lo) rfl (Nat.le_of_ble_eq_true rfl) ?_
      refine mz_WP.run 80 rfl ?_
      refine mz_WP.asN rfl rfl (by omega) rfl (by omega) (by decide) ?_
      rw [md_u2]
      refine mz_WP.run 80 rfl ?_
      have nx := ih (i + 1) x3 x4 (upd su i (nI 0)) (upd wd i (nI 0)) ow la wk iw (by omega) (fun d hd => by
        by_cases hdi : d = i
        · subst hdi
          rw [updS, updS]
          exact ⟨nI_0, nI_0⟩
        · rw [updN hdi, updN hdi]
          exact hs d (by omega))
      rw [nI_succ i] at nx
      exact nx
  have start := clear 28 0 none none su wd ow la wk iw rfl (fun d hd => by omega)
  rw [E] at start
  refine mz_WP.run 2 rfl ?_
  exact start
end MDl
end
section
/-! the reference: the weeks of the best plan -/
def wkA (S : List Nat) (i : Nat) : Int32 := match S[i]? with
  | some s => nI s
  | none => NN
theorem inB_n {a lo hi : Nat} (ha : a < 2 ^ 31) (hl : lo < 2 ^ 31) (hh : hi < 2 ^ 31) : inB (nI a) (nI lo) (nI hi) = (decide (lo ≤ a) && decide (a < hi + 1)) := by
  unfold inB
  by_cases h1 : a < lo
  · rw [decide_eq_true (nI_lt h1 hl), decide_eq_false (show ¬ lo ≤ a by omega)]
    rfl
  · rw [decide_eq_false (nI_nlt (by omega) ha), decide_eq_true (show lo ≤ a by omega)]
    by_cases h2 : hi < a
    · rw [decide_eq_true (nI_lt h2 ha), decide_eq_false (show ¬ a < hi + 1 by omega)]
      rfl
    · rw [decide_eq_false (nI_nlt (by omega) hh), decide_eq_true (show a < hi + 1 by omega)]
      rfl
theorem inS_app {S : List Nat} {s d : Nat} : inS (S ++ [s]) d = (inS S d || (decide (s ≤ d) && decide (d < s + 7))) := by
  unfold inS
  rw [List.any_append]
  show (_ || ((decide (s ≤ d) && decide (d < s + 7)) || false)) = _
  rw [Bool.or_false]
section MW
variable {e n : Nat} {h : mz_H} {Q : mz_Q} {g : Nat → Int32} {r j : Int32} {iw : Nat → Int32} {bg : Nat → Bool}
theorem m_weekOf {kk : Nat} (ho : h 186 = mo r j) (hw : h 206 = .inl (1, 36, iw)) (hb : ∀ d, d < 28 → iw d = bI (bg d)) (hk : kk < 100) (H : Q (some (.int (wkA (wkd bg 0) kk))) n h) : mz_wc (e + 1) 146 [.ref 186, .int (nI kk)] n h Q := by
  refine mz_wc.enter (code := co_X11_weekOf) (idx := 146) rfl rfl (Nat.le_of_ble_eq_true rfl) rfl rfl ?_
  refine mz_WP.run 4 rfl ?_
  have loop : ∀ q m d, 28 - d ≤ q → d < 100 → m ≤ kk → wkA (wkd bg d) (kk - m) = wkA (wkd bg 0) kk → mz_WP (mz_wc e) e 1 co_X11_weekOf Q 4 [some (.ref 186), some (.int (nI kk)), some (.int (nI m)), some (.int (nI d))] [] n h 0 0 := by
    intro q
    induction q with
    | zero =>
      intro m d hq hd hm he
      rw [wkd_e (by omega)] at he
      have he : NN = wkA (wkd bg 0) kk := he
      refine mz_WP.run 80 rfl ?_
      refine mz_WP.icmp rfl (fun cc => ?_) (fun cc => ?_)
      · rw [← he] at H
        refine mz_WP.run 80 rfl ?_
        exact mz_WP.ret rfl rfl H
      · exact absurd (nI_le (by omega) (by omega)) cc
    | succ q ih =>
      intro m d hq hd hm he
      refine mz_WP.run 80 rfl ?_
      refine mz_WP.icmp rfl (fun cc => ?_) (fun cc => ?_)
      · have cc : nI 28 ≤ nI d := cc
        rw [nI_leI (by omega) (by omega)] at cc
        rw [wkd_e cc] at he
        have he : NN = wkA (wkd bg 0) kk := he
        rw [← he] at H
        refine mz_WP.run 80 rfl ?_
        exact mz_WP.ret rfl rfl H
      have cc : ¬ nI 28 ≤ nI d := cc
      rw [nI_leI (by omega) (by omega)] at cc
      have hd28 : d < 28 := by omega
      refine mz_WP.run 80 rfl ?_
      refine mz_WP.getf rfl (ho) rfl (Nat.le_of_ble_eq_true rfl) ?_
      refine mz_WP.run 80 rfl ?_
      refine mz_WP.blN rfl hw rfl (by omega) (by decide) ?_
      rw [hb d hd28]
      refine mz_WP.ifc rfl (fun c1 => ?_) (fun c1 => ?_)
      · have c1 := bI_f c1
        rw [wkd_n hd28 c1] at he
        refine mz_WP.run 80 rfl ?_
        have nx := ih m (d + 1) (by omega) (by omega) hm he
        rw [nI_succ d] at nx
        exact nx
      have c1 := bI_t c1
      rw [wkd_b hd28 c1] at he
      refine mz_WP.run 80 rfl ?_
      refine mz_WP.icmp rfl (fun c2 => ?_) (fun c2 => ?_)
      · have c2 : ¬ nI m = nI kk := c2
        have hmk : m < kk := by
          rcases Nat.lt_or_ge m kk with z | z
          · exact z
          · exact absurd (by rw [show m = kk by omega]) c2
        rw [show kk - m = kk - (m + 1) + 1 by omega] at he
        have he : wkA (wkd bg (d + 7)) (kk - (m + 1)) = wkA (wkd bg 0) kk := he
        refine mz_WP.run 80 rfl ?_
        have nx := ih (m + 1) (d + 7) (by omega) (by omega) (by omega) he
        rw [nI_succ m, ← nI_add d 7] at nx
        exact nx
      · have c2 : nI m = nI kk := Classical.byContradiction c2
        have hmk : m = kk := (nI_eq (by omega) (by omega)).mp c2
        subst hmk
        rw [Nat.sub_self] at he
        have he : nI d = wkA (wkd bg 0) m := he
        rw [← he] at H
        refine mz_WP.run 80 rfl ?_
        exact mz_WP.ret rfl rfl H
  exact loop 28 0 0 (by omega) (by omega) (by omega) rfl
theorem m_isOfWeek {dd : Nat} (ho : h 186 = mo r j) (hw : h 206 = .inl (1, 36, iw)) (hb : ∀ d, d < 28 → iw d = bI (bg d)) (h4 : (wkd bg 0).length ≤ 4) (hd : dd < 28) (H : Q (some (.int (bI (inS (wkd bg 0) dd)))) n h) : mz_wc (e + 2) 147 [.ref 186, .int (nI dd)] n h Q := by
  have h28 : ∀ (i s : Nat), (wkd bg 0)[i]? = some s → s < 28 := fun i s hs => (wkd_ge 28 0 rfl s (List.mem_of_getElem? hs)).2
  revert H h4 h28
  generalize hS : wkd bg 0 = S
  intro h4 H h28
  refine mz_wc.enter (code := co_X11_isOfWeek) (idx := 147) rfl rfl (Nat.le_of_ble_eq_true rfl) rfl rfl ?_
  refine mz_WP.run 4 rfl ?_
  have loop : ∀ q i x4, i + q = 4 → mz_WP (mz_wc (e + 1)) (e + 1) 2 co_X11_isOfWeek Q 4 [some (.ref 186), some (.int (nI dd)), some (.int (bI (inS (S.take i) dd))), some (.int (nI i)), x4] [] n h 0 0 := by
    intro q
    induction q with
    | zero =>
      intro i x4 hi
      have hi : i = 4 := by omega
      subst hi
      refine mz_WP.run 80 rfl ?_
      refine mz_WP.icmp rfl (fun cc => ?_) (fun cc => ?_)
      · rw [List.take_of_length_le h4]
        refine mz_WP.run 80 rfl ?_
        exact mz_WP.zret rfl rfl (bI_01 _) H
      · exact absurd (nI_le (Nat.le_refl _) (by decide)) cc
    | succ q ih =>
      intro i x4 hi
      have nx := fun x4 => ih (i + 1) x4 (by omega)
      have yes : ∀ x4, inS (S.take (i + 1)) dd = true → mz_WP (mz_wc (e + 1)) (e + 1) 2 co_X11_isOfWeek Q 39 [some (.ref 186), some (.int (nI dd)), some (.int (bI (inS (S.take i) dd))), some (.int (nI i)), x4] [] n h 0 0 := by
        intro x4 hz
        have nx := nx x4
        rw [hz, nI_succ i] at nx
        refine mz_WP.run 80 rfl ?_
        refine mz_WP.run 80 rfl ?_
        exact nx
      have no : ∀ x4, inS (S.take (i + 1)) dd = false → mz_WP (mz_wc (e + 1)) (e + 1) 2 co_X11_isOfWeek Q 43 [some (.ref 186), some (.int (nI dd)), some (.int (bI (inS (S.take i) dd))), some (.int (nI i)), x4] [] n h 0 0 := by
        intro x4 hz
        have nx := nx x4
        rw [hz, nI_succ i] at nx
        refine mz_WP.run 80 rfl ?_
        exact nx
      refine mz_WP.run 80 rfl ?_
      refine mz_WP.icmp rfl (fun cc => ?_) (fun cc => ?_)
      · exact absurd cc (nI_ge (by omega) (by decide))
      refine mz_WP.run 80 rfl ?_
      refine mz_WP.cv rfl rfl (Nat.le_of_ble_eq_true rfl) rfl (ho) rfl (m_weekOf ho hw hb (by omega) ?_)
      rw [hS]
      cases hs : S[i]? with
      | none =>
        have hk : S.take (i + 1) = S.take i := by
          have hl : S.length ≤ i := by
            rcases Nat.lt_or_ge i S.length with z | z
            · obtain ⟨s, hs'⟩ := geti z
              rw [hs'] at hs
              cases hs
            · exact z
          rw [List.take_of_length_le hl, List.take_of_length_le (by omega)]
        have hA : wkA S i = NN := by
          unfold wkA
          rw [hs]
        rw [hA]
        rw [hk] at yes no
        refine mz_WP.run 80 rfl ?_
        refine mz_WP.ifc rfl (fun c1 => ?_) (fun c1 => ?_)
        · exact yes _ (bI_t c1)
        have c1 := bI_f (Classical.byContradiction c1)
        refine mz_WP.run 80 rfl ?_
        refine mz_WP.ifc rfl (fun c2 => ?_) (fun c2 => ?_)
        · exact no _ c1
        · exact absurd (by decide : NN < 0) c2
      | some s =>
        have hs28 := h28 i s hs
        have hk := tk hs
        have hA : wkA S i = nI s := by
          unfold wkA
          rw [hs]
        rw [hA]
        rw [hk, inS_app] at yes no
        refine mz_WP.run 80 rfl ?_
        refine mz_WP.ifc rfl (fun c1 => ?_) (fun c1 => ?_)
        · exact yes _ (by rw [bI_t c1, Bool.true_or])
        have c1 := bI_f (Classical.byContradiction c1)
        rw [c1, Bool.false_or] at yes no
        rw [c1]
        refine mz_WP.run 80 rfl ?_
        refine mz_WP.ifc rfl (fun c2 => ?_) (fun c2 => ?_)
        · exact absurd c2 (nI_pos (by omega))
        refine mz_WP.run 80 rfl ?_
        rw [nI_add]
        refine mz_WP.cs rfl (by decide) rfl (Nat.le_of_ble_eq_true rfl) rfl (m_in ?_)
        rw [inB_n (by omega) (by omega) (by omega)]
        refine mz_WP.ifc rfl (fun c3 => ?_) (fun c3 => ?_)
        · exact no _ (bI_f c3)
        · refine mz_WP.run 0 rfl ?_
          exact yes _ (bI_t c3)
  exact loop 4 0 none rfl
end MW
end
