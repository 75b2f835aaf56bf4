/-! names: the classes, their fields; by program (wip/whole/gen.py) -/
def mz_RN (i : Nat) : String := match i with
  | 0 => "TapLedger$BarList"
  | 1 => "TapLedger$Bill"
  | 2 => "TapLedger$Days"
  | 3 => "TapLedger$Journeys"
  | 4 => "TapLedger$Plan"
  | 5 => "TapLedger$Rides"
  | 6 => "TapLedger$Row"
  | 7 => "TapLedger$State"
  | 8 => "TapLedger$Taps"
  | 9 => "TapLedger$Tariff"
  | 10 => "TapLedger"
  | 11 => "TapLedgerModel"
  | 12 => "TapLedgerLaw"
  | _ => "java/lang/Math"
def mz_T0 : u_T := fun k => match k with
  | 0 => ("TapLedger$BarList", "numbersAt", "LTapLedger$Row;", true)
  | 1 => ("TapLedger$BarList", "barredAt", "LTapLedger$Row;", true)
  | 2 => ("TapLedger$BarList", "number", "I", false)
  | _ => ("TapLedger$BarList", "barred", "I", false)
def mz_T1 : u_T := fun k => match k with
  | 0 => ("TapLedger$Bill", "rides", "LTapLedger$Rides;", true)
  | 1 => ("TapLedger$Bill", "journeys", "LTapLedger$Journeys;", true)
  | 2 => ("TapLedger$Bill", "days", "LTapLedger$Days;", true)
  | _ => ("TapLedger$Bill", "plan", "LTapLedger$Plan;", true)
def mz_T2 : u_T := fun k => match k with
  | 0 => ("TapLedger$Days", "sums", "LTapLedger$Row;", true)
  | 1 => ("TapLedger$Days", "widths", "LTapLedger$Row;", true)
  | _ => ("TapLedger$Days", "owes", "LTapLedger$Row;", true)
def mz_T3 : u_T := fun k => match k with
  | 0 => ("TapLedger$Journeys", "moments", "LTapLedger$Row;", true)
  | 1 => ("TapLedger$Journeys", "rideCounts", "LTapLedger$Row;", true)
  | 2 => ("TapLedger$Journeys", "leastZones", "LTapLedger$Row;", true)
  | 3 => ("TapLedger$Journeys", "greatestZones", "LTapLedger$Row;", true)
  | 4 => ("TapLedger$Journeys", "costs", "LTapLedger$Row;", true)
  | 5 => ("TapLedger$Journeys", "journeysOfRides", "LTapLedger$Row;", true)
  | _ => ("TapLedger$Journeys", "size", "I", false)
def mz_T4 : u_T := fun k => match k with
  | 0 => ("TapLedger$Plan", "costsFrom", "LTapLedger$Row;", true)
  | 1 => ("TapLedger$Plan", "weeksFrom", "LTapLedger$Row;", true)
  | 2 => ("TapLedger$Plan", "weekBegins", "LTapLedger$Row;", true)
  | 3 => ("TapLedger$Plan", "starts", "LTapLedger$Row;", true)
  | _ => ("TapLedger$Plan", "inWeek", "LTapLedger$Row;", true)
def mz_T5 : u_T := fun k => match k with
  | 0 => ("TapLedger$Rides", "beginStations", "LTapLedger$Row;", true)
  | 1 => ("TapLedger$Rides", "endStations", "LTapLedger$Row;", true)
  | 2 => ("TapLedger$Rides", "beginMoments", "LTapLedger$Row;", true)
  | 3 => ("TapLedger$Rides", "endMoments", "LTapLedger$Row;", true)
  | 4 => ("TapLedger$Rides", "kinds", "LTapLedger$Row;", true)
  | 5 => ("TapLedger$Rides", "lastEnds", "LTapLedger$Row;", true)
  | 6 => ("TapLedger$Rides", "lastBegins", "LTapLedger$Row;", true)
  | _ => ("TapLedger$Rides", "size", "I", false)
def mz_T6 : u_T := fun k => match k with
  | _ => ("TapLedger$Row", "cells", "[I", true)
def mz_T7 : u_T := fun k => match k with
  | 0 => ("TapLedger$State", "card0", "LTapLedger$Taps;", true)
  | 1 => ("TapLedger$State", "card1", "LTapLedger$Taps;", true)
  | 2 => ("TapLedger$State", "card2", "LTapLedger$Taps;", true)
  | 3 => ("TapLedger$State", "card3", "LTapLedger$Taps;", true)
  | 4 => ("TapLedger$State", "tariff", "LTapLedger$Tariff;", true)
  | _ => ("TapLedger$State", "list", "LTapLedger$BarList;", true)
def mz_T8 : u_T := fun k => match k with
  | 0 => ("TapLedger$Taps", "moments", "LTapLedger$Row;", true)
  | 1 => ("TapLedger$Taps", "stations", "LTapLedger$Row;", true)
  | 2 => ("TapLedger$Taps", "ways", "LTapLedger$Row;", true)
  | _ => ("TapLedger$Taps", "size", "I", false)
def mz_T9 : u_T := fun k => match k with
  | 0 => ("TapLedger$Tariff", "zones", "LTapLedger$Row;", true)
  | 1 => ("TapLedger$Tariff", "fares", "LTapLedger$Row;", true)
  | 2 => ("TapLedger$Tariff", "caps", "LTapLedger$Row;", true)
  | 3 => ("TapLedger$Tariff", "weeks", "LTapLedger$Row;", true)
  | 4 => ("TapLedger$Tariff", "more", "I", false)
  | _ => ("TapLedger$Tariff", "near", "I", false)
def mz_T10 : u_T := fun k => match k with
  | 0 => ("TapLedger", "now", "LTapLedger$State;", true)
  | 1 => ("TapLedger", "firstImage", "LTapLedger$State;", true)
  | 2 => ("TapLedger", "secondImage", "LTapLedger$State;", true)
  | 3 => ("TapLedger", "keptImages", "I", false)
  | 4 => ("TapLedger", "trial", "LTapLedger$Taps;", true)
  | _ => ("TapLedger", "bill", "LTapLedger$Bill;", true)
def mz_T11 : u_T := fun k => match k with
  | 0 => ("TapLedgerModel", "state", "[I", true)
  | 1 => ("TapLedgerModel", "images", "[I", true)
  | 2 => ("TapLedgerModel", "isKept", "[Z", true)
  | 3 => ("TapLedgerModel", "kind", "[I", true)
  | 4 => ("TapLedgerModel", "start", "[I", true)
  | 5 => ("TapLedgerModel", "stop", "[I", true)
  | 6 => ("TapLedgerModel", "begin", "[I", true)
  | 7 => ("TapLedgerModel", "end", "[I", true)
  | 8 => ("TapLedgerModel", "isLame", "[Z", true)
  | 9 => ("TapLedgerModel", "journeyOf", "[I", true)
  | 10 => ("TapLedgerModel", "rides", "I", false)
  | 11 => ("TapLedgerModel", "firsts", "[I", true)
  | 12 => ("TapLedgerModel", "lengths", "[I", true)
  | 13 => ("TapLedgerModel", "widths", "[I", true)
  | 14 => ("TapLedgerModel", "costs", "[I", true)
  | 15 => ("TapLedgerModel", "journeys", "I", false)
  | 16 => ("TapLedgerModel", "sums", "[I", true)
  | 17 => ("TapLedgerModel", "wide", "[I", true)
  | 18 => ("TapLedgerModel", "owed", "[I", true)
  | 19 => ("TapLedgerModel", "least", "[I", true)
  | 20 => ("TapLedgerModel", "weeks", "[I", true)
  | _ => ("TapLedgerModel", "isWeek", "[Z", true)
abbrev mz_cls : List vw_C := [(mz_RN 0, mz_T0, 4), (mz_RN 1, mz_T1, 4), (mz_RN 2, mz_T2, 3), (mz_RN 3, mz_T3, 7), (mz_RN 4, mz_T4, 5), (mz_RN 5, mz_T5, 8), (mz_RN 6, mz_T6, 1), (mz_RN 7, mz_T7, 6), (mz_RN 8, mz_T8, 4), (mz_RN 9, mz_T9, 6), (mz_RN 10, mz_T10, 6), (mz_RN 11, mz_T11, 22)]
def mz_F (i : Nat) : u_T := match i with
  | 0 => mz_T0
  | 1 => mz_T1
  | 2 => mz_T2
  | 3 => mz_T3
  | 4 => mz_T4
  | 5 => mz_T5
  | 6 => mz_T6
  | 7 => mz_T7
  | 8 => mz_T8
  | 9 => mz_T9
  | 10 => mz_T10
  | _ => mz_T11
def mz_N (i : Nat) : Nat := match i with
  | 0 => 4
  | 1 => 4
  | 2 => 3
  | 3 => 7
  | 4 => 5
  | 5 => 8
  | 6 => 1
  | 7 => 6
  | 8 => 4
  | 9 => 6
  | 10 => 6
  | _ => 22
def mz_ty (i : Nat) : Nat → FieldType := fun k => match i, k with
  | 0, 0 => .object "TapLedger$Row"
  | 0, 1 => .object "TapLedger$Row"
  | 0, 2 => .int
  | 0, 3 => .int
  | 1, 0 => .object "TapLedger$Rides"
  | 1, 1 => .object "TapLedger$Journeys"
  | 1, 2 => .object "TapLedger$Days"
  | 1, 3 => .object "TapLedger$Plan"
  | 2, 0 => .object "TapLedger$Row"
  | 2, 1 => .object "TapLedger$Row"
  | 2, 2 => .object "TapLedger$Row"
  | 3, 0 => .object "TapLedger$Row"
  | 3, 1 => .object "TapLedger$Row"
  | 3, 2 => .object "TapLedger$Row"
  | 3, 3 => .object "TapLedger$Row"
  | 3, 4 => .object "TapLedger$Row"
  | 3, 5 => .object "TapLedger$Row"
  | 3, 6 => .int
  | 4, 0 => .object "TapLedger$Row"
  | 4, 1 => .object "TapLedger$Row"
  | 4, 2 => .object "TapLedger$Row"
  | 4, 3 => .object "TapLedger$Row"
  | 4, 4 => .object "TapLedger$Row"
  | 5, 0 => .object "TapLedger$Row"
  | 5, 1 => .object "TapLedger$Row"
  | 5, 2 => .object "TapLedger$Row"
  | 5, 3 => .object "TapLedger$Row"
  | 5, 4 => .object "TapLedger$Row"
  | 5, 5 => .object "TapLedger$Row"
  | 5, 6 => .object "TapLedger$Row"
  | 5, 7 => .int
  | 6, 0 => .array .int
  | 7, 0 => .object "TapLedger$Taps"
  | 7, 1 => .object "TapLedger$Taps"
  | 7, 2 => .object "TapLedger$Taps"
  | 7, 3 => .object "TapLedger$Taps"
  | 7, 4 => .object "TapLedger$Tariff"
  | 7, 5 => .object "TapLedger$BarList"
  | 8, 0 => .object "TapLedger$Row"
  | 8, 1 => .object "TapLedger$Row"
  | 8, 2 => .object "TapLedger$Row"
  | 8, 3 => .int
  | 9, 0 => .object "TapLedger$Row"
  | 9, 1 => .object "TapLedger$Row"
  | 9, 2 => .object "TapLedger$Row"
  | 9, 3 => .object "TapLedger$Row"
  | 9, 4 => .int
  | 9, 5 => .int
  | 10, 0 => .object "TapLedger$State"
  | 10, 1 => .object "TapLedger$State"
  | 10, 2 => .object "TapLedger$State"
  | 10, 3 => .int
  | 10, 4 => .object "TapLedger$Taps"
  | 10, 5 => .object "TapLedger$Bill"
  | 11, 0 => .array .int
  | 11, 1 => .array .int
  | 11, 2 => .array .boolean
  | 11, 3 => .array .int
  | 11, 4 => .array .int
  | 11, 5 => .array .int
  | 11, 6 => .array .int
  | 11, 7 => .array .int
  | 11, 8 => .array .boolean
  | 11, 9 => .array .int
  | 11, 10 => .int
  | 11, 11 => .array .int
  | 11, 12 => .array .int
  | 11, 13 => .array .int
  | 11, 14 => .array .int
  | 11, 15 => .int
  | 11, 16 => .array .int
  | 11, 17 => .array .int
  | 11, 18 => .array .int
  | 11, 19 => .array .int
  | 11, 20 => .array .int
  | 11, 21 => .array .boolean
  | _, _ => .int
abbrev mz_I : Type := Nat × Instr × Nat × Nat × Nat
abbrev mz_M : Type := MethodName × ByteArray × Nat × Option FieldType × Nat × Nat × List mz_I
def co_X0_init : List mz_I := [(0, .aload_n 0, 1, 0, 0), (1, .invokespecial 3, 3, 999, 6), (4, .aload_n 0, 1, 0, 0), (5, .new 9, 3, 6, 0), (8, .dup, 1, 0, 0), (9, .iconst 4, 1, 4, 0), (10, .invokespecial 11, 3, 50, 4), (13, .putfield 14, 3, 0, 0),
  (16, .aload_n 0, 1, 0, 0), (17, .new 9, 3, 6, 0), (20, .dup, 1, 0, 0), (21, .iconst 4, 1, 4, 0), (22, .invokespecial 11, 3, 50, 4), (25, .putfield 20, 3, 0, 1), (28, .aload_n 0, 1, 0, 0), (29, .iconst 0, 1, 0, 0),
  (30, .putfield 23, 3, 0, 2), (33, .aload_n 0, 1, 0, 0), (34, .iconst 0, 1, 0, 0), (35, .putfield 27, 3, 0, 3), (38, .return_, 1, 0, 0)]
def co_X0_number : List mz_I := [(0, .aload_n 0, 1, 0, 0), (1, .getfield 23, 3, 0, 2), (4, .ireturn, 1, 0, 0)]
def co_X0_barred : List mz_I := [(0, .aload_n 0, 1, 0, 0), (1, .getfield 27, 3, 0, 3), (4, .ireturn, 1, 0, 0)]
def co_X0_numberAt : List mz_I := [(0, .aload_n 0, 1, 0, 0), (1, .getfield 14, 3, 0, 0), (4, .iload_n 1, 1, 0, 0), (5, .invokevirtual 30, 3, 51, 0), (8, .ireturn, 1, 0, 0)]
def co_X0_isBarredAt : List mz_I := [(0, .aload_n 0, 1, 0, 0), (1, .getfield 20, 3, 0, 1), (4, .iload_n 1, 1, 0, 0), (5, .invokevirtual 30, 3, 51, 0), (8, .iload_n 2, 1, 0, 0), (9, .ishr, 1, 0, 0), (10, .iconst 1, 1, 1, 0), (11, .iand, 1, 0, 0),
  (12, .iconst 1, 1, 1, 0), (13, .if_icmp .ne 7, 3, 20, 0), (16, .iconst 1, 1, 1, 0), (17, .goto 4, 3, 21, 0), (20, .iconst 0, 1, 0, 0), (21, .ireturn, 1, 0, 0)]
def co_X0_putBarred : List mz_I := [(0, .iload_n 2, 1, 0, 0), (1, .ifCond .eq 14, 3, 15, 0), (4, .aload_n 0, 1, 0, 0), (5, .getfield 27, 3, 0, 3), (8, .iconst 1, 1, 1, 0), (9, .iload_n 1, 1, 0, 0), (10, .ishl, 1, 0, 0), (11, .ior, 1, 0, 0),
  (12, .goto 13, 3, 25, 0), (15, .aload_n 0, 1, 0, 0), (16, .getfield 27, 3, 0, 3), (19, .iconst 1, 1, 1, 0), (20, .iload_n 1, 1, 0, 0), (21, .ishl, 1, 0, 0), (22, .iconst (-1), 1, 4294967295, 0), (23, .ixor, 1, 0, 0),
  (24, .iand, 1, 0, 0), (25, .istore_n 3, 1, 0, 0), (26, .iload_n 3, 1, 0, 0), (27, .aload_n 0, 1, 0, 0), (28, .getfield 27, 3, 0, 3), (31, .if_icmp .eq 18, 3, 49, 0), (34, .aload_n 0, 1, 0, 0), (35, .iload_n 3, 1, 0, 0),
  (36, .putfield 27, 3, 0, 3), (39, .aload_n 0, 1, 0, 0), (40, .dup, 1, 0, 0), (41, .getfield 23, 3, 0, 2), (44, .iconst 1, 1, 1, 0), (45, .iadd, 1, 0, 0), (46, .putfield 23, 3, 0, 2), (49, .return_, 1, 0, 0)]
def co_X0_bringTo : List mz_I := [(0, .aload_n 0, 1, 0, 0), (1, .getfield 14, 3, 0, 0), (4, .iload_n 1, 1, 0, 0), (5, .aload_n 0, 1, 0, 0), (6, .getfield 23, 3, 0, 2), (9, .invokevirtual 34, 3, 52, 0), (12, .aload_n 0, 1, 0, 0), (13, .getfield 20, 3, 0, 1),
  (16, .iload_n 1, 1, 0, 0), (17, .aload_n 0, 1, 0, 0), (18, .getfield 27, 3, 0, 3), (21, .invokevirtual 34, 3, 52, 0), (24, .return_, 1, 0, 0)]
def co_X0_laggards : List mz_I := [(0, .iconst 0, 1, 0, 0), (1, .istore_n 1, 1, 0, 0), (2, .iconst 0, 1, 0, 0), (3, .istore_n 2, 1, 0, 0), (4, .iload_n 2, 1, 0, 0), (5, .iconst 4, 1, 4, 0), (6, .if_icmp .ge 27, 3, 33, 0), (9, .aload_n 0, 1, 0, 0),
  (10, .getfield 14, 3, 0, 0), (13, .iload_n 2, 1, 0, 0), (14, .invokevirtual 30, 3, 51, 0), (17, .aload_n 0, 1, 0, 0), (18, .getfield 23, 3, 0, 2), (21, .if_icmp .ge 6, 3, 27, 0), (24, .iinc 1 1, 3, 1, 0), (27, .iinc 2 1, 3, 1, 0),
  (30, .goto (-26), 3, 4, 0), (33, .iload_n 1, 1, 0, 0), (34, .ireturn, 1, 0, 0)]
def co_X0_copyFrom : List mz_I := [(0, .aload_n 0, 1, 0, 0), (1, .getfield 14, 3, 0, 0), (4, .aload_n 1, 1, 0, 0), (5, .getfield 14, 3, 0, 0), (8, .invokevirtual 38, 3, 56, 0), (11, .aload_n 0, 1, 0, 0), (12, .getfield 20, 3, 0, 1), (15, .aload_n 1, 1, 0, 0),
  (16, .getfield 20, 3, 0, 1), (19, .invokevirtual 38, 3, 56, 0), (22, .aload_n 0, 1, 0, 0), (23, .aload_n 1, 1, 0, 0), (24, .getfield 23, 3, 0, 2), (27, .putfield 23, 3, 0, 2), (30, .aload_n 0, 1, 0, 0), (31, .aload_n 1, 1, 0, 0),
  (32, .getfield 27, 3, 0, 3), (35, .putfield 27, 3, 0, 3), (38, .return_, 1, 0, 0)]
def co_X1_init : List mz_I := [(0, .aload_n 0, 1, 0, 0), (1, .invokespecial 1, 3, 999, 6), (4, .aload_n 0, 1, 0, 0), (5, .new 7, 3, 5, 0), (8, .dup, 1, 0, 0), (9, .invokespecial 9, 3, 38, 5), (12, .putfield 10, 3, 1, 0), (15, .aload_n 0, 1, 0, 0),
  (16, .new 16, 3, 3, 0), (19, .dup, 1, 0, 0), (20, .invokespecial 18, 3, 19, 5), (23, .putfield 19, 3, 1, 1), (26, .aload_n 0, 1, 0, 0), (27, .new 23, 3, 2, 0), (30, .dup, 1, 0, 0), (31, .invokespecial 25, 3, 11, 5),
  (34, .putfield 26, 3, 1, 2), (37, .aload_n 0, 1, 0, 0), (38, .new 30, 3, 4, 0), (41, .dup, 1, 0, 0), (42, .invokespecial 32, 3, 30, 5), (45, .putfield 33, 3, 1, 3), (48, .return_, 1, 0, 0)]
def co_X1_reckon : List mz_I := [(0, .aload_n 0, 1, 0, 0), (1, .getfield 10, 3, 1, 0), (4, .aload_n 1, 1, 0, 0), (5, .invokevirtual 37, 3, 39, 0), (8, .aload_n 0, 1, 0, 0), (9, .getfield 19, 3, 1, 1), (12, .aload_n 0, 1, 0, 0), (13, .getfield 10, 3, 1, 0),
  (16, .aload_n 2, 1, 0, 0), (17, .invokevirtual 41, 3, 20, 0), (20, .aload_n 0, 1, 0, 0), (21, .getfield 26, 3, 1, 2), (24, .aload_n 0, 1, 0, 0), (25, .getfield 19, 3, 1, 1), (28, .aload_n 2, 1, 0, 0), (29, .invokevirtual 44, 3, 12, 0),
  (32, .aload_n 0, 1, 0, 0), (33, .getfield 33, 3, 1, 3), (36, .aload_n 0, 1, 0, 0), (37, .getfield 26, 3, 1, 2), (40, .aload_n 2, 1, 0, 0), (41, .invokevirtual 47, 3, 31, 0), (44, .return_, 1, 0, 0)]
def co_X2_init : List mz_I := [(0, .aload_n 0, 1, 0, 0), (1, .invokespecial 3, 3, 999, 6), (4, .aload_n 0, 1, 0, 0), (5, .new 9, 3, 6, 0), (8, .dup, 1, 0, 0), (9, .bipush 28, 2, 28, 0), (11, .invokespecial 11, 3, 50, 4), (14, .putfield 14, 3, 2, 0),
  (17, .aload_n 0, 1, 0, 0), (18, .new 9, 3, 6, 0), (21, .dup, 1, 0, 0), (22, .bipush 28, 2, 28, 0), (24, .invokespecial 11, 3, 50, 4), (27, .putfield 20, 3, 2, 1), (30, .aload_n 0, 1, 0, 0), (31, .new 9, 3, 6, 0),
  (34, .dup, 1, 0, 0), (35, .bipush 28, 2, 28, 0), (37, .invokespecial 11, 3, 50, 4), (40, .putfield 23, 3, 2, 2), (43, .return_, 1, 0, 0)]
def co_X2_build : List mz_I := [(0, .aload_n 0, 1, 0, 0), (1, .getfield 14, 3, 2, 0), (4, .iconst 0, 1, 0, 0), (5, .invokevirtual 26, 3, 54, 0), (8, .aload_n 0, 1, 0, 0), (9, .getfield 20, 3, 2, 1), (12, .iconst 0, 1, 0, 0), (13, .invokevirtual 26, 3, 54, 0),
  (16, .iconst 0, 1, 0, 0), (17, .istore_n 3, 1, 0, 0), (18, .iload_n 3, 1, 0, 0), (19, .aload_n 1, 1, 0, 0), (20, .invokevirtual 29, 3, 24, 0), (23, .if_icmp .ge 59, 3, 82, 0), (26, .aload_n 1, 1, 0, 0), (27, .iload_n 3, 1, 0, 0),
  (28, .invokevirtual 35, 3, 25, 0), (31, .invokestatic 39, 3, 114, 3), (34, .istore 4, 2, 0, 0), (36, .aload_n 0, 1, 0, 0), (37, .getfield 14, 3, 2, 0), (40, .iload 4, 2, 0, 0), (42, .aload_n 1, 1, 0, 0), (43, .iload_n 3, 1, 0, 0),
  (44, .invokevirtual 42, 3, 28, 0), (47, .invokevirtual 45, 3, 53, 0), (50, .aload_n 0, 1, 0, 0), (51, .getfield 20, 3, 2, 1), (54, .iload 4, 2, 0, 0), (56, .aload_n 0, 1, 0, 0), (57, .getfield 20, 3, 2, 1), (60, .iload 4, 2, 0, 0),
  (62, .invokevirtual 49, 3, 51, 0), (65, .aload_n 1, 1, 0, 0), (66, .iload_n 3, 1, 0, 0), (67, .invokevirtual 52, 3, 27, 0), (70, .invokestatic 55, 3, 998, 7), (73, .invokevirtual 61, 3, 52, 0), (76, .iinc 3 1, 3, 1, 0), (79, .goto (-61), 3, 18, 0),
  (82, .iconst 0, 1, 0, 0), (83, .istore_n 3, 1, 0, 0), (84, .iload_n 3, 1, 0, 0), (85, .bipush 28, 2, 28, 0), (87, .if_icmp .ge 37, 3, 124, 0), (90, .aload_n 0, 1, 0, 0), (91, .getfield 23, 3, 2, 2), (94, .iload_n 3, 1, 0, 0),
  (95, .aload_n 2, 1, 0, 0), (96, .aload_n 0, 1, 0, 0), (97, .getfield 14, 3, 2, 0), (100, .iload_n 3, 1, 0, 0), (101, .invokevirtual 49, 3, 51, 0), (104, .aload_n 0, 1, 0, 0), (105, .getfield 20, 3, 2, 1), (108, .iload_n 3, 1, 0, 0),
  (109, .invokevirtual 49, 3, 51, 0), (112, .invokevirtual 64, 3, 78, 0), (115, .invokevirtual 61, 3, 52, 0), (118, .iinc 3 1, 3, 1, 0), (121, .goto (-37), 3, 84, 0), (124, .return_, 1, 0, 0)]
def co_X2_sum : List mz_I := [(0, .aload_n 0, 1, 0, 0), (1, .getfield 14, 3, 2, 0), (4, .iload_n 1, 1, 0, 0), (5, .invokevirtual 49, 3, 51, 0), (8, .ireturn, 1, 0, 0)]
def co_X2_width : List mz_I := [(0, .aload_n 0, 1, 0, 0), (1, .getfield 20, 3, 2, 1), (4, .iload_n 1, 1, 0, 0), (5, .invokevirtual 49, 3, 51, 0), (8, .ireturn, 1, 0, 0)]
def co_X2_owed : List mz_I := [(0, .aload_n 0, 1, 0, 0), (1, .getfield 23, 3, 2, 2), (4, .iload_n 1, 1, 0, 0), (5, .invokevirtual 49, 3, 51, 0), (8, .ireturn, 1, 0, 0)]
def co_X2_allSums : List mz_I := [(0, .aload_n 0, 1, 0, 0), (1, .getfield 14, 3, 2, 0), (4, .invokevirtual 69, 3, 55, 0), (7, .ireturn, 1, 0, 0)]
def co_X2_allOwed : List mz_I := [(0, .aload_n 0, 1, 0, 0), (1, .getfield 23, 3, 2, 2), (4, .invokevirtual 69, 3, 55, 0), (7, .ireturn, 1, 0, 0)]
def co_X2_widthOfWeek : List mz_I := [(0, .iconst 0, 1, 0, 0), (1, .istore_n 2, 1, 0, 0), (2, .iload_n 1, 1, 0, 0), (3, .istore_n 3, 1, 0, 0), (4, .iload_n 3, 1, 0, 0), (5, .iload_n 1, 1, 0, 0), (6, .bipush 7, 2, 7, 0), (8, .iadd, 1, 0, 0),
  (9, .if_icmp .ge 22, 3, 31, 0), (12, .iload_n 2, 1, 0, 0), (13, .aload_n 0, 1, 0, 0), (14, .getfield 20, 3, 2, 1), (17, .iload_n 3, 1, 0, 0), (18, .invokevirtual 49, 3, 51, 0), (21, .invokestatic 55, 3, 998, 7), (24, .istore_n 2, 1, 0, 0),
  (25, .iinc 3 1, 3, 1, 0), (28, .goto (-24), 3, 4, 0), (31, .iload_n 2, 1, 0, 0), (32, .ireturn, 1, 0, 0)]
def co_X3_init : List mz_I := [(0, .aload_n 0, 1, 0, 0), (1, .invokespecial 3, 3, 999, 6), (4, .aload_n 0, 1, 0, 0), (5, .new 9, 3, 6, 0), (8, .dup, 1, 0, 0), (9, .bipush 48, 2, 48, 0), (11, .invokespecial 11, 3, 50, 4), (14, .putfield 14, 3, 3, 0),
  (17, .aload_n 0, 1, 0, 0), (18, .new 9, 3, 6, 0), (21, .dup, 1, 0, 0), (22, .bipush 48, 2, 48, 0), (24, .invokespecial 11, 3, 50, 4), (27, .putfield 20, 3, 3, 1), (30, .aload_n 0, 1, 0, 0), (31, .new 9, 3, 6, 0),
  (34, .dup, 1, 0, 0), (35, .bipush 48, 2, 48, 0), (37, .invokespecial 11, 3, 50, 4), (40, .putfield 23, 3, 3, 2), (43, .aload_n 0, 1, 0, 0), (44, .new 9, 3, 6, 0), (47, .dup, 1, 0, 0), (48, .bipush 48, 2, 48, 0),
  (50, .invokespecial 11, 3, 50, 4), (53, .putfield 26, 3, 3, 3), (56, .aload_n 0, 1, 0, 0), (57, .new 9, 3, 6, 0), (60, .dup, 1, 0, 0), (61, .bipush 48, 2, 48, 0), (63, .invokespecial 11, 3, 50, 4), (66, .putfield 29, 3, 3, 4),
  (69, .aload_n 0, 1, 0, 0), (70, .new 9, 3, 6, 0), (73, .dup, 1, 0, 0), (74, .bipush 48, 2, 48, 0), (76, .invokespecial 11, 3, 50, 4), (79, .putfield 32, 3, 3, 5), (82, .aload_n 0, 1, 0, 0), (83, .iconst 0, 1, 0, 0),
  (84, .putfield 35, 3, 3, 6), (87, .return_, 1, 0, 0)]
def co_X3_build : List mz_I := [(0, .aload_n 0, 1, 0, 0), (1, .iconst 0, 1, 0, 0), (2, .putfield 35, 3, 3, 6), (5, .iconst 0, 1, 0, 0), (6, .istore_n 3, 1, 0, 0), (7, .iload_n 3, 1, 0, 0), (8, .aload_n 1, 1, 0, 0), (9, .invokevirtual 39, 3, 43, 0),
  (12, .if_icmp .ge 73, 3, 85, 0), (15, .aload_n 0, 1, 0, 0), (16, .getfield 35, 3, 3, 6), (19, .ifCond .le 36, 3, 55, 0), (22, .aload_n 0, 1, 0, 0), (23, .getfield 20, 3, 3, 1), (26, .aload_n 0, 1, 0, 0), (27, .getfield 35, 3, 3, 6),
  (30, .iconst 1, 1, 1, 0), (31, .isub, 1, 0, 0), (32, .invokevirtual 44, 3, 51, 0), (35, .iconst 3, 1, 3, 0), (36, .if_icmp .ge 19, 3, 55, 0), (39, .aload_n 1, 1, 0, 0), (40, .iload_n 3, 1, 0, 0), (41, .aload_n 2, 1, 0, 0),
  (42, .invokevirtual 48, 3, 76, 0), (45, .invokevirtual 53, 3, 49, 0), (48, .ifCond .eq 7, 3, 55, 0), (51, .iconst 1, 1, 1, 0), (52, .goto 4, 3, 56, 0), (55, .iconst 0, 1, 0, 0), (56, .istore 4, 2, 0, 0), (58, .iload 4, 2, 0, 0),
  (60, .ifCond .ne 12, 3, 72, 0), (63, .aload_n 0, 1, 0, 0), (64, .aload_n 1, 1, 0, 0), (65, .iload_n 3, 1, 0, 0), (66, .invokevirtual 57, 3, 46, 0), (69, .invokevirtual 60, 3, 21, 0), (72, .aload_n 0, 1, 0, 0), (73, .aload_n 1, 1, 0, 0),
  (74, .iload_n 3, 1, 0, 0), (75, .aload_n 2, 1, 0, 0), (76, .invokevirtual 63, 3, 22, 0), (79, .iinc 3 1, 3, 1, 0), (82, .goto (-75), 3, 7, 0), (85, .iconst 0, 1, 0, 0), (86, .istore_n 3, 1, 0, 0), (87, .iload_n 3, 1, 0, 0),
  (88, .aload_n 0, 1, 0, 0), (89, .getfield 35, 3, 3, 6), (92, .if_icmp .ge 37, 3, 129, 0), (95, .aload_n 0, 1, 0, 0), (96, .getfield 29, 3, 3, 4), (99, .iload_n 3, 1, 0, 0), (100, .aload_n 2, 1, 0, 0), (101, .aload_n 0, 1, 0, 0),
  (102, .iload_n 3, 1, 0, 0), (103, .invokevirtual 67, 3, 27, 0), (106, .aload_n 0, 1, 0, 0), (107, .getfield 14, 3, 3, 0), (110, .iload_n 3, 1, 0, 0), (111, .invokevirtual 44, 3, 51, 0), (114, .invokestatic 70, 3, 116, 3), (117, .invokevirtual 74, 3, 77, 0),
  (120, .invokevirtual 78, 3, 52, 0), (123, .iinc 3 1, 3, 1, 0), (126, .goto (-39), 3, 87, 0), (129, .return_, 1, 0, 0)]
def co_X3_open : List mz_I := [(0, .aload_n 0, 1, 0, 0), (1, .getfield 14, 3, 3, 0), (4, .aload_n 0, 1, 0, 0), (5, .getfield 35, 3, 3, 6), (8, .iload_n 1, 1, 0, 0), (9, .invokevirtual 78, 3, 52, 0), (12, .aload_n 0, 1, 0, 0), (13, .getfield 20, 3, 3, 1),
  (16, .aload_n 0, 1, 0, 0), (17, .getfield 35, 3, 3, 6), (20, .iconst 0, 1, 0, 0), (21, .invokevirtual 78, 3, 52, 0), (24, .aload_n 0, 1, 0, 0), (25, .getfield 23, 3, 3, 2), (28, .aload_n 0, 1, 0, 0), (29, .getfield 35, 3, 3, 6),
  (32, .iconst 5, 1, 5, 0), (33, .invokevirtual 78, 3, 52, 0), (36, .aload_n 0, 1, 0, 0), (37, .getfield 26, 3, 3, 3), (40, .aload_n 0, 1, 0, 0), (41, .getfield 35, 3, 3, 6), (44, .iconst 1, 1, 1, 0), (45, .invokevirtual 78, 3, 52, 0),
  (48, .aload_n 0, 1, 0, 0), (49, .dup, 1, 0, 0), (50, .getfield 35, 3, 3, 6), (53, .iconst 1, 1, 1, 0), (54, .iadd, 1, 0, 0), (55, .putfield 35, 3, 3, 6), (58, .return_, 1, 0, 0)]
def co_X3_takeRide : List mz_I := [(0, .aload_n 0, 1, 0, 0), (1, .getfield 35, 3, 3, 6), (4, .iconst 1, 1, 1, 0), (5, .isub, 1, 0, 0), (6, .istore 4, 2, 0, 0), (8, .aload_n 0, 1, 0, 0), (9, .getfield 32, 3, 3, 5), (12, .iload_n 2, 1, 0, 0),
  (13, .iload 4, 2, 0, 0), (15, .invokevirtual 78, 3, 52, 0), (18, .aload_n 0, 1, 0, 0), (19, .getfield 20, 3, 3, 1), (22, .iload 4, 2, 0, 0), (24, .iconst 1, 1, 1, 0), (25, .invokevirtual 82, 3, 53, 0), (28, .aload_n 1, 1, 0, 0),
  (29, .iload_n 2, 1, 0, 0), (30, .invokevirtual 85, 3, 48, 0), (33, .ifCond .eq 20, 3, 53, 0), (36, .aload_n 0, 1, 0, 0), (37, .iload 4, 2, 0, 0), (39, .iconst 1, 1, 1, 0), (40, .invokevirtual 88, 3, 23, 0), (43, .aload_n 0, 1, 0, 0),
  (44, .iload 4, 2, 0, 0), (46, .iconst 5, 1, 5, 0), (47, .invokevirtual 88, 3, 23, 0), (50, .goto 33, 3, 83, 0), (53, .aload_n 0, 1, 0, 0), (54, .iload 4, 2, 0, 0), (56, .aload_n 3, 1, 0, 0), (57, .aload_n 1, 1, 0, 0),
  (58, .iload_n 2, 1, 0, 0), (59, .invokevirtual 91, 3, 44, 0), (62, .invokevirtual 94, 3, 72, 0), (65, .invokevirtual 88, 3, 23, 0), (68, .aload_n 0, 1, 0, 0), (69, .iload 4, 2, 0, 0), (71, .aload_n 3, 1, 0, 0), (72, .aload_n 1, 1, 0, 0),
  (73, .iload_n 2, 1, 0, 0), (74, .invokevirtual 97, 3, 45, 0), (77, .invokevirtual 94, 3, 72, 0), (80, .invokevirtual 88, 3, 23, 0), (83, .return_, 1, 0, 0)]
def co_X3_takeZone : List mz_I := [(0, .aload_n 0, 1, 0, 0), (1, .getfield 23, 3, 3, 2), (4, .iload_n 1, 1, 0, 0), (5, .aload_n 0, 1, 0, 0), (6, .getfield 23, 3, 3, 2), (9, .iload_n 1, 1, 0, 0), (10, .invokevirtual 44, 3, 51, 0), (13, .iload_n 2, 1, 0, 0),
  (14, .invokestatic 100, 3, 997, 8), (17, .invokevirtual 78, 3, 52, 0), (20, .aload_n 0, 1, 0, 0), (21, .getfield 26, 3, 3, 3), (24, .iload_n 1, 1, 0, 0), (25, .aload_n 0, 1, 0, 0), (26, .getfield 26, 3, 3, 3), (29, .iload_n 1, 1, 0, 0),
  (30, .invokevirtual 44, 3, 51, 0), (33, .iload_n 2, 1, 0, 0), (34, .invokestatic 106, 3, 998, 7), (37, .invokevirtual 78, 3, 52, 0), (40, .return_, 1, 0, 0)]
def co_X3_size : List mz_I := [(0, .aload_n 0, 1, 0, 0), (1, .getfield 35, 3, 3, 6), (4, .ireturn, 1, 0, 0)]
def co_X3_moment : List mz_I := [(0, .aload_n 0, 1, 0, 0), (1, .getfield 14, 3, 3, 0), (4, .iload_n 1, 1, 0, 0), (5, .invokevirtual 44, 3, 51, 0), (8, .ireturn, 1, 0, 0)]
def co_X3_ridesIn : List mz_I := [(0, .aload_n 0, 1, 0, 0), (1, .getfield 20, 3, 3, 1), (4, .iload_n 1, 1, 0, 0), (5, .invokevirtual 44, 3, 51, 0), (8, .ireturn, 1, 0, 0)]
def co_X3_width : List mz_I := [(0, .aload_n 0, 1, 0, 0), (1, .getfield 26, 3, 3, 3), (4, .iload_n 1, 1, 0, 0), (5, .invokevirtual 44, 3, 51, 0), (8, .aload_n 0, 1, 0, 0), (9, .getfield 23, 3, 3, 2), (12, .iload_n 1, 1, 0, 0), (13, .invokevirtual 44, 3, 51, 0),
  (16, .isub, 1, 0, 0), (17, .iconst 1, 1, 1, 0), (18, .iadd, 1, 0, 0), (19, .ireturn, 1, 0, 0)]
def co_X3_cost : List mz_I := [(0, .aload_n 0, 1, 0, 0), (1, .getfield 29, 3, 3, 4), (4, .iload_n 1, 1, 0, 0), (5, .invokevirtual 44, 3, 51, 0), (8, .ireturn, 1, 0, 0)]
def co_X3_journeyOfRide : List mz_I := [(0, .aload_n 0, 1, 0, 0), (1, .getfield 32, 3, 3, 5), (4, .iload_n 1, 1, 0, 0), (5, .invokevirtual 44, 3, 51, 0), (8, .ireturn, 1, 0, 0)]
def co_X4_init : List mz_I := [(0, .aload_n 0, 1, 0, 0), (1, .invokespecial 3, 3, 999, 6), (4, .aload_n 0, 1, 0, 0), (5, .new 9, 3, 6, 0), (8, .dup, 1, 0, 0), (9, .bipush 29, 2, 29, 0), (11, .invokespecial 11, 3, 50, 4), (14, .putfield 14, 3, 4, 0),
  (17, .aload_n 0, 1, 0, 0), (18, .new 9, 3, 6, 0), (21, .dup, 1, 0, 0), (22, .bipush 29, 2, 29, 0), (24, .invokespecial 11, 3, 50, 4), (27, .putfield 20, 3, 4, 1), (30, .aload_n 0, 1, 0, 0), (31, .new 9, 3, 6, 0),
  (34, .dup, 1, 0, 0), (35, .bipush 28, 2, 28, 0), (37, .invokespecial 11, 3, 50, 4), (40, .putfield 23, 3, 4, 2), (43, .aload_n 0, 1, 0, 0), (44, .new 9, 3, 6, 0), (47, .dup, 1, 0, 0), (48, .iconst 4, 1, 4, 0),
  (49, .invokespecial 11, 3, 50, 4), (52, .putfield 26, 3, 4, 3), (55, .aload_n 0, 1, 0, 0), (56, .new 9, 3, 6, 0), (59, .dup, 1, 0, 0), (60, .bipush 28, 2, 28, 0), (62, .invokespecial 11, 3, 50, 4), (65, .putfield 29, 3, 4, 4),
  (68, .return_, 1, 0, 0)]
def co_X4_build : List mz_I := [(0, .aload_n 0, 1, 0, 0), (1, .getfield 14, 3, 4, 0), (4, .bipush 28, 2, 28, 0), (6, .iconst 0, 1, 0, 0), (7, .invokevirtual 32, 3, 52, 0), (10, .aload_n 0, 1, 0, 0), (11, .getfield 20, 3, 4, 1), (14, .bipush 28, 2, 28, 0),
  (16, .iconst 0, 1, 0, 0), (17, .invokevirtual 32, 3, 52, 0), (20, .bipush 27, 2, 27, 0), (22, .istore_n 3, 1, 0, 0), (23, .iload_n 3, 1, 0, 0), (24, .ifCond .lt 83, 3, 107, 0), (27, .aload_n 0, 1, 0, 0), (28, .getfield 14, 3, 4, 0),
  (31, .iload_n 3, 1, 0, 0), (32, .aload_n 1, 1, 0, 0), (33, .iload_n 3, 1, 0, 0), (34, .invokevirtual 36, 3, 15, 0), (37, .aload_n 0, 1, 0, 0), (38, .getfield 14, 3, 4, 0), (41, .iload_n 3, 1, 0, 0), (42, .iconst 1, 1, 1, 0),
  (43, .iadd, 1, 0, 0), (44, .invokevirtual 42, 3, 51, 0), (47, .iadd, 1, 0, 0), (48, .invokevirtual 32, 3, 52, 0), (51, .aload_n 0, 1, 0, 0), (52, .getfield 20, 3, 4, 1), (55, .iload_n 3, 1, 0, 0), (56, .aload_n 0, 1, 0, 0),
  (57, .getfield 20, 3, 4, 1), (60, .iload_n 3, 1, 0, 0), (61, .iconst 1, 1, 1, 0), (62, .iadd, 1, 0, 0), (63, .invokevirtual 42, 3, 51, 0), (66, .invokevirtual 32, 3, 52, 0), (69, .aload_n 0, 1, 0, 0), (70, .getfield 23, 3, 4, 2),
  (73, .iload_n 3, 1, 0, 0), (74, .iconst 0, 1, 0, 0), (75, .invokevirtual 32, 3, 52, 0), (78, .iload_n 3, 1, 0, 0), (79, .bipush 7, 2, 7, 0), (81, .iadd, 1, 0, 0), (82, .bipush 28, 2, 28, 0), (84, .if_icmp .gt 17, 3, 101, 0),
  (87, .aload_n 0, 1, 0, 0), (88, .iload_n 3, 1, 0, 0), (89, .aload_n 2, 1, 0, 0), (90, .aload_n 1, 1, 0, 0), (91, .iload_n 3, 1, 0, 0), (92, .invokevirtual 45, 3, 18, 0), (95, .invokevirtual 48, 3, 79, 0), (98, .invokevirtual 53, 3, 32, 0),
  (101, .iinc 3 (-1), 3, 4294967295, 0), (104, .goto (-81), 3, 23, 0), (107, .aload_n 0, 1, 0, 0), (108, .invokevirtual 56, 3, 33, 0), (111, .return_, 1, 0, 0)]
def co_X4_weighWeek : List mz_I := [(0, .iload_n 2, 1, 0, 0), (1, .aload_n 0, 1, 0, 0), (2, .getfield 14, 3, 4, 0), (5, .iload_n 1, 1, 0, 0), (6, .bipush 7, 2, 7, 0), (8, .iadd, 1, 0, 0), (9, .invokevirtual 42, 3, 51, 0), (12, .iadd, 1, 0, 0),
  (13, .istore_n 3, 1, 0, 0), (14, .iconst 1, 1, 1, 0), (15, .aload_n 0, 1, 0, 0), (16, .getfield 20, 3, 4, 1), (19, .iload_n 1, 1, 0, 0), (20, .bipush 7, 2, 7, 0), (22, .iadd, 1, 0, 0), (23, .invokevirtual 42, 3, 51, 0),
  (26, .iadd, 1, 0, 0), (27, .istore 4, 2, 0, 0), (29, .iload_n 3, 1, 0, 0), (30, .aload_n 0, 1, 0, 0), (31, .getfield 14, 3, 4, 0), (34, .iload_n 1, 1, 0, 0), (35, .invokevirtual 42, 3, 51, 0), (38, .if_icmp .ge 7, 3, 45, 0),
  (41, .iconst 1, 1, 1, 0), (42, .goto 4, 3, 46, 0), (45, .iconst 0, 1, 0, 0), (46, .istore 5, 2, 0, 0), (48, .iload_n 3, 1, 0, 0), (49, .aload_n 0, 1, 0, 0), (50, .getfield 14, 3, 4, 0), (53, .iload_n 1, 1, 0, 0),
  (54, .invokevirtual 42, 3, 51, 0), (57, .if_icmp .ne 20, 3, 77, 0), (60, .iload 4, 2, 0, 0), (62, .aload_n 0, 1, 0, 0), (63, .getfield 20, 3, 4, 1), (66, .iload_n 1, 1, 0, 0), (67, .invokevirtual 42, 3, 51, 0), (70, .if_icmp .gt 7, 3, 77, 0),
  (73, .iconst 1, 1, 1, 0), (74, .goto 4, 3, 78, 0), (77, .iconst 0, 1, 0, 0), (78, .istore 6, 2, 0, 0), (80, .iload 5, 2, 0, 0), (82, .ifCond .ne 8, 3, 90, 0), (85, .iload 6, 2, 0, 0), (87, .ifCond .eq 31, 3, 118, 0),
  (90, .aload_n 0, 1, 0, 0), (91, .getfield 14, 3, 4, 0), (94, .iload_n 1, 1, 0, 0), (95, .iload_n 3, 1, 0, 0), (96, .invokevirtual 32, 3, 52, 0), (99, .aload_n 0, 1, 0, 0), (100, .getfield 20, 3, 4, 1), (103, .iload_n 1, 1, 0, 0),
  (104, .iload 4, 2, 0, 0), (106, .invokevirtual 32, 3, 52, 0), (109, .aload_n 0, 1, 0, 0), (110, .getfield 23, 3, 4, 2), (113, .iload_n 1, 1, 0, 0), (114, .iconst 1, 1, 1, 0), (115, .invokevirtual 32, 3, 52, 0), (118, .return_, 1, 0, 0)]
def co_X4_markWeeks : List mz_I := [(0, .iconst 0, 1, 0, 0), (1, .istore_n 1, 1, 0, 0), (2, .iconst 0, 1, 0, 0), (3, .istore_n 2, 1, 0, 0), (4, .iconst 0, 1, 0, 0), (5, .istore_n 3, 1, 0, 0), (6, .iload_n 3, 1, 0, 0), (7, .bipush 28, 2, 28, 0),
  (9, .if_icmp .ge 61, 3, 70, 0), (12, .iload_n 3, 1, 0, 0), (13, .iload_n 2, 1, 0, 0), (14, .if_icmp .lt 32, 3, 46, 0), (17, .aload_n 0, 1, 0, 0), (18, .getfield 23, 3, 4, 2), (21, .iload_n 3, 1, 0, 0), (22, .invokevirtual 42, 3, 51, 0),
  (25, .iconst 1, 1, 1, 0), (26, .if_icmp .ne 20, 3, 46, 0), (29, .aload_n 0, 1, 0, 0), (30, .getfield 26, 3, 4, 3), (33, .iload_n 1, 1, 0, 0), (34, .iload_n 3, 1, 0, 0), (35, .invokevirtual 32, 3, 52, 0), (38, .iinc 1 1, 3, 1, 0),
  (41, .iload_n 3, 1, 0, 0), (42, .bipush 7, 2, 7, 0), (44, .iadd, 1, 0, 0), (45, .istore_n 2, 1, 0, 0), (46, .aload_n 0, 1, 0, 0), (47, .getfield 29, 3, 4, 4), (50, .iload_n 3, 1, 0, 0), (51, .iload_n 3, 1, 0, 0),
  (52, .iload_n 2, 1, 0, 0), (53, .if_icmp .ge 7, 3, 60, 0), (56, .iconst 1, 1, 1, 0), (57, .goto 4, 3, 61, 0), (60, .iconst 0, 1, 0, 0), (61, .invokevirtual 32, 3, 52, 0), (64, .iinc 3 1, 3, 1, 0), (67, .goto (-61), 3, 6, 0),
  (70, .return_, 1, 0, 0)]
def co_X4_cost : List mz_I := [(0, .aload_n 0, 1, 0, 0), (1, .getfield 14, 3, 4, 0), (4, .iconst 0, 1, 0, 0), (5, .invokevirtual 42, 3, 51, 0), (8, .ireturn, 1, 0, 0)]
def co_X4_weeks : List mz_I := [(0, .aload_n 0, 1, 0, 0), (1, .getfield 20, 3, 4, 1), (4, .iconst 0, 1, 0, 0), (5, .invokevirtual 42, 3, 51, 0), (8, .ireturn, 1, 0, 0)]
def co_X4_start : List mz_I := [(0, .aload_n 0, 1, 0, 0), (1, .getfield 26, 3, 4, 3), (4, .iload_n 1, 1, 0, 0), (5, .invokevirtual 42, 3, 51, 0), (8, .ireturn, 1, 0, 0)]
def co_X4_isInWeek : List mz_I := [(0, .aload_n 0, 1, 0, 0), (1, .getfield 29, 3, 4, 4), (4, .iload_n 1, 1, 0, 0), (5, .invokevirtual 42, 3, 51, 0), (8, .iconst 1, 1, 1, 0), (9, .if_icmp .ne 7, 3, 16, 0), (12, .iconst 1, 1, 1, 0), (13, .goto 4, 3, 17, 0),
  (16, .iconst 0, 1, 0, 0), (17, .ireturn, 1, 0, 0)]
def co_X5_init : List mz_I := [(0, .aload_n 0, 1, 0, 0), (1, .invokespecial 3, 3, 999, 6), (4, .aload_n 0, 1, 0, 0), (5, .new 9, 3, 6, 0), (8, .dup, 1, 0, 0), (9, .bipush 48, 2, 48, 0), (11, .invokespecial 11, 3, 50, 4), (14, .putfield 14, 3, 5, 0),
  (17, .aload_n 0, 1, 0, 0), (18, .new 9, 3, 6, 0), (21, .dup, 1, 0, 0), (22, .bipush 48, 2, 48, 0), (24, .invokespecial 11, 3, 50, 4), (27, .putfield 20, 3, 5, 1), (30, .aload_n 0, 1, 0, 0), (31, .new 9, 3, 6, 0),
  (34, .dup, 1, 0, 0), (35, .bipush 48, 2, 48, 0), (37, .invokespecial 11, 3, 50, 4), (40, .putfield 23, 3, 5, 2), (43, .aload_n 0, 1, 0, 0), (44, .new 9, 3, 6, 0), (47, .dup, 1, 0, 0), (48, .bipush 48, 2, 48, 0),
  (50, .invokespecial 11, 3, 50, 4), (53, .putfield 26, 3, 5, 3), (56, .aload_n 0, 1, 0, 0), (57, .new 9, 3, 6, 0), (60, .dup, 1, 0, 0), (61, .bipush 48, 2, 48, 0), (63, .invokespecial 11, 3, 50, 4), (66, .putfield 29, 3, 5, 4),
  (69, .aload_n 0, 1, 0, 0), (70, .new 9, 3, 6, 0), (73, .dup, 1, 0, 0), (74, .bipush 8, 2, 8, 0), (76, .invokespecial 11, 3, 50, 4), (79, .putfield 32, 3, 5, 5), (82, .aload_n 0, 1, 0, 0), (83, .new 9, 3, 6, 0),
  (86, .dup, 1, 0, 0), (87, .bipush 8, 2, 8, 0), (89, .invokespecial 11, 3, 50, 4), (92, .putfield 35, 3, 5, 6), (95, .aload_n 0, 1, 0, 0), (96, .iconst 0, 1, 0, 0), (97, .putfield 38, 3, 5, 7), (100, .return_, 1, 0, 0)]
def co_X5_build : List mz_I := [(0, .aload_n 0, 1, 0, 0), (1, .iconst 0, 1, 0, 0), (2, .putfield 38, 3, 5, 7), (5, .aload_n 0, 1, 0, 0), (6, .getfield 32, 3, 5, 5), (9, .bipush (-6), 2, 4294967290, 0), (11, .invokevirtual 42, 3, 54, 0), (14, .aload_n 0, 1, 0, 0),
  (15, .getfield 35, 3, 5, 6), (18, .bipush (-6), 2, 4294967290, 0), (20, .invokevirtual 42, 3, 54, 0), (23, .iconst 0, 1, 0, 0), (24, .istore_n 2, 1, 0, 0), (25, .iload_n 2, 1, 0, 0), (26, .aload_n 1, 1, 0, 0), (27, .invokevirtual 45, 3, 61, 0),
  (30, .if_icmp .ge 42, 3, 72, 0), (33, .aload_n 1, 1, 0, 0), (34, .iload_n 2, 1, 0, 0), (35, .invokevirtual 50, 3, 69, 0), (38, .ifCond .eq 12, 3, 50, 0), (41, .aload_n 0, 1, 0, 0), (42, .aload_n 1, 1, 0, 0), (43, .iload_n 2, 1, 0, 0),
  (44, .invokevirtual 54, 3, 40, 0), (47, .goto 19, 3, 66, 0), (50, .aload_n 1, 1, 0, 0), (51, .iload_n 2, 1, 0, 0), (52, .iconst 1, 1, 1, 0), (53, .isub, 1, 0, 0), (54, .invokevirtual 50, 3, 69, 0), (57, .ifCond .ne 9, 3, 66, 0),
  (60, .aload_n 0, 1, 0, 0), (61, .aload_n 1, 1, 0, 0), (62, .iload_n 2, 1, 0, 0), (63, .invokevirtual 58, 3, 41, 0), (66, .iinc 2 1, 3, 1, 0), (69, .goto (-44), 3, 25, 0), (72, .return_, 1, 0, 0)]
def co_X5_addWhole : List mz_I := [(0, .aload_n 1, 1, 0, 0), (1, .iload_n 2, 1, 0, 0), (2, .invokevirtual 61, 3, 63, 0), (5, .istore_n 3, 1, 0, 0), (6, .aload_n 1, 1, 0, 0), (7, .iload_n 2, 1, 0, 0), (8, .iconst 1, 1, 1, 0), (9, .iadd, 1, 0, 0),
  (10, .invokevirtual 61, 3, 63, 0), (13, .istore 4, 2, 0, 0), (15, .aload_n 0, 1, 0, 0), (16, .getfield 32, 3, 5, 5), (19, .iload_n 3, 1, 0, 0), (20, .iload 4, 2, 0, 0), (22, .invokevirtual 65, 3, 52, 0), (25, .aload_n 0, 1, 0, 0),
  (26, .getfield 35, 3, 5, 6), (29, .iload 4, 2, 0, 0), (31, .iload_n 3, 1, 0, 0), (32, .invokevirtual 65, 3, 52, 0), (35, .aload_n 0, 1, 0, 0), (36, .iconst 0, 1, 0, 0), (37, .iload_n 3, 1, 0, 0), (38, .iload 4, 2, 0, 0),
  (40, .aload_n 1, 1, 0, 0), (41, .iload_n 2, 1, 0, 0), (42, .invokevirtual 69, 3, 62, 0), (45, .aload_n 1, 1, 0, 0), (46, .iload_n 2, 1, 0, 0), (47, .iconst 1, 1, 1, 0), (48, .iadd, 1, 0, 0), (49, .invokevirtual 69, 3, 62, 0),
  (52, .invokevirtual 72, 3, 42, 0), (55, .return_, 1, 0, 0)]
def co_X5_addLacking : List mz_I := [(0, .aload_n 1, 1, 0, 0), (1, .iload_n 2, 1, 0, 0), (2, .invokevirtual 61, 3, 63, 0), (5, .istore_n 3, 1, 0, 0), (6, .aload_n 1, 1, 0, 0), (7, .iload_n 2, 1, 0, 0), (8, .invokevirtual 69, 3, 62, 0), (11, .istore 4, 2, 0, 0),
  (13, .aload_n 1, 1, 0, 0), (14, .iload_n 2, 1, 0, 0), (15, .invokevirtual 76, 3, 64, 0), (18, .ifCond .ne 24, 3, 42, 0), (21, .aload_n 0, 1, 0, 0), (22, .iconst 1, 1, 1, 0), (23, .iload_n 3, 1, 0, 0), (24, .aload_n 0, 1, 0, 0),
  (25, .getfield 32, 3, 5, 5), (28, .iload_n 3, 1, 0, 0), (29, .invokevirtual 79, 3, 51, 0), (32, .iload 4, 2, 0, 0), (34, .iload 4, 2, 0, 0), (36, .invokevirtual 72, 3, 42, 0), (39, .goto 21, 3, 60, 0), (42, .aload_n 0, 1, 0, 0),
  (43, .iconst 2, 1, 2, 0), (44, .aload_n 0, 1, 0, 0), (45, .getfield 35, 3, 5, 6), (48, .iload_n 3, 1, 0, 0), (49, .invokevirtual 79, 3, 51, 0), (52, .iload_n 3, 1, 0, 0), (53, .iload 4, 2, 0, 0), (55, .iload 4, 2, 0, 0),
  (57, .invokevirtual 72, 3, 42, 0), (60, .return_, 1, 0, 0)]
def co_X5_addRide : List mz_I := [(0, .aload_n 0, 1, 0, 0), (1, .getfield 29, 3, 5, 4), (4, .aload_n 0, 1, 0, 0), (5, .getfield 38, 3, 5, 7), (8, .iload_n 1, 1, 0, 0), (9, .invokevirtual 65, 3, 52, 0), (12, .aload_n 0, 1, 0, 0), (13, .getfield 14, 3, 5, 0),
  (16, .aload_n 0, 1, 0, 0), (17, .getfield 38, 3, 5, 7), (20, .iload_n 2, 1, 0, 0), (21, .invokevirtual 65, 3, 52, 0), (24, .aload_n 0, 1, 0, 0), (25, .getfield 20, 3, 5, 1), (28, .aload_n 0, 1, 0, 0), (29, .getfield 38, 3, 5, 7),
  (32, .iload_n 3, 1, 0, 0), (33, .invokevirtual 65, 3, 52, 0), (36, .aload_n 0, 1, 0, 0), (37, .getfield 23, 3, 5, 2), (40, .aload_n 0, 1, 0, 0), (41, .getfield 38, 3, 5, 7), (44, .iload 4, 2, 0, 0), (46, .invokevirtual 65, 3, 52, 0),
  (49, .aload_n 0, 1, 0, 0), (50, .getfield 26, 3, 5, 3), (53, .aload_n 0, 1, 0, 0), (54, .getfield 38, 3, 5, 7), (57, .iload 5, 2, 0, 0), (59, .invokevirtual 65, 3, 52, 0), (62, .aload_n 0, 1, 0, 0), (63, .dup, 1, 0, 0),
  (64, .getfield 38, 3, 5, 7), (67, .iconst 1, 1, 1, 0), (68, .iadd, 1, 0, 0), (69, .putfield 38, 3, 5, 7), (72, .return_, 1, 0, 0)]
def co_X5_size : List mz_I := [(0, .aload_n 0, 1, 0, 0), (1, .getfield 38, 3, 5, 7), (4, .ireturn, 1, 0, 0)]
def co_X5_beginStation : List mz_I := [(0, .aload_n 0, 1, 0, 0), (1, .getfield 14, 3, 5, 0), (4, .iload_n 1, 1, 0, 0), (5, .invokevirtual 79, 3, 51, 0), (8, .ireturn, 1, 0, 0)]
def co_X5_endStation : List mz_I := [(0, .aload_n 0, 1, 0, 0), (1, .getfield 20, 3, 5, 1), (4, .iload_n 1, 1, 0, 0), (5, .invokevirtual 79, 3, 51, 0), (8, .ireturn, 1, 0, 0)]
def co_X5_beginMoment : List mz_I := [(0, .aload_n 0, 1, 0, 0), (1, .getfield 23, 3, 5, 2), (4, .iload_n 1, 1, 0, 0), (5, .invokevirtual 79, 3, 51, 0), (8, .ireturn, 1, 0, 0)]
def co_X5_kind : List mz_I := [(0, .aload_n 0, 1, 0, 0), (1, .getfield 29, 3, 5, 4), (4, .iload_n 1, 1, 0, 0), (5, .invokevirtual 79, 3, 51, 0), (8, .ireturn, 1, 0, 0)]
def co_X5_isLame : List mz_I := [(0, .aload_n 0, 1, 0, 0), (1, .getfield 14, 3, 5, 0), (4, .iload_n 1, 1, 0, 0), (5, .invokevirtual 79, 3, 51, 0), (8, .bipush (-6), 2, 4294967290, 0), (10, .if_icmp .eq 16, 3, 26, 0), (13, .aload_n 0, 1, 0, 0), (14, .getfield 20, 3, 5, 1),
  (17, .iload_n 1, 1, 0, 0), (18, .invokevirtual 79, 3, 51, 0), (21, .bipush (-6), 2, 4294967290, 0), (23, .if_icmp .ne 7, 3, 30, 0), (26, .iconst 1, 1, 1, 0), (27, .goto 4, 3, 31, 0), (30, .iconst 0, 1, 0, 0), (31, .ireturn, 1, 0, 0)]
def co_X5_goesOn : List mz_I := [(0, .iload_n 1, 1, 0, 0), (1, .ifCond .le 27, 3, 28, 0), (4, .aload_n 0, 1, 0, 0), (5, .getfield 29, 3, 5, 4), (8, .iload_n 1, 1, 0, 0), (9, .invokevirtual 79, 3, 51, 0), (12, .ifCond .ne 16, 3, 28, 0), (15, .aload_n 0, 1, 0, 0),
  (16, .getfield 29, 3, 5, 4), (19, .iload_n 1, 1, 0, 0), (20, .iconst 1, 1, 1, 0), (21, .isub, 1, 0, 0), (22, .invokevirtual 79, 3, 51, 0), (25, .ifCond .eq 5, 3, 30, 0), (28, .iconst 0, 1, 0, 0), (29, .ireturn, 1, 0, 0),
  (30, .aload_n 0, 1, 0, 0), (31, .getfield 23, 3, 5, 2), (34, .iload_n 1, 1, 0, 0), (35, .invokevirtual 79, 3, 51, 0), (38, .istore_n 3, 1, 0, 0), (39, .aload_n 0, 1, 0, 0), (40, .getfield 26, 3, 5, 3), (43, .iload_n 1, 1, 0, 0),
  (44, .iconst 1, 1, 1, 0), (45, .isub, 1, 0, 0), (46, .invokevirtual 79, 3, 51, 0), (49, .istore 4, 2, 0, 0), (51, .iload_n 3, 1, 0, 0), (52, .invokestatic 82, 3, 114, 3), (55, .iload 4, 2, 0, 0), (57, .invokestatic 82, 3, 114, 3),
  (60, .if_icmp .ne 36, 3, 96, 0), (63, .iload_n 3, 1, 0, 0), (64, .iload 4, 2, 0, 0), (66, .isub, 1, 0, 0), (67, .iload_n 2, 1, 0, 0), (68, .if_icmp .gt 28, 3, 96, 0), (71, .aload_n 0, 1, 0, 0), (72, .getfield 14, 3, 5, 0),
  (75, .iload_n 1, 1, 0, 0), (76, .invokevirtual 79, 3, 51, 0), (79, .aload_n 0, 1, 0, 0), (80, .getfield 20, 3, 5, 1), (83, .iload_n 1, 1, 0, 0), (84, .iconst 1, 1, 1, 0), (85, .isub, 1, 0, 0), (86, .invokevirtual 79, 3, 51, 0),
  (89, .if_icmp .ne 7, 3, 96, 0), (92, .iconst 1, 1, 1, 0), (93, .goto 4, 3, 97, 0), (96, .iconst 0, 1, 0, 0), (97, .ireturn, 1, 0, 0)]
def co_X6_init : List mz_I := [(0, .aload_n 0, 1, 0, 0), (1, .invokespecial 1, 3, 999, 6), (4, .aload_n 0, 1, 0, 0), (5, .iload_n 1, 1, 0, 0), (6, .ifCond .ge 7, 3, 13, 0), (9, .iconst 0, 1, 0, 0), (10, .goto 4, 3, 14, 0), (13, .iload_n 1, 1, 0, 0),
  (14, .newarray .int, 2, 0, 0), (16, .putfield 7, 3, 6, 0), (19, .return_, 1, 0, 0)]
def co_X6_at : List mz_I := [(0, .iload_n 1, 1, 0, 0), (1, .ifCond .lt 21, 3, 22, 0), (4, .iload_n 1, 1, 0, 0), (5, .aload_n 0, 1, 0, 0), (6, .getfield 7, 3, 6, 0), (9, .arraylength, 1, 0, 0), (10, .if_icmp .ge 12, 3, 22, 0), (13, .aload_n 0, 1, 0, 0),
  (14, .getfield 7, 3, 6, 0), (17, .iload_n 1, 1, 0, 0), (18, .iaload, 1, 0, 0), (19, .goto 4, 3, 23, 0), (22, .iconst 0, 1, 0, 0), (23, .ireturn, 1, 0, 0)]
def co_X6_put : List mz_I := [(0, .iload_n 1, 1, 0, 0), (1, .ifCond .lt 19, 3, 20, 0), (4, .iload_n 1, 1, 0, 0), (5, .aload_n 0, 1, 0, 0), (6, .getfield 7, 3, 6, 0), (9, .arraylength, 1, 0, 0), (10, .if_icmp .ge 10, 3, 20, 0), (13, .aload_n 0, 1, 0, 0),
  (14, .getfield 7, 3, 6, 0), (17, .iload_n 1, 1, 0, 0), (18, .iload_n 2, 1, 0, 0), (19, .iastore, 1, 0, 0), (20, .return_, 1, 0, 0)]
def co_X6_add : List mz_I := [(0, .aload_n 0, 1, 0, 0), (1, .iload_n 1, 1, 0, 0), (2, .aload_n 0, 1, 0, 0), (3, .iload_n 1, 1, 0, 0), (4, .invokevirtual 13, 3, 51, 0), (7, .iload_n 2, 1, 0, 0), (8, .iadd, 1, 0, 0), (9, .invokevirtual 17, 3, 52, 0),
  (12, .return_, 1, 0, 0)]
def co_X6_fill : List mz_I := [(0, .iconst 0, 1, 0, 0), (1, .istore_n 2, 1, 0, 0), (2, .iload_n 2, 1, 0, 0), (3, .aload_n 0, 1, 0, 0), (4, .getfield 7, 3, 6, 0), (7, .arraylength, 1, 0, 0), (8, .if_icmp .ge 16, 3, 24, 0), (11, .aload_n 0, 1, 0, 0),
  (12, .getfield 7, 3, 6, 0), (15, .iload_n 2, 1, 0, 0), (16, .iload_n 1, 1, 0, 0), (17, .iastore, 1, 0, 0), (18, .iinc 2 1, 3, 1, 0), (21, .goto (-19), 3, 2, 0), (24, .return_, 1, 0, 0)]
def co_X6_sum : List mz_I := [(0, .iconst 0, 1, 0, 0), (1, .istore_n 1, 1, 0, 0), (2, .iconst 0, 1, 0, 0), (3, .istore_n 2, 1, 0, 0), (4, .iload_n 2, 1, 0, 0), (5, .aload_n 0, 1, 0, 0), (6, .getfield 7, 3, 6, 0), (9, .arraylength, 1, 0, 0),
  (10, .if_icmp .ge 18, 3, 28, 0), (13, .iload_n 1, 1, 0, 0), (14, .aload_n 0, 1, 0, 0), (15, .getfield 7, 3, 6, 0), (18, .iload_n 2, 1, 0, 0), (19, .iaload, 1, 0, 0), (20, .iadd, 1, 0, 0), (21, .istore_n 1, 1, 0, 0),
  (22, .iinc 2 1, 3, 1, 0), (25, .goto (-21), 3, 4, 0), (28, .iload_n 1, 1, 0, 0), (29, .ireturn, 1, 0, 0)]
def co_X6_copyFrom : List mz_I := [(0, .iconst 0, 1, 0, 0), (1, .istore_n 2, 1, 0, 0), (2, .iload_n 2, 1, 0, 0), (3, .aload_n 0, 1, 0, 0), (4, .getfield 7, 3, 6, 0), (7, .arraylength, 1, 0, 0), (8, .if_icmp .ge 20, 3, 28, 0), (11, .aload_n 0, 1, 0, 0),
  (12, .getfield 7, 3, 6, 0), (15, .iload_n 2, 1, 0, 0), (16, .aload_n 1, 1, 0, 0), (17, .iload_n 2, 1, 0, 0), (18, .invokevirtual 13, 3, 51, 0), (21, .iastore, 1, 0, 0), (22, .iinc 2 1, 3, 1, 0), (25, .goto (-23), 3, 2, 0),
  (28, .return_, 1, 0, 0)]
def co_X7_init : List mz_I := [(0, .aload_n 0, 1, 0, 0), (1, .invokespecial 1, 3, 999, 6), (4, .aload_n 0, 1, 0, 0), (5, .new 7, 3, 8, 0), (8, .dup, 1, 0, 0), (9, .invokespecial 9, 3, 60, 5), (12, .putfield 10, 3, 7, 0), (15, .aload_n 0, 1, 0, 0),
  (16, .new 7, 3, 8, 0), (19, .dup, 1, 0, 0), (20, .invokespecial 9, 3, 60, 5), (23, .putfield 16, 3, 7, 1), (26, .aload_n 0, 1, 0, 0), (27, .new 7, 3, 8, 0), (30, .dup, 1, 0, 0), (31, .invokespecial 9, 3, 60, 5),
  (34, .putfield 19, 3, 7, 2), (37, .aload_n 0, 1, 0, 0), (38, .new 7, 3, 8, 0), (41, .dup, 1, 0, 0), (42, .invokespecial 9, 3, 60, 5), (45, .putfield 22, 3, 7, 3), (48, .aload_n 0, 1, 0, 0), (49, .new 25, 3, 9, 0),
  (52, .dup, 1, 0, 0), (53, .invokespecial 27, 3, 71, 4), (56, .putfield 28, 3, 7, 4), (59, .aload_n 0, 1, 0, 0), (60, .new 32, 3, 0, 0), (63, .dup, 1, 0, 0), (64, .invokespecial 34, 3, 0, 5), (67, .putfield 35, 3, 7, 5),
  (70, .return_, 1, 0, 0)]
def co_X7_tapsOf : List mz_I := [(0, .iload_n 1, 1, 0, 0), (1, .tableswitch 42 0 2 #[27, 32, 37], 27, 0, 0), (28, .aload_n 0, 1, 0, 0), (29, .getfield 10, 3, 7, 0), (32, .areturn, 1, 0, 0), (33, .aload_n 0, 1, 0, 0), (34, .getfield 16, 3, 7, 1), (37, .areturn, 1, 0, 0),
  (38, .aload_n 0, 1, 0, 0), (39, .getfield 19, 3, 7, 2), (42, .areturn, 1, 0, 0), (43, .aload_n 0, 1, 0, 0), (44, .getfield 22, 3, 7, 3), (47, .areturn, 1, 0, 0)]
def co_X7_copyFrom : List mz_I := [(0, .aload_n 0, 1, 0, 0), (1, .getfield 10, 3, 7, 0), (4, .aload_n 1, 1, 0, 0), (5, .getfield 10, 3, 7, 0), (8, .invokevirtual 39, 3, 70, 0), (11, .aload_n 0, 1, 0, 0), (12, .getfield 16, 3, 7, 1), (15, .aload_n 1, 1, 0, 0),
  (16, .getfield 16, 3, 7, 1), (19, .invokevirtual 39, 3, 70, 0), (22, .aload_n 0, 1, 0, 0), (23, .getfield 19, 3, 7, 2), (26, .aload_n 1, 1, 0, 0), (27, .getfield 19, 3, 7, 2), (30, .invokevirtual 39, 3, 70, 0), (33, .aload_n 0, 1, 0, 0),
  (34, .getfield 22, 3, 7, 3), (37, .aload_n 1, 1, 0, 0), (38, .getfield 22, 3, 7, 3), (41, .invokevirtual 39, 3, 70, 0), (44, .aload_n 0, 1, 0, 0), (45, .getfield 28, 3, 7, 4), (48, .aload_n 1, 1, 0, 0), (49, .getfield 28, 3, 7, 4),
  (52, .invokevirtual 43, 3, 80, 0), (55, .aload_n 0, 1, 0, 0), (56, .getfield 35, 3, 7, 5), (59, .aload_n 1, 1, 0, 0), (60, .getfield 35, 3, 7, 5), (63, .invokevirtual 46, 3, 8, 0), (66, .return_, 1, 0, 0)]
def co_X8_init : List mz_I := [(0, .aload_n 0, 1, 0, 0), (1, .invokespecial 3, 3, 999, 6), (4, .aload_n 0, 1, 0, 0), (5, .new 9, 3, 6, 0), (8, .dup, 1, 0, 0), (9, .bipush 48, 2, 48, 0), (11, .invokespecial 11, 3, 50, 4), (14, .putfield 14, 3, 8, 0),
  (17, .aload_n 0, 1, 0, 0), (18, .new 9, 3, 6, 0), (21, .dup, 1, 0, 0), (22, .bipush 48, 2, 48, 0), (24, .invokespecial 11, 3, 50, 4), (27, .putfield 20, 3, 8, 1), (30, .aload_n 0, 1, 0, 0), (31, .new 9, 3, 6, 0),
  (34, .dup, 1, 0, 0), (35, .bipush 48, 2, 48, 0), (37, .invokespecial 11, 3, 50, 4), (40, .putfield 23, 3, 8, 2), (43, .aload_n 0, 1, 0, 0), (44, .iconst 0, 1, 0, 0), (45, .putfield 26, 3, 8, 3), (48, .return_, 1, 0, 0)]
def co_X8_size : List mz_I := [(0, .aload_n 0, 1, 0, 0), (1, .getfield 26, 3, 8, 3), (4, .ireturn, 1, 0, 0)]
def co_X8_moment : List mz_I := [(0, .aload_n 0, 1, 0, 0), (1, .getfield 14, 3, 8, 0), (4, .iload_n 1, 1, 0, 0), (5, .invokevirtual 30, 3, 51, 0), (8, .ireturn, 1, 0, 0)]
def co_X8_station : List mz_I := [(0, .aload_n 0, 1, 0, 0), (1, .getfield 20, 3, 8, 1), (4, .iload_n 1, 1, 0, 0), (5, .invokevirtual 30, 3, 51, 0), (8, .ireturn, 1, 0, 0)]
def co_X8_way : List mz_I := [(0, .aload_n 0, 1, 0, 0), (1, .getfield 23, 3, 8, 2), (4, .iload_n 1, 1, 0, 0), (5, .invokevirtual 30, 3, 51, 0), (8, .ireturn, 1, 0, 0)]
def co_X8_find : List mz_I := [(0, .iconst 0, 1, 0, 0), (1, .istore_n 2, 1, 0, 0), (2, .iload_n 2, 1, 0, 0), (3, .aload_n 0, 1, 0, 0), (4, .getfield 26, 3, 8, 3), (7, .if_icmp .ge 23, 3, 30, 0), (10, .aload_n 0, 1, 0, 0), (11, .getfield 14, 3, 8, 0),
  (14, .iload_n 2, 1, 0, 0), (15, .invokevirtual 30, 3, 51, 0), (18, .iload_n 1, 1, 0, 0), (19, .if_icmp .ne 5, 3, 24, 0), (22, .iload_n 2, 1, 0, 0), (23, .ireturn, 1, 0, 0), (24, .iinc 2 1, 3, 1, 0), (27, .goto (-25), 3, 2, 0),
  (30, .iconst (-1), 1, 4294967295, 0), (31, .ireturn, 1, 0, 0)]
def co_X8_insert : List mz_I := [(0, .aload_n 0, 1, 0, 0), (1, .getfield 26, 3, 8, 3), (4, .bipush 48, 2, 48, 0), (6, .if_icmp .lt 4, 3, 10, 0), (9, .return_, 1, 0, 0), (10, .aload_n 0, 1, 0, 0), (11, .getfield 26, 3, 8, 3), (14, .istore 4, 2, 0, 0),
  (16, .iload 4, 2, 0, 0), (18, .ifCond .le 34, 3, 52, 0), (21, .aload_n 0, 1, 0, 0), (22, .getfield 14, 3, 8, 0), (25, .iload 4, 2, 0, 0), (27, .iconst 1, 1, 1, 0), (28, .isub, 1, 0, 0), (29, .invokevirtual 30, 3, 51, 0),
  (32, .iload_n 1, 1, 0, 0), (33, .if_icmp .le 19, 3, 52, 0), (36, .aload_n 0, 1, 0, 0), (37, .iload 4, 2, 0, 0), (39, .iconst 1, 1, 1, 0), (40, .isub, 1, 0, 0), (41, .iload 4, 2, 0, 0), (43, .invokevirtual 34, 3, 68, 0),
  (46, .iinc 4 (-1), 3, 4294967295, 0), (49, .goto (-33), 3, 16, 0), (52, .aload_n 0, 1, 0, 0), (53, .getfield 14, 3, 8, 0), (56, .iload 4, 2, 0, 0), (58, .iload_n 1, 1, 0, 0), (59, .invokevirtual 38, 3, 52, 0), (62, .aload_n 0, 1, 0, 0),
  (63, .getfield 20, 3, 8, 1), (66, .iload 4, 2, 0, 0), (68, .iload_n 2, 1, 0, 0), (69, .invokevirtual 38, 3, 52, 0), (72, .aload_n 0, 1, 0, 0), (73, .getfield 23, 3, 8, 2), (76, .iload 4, 2, 0, 0), (78, .iload_n 3, 1, 0, 0),
  (79, .invokevirtual 38, 3, 52, 0), (82, .aload_n 0, 1, 0, 0), (83, .dup, 1, 0, 0), (84, .getfield 26, 3, 8, 3), (87, .iconst 1, 1, 1, 0), (88, .iadd, 1, 0, 0), (89, .putfield 26, 3, 8, 3), (92, .return_, 1, 0, 0)]
def co_X8_remove : List mz_I := [(0, .iload_n 1, 1, 0, 0), (1, .ifCond .lt 11, 3, 12, 0), (4, .iload_n 1, 1, 0, 0), (5, .aload_n 0, 1, 0, 0), (6, .getfield 26, 3, 8, 3), (9, .if_icmp .lt 4, 3, 13, 0), (12, .return_, 1, 0, 0), (13, .iload_n 1, 1, 0, 0),
  (14, .iconst 1, 1, 1, 0), (15, .iadd, 1, 0, 0), (16, .istore_n 2, 1, 0, 0), (17, .iload_n 2, 1, 0, 0), (18, .aload_n 0, 1, 0, 0), (19, .getfield 26, 3, 8, 3), (22, .if_icmp .ge 17, 3, 39, 0), (25, .aload_n 0, 1, 0, 0),
  (26, .iload_n 2, 1, 0, 0), (27, .iload_n 2, 1, 0, 0), (28, .iconst 1, 1, 1, 0), (29, .isub, 1, 0, 0), (30, .invokevirtual 34, 3, 68, 0), (33, .iinc 2 1, 3, 1, 0), (36, .goto (-19), 3, 17, 0), (39, .aload_n 0, 1, 0, 0),
  (40, .dup, 1, 0, 0), (41, .getfield 26, 3, 8, 3), (44, .iconst 1, 1, 1, 0), (45, .isub, 1, 0, 0), (46, .putfield 26, 3, 8, 3), (49, .return_, 1, 0, 0)]
def co_X8_move : List mz_I := [(0, .aload_n 0, 1, 0, 0), (1, .getfield 14, 3, 8, 0), (4, .iload_n 2, 1, 0, 0), (5, .aload_n 0, 1, 0, 0), (6, .getfield 14, 3, 8, 0), (9, .iload_n 1, 1, 0, 0), (10, .invokevirtual 30, 3, 51, 0), (13, .invokevirtual 38, 3, 52, 0),
  (16, .aload_n 0, 1, 0, 0), (17, .getfield 20, 3, 8, 1), (20, .iload_n 2, 1, 0, 0), (21, .aload_n 0, 1, 0, 0), (22, .getfield 20, 3, 8, 1), (25, .iload_n 1, 1, 0, 0), (26, .invokevirtual 30, 3, 51, 0), (29, .invokevirtual 38, 3, 52, 0),
  (32, .aload_n 0, 1, 0, 0), (33, .getfield 23, 3, 8, 2), (36, .iload_n 2, 1, 0, 0), (37, .aload_n 0, 1, 0, 0), (38, .getfield 23, 3, 8, 2), (41, .iload_n 1, 1, 0, 0), (42, .invokevirtual 30, 3, 51, 0), (45, .invokevirtual 38, 3, 52, 0),
  (48, .return_, 1, 0, 0)]
def co_X8_isWholeFrom : List mz_I := [(0, .iload_n 1, 1, 0, 0), (1, .ifCond .lt 69, 3, 70, 0), (4, .iload_n 1, 1, 0, 0), (5, .iconst 1, 1, 1, 0), (6, .iadd, 1, 0, 0), (7, .aload_n 0, 1, 0, 0), (8, .getfield 26, 3, 8, 3), (11, .if_icmp .ge 59, 3, 70, 0),
  (14, .aload_n 0, 1, 0, 0), (15, .getfield 23, 3, 8, 2), (18, .iload_n 1, 1, 0, 0), (19, .invokevirtual 30, 3, 51, 0), (22, .ifCond .ne 48, 3, 70, 0), (25, .aload_n 0, 1, 0, 0), (26, .getfield 23, 3, 8, 2), (29, .iload_n 1, 1, 0, 0),
  (30, .iconst 1, 1, 1, 0), (31, .iadd, 1, 0, 0), (32, .invokevirtual 30, 3, 51, 0), (35, .iconst 1, 1, 1, 0), (36, .if_icmp .ne 34, 3, 70, 0), (39, .aload_n 0, 1, 0, 0), (40, .getfield 14, 3, 8, 0), (43, .iload_n 1, 1, 0, 0),
  (44, .invokevirtual 30, 3, 51, 0), (47, .invokestatic 41, 3, 114, 3), (50, .aload_n 0, 1, 0, 0), (51, .getfield 14, 3, 8, 0), (54, .iload_n 1, 1, 0, 0), (55, .iconst 1, 1, 1, 0), (56, .iadd, 1, 0, 0), (57, .invokevirtual 30, 3, 51, 0),
  (60, .invokestatic 41, 3, 114, 3), (63, .if_icmp .ne 7, 3, 70, 0), (66, .iconst 1, 1, 1, 0), (67, .goto 4, 3, 71, 0), (70, .iconst 0, 1, 0, 0), (71, .ireturn, 1, 0, 0)]
def co_X8_copyFrom : List mz_I := [(0, .aload_n 0, 1, 0, 0), (1, .getfield 14, 3, 8, 0), (4, .aload_n 1, 1, 0, 0), (5, .getfield 14, 3, 8, 0), (8, .invokevirtual 44, 3, 56, 0), (11, .aload_n 0, 1, 0, 0), (12, .getfield 20, 3, 8, 1), (15, .aload_n 1, 1, 0, 0),
  (16, .getfield 20, 3, 8, 1), (19, .invokevirtual 44, 3, 56, 0), (22, .aload_n 0, 1, 0, 0), (23, .getfield 23, 3, 8, 2), (26, .aload_n 1, 1, 0, 0), (27, .getfield 23, 3, 8, 2), (30, .invokevirtual 44, 3, 56, 0), (33, .aload_n 0, 1, 0, 0),
  (34, .aload_n 1, 1, 0, 0), (35, .getfield 26, 3, 8, 3), (38, .putfield 26, 3, 8, 3), (41, .return_, 1, 0, 0)]
def co_X9_init : List mz_I := [(0, .aload_n 0, 1, 0, 0), (1, .invokespecial 3, 3, 999, 6), (4, .aload_n 0, 1, 0, 0), (5, .new 9, 3, 6, 0), (8, .dup, 1, 0, 0), (9, .bipush 8, 2, 8, 0), (11, .invokespecial 11, 3, 50, 4), (14, .putfield 14, 3, 9, 0),
  (17, .aload_n 0, 1, 0, 0), (18, .new 9, 3, 6, 0), (21, .dup, 1, 0, 0), (22, .bipush 6, 2, 6, 0), (24, .invokespecial 11, 3, 50, 4), (27, .putfield 20, 3, 9, 1), (30, .aload_n 0, 1, 0, 0), (31, .new 9, 3, 6, 0),
  (34, .dup, 1, 0, 0), (35, .bipush 6, 2, 6, 0), (37, .invokespecial 11, 3, 50, 4), (40, .putfield 23, 3, 9, 2), (43, .aload_n 0, 1, 0, 0), (44, .new 9, 3, 6, 0), (47, .dup, 1, 0, 0), (48, .bipush 6, 2, 6, 0),
  (50, .invokespecial 11, 3, 50, 4), (53, .putfield 26, 3, 9, 3), (56, .aload_n 0, 1, 0, 0), (57, .bipush 50, 2, 50, 0), (59, .putfield 29, 3, 9, 4), (62, .aload_n 0, 1, 0, 0), (63, .bipush 30, 2, 30, 0), (65, .putfield 33, 3, 9, 5),
  (68, .iconst 0, 1, 0, 0), (69, .istore_n 1, 1, 0, 0), (70, .iload_n 1, 1, 0, 0), (71, .getstatic 36, 3, 0, 0), (74, .arraylength, 1, 0, 0), (75, .if_icmp .ge 22, 3, 97, 0), (78, .aload_n 0, 1, 0, 0), (79, .getfield 14, 3, 9, 0),
  (82, .iload_n 1, 1, 0, 0), (83, .getstatic 36, 3, 0, 0), (86, .iload_n 1, 1, 0, 0), (87, .iaload, 1, 0, 0), (88, .invokevirtual 40, 3, 52, 0), (91, .iinc 1 1, 3, 1, 0), (94, .goto (-24), 3, 70, 0), (97, .iconst 1, 1, 1, 0),
  (98, .istore_n 1, 1, 0, 0), (99, .iload_n 1, 1, 0, 0), (100, .iconst 5, 1, 5, 0), (101, .if_icmp .gt 58, 3, 159, 0), (104, .aload_n 0, 1, 0, 0), (105, .getfield 20, 3, 9, 1), (108, .iload_n 1, 1, 0, 0), (109, .sipush 150, 3, 150, 0),
  (112, .bipush 50, 2, 50, 0), (114, .iload_n 1, 1, 0, 0), (115, .imul, 1, 0, 0), (116, .iadd, 1, 0, 0), (117, .invokevirtual 40, 3, 52, 0), (120, .aload_n 0, 1, 0, 0), (121, .getfield 23, 3, 9, 2), (124, .iload_n 1, 1, 0, 0),
  (125, .sipush 400, 3, 400, 0), (128, .bipush 100, 2, 100, 0), (130, .iload_n 1, 1, 0, 0), (131, .imul, 1, 0, 0), (132, .iadd, 1, 0, 0), (133, .invokevirtual 40, 3, 52, 0), (136, .aload_n 0, 1, 0, 0), (137, .getfield 26, 3, 9, 3),
  (140, .iload_n 1, 1, 0, 0), (141, .sipush 1500, 3, 1500, 0), (144, .sipush 400, 3, 400, 0), (147, .iload_n 1, 1, 0, 0), (148, .imul, 1, 0, 0), (149, .iadd, 1, 0, 0), (150, .invokevirtual 40, 3, 52, 0), (153, .iinc 1 1, 3, 1, 0),
  (156, .goto (-57), 3, 99, 0), (159, .return_, 1, 0, 0)]
def co_X9_zoneOf : List mz_I := [(0, .aload_n 0, 1, 0, 0), (1, .getfield 14, 3, 9, 0), (4, .iload_n 1, 1, 0, 0), (5, .invokevirtual 44, 3, 51, 0), (8, .ireturn, 1, 0, 0)]
def co_X9_putZone : List mz_I := [(0, .aload_n 0, 1, 0, 0), (1, .getfield 14, 3, 9, 0), (4, .iload_n 1, 1, 0, 0), (5, .iload_n 2, 1, 0, 0), (6, .invokevirtual 40, 3, 52, 0), (9, .return_, 1, 0, 0)]
def co_X9_valueOf : List mz_I := [(0, .iload_n 1, 1, 0, 0), (1, .tableswitch 63 0 3 #[31, 40, 49, 58], 31, 0, 0), (32, .aload_n 0, 1, 0, 0), (33, .getfield 20, 3, 9, 1), (36, .iload_n 2, 1, 0, 0), (37, .invokevirtual 44, 3, 51, 0), (40, .ireturn, 1, 0, 0), (41, .aload_n 0, 1, 0, 0),
  (42, .getfield 23, 3, 9, 2), (45, .iload_n 2, 1, 0, 0), (46, .invokevirtual 44, 3, 51, 0), (49, .ireturn, 1, 0, 0), (50, .aload_n 0, 1, 0, 0), (51, .getfield 26, 3, 9, 3), (54, .iload_n 2, 1, 0, 0), (55, .invokevirtual 44, 3, 51, 0),
  (58, .ireturn, 1, 0, 0), (59, .aload_n 0, 1, 0, 0), (60, .getfield 29, 3, 9, 4), (63, .ireturn, 1, 0, 0), (64, .aload_n 0, 1, 0, 0), (65, .getfield 33, 3, 9, 5), (68, .ireturn, 1, 0, 0)]
def co_X9_putValue : List mz_I := [(0, .iload_n 1, 1, 0, 0), (1, .tableswitch 75 0 3 #[31, 43, 55, 67], 31, 0, 0), (32, .aload_n 0, 1, 0, 0), (33, .getfield 20, 3, 9, 1), (36, .iload_n 2, 1, 0, 0), (37, .iload_n 3, 1, 0, 0), (38, .invokevirtual 40, 3, 52, 0), (41, .goto 40, 3, 81, 0),
  (44, .aload_n 0, 1, 0, 0), (45, .getfield 23, 3, 9, 2), (48, .iload_n 2, 1, 0, 0), (49, .iload_n 3, 1, 0, 0), (50, .invokevirtual 40, 3, 52, 0), (53, .goto 28, 3, 81, 0), (56, .aload_n 0, 1, 0, 0), (57, .getfield 26, 3, 9, 3),
  (60, .iload_n 2, 1, 0, 0), (61, .iload_n 3, 1, 0, 0), (62, .invokevirtual 40, 3, 52, 0), (65, .goto 16, 3, 81, 0), (68, .aload_n 0, 1, 0, 0), (69, .iload_n 3, 1, 0, 0), (70, .putfield 29, 3, 9, 4), (73, .goto 8, 3, 81, 0),
  (76, .aload_n 0, 1, 0, 0), (77, .iload_n 3, 1, 0, 0), (78, .putfield 33, 3, 9, 5), (81, .return_, 1, 0, 0)]
def co_X9_near : List mz_I := [(0, .aload_n 0, 1, 0, 0), (1, .getfield 33, 3, 9, 5), (4, .ireturn, 1, 0, 0)]
def co_X9_journeyCost : List mz_I := [(0, .aload_n 0, 1, 0, 0), (1, .getfield 20, 3, 9, 1), (4, .iload_n 1, 1, 0, 0), (5, .invokevirtual 44, 3, 51, 0), (8, .iload_n 2, 1, 0, 0), (9, .ifCond .eq 10, 3, 19, 0), (12, .aload_n 0, 1, 0, 0), (13, .getfield 29, 3, 9, 4),
  (16, .goto 4, 3, 20, 0), (19, .iconst 0, 1, 0, 0), (20, .iadd, 1, 0, 0), (21, .ireturn, 1, 0, 0)]
def co_X9_capped : List mz_I := [(0, .iload_n 2, 1, 0, 0), (1, .ifCond .ne 7, 3, 8, 0), (4, .iconst 0, 1, 0, 0), (5, .goto 15, 3, 20, 0), (8, .iload_n 1, 1, 0, 0), (9, .aload_n 0, 1, 0, 0), (10, .getfield 23, 3, 9, 2), (13, .iload_n 2, 1, 0, 0),
  (14, .invokevirtual 44, 3, 51, 0), (17, .invokestatic 48, 3, 997, 8), (20, .ireturn, 1, 0, 0)]
def co_X9_weekCost : List mz_I := [(0, .iload_n 1, 1, 0, 0), (1, .ifCond .ne 7, 3, 8, 0), (4, .iconst 0, 1, 0, 0), (5, .goto 11, 3, 16, 0), (8, .aload_n 0, 1, 0, 0), (9, .getfield 26, 3, 9, 3), (12, .iload_n 1, 1, 0, 0), (13, .invokevirtual 44, 3, 51, 0),
  (16, .ireturn, 1, 0, 0)]
def co_X9_copyFrom : List mz_I := [(0, .aload_n 0, 1, 0, 0), (1, .getfield 14, 3, 9, 0), (4, .aload_n 1, 1, 0, 0), (5, .getfield 14, 3, 9, 0), (8, .invokevirtual 54, 3, 56, 0), (11, .aload_n 0, 1, 0, 0), (12, .getfield 20, 3, 9, 1), (15, .aload_n 1, 1, 0, 0),
  (16, .getfield 20, 3, 9, 1), (19, .invokevirtual 54, 3, 56, 0), (22, .aload_n 0, 1, 0, 0), (23, .getfield 23, 3, 9, 2), (26, .aload_n 1, 1, 0, 0), (27, .getfield 23, 3, 9, 2), (30, .invokevirtual 54, 3, 56, 0), (33, .aload_n 0, 1, 0, 0),
  (34, .getfield 26, 3, 9, 3), (37, .aload_n 1, 1, 0, 0), (38, .getfield 26, 3, 9, 3), (41, .invokevirtual 54, 3, 56, 0), (44, .aload_n 0, 1, 0, 0), (45, .aload_n 1, 1, 0, 0), (46, .getfield 29, 3, 9, 4), (49, .putfield 29, 3, 9, 4),
  (52, .aload_n 0, 1, 0, 0), (53, .aload_n 1, 1, 0, 0), (54, .getfield 33, 3, 9, 5), (57, .putfield 33, 3, 9, 5), (60, .return_, 1, 0, 0)]
def co_X10_init : List mz_I := [(0, .aload_n 0, 1, 0, 0), (1, .invokespecial 1, 3, 999, 6), (4, .aload_n 0, 1, 0, 0), (5, .new 7, 3, 7, 0), (8, .dup, 1, 0, 0), (9, .invokespecial 9, 3, 57, 5), (12, .putfield 10, 3, 10, 0), (15, .aload_n 0, 1, 0, 0),
  (16, .new 7, 3, 7, 0), (19, .dup, 1, 0, 0), (20, .invokespecial 9, 3, 57, 5), (23, .putfield 16, 3, 10, 1), (26, .aload_n 0, 1, 0, 0), (27, .new 7, 3, 7, 0), (30, .dup, 1, 0, 0), (31, .invokespecial 9, 3, 57, 5),
  (34, .putfield 19, 3, 10, 2), (37, .aload_n 0, 1, 0, 0), (38, .iconst 0, 1, 0, 0), (39, .putfield 22, 3, 10, 3), (42, .aload_n 0, 1, 0, 0), (43, .new 26, 3, 8, 0), (46, .dup, 1, 0, 0), (47, .invokespecial 28, 3, 60, 5),
  (50, .putfield 29, 3, 10, 4), (53, .aload_n 0, 1, 0, 0), (54, .new 33, 3, 1, 0), (57, .dup, 1, 0, 0), (58, .invokespecial 35, 3, 9, 5), (61, .putfield 36, 3, 10, 5), (64, .return_, 1, 0, 0)]
def co_X10_zone : List mz_I := [(0, .iload_n 1, 1, 0, 0), (1, .invokestatic 40, 3, 106, 2), (4, .ifCond .ne 5, 3, 9, 0), (7, .iconst (-1), 1, 4294967295, 0), (8, .ireturn, 1, 0, 0), (9, .iload_n 2, 1, 0, 0), (10, .invokestatic 44, 3, 111, 2), (13, .ifCond .ne 6, 3, 19, 0),
  (16, .bipush (-2), 2, 4294967294, 0), (18, .ireturn, 1, 0, 0), (19, .aload_n 0, 1, 0, 0), (20, .getfield 10, 3, 10, 0), (23, .getfield 47, 3, 7, 4), (26, .iload_n 1, 1, 0, 0), (27, .invokevirtual 51, 3, 72, 0), (30, .istore_n 3, 1, 0, 0),
  (31, .aload_n 0, 1, 0, 0), (32, .getfield 10, 3, 10, 0), (35, .getfield 47, 3, 7, 4), (38, .iload_n 1, 1, 0, 0), (39, .iload_n 2, 1, 0, 0), (40, .invokevirtual 57, 3, 73, 0), (43, .iload_n 3, 1, 0, 0), (44, .ireturn, 1, 0, 0)]
def co_X10_price : List mz_I := [(0, .iload_n 1, 1, 0, 0), (1, .iload_n 2, 1, 0, 0), (2, .iload_n 3, 1, 0, 0), (3, .invokestatic 61, 3, 112, 2), (6, .ifCond .ne 6, 3, 12, 0), (9, .bipush (-2), 2, 4294967294, 0), (11, .ireturn, 1, 0, 0), (12, .aload_n 0, 1, 0, 0),
  (13, .getfield 10, 3, 10, 0), (16, .getfield 47, 3, 7, 4), (19, .iload_n 1, 1, 0, 0), (20, .iload_n 2, 1, 0, 0), (21, .invokevirtual 65, 3, 74, 0), (24, .istore 4, 2, 0, 0), (26, .aload_n 0, 1, 0, 0), (27, .getfield 10, 3, 10, 0),
  (30, .getfield 47, 3, 7, 4), (33, .iload_n 1, 1, 0, 0), (34, .iload_n 2, 1, 0, 0), (35, .iload_n 3, 1, 0, 0), (36, .invokevirtual 69, 3, 75, 0), (39, .iload 4, 2, 0, 0), (41, .ireturn, 1, 0, 0)]
def co_X10_tap : List mz_I := [(0, .aload_n 0, 1, 0, 0), (1, .iload_n 1, 1, 0, 0), (2, .iload_n 2, 1, 0, 0), (3, .iload_n 3, 1, 0, 0), (4, .iload 4, 2, 0, 0), (6, .iload 5, 2, 0, 0), (8, .invokevirtual 73, 3, 99, 0), (11, .istore 6, 2, 0, 0),
  (13, .iload 6, 2, 0, 0), (15, .ifCond .eq 6, 3, 21, 0), (18, .iload 6, 2, 0, 0), (20, .ireturn, 1, 0, 0), (21, .aload_n 0, 1, 0, 0), (22, .getfield 10, 3, 10, 0), (25, .iload_n 1, 1, 0, 0), (26, .invokevirtual 77, 3, 58, 0),
  (29, .astore 7, 2, 0, 0), (31, .aload 7, 2, 0, 0), (33, .iload_n 2, 1, 0, 0), (34, .iload_n 3, 1, 0, 0), (35, .invokestatic 81, 3, 113, 2), (38, .iload 4, 2, 0, 0), (40, .iload 5, 2, 0, 0), (42, .invokevirtual 84, 3, 66, 0),
  (45, .aload 7, 2, 0, 0), (47, .invokevirtual 87, 3, 61, 0), (50, .ireturn, 1, 0, 0)]
def co_X10_untap : List mz_I := [(0, .iload_n 1, 1, 0, 0), (1, .invokestatic 91, 3, 105, 2), (4, .ifCond .ne 5, 3, 9, 0), (7, .iconst (-1), 1, 4294967295, 0), (8, .ireturn, 1, 0, 0), (9, .iload_n 2, 1, 0, 0), (10, .invokestatic 94, 3, 109, 2), (13, .ifCond .eq 10, 3, 23, 0),
  (16, .iload_n 3, 1, 0, 0), (17, .invokestatic 97, 3, 110, 2), (20, .ifCond .ne 6, 3, 26, 0), (23, .bipush (-2), 2, 4294967294, 0), (25, .ireturn, 1, 0, 0), (26, .aload_n 0, 1, 0, 0), (27, .getfield 10, 3, 10, 0), (30, .iload_n 1, 1, 0, 0),
  (31, .invokevirtual 77, 3, 58, 0), (34, .astore 4, 2, 0, 0), (36, .aload 4, 2, 0, 0), (38, .iload_n 2, 1, 0, 0), (39, .iload_n 3, 1, 0, 0), (40, .invokestatic 81, 3, 113, 2), (43, .invokevirtual 100, 3, 65, 0), (46, .istore 5, 2, 0, 0),
  (48, .iload 5, 2, 0, 0), (50, .ifCond .ge 6, 3, 56, 0), (53, .bipush (-5), 2, 4294967291, 0), (55, .ireturn, 1, 0, 0), (56, .aload 4, 2, 0, 0), (58, .iload 5, 2, 0, 0), (60, .invokevirtual 103, 3, 67, 0), (63, .aload 4, 2, 0, 0),
  (65, .invokevirtual 87, 3, 61, 0), (68, .ireturn, 1, 0, 0)]
def co_X10_told : List mz_I := [(0, .iload_n 1, 1, 0, 0), (1, .invokestatic 91, 3, 105, 2), (4, .ifCond .ne 5, 3, 9, 0), (7, .iconst (-1), 1, 4294967295, 0), (8, .ireturn, 1, 0, 0), (9, .iload_n 3, 1, 0, 0), (10, .iconst 0, 1, 0, 0), (11, .iconst 3, 1, 3, 0),
  (12, .invokestatic 107, 3, 104, 2), (15, .ifCond .ne 6, 3, 21, 0), (18, .bipush (-2), 2, 4294967294, 0), (20, .ireturn, 1, 0, 0), (21, .aload_n 0, 1, 0, 0), (22, .getfield 10, 3, 10, 0), (25, .iload_n 1, 1, 0, 0), (26, .invokevirtual 77, 3, 58, 0),
  (29, .astore 4, 2, 0, 0), (31, .iload_n 2, 1, 0, 0), (32, .ifCond .lt 12, 3, 44, 0), (35, .iload_n 2, 1, 0, 0), (36, .aload 4, 2, 0, 0), (38, .invokevirtual 87, 3, 61, 0), (41, .if_icmp .lt 6, 3, 47, 0), (44, .bipush (-6), 2, 4294967290, 0),
  (46, .ireturn, 1, 0, 0), (47, .iload_n 3, 1, 0, 0), (48, .tableswitch 55 0 2 #[28, 38, 48], 28, 0, 0), (76, .aload 4, 2, 0, 0), (78, .iload_n 2, 1, 0, 0), (79, .invokevirtual 110, 3, 62, 0), (82, .invokestatic 113, 3, 114, 2), (85, .ireturn, 1, 0, 0),
  (86, .aload 4, 2, 0, 0), (88, .iload_n 2, 1, 0, 0), (89, .invokevirtual 110, 3, 62, 0), (92, .invokestatic 116, 3, 115, 2), (95, .ireturn, 1, 0, 0), (96, .aload 4, 2, 0, 0), (98, .iload_n 2, 1, 0, 0), (99, .invokevirtual 119, 3, 63, 0),
  (102, .ireturn, 1, 0, 0), (103, .aload 4, 2, 0, 0), (105, .iload_n 2, 1, 0, 0), (106, .invokevirtual 122, 3, 64, 0), (109, .ireturn, 1, 0, 0)]
def co_X10_ride : List mz_I := [(0, .iload_n 1, 1, 0, 0), (1, .iload_n 2, 1, 0, 0), (2, .iload_n 3, 1, 0, 0), (3, .invokestatic 125, 3, 100, 2), (6, .istore 4, 2, 0, 0), (8, .iload 4, 2, 0, 0), (10, .ifCond .eq 6, 3, 16, 0), (13, .iload 4, 2, 0, 0),
  (15, .ireturn, 1, 0, 0), (16, .aload_n 0, 1, 0, 0), (17, .iload_n 1, 1, 0, 0), (18, .invokevirtual 129, 3, 101, 0), (21, .aload_n 0, 1, 0, 0), (22, .getfield 36, 3, 10, 5), (25, .getfield 132, 3, 1, 0), (28, .astore 5, 2, 0, 0),
  (30, .iload_n 2, 1, 0, 0), (31, .ifCond .ge 9, 3, 40, 0), (34, .aload 5, 2, 0, 0), (36, .invokevirtual 136, 3, 43, 0), (39, .ireturn, 1, 0, 0), (40, .iload_n 2, 1, 0, 0), (41, .aload 5, 2, 0, 0), (43, .invokevirtual 136, 3, 43, 0),
  (46, .if_icmp .lt 6, 3, 52, 0), (49, .bipush (-6), 2, 4294967290, 0), (51, .ireturn, 1, 0, 0), (52, .iload_n 3, 1, 0, 0), (53, .tableswitch 67 0 3 #[31, 38, 45, 52], 31, 0, 0), (84, .aload 5, 2, 0, 0), (86, .iload_n 2, 1, 0, 0), (87, .invokevirtual 139, 3, 44, 0),
  (90, .ireturn, 1, 0, 0), (91, .aload 5, 2, 0, 0), (93, .iload_n 2, 1, 0, 0), (94, .invokevirtual 142, 3, 45, 0), (97, .ireturn, 1, 0, 0), (98, .aload 5, 2, 0, 0), (100, .iload_n 2, 1, 0, 0), (101, .invokevirtual 145, 3, 47, 0),
  (104, .ireturn, 1, 0, 0), (105, .aload 5, 2, 0, 0), (107, .iload_n 2, 1, 0, 0), (108, .invokevirtual 148, 3, 48, 0), (111, .ifCond .eq 7, 3, 118, 0), (114, .iconst 1, 1, 1, 0), (115, .goto 4, 3, 119, 0), (118, .iconst 0, 1, 0, 0),
  (119, .ireturn, 1, 0, 0), (120, .aload_n 0, 1, 0, 0), (121, .getfield 36, 3, 10, 5), (124, .getfield 151, 3, 1, 1), (127, .iload_n 2, 1, 0, 0), (128, .invokevirtual 155, 3, 29, 0), (131, .ireturn, 1, 0, 0)]
def co_X10_journey : List mz_I := [(0, .iload_n 1, 1, 0, 0), (1, .iload_n 2, 1, 0, 0), (2, .iload_n 3, 1, 0, 0), (3, .invokestatic 125, 3, 100, 2), (6, .istore 4, 2, 0, 0), (8, .iload 4, 2, 0, 0), (10, .ifCond .eq 6, 3, 16, 0), (13, .iload 4, 2, 0, 0),
  (15, .ireturn, 1, 0, 0), (16, .aload_n 0, 1, 0, 0), (17, .iload_n 1, 1, 0, 0), (18, .invokevirtual 129, 3, 101, 0), (21, .aload_n 0, 1, 0, 0), (22, .getfield 36, 3, 10, 5), (25, .getfield 151, 3, 1, 1), (28, .astore 5, 2, 0, 0),
  (30, .iload_n 2, 1, 0, 0), (31, .ifCond .ge 9, 3, 40, 0), (34, .aload 5, 2, 0, 0), (36, .invokevirtual 160, 3, 24, 0), (39, .ireturn, 1, 0, 0), (40, .iload_n 2, 1, 0, 0), (41, .aload 5, 2, 0, 0), (43, .invokevirtual 160, 3, 24, 0),
  (46, .if_icmp .lt 6, 3, 52, 0), (49, .bipush (-6), 2, 4294967290, 0), (51, .ireturn, 1, 0, 0), (52, .iload_n 3, 1, 0, 0), (53, .tableswitch 62 0 3 #[31, 41, 48, 55], 31, 0, 0), (84, .aload 5, 2, 0, 0), (86, .iload_n 2, 1, 0, 0), (87, .invokevirtual 161, 3, 25, 0),
  (90, .invokestatic 113, 3, 114, 2), (93, .ireturn, 1, 0, 0), (94, .aload 5, 2, 0, 0), (96, .iload_n 2, 1, 0, 0), (97, .invokevirtual 162, 3, 26, 0), (100, .ireturn, 1, 0, 0), (101, .aload 5, 2, 0, 0), (103, .iload_n 2, 1, 0, 0),
  (104, .invokevirtual 165, 3, 27, 0), (107, .ireturn, 1, 0, 0), (108, .aload 5, 2, 0, 0), (110, .iload_n 2, 1, 0, 0), (111, .invokevirtual 168, 3, 28, 0), (114, .ireturn, 1, 0, 0), (115, .aload 5, 2, 0, 0), (117, .iload_n 2, 1, 0, 0),
  (118, .invokevirtual 161, 3, 25, 0), (121, .invokestatic 171, 3, 116, 2), (124, .ifCond .eq 7, 3, 131, 0), (127, .iconst 1, 1, 1, 0), (128, .goto 4, 3, 132, 0), (131, .iconst 0, 1, 0, 0), (132, .ireturn, 1, 0, 0)]
def co_X10_day : List mz_I := [(0, .iload_n 1, 1, 0, 0), (1, .invokestatic 91, 3, 105, 2), (4, .ifCond .ne 5, 3, 9, 0), (7, .iconst (-1), 1, 4294967295, 0), (8, .ireturn, 1, 0, 0), (9, .iload_n 2, 1, 0, 0), (10, .invokestatic 94, 3, 109, 2), (13, .ifCond .eq 12, 3, 25, 0),
  (16, .iload_n 3, 1, 0, 0), (17, .iconst 0, 1, 0, 0), (18, .iconst 3, 1, 3, 0), (19, .invokestatic 107, 3, 104, 2), (22, .ifCond .ne 6, 3, 28, 0), (25, .bipush (-2), 2, 4294967294, 0), (27, .ireturn, 1, 0, 0), (28, .aload_n 0, 1, 0, 0),
  (29, .iload_n 1, 1, 0, 0), (30, .invokevirtual 129, 3, 101, 0), (33, .iload_n 3, 1, 0, 0), (34, .tableswitch 62 0 2 #[26, 38, 50], 26, 0, 0), (60, .aload_n 0, 1, 0, 0), (61, .getfield 36, 3, 10, 5), (64, .getfield 174, 3, 1, 2), (67, .iload_n 2, 1, 0, 0),
  (68, .invokevirtual 178, 3, 13, 0), (71, .ireturn, 1, 0, 0), (72, .aload_n 0, 1, 0, 0), (73, .getfield 36, 3, 10, 5), (76, .getfield 174, 3, 1, 2), (79, .iload_n 2, 1, 0, 0), (80, .invokevirtual 183, 3, 14, 0), (83, .ireturn, 1, 0, 0),
  (84, .aload_n 0, 1, 0, 0), (85, .getfield 36, 3, 10, 5), (88, .getfield 174, 3, 1, 2), (91, .iload_n 2, 1, 0, 0), (92, .invokevirtual 184, 3, 15, 0), (95, .ireturn, 1, 0, 0), (96, .aload_n 0, 1, 0, 0), (97, .getfield 36, 3, 10, 5),
  (100, .getfield 187, 3, 1, 3), (103, .iload_n 2, 1, 0, 0), (104, .invokevirtual 191, 3, 37, 0), (107, .ifCond .eq 7, 3, 114, 0), (110, .iconst 1, 1, 1, 0), (111, .goto 4, 3, 115, 0), (114, .iconst 0, 1, 0, 0), (115, .ireturn, 1, 0, 0)]
def co_X10_best : List mz_I := [(0, .iload_n 1, 1, 0, 0), (1, .invokestatic 91, 3, 105, 2), (4, .ifCond .ne 5, 3, 9, 0), (7, .iconst (-1), 1, 4294967295, 0), (8, .ireturn, 1, 0, 0), (9, .iload_n 2, 1, 0, 0), (10, .iconst 0, 1, 0, 0), (11, .iconst 1, 1, 1, 0),
  (12, .invokestatic 107, 3, 104, 2), (15, .ifCond .ne 17, 3, 32, 0), (18, .iload_n 2, 1, 0, 0), (19, .bipush 10, 2, 10, 0), (21, .bipush 13, 2, 13, 0), (23, .invokestatic 107, 3, 104, 2), (26, .ifCond .ne 6, 3, 32, 0), (29, .bipush (-2), 2, 4294967294, 0),
  (31, .ireturn, 1, 0, 0), (32, .aload_n 0, 1, 0, 0), (33, .iload_n 1, 1, 0, 0), (34, .invokevirtual 129, 3, 101, 0), (37, .aload_n 0, 1, 0, 0), (38, .getfield 36, 3, 10, 5), (41, .getfield 187, 3, 1, 3), (44, .astore_n 3, 1, 0, 0),
  (45, .iload_n 2, 1, 0, 0), (46, .ifCond .ne 8, 3, 54, 0), (49, .aload_n 3, 1, 0, 0), (50, .invokevirtual 196, 3, 34, 0), (53, .ireturn, 1, 0, 0), (54, .iload_n 2, 1, 0, 0), (55, .iconst 1, 1, 1, 0), (56, .if_icmp .ne 8, 3, 64, 0),
  (59, .aload_n 3, 1, 0, 0), (60, .invokevirtual 198, 3, 35, 0), (63, .ireturn, 1, 0, 0), (64, .iload_n 2, 1, 0, 0), (65, .bipush 10, 2, 10, 0), (67, .isub, 1, 0, 0), (68, .aload_n 3, 1, 0, 0), (69, .invokevirtual 198, 3, 35, 0),
  (72, .if_icmp .ge 14, 3, 86, 0), (75, .aload_n 3, 1, 0, 0), (76, .iload_n 2, 1, 0, 0), (77, .bipush 10, 2, 10, 0), (79, .isub, 1, 0, 0), (80, .invokevirtual 201, 3, 36, 0), (83, .goto 5, 3, 88, 0), (86, .bipush (-6), 2, 4294967290, 0),
  (88, .ireturn, 1, 0, 0)]
def co_X10_saved : List mz_I := [(0, .iload_n 1, 1, 0, 0), (1, .invokestatic 91, 3, 105, 2), (4, .ifCond .ne 5, 3, 9, 0), (7, .iconst (-1), 1, 4294967295, 0), (8, .ireturn, 1, 0, 0), (9, .iload_n 2, 1, 0, 0), (10, .iconst 0, 1, 0, 0), (11, .iconst 1, 1, 1, 0),
  (12, .invokestatic 107, 3, 104, 2), (15, .ifCond .ne 6, 3, 21, 0), (18, .bipush (-2), 2, 4294967294, 0), (20, .ireturn, 1, 0, 0), (21, .aload_n 0, 1, 0, 0), (22, .iload_n 1, 1, 0, 0), (23, .invokevirtual 129, 3, 101, 0), (26, .aload_n 0, 1, 0, 0),
  (27, .getfield 36, 3, 10, 5), (30, .getfield 174, 3, 1, 2), (33, .invokevirtual 204, 3, 17, 0), (36, .istore_n 3, 1, 0, 0), (37, .iload_n 2, 1, 0, 0), (38, .ifCond .ne 18, 3, 56, 0), (41, .aload_n 0, 1, 0, 0), (42, .getfield 36, 3, 10, 5),
  (45, .getfield 174, 3, 1, 2), (48, .invokevirtual 207, 3, 16, 0), (51, .iload_n 3, 1, 0, 0), (52, .isub, 1, 0, 0), (53, .goto 15, 3, 68, 0), (56, .iload_n 3, 1, 0, 0), (57, .aload_n 0, 1, 0, 0), (58, .getfield 36, 3, 10, 5),
  (61, .getfield 187, 3, 1, 3), (64, .invokevirtual 196, 3, 34, 0), (67, .isub, 1, 0, 0), (68, .ireturn, 1, 0, 0)]
def co_X10_would : List mz_I := [(0, .aload_n 0, 1, 0, 0), (1, .iload_n 1, 1, 0, 0), (2, .iload_n 2, 1, 0, 0), (3, .iload_n 3, 1, 0, 0), (4, .iload 4, 2, 0, 0), (6, .iload 5, 2, 0, 0), (8, .invokevirtual 73, 3, 99, 0), (11, .istore 6, 2, 0, 0),
  (13, .iload 6, 2, 0, 0), (15, .ifCond .eq 6, 3, 21, 0), (18, .iload 6, 2, 0, 0), (20, .ireturn, 1, 0, 0), (21, .aload_n 0, 1, 0, 0), (22, .iload_n 1, 1, 0, 0), (23, .invokevirtual 129, 3, 101, 0), (26, .aload_n 0, 1, 0, 0),
  (27, .getfield 36, 3, 10, 5), (30, .getfield 187, 3, 1, 3), (33, .invokevirtual 196, 3, 34, 0), (36, .istore 7, 2, 0, 0), (38, .aload_n 0, 1, 0, 0), (39, .getfield 29, 3, 10, 4), (42, .aload_n 0, 1, 0, 0), (43, .getfield 10, 3, 10, 0),
  (46, .iload_n 1, 1, 0, 0), (47, .invokevirtual 77, 3, 58, 0), (50, .invokevirtual 210, 3, 70, 0), (53, .aload_n 0, 1, 0, 0), (54, .getfield 29, 3, 10, 4), (57, .iload_n 2, 1, 0, 0), (58, .iload_n 3, 1, 0, 0), (59, .invokestatic 81, 3, 113, 2),
  (62, .iload 4, 2, 0, 0), (64, .iload 5, 2, 0, 0), (66, .invokevirtual 84, 3, 66, 0), (69, .aload_n 0, 1, 0, 0), (70, .getfield 36, 3, 10, 5), (73, .aload_n 0, 1, 0, 0), (74, .getfield 29, 3, 10, 4), (77, .aload_n 0, 1, 0, 0),
  (78, .getfield 10, 3, 10, 0), (81, .getfield 47, 3, 7, 4), (84, .invokevirtual 214, 3, 10, 0), (87, .aload_n 0, 1, 0, 0), (88, .getfield 36, 3, 10, 5), (91, .getfield 187, 3, 1, 3), (94, .invokevirtual 196, 3, 34, 0), (97, .iload 7, 2, 0, 0),
  (99, .isub, 1, 0, 0), (100, .ldc 217, 2, 100000, 0), (102, .iadd, 1, 0, 0), (103, .ireturn, 1, 0, 0)]
def co_X10_bar : List mz_I := [(0, .iload_n 1, 1, 0, 0), (1, .invokestatic 91, 3, 105, 2), (4, .ifCond .ne 5, 3, 9, 0), (7, .iconst (-1), 1, 4294967295, 0), (8, .ireturn, 1, 0, 0), (9, .iload_n 2, 1, 0, 0), (10, .iconst 0, 1, 0, 0), (11, .iconst 1, 1, 1, 0),
  (12, .invokestatic 107, 3, 104, 2), (15, .ifCond .ne 6, 3, 21, 0), (18, .bipush (-2), 2, 4294967294, 0), (20, .ireturn, 1, 0, 0), (21, .aload_n 0, 1, 0, 0), (22, .getfield 10, 3, 10, 0), (25, .getfield 218, 3, 7, 5), (28, .iload_n 1, 1, 0, 0),
  (29, .iload_n 2, 1, 0, 0), (30, .iconst 1, 1, 1, 0), (31, .if_icmp .ne 7, 3, 38, 0), (34, .iconst 1, 1, 1, 0), (35, .goto 4, 3, 39, 0), (38, .iconst 0, 1, 0, 0), (39, .invokevirtual 222, 3, 5, 0), (42, .aload_n 0, 1, 0, 0),
  (43, .getfield 10, 3, 10, 0), (46, .getfield 218, 3, 7, 5), (49, .invokevirtual 228, 3, 1, 0), (52, .ireturn, 1, 0, 0)]
def co_X10_hear : List mz_I := [(0, .iload_n 1, 1, 0, 0), (1, .invokestatic 231, 3, 107, 2), (4, .ifCond .ne 5, 3, 9, 0), (7, .iconst (-1), 1, 4294967295, 0), (8, .ireturn, 1, 0, 0), (9, .aload_n 0, 1, 0, 0), (10, .getfield 10, 3, 10, 0), (13, .getfield 218, 3, 7, 5),
  (16, .iload_n 1, 1, 0, 0), (17, .invokevirtual 234, 3, 3, 0), (20, .istore_n 2, 1, 0, 0), (21, .aload_n 0, 1, 0, 0), (22, .getfield 10, 3, 10, 0), (25, .getfield 218, 3, 7, 5), (28, .iload_n 1, 1, 0, 0), (29, .invokevirtual 237, 3, 6, 0),
  (32, .aload_n 0, 1, 0, 0), (33, .getfield 10, 3, 10, 0), (36, .getfield 218, 3, 7, 5), (39, .invokevirtual 228, 3, 1, 0), (42, .iload_n 2, 1, 0, 0), (43, .isub, 1, 0, 0), (44, .ireturn, 1, 0, 0)]
def co_X10_pass : List mz_I := [(0, .iload_n 1, 1, 0, 0), (1, .invokestatic 231, 3, 107, 2), (4, .ifCond .eq 10, 3, 14, 0), (7, .iload_n 2, 1, 0, 0), (8, .invokestatic 91, 3, 105, 2), (11, .ifCond .ne 5, 3, 16, 0), (14, .iconst (-1), 1, 4294967295, 0), (15, .ireturn, 1, 0, 0),
  (16, .aload_n 0, 1, 0, 0), (17, .getfield 10, 3, 10, 0), (20, .getfield 218, 3, 7, 5), (23, .iload_n 1, 1, 0, 0), (24, .iload_n 2, 1, 0, 0), (25, .invokevirtual 240, 3, 4, 0), (28, .ifCond .eq 7, 3, 35, 0), (31, .iconst 0, 1, 0, 0),
  (32, .goto 4, 3, 36, 0), (35, .iconst 1, 1, 1, 0), (36, .ireturn, 1, 0, 0)]
def co_X10_image : List mz_I := [(0, .iload_n 1, 1, 0, 0), (1, .invokestatic 244, 3, 108, 2), (4, .ifCond .ne 6, 3, 10, 0), (7, .bipush (-2), 2, 4294967294, 0), (9, .ireturn, 1, 0, 0), (10, .aload_n 0, 1, 0, 0), (11, .iload_n 1, 1, 0, 0), (12, .invokevirtual 247, 3, 103, 0),
  (15, .aload_n 0, 1, 0, 0), (16, .getfield 10, 3, 10, 0), (19, .invokevirtual 251, 3, 59, 0), (22, .aload_n 0, 1, 0, 0), (23, .dup, 1, 0, 0), (24, .getfield 22, 3, 10, 3), (27, .iconst 1, 1, 1, 0), (28, .iload_n 1, 1, 0, 0),
  (29, .ishl, 1, 0, 0), (30, .ior, 1, 0, 0), (31, .putfield 22, 3, 10, 3), (34, .iconst 1, 1, 1, 0), (35, .ireturn, 1, 0, 0)]
def co_X10_restore : List mz_I := [(0, .iload_n 1, 1, 0, 0), (1, .invokestatic 244, 3, 108, 2), (4, .ifCond .ne 6, 3, 10, 0), (7, .bipush (-2), 2, 4294967294, 0), (9, .ireturn, 1, 0, 0), (10, .aload_n 0, 1, 0, 0), (11, .getfield 22, 3, 10, 3), (14, .iload_n 1, 1, 0, 0),
  (15, .ishr, 1, 0, 0), (16, .iconst 1, 1, 1, 0), (17, .iand, 1, 0, 0), (18, .ifCond .ne 6, 3, 24, 0), (21, .bipush (-3), 2, 4294967293, 0), (23, .ireturn, 1, 0, 0), (24, .aload_n 0, 1, 0, 0), (25, .getfield 10, 3, 10, 0),
  (28, .aload_n 0, 1, 0, 0), (29, .iload_n 1, 1, 0, 0), (30, .invokevirtual 247, 3, 103, 0), (33, .invokevirtual 251, 3, 59, 0), (36, .iconst 1, 1, 1, 0), (37, .ireturn, 1, 0, 0)]
def co_X10_count : List mz_I := [(0, .iload_n 1, 1, 0, 0), (1, .invokestatic 91, 3, 105, 2), (4, .ifCond .eq 15, 3, 19, 0), (7, .aload_n 0, 1, 0, 0), (8, .getfield 10, 3, 10, 0), (11, .iload_n 1, 1, 0, 0), (12, .invokevirtual 77, 3, 58, 0), (15, .invokevirtual 87, 3, 61, 0),
  (18, .ireturn, 1, 0, 0), (19, .iload_n 1, 1, 0, 0), (20, .bipush 10, 2, 10, 0), (22, .bipush 13, 2, 13, 0), (24, .invokestatic 107, 3, 104, 2), (27, .ifCond .eq 18, 3, 45, 0), (30, .aload_n 0, 1, 0, 0), (31, .getfield 10, 3, 10, 0),
  (34, .getfield 218, 3, 7, 5), (37, .iload_n 1, 1, 0, 0), (38, .bipush 10, 2, 10, 0), (40, .isub, 1, 0, 0), (41, .invokevirtual 234, 3, 3, 0), (44, .ireturn, 1, 0, 0), (45, .iload_n 1, 1, 0, 0), (46, .bipush 20, 2, 20, 0),
  (48, .bipush 27, 2, 27, 0), (50, .invokestatic 107, 3, 104, 2), (53, .ifCond .eq 18, 3, 71, 0), (56, .aload_n 0, 1, 0, 0), (57, .getfield 10, 3, 10, 0), (60, .getfield 47, 3, 7, 4), (63, .iload_n 1, 1, 0, 0), (64, .bipush 20, 2, 20, 0),
  (66, .isub, 1, 0, 0), (67, .invokevirtual 51, 3, 72, 0), (70, .ireturn, 1, 0, 0), (71, .iload_n 1, 1, 0, 0), (72, .tableswitch 79 4 8 #[36, 47, 58, 69, 74], 36, 0, 0), (108, .aload_n 0, 1, 0, 0), (109, .getfield 10, 3, 10, 0), (112, .getfield 218, 3, 7, 5),
  (115, .invokevirtual 228, 3, 1, 0), (118, .ireturn, 1, 0, 0), (119, .aload_n 0, 1, 0, 0), (120, .getfield 10, 3, 10, 0), (123, .getfield 218, 3, 7, 5), (126, .invokevirtual 254, 3, 2, 0), (129, .ireturn, 1, 0, 0), (130, .aload_n 0, 1, 0, 0),
  (131, .getfield 10, 3, 10, 0), (134, .getfield 218, 3, 7, 5), (137, .invokevirtual 257, 3, 7, 0), (140, .ireturn, 1, 0, 0), (141, .aload_n 0, 1, 0, 0), (142, .invokevirtual 260, 3, 102, 0), (145, .ireturn, 1, 0, 0), (146, .aload_n 0, 1, 0, 0),
  (147, .getfield 22, 3, 10, 3), (150, .ireturn, 1, 0, 0), (151, .bipush (-2), 2, 4294967294, 0), (153, .ireturn, 1, 0, 0)]
def co_X10_refusalOfTap : List mz_I := [(0, .iload_n 1, 1, 0, 0), (1, .invokestatic 91, 3, 105, 2), (4, .ifCond .eq 11, 3, 15, 0), (7, .iload 4, 2, 0, 0), (9, .invokestatic 40, 3, 106, 2), (12, .ifCond .ne 5, 3, 17, 0), (15, .iconst (-1), 1, 4294967295, 0), (16, .ireturn, 1, 0, 0),
  (17, .iload_n 2, 1, 0, 0), (18, .invokestatic 94, 3, 109, 2), (21, .ifCond .eq 20, 3, 41, 0), (24, .iload_n 3, 1, 0, 0), (25, .invokestatic 97, 3, 110, 2), (28, .ifCond .eq 13, 3, 41, 0), (31, .iload 5, 2, 0, 0), (33, .iconst 0, 1, 0, 0),
  (34, .iconst 1, 1, 1, 0), (35, .invokestatic 107, 3, 104, 2), (38, .ifCond .ne 6, 3, 44, 0), (41, .bipush (-2), 2, 4294967294, 0), (43, .ireturn, 1, 0, 0), (44, .aload_n 0, 1, 0, 0), (45, .getfield 10, 3, 10, 0), (48, .iload_n 1, 1, 0, 0),
  (49, .invokevirtual 77, 3, 58, 0), (52, .astore 6, 2, 0, 0), (54, .aload 6, 2, 0, 0), (56, .iload_n 2, 1, 0, 0), (57, .iload_n 3, 1, 0, 0), (58, .invokestatic 81, 3, 113, 2), (61, .invokevirtual 100, 3, 65, 0), (64, .ifCond .lt 6, 3, 70, 0),
  (67, .bipush (-5), 2, 4294967291, 0), (69, .ireturn, 1, 0, 0), (70, .aload 6, 2, 0, 0), (72, .invokevirtual 87, 3, 61, 0), (75, .bipush 48, 2, 48, 0), (77, .if_icmp .lt 8, 3, 85, 0), (80, .bipush (-4), 2, 4294967292, 0), (82, .goto 4, 3, 86, 0),
  (85, .iconst 0, 1, 0, 0), (86, .ireturn, 1, 0, 0)]
def co_X10_refusalOfPart : List mz_I := [(0, .iload_n 0, 1, 0, 0), (1, .invokestatic 91, 3, 105, 2), (4, .ifCond .ne 5, 3, 9, 0), (7, .iconst (-1), 1, 4294967295, 0), (8, .ireturn, 1, 0, 0), (9, .iload_n 1, 1, 0, 0), (10, .iconst (-1), 1, 4294967295, 0), (11, .if_icmp .lt 12, 3, 23, 0),
  (14, .iload_n 2, 1, 0, 0), (15, .iconst 0, 1, 0, 0), (16, .iconst 4, 1, 4, 0), (17, .invokestatic 107, 3, 104, 2), (20, .ifCond .ne 8, 3, 28, 0), (23, .bipush (-2), 2, 4294967294, 0), (25, .goto 4, 3, 29, 0), (28, .iconst 0, 1, 0, 0),
  (29, .ireturn, 1, 0, 0)]
def co_X10_reckon : List mz_I := [(0, .aload_n 0, 1, 0, 0), (1, .getfield 36, 3, 10, 5), (4, .aload_n 0, 1, 0, 0), (5, .getfield 10, 3, 10, 0), (8, .iload_n 1, 1, 0, 0), (9, .invokevirtual 77, 3, 58, 0), (12, .aload_n 0, 1, 0, 0), (13, .getfield 10, 3, 10, 0),
  (16, .getfield 47, 3, 7, 4), (19, .invokevirtual 214, 3, 10, 0), (22, .return_, 1, 0, 0)]
def co_X10_costOfAllCards : List mz_I := [(0, .iconst 0, 1, 0, 0), (1, .istore_n 1, 1, 0, 0), (2, .iconst 0, 1, 0, 0), (3, .istore_n 2, 1, 0, 0), (4, .iload_n 2, 1, 0, 0), (5, .iconst 4, 1, 4, 0), (6, .if_icmp .ge 44, 3, 50, 0), (9, .aload_n 0, 1, 0, 0),
  (10, .getfield 36, 3, 10, 5), (13, .aload_n 0, 1, 0, 0), (14, .getfield 10, 3, 10, 0), (17, .iload_n 2, 1, 0, 0), (18, .invokevirtual 77, 3, 58, 0), (21, .aload_n 0, 1, 0, 0), (22, .getfield 10, 3, 10, 0), (25, .getfield 47, 3, 7, 4),
  (28, .invokevirtual 214, 3, 10, 0), (31, .iload_n 1, 1, 0, 0), (32, .aload_n 0, 1, 0, 0), (33, .getfield 36, 3, 10, 5), (36, .getfield 187, 3, 1, 3), (39, .invokevirtual 196, 3, 34, 0), (42, .iadd, 1, 0, 0), (43, .istore_n 1, 1, 0, 0),
  (44, .iinc 2 1, 3, 1, 0), (47, .goto (-43), 3, 4, 0), (50, .iload_n 1, 1, 0, 0), (51, .ireturn, 1, 0, 0)]
def co_X10_imageOf : List mz_I := [(0, .iload_n 1, 1, 0, 0), (1, .ifCond .ne 10, 3, 11, 0), (4, .aload_n 0, 1, 0, 0), (5, .getfield 16, 3, 10, 1), (8, .goto 7, 3, 15, 0), (11, .aload_n 0, 1, 0, 0), (12, .getfield 19, 3, 10, 2), (15, .areturn, 1, 0, 0)]
def co_X10_isWithin : List mz_I := [(0, .iload_n 0, 1, 0, 0), (1, .iload_n 1, 1, 0, 0), (2, .if_icmp .lt 12, 3, 14, 0), (5, .iload_n 0, 1, 0, 0), (6, .iload_n 2, 1, 0, 0), (7, .if_icmp .gt 7, 3, 14, 0), (10, .iconst 1, 1, 1, 0), (11, .goto 4, 3, 15, 0),
  (14, .iconst 0, 1, 0, 0), (15, .ireturn, 1, 0, 0)]
def co_X10_isCard : List mz_I := [(0, .iload_n 0, 1, 0, 0), (1, .iconst 0, 1, 0, 0), (2, .iconst 3, 1, 3, 0), (3, .invokestatic 107, 3, 104, 2), (6, .ireturn, 1, 0, 0)]
def co_X10_isStation : List mz_I := [(0, .iload_n 0, 1, 0, 0), (1, .iconst 0, 1, 0, 0), (2, .bipush 7, 2, 7, 0), (4, .invokestatic 107, 3, 104, 2), (7, .ireturn, 1, 0, 0)]
def co_X10_isReader : List mz_I := [(0, .iload_n 0, 1, 0, 0), (1, .iconst 0, 1, 0, 0), (2, .iconst 3, 1, 3, 0), (3, .invokestatic 107, 3, 104, 2), (6, .ireturn, 1, 0, 0)]
def co_X10_isImage : List mz_I := [(0, .iload_n 0, 1, 0, 0), (1, .iconst 0, 1, 0, 0), (2, .iconst 1, 1, 1, 0), (3, .invokestatic 107, 3, 104, 2), (6, .ireturn, 1, 0, 0)]
def co_X10_isDay : List mz_I := [(0, .iload_n 0, 1, 0, 0), (1, .iconst 0, 1, 0, 0), (2, .bipush 27, 2, 27, 0), (4, .invokestatic 107, 3, 104, 2), (7, .ireturn, 1, 0, 0)]
def co_X10_isMinute : List mz_I := [(0, .iload_n 0, 1, 0, 0), (1, .iconst 0, 1, 0, 0), (2, .sipush 1439, 3, 1439, 0), (5, .invokestatic 107, 3, 104, 2), (8, .ireturn, 1, 0, 0)]
def co_X10_isWidth : List mz_I := [(0, .iload_n 0, 1, 0, 0), (1, .iconst 1, 1, 1, 0), (2, .iconst 5, 1, 5, 0), (3, .invokestatic 107, 3, 104, 2), (6, .ireturn, 1, 0, 0)]
def co_X10_isPrice : List mz_I := [(0, .iload_n 0, 1, 0, 0), (1, .iconst 4, 1, 4, 0), (2, .if_icmp .ne 12, 3, 14, 0), (5, .iload_n 2, 1, 0, 0), (6, .iconst 0, 1, 0, 0), (7, .sipush 200, 3, 200, 0), (10, .invokestatic 107, 3, 104, 2), (13, .ireturn, 1, 0, 0),
  (14, .iload_n 0, 1, 0, 0), (15, .iconst 3, 1, 3, 0), (16, .if_icmp .ne 12, 3, 28, 0), (19, .iload_n 2, 1, 0, 0), (20, .iconst 0, 1, 0, 0), (21, .sipush 9999, 3, 9999, 0), (24, .invokestatic 107, 3, 104, 2), (27, .ireturn, 1, 0, 0),
  (28, .iload_n 0, 1, 0, 0), (29, .iconst 0, 1, 0, 0), (30, .iconst 2, 1, 2, 0), (31, .invokestatic 107, 3, 104, 2), (34, .ifCond .eq 25, 3, 59, 0), (37, .iload_n 1, 1, 0, 0), (38, .invokestatic 44, 3, 111, 2), (41, .ifCond .eq 18, 3, 59, 0),
  (44, .iload_n 2, 1, 0, 0), (45, .iconst 0, 1, 0, 0), (46, .sipush 9999, 3, 9999, 0), (49, .invokestatic 107, 3, 104, 2), (52, .ifCond .eq 7, 3, 59, 0), (55, .iconst 1, 1, 1, 0), (56, .goto 4, 3, 60, 0), (59, .iconst 0, 1, 0, 0),
  (60, .ireturn, 1, 0, 0)]
def co_X10_momentOf : List mz_I := [(0, .iload_n 0, 1, 0, 0), (1, .sipush 1440, 3, 1440, 0), (4, .imul, 1, 0, 0), (5, .iload_n 1, 1, 0, 0), (6, .iadd, 1, 0, 0), (7, .ireturn, 1, 0, 0)]
def co_X10_dayOf : List mz_I := [(0, .iload_n 0, 1, 0, 0), (1, .sipush 1440, 3, 1440, 0), (4, .idiv, 1, 0, 0), (5, .ireturn, 1, 0, 0)]
def co_X10_minuteOf : List mz_I := [(0, .iload_n 0, 1, 0, 0), (1, .sipush 1440, 3, 1440, 0), (4, .irem, 1, 0, 0), (5, .ireturn, 1, 0, 0)]
def co_X10_isBusy : List mz_I := [(0, .iload_n 0, 1, 0, 0), (1, .invokestatic 113, 3, 114, 2), (4, .bipush 7, 2, 7, 0), (6, .irem, 1, 0, 0), (7, .iconst 5, 1, 5, 0), (8, .if_icmp .lt 5, 3, 13, 0), (11, .iconst 0, 1, 0, 0), (12, .ireturn, 1, 0, 0),
  (13, .iload_n 0, 1, 0, 0), (14, .invokestatic 116, 3, 115, 2), (17, .istore_n 1, 1, 0, 0), (18, .iload_n 1, 1, 0, 0), (19, .sipush 420, 3, 420, 0), (22, .sipush 569, 3, 569, 0), (25, .invokestatic 107, 3, 104, 2), (28, .ifCond .ne 16, 3, 44, 0),
  (31, .iload_n 1, 1, 0, 0), (32, .sipush 960, 3, 960, 0), (35, .sipush 1109, 3, 1109, 0), (38, .invokestatic 107, 3, 104, 2), (41, .ifCond .eq 7, 3, 48, 0), (44, .iconst 1, 1, 1, 0), (45, .goto 4, 3, 49, 0), (48, .iconst 0, 1, 0, 0),
  (49, .ireturn, 1, 0, 0)]
def co_X11_init : List mz_I := [(0, .aload_n 0, 1, 0, 0), (1, .invokespecial 1, 3, 999, 6), (4, .aload_n 0, 1, 0, 0), (5, .sipush 423, 3, 423, 0), (8, .newarray .int, 2, 0, 0), (10, .putfield 7, 3, 11, 0), (13, .aload_n 0, 1, 0, 0), (14, .sipush 846, 3, 846, 0),
  (17, .newarray .int, 2, 0, 0), (19, .putfield 13, 3, 11, 1), (22, .aload_n 0, 1, 0, 0), (23, .iconst 2, 1, 2, 0), (24, .newarray .boolean, 2, 0, 0), (26, .putfield 16, 3, 11, 2), (29, .aload_n 0, 1, 0, 0), (30, .bipush 48, 2, 48, 0),
  (32, .newarray .int, 2, 0, 0), (34, .putfield 20, 3, 11, 3), (37, .aload_n 0, 1, 0, 0), (38, .bipush 48, 2, 48, 0), (40, .newarray .int, 2, 0, 0), (42, .putfield 23, 3, 11, 4), (45, .aload_n 0, 1, 0, 0), (46, .bipush 48, 2, 48, 0),
  (48, .newarray .int, 2, 0, 0), (50, .putfield 26, 3, 11, 5), (53, .aload_n 0, 1, 0, 0), (54, .bipush 48, 2, 48, 0), (56, .newarray .int, 2, 0, 0), (58, .putfield 29, 3, 11, 6), (61, .aload_n 0, 1, 0, 0), (62, .bipush 48, 2, 48, 0),
  (64, .newarray .int, 2, 0, 0), (66, .putfield 32, 3, 11, 7), (69, .aload_n 0, 1, 0, 0), (70, .bipush 48, 2, 48, 0), (72, .newarray .boolean, 2, 0, 0), (74, .putfield 35, 3, 11, 8), (77, .aload_n 0, 1, 0, 0), (78, .bipush 48, 2, 48, 0),
  (80, .newarray .int, 2, 0, 0), (82, .putfield 38, 3, 11, 9), (85, .aload_n 0, 1, 0, 0), (86, .bipush 48, 2, 48, 0), (88, .newarray .int, 2, 0, 0), (90, .putfield 41, 3, 11, 11), (93, .aload_n 0, 1, 0, 0), (94, .bipush 48, 2, 48, 0),
  (96, .newarray .int, 2, 0, 0), (98, .putfield 44, 3, 11, 12), (101, .aload_n 0, 1, 0, 0), (102, .bipush 48, 2, 48, 0), (104, .newarray .int, 2, 0, 0), (106, .putfield 47, 3, 11, 13), (109, .aload_n 0, 1, 0, 0), (110, .bipush 48, 2, 48, 0),
  (112, .newarray .int, 2, 0, 0), (114, .putfield 50, 3, 11, 14), (117, .aload_n 0, 1, 0, 0), (118, .bipush 28, 2, 28, 0), (120, .newarray .int, 2, 0, 0), (122, .putfield 53, 3, 11, 16), (125, .aload_n 0, 1, 0, 0), (126, .bipush 28, 2, 28, 0),
  (128, .newarray .int, 2, 0, 0), (130, .putfield 56, 3, 11, 17), (133, .aload_n 0, 1, 0, 0), (134, .bipush 28, 2, 28, 0), (136, .newarray .int, 2, 0, 0), (138, .putfield 59, 3, 11, 18), (141, .aload_n 0, 1, 0, 0), (142, .bipush 36, 2, 36, 0),
  (144, .newarray .int, 2, 0, 0), (146, .putfield 62, 3, 11, 19), (149, .aload_n 0, 1, 0, 0), (150, .bipush 36, 2, 36, 0), (152, .newarray .int, 2, 0, 0), (154, .putfield 65, 3, 11, 20), (157, .aload_n 0, 1, 0, 0), (158, .bipush 36, 2, 36, 0),
  (160, .newarray .boolean, 2, 0, 0), (162, .putfield 68, 3, 11, 21), (165, .iconst 0, 1, 0, 0), (166, .istore_n 1, 1, 0, 0), (167, .iload_n 1, 1, 0, 0), (168, .bipush 8, 2, 8, 0), (170, .if_icmp .ge 24, 3, 194, 0), (173, .aload_n 0, 1, 0, 0),
  (174, .getfield 7, 3, 11, 0), (177, .sipush 388, 3, 388, 0), (180, .iload_n 1, 1, 0, 0), (181, .iadd, 1, 0, 0), (182, .iload_n 1, 1, 0, 0), (183, .iconst 5, 1, 5, 0), (184, .irem, 1, 0, 0), (185, .iconst 1, 1, 1, 0),
  (186, .iadd, 1, 0, 0), (187, .iastore, 1, 0, 0), (188, .iinc 1 1, 3, 1, 0), (191, .goto (-24), 3, 167, 0), (194, .iconst 1, 1, 1, 0), (195, .istore_n 1, 1, 0, 0), (196, .iload_n 1, 1, 0, 0), (197, .iconst 5, 1, 5, 0),
  (198, .if_icmp .gt 70, 3, 268, 0), (201, .aload_n 0, 1, 0, 0), (202, .getfield 7, 3, 11, 0), (205, .sipush 396, 3, 396, 0), (208, .iload_n 1, 1, 0, 0), (209, .iadd, 1, 0, 0), (210, .iconst 1, 1, 1, 0), (211, .isub, 1, 0, 0),
  (212, .sipush 150, 3, 150, 0), (215, .bipush 50, 2, 50, 0), (217, .iload_n 1, 1, 0, 0), (218, .imul, 1, 0, 0), (219, .iadd, 1, 0, 0), (220, .iastore, 1, 0, 0), (221, .aload_n 0, 1, 0, 0), (222, .getfield 7, 3, 11, 0),
  (225, .sipush 401, 3, 401, 0), (228, .iload_n 1, 1, 0, 0), (229, .iadd, 1, 0, 0), (230, .iconst 1, 1, 1, 0), (231, .isub, 1, 0, 0), (232, .sipush 400, 3, 400, 0), (235, .bipush 100, 2, 100, 0), (237, .iload_n 1, 1, 0, 0),
  (238, .imul, 1, 0, 0), (239, .iadd, 1, 0, 0), (240, .iastore, 1, 0, 0), (241, .aload_n 0, 1, 0, 0), (242, .getfield 7, 3, 11, 0), (245, .sipush 406, 3, 406, 0), (248, .iload_n 1, 1, 0, 0), (249, .iadd, 1, 0, 0),
  (250, .iconst 1, 1, 1, 0), (251, .isub, 1, 0, 0), (252, .sipush 1500, 3, 1500, 0), (255, .sipush 400, 3, 400, 0), (258, .iload_n 1, 1, 0, 0), (259, .imul, 1, 0, 0), (260, .iadd, 1, 0, 0), (261, .iastore, 1, 0, 0),
  (262, .iinc 1 1, 3, 1, 0), (265, .goto (-69), 3, 196, 0), (268, .aload_n 0, 1, 0, 0), (269, .getfield 7, 3, 11, 0), (272, .sipush 411, 3, 411, 0), (275, .bipush 50, 2, 50, 0), (277, .iastore, 1, 0, 0), (278, .aload_n 0, 1, 0, 0),
  (279, .getfield 7, 3, 11, 0), (282, .sipush 412, 3, 412, 0), (285, .bipush 30, 2, 30, 0), (287, .iastore, 1, 0, 0), (288, .return_, 1, 0, 0)]
def co_X11_in : List mz_I := [(0, .iload_n 0, 1, 0, 0), (1, .iload_n 1, 1, 0, 0), (2, .if_icmp .lt 12, 3, 14, 0), (5, .iload_n 0, 1, 0, 0), (6, .iload_n 2, 1, 0, 0), (7, .if_icmp .gt 7, 3, 14, 0), (10, .iconst 1, 1, 1, 0), (11, .goto 4, 3, 15, 0),
  (14, .iconst 0, 1, 0, 0), (15, .ireturn, 1, 0, 0)]
def co_X11_isCard : List mz_I := [(0, .iload_n 0, 1, 0, 0), (1, .iconst 0, 1, 0, 0), (2, .iconst 3, 1, 3, 0), (3, .invokestatic 71, 3, 118, 2), (6, .ireturn, 1, 0, 0)]
def co_X11_isStation : List mz_I := [(0, .iload_n 0, 1, 0, 0), (1, .iconst 0, 1, 0, 0), (2, .bipush 7, 2, 7, 0), (4, .invokestatic 71, 3, 118, 2), (7, .ireturn, 1, 0, 0)]
def co_X11_isDay : List mz_I := [(0, .iload_n 0, 1, 0, 0), (1, .iconst 0, 1, 0, 0), (2, .bipush 27, 2, 27, 0), (4, .invokestatic 71, 3, 118, 2), (7, .ireturn, 1, 0, 0)]
def co_X11_zone : List mz_I := [(0, .iload_n 1, 1, 0, 0), (1, .invokestatic 75, 3, 120, 2), (4, .ifCond .ne 5, 3, 9, 0), (7, .iconst (-1), 1, 4294967295, 0), (8, .ireturn, 1, 0, 0), (9, .iload_n 2, 1, 0, 0), (10, .iconst 1, 1, 1, 0), (11, .iconst 5, 1, 5, 0),
  (12, .invokestatic 71, 3, 118, 2), (15, .ifCond .ne 6, 3, 21, 0), (18, .bipush (-2), 2, 4294967294, 0), (20, .ireturn, 1, 0, 0), (21, .aload_n 0, 1, 0, 0), (22, .getfield 7, 3, 11, 0), (25, .sipush 388, 3, 388, 0), (28, .iload_n 1, 1, 0, 0),
  (29, .iadd, 1, 0, 0), (30, .iaload, 1, 0, 0), (31, .istore_n 3, 1, 0, 0), (32, .aload_n 0, 1, 0, 0), (33, .getfield 7, 3, 11, 0), (36, .sipush 388, 3, 388, 0), (39, .iload_n 1, 1, 0, 0), (40, .iadd, 1, 0, 0),
  (41, .iload_n 2, 1, 0, 0), (42, .iastore, 1, 0, 0), (43, .iload_n 3, 1, 0, 0), (44, .ireturn, 1, 0, 0)]
def co_X11_price : List mz_I := [(0, .iload_n 1, 1, 0, 0), (1, .iconst 0, 1, 0, 0), (2, .iconst 4, 1, 4, 0), (3, .invokestatic 71, 3, 118, 2), (6, .ifCond .eq 39, 3, 45, 0), (9, .iload_n 1, 1, 0, 0), (10, .iconst 3, 1, 3, 0), (11, .if_icmp .ge 12, 3, 23, 0),
  (14, .iload_n 2, 1, 0, 0), (15, .iconst 1, 1, 1, 0), (16, .iconst 5, 1, 5, 0), (17, .invokestatic 71, 3, 118, 2), (20, .ifCond .eq 25, 3, 45, 0), (23, .iload_n 3, 1, 0, 0), (24, .iconst 0, 1, 0, 0), (25, .iload_n 1, 1, 0, 0),
  (26, .iconst 4, 1, 4, 0), (27, .if_icmp .ne 9, 3, 36, 0), (30, .sipush 200, 3, 200, 0), (33, .goto 6, 3, 39, 0), (36, .sipush 9999, 3, 9999, 0), (39, .invokestatic 71, 3, 118, 2), (42, .ifCond .ne 6, 3, 48, 0), (45, .bipush (-2), 2, 4294967294, 0),
  (47, .ireturn, 1, 0, 0), (48, .iload_n 1, 1, 0, 0), (49, .iconst 3, 1, 3, 0), (50, .if_icmp .ne 9, 3, 59, 0), (53, .sipush 411, 3, 411, 0), (56, .goto 25, 3, 81, 0), (59, .iload_n 1, 1, 0, 0), (60, .iconst 4, 1, 4, 0),
  (61, .if_icmp .ne 9, 3, 70, 0), (64, .sipush 412, 3, 412, 0), (67, .goto 14, 3, 81, 0), (70, .sipush 396, 3, 396, 0), (73, .iconst 5, 1, 5, 0), (74, .iload_n 1, 1, 0, 0), (75, .imul, 1, 0, 0), (76, .iadd, 1, 0, 0),
  (77, .iload_n 2, 1, 0, 0), (78, .iadd, 1, 0, 0), (79, .iconst 1, 1, 1, 0), (80, .isub, 1, 0, 0), (81, .istore 4, 2, 0, 0), (83, .aload_n 0, 1, 0, 0), (84, .getfield 7, 3, 11, 0), (87, .iload 4, 2, 0, 0),
  (89, .iaload, 1, 0, 0), (90, .istore 5, 2, 0, 0), (92, .aload_n 0, 1, 0, 0), (93, .getfield 7, 3, 11, 0), (96, .iload 4, 2, 0, 0), (98, .iload_n 3, 1, 0, 0), (99, .iastore, 1, 0, 0), (100, .iload 5, 2, 0, 0),
  (102, .ireturn, 1, 0, 0)]
def co_X11_when : List mz_I := [(0, .aload_n 0, 1, 0, 0), (1, .getfield 7, 3, 11, 0), (4, .iconst 0, 1, 0, 0), (5, .bipush 48, 2, 48, 0), (7, .iload_n 1, 1, 0, 0), (8, .imul, 1, 0, 0), (9, .iadd, 1, 0, 0), (10, .iload_n 2, 1, 0, 0),
  (11, .iadd, 1, 0, 0), (12, .iaload, 1, 0, 0), (13, .ireturn, 1, 0, 0)]
def co_X11_stationOf : List mz_I := [(0, .aload_n 0, 1, 0, 0), (1, .getfield 7, 3, 11, 0), (4, .sipush 192, 3, 192, 0), (7, .bipush 48, 2, 48, 0), (9, .iload_n 1, 1, 0, 0), (10, .imul, 1, 0, 0), (11, .iadd, 1, 0, 0), (12, .iload_n 2, 1, 0, 0),
  (13, .iadd, 1, 0, 0), (14, .iaload, 1, 0, 0), (15, .iconst 2, 1, 2, 0), (16, .idiv, 1, 0, 0), (17, .ireturn, 1, 0, 0)]
def co_X11_isIn : List mz_I := [(0, .aload_n 0, 1, 0, 0), (1, .getfield 7, 3, 11, 0), (4, .sipush 192, 3, 192, 0), (7, .bipush 48, 2, 48, 0), (9, .iload_n 1, 1, 0, 0), (10, .imul, 1, 0, 0), (11, .iadd, 1, 0, 0), (12, .iload_n 2, 1, 0, 0),
  (13, .iadd, 1, 0, 0), (14, .iaload, 1, 0, 0), (15, .iconst 2, 1, 2, 0), (16, .irem, 1, 0, 0), (17, .ifCond .ne 7, 3, 24, 0), (20, .iconst 1, 1, 1, 0), (21, .goto 4, 3, 25, 0), (24, .iconst 0, 1, 0, 0),
  (25, .ireturn, 1, 0, 0)]
def co_X11_tapAt : List mz_I := [(0, .bipush (-6), 2, 4294967290, 0), (2, .istore_n 3, 1, 0, 0), (3, .iconst 0, 1, 0, 0), (4, .istore 4, 2, 0, 0), (6, .iload 4, 2, 0, 0), (8, .aload_n 0, 1, 0, 0), (9, .getfield 7, 3, 11, 0), (12, .sipush 384, 3, 384, 0),
  (15, .iload_n 1, 1, 0, 0), (16, .iadd, 1, 0, 0), (17, .iaload, 1, 0, 0), (18, .if_icmp .ge 27, 3, 45, 0), (21, .aload_n 0, 1, 0, 0), (22, .iload_n 1, 1, 0, 0), (23, .iload 4, 2, 0, 0), (25, .invokevirtual 79, 3, 124, 0),
  (28, .iload_n 2, 1, 0, 0), (29, .if_icmp .ne 8, 3, 37, 0), (32, .iload 4, 2, 0, 0), (34, .goto 4, 3, 38, 0), (37, .iload_n 3, 1, 0, 0), (38, .istore_n 3, 1, 0, 0), (39, .iinc 4 1, 3, 1, 0), (42, .goto (-36), 3, 6, 0),
  (45, .iload_n 3, 1, 0, 0), (46, .ireturn, 1, 0, 0)]
def co_X11_refusal : List mz_I := [(0, .iload_n 1, 1, 0, 0), (1, .invokestatic 83, 3, 119, 2), (4, .ifCond .eq 11, 3, 15, 0), (7, .iload 4, 2, 0, 0), (9, .invokestatic 75, 3, 120, 2), (12, .ifCond .ne 5, 3, 17, 0), (15, .iconst (-1), 1, 4294967295, 0), (16, .ireturn, 1, 0, 0),
  (17, .iload_n 2, 1, 0, 0), (18, .invokestatic 86, 3, 121, 2), (21, .ifCond .eq 24, 3, 45, 0), (24, .iload_n 3, 1, 0, 0), (25, .iconst 0, 1, 0, 0), (26, .sipush 1439, 3, 1439, 0), (29, .invokestatic 71, 3, 118, 2), (32, .ifCond .eq 13, 3, 45, 0),
  (35, .iload 5, 2, 0, 0), (37, .iconst 0, 1, 0, 0), (38, .iconst 1, 1, 1, 0), (39, .invokestatic 71, 3, 118, 2), (42, .ifCond .ne 6, 3, 48, 0), (45, .bipush (-2), 2, 4294967294, 0), (47, .ireturn, 1, 0, 0), (48, .aload_n 0, 1, 0, 0),
  (49, .iload_n 1, 1, 0, 0), (50, .sipush 1440, 3, 1440, 0), (53, .iload_n 2, 1, 0, 0), (54, .imul, 1, 0, 0), (55, .iload_n 3, 1, 0, 0), (56, .iadd, 1, 0, 0), (57, .invokevirtual 89, 3, 127, 0), (60, .ifCond .lt 6, 3, 66, 0),
  (63, .bipush (-5), 2, 4294967291, 0), (65, .ireturn, 1, 0, 0), (66, .aload_n 0, 1, 0, 0), (67, .getfield 7, 3, 11, 0), (70, .sipush 384, 3, 384, 0), (73, .iload_n 1, 1, 0, 0), (74, .iadd, 1, 0, 0), (75, .iaload, 1, 0, 0),
  (76, .bipush 48, 2, 48, 0), (78, .if_icmp .ne 8, 3, 86, 0), (81, .bipush (-4), 2, 4294967292, 0), (83, .goto 4, 3, 87, 0), (86, .iconst 0, 1, 0, 0), (87, .ireturn, 1, 0, 0)]
def co_X11_add : List mz_I := [(0, .aload_n 0, 1, 0, 0), (1, .getfield 7, 3, 11, 0), (4, .sipush 384, 3, 384, 0), (7, .iload_n 1, 1, 0, 0), (8, .iadd, 1, 0, 0), (9, .iaload, 1, 0, 0), (10, .istore 4, 2, 0, 0), (12, .aload_n 0, 1, 0, 0),
  (13, .getfield 7, 3, 11, 0), (16, .sipush 384, 3, 384, 0), (19, .iload_n 1, 1, 0, 0), (20, .iadd, 1, 0, 0), (21, .dup2, 1, 0, 0), (22, .iaload, 1, 0, 0), (23, .iconst 1, 1, 1, 0), (24, .iadd, 1, 0, 0),
  (25, .iastore, 1, 0, 0), (26, .iload 4, 2, 0, 0), (28, .ifCond .le 86, 3, 114, 0), (31, .aload_n 0, 1, 0, 0), (32, .iload_n 1, 1, 0, 0), (33, .iload 4, 2, 0, 0), (35, .iconst 1, 1, 1, 0), (36, .isub, 1, 0, 0),
  (37, .invokevirtual 79, 3, 124, 0), (40, .iload_n 2, 1, 0, 0), (41, .if_icmp .le 73, 3, 114, 0), (44, .aload_n 0, 1, 0, 0), (45, .getfield 7, 3, 11, 0), (48, .iconst 0, 1, 0, 0), (49, .bipush 48, 2, 48, 0), (51, .iload_n 1, 1, 0, 0),
  (52, .imul, 1, 0, 0), (53, .iadd, 1, 0, 0), (54, .iload 4, 2, 0, 0), (56, .iadd, 1, 0, 0), (57, .aload_n 0, 1, 0, 0), (58, .getfield 7, 3, 11, 0), (61, .iconst 0, 1, 0, 0), (62, .bipush 48, 2, 48, 0),
  (64, .iload_n 1, 1, 0, 0), (65, .imul, 1, 0, 0), (66, .iadd, 1, 0, 0), (67, .iload 4, 2, 0, 0), (69, .iadd, 1, 0, 0), (70, .iconst 1, 1, 1, 0), (71, .isub, 1, 0, 0), (72, .iaload, 1, 0, 0),
  (73, .iastore, 1, 0, 0), (74, .aload_n 0, 1, 0, 0), (75, .getfield 7, 3, 11, 0), (78, .sipush 192, 3, 192, 0), (81, .bipush 48, 2, 48, 0), (83, .iload_n 1, 1, 0, 0), (84, .imul, 1, 0, 0), (85, .iadd, 1, 0, 0),
  (86, .iload 4, 2, 0, 0), (88, .iadd, 1, 0, 0), (89, .aload_n 0, 1, 0, 0), (90, .getfield 7, 3, 11, 0), (93, .sipush 192, 3, 192, 0), (96, .bipush 48, 2, 48, 0), (98, .iload_n 1, 1, 0, 0), (99, .imul, 1, 0, 0),
  (100, .iadd, 1, 0, 0), (101, .iload 4, 2, 0, 0), (103, .iadd, 1, 0, 0), (104, .iconst 1, 1, 1, 0), (105, .isub, 1, 0, 0), (106, .iaload, 1, 0, 0), (107, .iastore, 1, 0, 0), (108, .iinc 4 (-1), 3, 4294967295, 0),
  (111, .goto (-85), 3, 26, 0), (114, .aload_n 0, 1, 0, 0), (115, .getfield 7, 3, 11, 0), (118, .iconst 0, 1, 0, 0), (119, .bipush 48, 2, 48, 0), (121, .iload_n 1, 1, 0, 0), (122, .imul, 1, 0, 0), (123, .iadd, 1, 0, 0),
  (124, .iload 4, 2, 0, 0), (126, .iadd, 1, 0, 0), (127, .iload_n 2, 1, 0, 0), (128, .iastore, 1, 0, 0), (129, .aload_n 0, 1, 0, 0), (130, .getfield 7, 3, 11, 0), (133, .sipush 192, 3, 192, 0), (136, .bipush 48, 2, 48, 0),
  (138, .iload_n 1, 1, 0, 0), (139, .imul, 1, 0, 0), (140, .iadd, 1, 0, 0), (141, .iload 4, 2, 0, 0), (143, .iadd, 1, 0, 0), (144, .iload_n 3, 1, 0, 0), (145, .iastore, 1, 0, 0), (146, .return_, 1, 0, 0)]
def co_X11_remove : List mz_I := [(0, .aload_n 0, 1, 0, 0), (1, .getfield 7, 3, 11, 0), (4, .sipush 384, 3, 384, 0), (7, .iload_n 1, 1, 0, 0), (8, .iadd, 1, 0, 0), (9, .dup2, 1, 0, 0), (10, .iaload, 1, 0, 0), (11, .iconst 1, 1, 1, 0),
  (12, .isub, 1, 0, 0), (13, .iastore, 1, 0, 0), (14, .iload_n 2, 1, 0, 0), (15, .istore_n 3, 1, 0, 0), (16, .iload_n 3, 1, 0, 0), (17, .aload_n 0, 1, 0, 0), (18, .getfield 7, 3, 11, 0), (21, .sipush 384, 3, 384, 0),
  (24, .iload_n 1, 1, 0, 0), (25, .iadd, 1, 0, 0), (26, .iaload, 1, 0, 0), (27, .if_icmp .ge 69, 3, 96, 0), (30, .aload_n 0, 1, 0, 0), (31, .getfield 7, 3, 11, 0), (34, .iconst 0, 1, 0, 0), (35, .bipush 48, 2, 48, 0),
  (37, .iload_n 1, 1, 0, 0), (38, .imul, 1, 0, 0), (39, .iadd, 1, 0, 0), (40, .iload_n 3, 1, 0, 0), (41, .iadd, 1, 0, 0), (42, .aload_n 0, 1, 0, 0), (43, .getfield 7, 3, 11, 0), (46, .iconst 0, 1, 0, 0),
  (47, .bipush 48, 2, 48, 0), (49, .iload_n 1, 1, 0, 0), (50, .imul, 1, 0, 0), (51, .iadd, 1, 0, 0), (52, .iload_n 3, 1, 0, 0), (53, .iadd, 1, 0, 0), (54, .iconst 1, 1, 1, 0), (55, .iadd, 1, 0, 0),
  (56, .iaload, 1, 0, 0), (57, .iastore, 1, 0, 0), (58, .aload_n 0, 1, 0, 0), (59, .getfield 7, 3, 11, 0), (62, .sipush 192, 3, 192, 0), (65, .bipush 48, 2, 48, 0), (67, .iload_n 1, 1, 0, 0), (68, .imul, 1, 0, 0),
  (69, .iadd, 1, 0, 0), (70, .iload_n 3, 1, 0, 0), (71, .iadd, 1, 0, 0), (72, .aload_n 0, 1, 0, 0), (73, .getfield 7, 3, 11, 0), (76, .sipush 192, 3, 192, 0), (79, .bipush 48, 2, 48, 0), (81, .iload_n 1, 1, 0, 0),
  (82, .imul, 1, 0, 0), (83, .iadd, 1, 0, 0), (84, .iload_n 3, 1, 0, 0), (85, .iadd, 1, 0, 0), (86, .iconst 1, 1, 1, 0), (87, .iadd, 1, 0, 0), (88, .iaload, 1, 0, 0), (89, .iastore, 1, 0, 0),
  (90, .iinc 3 1, 3, 1, 0), (93, .goto (-77), 3, 16, 0), (96, .return_, 1, 0, 0)]
def co_X11_tap : List mz_I := [(0, .aload_n 0, 1, 0, 0), (1, .iload_n 1, 1, 0, 0), (2, .iload_n 2, 1, 0, 0), (3, .iload_n 3, 1, 0, 0), (4, .iload 4, 2, 0, 0), (6, .iload 5, 2, 0, 0), (8, .invokevirtual 92, 3, 128, 0), (11, .istore 6, 2, 0, 0),
  (13, .iload 6, 2, 0, 0), (15, .ifCond .eq 6, 3, 21, 0), (18, .iload 6, 2, 0, 0), (20, .ireturn, 1, 0, 0), (21, .aload_n 0, 1, 0, 0), (22, .iload_n 1, 1, 0, 0), (23, .sipush 1440, 3, 1440, 0), (26, .iload_n 2, 1, 0, 0),
  (27, .imul, 1, 0, 0), (28, .iload_n 3, 1, 0, 0), (29, .iadd, 1, 0, 0), (30, .iconst 2, 1, 2, 0), (31, .iload 4, 2, 0, 0), (33, .imul, 1, 0, 0), (34, .iload 5, 2, 0, 0), (36, .iadd, 1, 0, 0),
  (37, .invokevirtual 96, 3, 129, 0), (40, .aload_n 0, 1, 0, 0), (41, .getfield 7, 3, 11, 0), (44, .sipush 384, 3, 384, 0), (47, .iload_n 1, 1, 0, 0), (48, .iadd, 1, 0, 0), (49, .iaload, 1, 0, 0), (50, .ireturn, 1, 0, 0)]
def co_X11_untap : List mz_I := [(0, .iload_n 1, 1, 0, 0), (1, .invokestatic 83, 3, 119, 2), (4, .ifCond .ne 5, 3, 9, 0), (7, .iconst (-1), 1, 4294967295, 0), (8, .ireturn, 1, 0, 0), (9, .iload_n 2, 1, 0, 0), (10, .invokestatic 86, 3, 121, 2), (13, .ifCond .eq 14, 3, 27, 0),
  (16, .iload_n 3, 1, 0, 0), (17, .iconst 0, 1, 0, 0), (18, .sipush 1439, 3, 1439, 0), (21, .invokestatic 71, 3, 118, 2), (24, .ifCond .ne 6, 3, 30, 0), (27, .bipush (-2), 2, 4294967294, 0), (29, .ireturn, 1, 0, 0), (30, .aload_n 0, 1, 0, 0),
  (31, .iload_n 1, 1, 0, 0), (32, .sipush 1440, 3, 1440, 0), (35, .iload_n 2, 1, 0, 0), (36, .imul, 1, 0, 0), (37, .iload_n 3, 1, 0, 0), (38, .iadd, 1, 0, 0), (39, .invokevirtual 89, 3, 127, 0), (42, .istore 4, 2, 0, 0),
  (44, .iload 4, 2, 0, 0), (46, .ifCond .ge 6, 3, 52, 0), (49, .bipush (-5), 2, 4294967291, 0), (51, .ireturn, 1, 0, 0), (52, .aload_n 0, 1, 0, 0), (53, .iload_n 1, 1, 0, 0), (54, .iload 4, 2, 0, 0), (56, .invokevirtual 100, 3, 130, 0),
  (59, .aload_n 0, 1, 0, 0), (60, .getfield 7, 3, 11, 0), (63, .sipush 384, 3, 384, 0), (66, .iload_n 1, 1, 0, 0), (67, .iadd, 1, 0, 0), (68, .iaload, 1, 0, 0), (69, .ireturn, 1, 0, 0)]
def co_X11_told : List mz_I := [(0, .iload_n 1, 1, 0, 0), (1, .invokestatic 83, 3, 119, 2), (4, .ifCond .ne 5, 3, 9, 0), (7, .iconst (-1), 1, 4294967295, 0), (8, .ireturn, 1, 0, 0), (9, .iload_n 3, 1, 0, 0), (10, .iconst 0, 1, 0, 0), (11, .iconst 3, 1, 3, 0),
  (12, .invokestatic 71, 3, 118, 2), (15, .ifCond .ne 6, 3, 21, 0), (18, .bipush (-2), 2, 4294967294, 0), (20, .ireturn, 1, 0, 0), (21, .iload_n 2, 1, 0, 0), (22, .iconst 0, 1, 0, 0), (23, .aload_n 0, 1, 0, 0), (24, .getfield 7, 3, 11, 0),
  (27, .sipush 384, 3, 384, 0), (30, .iload_n 1, 1, 0, 0), (31, .iadd, 1, 0, 0), (32, .iaload, 1, 0, 0), (33, .iconst 1, 1, 1, 0), (34, .isub, 1, 0, 0), (35, .invokestatic 71, 3, 118, 2), (38, .ifCond .ne 6, 3, 44, 0),
  (41, .bipush (-6), 2, 4294967290, 0), (43, .ireturn, 1, 0, 0), (44, .iload_n 3, 1, 0, 0), (45, .ifCond .ne 16, 3, 61, 0), (48, .aload_n 0, 1, 0, 0), (49, .iload_n 1, 1, 0, 0), (50, .iload_n 2, 1, 0, 0), (51, .invokevirtual 79, 3, 124, 0),
  (54, .sipush 1440, 3, 1440, 0), (57, .idiv, 1, 0, 0), (58, .goto 49, 3, 107, 0), (61, .iload_n 3, 1, 0, 0), (62, .iconst 1, 1, 1, 0), (63, .if_icmp .ne 16, 3, 79, 0), (66, .aload_n 0, 1, 0, 0), (67, .iload_n 1, 1, 0, 0),
  (68, .iload_n 2, 1, 0, 0), (69, .invokevirtual 79, 3, 124, 0), (72, .sipush 1440, 3, 1440, 0), (75, .irem, 1, 0, 0), (76, .goto 31, 3, 107, 0), (79, .iload_n 3, 1, 0, 0), (80, .iconst 2, 1, 2, 0), (81, .if_icmp .ne 12, 3, 93, 0),
  (84, .aload_n 0, 1, 0, 0), (85, .iload_n 1, 1, 0, 0), (86, .iload_n 2, 1, 0, 0), (87, .invokevirtual 104, 3, 125, 0), (90, .goto 17, 3, 107, 0), (93, .aload_n 0, 1, 0, 0), (94, .iload_n 1, 1, 0, 0), (95, .iload_n 2, 1, 0, 0),
  (96, .invokevirtual 107, 3, 126, 0), (99, .ifCond .eq 7, 3, 106, 0), (102, .iconst 0, 1, 0, 0), (103, .goto 4, 3, 107, 0), (106, .iconst 1, 1, 1, 0), (107, .ireturn, 1, 0, 0)]
def co_X11_mended : List mz_I := [(0, .bipush (-6), 2, 4294967290, 0), (2, .istore_n 3, 1, 0, 0), (3, .iconst 0, 1, 0, 0), (4, .istore 4, 2, 0, 0), (6, .iload 4, 2, 0, 0), (8, .aload_n 0, 1, 0, 0), (9, .getfield 111, 3, 11, 10), (12, .if_icmp .ge 66, 3, 78, 0),
  (15, .aload_n 0, 1, 0, 0), (16, .getfield 20, 3, 11, 3), (19, .iload 4, 2, 0, 0), (21, .iaload, 1, 0, 0), (22, .ifCond .ne 50, 3, 72, 0), (25, .iload_n 1, 1, 0, 0), (26, .ifCond .eq 13, 3, 39, 0), (29, .aload_n 0, 1, 0, 0),
  (30, .getfield 23, 3, 11, 4), (33, .iload 4, 2, 0, 0), (35, .iaload, 1, 0, 0), (36, .goto 10, 3, 46, 0), (39, .aload_n 0, 1, 0, 0), (40, .getfield 26, 3, 11, 5), (43, .iload 4, 2, 0, 0), (45, .iaload, 1, 0, 0),
  (46, .iload_n 2, 1, 0, 0), (47, .if_icmp .ne 25, 3, 72, 0), (50, .iload_n 1, 1, 0, 0), (51, .ifCond .eq 13, 3, 64, 0), (54, .aload_n 0, 1, 0, 0), (55, .getfield 26, 3, 11, 5), (58, .iload 4, 2, 0, 0), (60, .iaload, 1, 0, 0),
  (61, .goto 10, 3, 71, 0), (64, .aload_n 0, 1, 0, 0), (65, .getfield 23, 3, 11, 4), (68, .iload 4, 2, 0, 0), (70, .iaload, 1, 0, 0), (71, .istore_n 3, 1, 0, 0), (72, .iinc 4 1, 3, 1, 0), (75, .goto (-69), 3, 6, 0),
  (78, .iload_n 3, 1, 0, 0), (79, .ireturn, 1, 0, 0)]
def co_X11_addRide : List mz_I := [(0, .aload_n 0, 1, 0, 0), (1, .getfield 20, 3, 11, 3), (4, .aload_n 0, 1, 0, 0), (5, .getfield 111, 3, 11, 10), (8, .iload_n 1, 1, 0, 0), (9, .iastore, 1, 0, 0), (10, .aload_n 0, 1, 0, 0), (11, .getfield 23, 3, 11, 4),
  (14, .aload_n 0, 1, 0, 0), (15, .getfield 111, 3, 11, 10), (18, .iload_n 2, 1, 0, 0), (19, .iastore, 1, 0, 0), (20, .aload_n 0, 1, 0, 0), (21, .getfield 26, 3, 11, 5), (24, .aload_n 0, 1, 0, 0), (25, .getfield 111, 3, 11, 10),
  (28, .iload_n 3, 1, 0, 0), (29, .iastore, 1, 0, 0), (30, .aload_n 0, 1, 0, 0), (31, .getfield 29, 3, 11, 6), (34, .aload_n 0, 1, 0, 0), (35, .getfield 111, 3, 11, 10), (38, .iload 4, 2, 0, 0), (40, .iastore, 1, 0, 0),
  (41, .aload_n 0, 1, 0, 0), (42, .getfield 32, 3, 11, 7), (45, .aload_n 0, 1, 0, 0), (46, .getfield 111, 3, 11, 10), (49, .iload 5, 2, 0, 0), (51, .iastore, 1, 0, 0), (52, .aload_n 0, 1, 0, 0), (53, .getfield 35, 3, 11, 8),
  (56, .aload_n 0, 1, 0, 0), (57, .getfield 111, 3, 11, 10), (60, .iload_n 2, 1, 0, 0), (61, .ifCond .lt 7, 3, 68, 0), (64, .iload_n 3, 1, 0, 0), (65, .ifCond .ge 7, 3, 72, 0), (68, .iconst 1, 1, 1, 0), (69, .goto 4, 3, 73, 0),
  (72, .iconst 0, 1, 0, 0), (73, .bastore, 1, 0, 0), (74, .aload_n 0, 1, 0, 0), (75, .dup, 1, 0, 0), (76, .getfield 111, 3, 11, 10), (79, .iconst 1, 1, 1, 0), (80, .iadd, 1, 0, 0), (81, .putfield 111, 3, 11, 10),
  (84, .return_, 1, 0, 0)]
def co_X11_layRides : List mz_I := [(0, .aload_n 0, 1, 0, 0), (1, .iconst 0, 1, 0, 0), (2, .putfield 111, 3, 11, 10), (5, .iconst 0, 1, 0, 0), (6, .istore_n 2, 1, 0, 0), (7, .iload_n 2, 1, 0, 0), (8, .aload_n 0, 1, 0, 0), (9, .getfield 7, 3, 11, 0),
  (12, .sipush 384, 3, 384, 0), (15, .iload_n 1, 1, 0, 0), (16, .iadd, 1, 0, 0), (17, .iaload, 1, 0, 0), (18, .if_icmp .ge 141, 3, 159, 0), (21, .aload_n 0, 1, 0, 0), (22, .iload_n 1, 1, 0, 0), (23, .iload_n 2, 1, 0, 0),
  (24, .invokevirtual 79, 3, 124, 0), (27, .istore_n 3, 1, 0, 0), (28, .aload_n 0, 1, 0, 0), (29, .iload_n 1, 1, 0, 0), (30, .iload_n 2, 1, 0, 0), (31, .invokevirtual 104, 3, 125, 0), (34, .istore 4, 2, 0, 0), (36, .aload_n 0, 1, 0, 0),
  (37, .iload_n 1, 1, 0, 0), (38, .iload_n 2, 1, 0, 0), (39, .invokevirtual 107, 3, 126, 0), (42, .ifCond .ne 22, 3, 64, 0), (45, .aload_n 0, 1, 0, 0), (46, .iconst 2, 1, 2, 0), (47, .aload_n 0, 1, 0, 0), (48, .iconst 0, 1, 0, 0),
  (49, .iload 4, 2, 0, 0), (51, .invokevirtual 115, 3, 134, 0), (54, .iload 4, 2, 0, 0), (56, .iload_n 3, 1, 0, 0), (57, .iload_n 3, 1, 0, 0), (58, .invokevirtual 119, 3, 135, 0), (61, .goto 92, 3, 153, 0), (64, .iload_n 2, 1, 0, 0),
  (65, .iconst 1, 1, 1, 0), (66, .iadd, 1, 0, 0), (67, .aload_n 0, 1, 0, 0), (68, .getfield 7, 3, 11, 0), (71, .sipush 384, 3, 384, 0), (74, .iload_n 1, 1, 0, 0), (75, .iadd, 1, 0, 0), (76, .iaload, 1, 0, 0),
  (77, .if_icmp .ge 60, 3, 137, 0), (80, .aload_n 0, 1, 0, 0), (81, .iload_n 1, 1, 0, 0), (82, .iload_n 2, 1, 0, 0), (83, .iconst 1, 1, 1, 0), (84, .iadd, 1, 0, 0), (85, .invokevirtual 107, 3, 126, 0), (88, .ifCond .ne 49, 3, 137, 0),
  (91, .aload_n 0, 1, 0, 0), (92, .iload_n 1, 1, 0, 0), (93, .iload_n 2, 1, 0, 0), (94, .iconst 1, 1, 1, 0), (95, .iadd, 1, 0, 0), (96, .invokevirtual 79, 3, 124, 0), (99, .sipush 1440, 3, 1440, 0), (102, .idiv, 1, 0, 0),
  (103, .iload_n 3, 1, 0, 0), (104, .sipush 1440, 3, 1440, 0), (107, .idiv, 1, 0, 0), (108, .if_icmp .ne 29, 3, 137, 0), (111, .iinc 2 1, 3, 1, 0), (114, .aload_n 0, 1, 0, 0), (115, .iconst 0, 1, 0, 0), (116, .iload 4, 2, 0, 0),
  (118, .aload_n 0, 1, 0, 0), (119, .iload_n 1, 1, 0, 0), (120, .iload_n 2, 1, 0, 0), (121, .invokevirtual 104, 3, 125, 0), (124, .iload_n 3, 1, 0, 0), (125, .aload_n 0, 1, 0, 0), (126, .iload_n 1, 1, 0, 0), (127, .iload_n 2, 1, 0, 0),
  (128, .invokevirtual 79, 3, 124, 0), (131, .invokevirtual 119, 3, 135, 0), (134, .goto 19, 3, 153, 0), (137, .aload_n 0, 1, 0, 0), (138, .iconst 1, 1, 1, 0), (139, .iload 4, 2, 0, 0), (141, .aload_n 0, 1, 0, 0), (142, .iconst 1, 1, 1, 0),
  (143, .iload 4, 2, 0, 0), (145, .invokevirtual 115, 3, 134, 0), (148, .iload_n 3, 1, 0, 0), (149, .iload_n 3, 1, 0, 0), (150, .invokevirtual 119, 3, 135, 0), (153, .iinc 2 1, 3, 1, 0), (156, .goto (-149), 3, 7, 0), (159, .return_, 1, 0, 0)]
def co_X11_goesOn : List mz_I := [(0, .iload_n 1, 1, 0, 0), (1, .ifCond .eq 23, 3, 24, 0), (4, .aload_n 0, 1, 0, 0), (5, .getfield 20, 3, 11, 3), (8, .iload_n 1, 1, 0, 0), (9, .iaload, 1, 0, 0), (10, .ifCond .ne 14, 3, 24, 0), (13, .aload_n 0, 1, 0, 0),
  (14, .getfield 20, 3, 11, 3), (17, .iload_n 1, 1, 0, 0), (18, .iconst 1, 1, 1, 0), (19, .isub, 1, 0, 0), (20, .iaload, 1, 0, 0), (21, .ifCond .eq 5, 3, 26, 0), (24, .iconst 0, 1, 0, 0), (25, .ireturn, 1, 0, 0),
  (26, .aload_n 0, 1, 0, 0), (27, .getfield 29, 3, 11, 6), (30, .iload_n 1, 1, 0, 0), (31, .iaload, 1, 0, 0), (32, .sipush 1440, 3, 1440, 0), (35, .idiv, 1, 0, 0), (36, .aload_n 0, 1, 0, 0), (37, .getfield 29, 3, 11, 6),
  (40, .iload_n 1, 1, 0, 0), (41, .iconst 1, 1, 1, 0), (42, .isub, 1, 0, 0), (43, .iaload, 1, 0, 0), (44, .sipush 1440, 3, 1440, 0), (47, .idiv, 1, 0, 0), (48, .if_icmp .ne 33, 3, 81, 0), (51, .aload_n 0, 1, 0, 0),
  (52, .getfield 29, 3, 11, 6), (55, .iload_n 1, 1, 0, 0), (56, .iaload, 1, 0, 0), (57, .aload_n 0, 1, 0, 0), (58, .getfield 32, 3, 11, 7), (61, .iload_n 1, 1, 0, 0), (62, .iconst 1, 1, 1, 0), (63, .isub, 1, 0, 0),
  (64, .iaload, 1, 0, 0), (65, .isub, 1, 0, 0), (66, .aload_n 0, 1, 0, 0), (67, .getfield 7, 3, 11, 0), (70, .sipush 412, 3, 412, 0), (73, .iaload, 1, 0, 0), (74, .if_icmp .gt 7, 3, 81, 0), (77, .iconst 1, 1, 1, 0),
  (78, .goto 4, 3, 82, 0), (81, .iconst 0, 1, 0, 0), (82, .istore_n 2, 1, 0, 0), (83, .iload_n 2, 1, 0, 0), (84, .ifCond .eq 41, 3, 125, 0), (87, .aload_n 0, 1, 0, 0), (88, .getfield 23, 3, 11, 4), (91, .iload_n 1, 1, 0, 0),
  (92, .iaload, 1, 0, 0), (93, .aload_n 0, 1, 0, 0), (94, .getfield 26, 3, 11, 5), (97, .iload_n 1, 1, 0, 0), (98, .iconst 1, 1, 1, 0), (99, .isub, 1, 0, 0), (100, .iaload, 1, 0, 0), (101, .if_icmp .ne 24, 3, 125, 0),
  (104, .aload_n 0, 1, 0, 0), (105, .getfield 44, 3, 11, 12), (108, .aload_n 0, 1, 0, 0), (109, .getfield 38, 3, 11, 9), (112, .iload_n 1, 1, 0, 0), (113, .iconst 1, 1, 1, 0), (114, .isub, 1, 0, 0), (115, .iaload, 1, 0, 0),
  (116, .iaload, 1, 0, 0), (117, .iconst 3, 1, 3, 0), (118, .if_icmp .ge 7, 3, 125, 0), (121, .iconst 1, 1, 1, 0), (122, .goto 4, 3, 126, 0), (125, .iconst 0, 1, 0, 0), (126, .ireturn, 1, 0, 0)]
def co_X11_isBusy : List mz_I := [(0, .iload_n 0, 1, 0, 0), (1, .sipush 1440, 3, 1440, 0), (4, .idiv, 1, 0, 0), (5, .istore_n 1, 1, 0, 0), (6, .iload_n 0, 1, 0, 0), (7, .sipush 1440, 3, 1440, 0), (10, .irem, 1, 0, 0), (11, .istore_n 2, 1, 0, 0),
  (12, .iload_n 1, 1, 0, 0), (13, .bipush 7, 2, 7, 0), (15, .irem, 1, 0, 0), (16, .iconst 5, 1, 5, 0), (17, .if_icmp .ge 33, 3, 50, 0), (20, .iload_n 2, 1, 0, 0), (21, .sipush 420, 3, 420, 0), (24, .sipush 569, 3, 569, 0),
  (27, .invokestatic 71, 3, 118, 2), (30, .ifCond .ne 16, 3, 46, 0), (33, .iload_n 2, 1, 0, 0), (34, .sipush 960, 3, 960, 0), (37, .sipush 1109, 3, 1109, 0), (40, .invokestatic 71, 3, 118, 2), (43, .ifCond .eq 7, 3, 50, 0), (46, .iconst 1, 1, 1, 0),
  (47, .goto 4, 3, 51, 0), (50, .iconst 0, 1, 0, 0), (51, .ireturn, 1, 0, 0)]
def co_X11_zoneOf : List mz_I := [(0, .aload_n 0, 1, 0, 0), (1, .getfield 7, 3, 11, 0), (4, .sipush 388, 3, 388, 0), (7, .iload_n 1, 1, 0, 0), (8, .iadd, 1, 0, 0), (9, .iaload, 1, 0, 0), (10, .ireturn, 1, 0, 0)]
def co_X11_widthOf : List mz_I := [(0, .iconst 5, 1, 5, 0), (1, .istore_n 2, 1, 0, 0), (2, .iconst 1, 1, 1, 0), (3, .istore_n 3, 1, 0, 0), (4, .aload_n 0, 1, 0, 0), (5, .getfield 41, 3, 11, 11), (8, .iload_n 1, 1, 0, 0), (9, .iaload, 1, 0, 0),
  (10, .istore 4, 2, 0, 0), (12, .iload 4, 2, 0, 0), (14, .aload_n 0, 1, 0, 0), (15, .getfield 41, 3, 11, 11), (18, .iload_n 1, 1, 0, 0), (19, .iaload, 1, 0, 0), (20, .aload_n 0, 1, 0, 0), (21, .getfield 44, 3, 11, 12),
  (24, .iload_n 1, 1, 0, 0), (25, .iaload, 1, 0, 0), (26, .iadd, 1, 0, 0), (27, .if_icmp .ge 99, 3, 126, 0), (30, .aload_n 0, 1, 0, 0), (31, .getfield 35, 3, 11, 8), (34, .iload 4, 2, 0, 0), (36, .baload, 1, 0, 0),
  (37, .ifCond .eq 5, 3, 42, 0), (40, .iconst 5, 1, 5, 0), (41, .ireturn, 1, 0, 0), (42, .aload_n 0, 1, 0, 0), (43, .aload_n 0, 1, 0, 0), (44, .getfield 23, 3, 11, 4), (47, .iload 4, 2, 0, 0), (49, .iaload, 1, 0, 0),
  (50, .invokevirtual 123, 3, 139, 0), (53, .istore 5, 2, 0, 0), (55, .aload_n 0, 1, 0, 0), (56, .aload_n 0, 1, 0, 0), (57, .getfield 26, 3, 11, 5), (60, .iload 4, 2, 0, 0), (62, .iaload, 1, 0, 0), (63, .invokevirtual 123, 3, 139, 0),
  (66, .istore 6, 2, 0, 0), (68, .iload 5, 2, 0, 0), (70, .iload_n 2, 1, 0, 0), (71, .if_icmp .ge 8, 3, 79, 0), (74, .iload 5, 2, 0, 0), (76, .goto 4, 3, 80, 0), (79, .iload_n 2, 1, 0, 0), (80, .istore_n 2, 1, 0, 0),
  (81, .iload 6, 2, 0, 0), (83, .iload_n 2, 1, 0, 0), (84, .if_icmp .ge 8, 3, 92, 0), (87, .iload 6, 2, 0, 0), (89, .goto 4, 3, 93, 0), (92, .iload_n 2, 1, 0, 0), (93, .istore_n 2, 1, 0, 0), (94, .iload 5, 2, 0, 0),
  (96, .iload_n 3, 1, 0, 0), (97, .if_icmp .le 8, 3, 105, 0), (100, .iload 5, 2, 0, 0), (102, .goto 4, 3, 106, 0), (105, .iload_n 3, 1, 0, 0), (106, .istore_n 3, 1, 0, 0), (107, .iload 6, 2, 0, 0), (109, .iload_n 3, 1, 0, 0),
  (110, .if_icmp .le 8, 3, 118, 0), (113, .iload 6, 2, 0, 0), (115, .goto 4, 3, 119, 0), (118, .iload_n 3, 1, 0, 0), (119, .istore_n 3, 1, 0, 0), (120, .iinc 4 1, 3, 1, 0), (123, .goto (-111), 3, 12, 0), (126, .iload_n 3, 1, 0, 0),
  (127, .iload_n 2, 1, 0, 0), (128, .isub, 1, 0, 0), (129, .iconst 1, 1, 1, 0), (130, .iadd, 1, 0, 0), (131, .ireturn, 1, 0, 0)]
def co_X11_layJourneys : List mz_I := [(0, .aload_n 0, 1, 0, 0), (1, .iload_n 1, 1, 0, 0), (2, .invokevirtual 127, 3, 136, 0), (5, .aload_n 0, 1, 0, 0), (6, .iconst 0, 1, 0, 0), (7, .putfield 131, 3, 11, 15), (10, .iconst 0, 1, 0, 0), (11, .istore_n 2, 1, 0, 0),
  (12, .iload_n 2, 1, 0, 0), (13, .aload_n 0, 1, 0, 0), (14, .getfield 111, 3, 11, 10), (17, .if_icmp .ge 89, 3, 106, 0), (20, .aload_n 0, 1, 0, 0), (21, .iload_n 2, 1, 0, 0), (22, .invokevirtual 134, 3, 137, 0), (25, .ifCond .eq 35, 3, 60, 0),
  (28, .aload_n 0, 1, 0, 0), (29, .getfield 38, 3, 11, 9), (32, .iload_n 2, 1, 0, 0), (33, .aload_n 0, 1, 0, 0), (34, .getfield 38, 3, 11, 9), (37, .iload_n 2, 1, 0, 0), (38, .iconst 1, 1, 1, 0), (39, .isub, 1, 0, 0),
  (40, .iaload, 1, 0, 0), (41, .iastore, 1, 0, 0), (42, .aload_n 0, 1, 0, 0), (43, .getfield 44, 3, 11, 12), (46, .aload_n 0, 1, 0, 0), (47, .getfield 38, 3, 11, 9), (50, .iload_n 2, 1, 0, 0), (51, .iaload, 1, 0, 0),
  (52, .dup2, 1, 0, 0), (53, .iaload, 1, 0, 0), (54, .iconst 1, 1, 1, 0), (55, .iadd, 1, 0, 0), (56, .iastore, 1, 0, 0), (57, .goto 43, 3, 100, 0), (60, .aload_n 0, 1, 0, 0), (61, .getfield 38, 3, 11, 9),
  (64, .iload_n 2, 1, 0, 0), (65, .aload_n 0, 1, 0, 0), (66, .getfield 131, 3, 11, 15), (69, .iastore, 1, 0, 0), (70, .aload_n 0, 1, 0, 0), (71, .getfield 41, 3, 11, 11), (74, .aload_n 0, 1, 0, 0), (75, .getfield 131, 3, 11, 15),
  (78, .iload_n 2, 1, 0, 0), (79, .iastore, 1, 0, 0), (80, .aload_n 0, 1, 0, 0), (81, .getfield 44, 3, 11, 12), (84, .aload_n 0, 1, 0, 0), (85, .getfield 131, 3, 11, 15), (88, .iconst 1, 1, 1, 0), (89, .iastore, 1, 0, 0),
  (90, .aload_n 0, 1, 0, 0), (91, .dup, 1, 0, 0), (92, .getfield 131, 3, 11, 15), (95, .iconst 1, 1, 1, 0), (96, .iadd, 1, 0, 0), (97, .putfield 131, 3, 11, 15), (100, .iinc 2 1, 3, 1, 0), (103, .goto (-91), 3, 12, 0),
  (106, .iconst 0, 1, 0, 0), (107, .istore_n 2, 1, 0, 0), (108, .iload_n 2, 1, 0, 0), (109, .aload_n 0, 1, 0, 0), (110, .getfield 131, 3, 11, 15), (113, .if_icmp .ge 73, 3, 186, 0), (116, .aload_n 0, 1, 0, 0), (117, .getfield 47, 3, 11, 13),
  (120, .iload_n 2, 1, 0, 0), (121, .aload_n 0, 1, 0, 0), (122, .iload_n 2, 1, 0, 0), (123, .invokevirtual 137, 3, 140, 0), (126, .iastore, 1, 0, 0), (127, .aload_n 0, 1, 0, 0), (128, .getfield 50, 3, 11, 14), (131, .iload_n 2, 1, 0, 0),
  (132, .aload_n 0, 1, 0, 0), (133, .getfield 7, 3, 11, 0), (136, .sipush 396, 3, 396, 0), (139, .aload_n 0, 1, 0, 0), (140, .getfield 47, 3, 11, 13), (143, .iload_n 2, 1, 0, 0), (144, .iaload, 1, 0, 0), (145, .iadd, 1, 0, 0),
  (146, .iconst 1, 1, 1, 0), (147, .isub, 1, 0, 0), (148, .iaload, 1, 0, 0), (149, .aload_n 0, 1, 0, 0), (150, .getfield 29, 3, 11, 6), (153, .aload_n 0, 1, 0, 0), (154, .getfield 41, 3, 11, 11), (157, .iload_n 2, 1, 0, 0),
  (158, .iaload, 1, 0, 0), (159, .iaload, 1, 0, 0), (160, .invokestatic 140, 3, 138, 2), (163, .ifCond .eq 14, 3, 177, 0), (166, .aload_n 0, 1, 0, 0), (167, .getfield 7, 3, 11, 0), (170, .sipush 411, 3, 411, 0), (173, .iaload, 1, 0, 0),
  (174, .goto 4, 3, 178, 0), (177, .iconst 0, 1, 0, 0), (178, .iadd, 1, 0, 0), (179, .iastore, 1, 0, 0), (180, .iinc 2 1, 3, 1, 0), (183, .goto (-75), 3, 108, 0), (186, .return_, 1, 0, 0)]
def co_X11_ride : List mz_I := [(0, .iload_n 1, 1, 0, 0), (1, .invokestatic 83, 3, 119, 2), (4, .ifCond .ne 5, 3, 9, 0), (7, .iconst (-1), 1, 4294967295, 0), (8, .ireturn, 1, 0, 0), (9, .iload_n 2, 1, 0, 0), (10, .iconst (-1), 1, 4294967295, 0), (11, .if_icmp .lt 12, 3, 23, 0),
  (14, .iload_n 3, 1, 0, 0), (15, .iconst 0, 1, 0, 0), (16, .iconst 4, 1, 4, 0), (17, .invokestatic 71, 3, 118, 2), (20, .ifCond .ne 6, 3, 26, 0), (23, .bipush (-2), 2, 4294967294, 0), (25, .ireturn, 1, 0, 0), (26, .aload_n 0, 1, 0, 0),
  (27, .iload_n 1, 1, 0, 0), (28, .invokevirtual 143, 3, 141, 0), (31, .iload_n 2, 1, 0, 0), (32, .iconst (-1), 1, 4294967295, 0), (33, .if_icmp .ne 8, 3, 41, 0), (36, .aload_n 0, 1, 0, 0), (37, .getfield 111, 3, 11, 10), (40, .ireturn, 1, 0, 0),
  (41, .iload_n 2, 1, 0, 0), (42, .aload_n 0, 1, 0, 0), (43, .getfield 111, 3, 11, 10), (46, .if_icmp .lt 6, 3, 52, 0), (49, .bipush (-6), 2, 4294967290, 0), (51, .ireturn, 1, 0, 0), (52, .iload_n 3, 1, 0, 0), (53, .ifCond .ne 12, 3, 65, 0),
  (56, .aload_n 0, 1, 0, 0), (57, .getfield 23, 3, 11, 4), (60, .iload_n 2, 1, 0, 0), (61, .iaload, 1, 0, 0), (62, .goto 59, 3, 121, 0), (65, .iload_n 3, 1, 0, 0), (66, .iconst 1, 1, 1, 0), (67, .if_icmp .ne 12, 3, 79, 0),
  (70, .aload_n 0, 1, 0, 0), (71, .getfield 26, 3, 11, 5), (74, .iload_n 2, 1, 0, 0), (75, .iaload, 1, 0, 0), (76, .goto 45, 3, 121, 0), (79, .iload_n 3, 1, 0, 0), (80, .iconst 2, 1, 2, 0), (81, .if_icmp .ne 12, 3, 93, 0),
  (84, .aload_n 0, 1, 0, 0), (85, .getfield 20, 3, 11, 3), (88, .iload_n 2, 1, 0, 0), (89, .iaload, 1, 0, 0), (90, .goto 31, 3, 121, 0), (93, .iload_n 3, 1, 0, 0), (94, .iconst 3, 1, 3, 0), (95, .if_icmp .ne 20, 3, 115, 0),
  (98, .aload_n 0, 1, 0, 0), (99, .getfield 35, 3, 11, 8), (102, .iload_n 2, 1, 0, 0), (103, .baload, 1, 0, 0), (104, .ifCond .eq 7, 3, 111, 0), (107, .iconst 1, 1, 1, 0), (108, .goto 13, 3, 121, 0), (111, .iconst 0, 1, 0, 0),
  (112, .goto 9, 3, 121, 0), (115, .aload_n 0, 1, 0, 0), (116, .getfield 38, 3, 11, 9), (119, .iload_n 2, 1, 0, 0), (120, .iaload, 1, 0, 0), (121, .ireturn, 1, 0, 0)]
def co_X11_journey : List mz_I := [(0, .iload_n 1, 1, 0, 0), (1, .invokestatic 83, 3, 119, 2), (4, .ifCond .ne 5, 3, 9, 0), (7, .iconst (-1), 1, 4294967295, 0), (8, .ireturn, 1, 0, 0), (9, .iload_n 2, 1, 0, 0), (10, .iconst (-1), 1, 4294967295, 0), (11, .if_icmp .lt 12, 3, 23, 0),
  (14, .iload_n 3, 1, 0, 0), (15, .iconst 0, 1, 0, 0), (16, .iconst 4, 1, 4, 0), (17, .invokestatic 71, 3, 118, 2), (20, .ifCond .ne 6, 3, 26, 0), (23, .bipush (-2), 2, 4294967294, 0), (25, .ireturn, 1, 0, 0), (26, .aload_n 0, 1, 0, 0),
  (27, .iload_n 1, 1, 0, 0), (28, .invokevirtual 143, 3, 141, 0), (31, .iload_n 2, 1, 0, 0), (32, .iconst (-1), 1, 4294967295, 0), (33, .if_icmp .ne 8, 3, 41, 0), (36, .aload_n 0, 1, 0, 0), (37, .getfield 131, 3, 11, 15), (40, .ireturn, 1, 0, 0),
  (41, .iload_n 2, 1, 0, 0), (42, .aload_n 0, 1, 0, 0), (43, .getfield 131, 3, 11, 15), (46, .if_icmp .lt 6, 3, 52, 0), (49, .bipush (-6), 2, 4294967290, 0), (51, .ireturn, 1, 0, 0), (52, .aload_n 0, 1, 0, 0), (53, .getfield 29, 3, 11, 6),
  (56, .aload_n 0, 1, 0, 0), (57, .getfield 41, 3, 11, 11), (60, .iload_n 2, 1, 0, 0), (61, .iaload, 1, 0, 0), (62, .iaload, 1, 0, 0), (63, .istore 4, 2, 0, 0), (65, .iload_n 3, 1, 0, 0), (66, .ifCond .ne 12, 3, 78, 0),
  (69, .iload 4, 2, 0, 0), (71, .sipush 1440, 3, 1440, 0), (74, .idiv, 1, 0, 0), (75, .goto 58, 3, 133, 0), (78, .iload_n 3, 1, 0, 0), (79, .iconst 1, 1, 1, 0), (80, .if_icmp .ne 12, 3, 92, 0), (83, .aload_n 0, 1, 0, 0),
  (84, .getfield 44, 3, 11, 12), (87, .iload_n 2, 1, 0, 0), (88, .iaload, 1, 0, 0), (89, .goto 44, 3, 133, 0), (92, .iload_n 3, 1, 0, 0), (93, .iconst 2, 1, 2, 0), (94, .if_icmp .ne 12, 3, 106, 0), (97, .aload_n 0, 1, 0, 0),
  (98, .getfield 47, 3, 11, 13), (101, .iload_n 2, 1, 0, 0), (102, .iaload, 1, 0, 0), (103, .goto 30, 3, 133, 0), (106, .iload_n 3, 1, 0, 0), (107, .iconst 3, 1, 3, 0), (108, .if_icmp .ne 12, 3, 120, 0), (111, .aload_n 0, 1, 0, 0),
  (112, .getfield 50, 3, 11, 14), (115, .iload_n 2, 1, 0, 0), (116, .iaload, 1, 0, 0), (117, .goto 16, 3, 133, 0), (120, .iload 4, 2, 0, 0), (122, .invokestatic 140, 3, 138, 2), (125, .ifCond .eq 7, 3, 132, 0), (128, .iconst 1, 1, 1, 0),
  (129, .goto 4, 3, 133, 0), (132, .iconst 0, 1, 0, 0), (133, .ireturn, 1, 0, 0)]
def co_X11_weekAt : List mz_I := [(0, .iconst 0, 1, 0, 0), (1, .istore_n 2, 1, 0, 0), (2, .iload_n 1, 1, 0, 0), (3, .istore_n 3, 1, 0, 0), (4, .iload_n 3, 1, 0, 0), (5, .iload_n 1, 1, 0, 0), (6, .bipush 7, 2, 7, 0), (8, .iadd, 1, 0, 0),
  (9, .if_icmp .ge 30, 3, 39, 0), (12, .aload_n 0, 1, 0, 0), (13, .getfield 56, 3, 11, 17), (16, .iload_n 3, 1, 0, 0), (17, .iaload, 1, 0, 0), (18, .iload_n 2, 1, 0, 0), (19, .if_icmp .le 12, 3, 31, 0), (22, .aload_n 0, 1, 0, 0),
  (23, .getfield 56, 3, 11, 17), (26, .iload_n 3, 1, 0, 0), (27, .iaload, 1, 0, 0), (28, .goto 4, 3, 32, 0), (31, .iload_n 2, 1, 0, 0), (32, .istore_n 2, 1, 0, 0), (33, .iinc 3 1, 3, 1, 0), (36, .goto (-32), 3, 4, 0),
  (39, .iload_n 2, 1, 0, 0), (40, .ifCond .ne 7, 3, 47, 0), (43, .iconst 0, 1, 0, 0), (44, .goto 15, 3, 59, 0), (47, .aload_n 0, 1, 0, 0), (48, .getfield 7, 3, 11, 0), (51, .sipush 406, 3, 406, 0), (54, .iload_n 2, 1, 0, 0),
  (55, .iadd, 1, 0, 0), (56, .iconst 1, 1, 1, 0), (57, .isub, 1, 0, 0), (58, .iaload, 1, 0, 0), (59, .ireturn, 1, 0, 0)]
def co_X11_layDays : List mz_I := [(0, .aload_n 0, 1, 0, 0), (1, .iload_n 1, 1, 0, 0), (2, .invokevirtual 143, 3, 141, 0), (5, .iconst 0, 1, 0, 0), (6, .istore_n 2, 1, 0, 0), (7, .iload_n 2, 1, 0, 0), (8, .bipush 28, 2, 28, 0), (10, .if_icmp .ge 23, 3, 33, 0),
  (13, .aload_n 0, 1, 0, 0), (14, .getfield 53, 3, 11, 16), (17, .iload_n 2, 1, 0, 0), (18, .iconst 0, 1, 0, 0), (19, .iastore, 1, 0, 0), (20, .aload_n 0, 1, 0, 0), (21, .getfield 56, 3, 11, 17), (24, .iload_n 2, 1, 0, 0),
  (25, .iconst 0, 1, 0, 0), (26, .iastore, 1, 0, 0), (27, .iinc 2 1, 3, 1, 0), (30, .goto (-23), 3, 7, 0), (33, .iconst 0, 1, 0, 0), (34, .istore_n 2, 1, 0, 0), (35, .iload_n 2, 1, 0, 0), (36, .aload_n 0, 1, 0, 0),
  (37, .getfield 131, 3, 11, 15), (40, .if_icmp .ge 76, 3, 116, 0), (43, .aload_n 0, 1, 0, 0), (44, .getfield 29, 3, 11, 6), (47, .aload_n 0, 1, 0, 0), (48, .getfield 41, 3, 11, 11), (51, .iload_n 2, 1, 0, 0), (52, .iaload, 1, 0, 0),
  (53, .iaload, 1, 0, 0), (54, .sipush 1440, 3, 1440, 0), (57, .idiv, 1, 0, 0), (58, .istore_n 3, 1, 0, 0), (59, .aload_n 0, 1, 0, 0), (60, .getfield 53, 3, 11, 16), (63, .iload_n 3, 1, 0, 0), (64, .dup2, 1, 0, 0),
  (65, .iaload, 1, 0, 0), (66, .aload_n 0, 1, 0, 0), (67, .getfield 50, 3, 11, 14), (70, .iload_n 2, 1, 0, 0), (71, .iaload, 1, 0, 0), (72, .iadd, 1, 0, 0), (73, .iastore, 1, 0, 0), (74, .aload_n 0, 1, 0, 0),
  (75, .getfield 56, 3, 11, 17), (78, .iload_n 3, 1, 0, 0), (79, .aload_n 0, 1, 0, 0), (80, .getfield 47, 3, 11, 13), (83, .iload_n 2, 1, 0, 0), (84, .iaload, 1, 0, 0), (85, .aload_n 0, 1, 0, 0), (86, .getfield 56, 3, 11, 17),
  (89, .iload_n 3, 1, 0, 0), (90, .iaload, 1, 0, 0), (91, .if_icmp .le 12, 3, 103, 0), (94, .aload_n 0, 1, 0, 0), (95, .getfield 47, 3, 11, 13), (98, .iload_n 2, 1, 0, 0), (99, .iaload, 1, 0, 0), (100, .goto 9, 3, 109, 0),
  (103, .aload_n 0, 1, 0, 0), (104, .getfield 56, 3, 11, 17), (107, .iload_n 3, 1, 0, 0), (108, .iaload, 1, 0, 0), (109, .iastore, 1, 0, 0), (110, .iinc 2 1, 3, 1, 0), (113, .goto (-78), 3, 35, 0), (116, .iconst 0, 1, 0, 0),
  (117, .istore_n 2, 1, 0, 0), (118, .iload_n 2, 1, 0, 0), (119, .bipush 28, 2, 28, 0), (121, .if_icmp .ge 66, 3, 187, 0), (124, .aload_n 0, 1, 0, 0), (125, .getfield 56, 3, 11, 17), (128, .iload_n 2, 1, 0, 0), (129, .iaload, 1, 0, 0),
  (130, .ifCond .ne 7, 3, 137, 0), (133, .iconst 0, 1, 0, 0), (134, .goto 20, 3, 154, 0), (137, .aload_n 0, 1, 0, 0), (138, .getfield 7, 3, 11, 0), (141, .sipush 401, 3, 401, 0), (144, .aload_n 0, 1, 0, 0), (145, .getfield 56, 3, 11, 17),
  (148, .iload_n 2, 1, 0, 0), (149, .iaload, 1, 0, 0), (150, .iadd, 1, 0, 0), (151, .iconst 1, 1, 1, 0), (152, .isub, 1, 0, 0), (153, .iaload, 1, 0, 0), (154, .istore_n 3, 1, 0, 0), (155, .aload_n 0, 1, 0, 0),
  (156, .getfield 59, 3, 11, 18), (159, .iload_n 2, 1, 0, 0), (160, .iload_n 3, 1, 0, 0), (161, .aload_n 0, 1, 0, 0), (162, .getfield 53, 3, 11, 16), (165, .iload_n 2, 1, 0, 0), (166, .iaload, 1, 0, 0), (167, .if_icmp .ge 7, 3, 174, 0),
  (170, .iload_n 3, 1, 0, 0), (171, .goto 9, 3, 180, 0), (174, .aload_n 0, 1, 0, 0), (175, .getfield 53, 3, 11, 16), (178, .iload_n 2, 1, 0, 0), (179, .iaload, 1, 0, 0), (180, .iastore, 1, 0, 0), (181, .iinc 2 1, 3, 1, 0),
  (184, .goto (-66), 3, 118, 0), (187, .aload_n 0, 1, 0, 0), (188, .getfield 62, 3, 11, 19), (191, .bipush 28, 2, 28, 0), (193, .iconst 0, 1, 0, 0), (194, .iastore, 1, 0, 0), (195, .aload_n 0, 1, 0, 0), (196, .getfield 65, 3, 11, 20),
  (199, .bipush 28, 2, 28, 0), (201, .iconst 0, 1, 0, 0), (202, .iastore, 1, 0, 0), (203, .bipush 27, 2, 27, 0), (205, .istore_n 2, 1, 0, 0), (206, .iload_n 2, 1, 0, 0), (207, .ifCond .lt 139, 3, 346, 0), (210, .aload_n 0, 1, 0, 0),
  (211, .getfield 62, 3, 11, 19), (214, .iload_n 2, 1, 0, 0), (215, .aload_n 0, 1, 0, 0), (216, .getfield 59, 3, 11, 18), (219, .iload_n 2, 1, 0, 0), (220, .iaload, 1, 0, 0), (221, .aload_n 0, 1, 0, 0), (222, .getfield 62, 3, 11, 19),
  (225, .iload_n 2, 1, 0, 0), (226, .iconst 1, 1, 1, 0), (227, .iadd, 1, 0, 0), (228, .iaload, 1, 0, 0), (229, .iadd, 1, 0, 0), (230, .iastore, 1, 0, 0), (231, .aload_n 0, 1, 0, 0), (232, .getfield 65, 3, 11, 20),
  (235, .iload_n 2, 1, 0, 0), (236, .aload_n 0, 1, 0, 0), (237, .getfield 65, 3, 11, 20), (240, .iload_n 2, 1, 0, 0), (241, .iconst 1, 1, 1, 0), (242, .iadd, 1, 0, 0), (243, .iaload, 1, 0, 0), (244, .iastore, 1, 0, 0),
  (245, .aload_n 0, 1, 0, 0), (246, .getfield 68, 3, 11, 21), (249, .iload_n 2, 1, 0, 0), (250, .iconst 0, 1, 0, 0), (251, .bastore, 1, 0, 0), (252, .iload_n 2, 1, 0, 0), (253, .bipush 21, 2, 21, 0), (255, .if_icmp .gt 85, 3, 340, 0),
  (258, .aload_n 0, 1, 0, 0), (259, .iload_n 2, 1, 0, 0), (260, .invokevirtual 146, 3, 144, 0), (263, .aload_n 0, 1, 0, 0), (264, .getfield 62, 3, 11, 19), (267, .iload_n 2, 1, 0, 0), (268, .bipush 7, 2, 7, 0), (270, .iadd, 1, 0, 0),
  (271, .iaload, 1, 0, 0), (272, .iadd, 1, 0, 0), (273, .istore_n 3, 1, 0, 0), (274, .iconst 1, 1, 1, 0), (275, .aload_n 0, 1, 0, 0), (276, .getfield 65, 3, 11, 20), (279, .iload_n 2, 1, 0, 0), (280, .bipush 7, 2, 7, 0),
  (282, .iadd, 1, 0, 0), (283, .iaload, 1, 0, 0), (284, .iadd, 1, 0, 0), (285, .istore 4, 2, 0, 0), (287, .iload_n 3, 1, 0, 0), (288, .aload_n 0, 1, 0, 0), (289, .getfield 62, 3, 11, 19), (292, .iload_n 2, 1, 0, 0),
  (293, .iaload, 1, 0, 0), (294, .if_icmp .lt 24, 3, 318, 0), (297, .iload_n 3, 1, 0, 0), (298, .aload_n 0, 1, 0, 0), (299, .getfield 62, 3, 11, 19), (302, .iload_n 2, 1, 0, 0), (303, .iaload, 1, 0, 0), (304, .if_icmp .ne 36, 3, 340, 0),
  (307, .iload 4, 2, 0, 0), (309, .aload_n 0, 1, 0, 0), (310, .getfield 65, 3, 11, 20), (313, .iload_n 2, 1, 0, 0), (314, .iaload, 1, 0, 0), (315, .if_icmp .gt 25, 3, 340, 0), (318, .aload_n 0, 1, 0, 0), (319, .getfield 62, 3, 11, 19),
  (322, .iload_n 2, 1, 0, 0), (323, .iload_n 3, 1, 0, 0), (324, .iastore, 1, 0, 0), (325, .aload_n 0, 1, 0, 0), (326, .getfield 65, 3, 11, 20), (329, .iload_n 2, 1, 0, 0), (330, .iload 4, 2, 0, 0), (332, .iastore, 1, 0, 0),
  (333, .aload_n 0, 1, 0, 0), (334, .getfield 68, 3, 11, 21), (337, .iload_n 2, 1, 0, 0), (338, .iconst 1, 1, 1, 0), (339, .bastore, 1, 0, 0), (340, .iinc 2 (-1), 3, 4294967295, 0), (343, .goto (-137), 3, 206, 0), (346, .return_, 1, 0, 0)]
def co_X11_weekOf : List mz_I := [(0, .iconst 0, 1, 0, 0), (1, .istore_n 2, 1, 0, 0), (2, .iconst 0, 1, 0, 0), (3, .istore_n 3, 1, 0, 0), (4, .iload_n 3, 1, 0, 0), (5, .bipush 28, 2, 28, 0), (7, .if_icmp .ge 34, 3, 41, 0), (10, .aload_n 0, 1, 0, 0),
  (11, .getfield 68, 3, 11, 21), (14, .iload_n 3, 1, 0, 0), (15, .baload, 1, 0, 0), (16, .ifCond .eq 19, 3, 35, 0), (19, .iload_n 2, 1, 0, 0), (20, .iload_n 1, 1, 0, 0), (21, .if_icmp .ne 5, 3, 26, 0), (24, .iload_n 3, 1, 0, 0),
  (25, .ireturn, 1, 0, 0), (26, .iinc 2 1, 3, 1, 0), (29, .iinc 3 7, 3, 7, 0), (32, .goto (-28), 3, 4, 0), (35, .iinc 3 1, 3, 1, 0), (38, .goto (-34), 3, 4, 0), (41, .bipush (-6), 2, 4294967290, 0), (43, .ireturn, 1, 0, 0)]
def co_X11_isOfWeek : List mz_I := [(0, .iconst 0, 1, 0, 0), (1, .istore_n 2, 1, 0, 0), (2, .iconst 0, 1, 0, 0), (3, .istore_n 3, 1, 0, 0), (4, .iload_n 3, 1, 0, 0), (5, .iconst 4, 1, 4, 0), (6, .if_icmp .ge 45, 3, 51, 0), (9, .aload_n 0, 1, 0, 0),
  (10, .iload_n 3, 1, 0, 0), (11, .invokevirtual 149, 3, 146, 0), (14, .istore 4, 2, 0, 0), (16, .iload_n 2, 1, 0, 0), (17, .ifCond .ne 22, 3, 39, 0), (20, .iload 4, 2, 0, 0), (22, .ifCond .lt 21, 3, 43, 0), (25, .iload_n 1, 1, 0, 0),
  (26, .iload 4, 2, 0, 0), (28, .iload 4, 2, 0, 0), (30, .bipush 6, 2, 6, 0), (32, .iadd, 1, 0, 0), (33, .invokestatic 71, 3, 118, 2), (36, .ifCond .eq 7, 3, 43, 0), (39, .iconst 1, 1, 1, 0), (40, .goto 4, 3, 44, 0),
  (43, .iconst 0, 1, 0, 0), (44, .istore_n 2, 1, 0, 0), (45, .iinc 3 1, 3, 1, 0), (48, .goto (-44), 3, 4, 0), (51, .iload_n 2, 1, 0, 0), (52, .ireturn, 1, 0, 0)]
def co_X11_day : List mz_I := [(0, .iload_n 1, 1, 0, 0), (1, .invokestatic 83, 3, 119, 2), (4, .ifCond .ne 5, 3, 9, 0), (7, .iconst (-1), 1, 4294967295, 0), (8, .ireturn, 1, 0, 0), (9, .iload_n 2, 1, 0, 0), (10, .invokestatic 86, 3, 121, 2), (13, .ifCond .eq 12, 3, 25, 0),
  (16, .iload_n 3, 1, 0, 0), (17, .iconst 0, 1, 0, 0), (18, .iconst 3, 1, 3, 0), (19, .invokestatic 71, 3, 118, 2), (22, .ifCond .ne 6, 3, 28, 0), (25, .bipush (-2), 2, 4294967294, 0), (27, .ireturn, 1, 0, 0), (28, .aload_n 0, 1, 0, 0),
  (29, .iload_n 1, 1, 0, 0), (30, .invokevirtual 152, 3, 145, 0), (33, .iload_n 3, 1, 0, 0), (34, .ifCond .ne 12, 3, 46, 0), (37, .aload_n 0, 1, 0, 0), (38, .getfield 53, 3, 11, 16), (41, .iload_n 2, 1, 0, 0), (42, .iaload, 1, 0, 0),
  (43, .goto 44, 3, 87, 0), (46, .iload_n 3, 1, 0, 0), (47, .iconst 1, 1, 1, 0), (48, .if_icmp .ne 12, 3, 60, 0), (51, .aload_n 0, 1, 0, 0), (52, .getfield 56, 3, 11, 17), (55, .iload_n 2, 1, 0, 0), (56, .iaload, 1, 0, 0),
  (57, .goto 30, 3, 87, 0), (60, .iload_n 3, 1, 0, 0), (61, .iconst 2, 1, 2, 0), (62, .if_icmp .ne 12, 3, 74, 0), (65, .aload_n 0, 1, 0, 0), (66, .getfield 59, 3, 11, 18), (69, .iload_n 2, 1, 0, 0), (70, .iaload, 1, 0, 0),
  (71, .goto 16, 3, 87, 0), (74, .aload_n 0, 1, 0, 0), (75, .iload_n 2, 1, 0, 0), (76, .invokevirtual 155, 3, 147, 0), (79, .ifCond .eq 7, 3, 86, 0), (82, .iconst 1, 1, 1, 0), (83, .goto 4, 3, 87, 0), (86, .iconst 0, 1, 0, 0),
  (87, .ireturn, 1, 0, 0)]
def co_X11_best : List mz_I := [(0, .iload_n 1, 1, 0, 0), (1, .invokestatic 83, 3, 119, 2), (4, .ifCond .ne 5, 3, 9, 0), (7, .iconst (-1), 1, 4294967295, 0), (8, .ireturn, 1, 0, 0), (9, .iload_n 2, 1, 0, 0), (10, .iconst 0, 1, 0, 0), (11, .iconst 1, 1, 1, 0),
  (12, .invokestatic 71, 3, 118, 2), (15, .ifCond .ne 17, 3, 32, 0), (18, .iload_n 2, 1, 0, 0), (19, .bipush 10, 2, 10, 0), (21, .bipush 13, 2, 13, 0), (23, .invokestatic 71, 3, 118, 2), (26, .ifCond .ne 6, 3, 32, 0), (29, .bipush (-2), 2, 4294967294, 0),
  (31, .ireturn, 1, 0, 0), (32, .aload_n 0, 1, 0, 0), (33, .iload_n 1, 1, 0, 0), (34, .invokevirtual 152, 3, 145, 0), (37, .iload_n 2, 1, 0, 0), (38, .ifCond .ne 12, 3, 50, 0), (41, .aload_n 0, 1, 0, 0), (42, .getfield 62, 3, 11, 19),
  (45, .iconst 0, 1, 0, 0), (46, .iaload, 1, 0, 0), (47, .goto 25, 3, 72, 0), (50, .iload_n 2, 1, 0, 0), (51, .iconst 1, 1, 1, 0), (52, .if_icmp .ne 12, 3, 64, 0), (55, .aload_n 0, 1, 0, 0), (56, .getfield 65, 3, 11, 20),
  (59, .iconst 0, 1, 0, 0), (60, .iaload, 1, 0, 0), (61, .goto 11, 3, 72, 0), (64, .aload_n 0, 1, 0, 0), (65, .iload_n 2, 1, 0, 0), (66, .bipush 10, 2, 10, 0), (68, .isub, 1, 0, 0), (69, .invokevirtual 149, 3, 146, 0),
  (72, .ireturn, 1, 0, 0)]
def co_X11_saved : List mz_I := [(0, .iload_n 1, 1, 0, 0), (1, .invokestatic 83, 3, 119, 2), (4, .ifCond .ne 5, 3, 9, 0), (7, .iconst (-1), 1, 4294967295, 0), (8, .ireturn, 1, 0, 0), (9, .iload_n 2, 1, 0, 0), (10, .iconst 0, 1, 0, 0), (11, .iconst 1, 1, 1, 0),
  (12, .invokestatic 71, 3, 118, 2), (15, .ifCond .ne 6, 3, 21, 0), (18, .bipush (-2), 2, 4294967294, 0), (20, .ireturn, 1, 0, 0), (21, .aload_n 0, 1, 0, 0), (22, .iload_n 1, 1, 0, 0), (23, .invokevirtual 152, 3, 145, 0), (26, .iconst 0, 1, 0, 0),
  (27, .istore_n 3, 1, 0, 0), (28, .iconst 0, 1, 0, 0), (29, .istore 4, 2, 0, 0), (31, .iconst 0, 1, 0, 0), (32, .istore 5, 2, 0, 0), (34, .iload 5, 2, 0, 0), (36, .bipush 28, 2, 28, 0), (38, .if_icmp .ge 31, 3, 69, 0),
  (41, .iload 4, 2, 0, 0), (43, .aload_n 0, 1, 0, 0), (44, .getfield 53, 3, 11, 16), (47, .iload 5, 2, 0, 0), (49, .iaload, 1, 0, 0), (50, .iadd, 1, 0, 0), (51, .istore 4, 2, 0, 0), (53, .iload_n 3, 1, 0, 0),
  (54, .aload_n 0, 1, 0, 0), (55, .getfield 59, 3, 11, 18), (58, .iload 5, 2, 0, 0), (60, .iaload, 1, 0, 0), (61, .iadd, 1, 0, 0), (62, .istore_n 3, 1, 0, 0), (63, .iinc 5 1, 3, 1, 0), (66, .goto (-32), 3, 34, 0),
  (69, .iload_n 2, 1, 0, 0), (70, .ifCond .ne 10, 3, 80, 0), (73, .iload 4, 2, 0, 0), (75, .iload_n 3, 1, 0, 0), (76, .isub, 1, 0, 0), (77, .goto 11, 3, 88, 0), (80, .iload_n 3, 1, 0, 0), (81, .aload_n 0, 1, 0, 0),
  (82, .getfield 62, 3, 11, 19), (85, .iconst 0, 1, 0, 0), (86, .iaload, 1, 0, 0), (87, .isub, 1, 0, 0), (88, .ireturn, 1, 0, 0)]
def co_X11_would : List mz_I := [(0, .aload_n 0, 1, 0, 0), (1, .iload_n 1, 1, 0, 0), (2, .iload_n 2, 1, 0, 0), (3, .iload_n 3, 1, 0, 0), (4, .iload 4, 2, 0, 0), (6, .iload 5, 2, 0, 0), (8, .invokevirtual 92, 3, 128, 0), (11, .istore 6, 2, 0, 0),
  (13, .iload 6, 2, 0, 0), (15, .ifCond .eq 6, 3, 21, 0), (18, .iload 6, 2, 0, 0), (20, .ireturn, 1, 0, 0), (21, .aload_n 0, 1, 0, 0), (22, .iload_n 1, 1, 0, 0), (23, .invokevirtual 152, 3, 145, 0), (26, .aload_n 0, 1, 0, 0),
  (27, .getfield 62, 3, 11, 19), (30, .iconst 0, 1, 0, 0), (31, .iaload, 1, 0, 0), (32, .istore 7, 2, 0, 0), (34, .sipush 1440, 3, 1440, 0), (37, .iload_n 2, 1, 0, 0), (38, .imul, 1, 0, 0), (39, .iload_n 3, 1, 0, 0),
  (40, .iadd, 1, 0, 0), (41, .istore 8, 2, 0, 0), (43, .aload_n 0, 1, 0, 0), (44, .iload_n 1, 1, 0, 0), (45, .iload 8, 2, 0, 0), (47, .iconst 2, 1, 2, 0), (48, .iload 4, 2, 0, 0), (50, .imul, 1, 0, 0),
  (51, .iload 5, 2, 0, 0), (53, .iadd, 1, 0, 0), (54, .invokevirtual 96, 3, 129, 0), (57, .aload_n 0, 1, 0, 0), (58, .iload_n 1, 1, 0, 0), (59, .invokevirtual 152, 3, 145, 0), (62, .aload_n 0, 1, 0, 0), (63, .iload_n 1, 1, 0, 0),
  (64, .aload_n 0, 1, 0, 0), (65, .iload_n 1, 1, 0, 0), (66, .iload 8, 2, 0, 0), (68, .invokevirtual 89, 3, 127, 0), (71, .invokevirtual 100, 3, 130, 0), (74, .ldc 158, 2, 100000, 0), (76, .aload_n 0, 1, 0, 0), (77, .getfield 62, 3, 11, 19),
  (80, .iconst 0, 1, 0, 0), (81, .iaload, 1, 0, 0), (82, .iadd, 1, 0, 0), (83, .iload 7, 2, 0, 0), (85, .isub, 1, 0, 0), (86, .ireturn, 1, 0, 0)]
def co_X11_bar : List mz_I := [(0, .iload_n 1, 1, 0, 0), (1, .invokestatic 83, 3, 119, 2), (4, .ifCond .ne 5, 3, 9, 0), (7, .iconst (-1), 1, 4294967295, 0), (8, .ireturn, 1, 0, 0), (9, .iload_n 2, 1, 0, 0), (10, .iconst 0, 1, 0, 0), (11, .iconst 1, 1, 1, 0),
  (12, .invokestatic 71, 3, 118, 2), (15, .ifCond .ne 6, 3, 21, 0), (18, .bipush (-2), 2, 4294967294, 0), (20, .ireturn, 1, 0, 0), (21, .aload_n 0, 1, 0, 0), (22, .getfield 7, 3, 11, 0), (25, .sipush 413, 3, 413, 0), (28, .iaload, 1, 0, 0),
  (29, .iload_n 1, 1, 0, 0), (30, .ishr, 1, 0, 0), (31, .iconst 1, 1, 1, 0), (32, .iand, 1, 0, 0), (33, .iload_n 2, 1, 0, 0), (34, .if_icmp .eq 29, 3, 63, 0), (37, .aload_n 0, 1, 0, 0), (38, .getfield 7, 3, 11, 0),
  (41, .sipush 413, 3, 413, 0), (44, .dup2, 1, 0, 0), (45, .iaload, 1, 0, 0), (46, .iconst 1, 1, 1, 0), (47, .iload_n 1, 1, 0, 0), (48, .ishl, 1, 0, 0), (49, .ixor, 1, 0, 0), (50, .iastore, 1, 0, 0),
  (51, .aload_n 0, 1, 0, 0), (52, .getfield 7, 3, 11, 0), (55, .sipush 414, 3, 414, 0), (58, .dup2, 1, 0, 0), (59, .iaload, 1, 0, 0), (60, .iconst 1, 1, 1, 0), (61, .iadd, 1, 0, 0), (62, .iastore, 1, 0, 0),
  (63, .aload_n 0, 1, 0, 0), (64, .getfield 7, 3, 11, 0), (67, .sipush 414, 3, 414, 0), (70, .iaload, 1, 0, 0), (71, .ireturn, 1, 0, 0)]
def co_X11_hear : List mz_I := [(0, .iload_n 1, 1, 0, 0), (1, .iconst 0, 1, 0, 0), (2, .iconst 3, 1, 3, 0), (3, .invokestatic 71, 3, 118, 2), (6, .ifCond .ne 5, 3, 11, 0), (9, .iconst (-1), 1, 4294967295, 0), (10, .ireturn, 1, 0, 0), (11, .aload_n 0, 1, 0, 0),
  (12, .getfield 7, 3, 11, 0), (15, .sipush 414, 3, 414, 0), (18, .iaload, 1, 0, 0), (19, .aload_n 0, 1, 0, 0), (20, .getfield 7, 3, 11, 0), (23, .sipush 415, 3, 415, 0), (26, .iload_n 1, 1, 0, 0), (27, .iadd, 1, 0, 0),
  (28, .iaload, 1, 0, 0), (29, .isub, 1, 0, 0), (30, .istore_n 2, 1, 0, 0), (31, .aload_n 0, 1, 0, 0), (32, .getfield 7, 3, 11, 0), (35, .sipush 415, 3, 415, 0), (38, .iload_n 1, 1, 0, 0), (39, .iadd, 1, 0, 0),
  (40, .aload_n 0, 1, 0, 0), (41, .getfield 7, 3, 11, 0), (44, .sipush 414, 3, 414, 0), (47, .iaload, 1, 0, 0), (48, .iastore, 1, 0, 0), (49, .aload_n 0, 1, 0, 0), (50, .getfield 7, 3, 11, 0), (53, .sipush 419, 3, 419, 0),
  (56, .iload_n 1, 1, 0, 0), (57, .iadd, 1, 0, 0), (58, .aload_n 0, 1, 0, 0), (59, .getfield 7, 3, 11, 0), (62, .sipush 413, 3, 413, 0), (65, .iaload, 1, 0, 0), (66, .iastore, 1, 0, 0), (67, .iload_n 2, 1, 0, 0),
  (68, .ireturn, 1, 0, 0)]
def co_X11_pass : List mz_I := [(0, .iload_n 1, 1, 0, 0), (1, .iconst 0, 1, 0, 0), (2, .iconst 3, 1, 3, 0), (3, .invokestatic 71, 3, 118, 2), (6, .ifCond .eq 10, 3, 16, 0), (9, .iload_n 2, 1, 0, 0), (10, .invokestatic 83, 3, 119, 2), (13, .ifCond .ne 5, 3, 18, 0),
  (16, .iconst (-1), 1, 4294967295, 0), (17, .ireturn, 1, 0, 0), (18, .aload_n 0, 1, 0, 0), (19, .getfield 7, 3, 11, 0), (22, .sipush 419, 3, 419, 0), (25, .iload_n 1, 1, 0, 0), (26, .iadd, 1, 0, 0), (27, .iaload, 1, 0, 0),
  (28, .iload_n 2, 1, 0, 0), (29, .ishr, 1, 0, 0), (30, .iconst 1, 1, 1, 0), (31, .iand, 1, 0, 0), (32, .iconst 1, 1, 1, 0), (33, .if_icmp .ne 7, 3, 40, 0), (36, .iconst 0, 1, 0, 0), (37, .goto 4, 3, 41, 0),
  (40, .iconst 1, 1, 1, 0), (41, .ireturn, 1, 0, 0)]
def co_X11_image : List mz_I := [(0, .iload_n 1, 1, 0, 0), (1, .iconst 0, 1, 0, 0), (2, .iconst 1, 1, 1, 0), (3, .invokestatic 71, 3, 118, 2), (6, .ifCond .ne 6, 3, 12, 0), (9, .bipush (-2), 2, 4294967294, 0), (11, .ireturn, 1, 0, 0), (12, .iconst 0, 1, 0, 0),
  (13, .istore_n 2, 1, 0, 0), (14, .iload_n 2, 1, 0, 0), (15, .sipush 423, 3, 423, 0), (18, .if_icmp .ge 27, 3, 45, 0), (21, .aload_n 0, 1, 0, 0), (22, .getfield 13, 3, 11, 1), (25, .sipush 423, 3, 423, 0), (28, .iload_n 1, 1, 0, 0),
  (29, .imul, 1, 0, 0), (30, .iload_n 2, 1, 0, 0), (31, .iadd, 1, 0, 0), (32, .aload_n 0, 1, 0, 0), (33, .getfield 7, 3, 11, 0), (36, .iload_n 2, 1, 0, 0), (37, .iaload, 1, 0, 0), (38, .iastore, 1, 0, 0),
  (39, .iinc 2 1, 3, 1, 0), (42, .goto (-28), 3, 14, 0), (45, .aload_n 0, 1, 0, 0), (46, .getfield 16, 3, 11, 2), (49, .iload_n 1, 1, 0, 0), (50, .iconst 1, 1, 1, 0), (51, .bastore, 1, 0, 0), (52, .iconst 1, 1, 1, 0),
  (53, .ireturn, 1, 0, 0)]
def co_X11_restore : List mz_I := [(0, .iload_n 1, 1, 0, 0), (1, .iconst 0, 1, 0, 0), (2, .iconst 1, 1, 1, 0), (3, .invokestatic 71, 3, 118, 2), (6, .ifCond .ne 6, 3, 12, 0), (9, .bipush (-2), 2, 4294967294, 0), (11, .ireturn, 1, 0, 0), (12, .aload_n 0, 1, 0, 0),
  (13, .getfield 16, 3, 11, 2), (16, .iload_n 1, 1, 0, 0), (17, .baload, 1, 0, 0), (18, .ifCond .ne 6, 3, 24, 0), (21, .bipush (-3), 2, 4294967293, 0), (23, .ireturn, 1, 0, 0), (24, .iconst 0, 1, 0, 0), (25, .istore_n 2, 1, 0, 0),
  (26, .iload_n 2, 1, 0, 0), (27, .sipush 423, 3, 423, 0), (30, .if_icmp .ge 27, 3, 57, 0), (33, .aload_n 0, 1, 0, 0), (34, .getfield 7, 3, 11, 0), (37, .iload_n 2, 1, 0, 0), (38, .aload_n 0, 1, 0, 0), (39, .getfield 13, 3, 11, 1),
  (42, .sipush 423, 3, 423, 0), (45, .iload_n 1, 1, 0, 0), (46, .imul, 1, 0, 0), (47, .iload_n 2, 1, 0, 0), (48, .iadd, 1, 0, 0), (49, .iaload, 1, 0, 0), (50, .iastore, 1, 0, 0), (51, .iinc 2 1, 3, 1, 0),
  (54, .goto (-28), 3, 26, 0), (57, .iconst 1, 1, 1, 0), (58, .ireturn, 1, 0, 0)]
def co_X11_lagging : List mz_I := [(0, .iconst 0, 1, 0, 0), (1, .istore_n 1, 1, 0, 0), (2, .iconst 0, 1, 0, 0), (3, .istore_n 2, 1, 0, 0), (4, .iload_n 2, 1, 0, 0), (5, .iconst 4, 1, 4, 0), (6, .if_icmp .ge 38, 3, 44, 0), (9, .iload_n 1, 1, 0, 0),
  (10, .aload_n 0, 1, 0, 0), (11, .getfield 7, 3, 11, 0), (14, .sipush 415, 3, 415, 0), (17, .iload_n 2, 1, 0, 0), (18, .iadd, 1, 0, 0), (19, .iaload, 1, 0, 0), (20, .aload_n 0, 1, 0, 0), (21, .getfield 7, 3, 11, 0),
  (24, .sipush 414, 3, 414, 0), (27, .iaload, 1, 0, 0), (28, .if_icmp .ge 7, 3, 35, 0), (31, .iconst 1, 1, 1, 0), (32, .goto 4, 3, 36, 0), (35, .iconst 0, 1, 0, 0), (36, .iadd, 1, 0, 0), (37, .istore_n 1, 1, 0, 0),
  (38, .iinc 2 1, 3, 1, 0), (41, .goto (-37), 3, 4, 0), (44, .iload_n 1, 1, 0, 0), (45, .ireturn, 1, 0, 0)]
def co_X11_allBest : List mz_I := [(0, .iconst 0, 1, 0, 0), (1, .istore_n 1, 1, 0, 0), (2, .iconst 0, 1, 0, 0), (3, .istore_n 2, 1, 0, 0), (4, .iload_n 2, 1, 0, 0), (5, .iconst 4, 1, 4, 0), (6, .if_icmp .ge 23, 3, 29, 0), (9, .aload_n 0, 1, 0, 0),
  (10, .iload_n 2, 1, 0, 0), (11, .invokevirtual 152, 3, 145, 0), (14, .iload_n 1, 1, 0, 0), (15, .aload_n 0, 1, 0, 0), (16, .getfield 62, 3, 11, 19), (19, .iconst 0, 1, 0, 0), (20, .iaload, 1, 0, 0), (21, .iadd, 1, 0, 0),
  (22, .istore_n 1, 1, 0, 0), (23, .iinc 2 1, 3, 1, 0), (26, .goto (-22), 3, 4, 0), (29, .iload_n 1, 1, 0, 0), (30, .ireturn, 1, 0, 0)]
def co_X11_count : List mz_I := [(0, .iload_n 1, 1, 0, 0), (1, .invokestatic 83, 3, 119, 2), (4, .ifCond .eq 14, 3, 18, 0), (7, .aload_n 0, 1, 0, 0), (8, .getfield 7, 3, 11, 0), (11, .sipush 384, 3, 384, 0), (14, .iload_n 1, 1, 0, 0), (15, .iadd, 1, 0, 0),
  (16, .iaload, 1, 0, 0), (17, .ireturn, 1, 0, 0), (18, .iload_n 1, 1, 0, 0), (19, .bipush 10, 2, 10, 0), (21, .bipush 13, 2, 13, 0), (23, .invokestatic 71, 3, 118, 2), (26, .ifCond .eq 17, 3, 43, 0), (29, .aload_n 0, 1, 0, 0),
  (30, .getfield 7, 3, 11, 0), (33, .sipush 415, 3, 415, 0), (36, .iload_n 1, 1, 0, 0), (37, .iadd, 1, 0, 0), (38, .bipush 10, 2, 10, 0), (40, .isub, 1, 0, 0), (41, .iaload, 1, 0, 0), (42, .ireturn, 1, 0, 0),
  (43, .iload_n 1, 1, 0, 0), (44, .bipush 20, 2, 20, 0), (46, .bipush 27, 2, 27, 0), (48, .invokestatic 71, 3, 118, 2), (51, .ifCond .eq 17, 3, 68, 0), (54, .aload_n 0, 1, 0, 0), (55, .getfield 7, 3, 11, 0), (58, .sipush 388, 3, 388, 0),
  (61, .iload_n 1, 1, 0, 0), (62, .iadd, 1, 0, 0), (63, .bipush 20, 2, 20, 0), (65, .isub, 1, 0, 0), (66, .iaload, 1, 0, 0), (67, .ireturn, 1, 0, 0), (68, .iload_n 1, 1, 0, 0), (69, .tableswitch 93 4 8 #[35, 44, 53, 58, 63], 35, 0, 0),
  (104, .aload_n 0, 1, 0, 0), (105, .getfield 7, 3, 11, 0), (108, .sipush 414, 3, 414, 0), (111, .iaload, 1, 0, 0), (112, .ireturn, 1, 0, 0), (113, .aload_n 0, 1, 0, 0), (114, .getfield 7, 3, 11, 0), (117, .sipush 413, 3, 413, 0),
  (120, .iaload, 1, 0, 0), (121, .ireturn, 1, 0, 0), (122, .aload_n 0, 1, 0, 0), (123, .invokevirtual 159, 3, 157, 0), (126, .ireturn, 1, 0, 0), (127, .aload_n 0, 1, 0, 0), (128, .invokevirtual 163, 3, 158, 0), (131, .ireturn, 1, 0, 0),
  (132, .aload_n 0, 1, 0, 0), (133, .getfield 16, 3, 11, 2), (136, .iconst 0, 1, 0, 0), (137, .baload, 1, 0, 0), (138, .ifCond .eq 7, 3, 145, 0), (141, .iconst 1, 1, 1, 0), (142, .goto 4, 3, 146, 0), (145, .iconst 0, 1, 0, 0),
  (146, .aload_n 0, 1, 0, 0), (147, .getfield 16, 3, 11, 2), (150, .iconst 1, 1, 1, 0), (151, .baload, 1, 0, 0), (152, .ifCond .eq 7, 3, 159, 0), (155, .iconst 2, 1, 2, 0), (156, .goto 4, 3, 160, 0), (159, .iconst 0, 1, 0, 0),
  (160, .iadd, 1, 0, 0), (161, .ireturn, 1, 0, 0), (162, .bipush (-2), 2, 4294967294, 0), (164, .ireturn, 1, 0, 0)]
def co_law : List mz_I := [(0, .new 7, 3, 10, 0), (3, .dup, 1, 0, 0), (4, .invokespecial 9, 3, 81, 4), (7, .astore_n 1, 1, 0, 0), (8, .new 10, 3, 11, 0), (11, .dup, 1, 0, 0), (12, .invokespecial 12, 3, 117, 4), (15, .astore_n 2, 1, 0, 0),
  (16, .iconst 0, 1, 0, 0), (17, .istore_n 3, 1, 0, 0), (18, .iload_n 3, 1, 0, 0), (19, .aload_n 0, 1, 0, 0), (20, .arraylength, 1, 0, 0), (21, .bipush 6, 2, 6, 0), (23, .isub, 1, 0, 0), (24, .if_icmp .gt 739, 3, 763, 0),
  (27, .aload_n 0, 1, 0, 0), (28, .iload_n 3, 1, 0, 0), (29, .iaload, 1, 0, 0), (30, .bipush 31, 2, 31, 0), (32, .iand, 1, 0, 0), (33, .tableswitch 724 0 16 #[83, 116, 159, 222, 265, 308, 351, 394, 437, 470, 503, 566, 599, 622, 655, 678, 701], 83, 0, 0), (116, .aload_n 1, 1, 0, 0), (117, .aload_n 0, 1, 0, 0),
  (118, .iload_n 3, 1, 0, 0), (119, .iconst 1, 1, 1, 0), (120, .iadd, 1, 0, 0), (121, .iaload, 1, 0, 0), (122, .aload_n 0, 1, 0, 0), (123, .iload_n 3, 1, 0, 0), (124, .iconst 2, 1, 2, 0), (125, .iadd, 1, 0, 0),
  (126, .iaload, 1, 0, 0), (127, .invokevirtual 13, 3, 82, 0), (130, .aload_n 2, 1, 0, 0), (131, .aload_n 0, 1, 0, 0), (132, .iload_n 3, 1, 0, 0), (133, .iconst 1, 1, 1, 0), (134, .iadd, 1, 0, 0), (135, .iaload, 1, 0, 0),
  (136, .aload_n 0, 1, 0, 0), (137, .iload_n 3, 1, 0, 0), (138, .iconst 2, 1, 2, 0), (139, .iadd, 1, 0, 0), (140, .iaload, 1, 0, 0), (141, .invokevirtual 17, 3, 122, 0), (144, .if_icmp .eq 613, 3, 757, 0), (147, .iconst 0, 1, 0, 0),
  (148, .ireturn, 1, 0, 0), (149, .aload_n 1, 1, 0, 0), (150, .aload_n 0, 1, 0, 0), (151, .iload_n 3, 1, 0, 0), (152, .iconst 1, 1, 1, 0), (153, .iadd, 1, 0, 0), (154, .iaload, 1, 0, 0), (155, .aload_n 0, 1, 0, 0),
  (156, .iload_n 3, 1, 0, 0), (157, .iconst 2, 1, 2, 0), (158, .iadd, 1, 0, 0), (159, .iaload, 1, 0, 0), (160, .aload_n 0, 1, 0, 0), (161, .iload_n 3, 1, 0, 0), (162, .iconst 3, 1, 3, 0), (163, .iadd, 1, 0, 0),
  (164, .iaload, 1, 0, 0), (165, .invokevirtual 18, 3, 83, 0), (168, .aload_n 2, 1, 0, 0), (169, .aload_n 0, 1, 0, 0), (170, .iload_n 3, 1, 0, 0), (171, .iconst 1, 1, 1, 0), (172, .iadd, 1, 0, 0), (173, .iaload, 1, 0, 0),
  (174, .aload_n 0, 1, 0, 0), (175, .iload_n 3, 1, 0, 0), (176, .iconst 2, 1, 2, 0), (177, .iadd, 1, 0, 0), (178, .iaload, 1, 0, 0), (179, .aload_n 0, 1, 0, 0), (180, .iload_n 3, 1, 0, 0), (181, .iconst 3, 1, 3, 0),
  (182, .iadd, 1, 0, 0), (183, .iaload, 1, 0, 0), (184, .invokevirtual 22, 3, 123, 0), (187, .if_icmp .eq 570, 3, 757, 0), (190, .iconst 0, 1, 0, 0), (191, .ireturn, 1, 0, 0), (192, .aload_n 1, 1, 0, 0), (193, .aload_n 0, 1, 0, 0),
  (194, .iload_n 3, 1, 0, 0), (195, .iconst 1, 1, 1, 0), (196, .iadd, 1, 0, 0), (197, .iaload, 1, 0, 0), (198, .aload_n 0, 1, 0, 0), (199, .iload_n 3, 1, 0, 0), (200, .iconst 2, 1, 2, 0), (201, .iadd, 1, 0, 0),
  (202, .iaload, 1, 0, 0), (203, .aload_n 0, 1, 0, 0), (204, .iload_n 3, 1, 0, 0), (205, .iconst 3, 1, 3, 0), (206, .iadd, 1, 0, 0), (207, .iaload, 1, 0, 0), (208, .aload_n 0, 1, 0, 0), (209, .iload_n 3, 1, 0, 0),
  (210, .iconst 4, 1, 4, 0), (211, .iadd, 1, 0, 0), (212, .iaload, 1, 0, 0), (213, .aload_n 0, 1, 0, 0), (214, .iload_n 3, 1, 0, 0), (215, .iconst 5, 1, 5, 0), (216, .iadd, 1, 0, 0), (217, .iaload, 1, 0, 0),
  (218, .invokevirtual 23, 3, 84, 0), (221, .aload_n 2, 1, 0, 0), (222, .aload_n 0, 1, 0, 0), (223, .iload_n 3, 1, 0, 0), (224, .iconst 1, 1, 1, 0), (225, .iadd, 1, 0, 0), (226, .iaload, 1, 0, 0), (227, .aload_n 0, 1, 0, 0),
  (228, .iload_n 3, 1, 0, 0), (229, .iconst 2, 1, 2, 0), (230, .iadd, 1, 0, 0), (231, .iaload, 1, 0, 0), (232, .aload_n 0, 1, 0, 0), (233, .iload_n 3, 1, 0, 0), (234, .iconst 3, 1, 3, 0), (235, .iadd, 1, 0, 0),
  (236, .iaload, 1, 0, 0), (237, .aload_n 0, 1, 0, 0), (238, .iload_n 3, 1, 0, 0), (239, .iconst 4, 1, 4, 0), (240, .iadd, 1, 0, 0), (241, .iaload, 1, 0, 0), (242, .aload_n 0, 1, 0, 0), (243, .iload_n 3, 1, 0, 0),
  (244, .iconst 5, 1, 5, 0), (245, .iadd, 1, 0, 0), (246, .iaload, 1, 0, 0), (247, .invokevirtual 27, 3, 131, 0), (250, .if_icmp .eq 507, 3, 757, 0), (253, .iconst 0, 1, 0, 0), (254, .ireturn, 1, 0, 0), (255, .aload_n 1, 1, 0, 0),
  (256, .aload_n 0, 1, 0, 0), (257, .iload_n 3, 1, 0, 0), (258, .iconst 1, 1, 1, 0), (259, .iadd, 1, 0, 0), (260, .iaload, 1, 0, 0), (261, .aload_n 0, 1, 0, 0), (262, .iload_n 3, 1, 0, 0), (263, .iconst 2, 1, 2, 0),
  (264, .iadd, 1, 0, 0), (265, .iaload, 1, 0, 0), (266, .aload_n 0, 1, 0, 0), (267, .iload_n 3, 1, 0, 0), (268, .iconst 3, 1, 3, 0), (269, .iadd, 1, 0, 0), (270, .iaload, 1, 0, 0), (271, .invokevirtual 28, 3, 85, 0),
  (274, .aload_n 2, 1, 0, 0), (275, .aload_n 0, 1, 0, 0), (276, .iload_n 3, 1, 0, 0), (277, .iconst 1, 1, 1, 0), (278, .iadd, 1, 0, 0), (279, .iaload, 1, 0, 0), (280, .aload_n 0, 1, 0, 0), (281, .iload_n 3, 1, 0, 0),
  (282, .iconst 2, 1, 2, 0), (283, .iadd, 1, 0, 0), (284, .iaload, 1, 0, 0), (285, .aload_n 0, 1, 0, 0), (286, .iload_n 3, 1, 0, 0), (287, .iconst 3, 1, 3, 0), (288, .iadd, 1, 0, 0), (289, .iaload, 1, 0, 0),
  (290, .invokevirtual 31, 3, 132, 0), (293, .if_icmp .eq 464, 3, 757, 0), (296, .iconst 0, 1, 0, 0), (297, .ireturn, 1, 0, 0), (298, .aload_n 1, 1, 0, 0), (299, .aload_n 0, 1, 0, 0), (300, .iload_n 3, 1, 0, 0), (301, .iconst 1, 1, 1, 0),
  (302, .iadd, 1, 0, 0), (303, .iaload, 1, 0, 0), (304, .aload_n 0, 1, 0, 0), (305, .iload_n 3, 1, 0, 0), (306, .iconst 2, 1, 2, 0), (307, .iadd, 1, 0, 0), (308, .iaload, 1, 0, 0), (309, .aload_n 0, 1, 0, 0),
  (310, .iload_n 3, 1, 0, 0), (311, .iconst 3, 1, 3, 0), (312, .iadd, 1, 0, 0), (313, .iaload, 1, 0, 0), (314, .invokevirtual 32, 3, 86, 0), (317, .aload_n 2, 1, 0, 0), (318, .aload_n 0, 1, 0, 0), (319, .iload_n 3, 1, 0, 0),
  (320, .iconst 1, 1, 1, 0), (321, .iadd, 1, 0, 0), (322, .iaload, 1, 0, 0), (323, .aload_n 0, 1, 0, 0), (324, .iload_n 3, 1, 0, 0), (325, .iconst 2, 1, 2, 0), (326, .iadd, 1, 0, 0), (327, .iaload, 1, 0, 0),
  (328, .aload_n 0, 1, 0, 0), (329, .iload_n 3, 1, 0, 0), (330, .iconst 3, 1, 3, 0), (331, .iadd, 1, 0, 0), (332, .iaload, 1, 0, 0), (333, .invokevirtual 35, 3, 133, 0), (336, .if_icmp .eq 421, 3, 757, 0), (339, .iconst 0, 1, 0, 0),
  (340, .ireturn, 1, 0, 0), (341, .aload_n 1, 1, 0, 0), (342, .aload_n 0, 1, 0, 0), (343, .iload_n 3, 1, 0, 0), (344, .iconst 1, 1, 1, 0), (345, .iadd, 1, 0, 0), (346, .iaload, 1, 0, 0), (347, .aload_n 0, 1, 0, 0),
  (348, .iload_n 3, 1, 0, 0), (349, .iconst 2, 1, 2, 0), (350, .iadd, 1, 0, 0), (351, .iaload, 1, 0, 0), (352, .aload_n 0, 1, 0, 0), (353, .iload_n 3, 1, 0, 0), (354, .iconst 3, 1, 3, 0), (355, .iadd, 1, 0, 0),
  (356, .iaload, 1, 0, 0), (357, .invokevirtual 36, 3, 87, 0), (360, .aload_n 2, 1, 0, 0), (361, .aload_n 0, 1, 0, 0), (362, .iload_n 3, 1, 0, 0), (363, .iconst 1, 1, 1, 0), (364, .iadd, 1, 0, 0), (365, .iaload, 1, 0, 0),
  (366, .aload_n 0, 1, 0, 0), (367, .iload_n 3, 1, 0, 0), (368, .iconst 2, 1, 2, 0), (369, .iadd, 1, 0, 0), (370, .iaload, 1, 0, 0), (371, .aload_n 0, 1, 0, 0), (372, .iload_n 3, 1, 0, 0), (373, .iconst 3, 1, 3, 0),
  (374, .iadd, 1, 0, 0), (375, .iaload, 1, 0, 0), (376, .invokevirtual 39, 3, 142, 0), (379, .if_icmp .eq 378, 3, 757, 0), (382, .iconst 0, 1, 0, 0), (383, .ireturn, 1, 0, 0), (384, .aload_n 1, 1, 0, 0), (385, .aload_n 0, 1, 0, 0),
  (386, .iload_n 3, 1, 0, 0), (387, .iconst 1, 1, 1, 0), (388, .iadd, 1, 0, 0), (389, .iaload, 1, 0, 0), (390, .aload_n 0, 1, 0, 0), (391, .iload_n 3, 1, 0, 0), (392, .iconst 2, 1, 2, 0), (393, .iadd, 1, 0, 0),
  (394, .iaload, 1, 0, 0), (395, .aload_n 0, 1, 0, 0), (396, .iload_n 3, 1, 0, 0), (397, .iconst 3, 1, 3, 0), (398, .iadd, 1, 0, 0), (399, .iaload, 1, 0, 0), (400, .invokevirtual 40, 3, 88, 0), (403, .aload_n 2, 1, 0, 0),
  (404, .aload_n 0, 1, 0, 0), (405, .iload_n 3, 1, 0, 0), (406, .iconst 1, 1, 1, 0), (407, .iadd, 1, 0, 0), (408, .iaload, 1, 0, 0), (409, .aload_n 0, 1, 0, 0), (410, .iload_n 3, 1, 0, 0), (411, .iconst 2, 1, 2, 0),
  (412, .iadd, 1, 0, 0), (413, .iaload, 1, 0, 0), (414, .aload_n 0, 1, 0, 0), (415, .iload_n 3, 1, 0, 0), (416, .iconst 3, 1, 3, 0), (417, .iadd, 1, 0, 0), (418, .iaload, 1, 0, 0), (419, .invokevirtual 43, 3, 143, 0),
  (422, .if_icmp .eq 335, 3, 757, 0), (425, .iconst 0, 1, 0, 0), (426, .ireturn, 1, 0, 0), (427, .aload_n 1, 1, 0, 0), (428, .aload_n 0, 1, 0, 0), (429, .iload_n 3, 1, 0, 0), (430, .iconst 1, 1, 1, 0), (431, .iadd, 1, 0, 0),
  (432, .iaload, 1, 0, 0), (433, .aload_n 0, 1, 0, 0), (434, .iload_n 3, 1, 0, 0), (435, .iconst 2, 1, 2, 0), (436, .iadd, 1, 0, 0), (437, .iaload, 1, 0, 0), (438, .aload_n 0, 1, 0, 0), (439, .iload_n 3, 1, 0, 0),
  (440, .iconst 3, 1, 3, 0), (441, .iadd, 1, 0, 0), (442, .iaload, 1, 0, 0), (443, .invokevirtual 44, 3, 89, 0), (446, .aload_n 2, 1, 0, 0), (447, .aload_n 0, 1, 0, 0), (448, .iload_n 3, 1, 0, 0), (449, .iconst 1, 1, 1, 0),
  (450, .iadd, 1, 0, 0), (451, .iaload, 1, 0, 0), (452, .aload_n 0, 1, 0, 0), (453, .iload_n 3, 1, 0, 0), (454, .iconst 2, 1, 2, 0), (455, .iadd, 1, 0, 0), (456, .iaload, 1, 0, 0), (457, .aload_n 0, 1, 0, 0),
  (458, .iload_n 3, 1, 0, 0), (459, .iconst 3, 1, 3, 0), (460, .iadd, 1, 0, 0), (461, .iaload, 1, 0, 0), (462, .invokevirtual 47, 3, 148, 0), (465, .if_icmp .eq 292, 3, 757, 0), (468, .iconst 0, 1, 0, 0), (469, .ireturn, 1, 0, 0),
  (470, .aload_n 1, 1, 0, 0), (471, .aload_n 0, 1, 0, 0), (472, .iload_n 3, 1, 0, 0), (473, .iconst 1, 1, 1, 0), (474, .iadd, 1, 0, 0), (475, .iaload, 1, 0, 0), (476, .aload_n 0, 1, 0, 0), (477, .iload_n 3, 1, 0, 0),
  (478, .iconst 2, 1, 2, 0), (479, .iadd, 1, 0, 0), (480, .iaload, 1, 0, 0), (481, .invokevirtual 48, 3, 90, 0), (484, .aload_n 2, 1, 0, 0), (485, .aload_n 0, 1, 0, 0), (486, .iload_n 3, 1, 0, 0), (487, .iconst 1, 1, 1, 0),
  (488, .iadd, 1, 0, 0), (489, .iaload, 1, 0, 0), (490, .aload_n 0, 1, 0, 0), (491, .iload_n 3, 1, 0, 0), (492, .iconst 2, 1, 2, 0), (493, .iadd, 1, 0, 0), (494, .iaload, 1, 0, 0), (495, .invokevirtual 51, 3, 149, 0),
  (498, .if_icmp .eq 259, 3, 757, 0), (501, .iconst 0, 1, 0, 0), (502, .ireturn, 1, 0, 0), (503, .aload_n 1, 1, 0, 0), (504, .aload_n 0, 1, 0, 0), (505, .iload_n 3, 1, 0, 0), (506, .iconst 1, 1, 1, 0), (507, .iadd, 1, 0, 0),
  (508, .iaload, 1, 0, 0), (509, .aload_n 0, 1, 0, 0), (510, .iload_n 3, 1, 0, 0), (511, .iconst 2, 1, 2, 0), (512, .iadd, 1, 0, 0), (513, .iaload, 1, 0, 0), (514, .invokevirtual 52, 3, 91, 0), (517, .aload_n 2, 1, 0, 0),
  (518, .aload_n 0, 1, 0, 0), (519, .iload_n 3, 1, 0, 0), (520, .iconst 1, 1, 1, 0), (521, .iadd, 1, 0, 0), (522, .iaload, 1, 0, 0), (523, .aload_n 0, 1, 0, 0), (524, .iload_n 3, 1, 0, 0), (525, .iconst 2, 1, 2, 0),
  (526, .iadd, 1, 0, 0), (527, .iaload, 1, 0, 0), (528, .invokevirtual 55, 3, 150, 0), (531, .if_icmp .eq 226, 3, 757, 0), (534, .iconst 0, 1, 0, 0), (535, .ireturn, 1, 0, 0), (536, .aload_n 1, 1, 0, 0), (537, .aload_n 0, 1, 0, 0),
  (538, .iload_n 3, 1, 0, 0), (539, .iconst 1, 1, 1, 0), (540, .iadd, 1, 0, 0), (541, .iaload, 1, 0, 0), (542, .aload_n 0, 1, 0, 0), (543, .iload_n 3, 1, 0, 0), (544, .iconst 2, 1, 2, 0), (545, .iadd, 1, 0, 0),
  (546, .iaload, 1, 0, 0), (547, .aload_n 0, 1, 0, 0), (548, .iload_n 3, 1, 0, 0), (549, .iconst 3, 1, 3, 0), (550, .iadd, 1, 0, 0), (551, .iaload, 1, 0, 0), (552, .aload_n 0, 1, 0, 0), (553, .iload_n 3, 1, 0, 0),
  (554, .iconst 4, 1, 4, 0), (555, .iadd, 1, 0, 0), (556, .iaload, 1, 0, 0), (557, .aload_n 0, 1, 0, 0), (558, .iload_n 3, 1, 0, 0), (559, .iconst 5, 1, 5, 0), (560, .iadd, 1, 0, 0), (561, .iaload, 1, 0, 0),
  (562, .invokevirtual 56, 3, 92, 0), (565, .aload_n 2, 1, 0, 0), (566, .aload_n 0, 1, 0, 0), (567, .iload_n 3, 1, 0, 0), (568, .iconst 1, 1, 1, 0), (569, .iadd, 1, 0, 0), (570, .iaload, 1, 0, 0), (571, .aload_n 0, 1, 0, 0),
  (572, .iload_n 3, 1, 0, 0), (573, .iconst 2, 1, 2, 0), (574, .iadd, 1, 0, 0), (575, .iaload, 1, 0, 0), (576, .aload_n 0, 1, 0, 0), (577, .iload_n 3, 1, 0, 0), (578, .iconst 3, 1, 3, 0), (579, .iadd, 1, 0, 0),
  (580, .iaload, 1, 0, 0), (581, .aload_n 0, 1, 0, 0), (582, .iload_n 3, 1, 0, 0), (583, .iconst 4, 1, 4, 0), (584, .iadd, 1, 0, 0), (585, .iaload, 1, 0, 0), (586, .aload_n 0, 1, 0, 0), (587, .iload_n 3, 1, 0, 0),
  (588, .iconst 5, 1, 5, 0), (589, .iadd, 1, 0, 0), (590, .iaload, 1, 0, 0), (591, .invokevirtual 59, 3, 151, 0), (594, .if_icmp .eq 163, 3, 757, 0), (597, .iconst 0, 1, 0, 0), (598, .ireturn, 1, 0, 0), (599, .aload_n 1, 1, 0, 0),
  (600, .aload_n 0, 1, 0, 0), (601, .iload_n 3, 1, 0, 0), (602, .iconst 1, 1, 1, 0), (603, .iadd, 1, 0, 0), (604, .iaload, 1, 0, 0), (605, .aload_n 0, 1, 0, 0), (606, .iload_n 3, 1, 0, 0), (607, .iconst 2, 1, 2, 0),
  (608, .iadd, 1, 0, 0), (609, .iaload, 1, 0, 0), (610, .invokevirtual 60, 3, 93, 0), (613, .aload_n 2, 1, 0, 0), (614, .aload_n 0, 1, 0, 0), (615, .iload_n 3, 1, 0, 0), (616, .iconst 1, 1, 1, 0), (617, .iadd, 1, 0, 0),
  (618, .iaload, 1, 0, 0), (619, .aload_n 0, 1, 0, 0), (620, .iload_n 3, 1, 0, 0), (621, .iconst 2, 1, 2, 0), (622, .iadd, 1, 0, 0), (623, .iaload, 1, 0, 0), (624, .invokevirtual 63, 3, 152, 0), (627, .if_icmp .eq 130, 3, 757, 0),
  (630, .iconst 0, 1, 0, 0), (631, .ireturn, 1, 0, 0), (632, .aload_n 1, 1, 0, 0), (633, .aload_n 0, 1, 0, 0), (634, .iload_n 3, 1, 0, 0), (635, .iconst 1, 1, 1, 0), (636, .iadd, 1, 0, 0), (637, .iaload, 1, 0, 0),
  (638, .invokevirtual 64, 3, 94, 0), (641, .aload_n 2, 1, 0, 0), (642, .aload_n 0, 1, 0, 0), (643, .iload_n 3, 1, 0, 0), (644, .iconst 1, 1, 1, 0), (645, .iadd, 1, 0, 0), (646, .iaload, 1, 0, 0), (647, .invokevirtual 68, 3, 153, 0),
  (650, .if_icmp .eq 107, 3, 757, 0), (653, .iconst 0, 1, 0, 0), (654, .ireturn, 1, 0, 0), (655, .aload_n 1, 1, 0, 0), (656, .aload_n 0, 1, 0, 0), (657, .iload_n 3, 1, 0, 0), (658, .iconst 1, 1, 1, 0), (659, .iadd, 1, 0, 0),
  (660, .iaload, 1, 0, 0), (661, .aload_n 0, 1, 0, 0), (662, .iload_n 3, 1, 0, 0), (663, .iconst 2, 1, 2, 0), (664, .iadd, 1, 0, 0), (665, .iaload, 1, 0, 0), (666, .invokevirtual 69, 3, 95, 0), (669, .aload_n 2, 1, 0, 0),
  (670, .aload_n 0, 1, 0, 0), (671, .iload_n 3, 1, 0, 0), (672, .iconst 1, 1, 1, 0), (673, .iadd, 1, 0, 0), (674, .iaload, 1, 0, 0), (675, .aload_n 0, 1, 0, 0), (676, .iload_n 3, 1, 0, 0), (677, .iconst 2, 1, 2, 0),
  (678, .iadd, 1, 0, 0), (679, .iaload, 1, 0, 0), (680, .invokevirtual 72, 3, 154, 0), (683, .if_icmp .eq 74, 3, 757, 0), (686, .iconst 0, 1, 0, 0), (687, .ireturn, 1, 0, 0), (688, .aload_n 1, 1, 0, 0), (689, .aload_n 0, 1, 0, 0),
  (690, .iload_n 3, 1, 0, 0), (691, .iconst 1, 1, 1, 0), (692, .iadd, 1, 0, 0), (693, .iaload, 1, 0, 0), (694, .invokevirtual 73, 3, 96, 0), (697, .aload_n 2, 1, 0, 0), (698, .aload_n 0, 1, 0, 0), (699, .iload_n 3, 1, 0, 0),
  (700, .iconst 1, 1, 1, 0), (701, .iadd, 1, 0, 0), (702, .iaload, 1, 0, 0), (703, .invokevirtual 76, 3, 155, 0), (706, .if_icmp .eq 51, 3, 757, 0), (709, .iconst 0, 1, 0, 0), (710, .ireturn, 1, 0, 0), (711, .aload_n 1, 1, 0, 0),
  (712, .aload_n 0, 1, 0, 0), (713, .iload_n 3, 1, 0, 0), (714, .iconst 1, 1, 1, 0), (715, .iadd, 1, 0, 0), (716, .iaload, 1, 0, 0), (717, .invokevirtual 77, 3, 97, 0), (720, .aload_n 2, 1, 0, 0), (721, .aload_n 0, 1, 0, 0),
  (722, .iload_n 3, 1, 0, 0), (723, .iconst 1, 1, 1, 0), (724, .iadd, 1, 0, 0), (725, .iaload, 1, 0, 0), (726, .invokevirtual 80, 3, 156, 0), (729, .if_icmp .eq 28, 3, 757, 0), (732, .iconst 0, 1, 0, 0), (733, .ireturn, 1, 0, 0),
  (734, .aload_n 1, 1, 0, 0), (735, .aload_n 0, 1, 0, 0), (736, .iload_n 3, 1, 0, 0), (737, .iconst 1, 1, 1, 0), (738, .iadd, 1, 0, 0), (739, .iaload, 1, 0, 0), (740, .invokevirtual 81, 3, 98, 0), (743, .aload_n 2, 1, 0, 0),
  (744, .aload_n 0, 1, 0, 0), (745, .iload_n 3, 1, 0, 0), (746, .iconst 1, 1, 1, 0), (747, .iadd, 1, 0, 0), (748, .iaload, 1, 0, 0), (749, .invokevirtual 84, 3, 159, 0), (752, .if_icmp .eq 5, 3, 757, 0), (755, .iconst 0, 1, 0, 0),
  (756, .ireturn, 1, 0, 0), (757, .iinc 3 6, 3, 6, 0), (760, .goto (-742), 3, 18, 0), (763, .iconst 1, 1, 1, 0), (764, .ireturn, 1, 0, 0)]
def mm_X0_init : mz_M := (⟨"TapLedger$BarList", "<init>", "()V"⟩, prog_2_method_1_code, 1, none, 0, 2, co_X0_init)
def mm_X0_number : mz_M := (⟨"TapLedger$BarList", "number", "()I"⟩, prog_2_method_2_code, 1, (some .int), 0, 0, co_X0_number)
def mm_X0_barred : mz_M := (⟨"TapLedger$BarList", "barred", "()I"⟩, prog_2_method_3_code, 1, (some .int), 0, 0, co_X0_barred)
def mm_X0_numberAt : mz_M := (⟨"TapLedger$BarList", "numberAt", "(I)I"⟩, prog_2_method_4_code, 2, (some .int), 0, 0, co_X0_numberAt)
def mm_X0_isBarredAt : mz_M := (⟨"TapLedger$BarList", "isBarredAt", "(II)Z"⟩, prog_2_method_5_code, 3, (some .boolean), 0, 0, co_X0_isBarredAt)
def mm_X0_putBarred : mz_M := (⟨"TapLedger$BarList", "putBarred", "(IZ)V"⟩, prog_2_method_6_code, 4, none, 0, 0, co_X0_putBarred)
def mm_X0_bringTo : mz_M := (⟨"TapLedger$BarList", "bringTo", "(I)V"⟩, prog_2_method_7_code, 2, none, 0, 0, co_X0_bringTo)
def mm_X0_laggards : mz_M := (⟨"TapLedger$BarList", "laggards", "()I"⟩, prog_2_method_8_code, 3, (some .int), 0, 0, co_X0_laggards)
def mm_X0_copyFrom : mz_M := (⟨"TapLedger$BarList", "copyFrom", "(LTapLedger$BarList;)V"⟩, prog_2_method_9_code, 2, none, 0, 0, co_X0_copyFrom)
def mm_X1_init : mz_M := (⟨"TapLedger$Bill", "<init>", "()V"⟩, prog_3_method_1_code, 1, none, 1, 2, co_X1_init)
def mm_X1_reckon : mz_M := (⟨"TapLedger$Bill", "reckon", "(LTapLedger$Taps;LTapLedger$Tariff;)V"⟩, prog_3_method_2_code, 3, none, 1, 0, co_X1_reckon)
def mm_X2_init : mz_M := (⟨"TapLedger$Days", "<init>", "()V"⟩, prog_4_method_1_code, 1, none, 2, 2, co_X2_init)
def mm_X2_build : mz_M := (⟨"TapLedger$Days", "build", "(LTapLedger$Journeys;LTapLedger$Tariff;)V"⟩, prog_4_method_2_code, 5, none, 2, 0, co_X2_build)
def mm_X2_sum : mz_M := (⟨"TapLedger$Days", "sum", "(I)I"⟩, prog_4_method_3_code, 2, (some .int), 2, 0, co_X2_sum)
def mm_X2_width : mz_M := (⟨"TapLedger$Days", "width", "(I)I"⟩, prog_4_method_4_code, 2, (some .int), 2, 0, co_X2_width)
def mm_X2_owed : mz_M := (⟨"TapLedger$Days", "owed", "(I)I"⟩, prog_4_method_5_code, 2, (some .int), 2, 0, co_X2_owed)
def mm_X2_allSums : mz_M := (⟨"TapLedger$Days", "allSums", "()I"⟩, prog_4_method_6_code, 1, (some .int), 2, 0, co_X2_allSums)
def mm_X2_allOwed : mz_M := (⟨"TapLedger$Days", "allOwed", "()I"⟩, prog_4_method_7_code, 1, (some .int), 2, 0, co_X2_allOwed)
def mm_X2_widthOfWeek : mz_M := (⟨"TapLedger$Days", "widthOfWeek", "(I)I"⟩, prog_4_method_8_code, 4, (some .int), 2, 0, co_X2_widthOfWeek)
def mm_X3_init : mz_M := (⟨"TapLedger$Journeys", "<init>", "()V"⟩, prog_5_method_1_code, 1, none, 3, 2, co_X3_init)
def mm_X3_build : mz_M := (⟨"TapLedger$Journeys", "build", "(LTapLedger$Rides;LTapLedger$Tariff;)V"⟩, prog_5_method_2_code, 5, none, 3, 0, co_X3_build)
def mm_X3_open : mz_M := (⟨"TapLedger$Journeys", "open", "(I)V"⟩, prog_5_method_3_code, 2, none, 3, 0, co_X3_open)
def mm_X3_takeRide : mz_M := (⟨"TapLedger$Journeys", "takeRide", "(LTapLedger$Rides;ILTapLedger$Tariff;)V"⟩, prog_5_method_4_code, 5, none, 3, 0, co_X3_takeRide)
def mm_X3_takeZone : mz_M := (⟨"TapLedger$Journeys", "takeZone", "(II)V"⟩, prog_5_method_5_code, 3, none, 3, 0, co_X3_takeZone)
def mm_X3_size : mz_M := (⟨"TapLedger$Journeys", "size", "()I"⟩, prog_5_method_6_code, 1, (some .int), 3, 0, co_X3_size)
def mm_X3_moment : mz_M := (⟨"TapLedger$Journeys", "moment", "(I)I"⟩, prog_5_method_7_code, 2, (some .int), 3, 0, co_X3_moment)
def mm_X3_ridesIn : mz_M := (⟨"TapLedger$Journeys", "ridesIn", "(I)I"⟩, prog_5_method_8_code, 2, (some .int), 3, 0, co_X3_ridesIn)
def mm_X3_width : mz_M := (⟨"TapLedger$Journeys", "width", "(I)I"⟩, prog_5_method_9_code, 2, (some .int), 3, 0, co_X3_width)
def mm_X3_cost : mz_M := (⟨"TapLedger$Journeys", "cost", "(I)I"⟩, prog_5_method_10_code, 2, (some .int), 3, 0, co_X3_cost)
def mm_X3_journeyOfRide : mz_M := (⟨"TapLedger$Journeys", "journeyOfRide", "(I)I"⟩, prog_5_method_11_code, 2, (some .int), 3, 0, co_X3_journeyOfRide)
def mm_X4_init : mz_M := (⟨"TapLedger$Plan", "<init>", "()V"⟩, prog_6_method_1_code, 1, none, 4, 2, co_X4_init)
def mm_X4_build : mz_M := (⟨"TapLedger$Plan", "build", "(LTapLedger$Days;LTapLedger$Tariff;)V"⟩, prog_6_method_2_code, 4, none, 4, 0, co_X4_build)
def mm_X4_weighWeek : mz_M := (⟨"TapLedger$Plan", "weighWeek", "(II)V"⟩, prog_6_method_3_code, 7, none, 4, 0, co_X4_weighWeek)
def mm_X4_markWeeks : mz_M := (⟨"TapLedger$Plan", "markWeeks", "()V"⟩, prog_6_method_4_code, 4, none, 4, 0, co_X4_markWeeks)
def mm_X4_cost : mz_M := (⟨"TapLedger$Plan", "cost", "()I"⟩, prog_6_method_5_code, 1, (some .int), 4, 0, co_X4_cost)
def mm_X4_weeks : mz_M := (⟨"TapLedger$Plan", "weeks", "()I"⟩, prog_6_method_6_code, 1, (some .int), 4, 0, co_X4_weeks)
def mm_X4_start : mz_M := (⟨"TapLedger$Plan", "start", "(I)I"⟩, prog_6_method_7_code, 2, (some .int), 4, 0, co_X4_start)
def mm_X4_isInWeek : mz_M := (⟨"TapLedger$Plan", "isInWeek", "(I)Z"⟩, prog_6_method_8_code, 2, (some .boolean), 4, 0, co_X4_isInWeek)
def mm_X5_init : mz_M := (⟨"TapLedger$Rides", "<init>", "()V"⟩, prog_7_method_1_code, 1, none, 5, 2, co_X5_init)
def mm_X5_build : mz_M := (⟨"TapLedger$Rides", "build", "(LTapLedger$Taps;)V"⟩, prog_7_method_2_code, 3, none, 5, 0, co_X5_build)
def mm_X5_addWhole : mz_M := (⟨"TapLedger$Rides", "addWhole", "(LTapLedger$Taps;I)V"⟩, prog_7_method_3_code, 5, none, 5, 0, co_X5_addWhole)
def mm_X5_addLacking : mz_M := (⟨"TapLedger$Rides", "addLacking", "(LTapLedger$Taps;I)V"⟩, prog_7_method_4_code, 5, none, 5, 0, co_X5_addLacking)
def mm_X5_addRide : mz_M := (⟨"TapLedger$Rides", "addRide", "(IIIII)V"⟩, prog_7_method_5_code, 6, none, 5, 0, co_X5_addRide)
def mm_X5_size : mz_M := (⟨"TapLedger$Rides", "size", "()I"⟩, prog_7_method_6_code, 1, (some .int), 5, 0, co_X5_size)
def mm_X5_beginStation : mz_M := (⟨"TapLedger$Rides", "beginStation", "(I)I"⟩, prog_7_method_7_code, 2, (some .int), 5, 0, co_X5_beginStation)
def mm_X5_endStation : mz_M := (⟨"TapLedger$Rides", "endStation", "(I)I"⟩, prog_7_method_8_code, 2, (some .int), 5, 0, co_X5_endStation)
def mm_X5_beginMoment : mz_M := (⟨"TapLedger$Rides", "beginMoment", "(I)I"⟩, prog_7_method_9_code, 2, (some .int), 5, 0, co_X5_beginMoment)
def mm_X5_kind : mz_M := (⟨"TapLedger$Rides", "kind", "(I)I"⟩, prog_7_method_10_code, 2, (some .int), 5, 0, co_X5_kind)
def mm_X5_isLame : mz_M := (⟨"TapLedger$Rides", "isLame", "(I)Z"⟩, prog_7_method_11_code, 2, (some .boolean), 5, 0, co_X5_isLame)
def mm_X5_goesOn : mz_M := (⟨"TapLedger$Rides", "goesOn", "(II)Z"⟩, prog_7_method_12_code, 5, (some .boolean), 5, 0, co_X5_goesOn)
def mm_X6_init : mz_M := (⟨"TapLedger$Row", "<init>", "(I)V"⟩, prog_8_method_1_code, 2, none, 6, 2, co_X6_init)
def mm_X6_at : mz_M := (⟨"TapLedger$Row", "at", "(I)I"⟩, prog_8_method_2_code, 2, (some .int), 6, 0, co_X6_at)
def mm_X6_put : mz_M := (⟨"TapLedger$Row", "put", "(II)V"⟩, prog_8_method_3_code, 3, none, 6, 0, co_X6_put)
def mm_X6_add : mz_M := (⟨"TapLedger$Row", "add", "(II)V"⟩, prog_8_method_4_code, 3, none, 6, 0, co_X6_add)
def mm_X6_fill : mz_M := (⟨"TapLedger$Row", "fill", "(I)V"⟩, prog_8_method_5_code, 3, none, 6, 0, co_X6_fill)
def mm_X6_sum : mz_M := (⟨"TapLedger$Row", "sum", "()I"⟩, prog_8_method_6_code, 3, (some .int), 6, 0, co_X6_sum)
def mm_X6_copyFrom : mz_M := (⟨"TapLedger$Row", "copyFrom", "(LTapLedger$Row;)V"⟩, prog_8_method_7_code, 3, none, 6, 0, co_X6_copyFrom)
def mm_X7_init : mz_M := (⟨"TapLedger$State", "<init>", "()V"⟩, prog_9_method_1_code, 1, none, 7, 2, co_X7_init)
def mm_X7_tapsOf : mz_M := (⟨"TapLedger$State", "tapsOf", "(I)LTapLedger$Taps;"⟩, prog_9_method_2_code, 2, (some (.object "TapLedger$Taps")), 7, 0, co_X7_tapsOf)
def mm_X7_copyFrom : mz_M := (⟨"TapLedger$State", "copyFrom", "(LTapLedger$State;)V"⟩, prog_9_method_3_code, 2, none, 7, 0, co_X7_copyFrom)
def mm_X8_init : mz_M := (⟨"TapLedger$Taps", "<init>", "()V"⟩, prog_10_method_1_code, 1, none, 8, 2, co_X8_init)
def mm_X8_size : mz_M := (⟨"TapLedger$Taps", "size", "()I"⟩, prog_10_method_2_code, 1, (some .int), 8, 0, co_X8_size)
def mm_X8_moment : mz_M := (⟨"TapLedger$Taps", "moment", "(I)I"⟩, prog_10_method_3_code, 2, (some .int), 8, 0, co_X8_moment)
def mm_X8_station : mz_M := (⟨"TapLedger$Taps", "station", "(I)I"⟩, prog_10_method_4_code, 2, (some .int), 8, 0, co_X8_station)
def mm_X8_way : mz_M := (⟨"TapLedger$Taps", "way", "(I)I"⟩, prog_10_method_5_code, 2, (some .int), 8, 0, co_X8_way)
def mm_X8_find : mz_M := (⟨"TapLedger$Taps", "find", "(I)I"⟩, prog_10_method_6_code, 3, (some .int), 8, 0, co_X8_find)
def mm_X8_insert : mz_M := (⟨"TapLedger$Taps", "insert", "(III)V"⟩, prog_10_method_7_code, 5, none, 8, 0, co_X8_insert)
def mm_X8_remove : mz_M := (⟨"TapLedger$Taps", "remove", "(I)V"⟩, prog_10_method_8_code, 3, none, 8, 0, co_X8_remove)
def mm_X8_move : mz_M := (⟨"TapLedger$Taps", "move", "(II)V"⟩, prog_10_method_9_code, 3, none, 8, 0, co_X8_move)
def mm_X8_isWholeFrom : mz_M := (⟨"TapLedger$Taps", "isWholeFrom", "(I)Z"⟩, prog_10_method_10_code, 2, (some .boolean), 8, 0, co_X8_isWholeFrom)
def mm_X8_copyFrom : mz_M := (⟨"TapLedger$Taps", "copyFrom", "(LTapLedger$Taps;)V"⟩, prog_10_method_11_code, 2, none, 8, 0, co_X8_copyFrom)
def mm_X9_init : mz_M := (⟨"TapLedger$Tariff", "<init>", "()V"⟩, prog_11_method_1_code, 2, none, 9, 2, co_X9_init)
def mm_X9_zoneOf : mz_M := (⟨"TapLedger$Tariff", "zoneOf", "(I)I"⟩, prog_11_method_2_code, 2, (some .int), 9, 0, co_X9_zoneOf)
def mm_X9_putZone : mz_M := (⟨"TapLedger$Tariff", "putZone", "(II)V"⟩, prog_11_method_3_code, 3, none, 9, 0, co_X9_putZone)
def mm_X9_valueOf : mz_M := (⟨"TapLedger$Tariff", "valueOf", "(II)I"⟩, prog_11_method_4_code, 3, (some .int), 9, 0, co_X9_valueOf)
def mm_X9_putValue : mz_M := (⟨"TapLedger$Tariff", "putValue", "(III)V"⟩, prog_11_method_5_code, 4, none, 9, 0, co_X9_putValue)
def mm_X9_near : mz_M := (⟨"TapLedger$Tariff", "near", "()I"⟩, prog_11_method_6_code, 1, (some .int), 9, 0, co_X9_near)
def mm_X9_journeyCost : mz_M := (⟨"TapLedger$Tariff", "journeyCost", "(IZ)I"⟩, prog_11_method_7_code, 3, (some .int), 9, 0, co_X9_journeyCost)
def mm_X9_capped : mz_M := (⟨"TapLedger$Tariff", "capped", "(II)I"⟩, prog_11_method_8_code, 3, (some .int), 9, 0, co_X9_capped)
def mm_X9_weekCost : mz_M := (⟨"TapLedger$Tariff", "weekCost", "(I)I"⟩, prog_11_method_9_code, 2, (some .int), 9, 0, co_X9_weekCost)
def mm_X9_copyFrom : mz_M := (⟨"TapLedger$Tariff", "copyFrom", "(LTapLedger$Tariff;)V"⟩, prog_11_method_10_code, 2, none, 9, 0, co_X9_copyFrom)
def mm_X10_init : mz_M := (⟨"TapLedger", "<init>", "()V"⟩, prog_1_method_1_code, 1, none, 10, 2, co_X10_init)
def mm_X10_zone : mz_M := (⟨"TapLedger", "zone", "(II)I"⟩, prog_1_method_2_code, 4, (some .int), 10, 0, co_X10_zone)
def mm_X10_price : mz_M := (⟨"TapLedger", "price", "(III)I"⟩, prog_1_method_3_code, 5, (some .int), 10, 0, co_X10_price)
def mm_X10_tap : mz_M := (⟨"TapLedger", "tap", "(IIIII)I"⟩, prog_1_method_4_code, 8, (some .int), 10, 0, co_X10_tap)
def mm_X10_untap : mz_M := (⟨"TapLedger", "untap", "(III)I"⟩, prog_1_method_5_code, 6, (some .int), 10, 0, co_X10_untap)
def mm_X10_told : mz_M := (⟨"TapLedger", "told", "(III)I"⟩, prog_1_method_6_code, 5, (some .int), 10, 0, co_X10_told)
def mm_X10_ride : mz_M := (⟨"TapLedger", "ride", "(III)I"⟩, prog_1_method_7_code, 6, (some .int), 10, 0, co_X10_ride)
def mm_X10_journey : mz_M := (⟨"TapLedger", "journey", "(III)I"⟩, prog_1_method_8_code, 6, (some .int), 10, 0, co_X10_journey)
def mm_X10_day : mz_M := (⟨"TapLedger", "day", "(III)I"⟩, prog_1_method_9_code, 4, (some .int), 10, 0, co_X10_day)
def mm_X10_best : mz_M := (⟨"TapLedger", "best", "(II)I"⟩, prog_1_method_10_code, 4, (some .int), 10, 0, co_X10_best)
def mm_X10_saved : mz_M := (⟨"TapLedger", "saved", "(II)I"⟩, prog_1_method_11_code, 4, (some .int), 10, 0, co_X10_saved)
def mm_X10_would : mz_M := (⟨"TapLedger", "would", "(IIIII)I"⟩, prog_1_method_12_code, 8, (some .int), 10, 0, co_X10_would)
def mm_X10_bar : mz_M := (⟨"TapLedger", "bar", "(II)I"⟩, prog_1_method_13_code, 3, (some .int), 10, 0, co_X10_bar)
def mm_X10_hear : mz_M := (⟨"TapLedger", "hear", "(I)I"⟩, prog_1_method_14_code, 3, (some .int), 10, 0, co_X10_hear)
def mm_X10_pass : mz_M := (⟨"TapLedger", "pass", "(II)I"⟩, prog_1_method_15_code, 3, (some .int), 10, 0, co_X10_pass)
def mm_X10_image : mz_M := (⟨"TapLedger", "image", "(I)I"⟩, prog_1_method_16_code, 2, (some .int), 10, 0, co_X10_image)
def mm_X10_restore : mz_M := (⟨"TapLedger", "restore", "(I)I"⟩, prog_1_method_17_code, 2, (some .int), 10, 0, co_X10_restore)
def mm_X10_count : mz_M := (⟨"TapLedger", "count", "(I)I"⟩, prog_1_method_18_code, 2, (some .int), 10, 0, co_X10_count)
def mm_X10_refusalOfTap : mz_M := (⟨"TapLedger", "refusalOfTap", "(IIIII)I"⟩, prog_1_method_19_code, 7, (some .int), 10, 0, co_X10_refusalOfTap)
def mm_X10_refusalOfPart : mz_M := (⟨"TapLedger", "refusalOfPart", "(III)I"⟩, prog_1_method_20_code, 3, (some .int), 10, 1, co_X10_refusalOfPart)
def mm_X10_reckon : mz_M := (⟨"TapLedger", "reckon", "(I)V"⟩, prog_1_method_21_code, 2, none, 10, 0, co_X10_reckon)
def mm_X10_costOfAllCards : mz_M := (⟨"TapLedger", "costOfAllCards", "()I"⟩, prog_1_method_22_code, 3, (some .int), 10, 0, co_X10_costOfAllCards)
def mm_X10_imageOf : mz_M := (⟨"TapLedger", "imageOf", "(I)LTapLedger$State;"⟩, prog_1_method_23_code, 2, (some (.object "TapLedger$State")), 10, 0, co_X10_imageOf)
def mm_X10_isWithin : mz_M := (⟨"TapLedger", "isWithin", "(III)Z"⟩, prog_1_method_24_code, 3, (some .boolean), 10, 1, co_X10_isWithin)
def mm_X10_isCard : mz_M := (⟨"TapLedger", "isCard", "(I)Z"⟩, prog_1_method_25_code, 1, (some .boolean), 10, 1, co_X10_isCard)
def mm_X10_isStation : mz_M := (⟨"TapLedger", "isStation", "(I)Z"⟩, prog_1_method_26_code, 1, (some .boolean), 10, 1, co_X10_isStation)
def mm_X10_isReader : mz_M := (⟨"TapLedger", "isReader", "(I)Z"⟩, prog_1_method_27_code, 1, (some .boolean), 10, 1, co_X10_isReader)
def mm_X10_isImage : mz_M := (⟨"TapLedger", "isImage", "(I)Z"⟩, prog_1_method_28_code, 1, (some .boolean), 10, 1, co_X10_isImage)
def mm_X10_isDay : mz_M := (⟨"TapLedger", "isDay", "(I)Z"⟩, prog_1_method_29_code, 1, (some .boolean), 10, 1, co_X10_isDay)
def mm_X10_isMinute : mz_M := (⟨"TapLedger", "isMinute", "(I)Z"⟩, prog_1_method_30_code, 1, (some .boolean), 10, 1, co_X10_isMinute)
def mm_X10_isWidth : mz_M := (⟨"TapLedger", "isWidth", "(I)Z"⟩, prog_1_method_31_code, 1, (some .boolean), 10, 1, co_X10_isWidth)
def mm_X10_isPrice : mz_M := (⟨"TapLedger", "isPrice", "(III)Z"⟩, prog_1_method_32_code, 3, (some .boolean), 10, 1, co_X10_isPrice)
def mm_X10_momentOf : mz_M := (⟨"TapLedger", "momentOf", "(II)I"⟩, prog_1_method_33_code, 2, (some .int), 10, 1, co_X10_momentOf)
def mm_X10_dayOf : mz_M := (⟨"TapLedger", "dayOf", "(I)I"⟩, prog_1_method_34_code, 1, (some .int), 10, 1, co_X10_dayOf)
def mm_X10_minuteOf : mz_M := (⟨"TapLedger", "minuteOf", "(I)I"⟩, prog_1_method_35_code, 1, (some .int), 10, 1, co_X10_minuteOf)
def mm_X10_isBusy : mz_M := (⟨"TapLedger", "isBusy", "(I)Z"⟩, prog_1_method_36_code, 2, (some .boolean), 10, 1, co_X10_isBusy)
def mm_X11_init : mz_M := (⟨"TapLedgerModel", "<init>", "()V"⟩, prog_13_method_1_code, 2, none, 11, 2, co_X11_init)
def mm_X11_in : mz_M := (⟨"TapLedgerModel", "in", "(III)Z"⟩, prog_13_method_2_code, 3, (some .boolean), 11, 1, co_X11_in)
def mm_X11_isCard : mz_M := (⟨"TapLedgerModel", "isCard", "(I)Z"⟩, prog_13_method_3_code, 1, (some .boolean), 11, 1, co_X11_isCard)
def mm_X11_isStation : mz_M := (⟨"TapLedgerModel", "isStation", "(I)Z"⟩, prog_13_method_4_code, 1, (some .boolean), 11, 1, co_X11_isStation)
def mm_X11_isDay : mz_M := (⟨"TapLedgerModel", "isDay", "(I)Z"⟩, prog_13_method_5_code, 1, (some .boolean), 11, 1, co_X11_isDay)
def mm_X11_zone : mz_M := (⟨"TapLedgerModel", "zone", "(II)I"⟩, prog_13_method_6_code, 4, (some .int), 11, 0, co_X11_zone)
def mm_X11_price : mz_M := (⟨"TapLedgerModel", "price", "(III)I"⟩, prog_13_method_7_code, 6, (some .int), 11, 0, co_X11_price)
def mm_X11_when : mz_M := (⟨"TapLedgerModel", "when", "(II)I"⟩, prog_13_method_8_code, 3, (some .int), 11, 0, co_X11_when)
def mm_X11_stationOf : mz_M := (⟨"TapLedgerModel", "stationOf", "(II)I"⟩, prog_13_method_9_code, 3, (some .int), 11, 0, co_X11_stationOf)
def mm_X11_isIn : mz_M := (⟨"TapLedgerModel", "isIn", "(II)Z"⟩, prog_13_method_10_code, 3, (some .boolean), 11, 0, co_X11_isIn)
def mm_X11_tapAt : mz_M := (⟨"TapLedgerModel", "tapAt", "(II)I"⟩, prog_13_method_11_code, 5, (some .int), 11, 0, co_X11_tapAt)
def mm_X11_refusal : mz_M := (⟨"TapLedgerModel", "refusal", "(IIIII)I"⟩, prog_13_method_12_code, 6, (some .int), 11, 0, co_X11_refusal)
def mm_X11_add : mz_M := (⟨"TapLedgerModel", "add", "(III)V"⟩, prog_13_method_13_code, 5, none, 11, 0, co_X11_add)
def mm_X11_remove : mz_M := (⟨"TapLedgerModel", "remove", "(II)V"⟩, prog_13_method_14_code, 4, none, 11, 0, co_X11_remove)
def mm_X11_tap : mz_M := (⟨"TapLedgerModel", "tap", "(IIIII)I"⟩, prog_13_method_15_code, 7, (some .int), 11, 0, co_X11_tap)
def mm_X11_untap : mz_M := (⟨"TapLedgerModel", "untap", "(III)I"⟩, prog_13_method_16_code, 5, (some .int), 11, 0, co_X11_untap)
def mm_X11_told : mz_M := (⟨"TapLedgerModel", "told", "(III)I"⟩, prog_13_method_17_code, 4, (some .int), 11, 0, co_X11_told)
def mm_X11_mended : mz_M := (⟨"TapLedgerModel", "mended", "(ZI)I"⟩, prog_13_method_18_code, 5, (some .int), 11, 0, co_X11_mended)
def mm_X11_addRide : mz_M := (⟨"TapLedgerModel", "addRide", "(IIIII)V"⟩, prog_13_method_19_code, 6, none, 11, 0, co_X11_addRide)
def mm_X11_layRides : mz_M := (⟨"TapLedgerModel", "layRides", "(I)V"⟩, prog_13_method_20_code, 5, none, 11, 0, co_X11_layRides)
def mm_X11_goesOn : mz_M := (⟨"TapLedgerModel", "goesOn", "(I)Z"⟩, prog_13_method_21_code, 3, (some .boolean), 11, 0, co_X11_goesOn)
def mm_X11_isBusy : mz_M := (⟨"TapLedgerModel", "isBusy", "(I)Z"⟩, prog_13_method_22_code, 3, (some .boolean), 11, 1, co_X11_isBusy)
def mm_X11_zoneOf : mz_M := (⟨"TapLedgerModel", "zoneOf", "(I)I"⟩, prog_13_method_23_code, 2, (some .int), 11, 0, co_X11_zoneOf)
def mm_X11_widthOf : mz_M := (⟨"TapLedgerModel", "widthOf", "(I)I"⟩, prog_13_method_24_code, 7, (some .int), 11, 0, co_X11_widthOf)
def mm_X11_layJourneys : mz_M := (⟨"TapLedgerModel", "layJourneys", "(I)V"⟩, prog_13_method_25_code, 3, none, 11, 0, co_X11_layJourneys)
def mm_X11_ride : mz_M := (⟨"TapLedgerModel", "ride", "(III)I"⟩, prog_13_method_26_code, 4, (some .int), 11, 0, co_X11_ride)
def mm_X11_journey : mz_M := (⟨"TapLedgerModel", "journey", "(III)I"⟩, prog_13_method_27_code, 5, (some .int), 11, 0, co_X11_journey)
def mm_X11_weekAt : mz_M := (⟨"TapLedgerModel", "weekAt", "(I)I"⟩, prog_13_method_28_code, 4, (some .int), 11, 0, co_X11_weekAt)
def mm_X11_layDays : mz_M := (⟨"TapLedgerModel", "layDays", "(I)V"⟩, prog_13_method_29_code, 5, none, 11, 0, co_X11_layDays)
def mm_X11_weekOf : mz_M := (⟨"TapLedgerModel", "weekOf", "(I)I"⟩, prog_13_method_30_code, 4, (some .int), 11, 0, co_X11_weekOf)
def mm_X11_isOfWeek : mz_M := (⟨"TapLedgerModel", "isOfWeek", "(I)Z"⟩, prog_13_method_31_code, 5, (some .boolean), 11, 0, co_X11_isOfWeek)
def mm_X11_day : mz_M := (⟨"TapLedgerModel", "day", "(III)I"⟩, prog_13_method_32_code, 4, (some .int), 11, 0, co_X11_day)
def mm_X11_best : mz_M := (⟨"TapLedgerModel", "best", "(II)I"⟩, prog_13_method_33_code, 3, (some .int), 11, 0, co_X11_best)
def mm_X11_saved : mz_M := (⟨"TapLedgerModel", "saved", "(II)I"⟩, prog_13_method_34_code, 6, (some .int), 11, 0, co_X11_saved)
def mm_X11_would : mz_M := (⟨"TapLedgerModel", "would", "(IIIII)I"⟩, prog_13_method_35_code, 9, (some .int), 11, 0, co_X11_would)
def mm_X11_bar : mz_M := (⟨"TapLedgerModel", "bar", "(II)I"⟩, prog_13_method_36_code, 3, (some .int), 11, 0, co_X11_bar)
def mm_X11_hear : mz_M := (⟨"TapLedgerModel", "hear", "(I)I"⟩, prog_13_method_37_code, 3, (some .int), 11, 0, co_X11_hear)
def mm_X11_pass : mz_M := (⟨"TapLedgerModel", "pass", "(II)I"⟩, prog_13_method_38_code, 3, (some .int), 11, 0, co_X11_pass)
def mm_X11_image : mz_M := (⟨"TapLedgerModel", "image", "(I)I"⟩, prog_13_method_39_code, 3, (some .int), 11, 0, co_X11_image)
def mm_X11_restore : mz_M := (⟨"TapLedgerModel", "restore", "(I)I"⟩, prog_13_method_40_code, 3, (some .int), 11, 0, co_X11_restore)
def mm_X11_lagging : mz_M := (⟨"TapLedgerModel", "lagging", "()I"⟩, prog_13_method_41_code, 3, (some .int), 11, 0, co_X11_lagging)
def mm_X11_allBest : mz_M := (⟨"TapLedgerModel", "allBest", "()I"⟩, prog_13_method_42_code, 3, (some .int), 11, 0, co_X11_allBest)
def mm_X11_count : mz_M := (⟨"TapLedgerModel", "count", "(I)I"⟩, prog_13_method_43_code, 2, (some .int), 11, 0, co_X11_count)
def mz_tab : List mz_M := [mm_X0_init, mm_X0_number, mm_X0_barred, mm_X0_numberAt, mm_X0_isBarredAt, mm_X0_putBarred, mm_X0_bringTo, mm_X0_laggards, mm_X0_copyFrom, mm_X1_init, mm_X1_reckon, mm_X2_init, mm_X2_build, mm_X2_sum, mm_X2_width, mm_X2_owed, mm_X2_allSums, mm_X2_allOwed, mm_X2_widthOfWeek, mm_X3_init, mm_X3_build, mm_X3_open, mm_X3_takeRide, mm_X3_takeZone, mm_X3_size, mm_X3_moment, mm_X3_ridesIn, mm_X3_width, mm_X3_cost, mm_X3_journeyOfRide, mm_X4_init, mm_X4_build, mm_X4_weighWeek, mm_X4_markWeeks, mm_X4_cost, mm_X4_weeks, mm_X4_start, mm_X4_isInWeek, mm_X5_init, mm_X5_build, mm_X5_addWhole, mm_X5_addLacking, mm_X5_addRide, mm_X5_size, mm_X5_beginStation, mm_X5_endStation, mm_X5_beginMoment, mm_X5_kind, mm_X5_isLame, mm_X5_goesOn, mm_X6_init, mm_X6_at, mm_X6_put, mm_X6_add, mm_X6_fill, mm_X6_sum, mm_X6_copyFrom, mm_X7_init, mm_X7_tapsOf, mm_X7_copyFrom, mm_X8_init, mm_X8_size, mm_X8_moment, mm_X8_station, mm_X8_way, mm_X8_find, mm_X8_insert, mm_X8_remove, mm_X8_move, mm_X8_isWholeFrom, mm_X8_copyFrom, mm_X9_init, mm_X9_zoneOf, mm_X9_putZone, mm_X9_valueOf, mm_X9_putValue, mm_X9_near, mm_X9_journeyCost, mm_X9_capped, mm_X9_weekCost, mm_X9_copyFrom, mm_X10_init, mm_X10_zone, mm_X10_price, mm_X10_tap, mm_X10_untap, mm_X10_told, mm_X10_ride, mm_X10_journey, mm_X10_day, mm_X10_best, mm_X10_saved, mm_X10_would, mm_X10_bar, mm_X10_hear, mm_X10_pass, mm_X10_image, mm_X10_restore, mm_X10_count, mm_X10_refusalOfTap, mm_X10_refusalOfPart, mm_X10_reckon, mm_X10_costOfAllCards, mm_X10_imageOf, mm_X10_isWithin, mm_X10_isCard, mm_X10_isStation, mm_X10_isReader, mm_X10_isImage, mm_X10_isDay, mm_X10_isMinute, mm_X10_isWidth, mm_X10_isPrice, mm_X10_momentOf, mm_X10_dayOf, mm_X10_minuteOf, mm_X10_isBusy, mm_X11_init, mm_X11_in, mm_X11_isCard, mm_X11_isStation, mm_X11_isDay, mm_X11_zone, mm_X11_price, mm_X11_when, mm_X11_stationOf, mm_X11_isIn, mm_X11_tapAt, mm_X11_refusal, mm_X11_add, mm_X11_remove, mm_X11_tap, mm_X11_untap, mm_X11_told, mm_X11_mended, mm_X11_addRide, mm_X11_layRides, mm_X11_goesOn, mm_X11_isBusy, mm_X11_zoneOf, mm_X11_widthOf, mm_X11_layJourneys, mm_X11_ride, mm_X11_journey, mm_X11_weekAt, mm_X11_layDays, mm_X11_weekOf, mm_X11_isOfWeek, mm_X11_day, mm_X11_best, mm_X11_saved, mm_X11_would, mm_X11_bar, mm_X11_hear, mm_X11_pass, mm_X11_image, mm_X11_restore, mm_X11_lagging, mm_X11_allBest, mm_X11_count]
def mz_FL : List (Nat × Nat × Nat × Nat × Nat) := [(6, 7, 6, 0, 0), (8, 14, 8, 0, 0), (8, 20, 8, 1, 0), (8, 23, 8, 2, 0), (8, 26, 8, 3, 0), (9, 14, 9, 0, 0), (9, 20, 9, 1, 0), (9, 23, 9, 2, 0), (9, 26, 9, 3, 0), (9, 29, 9, 4, 0), (9, 33, 9, 5, 0), (0, 14, 0, 0, 0), (0, 20, 0, 1, 0), (0, 23, 0, 2, 0), (0, 27, 0, 3, 0), (7, 10, 7, 0, 0), (7, 16, 7, 1, 0), (7, 19, 7, 2, 0), (7, 22, 7, 3, 0), (7, 28, 7, 4, 0), (10, 47, 7, 4, 1), (7, 35, 7, 5, 0), (10, 218, 7, 5, 1), (5, 14, 5, 0, 0), (5, 20, 5, 1, 0), (5, 23, 5, 2, 0), (5, 26, 5, 3, 0), (5, 29, 5, 4, 0), (5, 32, 5, 5, 0), (5, 35, 5, 6, 0), (5, 38, 5, 7, 0), (3, 14, 3, 0, 0), (3, 20, 3, 1, 0), (3, 23, 3, 2, 0), (3, 26, 3, 3, 0), (3, 29, 3, 4, 0), (3, 32, 3, 5, 0), (3, 35, 3, 6, 0), (2, 14, 2, 0, 0), (2, 20, 2, 1, 0), (2, 23, 2, 2, 0), (4, 14, 4, 0, 0), (4, 20, 4, 1, 0), (4, 23, 4, 2, 0), (4, 26, 4, 3, 0), (4, 29, 4, 4, 0), (1, 10, 1, 0, 0), (10, 132, 1, 0, 1), (1, 19, 1, 1, 0), (10, 151, 1, 1, 1), (1, 26, 1, 2, 0), (10, 174, 1, 2, 1), (1, 33, 1, 3, 0), (10, 187, 1, 3, 1), (10, 10, 10, 0, 0), (10, 16, 10, 1, 0), (10, 19, 10, 2, 0), (10, 22, 10, 3, 0), (10, 29, 10, 4, 0), (10, 36, 10, 5, 0), (11, 7, 11, 0, 0), (11, 13, 11, 1, 0), (11, 16, 11, 2, 0), (11, 20, 11, 3, 0), (11, 23, 11, 4, 0), (11, 26, 11, 5, 0), (11, 29, 11, 6, 0), (11, 32, 11, 7, 0), (11, 35, 11, 8, 0), (11, 38, 11, 9, 0), (11, 111, 11, 10, 0), (11, 41, 11, 11, 0), (11, 44, 11, 12, 0), (11, 47, 11, 13, 0), (11, 50, 11, 14, 0), (11, 131, 11, 15, 0), (11, 53, 11, 16, 0), (11, 56, 11, 17, 0), (11, 59, 11, 18, 0), (11, 62, 11, 19, 0), (11, 65, 11, 20, 0), (11, 68, 11, 21, 0)]
def mz_FP : List Nat := [73, 78, 79, 80, 81, 105, 106, 107, 108, 109, 110, 132, 133, 134, 135, 145, 146, 147, 148, 149, 150, 151, 152, 182, 183, 184, 185, 186, 187, 188, 189, 215, 216, 217, 218, 219, 220, 221, 245, 246, 247, 263, 264, 265, 266, 267, 279, 280, 281, 282, 283, 284, 285, 286, 296, 297, 298, 299, 300, 301, 774, 775, 776, 777, 778, 779, 780, 781, 782, 783, 784, 785, 786, 787, 788, 789, 790, 791, 792, 793, 794, 795]
def mz_ML : List (Nat × Nat × Nat × Nat) := [(12, 9, 81, 4), (10, 1, 999, 6), (10, 9, 57, 5), (7, 1, 999, 6), (7, 9, 60, 5), (8, 3, 999, 6), (8, 11, 50, 4), (6, 1, 999, 6), (7, 27, 71, 4), (9, 3, 999, 6), (9, 11, 50, 4), (9, 40, 52, 0), (7, 34, 0, 5), (0, 3, 999, 6), (0, 11, 50, 4), (10, 28, 60, 5), (10, 35, 9, 5), (1, 1, 999, 6), (1, 9, 38, 5), (5, 3, 999, 6), (5, 11, 50, 4), (1, 18, 19, 5), (3, 3, 999, 6), (3, 11, 50, 4), (1, 25, 11, 5), (2, 3, 999, 6), (2, 11, 50, 4), (1, 32, 30, 5), (4, 3, 999, 6), (4, 11, 50, 4), (12, 13, 82, 0), (10, 40, 106, 2), (10, 107, 104, 2), (10, 44, 111, 2), (10, 51, 72, 0), (9, 44, 51, 0), (10, 57, 73, 0), (12, 18, 83, 0), (10, 61, 112, 2), (10, 65, 74, 0), (10, 69, 75, 0), (12, 23, 84, 0), (10, 73, 99, 0), (10, 91, 105, 2), (10, 94, 109, 2), (10, 97, 110, 2), (10, 77, 58, 0), (10, 81, 113, 2), (10, 100, 65, 0), (8, 30, 51, 0), (10, 87, 61, 0), (10, 84, 66, 0), (8, 34, 68, 0), (8, 38, 52, 0), (12, 28, 85, 0), (10, 103, 67, 0), (12, 32, 86, 0), (10, 110, 62, 0), (10, 113, 114, 2), (10, 116, 115, 2), (10, 119, 63, 0), (10, 122, 64, 0), (12, 36, 87, 0), (10, 125, 100, 2), (10, 129, 101, 0), (10, 214, 10, 0), (1, 37, 39, 0), (5, 42, 54, 0), (5, 45, 61, 0), (5, 50, 69, 0), (8, 41, 114, 3), (5, 54, 40, 0), (5, 61, 63, 0), (5, 65, 52, 0), (5, 69, 62, 0), (5, 72, 42, 0), (5, 58, 41, 0), (5, 76, 64, 0), (5, 79, 51, 0), (1, 41, 20, 0), (3, 39, 43, 0), (3, 44, 51, 0), (3, 48, 76, 0), (3, 53, 49, 0), (5, 82, 114, 3), (3, 57, 46, 0), (3, 60, 21, 0), (3, 78, 52, 0), (3, 63, 22, 0), (3, 82, 53, 0), (6, 13, 51, 0), (6, 17, 52, 0), (3, 85, 48, 0), (3, 88, 23, 0), (3, 100, 997, 8), (3, 106, 998, 7), (3, 91, 44, 0), (3, 94, 72, 0), (3, 97, 45, 0), (3, 67, 27, 0), (3, 70, 116, 3), (3, 74, 77, 0), (1, 44, 12, 0), (2, 26, 54, 0), (2, 29, 24, 0), (2, 35, 25, 0), (2, 39, 114, 3), (2, 42, 28, 0), (2, 45, 53, 0), (2, 49, 51, 0), (2, 52, 27, 0), (2, 55, 998, 7), (2, 61, 52, 0), (2, 64, 78, 0), (9, 48, 997, 8), (1, 47, 31, 0), (4, 32, 52, 0), (4, 36, 15, 0), (4, 42, 51, 0), (4, 45, 18, 0), (4, 48, 79, 0), (4, 53, 32, 0), (4, 56, 33, 0), (10, 136, 43, 0), (10, 139, 44, 0), (10, 142, 45, 0), (10, 145, 47, 0), (10, 148, 48, 0), (10, 155, 29, 0), (12, 40, 88, 0), (10, 160, 24, 0), (10, 161, 25, 0), (10, 162, 26, 0), (10, 165, 27, 0), (10, 168, 28, 0), (10, 171, 116, 2), (12, 44, 89, 0), (10, 178, 13, 0), (10, 183, 14, 0), (10, 184, 15, 0), (10, 191, 37, 0), (12, 48, 90, 0), (10, 196, 34, 0), (10, 198, 35, 0), (10, 201, 36, 0), (12, 52, 91, 0), (10, 204, 17, 0), (2, 69, 55, 0), (10, 207, 16, 0), (12, 56, 92, 0), (10, 210, 70, 0), (8, 44, 56, 0), (12, 60, 93, 0), (10, 222, 5, 0), (10, 228, 1, 0), (12, 64, 94, 0), (10, 231, 107, 2), (10, 234, 3, 0), (0, 30, 51, 0), (10, 237, 6, 0), (0, 34, 52, 0), (12, 69, 95, 0), (10, 240, 4, 0), (12, 73, 96, 0), (10, 244, 108, 2), (10, 247, 103, 0), (10, 251, 59, 0), (7, 39, 70, 0), (7, 43, 80, 0), (9, 54, 56, 0), (7, 46, 8, 0), (0, 38, 56, 0), (12, 77, 97, 0), (12, 81, 98, 0), (10, 254, 2, 0), (10, 257, 7, 0), (10, 260, 102, 0), (12, 12, 117, 4), (11, 1, 999, 6), (12, 17, 122, 0), (11, 75, 120, 2), (11, 71, 118, 2), (12, 22, 123, 0), (12, 27, 131, 0), (11, 92, 128, 0), (11, 83, 119, 2), (11, 86, 121, 2), (11, 89, 127, 0), (11, 79, 124, 0), (11, 96, 129, 0), (12, 31, 132, 0), (11, 100, 130, 0), (12, 35, 133, 0), (11, 104, 125, 0), (11, 107, 126, 0), (12, 39, 142, 0), (11, 143, 141, 0), (11, 127, 136, 0), (11, 115, 134, 0), (11, 119, 135, 0), (11, 134, 137, 0), (11, 137, 140, 0), (11, 123, 139, 0), (11, 140, 138, 2), (12, 43, 143, 0), (12, 47, 148, 0), (11, 152, 145, 0), (11, 146, 144, 0), (11, 155, 147, 0), (11, 149, 146, 0), (12, 51, 149, 0), (12, 55, 150, 0), (12, 59, 151, 0), (12, 63, 152, 0), (12, 68, 153, 0), (12, 72, 154, 0), (12, 76, 155, 0), (12, 80, 156, 0), (12, 84, 159, 0), (11, 159, 157, 0), (11, 163, 158, 0)]
def mz_MP : List Nat := [49, 52, 57, 60, 63, 66, 69, 72, 93, 96, 98, 101, 126, 129, 131, 167, 170, 173, 176, 179, 181, 209, 212, 214, 239, 242, 244, 257, 260, 262, 315, 319, 322, 325, 328, 332, 336, 340, 344, 347, 351, 355, 359, 363, 366, 369, 372, 376, 379, 383, 384, 388, 392, 396, 397, 401, 405, 409, 413, 416, 419, 423, 427, 431, 434, 438, 442, 446, 450, 451, 455, 456, 460, 461, 462, 463, 467, 471, 472, 473, 477, 481, 482, 486, 490, 491, 495, 499, 500, 504, 508, 509, 510, 514, 518, 521, 524, 528, 529, 533, 537, 540, 544, 548, 549, 553, 557, 558, 562, 563, 564, 565, 566, 567, 571, 572, 576, 577, 581, 582, 586, 590, 594, 598, 599, 600, 601, 605, 606, 610, 614, 615, 616, 620, 621, 622, 623, 627, 631, 635, 636, 640, 644, 648, 652, 656, 660, 664, 668, 672, 676, 680, 685, 689, 693, 697, 701, 704, 708, 709, 713, 714, 718, 722, 726, 729, 733, 737, 738, 742, 743, 747, 748, 752, 756, 760, 764, 770, 773, 842, 846, 849, 852, 856, 860, 864, 867, 870, 874, 878, 882, 886, 890, 894, 898, 902, 906, 910, 914, 918, 922, 926, 930, 934, 937, 941, 945, 949, 953, 957, 961, 965, 969, 974, 978, 982, 986, 990, 994, 998, 1002]
def mz_CL : List (Nat × Nat × Nat) := [(12, 7, 10), (10, 7, 7), (7, 7, 8), (8, 9, 6), (7, 25, 9), (9, 9, 6), (7, 32, 0), (0, 9, 6), (10, 26, 8), (10, 33, 1), (1, 7, 5), (5, 9, 6), (1, 16, 3), (3, 9, 6), (1, 23, 2), (2, 9, 6), (1, 30, 4), (4, 9, 6), (12, 10, 11)]
def mz_CP : List Nat := [47, 55, 61, 67, 91, 97, 124, 130, 166, 168, 174, 180, 207, 213, 237, 243, 255, 261, 768]
def mz_KL : List (Nat × Nat × Nat) := [(10, 217, 100000), (11, 158, 100000)]
def mz_KP : List Nat := [684, 973]
def mz_GS : List (Nat × Nat) := [(9, 36)]
