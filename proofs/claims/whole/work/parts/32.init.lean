def csX (D : gDt) (base : Nat) : List va_E := [.inr (7, [.ref (base + (0 + 1)), .ref (base + (0 + 13)), .ref (base + (0 + 25)), .ref (base + (0 + 37)), .ref (base + (0 + 50)), .int (0 : Int32), .ref (base + (0 + 63)), .int (0 : Int32), .ref (base + (0 + 67)), .ref (base + (0 + 69))]), .inr (6, [.ref (base + (0 + 2)), .ref (base + (0 + 3)), .ref (base + (0 + 4)), .ref (base + (0 + 5)), .ref (base + (0 + 6)), .ref (base + (0 + 7)), .ref (base + (0 + 8)), .ref (base + (0 + 9)), .ref (base + (0 + 10)), .int (0 : Int32), .int (0 : Int32), .int (0 : Int32), .int (0 : Int32), .ref (base + (0 + 11))]), .inl (D.2 0, (8, .inl (upd (upd (upd (upd (upd (upd (upd (upd (fun _ => 0) (0 : Int32).toNatClampNeg (3 : Int32)) (1 : Int32).toNatClampNeg (3 : Int32)) (2 : Int32).toNatClampNeg (3 : Int32)) (3 : Int32).toNatClampNeg (3 : Int32)) (4 : Int32).toNatClampNeg (3 : Int32)) (5 : Int32).toNatClampNeg (3 : Int32)) (6 : Int32).toNatClampNeg (3 : Int32)) (7 : Int32).toNatClampNeg (3 : Int32)))), .inl (D.2 0, (8, .inl (fun _ => 0))), .inl (D.2 0, (6, .inl (fun _ => 0))), .inl (D.2 0, (6, .inl (fun _ => 0))), .inl (D.2 0, (6, .inl (fun _ => 0))), .inl (D.2 0, (6, .inl (fun _ => 0))), .inl (D.2 1, (6, .inl (fun _ => 0))), .inl (D.2 0, (24, .inl (fun _ => 0))), .inl (D.2 0, (6, .inl (fun _ => 0))), .inr (0, [.ref (base + (0 + 12)), .int (0 : Int32), .int (5 : Int32)]), .inl (D.2 0, (100, .inl (fun _ => 0))), .inr (6, [.ref (base + (0 + 14)), .ref (base + (0 + 15)), .ref (base + (0 + 16)), .ref (base + (0 + 17)), .ref (base + (0 + 18)), .ref (base + (0 + 19)), .ref (base + (0 + 20)), .ref (base + (0 + 21)), .ref (base + (0 + 22)), .int (0 : Int32), .int (0 : Int32), .int (0 : Int32), .int (0 : Int32), .ref (base + (0 + 23))]), .inl (D.2 0, (8, .inl (upd (upd (upd (upd (upd (upd (upd (upd (fun _ => 0) (0 : Int32).toNatClampNeg (3 : Int32)) (1 : Int32).toNatClampNeg (3 : Int32)) (2 : Int32).toNatClampNeg (3 : Int32)) (3 : Int32).toNatClampNeg (3 : Int32)) (4 : Int32).toNatClampNeg (3 : Int32)) (5 : Int32).toNatClampNeg (3 : Int32)) (6 : Int32).toNatClampNeg (3 : Int32)) (7 : Int32).toNatClampNeg (3 : Int32)))), .inl (D.2 0, (8, .inl (fun _ => 0))), .inl (D.2 0, (6, .inl (fun _ => 0))), .inl (D.2 0, (6, .inl (fun _ => 0))), .inl (D.2 0, (6, .inl (fun _ => 0))), .inl (D.2 0, (6, .inl (fun _ => 0))), .inl (D.2 1, (6, .inl (fun _ => 0))), .inl (D.2 0, (24, .inl (fun _ => 0))), .inl (D.2 0, (6, .inl (fun _ => 0))), .inr (0, [.ref (base + (0 + 24)), .int (0 : Int32), .int (5 : Int32)]), .inl (D.2 0, (100, .inl (fun _ => 0))), .inr (6, [.ref (base + (0 + 26)), .ref (base + (0 + 27)), .ref (base + (0 + 28)), .ref (base + (0 + 29)), .ref (base + (0 + 30)), .ref (base + (0 + 31)), .ref (base + (0 + 32)), .ref (base + (0 + 33)), .ref (base + (0 + 34)), .int (0 : Int32), .int (0 : Int32), .int (0 : Int32), .int (0 : Int32), .ref (base + (0 + 35))]), .inl (D.2 0, (8, .inl (upd (upd (upd (upd (upd (upd (upd (upd (fun _ => 0) (0 : Int32).toNatClampNeg (3 : Int32)) (1 : Int32).toNatClampNeg (3 : Int32)) (2 : Int32).toNatClampNeg (3 : Int32)) (3 : Int32).toNatClampNeg (3 : Int32)) (4 : Int32).toNatClampNeg (3 : Int32)) (5 : Int32).toNatClampNeg (3 : Int32)) (6 : Int32).toNatClampNeg (3 : Int32)) (7 : Int32).toNatClampNeg (3 : Int32)))), .inl (D.2 0, (8, .inl (fun _ => 0))), .inl (D.2 0, (6, .inl (fun _ => 0))), .inl (D.2 0, (6, .inl (fun _ => 0))), .inl (D.2 0, (6, .inl (fun _ => 0))), .inl (D.2 0, (6, .inl (fun _ => 0))), .inl (D.2 1, (6, .inl (fun _ => 0))), .inl (D.2 0, (24, .inl (fun _ => 0))), .inl (D.2 0, (6, .inl (fun _ => 0))), .inr (0, [.ref (base + (0 + 36)), .int (0 : Int32), .int (5 : Int32)]), .inl (D.2 0, (100, .inl (fun _ => 0))), .inr (1, [.ref (base + (0 + 38)), .ref (base + (0 + 42)), .ref (base + (0 + 46))]), .inr (2, [.ref (base + (0 + 39)), .ref (base + (0 + 40)), .ref (base + (0 + 41)), .int (imin (5 : Int32) (10 : Int32)), .int (0 : Int32)]), .inl (D.2 0, (10, .inl (fun _ => 0))), .inl (D.2 0, (10, .inl (fun _ => 0))), .inl (D.2 0, (10, .inl (fun _ => 0))), .inr (2, [.ref (base + (0 + 43)), .ref (base + (0 + 44)), .ref (base + (0 + 45)), .int (imin (10 : Int32) (10 : Int32)), .int (0 : Int32)]), .inl (D.2 0, (10, .inl (fun _ => 0))), .inl (D.2 0, (10, .inl (fun _ => 0))), .inl (D.2 0, (10, .inl (fun _ => 0))), .inr (2, [.ref (base + (0 + 47)), .ref (base + (0 + 48)), .ref (base + (0 + 49)), .int (imin (8 : Int32) (10 : Int32)), .int (0 : Int32)]), .inl (D.2 0, (10, .inl (fun _ => 0))), .inl (D.2 0, (10, .inl (fun _ => 0))), .inl (D.2 0, (10, .inl (fun _ => 0))), .inr (1, [.ref (base + (0 + 51)), .ref (base + (0 + 55)), .ref (base + (0 + 59))]), .inr (2, [.ref (base + (0 + 52)), .ref (base + (0 + 53)), .ref (base + (0 + 54)), .int (imin (5 : Int32) (10 : Int32)), .int (0 : Int32)]), .inl (D.2 0, (10, .inl (fun _ => 0))), .inl (D.2 0, (10, .inl (fun _ => 0))), .inl (D.2 0, (10, .inl (fun _ => 0))), .inr (2, [.ref (base + (0 + 56)), .ref (base + (0 + 57)), .ref (base + (0 + 58)), .int (imin (10 : Int32) (10 : Int32)), .int (0 : Int32)]), .inl (D.2 0, (10, .inl (fun _ => 0))), .inl (D.2 0, (10, .inl (fun _ => 0))), .inl (D.2 0, (10, .inl (fun _ => 0))), .inr (2, [.ref (base + (0 + 60)), .ref (base + (0 + 61)), .ref (base + (0 + 62)), .int (imin (8 : Int32) (10 : Int32)), .int (0 : Int32)]), .inl (D.2 0, (10, .inl (fun _ => 0))), .inl (D.2 0, (10, .inl (fun _ => 0))), .inl (D.2 0, (10, .inl (fun _ => 0))), .inr (3, [.ref (base + (0 + 64)), .int (0 : Int32), .int (0 : Int32), .ref (base + (0 + 65))]), .inl (D.2 0, (100, .inl (fun _ => 0))), .inr (0, [.ref (base + (0 + 66)), .int (0 : Int32), .int (5 : Int32)]), .inl (D.2 0, (100, .inl (fun _ => 0))), .inr (4, [.ref (base + (0 + 68)), .int (0 : Int32), .int (0 : Int32), .int (0 : Int32), .int (0 : Int32)]), .inl (D.2 0, (20, .inl (fun _ => 0))), .inl (D.2 3, (6, .inr (.inr (.inr (.inr (va_up (va_up (va_up (va_up (va_up (va_up (fun _ => none) (0 : Int32).toNatClampNeg (some (base + (0 + 70)))) (1 : Int32).toNatClampNeg (some (base + (0 + 72)))) (2 : Int32).toNatClampNeg (some (base + (0 + 74)))) (3 : Int32).toNatClampNeg (some (base + (0 + 76)))) (4 : Int32).toNatClampNeg (some (base + (0 + 78)))) (5 : Int32).toNatClampNeg (some (base + (0 + 80))))))))), .inr (5, [.ref (base + (0 + 71)), .int (-1 : Int32), .int (0 : Int32)]), .inl (D.2 2, (60, .inr (.inl (fun _ => 0)))), .inr (5, [.ref (base + (0 + 73)), .int (-1 : Int32), .int (0 : Int32)]), .inl (D.2 2, (60, .inr (.inl (fun _ => 0)))), .inr (5, [.ref (base + (0 + 75)), .int (-1 : Int32), .int (0 : Int32)]), .inl (D.2 2, (60, .inr (.inl (fun _ => 0)))), .inr (5, [.ref (base + (0 + 77)), .int (-1 : Int32), .int (0 : Int32)]), .inl (D.2 2, (60, .inr (.inl (fun _ => 0)))), .inr (5, [.ref (base + (0 + 79)), .int (-1 : Int32), .int (0 : Int32)]), .inl (D.2 2, (60, .inr (.inl (fun _ => 0)))), .inr (5, [.ref (base + (0 + 81)), .int (-1 : Int32), .int (0 : Int32)]), .inl (D.2 2, (60, .inr (.inl (fun _ => 0))))]
def csM (D : gDt) (base : Nat) : List va_E := [.inr (8, [.int (0 : Int32), .int (0 : Int32), .int (0 : Int32), .int (0 : Int32), .int (0 : Int32), .ref (base + (82 + 1)), .ref (base + (82 + 2)), .ref (base + (82 + 3)), .ref (base + (82 + 4)), .ref (base + (82 + 5)), .ref (base + (82 + 6)), .ref (base + (82 + 7)), .int (0 : Int32), .int (-1 : Int32), .int (0 : Int32), .int (0 : Int32), .int (0 : Int32), .ref (base + (82 + 8)), .ref (base + (82 + 9)), .ref (base + (82 + 10)), .ref (base + (82 + 11)), .ref (base + (82 + 12)), .ref (base + (82 + 13)), .ref (base + (82 + 14)), .ref (base + (82 + 15)), .int (0 : Int32), .int (0 : Int32), .int (0 : Int32), .ref (base + (82 + 16)), .ref (base + (82 + 17)), .int (0 : Int32), .int (0 : Int32), .int (0 : Int32), .int (0 : Int32), .ref (base + (82 + 18)), .ref (base + (82 + 19)), .ref (base + (82 + 20)), .int (0 : Int32), .ref (base + (82 + 21)), .ref (base + (82 + 22)), .ref (base + (82 + 23)), .int (0 : Int32), .int (0 : Int32), .ref (base + (82 + 24)), .ref (base + (82 + 25)), .ref (base + (82 + 26)), .ref (base + (82 + 27)), .int (0 : Int32), .int (-1 : Int32), .int (0 : Int32), .int (0 : Int32), .int (0 : Int32), .int (0 : Int32), .int (0 : Int32), .int (0 : Int32), .int (0 : Int32), .int (0 : Int32), .ref (base + (82 + 28)), .ref (base + (82 + 29)), .ref (base + (82 + 30)), .ref (base + (82 + 31)), .ref (base + (82 + 32)), .ref (base + (82 + 33)), .ref (base + (82 + 34)), .ref (base + (82 + 35)), .ref (base + (82 + 36)), .ref (base + (82 + 37)), .ref (base + (82 + 38)), .ref (base + (82 + 39)), .ref (base + (82 + 40)), .ref (base + (82 + 41)), .int (0 : Int32), .ref (base + (82 + 42)), .ref (base + (82 + 43)), .ref (base + (82 + 44)), .ref (base + (82 + 45)), .ref (base + (82 + 46))]), .inl (D.2 0, (6, .inl (fun _ => 0))), .inl (D.2 0, (6, .inl (fun _ => 0))), .inl (D.2 0, (6, .inl (fun _ => 0))), .inl (D.2 0, (6, .inl (fun _ => 0))), .inl (D.2 0, (24, .inl (fun _ => 0))), .inl (D.2 0, (8, .inl (fun _ => 0))), .inl (D.2 0, (8, .inl (upd (upd (upd (upd (upd (upd (upd (upd (fun _ => 0) (0 : Int32).toNatClampNeg (3 : Int32)) (1 : Int32).toNatClampNeg (3 : Int32)) (2 : Int32).toNatClampNeg (3 : Int32)) (3 : Int32).toNatClampNeg (3 : Int32)) (4 : Int32).toNatClampNeg (3 : Int32)) (5 : Int32).toNatClampNeg (3 : Int32)) (6 : Int32).toNatClampNeg (3 : Int32)) (7 : Int32).toNatClampNeg (3 : Int32)))), .inl (D.2 0, (100, .inl (fun _ => 0))), .inl (D.2 0, (6, .inl (fun _ => 0))), .inl (D.2 0, (60, .inl (fun _ => 0))), .inl (D.2 0, (60, .inl (fun _ => 0))), .inl (D.2 0, (60, .inl (fun _ => 0))), .inl (D.2 0, (60, .inl (fun _ => 0))), .inl (D.2 0, (600, .inl (fun _ => 0))), .inl (D.2 0, (101, .inl (fun _ => 0))), .inl (D.2 0, (14, .inl (upd (upd (upd (upd (upd (upd (upd (upd (upd (upd (upd (upd (upd (upd (fun _ => 0) (0 : Int32).toNatClampNeg (119 : Int32)) (1 : Int32).toNatClampNeg (97 : Int32)) (2 : Int32).toNatClampNeg (114 : Int32)) (3 : Int32).toNatClampNeg (109 : Int32)) (4 : Int32).toNatClampNeg (115 : Int32)) (5 : Int32).toNatClampNeg (104 : Int32)) (6 : Int32).toNatClampNeg (97 : Int32)) (7 : Int32).toNatClampNeg (109 : Int32)) (8 : Int32).toNatClampNeg (101 : Int32)) (9 : Int32).toNatClampNeg (115 : Int32)) (10 : Int32).toNatClampNeg (108 : Int32)) (11 : Int32).toNatClampNeg (111 : Int32)) (12 : Int32).toNatClampNeg (112 : Int32)) (13 : Int32).toNatClampNeg (101 : Int32)))), .inl (D.2 1, (100, .inl (fun _ => 0))), .inl (D.2 0, (6, .inl (fun _ => 0))), .inl (D.2 0, (6, .inl (fun _ => 0))), .inl (D.2 0, (8, .inl (fun _ => 0))), .inl (D.2 0, (5, .inl (fun _ => 0))), .inl (D.2 0, (5, .inl (fun _ => 0))), .inl (D.2 0, (5, .inl (fun _ => 0))), .inl (D.2 0, (10, .inl (fun _ => 0))), .inl (D.2 0, (10, .inl (fun _ => 0))), .inl (D.2 0, (8, .inl (fun _ => 0))), .inl (D.2 0, (8, .inl (fun _ => 0))), .inl (D.2 0, (6, .inl (fun _ => 0))), .inl (D.2 0, (6, .inl (fun _ => 0))), .inl (D.2 0, (6, .inl (fun _ => 0))), .inl (D.2 0, (6, .inl (fun _ => 0))), .inl (D.2 0, (24, .inl (fun _ => 0))), .inl (D.2 0, (8, .inl (fun _ => 0))), .inl (D.2 0, (8, .inl (fun _ => 0))), .inl (D.2 0, (5, .inl (fun _ => 0))), .inl (D.2 0, (5, .inl (fun _ => 0))), .inl (D.2 0, (5, .inl (fun _ => 0))), .inl (D.2 0, (10, .inl (fun _ => 0))), .inl (D.2 0, (10, .inl (fun _ => 0))), .inl (D.2 0, (8, .inl (fun _ => 0))), .inl (D.2 0, (8, .inl (fun _ => 0))), .inl (D.2 0, (20, .inl (fun _ => 0))), .inl (D.2 0, (6, .inl (upd (upd (upd (upd (upd (upd (fun _ => 0) (0 : Int32).toNatClampNeg (-1 : Int32)) (1 : Int32).toNatClampNeg (-1 : Int32)) (2 : Int32).toNatClampNeg (-1 : Int32)) (3 : Int32).toNatClampNeg (-1 : Int32)) (4 : Int32).toNatClampNeg (-1 : Int32)) (5 : Int32).toNatClampNeg (-1 : Int32)))), .inl (D.2 0, (6, .inl (fun _ => 0))), .inl (D.2 2, (360, .inr (.inl (fun _ => 0)))), .inl (D.2 2, (60, .inr (.inl (fun _ => 0))))]
def iI : List (List Int32) := [[0, 0, 0, 0, 0, (0 : Int32), 0, (0 : Int32), 0, 0], [0, 0, 0, 0, 0, 0, 0, 0, 0, (0 : Int32), (0 : Int32), (0 : Int32), (0 : Int32), 0], [], [], [], [], [], [], [], [], [], [0, (0 : Int32), (5 : Int32)], [], [0, 0, 0, 0, 0, 0, 0, 0, 0, (0 : Int32), (0 : Int32), (0 : Int32), (0 : Int32), 0], [], [], [], [], [], [], [], [], [], [0, (0 : Int32), (5 : Int32)], [], [0, 0, 0, 0, 0, 0, 0, 0, 0, (0 : Int32), (0 : Int32), (0 : Int32), (0 : Int32), 0], [], [], [], [], [], [], [], [], [], [0, (0 : Int32), (5 : Int32)], [], [0, 0, 0], [0, 0, 0, (imin (5 : Int32) (10 : Int32)), (0 : Int32)], [], [], [], [0, 0, 0, (imin (10 : Int32) (10 : Int32)), (0 : Int32)], [], [], [], [0, 0, 0, (imin (8 : Int32) (10 : Int32)), (0 : Int32)], [], [], [], [0, 0, 0], [0, 0, 0, (imin (5 : Int32) (10 : Int32)), (0 : Int32)], [], [], [], [0, 0, 0, (imin (10 : Int32) (10 : Int32)), (0 : Int32)], [], [], [], [0, 0, 0, (imin (8 : Int32) (10 : Int32)), (0 : Int32)], [], [], [], [0, (0 : Int32), (0 : Int32), 0], [], [0, (0 : Int32), (5 : Int32)], [], [0, (0 : Int32), (0 : Int32), (0 : Int32), (0 : Int32)], [], [], [0, (-1 : Int32), (0 : Int32)], [], [0, (-1 : Int32), (0 : Int32)], [], [0, (-1 : Int32), (0 : Int32)], [], [0, (-1 : Int32), (0 : Int32)], [], [0, (-1 : Int32), (0 : Int32)], [], [0, (-1 : Int32), (0 : Int32)], [], [(0 : Int32), (0 : Int32), (0 : Int32), (0 : Int32), (0 : Int32), 0, 0, 0, 0, 0, 0, 0, (0 : Int32), (-1 : Int32), (0 : Int32), (0 : Int32), (0 : Int32), 0, 0, 0, 0, 0, 0, 0, 0, (0 : Int32), (0 : Int32), (0 : Int32), 0, 0, (0 : Int32), (0 : Int32), (0 : Int32), (0 : Int32), 0, 0, 0, (0 : Int32), 0, 0, 0, (0 : Int32), (0 : Int32), 0, 0, 0, 0, (0 : Int32), (-1 : Int32), (0 : Int32), (0 : Int32), (0 : Int32), (0 : Int32), (0 : Int32), (0 : Int32), (0 : Int32), (0 : Int32), 0, 0, 0, 0, 0, 0, 0, 0, 0, 0, 0, 0, 0, 0, (0 : Int32), 0, 0, 0, 0, 0], [], [], [], [], [], [], [], [], [], [], [], [], [], [], [], [], [], [], [], [], [], [], [], [], [], [], [], [], [], [], [], [], [], [], [], [], [], [], [], [], [], [], [], [], [], []]
def iA : List (Nat → Int32) := [(fun _ => 0), (fun _ => 0), (upd (upd (upd (upd (upd (upd (upd (upd (fun _ => 0) (0 : Int32).toNatClampNeg (3 : Int32)) (1 : Int32).toNatClampNeg (3 : Int32)) (2 : Int32).toNatClampNeg (3 : Int32)) (3 : Int32).toNatClampNeg (3 : Int32)) (4 : Int32).toNatClampNeg (3 : Int32)) (5 : Int32).toNatClampNeg (3 : Int32)) (6 : Int32).toNatClampNeg (3 : Int32)) (7 : Int32).toNatClampNeg (3 : Int32)), (fun _ => 0), (fun _ => 0), (fun _ => 0), (fun _ => 0), (fun _ => 0), (fun _ => 0), (fun _ => 0), (fun _ => 0), (fun _ => 0), (fun _ => 0), (fun _ => 0), (upd (upd (upd (upd (upd (upd (upd (upd (fun _ => 0) (0 : Int32).toNatClampNeg (3 : Int32)) (1 : Int32).toNatClampNeg (3 : Int32)) (2 : Int32).toNatClampNeg (3 : Int32)) (3 : Int32).toNatClampNeg (3 : Int32)) (4 : Int32).toNatClampNeg (3 : Int32)) (5 : Int32).toNatClampNeg (3 : Int32)) (6 : Int32).toNatClampNeg (3 : Int32)) (7 : Int32).toNatClampNeg (3 : Int32)), (fun _ => 0), (fun _ => 0), (fun _ => 0), (fun _ => 0), (fun _ => 0), (fun _ => 0), (fun _ => 0), (fun _ => 0), (fun _ => 0), (fun _ => 0), (fun _ => 0), (upd (upd (upd (upd (upd (upd (upd (upd (fun _ => 0) (0 : Int32).toNatClampNeg (3 : Int32)) (1 : Int32).toNatClampNeg (3 : Int32)) (2 : Int32).toNatClampNeg (3 : Int32)) (3 : Int32).toNatClampNeg (3 : Int32)) (4 : Int32).toNatClampNeg (3 : Int32)) (5 : Int32).toNatClampNeg (3 : Int32)) (6 : Int32).toNatClampNeg (3 : Int32)) (7 : Int32).toNatClampNeg (3 : Int32)), (fun _ => 0), (fun _ => 0), (fun _ => 0), (fun _ => 0), (fun _ => 0), (fun _ => 0), (fun _ => 0), (fun _ => 0), (fun _ => 0), (fun _ => 0), (fun _ => 0), (fun _ => 0), (fun _ => 0), (fun _ => 0), (fun _ => 0), (fun _ => 0), (fun _ => 0), (fun _ => 0), (fun _ => 0), (fun _ => 0), (fun _ => 0), (fun _ => 0), (fun _ => 0), (fun _ => 0), (fun _ => 0), (fun _ => 0), (fun _ => 0), (fun _ => 0), (fun _ => 0), (fun _ => 0), (fun _ => 0), (fun _ => 0), (fun _ => 0), (fun _ => 0), (fun _ => 0), (fun _ => 0), (fun _ => 0), (fun _ => 0), (fun _ => 0), (fun _ => 0), (fun _ => 0), (fun _ => 0), (fun _ => 0), (fun _ => 0), (fun _ => 0), (fun _ => 0), (fun _ => 0), (fun _ => 0), (fun _ => 0), (fun _ => 0), (fun _ => 0), (fun _ => 0), (fun _ => 0), (fun _ => 0), (fun _ => 0), (fun _ => 0), (fun _ => 0), (fun _ => 0), (fun _ => 0), (fun _ => 0), (fun _ => 0), (fun _ => 0), (upd (upd (upd (upd (upd (upd (upd (upd (fun _ => 0) (0 : Int32).toNatClampNeg (3 : Int32)) (1 : Int32).toNatClampNeg (3 : Int32)) (2 : Int32).toNatClampNeg (3 : Int32)) (3 : Int32).toNatClampNeg (3 : Int32)) (4 : Int32).toNatClampNeg (3 : Int32)) (5 : Int32).toNatClampNeg (3 : Int32)) (6 : Int32).toNatClampNeg (3 : Int32)) (7 : Int32).toNatClampNeg (3 : Int32)), (fun _ => 0), (fun _ => 0), (fun _ => 0), (fun _ => 0), (fun _ => 0), (fun _ => 0), (fun _ => 0), (fun _ => 0), (upd (upd (upd (upd (upd (upd (upd (upd (upd (upd (upd (upd (upd (upd (fun _ => 0) (0 : Int32).toNatClampNeg (119 : Int32)) (1 : Int32).toNatClampNeg (97 : Int32)) (2 : Int32).toNatClampNeg (114 : Int32)) (3 : Int32).toNatClampNeg (109 : Int32)) (4 : Int32).toNatClampNeg (115 : Int32)) (5 : Int32).toNatClampNeg (104 : Int32)) (6 : Int32).toNatClampNeg (97 : Int32)) (7 : Int32).toNatClampNeg (109 : Int32)) (8 : Int32).toNatClampNeg (101 : Int32)) (9 : Int32).toNatClampNeg (115 : Int32)) (10 : Int32).toNatClampNeg (108 : Int32)) (11 : Int32).toNatClampNeg (111 : Int32)) (12 : Int32).toNatClampNeg (112 : Int32)) (13 : Int32).toNatClampNeg (101 : Int32)), (fun _ => 0), (fun _ => 0), (fun _ => 0), (fun _ => 0), (fun _ => 0), (fun _ => 0), (fun _ => 0), (fun _ => 0), (fun _ => 0), (fun _ => 0), (fun _ => 0), (fun _ => 0), (fun _ => 0), (fun _ => 0), (fun _ => 0), (fun _ => 0), (fun _ => 0), (fun _ => 0), (fun _ => 0), (fun _ => 0), (fun _ => 0), (fun _ => 0), (fun _ => 0), (fun _ => 0), (fun _ => 0), (fun _ => 0), (upd (upd (upd (upd (upd (upd (fun _ => 0) (0 : Int32).toNatClampNeg (-1 : Int32)) (1 : Int32).toNatClampNeg (-1 : Int32)) (2 : Int32).toNatClampNeg (-1 : Int32)) (3 : Int32).toNatClampNeg (-1 : Int32)) (4 : Int32).toNatClampNeg (-1 : Int32)) (5 : Int32).toNatClampNeg (-1 : Int32)), (fun _ => 0), (fun _ => 0), (fun _ => 0)]
def iR (t k : Nat) : Nat := if t = 1 ∧ k = 13 then 11 else if t = 13 ∧ k = 13 then 23 else if t = 25 ∧ k = 13 then 35 else if t = 63 ∧ k = 3 then 65 else 0
/-- the memory behind both constructors -/
def u0 : Mem := (129, fun t k => (iI.getD t []).getD k 0, iR, fun a => iA.getD a (fun _ => 0), fun _ _ => 0)
set_option maxHeartbeats 8000000 in
set_option maxRecDepth 100000 in
theorem init_eq (D : gDt) (base : Nat) (ph : Nat → va_E) : ∀ k, k < 129 → k ≠ 69 → phC ph 0 (csX D base ++ csM D base) k = cellOf D.2 base u0 k
  | 0, _, _ => rfl
  | 1, _, _ => rfl
  | 2, _, _ => rfl
  | 3, _, _ => rfl
  | 4, _, _ => rfl
  | 5, _, _ => rfl
  | 6, _, _ => rfl
  | 7, _, _ => rfl
  | 8, _, _ => rfl
  | 9, _, _ => rfl
  | 10, _, _ => rfl
  | 11, _, _ => rfl
  | 12, _, _ => rfl
  | 13, _, _ => rfl
  | 14, _, _ => rfl
  | 15, _, _ => rfl
  | 16, _, _ => rfl
  | 17, _, _ => rfl
  | 18, _, _ => rfl
  | 19, _, _ => rfl
  | 20, _, _ => rfl
  | 21, _, _ => rfl
  | 22, _, _ => rfl
  | 23, _, _ => rfl
  | 24, _, _ => rfl
  | 25, _, _ => rfl
  | 26, _, _ => rfl
  | 27, _, _ => rfl
  | 28, _, _ => rfl
  | 29, _, _ => rfl
  | 30, _, _ => rfl
  | 31, _, _ => rfl
  | 32, _, _ => rfl
  | 33, _, _ => rfl
  | 34, _, _ => rfl
  | 35, _, _ => rfl
  | 36, _, _ => rfl
  | 37, _, _ => rfl
  | 38, _, _ => rfl
  | 39, _, _ => rfl
  | 40, _, _ => rfl
  | 41, _, _ => rfl
  | 42, _, _ => rfl
  | 43, _, _ => rfl
  | 44, _, _ => rfl
  | 45, _, _ => rfl
  | 46, _, _ => rfl
  | 47, _, _ => rfl
  | 48, _, _ => rfl
  | 49, _, _ => rfl
  | 50, _, _ => rfl
  | 51, _, _ => rfl
  | 52, _, _ => rfl
  | 53, _, _ => rfl
  | 54, _, _ => rfl
  | 55, _, _ => rfl
  | 56, _, _ => rfl
  | 57, _, _ => rfl
  | 58, _, _ => rfl
  | 59, _, _ => rfl
  | 60, _, _ => rfl
  | 61, _, _ => rfl
  | 62, _, _ => rfl
  | 63, _, _ => rfl
  | 64, _, _ => rfl
  | 65, _, _ => rfl
  | 66, _, _ => rfl
  | 67, _, _ => rfl
  | 68, _, _ => rfl
  | 69, _, h => absurd rfl h
  | 70, _, _ => rfl
  | 71, _, _ => rfl
  | 72, _, _ => rfl
  | 73, _, _ => rfl
  | 74, _, _ => rfl
  | 75, _, _ => rfl
  | 76, _, _ => rfl
  | 77, _, _ => rfl
  | 78, _, _ => rfl
  | 79, _, _ => rfl
  | 80, _, _ => rfl
  | 81, _, _ => rfl
  | 82, _, _ => rfl
  | 83, _, _ => rfl
  | 84, _, _ => rfl
  | 85, _, _ => rfl
  | 86, _, _ => rfl
  | 87, _, _ => rfl
  | 88, _, _ => rfl
  | 89, _, _ => rfl
  | 90, _, _ => rfl
  | 91, _, _ => rfl
  | 92, _, _ => rfl
  | 93, _, _ => rfl
  | 94, _, _ => rfl
  | 95, _, _ => rfl
  | 96, _, _ => rfl
  | 97, _, _ => rfl
  | 98, _, _ => rfl
  | 99, _, _ => rfl
  | 100, _, _ => rfl
  | 101, _, _ => rfl
  | 102, _, _ => rfl
  | 103, _, _ => rfl
  | 104, _, _ => rfl
  | 105, _, _ => rfl
  | 106, _, _ => rfl
  | 107, _, _ => rfl
  | 108, _, _ => rfl
  | 109, _, _ => rfl
  | 110, _, _ => rfl
  | 111, _, _ => rfl
  | 112, _, _ => rfl
  | 113, _, _ => rfl
  | 114, _, _ => rfl
  | 115, _, _ => rfl
  | 116, _, _ => rfl
  | 117, _, _ => rfl
  | 118, _, _ => rfl
  | 119, _, _ => rfl
  | 120, _, _ => rfl
  | 121, _, _ => rfl
  | 122, _, _ => rfl
  | 123, _, _ => rfl
  | 124, _, _ => rfl
  | 125, _, _ => rfl
  | 126, _, _ => rfl
  | 127, _, _ => rfl
  | 128, _, _ => rfl
  | n + 129, h, _ => absurd h (by omega)
/-! FROM THE ENTRY TO THE LOOP -/
theorem init_69 {D : gDt} {base : Nat} {ph : Nat → va_E} {H : Heap} (h : va_at D.1 classes (base + 69, phC ph 0 (csX D base ++ csM D base) 69) H) : va_at D.1 classes (base + 69, cellOf D.2 base u0 69) H := by
  have h1 : H[base + 69]? = some (vp_cell (D.2 3) (6, .inr (.inr (.inr (.inr (va_up (va_up (va_up (va_up (va_up (va_up (fun _ => none) 0 (some (base + (0 + 70)))) 1 (some (base + (0 + 72)))) 2 (some (base + (0 + 74)))) 3 (some (base + (0 + 76)))) 4 (some (base + (0 + 78)))) 5 (some (base + (0 + 80))))))))) := h
  show H[base + 69]? = some (vp_cell (D.2 3) (6, .inr (.inr (.inr (.inr (fun j => some (base + (69 + 1 + 2 * j))))))))
  rw [h1, vp_cell_q, vp_cell_q]
  rfl
theorem start_W {D : gDt} {base : Nat} {ph : Nat → va_E} {H : Heap} (h : gCW D base 0 ph (csX D base ++ csM D base) H) : gW D base u0 H := by
  refine ⟨Nat.le_refl _, h.1, fun k hk => ?_⟩
  have h1 := h.2 k hk
  by_cases h9 : k = 69
  · subst h9
    exact init_69 h1
  · rw [init_eq D base ph k hk h9] at h1
    exact h1
theorem hv_of {p : Program} {s : State} {m : MethodId} {meth : Method} {c : Code} {b L : Nat} {xs : Nat → Int32} (C0 : lw_At p s m meth c b L xs) {w : Cond} (h : (flatC (Jvm.Cond.and given_1 narrow_1)).contains w = true) : w.before #[Value.ref b] s = true :=
  flat_of_before _ C0.2.2.2.2.2.2.2.2.2 w (List.contains_iff_mem.mp h)
theorem start_gK {s : State} {args : Array Value} (hts : ∀ w ∈ wG, w.before args s = true) (hov : (Cond.arrayOver (.object "GossipTrain$Tape")).before args s = true) : ∃ D : gDt, gK D s := by
  obtain ⟨c0, i0, k0⟩ := u_known hts (cl_ok 0 rfl).1 (hts _ w_134)
  obtain ⟨c1, i1, k1⟩ := u_known hts (cl_ok 1 rfl).1 (hts _ w_211)
  obtain ⟨c2, i2, k2⟩ := u_known hts (cl_ok 2 rfl).1 (hts _ w_217)
  obtain ⟨c3, i3, k3⟩ := u_known hts (cl_ok 3 rfl).1 (hts _ w_259)
  obtain ⟨c4, i4, k4⟩ := u_known hts (cl_ok 4 rfl).1 (hts _ w_282)
  obtain ⟨c5, i5, k5⟩ := u_known hts (cl_ok 5 rfl).1 (hts _ w_310)
  obtain ⟨c6, i6, k6⟩ := u_known hts (cl_ok 6 rfl).1 (hts _ w_128)
  obtain ⟨c7, i7, k7⟩ := u_known hts (cl_ok 7 rfl).1 (hts _ w_120)
  obtain ⟨c8, i8, k8⟩ := u_known hts (cl_ok 8 rfl).1 (hts _ w_841)
  obtain ⟨aI, kI, pI, a1, a2, a3⟩ := Cond.arrayClass_spec (hts _ w_152)
  obtain ⟨aZ, kZ, pZ, b1, b2, b3⟩ := Cond.arrayClass_spec (hts _ w_153)
  obtain ⟨aL, kL, pL, d1, d2, d3⟩ := Cond.arrayClass_spec (hts _ w_328)
  obtain ⟨pT, aT, kT, e1, e2, e3, e4, e5⟩ := Cond.arrayOver_spec hov
  refine ⟨((fun n => [c0, c1, c2, c3, c4, c5, c6, c7, c8].getD n c0, fun n => [i0, i1, i2, i3, i4, i5, i6, i7, i8].getD n i0), fun n => [aI, aZ, aL, aT].getD n aI), ?_, ?_⟩
  · intro k q h
    match k, h with
    | 0, h => cases h; exact k0
    | 1, h => cases h; exact k1
    | 2, h => cases h; exact k2
    | 3, h => cases h; exact k3
    | 4, h => cases h; exact k4
    | 5, h => cases h; exact k5
    | 6, h => cases h; exact k6
    | 7, h => cases h; exact k7
    | 8, h => cases h; exact k8
    | n + 9, h => simp [classes] at h
  · intro k q h
    match k, h with
    | 0, h => cases h; exact ⟨fun N z => ⟨(fun k h => by cases h), kI, a2, pI, a3⟩, a1⟩
    | 1, h => cases h; exact ⟨fun N z => ⟨(fun k h => by cases h), kZ, b2, pZ, b3⟩, b1⟩
    | 2, h => cases h; exact ⟨fun N z => ⟨(fun k h => by cases h), kL, d2, pL, d3⟩, d1⟩
    | 3, h => cases h; exact ⟨fun N z => ⟨(fun k h => by cases h), kT, e3, pT, e4⟩, kT, pT, e3, e4, e1, e5⟩
    | n + 4, h => simp at h
def tmS (i : Nat) : Term := .string RX3 (sIdx i)
theorem all4 {P : Nat → Prop} (h0 : P 0) (h1 : P 1) (h2 : P 2) (h3 : P 3) : ∀ i, i < 4 → P i
  | 0, _ => h0
  | 1, _ => h1
  | 2, _ => h2
  | 3, _ => h3
  | n + 4, h => absurd h (by omega)
/-- many words at once, by one look -/
theorem hv_all {p : Program} {s : State} {m : MethodId} {meth : Method} {c : Code} {b L : Nat} {xs : Nat → Int32} (C0 : lw_At p s m meth c b L xs) (ws : List Cond) (h : ws.all (fun w => (flatC (Jvm.Cond.and given_1 narrow_1)).contains w) = true) : ∀ w ∈ ws, w.before #[Value.ref b] s = true :=
  fun w hw => hv_of C0 (List.all_eq_true.mp h w hw)
def wKA : List Cond := (List.range 7).map fun j => Cond.eq (.elem (.static "GossipTrain" "KIND_ABOVE" "[I") (.int (Int32.ofNat j))) (.int (tKA.getD j 0))
def wBO : List Cond := (List.range 21).map fun j => Cond.eq (.elem (.static "GossipTrain" "BODIES" "[I") (.int (Int32.ofNat j))) (.int (tBO.getD j 0))
def wSE (i : Nat) : List Cond := (List.range (sLen.getD i 0)).map fun j => Cond.eq (.elem (.field (tmS i) "java/lang/String" "value" "[B") (.int (Int32.ofNat j))) (.int ((sByt.getD i []).getD j 0))
def wSi (i : Nat) : List Cond := [Cond.exactly (tmS i) "java/lang/String", Cond.eq (.field (tmS i) "java/lang/String" "coder" "B") (.int 0), Cond.arrayOf (.field (tmS i) "java/lang/String" "value" "[B") .byte, Cond.eq (.length (.field (tmS i) "java/lang/String" "value" "[B")) (.int (Int32.ofNat (sLen.getD i 0)))] ++ wSE i
def wS4 : List Cond := (List.range 4).flatMap fun i => wSi i
def wNE : List Cond := [Cond.not (Cond.eq (tmS 0) (tmS 1)), Cond.not (Cond.eq (tmS 0) (tmS 2)), Cond.not (Cond.eq (tmS 0) (tmS 3)), Cond.not (Cond.eq (tmS 1) (tmS 2)), Cond.not (Cond.eq (tmS 3) (tmS 1)), Cond.not (Cond.eq (tmS 3) (tmS 2))]
theorem wS4_in {i : Nat} {w : Cond} (hi : i < 4) (h : w ∈ wSi i) : w ∈ wS4 :=
  List.mem_flatMap.mpr ⟨i, List.mem_range.mpr hi, h⟩
def wLay : List Cond := [Cond.laysStatic "GossipTrain" "KIND_ABOVE" "[I", Cond.laysStatic "GossipTrain" "BODIES" "[I", Cond.laysStatic "java/lang/String" "COMPACT_STRINGS" "Z", Cond.laysStatic "jdk/internal/util/Preconditions" "SIOOBE_FORMATTER" "Ljava/util/function/BiFunction;", Cond.initialized "GossipTrain", Cond.initialized "java/lang/String", Cond.initialized "jdk/internal/util/Preconditions"] ++ (List.range 4).map fun i => Cond.stringRef RX3 (sIdx i) (sTxt i)
theorem wLay_in : wLay.all (fun w => tables_1.contains w) = true := by decide +kernel
theorem start_gZ {p : Program} {s : State} {m : MethodId} {meth : Method} {c : Code} {b L : Nat} {xs : Nat → Int32} (C0 : lw_At p s m meth c b L xs) : ∃ Z : gZt, gZ s.heap.size Z s s.heap := by
  have hA : ∀ a : Nat, a < s.heap.size → ¬ gF s.heap.size a := fun a h => Nat.not_le.mpr h
  have hts := C0.2.2.2.2.2.1
  have hl : ∀ w ∈ wLay, w.before #[Value.ref b] s = true := fun w hw => hts w (List.mem_append_right _ (List.contains_iff_mem.mp (List.all_eq_true.mp wLay_in w hw)))
  have hka := hv_all C0 wKA (by decide +kernel)
  have hbo := hv_all C0 wBO (by decide +kernel)
  have hs4 := hv_all C0 wS4 (by decide +kernel)
  have hne := hv_all C0 wNE (by decide +kernel)
  obtain ⟨tk, htk, hTk⟩ := va_Tof (args := #[Value.ref b]) (s := s) (tm := .static "GossipTrain" "KIND_ABOVE" "[I") (ty := .int) (N := 7) (f := fun j => .int (tKA.getD j 0)) (A := gF s.heap.size) (by decide) (hv_of C0 (by decide +kernel)) (va_eqt (hv_of C0 (by decide +kernel))) (fun j hj => va_eqt (hka _ (List.mem_map.mpr ⟨j, List.mem_range.mpr hj, rfl⟩))) hA
  obtain ⟨tb, htb, hTb⟩ := va_Tof (args := #[Value.ref b]) (s := s) (tm := .static "GossipTrain" "BODIES" "[I") (ty := .int) (N := 21) (f := fun j => .int (tBO.getD j 0)) (A := gF s.heap.size) (by decide) (hv_of C0 (by decide +kernel)) (va_eqt (hv_of C0 (by decide +kernel))) (fun j hj => va_eqt (hbo _ (List.mem_map.mpr ⟨j, List.mem_range.mpr hj, rfl⟩))) hA
  have hq : ∀ i, i < 4 → ∀ w ∈ wSi i, w.before #[Value.ref b] s = true := fun i hi w hw => hs4 w (wS4_in hi hw)
  obtain ⟨adK, adV, hS, hSt⟩ := vk_Sof (args := #[Value.ref b]) (s := s) (N := 4) (tm := tmS) (len := sLen) (byt := sByt) (A := gF s.heap.size) (all4 (by decide) (by decide) (by decide) (by decide))
    (fun i hi => hq i hi _ (List.mem_of_getElem? (i := 0) rfl)) (fun i hi => hq i hi _ (List.mem_of_getElem? (i := 1) rfl)) (fun i hi => hq i hi _ (List.mem_of_getElem? (i := 2) rfl)) (fun i hi => hq i hi _ (List.mem_of_getElem? (i := 3) rfl))
    (fun i hi j hj => hq i hi _ (List.mem_append_right _ (List.mem_map.mpr ⟨j, List.mem_range.mpr hj, rfl⟩)))
    (fun i j hi hj hij => by
      have h01 := hne (Cond.not (Cond.eq (tmS 0) (tmS 1))) (by simp [wNE])
      have h02 := hne (Cond.not (Cond.eq (tmS 0) (tmS 2))) (by simp [wNE])
      have h03 := hne (Cond.not (Cond.eq (tmS 0) (tmS 3))) (by simp [wNE])
      have h12 := hne (Cond.not (Cond.eq (tmS 1) (tmS 2))) (by simp [wNE])
      have h31 := hne (Cond.not (Cond.eq (tmS 3) (tmS 1))) (by simp [wNE])
      have h32 := hne (Cond.not (Cond.eq (tmS 3) (tmS 2))) (by simp [wNE])
      match i, j, hi, hj with
      | 0, 0, _, _ => exact absurd rfl hij
      | 0, 1, _, _ => exact Or.inl h01
      | 0, 2, _, _ => exact Or.inl h02
      | 0, 3, _, _ => exact Or.inl h03
      | 1, 0, _, _ => exact Or.inr h01
      | 1, 1, _, _ => exact absurd rfl hij
      | 1, 2, _, _ => exact Or.inl h12
      | 1, 3, _, _ => exact Or.inr h31
      | 2, 0, _, _ => exact Or.inr h02
      | 2, 1, _, _ => exact Or.inr h12
      | 2, 2, _, _ => exact absurd rfl hij
      | 2, 3, _, _ => exact Or.inr h32
      | 3, 0, _, _ => exact Or.inr h03
      | 3, 1, _, _ => exact Or.inl h31
      | 3, 2, _, _ => exact Or.inl h32
      | 3, 3, _, _ => exact absurd rfl hij
      | n + 4, _, h, _ => exact absurd h (by omega)
      | _, n + 4, _, h => exact absurd h (by omega)) hA
  refine ⟨(tk, tb, adK, adV), va_Zref (hl _ (List.mem_of_getElem? (i := 0) rfl)) (hl _ (List.mem_of_getElem? (i := 4) rfl)) htk hA, hTk, va_Zref (hl _ (List.mem_of_getElem? (i := 1) rfl)) (hl _ (List.mem_of_getElem? (i := 4) rfl)) htb hA, hTb, va_Zof (hl _ (List.mem_of_getElem? (i := 2) rfl)) (hl _ (List.mem_of_getElem? (i := 5) rfl)) (va_eqi (hv_of C0 (by decide +kernel))) hA, hS, fun i hi => vk_R.of (hl _ (List.mem_append_right _ (List.mem_map.mpr ⟨i, List.mem_range.mpr hi, rfl⟩))) (hSt i hi), va_Zqof (hl _ (List.mem_of_getElem? (i := 3) rfl)) (hl _ (List.mem_of_getElem? (i := 6) rfl)) (hv_of C0 (by decide +kernel)) hA⟩
theorem wov_in : tables_1.contains (Cond.arrayOver (.object "GossipTrain$Tape")) = true := by decide +kernel
theorem start_gC {p : Program} {s : State} {m : MethodId} {meth : Method} {c : Code} {b L : Nat} {xs : Nat → Int32} (C0 : lw_At p s m meth c b L xs) : ∃ D Z, gC p s m meth c (#[Value.ref b] : Array Value) code 4 R_law D s.heap.size Z ∧ va_AO "GossipTrain$Tape" s := by
  have hts := C0.2.2.2.2.2.1
  have hwG : ∀ w ∈ wG, w.before #[Value.ref b] s = true := fun w hw => hts w (wG_in hw)
  have hov : (Cond.arrayOver (.object "GossipTrain$Tape")).before #[Value.ref b] s = true := hts _ (List.mem_append_right _ (List.contains_iff_mem.mp wov_in))
  obtain ⟨D, hK⟩ := start_gK hwG hov
  obtain ⟨Z, hZ⟩ := start_gZ C0
  have hN : nOK s := by
    intro w hw
    have h1 := List.mem_filter.mp hw
    have h2 := hts w (List.mem_append_right _ h1.1)
    have hn := h1.2
    cases w <;> first | exact va_Nw.of rfl h2 | exact absurd hn (by simp [isNw])
  exact ⟨D, Z, ⟨C0.1, C0.2.1, C0.2.2.2.1, C0.2.2.2.2.1, hwG, hN, hK, hZ, Nat.le_refl _, C0.2.2.2.2.2.2.2.2.1⟩, va_AO.of hov⟩
