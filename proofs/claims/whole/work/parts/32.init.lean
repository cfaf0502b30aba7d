def csX (D : gDt) (base : Nat) : List va_E := [.inr (7, [.ref (base + (0 + 1)), .ref (base + (0 + 13)), .ref (base + (0 + 25)), .ref (base + (0 + 37)), .ref (base + (0 + 50)), .int (0 : Int32), .ref (base + (0 + 63)), .int (0 : Int32), .ref (base + (0 + 67)), .ref (base + (0 + 69))]), .inr (6, [.ref (base + (0 + 2)), .ref (base + (0 + 3)), .ref (base + (0 + 4)), .ref (base + (0 + 5)), .ref (base + (0 + 6)), .ref (base + (0 + 7)), .ref (base + (0 + 8)), .ref (base + (0 + 9)), .ref (base + (0 + 10)), .int (0 : Int32), .int (0 : Int32), .int (0 : Int32), .int (0 : Int32), .ref (base + (0 + 11))]), .inl (D.2 0, (8, .inl (upd (upd (upd (upd (upd (upd (upd (upd (fun _ => 0) (0 : Int32).toNatClampNeg (3 : Int32)) (1 : Int32).toNatClampNeg (3 : Int32)) (2 : Int32).toNatClampNeg (3 : Int32)) (3 : Int32).toNatClampNeg (3 : Int32)) (4 : Int32).toNatClampNeg (3 : Int32)) (5 : Int32).toNatClampNeg (3 : Int32)) (6 : Int32).toNatClampNeg (3 : Int32)) (7 : Int32).toNatClampNeg (3 : Int32)))), .inl (D.2 0, (8, .inl (fun _ => 0))), .inl (D.2 0, (6, .inl (fun _ => 0))), .inl (D.2 0, (6, .inl (fun _ => 0))), .inl (D.2 0, (6, .inl (fun _ => 0))), .inl (D.2 0, (6, .inl (fun _ => 0))), .inl (D.2 1, (6, .inl (fun _ => 0))), .inl (D.2 0, (24, .inl (fun _ => 0))), .inl (D.2 0, (6, .inl (fun _ => 0))), .inr (0, [.ref (base + (0 + 12)), .int (0 : Int32), .int (5 : Int32)]), .inl (D.2 0, (100, .inl (fun _ => 0))), .inr (6, [.ref (base + (0 + 14)), .ref (base + (0 + 15)), .ref (base + (0 + 16)), .ref (base + (0 + 17)), .ref (base + (0 + 18)), .ref (base + (0 + 19)), .ref (base + (0 + 20)), .ref (base + (0 + 21)), .ref (base + (0 + 22)), .int (0 : Int32), .int (0 : Int32), .int (0 : Int32), .int (0 : Int32), .ref (base + (0 + 23))]), .inl (D.2 0, (8, .inl (upd (upd (upd (upd (upd (upd (upd (upd (fun _ => 0) (0 : Int32).toNatClampNeg (3 : Int32)) (1 : Int32).toNatClampNeg (3 : Int32)) (2 : Int32).toNatClampNeg (3 : Int32)) (3 : Int32).toNatClampNeg (3 : Int32)) (4 : Int32).toNatClampNeg (3 : Int32)) (5 : Int32).toNatClampNeg (3 : Int32)) (6 : Int32).toNatClampNeg (3 : Int32)) (7 : Int32).toNatClampNeg (3 : Int32)))), .inl (D.2 0, (8, .inl (fun _ => 0))), .inl (D.2 0, (6, .inl (fun _ => 0))), .inl (D.2 0, (6, .inl (fun _ => 0))), .inl (D.2 0, (6, .inl (fun _ => 0))), .inl (D.2 0, (6, .inl (fun _ => 0))), .inl (D.2 1, (6, .inl (fun _ => 0))), .inl (D.2 0, (24, .inl (fun _ => 0))), .inl (D.2 0, (6, .inl (fun _ => 0))), .inr (0, [.ref (base + (0 + 24)), .int (0 : Int32), .int (5 : Int32)]), .inl (D.2 0, (100, .inl (fun _ => 0))), .inr (6, [.ref (base + (0 + 26)), .ref (base + (0 + 27)), .ref (base + (0 + 28)), .ref (base + (0 + 29)), .ref (base + (0 + 30)), .ref (base + (0 + 31)), .ref (base + (0 + 32)), .ref (base + (0 + 33)), .ref (base + (0 + 34)), .int (0 : Int32), .int (0 : Int32), .int (0 : Int32), .int (0 : Int32), .ref (base + (0 + 35))]), .inl (D.2 0, (8, .inl (upd (upd (upd (upd (upd (upd (upd (upd (fun _ => 0) (0 : Int32).toNatClampNeg (3 : Int32)) (1 : Int32).toNatClampNeg (3 : Int32)) (2 : Int32).toNatClampNeg (3 : Int32)) (3 : Int32).toNatClampNeg (3 : Int32)) (4 : Int32).toNatClampNeg (3 : Int32)) (5 : Int32).toNatClampNeg (3 : Int32)) (6 : Int32).toNatClampNeg (3 : Int32)) (7 : Int32).toNatClampNeg (3 : Int32)))), .inl (D.2 0, (8, .inl (fun _ => 0))), .inl (D.2 0, (6, .inl (fun _ => 0))), .inl (D.2 0, (6, .inl (fun _ => 0))), .inl (D.2 0, (6, .inl (fun _ => 0))), .inl (D.2 0, (6, .inl (fun _ => 0))), .inl (D.2 1, (6, .inl (fun _ => 0))), .inl (D.2 0, (24, .inl (fun _ => 0))), .inl (D.2 0, (6, .inl (fun _ => 0))), .inr (0, [.ref (base + (0 + 36)), .int (0 : Int32), .int (5 : Int32)]), .inl (D.2 0, (100, .inl (fun _ => 0))), .inr (1, [.ref (base + (0 + 38)), .ref (base + (0 + 42)), .ref (base + (0 + 46))]), .inr (2, [.ref (base + (0 + 39)), .ref (base + (0 + 40)), .ref (base + (0 + 41)), .int (imin (5 : Int32) (10 : Int32)), .int (0 : Int32)]), .inl (D.2 0, (10, .inl (fun _ => 0))), .inl (D.2 0, (10, .inl (fun _ => 0))), .inl (D.2 0, (10, .inl (fun _ => 0))), .inr (2, [.ref (base + (0 + 43)), .ref (base + (0 + 44)), .ref (base + (0 + 45)), .int (imin (10 : Int32) (10 : Int32)), .int (0 : Int32)]), .inl (D.2 0, (10, .inl (fun _ => 0))), .inl (D.2 0, (10, .inl (fun _ => 0))), .inl (D.2 0, (10, .inl (fun _ => 0))), .inr (2, [.ref (base + (0 + 47)), .ref (base + (0 + 48)), .ref (base + (0 + 49)), .int (imin (8 : Int32) (10 : Int32)), .int (0 : Int32)]), .inl (D.2 0, (10, .inl (fun _ => 0))), .inl (D.2 0, (10, .inl (fun _ => 0))), .inl (D.2 0, (10, .inl (fun _ => 0))), .inr (1, [.ref (base + (0 + 51)), .ref (base + (0 + 55)), .ref (base + (0 + 59))]), .inr (2, [.ref (base + (0 + 52)), .ref (base + (0 + 53)), .ref (base + (0 + 54)), .int (imin (5 : Int32) (10 : Int32)), .int (0 : Int32)]), .inl (D.2 0, (10, .inl (fun _ => 0))), .inl (D.2 0, (10, .inl (fun _ => 0))), .inl (D.2 0, (10, .inl (fun _ => 0))), .inr (2, [.ref (base + (0 + 56)), .ref (base + (0 + 57)), .ref (base + (0 + 58)), .int (imin (10 : Int32) (10 : Int32)), .int (0 : Int32)]), .inl (D.2 0, (10, .inl (fun _ => 0))), .inl (D.2 0, (10, .inl (fun _ => 0))), .inl (D.2 0, (10, .inl (fun _ => 0))), .inr (2, [.ref (base + (0 + 60)), .ref (base + (0 + 61)), .ref (base + (0 + 62)), .int (imin (8 : Int32) (10 : Int32)), .int (0 : Int32)]), .inl (D.2 0, (10, .inl (fun _ => 0))), .inl (D.2 0, (10, .inl (fun _ => 0))), .inl (D.2 0, (10, .inl (fun _ => 0))), .inr (3, [.ref (base + (0 + 64)), .int (0 : Int32), .int (0 : Int32), .ref (base + (0 + 65))]), .inl (D.2 0, (100, .inl (fun _ => 0))), .inr (0, [.ref (base + (0 + 66)), .int (0 : Int32), .int (5 : Int32)]), .inl (D.2 0, (100, .inl (fun _ => 0))), .inr (4, [.ref (base + (0 + 68)), .int (0 : Int32), .int (0 : Int32), .int (0 : Int32), .int (0 : Int32)]), .inl (D.2 0, (20, .inl (fun _ => 0))), .inl (D.2 3, (6, .inr (.inr (.inr (.inr (va_up (va_up (va_up (va_up (va_up (va_up (fun _ => none) (0 : Int32).toNatClampNeg (some (base + (0 + 70)))) (1 : Int32).toNatClampNeg (some (base + (0 + 72)))) (2 : Int32).toNatClampNeg (some (base + (0 + 74)))) (3 : Int32).toNatClampNeg (some (base + (0 + 76)))) (4 : Int32).toNatClampNeg (some (base + (0 + 78)))) (5 : Int32).toNatClampNeg (some (base + (0 + 80))))))))), .inr (5, [.ref (base + (0 + 71)), .int (-1 : Int32), .int (0 : Int32)]), .inl (D.2 2, (60, .inr (.inl (fun _ => 0)))), .inr (5, [.ref (base + (0 + 73)), .int (-1 : Int32), .int (0 : Int32)]), .inl (D.2 2, (60, .inr (.inl (fun _ => 0)))), .inr (5, [.ref (base + (0 + 75)), .int (-1 : Int32), .int (0 : Int32)]), .inl (D.2 2, (60, .inr (.inl (fun _ => 0)))), .inr (5, [.ref (base + (0 + 77)), .int (-1 : Int32), .int (0 : Int32)]), .inl (D.2 2, (60, .inr (.inl (fun _ => 0)))), .inr (5, [.ref (base + (0 + 79)), .int (-1 : Int32), .int (0 : Int32)]), .inl (D.2 2, (60, .inr (.inl (fun _ => 0)))), .inr (5, [.ref (base + (0 + 81)), .int (-1 : Int32), .int (0 : Int32)]), .inl (D.2 2, (60, .inr (.inl (fun _ => 0))))]
def csM (D : gDt) (base : Nat) : List va_E := [.inr (8, [.int (0 : Int32), .int (0 : Int32), .int (0 : Int32), .int (0 : Int32), .int (0 : Int32), .ref (base + (82 + 1)), .ref (base + (82 + 2)), .ref (base + (82 + 3)), .ref (base + (82 + 4)), .ref (base + (82 + 5)), .ref (base + (82 + 6)), .ref (base + (82 + 7)), .int (0 : Int32), .int (-1 : Int32), .int (0 : Int32), .int (0 : Int32), .int (0 : Int32), .ref (base + (82 + 8)), .ref (base + (82 + 9)), .ref (base + (82 + 10)), .ref (base + (82 + 11)), .ref (base + (82 + 12)), .ref (base + (82 + 13)), .ref (base + (82 + 14)), .ref (base + (82 + 15)), .int (0 : Int32), .int (0 : Int32), .int (0 : Int32), .ref (base + (82 + 16)), .ref (base + (82 + 17)), .int (0 : Int32), .int (0 : Int32), .int (0 : Int32), .int (0 : Int32), .ref (base + (82 + 18)), .ref (base + (82 + 19)), .ref (base + (82 + 20)), .int (0 : Int32), .ref (base + (82 + 21)), .ref (base + (82 + 22)), .ref (base + (82 + 23)), .int (0 : Int32), .int (0 : Int32), .ref (base + (82 + 24)), .ref (base + (82 + 25)), .ref (base + (82 + 26)), .ref (base + (82 + 27)), .int (0 : Int32), .int (-1 : Int32), .int (0 : Int32), .int (0 : Int32), .int (0 : Int32), .int (0 : Int32), .int (0 : Int32), .int (0 : Int32), .int (0 : Int32), .int (0 : Int32), .ref (base + (82 + 28)), .ref (base + (82 + 29)), .ref (base + (82 + 30)), .ref (base + (82 + 31)), .ref (base + (82 + 32)), .ref (base + (82 + 33)), .ref (base + (82 + 34)), .ref (base + (82 + 35)), .ref (base + (82 + 36)), .ref (base + (82 + 37)), .ref (base + (82 + 38)), .ref (base + (82 + 39)), .ref (base + (82 + 40)), .ref (base + (82 + 41)), .int (0 : Int32), .ref (base + (82 + 42)), .ref (base + (82 + 43)), .ref (base + (82 + 44)), .ref (base + (82 + 45)), .ref (base + (82 + 46))]), .inl (D.2 0, (6, .inl (fun _ => 0))), .inl (D.2 0, (6, .inl (fun _ => 0))), .inl (D.2 0, (6, .inl (fun _ => 0))), .inl (D.2 0, (6, .inl (fun _ => 0))), .inl (D.2 0, (24, .inl (fun _ => 0))), .inl (D.2 0, (8, .inl (fun _ => 0))), .inl (D.2 0, (8, .inl (upd (upd (upd (upd (upd (upd (upd (upd (fun _ => 0) (0 : Int32).toNatClampNeg (3 : Int32)) (1 : Int32).toNatClampNeg (3 : Int32)) (2 : Int32).toNatClampNeg (3 : Int32)) (3 : Int32).toNatClampNeg (3 : Int32)) (4 : Int32).toNatClampNeg (3 : Int32)) (5 : Int32).toNatClampNeg (3 : Int32)) (6 : Int32).toNatClampNeg (3 : Int32)) (7 : Int32).toNatClampNeg (3 : Int32)))), .inl (D.2 0, (100, .inl (fun _ => 0))), .inl (D.2 0, (6, .inl (fun _ => 0))), .inl (D.2 0, (60, .inl (fun _ => 0))), .inl (D.2 0, (60, .inl (fun _ => 0))), .inl (D.2 0, (60, .inl (fun _ => 0))), .inl (D.2 0, (60, .inl (fun _ => 0))), .inl (D.2 0, (600, .inl (fun _ => 0))), .inl (D.2 0, (101, .inl (fun _ => 0))), .inl (D.2 0, (14, .inl (upd (upd (upd (upd (upd (upd (upd (upd (upd (upd (upd (upd (upd (upd (fun _ => 0) (0 : Int32).toNatClampNeg (119 : Int32)) (1 : Int32).toNatClampNeg (97 : Int32)) (2 : Int32).toNatClampNeg (114 : Int32)) (3 : Int32).toNatClampNeg (109 : Int32)) (4 : Int32).toNatClampNeg (115 : Int32)) (5 : Int32).toNatClampNeg (104 : Int32)) (6 : Int32).toNatClampNeg (97 : Int32)) (7 : Int32).toNatClampNeg (109 : Int32)) (8 : Int32).toNatClampNeg (101 : Int32)) (9 : Int32).toNatClampNeg (115 : Int32)) (10 : Int32).toNatClampNeg (108 : Int32)) (11 : Int32).toNatClampNeg (111 : Int32)) (12 : Int32).toNatClampNeg (112 : Int32)) (13 : Int32).toNatClampNeg (101 : Int32)))), .inl (D.2 1, (100, .inl (fun _ => 0))), .inl (D.2 0, (6, .inl (fun _ => 0))), .inl (D.2 0, (6, .inl (fun _ => 0))), .inl (D.2 0, (8, .inl (fun _ => 0))), .inl (D.2 0, (5, .inl (fun _ => 0))), .inl (D.2 0, (5, .inl (fun _ => 0))), .inl (D.2 0, (5, .inl (fun _ => 0))), .inl (D.2 0, (10, .inl (fun _ => 0))), .inl (D.2 0, (10, .inl (fun _ => 0))), .inl (D.2 0, (8, .inl (fun _ => 0))), .inl (D.2 0, (8, .inl (fun _ => 0))), .inl (D.2 0, (6, .inl (fun _ => 0))), .inl (D.2 0, (6, .inl (fun _ => 0))), .inl (D.2 0, (6, .inl (fun _ => 0))), .inl (D.2 0, (6, .inl (fun _ => 0))), .inl (D.2 0, (24, .inl (fun _ => 0))), .inl (D.2 0, (8, .inl (fun _ => 0))), .inl (D.2 0, (8, .inl (fun _ => 0))), .inl (D.2 0, (5, .inl (fun _ => 0))), .inl (D.2 0, (5, .inl (fun _ => 0))), .inl (D.2 0, (5, .inl (fun _ => 0))), .inl (D.2 0, (10, .inl (fun _ => 0))), .inl (D.2 0, (10, .inl (fun _ => 0))), .inl (D.2 0, (8, .inl (fun _ => 0))), .inl (D.2 0, (8, .inl (fun _ => 0))), .inl (D.2 0, (20, .inl (fun _ => 0))), .inl (D.2 0, (6, .inl (upd (upd (upd (upd (upd (upd (fun _ => 0) (0 : Int32).toNatClampNeg (-1 : Int32)) (1 : Int32).toNatClampNeg (-1 : Int32)) (2 : Int32).toNatClampNeg (-1 : Int32)) (3 : Int32).toNatClampNeg (-1 : Int32)) (4 : Int32).toNatClampNeg (-1 : Int32)) (5 : Int32).toNatClampNeg (-1 : Int32)))), .inl (D.2 0, (6, .inl (fun _ => 0))), .inl (D.2 2, (360, .inr (.inl (fun _ => 0)))), .inl (D.2 2, (60, .inr (.inl (fun _ => 0))))]
def iI : List (List Int32) := [[0, 0, 0, 0, 0, (0 : Int32), 0, (0 : Int32), 0, 0], [0, 0, 0, 0, 0, 0, 0, 0, 0, (0 : Int32), (0 : Int32), (0 : Int32), (0 : Int32), 0], [], [], [], [], [], [], [], [], [], [0, (0 : Int32), (5 : Int32)], [], [0, 0, 0, 0, 0, 0, 0, 0, 0, (0 : Int32), (0 : Int32), (0 : Int32), (0 : Int32), 0], [], [], [], [], [], [], [], [], [], [0, (0 : Int32), (5 : Int32)], [], [0, 0, 0, 0, 0, 0, 0, 0, 0, (0 : Int32), (0 : Int32), (0 : Int32), (0 : Int32), 0], [], [], [], [], [], [], [], [], [], [0, (0 : Int32), (5 : Int32)], [], [0, 0, 0], [0, 0, 0, (imin (5 : Int32) (10 : Int32)), (0 : Int32)], [], [], [], [0, 0, 0, (imin (10 : Int32) (10 : Int32)), (0 : Int32)], [], [], [], [0, 0, 0, (imin (8 : Int32) (10 : Int32)), (0 : Int32)], [], [], [], [0, 0, 0], [0, 0, 0, (imin (5 : Int32) (10 : Int32)), (0 : Int32)], [], [], [], [0, 0, 0, (imin (10 : Int32) (10 : Int32)), (0 : Int32)], [], [], [], [0, 0, 0, (imin (8 : Int32) (10 : Int32)), (0 : Int32)], [], [], [], [0, (0 : Int32), (0 : Int32), 0], [], [0, (0 : Int32), (5 : Int32)], [], [0, (0 : Int32), (0 : Int32), (0 : Int32), (0 : Int32)], [], [], [0, (-1 : Int32), (0 : Int32)], [], [0, (-1 : Int32), (0 : Int32)], [], [0, (-1 : Int32), (0 : Int32)], [], [0, (-1 : Int32), (0 : Int32)], [], [0, (-1 : Int32), (0 : Int32)], [], [0, (-1 : Int32), (0 : Int32)], [], [(0 : Int32), (0 : Int32), (0 : Int32), (0 : Int32), (0 : Int32), 0, 0, 0, 0, 0, 0, 0, (0 : Int32), (-1 : Int32), (0 : Int32), (0 : Int32), (0 : Int32), 0, 0, 0, 0, 0, 0, 0, 0, (0 : Int32), (0 : Int32), (0 : Int32), 0, 0, (0 : Int32), (0 : Int32), (0 : Int32), (0 : Int32), 0, 0, 0, (0 : Int32), 0, 0, 0, (0 : Int32), (0 : Int32), 0, 0, 0, 0, (0 : Int32), (-1 : Int32), (0 : Int32), (0 : Int32), (0 : Int32), (0 : Int32), (0 : Int32), (0 : Int32), (0 : Int32), (0 : Int32), 0, 0, 0, 0, 0, 0, 0, 0, 0, 0, 0, 0, 0, 0, (0 : Int32), 0, 0, 0, 0, 0], [], [], [], [], [], [], [], [], [], [], [], [], [], [], [], [], [], [], [], [], [], [], [], [], [], [], [], [], [], [], [], [], [], [], [], [], [], [], [], [], [], [], [], [], [], []]
def iA : List (Nat → Int32) := [(fun _ => 0), (fun _ => 0), (upd (upd (upd (upd (upd (upd (upd (upd (fun _ => 0) (0 : Int32).toNatClampNeg (3 : Int32)) (1 : Int32).toNatClampNeg (3 : Int32)) (2 : Int32).toNatClampNeg (3 : Int32)) (3 : Int32).toNatClampNeg (3 : Int32)) (4 : Int32).toNatClampNeg (3 : Int32)) (5 : Int32).toNatClampNeg (3 : Int32)) (6 : Int32).toNatClampNeg (3 : Int32)) (7 : Int32).toNatClampNeg (3 : Int32)), (fun _ => 0), (fun _ => 0), (fun _ => 0), (fun _ => 0), (fun _ => 0), (fun _ => 0), (fun _ => 0), (fun _ => 0), (fun _ => 0), (fun _ => 0), (fun _ => 0), (upd (upd (upd (upd (upd (upd (upd (upd (fun _ => 0) (0 : Int32).toNatClampNeg (3 : Int32)) (1 : Int32).toNatClampNeg (3 : Int32)) (2 : Int32).toNatClampNeg (3 : Int32)) (3 : Int32).toNatClampNeg (3 : Int32)) (4 : Int32).toNatClampNeg (3 : Int32)) (5 : Int32).toNatClampNeg (3 : Int32)) (6 : Int32).toNatClampNeg (3 : Int32)) (7 : Int32).toNatClampNeg (3 : Int32)), (fun _ => 0), (fun _ => 0), (fun _ => 0), (fun _ => 0), (fun _ => 0), (fun _ => 0), (fun _ => 0), (fun _ => 0), (fun _ => 0), (fun _ => 0), (fun _ => 0), (upd (upd (upd (upd (upd (upd (upd (upd (fun _ => 0) (0 : Int32).toNatClampNeg (3 : Int32)) (1 : Int32).toNatClampNeg (3 : Int32)) (2 : Int32).toNatClampNeg (3 : Int32)) (3 : Int32).toNatClampNeg (3 : Int32)) (4 : Int32).toNatClampNeg (3 : Int32)) (5 : Int32).toNatClampNeg (3 : Int32)) (6 : Int32).toNatClampNeg (3 : Int32)) (7 : Int32).toNatClampNeg (3 : Int32)), (fun _ => 0), (fun _ => 0), (fun _ => 0), (fun _ => 0), (fun _ => 0), (fun _ => 0), (fun _ => 0), (fun _ => 0), (fun _ => 0), (fun _ => 0), (fun _ => 0), (fun _ => 0), (fun _ => 0), (fun _ => 0), (fun _ => 0), (fun _ => 0), (fun _ => 0), (fun _ => 0), (fun _ => 0), (fun _ => 0), (fun _ => 0), (fun _ => 0), (fun _ => 0), (fun _ => 0), (fun _ => 0), (fun _ => 0), (fun _ => 0), (fun _ => 0), (fun _ => 0), (fun _ => 0), (fun _ => 0), (fun _ => 0), (fun _ => 0), (fun _ => 0), (fun _ => 0), (fun _ => 0), (fun _ => 0), (fun _ => 0), (fun _ => 0), (fun _ => 0), (fun _ => 0), (fun _ => 0), (fun _ => 0), (fun _ => 0), (fun _ => 0), (fun _ => 0), (fun _ => 0), (fun _ => 0), (fun _ => 0), (fun _ => 0), (fun _ => 0), (fun _ => 0), (fun _ => 0), (fun _ => 0), (fun _ => 0), (fun _ => 0), (fun _ => 0), (fun _ => 0), (fun _ => 0), (fun _ => 0), (fun _ => 0), (fun _ => 0), (upd (upd (upd (upd (upd (upd (upd (upd (fun _ => 0) (0 : Int32).toNatClampNeg (3 : Int32)) (1 : Int32).toNatClampNeg (3 : Int32)) (2 : Int32).toNatClampNeg (3 : Int32)) (3 : Int32).toNatClampNeg (3 : Int32)) (4 : Int32).toNatClampNeg (3 : Int32)) (5 : Int32).toNatClampNeg (3 : Int32)) (6 : Int32).toNatClampNeg (3 : Int32)) (7 : Int32).toNatClampNeg (3 : Int32)), (fun _ => 0), (fun _ => 0), (fun _ => 0), (fun _ => 0), (fun _ => 0), (fun _ => 0), (fun _ => 0), (fun _ => 0), (upd (upd (upd (upd (upd (upd (upd (upd (upd (upd (upd (upd (upd (upd (fun _ => 0) (0 : Int32).toNatClampNeg (119 : Int32)) (1 : Int32).toNatClampNeg (97 : Int32)) (2 : Int32).toNatClampNeg (114 : Int32)) (3 : Int32).toNatClampNeg (109 : Int32)) (4 : Int32).toNatClampNeg (115 : Int32)) (5 : Int32).toNatClampNeg (104 : Int32)) (6 : Int32).toNatClampNeg (97 : Int32)) (7 : Int32).toNatClampNeg (109 : Int32)) (8 : Int32).toNatClampNeg (101 : Int32)) (9 : Int32).toNatClampNeg (115 : Int32)) (10 : Int32).toNatClampNeg (108 : Int32)) (11 : Int32).toNatClampNeg (111 : Int32)) (12 : Int32).toNatClampNeg (112 : Int32)) (13 : Int32).toNatClampNeg (101 : Int32)), (fun _ => 0), (fun _ => 0), (fun _ => 0), (fun _ => 0), (fun _ => 0), (fun _ => 0), (fun _ => 0), (fun _ => 0), (fun _ => 0), (fun _ => 0), (fun _ => 0), (fun _ => 0), (fun _ => 0), (fun _ => 0), (fun _ => 0), (fun _ => 0), (fun _ => 0), (fun _ => 0), (fun _ => 0), (fun _ => 0), (fun _ => 0), (fun _ => 0), (fun _ => 0), (fun _ => 0), (fun _ => 0), (fun _ => 0), (upd (upd (upd (upd (upd (upd (fun _ => 0) (0 : Int32).toNatClampNeg (-1 : Int32)) (1 : Int32).toNatClampNeg (-1 : Int32)) (2 : Int32).toNatClampNeg (-1 : Int32)) (3 : Int32).toNatClampNeg (-1 : Int32)) (4 : Int32).toNatClampNeg (-1 : Int32)) (5 : Int32).toNatClampNeg (-1 : Int32)), (fun _ => 0), (fun _ => 0), (fun _ => 0)]
def iR (t k : Nat) : Nat := if t = 1 ∧ k = 13 then 11 else if t = 13 ∧ k = 13 then 23 else if t = 25 ∧ k = 13 then 35 else if t = 63 ∧ k = 3 then 65 else 0
/-- the memory behind both constructors -/
def u0 : Mem := (129, fun t k => (iI.getD t []).getD k 0, iR, fun a => iA.getD a (fun _ => 0), fun _ _ => 0)
set_option maxHeartbeats 8000000 in
set_option maxRecDepth 100000 in
theorem init_eq (D : gDt) (base : Nat) (ph : Nat → va_E) : ∀ k, k < 129 → k ≠ 69 → phC ph 0 (csX D base ++ csM D base) k = cellOf D.2 base u0 k
  | 0, _, _ => rfl
  | 1, _, _ => rfl
  | 2, _, _ => rfl
  | 3, _, _ => rfl
  | 4, _, _ => rfl
  | 5, _, _ => rfl
  | 6, _, _ => rfl
  | 7, _, _ => rfl
  | 8, _, _ => rfl
  | 9, _, _ => rfl
  | 10, _, _ => rfl
  | 11, _, _ => rfl
  | 12, _, _ => rfl
  | 13, _, _ => rfl
  | 14, _, _ => rfl
  | 15, _, _ => rfl
  | 16, _, _ => rfl
  | 17, _, _ => rfl
  | 18, _, _ => rfl
  | 19, _, _ => rfl
  | 20, _, _ => rfl
  | 21, _, _ => rfl
  | 22, _, _ => rfl
  | 23, _, _ => rfl
  | 24, _, _ => rfl
  | 25, _, _ => rfl
  | 26, _, _ => rfl
  | 27, _, _ => rfl
  | 28, _, _ => rfl
  | 29, _, _ => rfl
  | 30, _, _ => rfl
  | 31, _, _ => rfl
  | 32, _, _ => rfl
  | 33, _, _ => rfl
  | 34, _, _ => rfl
  | 35, _, _ => rfl
  | 36, _, _ => rfl
  | 37, _, _ => rfl
  | 38, _, _ => rfl
  | 39, _, _ => rfl
  | 40, _, _ => rfl
  | 41, _, _ => rfl
  | 42, _, _ => rfl
  | 43, _, _ => rfl
  | 44, _, _ => rfl
  | 45, _, _ => rfl
  | 46, _, _ => rfl
  | 47, _, _ => rfl
  | 48, _, _ => rfl
  | 49, _, _ => rfl
  | 50, _, _ => rfl
  | 51, _, _ => rfl
  | 52, _, _ => rfl
  | 53, _, _ => rfl
  | 54, _, _ => rfl
  | 55, _, _ => rfl
  | 56, _, _ => rfl
  | 57, _, _ => rfl
  | 58, _, _ => rfl
  | 59, _, _ => rfl
  | 60, _, _ => rfl
  | 61, _, _ => rfl
  | 62, _, _ => rfl
  | 63, _, _ => rfl
  | 64, _, _ => rfl
  | 65, _, _ => rfl
  | 66, _, _ => rfl
  | 67, _, _ => rfl
  | 68, _, _ => rfl
  | 69, _, h => absurd rfl h
  | 70, _, _ => rfl
  | 71, _, _ => rfl
  | 72, _, _ => rfl
  | 73, _, _ => rfl
  | 74, _, _ => rfl
  | 75, _, _ => rfl
  | 76, _, _ => rfl
  | 77, _, _ => rfl
  | 78, _, _ => rfl
  | 79, _, _ => rfl
  | 80, _, _ => rfl
  | 81, _, _ => rfl
  | 82, _, _ => rfl
  | 83, _, _ => rfl
  | 84, _, _ => rfl
  | 85, _, _ => rfl
  | 86, _, _ => rfl
  | 87, _, _ => rfl
  | 88, _, _ => rfl
  | 89, _, _ => rfl
  | 90, _, _ => rfl
  | 91, _, _ => rfl
  | 92, _, _ => rfl
  | 93, _, _ => rfl
  | 94, _, _ => rfl
  | 95, _, _ => rfl
  | 96, _, _ => rfl
  | 97, _, _ => rfl
  | 98, _, _ => rfl
  | 99, _, _ => rfl
  | 100, _, _ => rfl
  | 101, _, _ => rfl
  | 102, _, _ => rfl
  | 103, _, _ => rfl
  | 104, _, _ => rfl
  | 105, _, _ => rfl
  | 106, _, _ => rfl
  | 107, _, _ => rfl
  | 108, _, _ => rfl
  | 109, _, _ => rfl
  | 110, _, _ => rfl
  | 111, _, _ => rfl
  | 112, _, _ => rfl
  | 113, _, _ => rfl
  | 114, _, _ => rfl
  | 115, _, _ => rfl
  | 116, _, _ => rfl
  | 117, _, _ => rfl
  | 118, _, _ => rfl
  | 119, _, _ => rfl
  | 120, _, _ => rfl
  | 121, _, _ => rfl
  | 122, _, _ => rfl
  | 123, _, _ => rfl
  | 124, _, _ => rfl
  | 125, _, _ => rfl
  | 126, _, _ => rfl
  | 127, _, _ => rfl
  | 128, _, _ => rfl
  | n + 129, h, _ => absurd h (by omega)
/-! FROM THE ENTRY TO THE LOOP -/
theorem init_69 {D : gDt} {base : Nat} {ph : Nat → va_E} {H : Heap} (h : va_at D.1 classes (base + 69, phC ph 0 (csX D base ++ csM D base) 69) H) : va_at D.1 classes (base + 69, cellOf D.2 base u0 69) H := by
  have h1 : H[base + 69]? = some (vp_cell (D.2 3) (6, .inr (.inr (.inr (.inr (va_up (va_up (va_up (va_up (va_up (va_up (fun _ => none) 0 (some (base + (0 + 70)))) 1 (some (base + (0 + 72)))) 2 (some (base + (0 + 74)))) 3 (some (base + (0 + 76)))) 4 (some (base + (0 + 78)))) 5 (some (base + (0 + 80))))))))) := h
  show H[base + 69]? = some (vp_cell (D.2 3) (6, .inr (.inr (.inr (.inr (fun j => some (base + (69 + 1 + 2 * j))))))))
  rw [h1, vp_cell_q, vp_cell_q]
  rfl
theorem start_W {D : gDt} {base : Nat} {ph : Nat → va_E} {H : Heap} (h : gCW D base 0 ph (csX D base ++ csM D base) H) : gW D base u0 H := by
  refine ⟨Nat.le_refl _, h.1, fun k hk => ?_⟩
  have h1 := h.2 k hk
  by_cases h9 : k = 69
  · subst h9
    exact init_69 h1
  · rw [init_eq D base ph k hk h9] at h1
    exact h1
theorem hv_of {p : Program} {s : State} {m : MethodId} {meth : Method} {c : Code} {b L : Nat} {xs : Nat → Int32} (C0 : lw_At p s m meth c b L xs) {w : Cond} (h : (flatC (Jvm.Cond.and given_1 narrow_1)).contains w = true) : w.before #[Value.ref b] s = true :=
  flat_of_before _ C0.2.2.2.2.2.2.2.2.2 w (List.contains_iff_mem.mp h)
theorem start_gK {s : State} {args : Array Value} (hts : ∀ w ∈ wG, w.before args s = true) (hov : (Cond.arrayOver (.object "GossipTrain$Tape")).before args s = true) : ∃ D : gDt, gK D s := by
  obtain ⟨c0, i0, k0⟩ := u_known hts (cl_ok 0 rfl).1 (hts _ w_134)
  obtain ⟨c1, i1, k1⟩ := u_known hts (cl_ok 1 rfl).1 (hts _ w_211)
  obtain ⟨c2, i2, k2⟩ := u_known hts (cl_ok 2 rfl).1 (hts _ w_217)
  obtain ⟨c3, i3, k3⟩ := u_known hts (cl_ok 3 rfl).1 (hts _ w_259)
  obtain ⟨c4, i4, k4⟩ := u_known hts (cl_ok 4 rfl).1 (hts _ w_282)
  obtain ⟨c5, i5, k5⟩ := u_known hts (cl_ok 5 rfl).1 (hts _ w_310)
  obtain ⟨c6, i6, k6⟩ := u_known hts (cl_ok 6 rfl).1 (hts _ w_128)
  obtain ⟨c7, i7, k7⟩ := u_known hts (cl_ok 7 rfl).1 (hts _ w_120)
  obtain ⟨c8, i8, k8⟩ := u_known hts (cl_ok 8 rfl).1 (hts _ w_841)
  obtain ⟨aI, kI, pI, a1, a2, a3⟩ := Cond.arrayClass_spec (hts _ w_152)
  obtain ⟨aZ, kZ, pZ, b1, b2, b3⟩ := Cond.arrayClass_spec (hts _ w_153)
  obtain ⟨aL, kL, pL, d1, d2, d3⟩ := Cond.arrayClass_spec (hts _ w_328)
  obtain ⟨pT, aT, kT, e1, e2, e3, e4, e5⟩ := Cond.arrayOver_spec hov
  refine ⟨((fun n => [c0, c1, c2, c3, c4, c5, c6, c7, c8].getD n c0, fun n => [i0, i1, i2, i3, i4, i5, i6, i7, i8].getD n i0), fun n => [aI, aZ, aL, aT].getD n aI), ?_, ?_⟩
  · intro k q h
    match k, h with
    | 0, h => cases h; exact k0
    | 1, h => cases h; exact k1
    | 2, h => cases h; exact k2
    | 3, h => cases h; exact k3
    | 4, h => cases h; exact k4
    | 5, h => cases h; exact k5
    | 6, h => cases h; exact k6
    | 7, h => cases h; exact k7
    | 8, h => cases h; exact k8
    | n + 9, h => simp [classes] at h
  · intro k q h
    match k, h with
    | 0, h => cases h; exact ⟨fun N z => ⟨(fun k h => by cases h), kI, a2, pI, a3⟩, a1⟩
    | 1, h => cases h; exact ⟨fun N z => ⟨(fun k h => by cases h), kZ, b2, pZ, b3⟩, b1⟩
    | 2, h => cases h; exact ⟨fun N z => ⟨(fun k h => by cases h), kL, d2, pL, d3⟩, d1⟩
    | 3, h => cases h; exact ⟨fun N z => ⟨(fun k h => by cases h), kT, e3, pT, e4⟩, kT, pT, e3, e4, e1, e5⟩
    | n + 4, h => simp at h
def tmS (i : Nat) : Term := .string RX3 (sIdx i)
theorem all4 {P : Nat → Prop} (h0 : P 0) (h1 : P 1) (h2 : P 2) (h3 : P 3) : ∀ i, i < 4 → P i
  | 0, _ => h0
  | 1, _ => h1
  | 2, _ => h2
  | 3, _ => h3
  | n + 4, h => absurd h (by omega)
/-- many words at once, by one look -/
theorem hv_all {p : Program} {s : State} {m : MethodId} {meth : Method} {c : Code} {b L : Nat} {xs : Nat → Int32} (C0 : lw_At p s m meth c b L xs) (ws : List Cond) (h : ws.all (fun w => (flatC (Jvm.Cond.and given_1 narrow_1)).contains w) = true) : ∀ w ∈ ws, w.before #[Value.ref b] s = true :=
  fun w hw => hv_of C0 (List.all_eq_true.mp h w hw)
def wKA : List Cond := (List.range 7).map fun j => Cond.eq (.elem (.static "GossipTrain" "KIND_ABOVE" "[I") (.int (Int32.ofNat j))) (.int (tKA.getD j 0))
def wBO : List Cond := (List.range 21).map fun j => Cond.eq (.elem (.static "GossipTrain" "BODIES" "[I") (.int (Int32.ofNat j))) (.int (tBO.getD j 0))
def wSE (i : Nat) : List Cond := (List.range (sLen.getD i 0)).map fun j => Cond.eq (.elem (.field (tmS i) "java/lang/String" "value" "[B") (.int (Int32.ofNat j))) (.int ((sByt.getD i []).getD j 0))
def wSi (i : Nat) : List Cond := [Cond.exactly (tmS i) "java/lang/String", Cond.eq (.field (tmS i) "java/lang/String" "coder" "B") (.int 0), Cond.arrayOf (.field (tmS i) "java/lang/String" "value" "[B") .byte, Cond.eq (.length (.field (tmS i) "java/lang/String" "value" "[B")) (.int (Int32.ofNat (sLen.getD i 0)))] ++ wSE i
def wS4 : List Cond := (List.range 4).flatMap fun i => wSi i
def wNE : List Cond := [Cond.not (Cond.eq (tmS 0) (tmS 1)), Cond.not (Cond.eq (tmS 0) (tmS 2)), Cond.not (Cond.eq (tmS 0) (tmS 3)), Cond.not (Cond.eq (tmS 1) (tmS 2)), Cond.not (Cond.eq (tmS 3) (tmS 1)), Cond.not (Cond.eq (tmS 3) (tmS 2))]
theorem wS4_in {i : Nat} {w : Cond} (hi : i < 4) (h : w ∈ wSi i) : w ∈ wS4 :=
  List.mem_flatMap.mpr ⟨i, List.mem_range.mpr hi, h⟩
def wLay : List Cond := [Cond.laysStatic "GossipTrain" "KIND_ABOVE" "[I", Cond.laysStatic "GossipTrain" "BODIES" "[I", Cond.laysStatic "java/lang/String" "COMPACT_STRINGS" "Z", Cond.laysStatic "jdk/internal/util/Preconditions" "SIOOBE_FORMATTER" "Ljava/util/function/BiFunction;", Cond.initialized "GossipTrain", Cond.initialized "java/lang/String", Cond.initialized "jdk/internal/util/Preconditions"] ++ (List.range 4).map fun i => Cond.stringRef RX3 (sIdx i) (sTxt i)
theorem wLay_in : wLay.all (fun w => tables_1.contains w) = true := by decide +kernel
theorem start_gZ {p : Program} {s : State} {m : MethodId} {meth : Method} {c : Code} {b L : Nat} {xs : Nat → Int32} (C0 : lw_At p s m meth c b L xs) : ∃ Z : gZt, gZ s.heap.size Z s s.heap := by
  have hA : ∀ a : Nat, a < s.heap.size → ¬ gF s.heap.size a := fun a h => Nat.not_le.mpr h
  have hts := C0.2.2.2.2.2.1
  have hl : ∀ w ∈ wLay, w.before #[Value.ref b] s = true := fun w hw => hts w (List.mem_append_right _ (List.contains_iff_mem.mp (List.all_eq_true.mp wLay_in w hw)))
  have hka := hv_all C0 wKA (by decide +kernel)
  have hbo := hv_all C0 wBO (by decide +kernel)
  have hs4 := hv_all C0 wS4 (by decide +kernel)
  have hne := hv_all C0 wNE (by decide +kernel)
  obtain ⟨tk, htk, hTk⟩ := va_Tof (args := #[Value.ref b]) (s := s) (tm := .static "GossipTrain" "KIND_ABOVE" "[I") (ty := .int) (N := 7) (f := fun j => .int (tKA.getD j 0)) (A := gF s.heap.size) (by decide) (hv_of C0 (by decide +kernel)) (va_eqt (hv_of C0 (by decide +kernel))) (fun j hj => va_eqt (hka _ (List.mem_map.mpr ⟨j, List.mem_range.mpr hj, rfl⟩))) hA
  obtain ⟨tb, htb, hTb⟩ := va_Tof (args := #[Value.ref b]) (s := s) (tm := .static "GossipTrain" "BODIES" "[I") (ty := .int) (N := 21) (f := fun j => .int (tBO.getD j 0)) (A := gF s.heap.size) (by decide) (hv_of C0 (by decide +kernel)) (va_eqt (hv_of C0 (by decide +kernel))) (fun j hj => va_eqt (hbo _ (List.mem_map.mpr ⟨j, List.mem_range.mpr hj, rfl⟩))) hA
  have hq : ∀ i, i < 4 → ∀ w ∈ wSi i, w.before #[Value.ref b] s = true := fun i hi w hw => hs4 w (wS4_in hi hw)
  obtain ⟨adK, adV, hS, hSt⟩ := vk_Sof (args := #[Value.ref b]) (s := s) (N := 4) (tm := tmS) (len := sLen) (byt := sByt) (A := gF s.heap.size) (all4 (by decide) (by decide) (by decide) (by decide))
    (fun i hi => hq i hi _ (List.mem_of_getElem? (i := 0) rfl)) (fun i hi => hq i hi _ (List.mem_of_getElem? (i := 1) rfl)) (fun i hi => hq i hi _ (List.mem_of_getElem? (i := 2) rfl)) (fun i hi => hq i hi _ (List.mem_of_getElem? (i := 3) rfl))
    (fun i hi j hj => hq i hi _ (List.mem_append_right _ (List.mem_map.mpr ⟨j, List.mem_range.mpr hj, rfl⟩)))
    (fun i j hi hj hij => by
      have h01 := hne (Cond.not (Cond.eq (tmS 0) (tmS 1))) (by simp [wNE])
      have h02 := hne (Cond.not (Cond.eq (tmS 0) (tmS 2))) (by simp [wNE])
      have h03 := hne (Cond.not (Cond.eq (tmS 0) (tmS 3))) (by simp [wNE])
      have h12 := hne (Cond.not (Cond.eq (tmS 1) (tmS 2))) (by simp [wNE])
      have h31 := hne (Cond.not (Cond.eq (tmS 3) (tmS 1))) (by simp [wNE])
      have h32 := hne (Cond.not (Cond.eq (tmS 3) (tmS 2))) (by simp [wNE])
      match i, j, hi, hj with
      | 0, 0, _, _ => exact absurd rfl hij
      | 0, 1, _, _ => exact Or.inl h01
      | 0, 2, _, _ => exact Or.inl h02
      | 0, 3, _, _ => exact Or.inl h03
      | 1, 0, _, _ => exact Or.inr h01
      | 1, 1, _, _ => exact absurd rfl hij
      | 1, 2, _, _ => exact Or.inl h12
      | 1, 3, _, _ => exact Or.inr h31
      | 2, 0, _, _ => exact Or.inr h02
      | 2, 1, _, _ => exact Or.inr h12
      | 2, 2, _, _ => exact absurd rfl hij
      | 2, 3, _, _ => exact Or.inr h32
      | 3, 0, _, _ => exact Or.inr h03
      | 3, 1, _, _ => exact Or.inl h31
      | 3, 2, _, _ => exact Or.inl h32
      | 3, 3, _, _ => exact absurd rfl hij
      | n + 4, _, h, _ => exact absurd h (by omega)
      | _, n + 4, _, h => exact absurd h (by omega)) hA
  refine ⟨(tk, tb, adK, adV), va_Zref (hl _ (List.mem_of_getElem? (i := 0) rfl)) (hl _ (List.mem_of_getElem? (i := 4) rfl)) htk hA, hTk, va_Zref (hl _ (List.mem_of_getElem? (i := 1) rfl)) (hl _ (List.mem_of_getElem? (i := 4) rfl)) htb hA, hTb, va_Zof (hl _ (List.mem_of_getElem? (i := 2) rfl)) (hl _ (List.mem_of_getElem? (i := 5) rfl)) (va_eqi (hv_of C0 (by decide +kernel))) hA, hS, fun i hi => vk_R.of (hl _ (List.mem_append_right _ (List.mem_map.mpr ⟨i, List.mem_range.mpr hi, rfl⟩))) (hSt i hi), va_Zqof (hl _ (List.mem_of_getElem? (i := 3) rfl)) (hl _ (List.mem_of_getElem? (i := 6) rfl)) (hv_of C0 (by decide +kernel)) hA⟩
theorem wov_in : tables_1.contains (Cond.arrayOver (.object "GossipTrain$Tape")) = true := by decide +kernel
theorem start_gC {p : Program} {s : State} {m : MethodId} {meth : Method} {c : Code} {b L : Nat} {xs : Nat → Int32} (C0 : lw_At p s m meth c b L xs) : ∃ D Z, gC p s m meth c (#[Value.ref b] : Array Value) code 4 R_law D s.heap.size Z ∧ va_AO "GossipTrain$Tape" s := by
  have hts := C0.2.2.2.2.2.1
  have hwG : ∀ w ∈ wG, w.before #[Value.ref b] s = true := fun w hw => hts w (wG_in hw)
  have hov : (Cond.arrayOver (.object "GossipTrain$Tape")).before #[Value.ref b] s = true := hts _ (List.mem_append_right _ (List.contains_iff_mem.mp wov_in))
  obtain ⟨D, hK⟩ := start_gK hwG hov
  obtain ⟨Z, hZ⟩ := start_gZ C0
  have hN : nOK s := by
    intro w hw
    have h1 := List.mem_filter.mp hw
    have h2 := hts w (List.mem_append_right _ h1.1)
    have hn := h1.2
    cases w <;> first | exact va_Nw.of rfl h2 | exact absurd hn (by simp [isNw])
  exact ⟨D, Z, ⟨C0.1, C0.2.1, C0.2.2.2.1, C0.2.2.2.2.1, hwG, hN, hK, hZ, Nat.le_refl _, C0.2.2.2.2.2.2.2.2.1⟩, va_AO.of hov⟩
section LAWW
variable {p : Program} {l : Launch} {e : Env} {R : Room} {s : State} {m : MethodId} {args : Array Value} {below : List Frame} {meth : Method} {c : Code} {H : Heap} {locs : List Loc} {cells slots : Nat} {Q : State → Prop}
variable {cc : ByteArray} {pc nL : Nat} {ls : Array Slot} {rest : List Value} {own : String} {D : gDt} {base : Nat} {Z : gZt} {t j : Nat} {ph : Nat → va_E} {cs : List va_E}
/-- c_call, where the called one asks for the arrays of Tapes too -/
theorem c_callX (C0 : gC p s m meth c args cc nL own D base Z) (hov : va_AO "GossipTrain$Tape" s) {y : MethodName} {bytes : ByteArray} {maxL nA d mc ms index : Nat} {As : List Value} {e0 : va_E} {cs1 : List va_E} (hG : gCH D base s t ph (cs ++ [e0]) H locs) (hj : j = cs.length) (hM : Met l y (gws y bytes maxL none) (gRm d mc ms) (va_Pc (.ref (base + (t + j)) :: As) (fun U => gPreC D base Z (t + j) (phC ph t cs) [e0] U ∧ va_AO "GossipTrain$Tape" U)) (gQC D base (t + j) (phC ph t cs) cs1) mc ms (gF base))
    (hm : gMth y bytes maxL nA none) (hi : Cond.instanceMethod y ∈ wG) (hy1 : y.name = "<init>") (hlk : Cond.methodLink own index y ∈ wG) (hR : d + 1 ≤ R.frames ∧ 8 + (maxL + 11) + 40 * d ≤ R.locals) (hn : As.length = nA) (hsize : ls.size = nL) {st0 : List Value} (hstack : st0 = As.reverse ++ .ref (base + (t + j)) :: rest) (hW : (rest.map fun v => v.category).sum ≤ 8) (hdg : decode cc pc = .ok (.invokespecial index, 3)) (hf : cells + mc ≤ R.cells ∧ slots + ms ≤ R.slots)
    (kk : ∀ (H1 : Heap) (locs1 : List Loc), gCH D base s t ph (cs ++ cs1) H1 locs1 → W p l e R s m args below meth c H1 locs1 (cells + mc) (slots + ms) Q (F0 m (pc + 3) ls rest)) : W p l e R s m args below meth c H locs cells slots Q (F0 m pc ls st0) := by
  subst hj
  have hG0 : gCW D base (t + cs.length) (phC ph t cs) [e0] H := by
    have h := hG.1
    unfold gCW at h ⊢
    rw [List.length_append, ← Nat.add_assoc] at h
    exact h.congr (fun k _ => (phC_app k).symm)
  have hpre : ∀ U : State, U.heap = H → s.WarmedH U.vm → va_Pc (.ref (base + (t + cs.length)) :: As) (fun U => gPreC D base Z (t + cs.length) (phC ph t cs) [e0] U ∧ va_AO "GossipTrain$Tape" U) (Value.ref (base + (t + cs.length)) :: As).toArray U := by
    intro U hU hWm
    obtain ⟨hx, hb, hml, hown, hts, hN, hK, hZ, hbl, hlk⟩ := C0
    exact ⟨rfl, ⟨by rw [hU]; exact hG0, gK.moved hWm.alike hK, by rw [hU]; exact gZ.kept (gZ.warm hWm hZ) hG.2.2.1, nOK.warm hWm hN⟩, va_AO.moved hWm.alike hov⟩
  have hbl : FrameBlind (va_Pc (.ref (base + (t + cs.length)) :: As) (fun U => gPreC D base Z (t + cs.length) (phC ph t cs) [e0] U ∧ va_AO "GossipTrain$Tape" U)) := by
    intro a U g mk h
    obtain ⟨h0, ⟨h1, h2, h3, h4⟩, h5⟩ := h
    exact ⟨h0, ⟨h1, gK.moved (u := U) (U := U.calling g mk a) (Vm.Alike.refl U.vm) h2, gZ.same (u := U) (U := U.calling g mk a) rfl h3, nOK.same (u := U) (U := U.calling g mk a) rfl h4⟩, va_AO.moved (u := U) (U := U.calling g mk a) (Vm.Alike.refl U.vm) h5⟩
  refine va_callv (va_runI (g_fix C0) hM ⟨g_callB C0 hm hlk hR, hy1, C0.2.2.2.2.1 _ hi⟩ ⟨hbl, hpre⟩ rfl hn hsize hstack (lv_room hW) hdg hf) hG.2 (fun _ _ h => h) (fun _ h => h) (fun u' T1 H1 locs1 ht hvm hp hB hz hk hS => ?_)
  have hB' : gCW D base (t + cs.length) (phC ph t cs) cs1 H1 := by rw [← ht]; exact hB
  refine kk H1 locs1 ⟨?_, hS⟩
  unfold gCW at hB' ⊢
  rw [List.length_append, ← Nat.add_assoc]
  exact hB'.congr (fun k _ => phC_app k)
end LAWW
theorem nI_gt {L k : Nat} (hL : L ≤ 3072) (hk : 6 * k ≤ L) : Int32.ofNat L - 6 < Int32.ofNat (6 * k) ↔ L < 6 * k + 6 := by
  have e1 : (Int32.ofNat L).toInt = L := Int32.toInt_ofNat_of_lt (by omega)
  have e2 : (Int32.ofNat (6 * k)).toInt = (6 * k : Nat) := Int32.toInt_ofNat_of_lt (by omega)
  have e3 : (6 : Int32).toInt = 6 := rfl
  have e4 : (Int32.ofNat L - 6).toInt = (L : Int) - 6 := by
    rw [Int32.toInt_sub, e1, e3]
    exact Int.bmod_eq_of_le (by omega) (by omega)
  rw [Int32.lt_iff_toInt_lt, e4, e2]
  omega
theorem law_loop {Inv : Mem → Prop} {b L : Nat} {xs : Nat → Int32} (hL : L ≤ 3072) (hstep : ∀ (k : Nat) (u : Mem), 6 * k + 6 ≤ L → Inv u → ∃ u2, f_L_step xs L (Int32.ofNat (6 * k)) u = some u2 ∧ Inv u2)
    {p : Program} {e : Env} {s : State} {m : MethodId} {below : List Frame} {meth : Method} {c : Code} (l : Launch) (C0 : lw_At p s m meth c b L xs) {D : gDt} {Z : gZt} (C1 : gC p s m meth c (#[Value.ref b] : Array Value) code 4 R_law D s.heap.size Z) :
    ∀ (n k : Nat), k + n = 513 → 6 * k ≤ L → ∀ (u : Mem) (H : Heap) (locs : List Loc) (ls : Array Slot), Inv u → gH D s.heap.size s u H locs → lv_has ls 4 [(0, .ref b), (1, .ref (s.heap.size + 0)), (2, .ref (s.heap.size + 82)), (3, .int (Int32.ofNat (6 * k)))] → W p l e room_1 s m (#[Value.ref b] : Array Value) below meth c H locs (129 + 2 * k) (3361 + 103 * k) (lw_Z below #[Value.ref b] s) (F0 m 18 ls []) := by
  have hx := C1.1
  have hb := C1.2.1
  have hX := C0.2.2.2.2.2.2.1
  have hbl := C0.2.2.2.2.2.2.2.1
  have hbA : ¬ gF s.heap.size b := Nat.not_le.mpr hbl
  intro n
  induction n with
  | zero => intro k h1 h2; omega
  | succ n ih =>
    intro k h1 h2 u H locs ls hI hG hl
    refine lv_iload_n hx hb dL_law_18 rfl (lv_at hl 3 rfl) ?_
    refine lv_aload_n hx hb dL_law_19 rfl (lv_at hl 0 rfl) ?_
    refine va_slen hx hb hX hbl hbA hG.2 dL_law_20 ?_
    refine lv_bipush (v := (6 : Int32)) hx hb dL_law_21 (by decide) ?_
    refine lv_isub hx hb dL_law_23 ?_
    refine lv_icmp_gt (tgt := 1368) hx hb dL_law_24 (by decide) (fun h => ?_) (fun h => ?_)
    · refine lv_iconst (v := (1 : Int32)) hx hb dL_law_1368 (by decide) ?_
      refine W.widen (k := 600000) (n := 7302250) (by omega) (by omega) ?_
      refine va_forget (fun q hq => hG.2.2.2 q hq) ?_
      exact lw_ret hx hb C0.2.2.1 C0.2.2.2.2.2.2.2.2.1 dL_law_1369
    · have h3 : 6 * k + 6 ≤ L := by
        have := (not_congr (nI_gt hL h2)).mp h
        omega
      obtain ⟨u2, hf, hI2⟩ := hstep k u h3 hI
      refine k_L_step C1 hX hbl hbA ⟨by omega, by omega⟩ hl hG hf (fun H locs hG => ?_)
      refine lv_iinc (v := Int32.ofNat (6 * (k + 1))) (lv' := [(3, .int (Int32.ofNat (6 * (k + 1)))), (0, .ref b), (1, .ref (s.heap.size + 0)), (2, .ref (s.heap.size + 82))]) hx hb dL_law_1362 hl (k := 3) rfl (by rw [show 6 * (k + 1) = 6 * k + 6 from rfl, Int32.ofNat_add]; rfl) (by decide) rfl (fun ls hl => ?_)
      refine lv_goto (tgt := 18) hx hb dL_law_1365 (by decide) ?_
      have hl := lv_sub (l' := [(0, .ref b), (1, .ref (s.heap.size + 0)), (2, .ref (s.heap.size + 82)), (3, .int (Int32.ofNat (6 * (k + 1))))]) hl [1, 2, 3, 0] rfl
      have h5 := ih (k + 1) (by omega) (by omega) u2 H locs ls hI2 hG hl
      exact h5
theorem law_start {Inv : Mem → Prop} (hI0 : Inv u0) {b L : Nat} {xs : Nat → Int32} (hL : L ≤ 3072) (hstep : ∀ (k : Nat) (u : Mem), 6 * k + 6 ≤ L → Inv u → ∃ u2, f_L_step xs L (Int32.ofNat (6 * k)) u = some u2 ∧ Inv u2)
    {p : Program} {e : Env} {s : State} {m : MethodId} {below : List Frame} {meth : Method} {c : Code} (l : Launch) (C0 : lw_At p s m meth c b L xs) : W p l e room_1 s m #[Value.ref b] below meth c s.heap [] 0 0 (lw_Z below #[Value.ref b] s) (entryFrame m ([Value.ref b] : List Value).toArray 4) := by
  obtain ⟨D, Z, C1, hov⟩ := start_gC C0
  have hx := C1.1
  have hb := C1.2.1
  have hl := lv_entry ([.ref b]) (n := 4) (Nat.le_of_ble_eq_true rfl)
  rw [lg_entry_eq]
  generalize (lg_sl ([.ref b]) ++ List.replicate (4 - (lg_sl ([.ref b])).length) Slot.unset).toArray = ls at hl ⊢
  have hl : lv_has ls 4 [(0, .ref b)] := hl
  obtain ⟨base, hbase⟩ : ∃ base, base = s.heap.size := ⟨_, rfl⟩
  have hG : gCH D s.heap.size s 0 (fun _ => .inr (0, [])) [] s.heap [] := ⟨⟨rfl, fun k hk => absurd hk (Nat.not_lt_zero k)⟩, va_S.rf⟩
  refine c_new (ci := 7) (N := 10) (fs := [.null, .null, .null, .null, .null, .int 0, .null, .int 0, .null, .null]) C1 hG rfl tyX7 tyX7_ok (by decide +kernel) w_119 w_120 w_102 (Nat.le_of_ble_eq_true rfl) (Nat.le_of_ble_eq_true rfl) dL_law_0 (fun H hG => ?_)
  have hG : gCH D s.heap.size s 0 (fun _ => .inr (0, [])) [.inr (7, [.null, .null, .null, .null, .null, .int 0, .null, .int 0, .null, .null])] H [] := hG
  change W p l e _ s m _ below meth c H [] 1 10 _ (F0 m _ ls (.ref (s.heap.size + (0 + 0)) :: _))
  refine lv_dup hx hb dL_law_3 rfl ?_
  refine c_callX (cs := []) (e0 := .inr (7, [.null, .null, .null, .null, .null, .int 0, .null, .int 0, .null, .null])) (j := 0) C1 hov hG rfl (k_X7_init l D s.heap.size Z (0 + 0) (phC (fun _ => .inr (0, [])) 0 [])) m_X7_init w_122 rfl w_121 ⟨Nat.le_of_ble_eq_true rfl, Nat.le_of_ble_eq_true rfl⟩ rfl hl.1 rfl (Nat.le_of_ble_eq_true rfl) dL_law_4 ⟨Nat.le_of_ble_eq_true rfl, Nat.le_of_ble_eq_true rfl⟩ (fun H locs hG => ?_)
  have hG : gCH D s.heap.size s 0 (fun _ => .inr (0, [])) (csX D s.heap.size) H locs := hG
  change W p l e _ s m _ below meth c H locs 82 1421 _ _
  refine lv_astore_n (lv' := [(1, .ref (s.heap.size + 0)), (0, .ref b)]) hx hb dL_law_7 rfl hl (by decide) rfl (fun ls hl => ?_)
  refine c_new (ci := 8) (N := 77) (fs := [.int 0, .int 0, .int 0, .int 0, .int 0, .null, .null, .null, .null, .null, .null, .null, .int 0, .int 0, .int 0, .int 0, .int 0, .null, .null, .null, .null, .null, .null, .null, .null, .int 0, .int 0, .int 0, .null, .null, .int 0, .int 0, .int 0, .int 0, .null, .null, .null, .int 0, .null, .null, .null, .int 0, .int 0, .null, .null, .null, .null, .int 0, .int 0, .int 0, .int 0, .int 0, .int 0, .int 0, .int 0, .int 0, .int 0, .null, .null, .null, .null, .null, .null, .null, .null, .null, .null, .null, .null, .null, .null, .int 0, .null, .null, .null, .null, .null]) C1 hG rfl tyX8 tyX8_ok (by decide +kernel) w_840 w_841 w_111 (Nat.le_of_ble_eq_true rfl) (Nat.le_of_ble_eq_true rfl) dL_law_8 (fun H hG => ?_)
  change W p l e _ s m _ below meth c H locs 83 1498 _ (F0 m _ ls (.ref (s.heap.size + (0 + 82)) :: _))
  refine lv_dup hx hb dL_law_11 rfl ?_
  refine c_call (cs := csX D s.heap.size) (j := 82) C1 hG rfl (k_X8_init l D s.heap.size Z (0 + 82) (phC (fun _ => .inr (0, [])) 0 (csX D s.heap.size))) m_X8_init w_843 rfl w_842 ⟨Nat.le_of_ble_eq_true rfl, Nat.le_of_ble_eq_true rfl⟩ rfl hl.1 rfl (Nat.le_of_ble_eq_true rfl) dL_law_12 ⟨Nat.le_of_ble_eq_true rfl, Nat.le_of_ble_eq_true rfl⟩ (fun H locs hG => ?_)
  have hG : gCH D s.heap.size s 0 (fun _ => .inr (0, [])) (csX D s.heap.size ++ csM D s.heap.size) H locs := hG
  change W p l e _ s m _ below meth c H locs 129 3361 _ _
  refine lv_astore_n (lv' := [(2, .ref (s.heap.size + 82)), (1, .ref (s.heap.size + 0)), (0, .ref b)]) hx hb dL_law_15 rfl hl (by decide) rfl (fun ls hl => ?_)
  refine lv_iconst (v := (0 : Int32)) hx hb dL_law_16 (by decide) ?_
  refine lv_istore_n (lv' := [(3, .int (0 : Int32)), (2, .ref (s.heap.size + 82)), (1, .ref (s.heap.size + 0)), (0, .ref b)]) hx hb dL_law_17 rfl hl (by decide) rfl (fun ls hl => ?_)
  have hl := lv_sub (l' := [(0, .ref b), (1, .ref (s.heap.size + 0)), (2, .ref (s.heap.size + 82)), (3, .int (Int32.ofNat (6 * 0)))]) hl [3, 2, 1, 0] rfl
  exact law_loop hL hstep l C0 C1 513 0 rfl (Nat.zero_le _) u0 H locs ls hI0 ⟨start_W hG.1, hG.2⟩ hl
