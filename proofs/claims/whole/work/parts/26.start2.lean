/-! the heap behind the constructors; the law up to its loop; printed by wip/gen/gen6.py -/
def mfo (f : Nat → mC) (l : List (Nat × mC)) : Nat → mC := l.foldl (fun f p => mup f p.1 p.2) f
def mch0 : List (Nat × mC) := [(0, .inr (0, [.null, .null, .null, .null, .null, .null, .null, .int 0, .int 0, .int 0]))]
def mch1 : List (Nat × mC) := [(1, .inr (1, [.null, .int 0])),
  (2, .inl (.byte, 800, .inl fun _ => 0)),
  (1, .inr (1, [.ref 2, .int 0])),
  (1, .inr (1, [.ref 2, .int 0])),
  (0, .inr (0, [.ref 1, .null, .null, .null, .null, .null, .null, .int 0, .int 0, .int 0])),
  (3, .inr (1, [.null, .int 0])),
  (4, .inl (.byte, 400, .inl fun _ => 0)),
  (3, .inr (1, [.ref 4, .int 0])),
  (3, .inr (1, [.ref 4, .int 0])),
  (0, .inr (0, [.ref 1, .ref 3, .null, .null, .null, .null, .null, .int 0, .int 0, .int 0])),
  (5, .inr (1, [.null, .int 0])),
  (6, .inl (.byte, 6000, .inl fun _ => 0)),
  (5, .inr (1, [.ref 6, .int 0])),
  (5, .inr (1, [.ref 6, .int 0])),
  (0, .inr (0, [.ref 1, .ref 3, .ref 5, .null, .null, .null, .null, .int 0, .int 0, .int 0])),
  (7, .inr (3, [.int 0, .int 0, .int 0, .int 0, .int 0, .int 0, .int 0, .int 0, .int 0])),
  (0, .inr (0, [.ref 1, .ref 3, .ref 5, .ref 7, .null, .null, .null, .int 0, .int 0, .int 0])),
  (8, .inr (2, [.null, .null, .null, .int 0])),
  (9, .inl (.int, 24, .inl fun _ => 0)),
  (8, .inr (2, [.ref 9, .null, .null, .int 0])),
  (10, .inl (.long, 24, .inr (.inl fun _ => 0))),
  (8, .inr (2, [.ref 9, .ref 10, .null, .int 0])),
  (11, .inl (.byte, 4800, .inl fun _ => 0)),
  (8, .inr (2, [.ref 9, .ref 10, .ref 11, .int 0])),
  (0, .inr (0, [.ref 1, .ref 3, .ref 5, .ref 7, .ref 8, .null, .null, .int 0, .int 0, .int 0])),
  (12, .inr (4, [.null, .null, .null, .null, .null, .null, .int 0, .int 0, .int 0, .long 0])),
  (13, .inr (5, [.null, .int 0, .int 0, .int 0])),
  (14, .inl (.byte, 1600, .inl fun _ => 0)),
  (13, .inr (5, [.ref 14, .int 0, .int 0, .int 0])),
  (12, .inr (4, [.null, .null, .null, .ref 13, .null, .null, .int 0, .int 0, .int 0, .long 0])),
  (15, .inr (7, [.null, .null, .int 0, .int 0, .int 0, .long 0, .int 0, .int 0])),
  (16, .inr (8, [.null, .int 0, .null, .int 0, .int 0])),
  (17, .inl (.long, 96, .inr (.inl fun _ => 0))),
  (16, .inr (8, [.ref 17, .int 0, .null, .int 0, .int 0])),
  (18, .inl (.byte, 864, .inl fun _ => 0)),
  (16, .inr (8, [.ref 17, .int 0, .ref 18, .int 0, .int 0])),
  (15, .inr (7, [.ref 16, .null, .int 0, .int 0, .int 0, .long 0, .int 0, .int 0])),
  (19, .inr (9, [.long 0, .int 0, .long 0, .int 0, .long 0, .int 0, .int 0, .int 0])),
  (15, .inr (7, [.ref 16, .ref 19, .int 0, .int 0, .int 0, .long 0, .int 0, .int 0])),
  (12, .inr (4, [.null, .null, .null, .ref 13, .ref 15, .null, .int 0, .int 0, .int 0, .long 0])),
  (20, .inr (6, [.long 0, .int 0, .long 0, .int 0, .int 0, .int 0, .int 0])),
  (12, .inr (4, [.null, .null, .null, .ref 13, .ref 15, .ref 20, .int 0, .int 0, .int 0, .long 0])),
  (12, .inr (4, [.ref 7, .null, .null, .ref 13, .ref 15, .ref 20, .int 0, .int 0, .int 0, .long 0])),
  (12, .inr (4, [.ref 7, .ref 8, .null, .ref 13, .ref 15, .ref 20, .int 0, .int 0, .int 0, .long 0])),
  (12, .inr (4, [.ref 7, .ref 8, .ref 5, .ref 13, .ref 15, .ref 20, .int 0, .int 0, .int 0, .long 0])),
  (0, .inr (0, [.ref 1, .ref 3, .ref 5, .ref 7, .ref 8, .ref 12, .null, .int 0, .int 0, .int 0])),
  (21, .inr (10, [.null, .null, .int 0, .int 0, .int 0, .int 0, .int 0, .int 0, .int 0, .int 0, .long 0])),
  (22, .inr (11, [.null, .int 0, .int 0, .int 0])),
  (23, .inl (.long, 128, .inr (.inl fun _ => 0))),
  (22, .inr (11, [.ref 23, .int 0, .int 0, .int 0])),
  (21, .inr (10, [.null, .ref 22, .int 0, .int 0, .int 0, .int 0, .int 0, .int 0, .int 0, .int 0, .long 0])),
  (21, .inr (10, [.ref 1, .ref 22, .int 0, .int 0, .int 0, .int 0, .int 0, .int 0, .int 0, .int 0, .long 0])),
  (0, .inr (0, [.ref 1, .ref 3, .ref 5, .ref 7, .ref 8, .ref 12, .ref 21, .int 0, .int 0, .int 0])),
  (0, .inr (0, [.ref 1, .ref 3, .ref 5, .ref 7, .ref 8, .ref 12, .ref 21, .int 0, .int 0, .int 0])),
  (0, .inr (0, [.ref 1, .ref 3, .ref 5, .ref 7, .ref 8, .ref 12, .ref 21, .int 0, .int 0, .int 0])),
  (0, .inr (0, [.ref 1, .ref 3, .ref 5, .ref 7, .ref 8, .ref 12, .ref 21, .int 0, .int 0, .int (-1)]))]
def mch2 : List (Nat × mC) := [(24, .inr (12, [.null, .null, .null, .null, .int 0, .int 0, .int 0, .int 0, .int 0, .int 0, .null, .null, .null, .int 0, .int 0, .int 0, .int 0, .int 0, .int 0, .int 0, .int 0, .int 0, .int 0, .null, .null, .null, .null, .int 0, .int 0, .null, .int 0, .int 0, .null, .int 0, .int 0, .int 0, .int 0, .int 0, .int 0, .int 0, .int 0]))]
def mch3 : List (Nat × mC) := [(25, .inl (.byte, 800, .inl fun _ => 0)),
  (24, .inr (12, [.ref 25, .null, .null, .null, .int 0, .int 0, .int 0, .int 0, .int 0, .int 0, .null, .null, .null, .int 0, .int 0, .int 0, .int 0, .int 0, .int 0, .int 0, .int 0, .int 0, .int 0, .null, .null, .null, .null, .int 0, .int 0, .null, .int 0, .int 0, .null, .int 0, .int 0, .int 0, .int 0, .int 0, .int 0, .int 0, .int 0])),
  (26, .inl (.byte, 400, .inl fun _ => 0)),
  (24, .inr (12, [.ref 25, .ref 26, .null, .null, .int 0, .int 0, .int 0, .int 0, .int 0, .int 0, .null, .null, .null, .int 0, .int 0, .int 0, .int 0, .int 0, .int 0, .int 0, .int 0, .int 0, .int 0, .null, .null, .null, .null, .int 0, .int 0, .null, .int 0, .int 0, .null, .int 0, .int 0, .int 0, .int 0, .int 0, .int 0, .int 0, .int 0])),
  (27, .inl (.byte, 10000, .inl fun _ => 0)),
  (24, .inr (12, [.ref 25, .ref 26, .ref 27, .null, .int 0, .int 0, .int 0, .int 0, .int 0, .int 0, .null, .null, .null, .int 0, .int 0, .int 0, .int 0, .int 0, .int 0, .int 0, .int 0, .int 0, .int 0, .null, .null, .null, .null, .int 0, .int 0, .null, .int 0, .int 0, .null, .int 0, .int 0, .int 0, .int 0, .int 0, .int 0, .int 0, .int 0])),
  (28, .inl (.byte, 4800, .inl fun _ => 0)),
  (24, .inr (12, [.ref 25, .ref 26, .ref 27, .ref 28, .int 0, .int 0, .int 0, .int 0, .int 0, .int 0, .null, .null, .null, .int 0, .int 0, .int 0, .int 0, .int 0, .int 0, .int 0, .int 0, .int 0, .int 0, .null, .null, .null, .null, .int 0, .int 0, .null, .int 0, .int 0, .null, .int 0, .int 0, .int 0, .int 0, .int 0, .int 0, .int 0, .int 0])),
  (24, .inr (12, [.ref 25, .ref 26, .ref 27, .ref 28, .int 0, .int (-1), .int 0, .int 0, .int 0, .int 0, .null, .null, .null, .int 0, .int 0, .int 0, .int 0, .int 0, .int 0, .int 0, .int 0, .int 0, .int 0, .null, .null, .null, .null, .int 0, .int 0, .null, .int 0, .int 0, .null, .int 0, .int 0, .int 0, .int 0, .int 0, .int 0, .int 0, .int 0])),
  (24, .inr (12, [.ref 25, .ref 26, .ref 27, .ref 28, .int 0, .int (-1), .int 0, .int 0, .int (-1), .int 0, .null, .null, .null, .int 0, .int 0, .int 0, .int 0, .int 0, .int 0, .int 0, .int 0, .int 0, .int 0, .null, .null, .null, .null, .int 0, .int 0, .null, .int 0, .int 0, .null, .int 0, .int 0, .int 0, .int 0, .int 0, .int 0, .int 0, .int 0])),
  (29, .inl (.int, 24, .inl fun _ => 0)),
  (24, .inr (12, [.ref 25, .ref 26, .ref 27, .ref 28, .int 0, .int (-1), .int 0, .int 0, .int (-1), .int 0, .ref 29, .null, .null, .int 0, .int 0, .int 0, .int 0, .int 0, .int 0, .int 0, .int 0, .int 0, .int 0, .null, .null, .null, .null, .int 0, .int 0, .null, .int 0, .int 0, .null, .int 0, .int 0, .int 0, .int 0, .int 0, .int 0, .int 0, .int 0])),
  (30, .inl (.int, 24, .inl fun _ => 0)),
  (24, .inr (12, [.ref 25, .ref 26, .ref 27, .ref 28, .int 0, .int (-1), .int 0, .int 0, .int (-1), .int 0, .ref 29, .ref 30, .null, .int 0, .int 0, .int 0, .int 0, .int 0, .int 0, .int 0, .int 0, .int 0, .int 0, .null, .null, .null, .null, .int 0, .int 0, .null, .int 0, .int 0, .null, .int 0, .int 0, .int 0, .int 0, .int 0, .int 0, .int 0, .int 0])),
  (31, .inl (.long, 24, .inr (.inl fun _ => 0))),
  (24, .inr (12, [.ref 25, .ref 26, .ref 27, .ref 28, .int 0, .int (-1), .int 0, .int 0, .int (-1), .int 0, .ref 29, .ref 30, .ref 31, .int 0, .int 0, .int 0, .int 0, .int 0, .int 0, .int 0, .int 0, .int 0, .int 0, .null, .null, .null, .null, .int 0, .int 0, .null, .int 0, .int 0, .null, .int 0, .int 0, .int 0, .int 0, .int 0, .int 0, .int 0, .int 0])),
  (32, .inr (13, [.null, .int 0, .int 0])),
  (33, .inl (.int, 465, .inl fun _ => 0)),
  (32, .inr (13, [.ref 33, .int 0, .int 0])),
  (32, .inr (13, [.ref 33, .int 45, .int 0])),
  (32, .inr (13, [.ref 33, .int 45, .int 45])),
  (24, .inr (12, [.ref 25, .ref 26, .ref 27, .ref 28, .int 0, .int (-1), .int 0, .int 0, .int (-1), .int 0, .ref 29, .ref 30, .ref 31, .int 0, .int 0, .int 0, .int 0, .int 0, .int 0, .int 0, .int 0, .int 0, .int 0, .ref 32, .null, .null, .null, .int 0, .int 0, .null, .int 0, .int 0, .null, .int 0, .int 0, .int 0, .int 0, .int 0, .int 0, .int 0, .int 0])),
  (34, .inr (13, [.null, .int 0, .int 0])),
  (35, .inl (.int, 465, .inl fun _ => 0)),
  (34, .inr (13, [.ref 35, .int 0, .int 0])),
  (34, .inr (13, [.ref 35, .int 45, .int 0])),
  (34, .inr (13, [.ref 35, .int 45, .int 45])),
  (24, .inr (12, [.ref 25, .ref 26, .ref 27, .ref 28, .int 0, .int (-1), .int 0, .int 0, .int (-1), .int 0, .ref 29, .ref 30, .ref 31, .int 0, .int 0, .int 0, .int 0, .int 0, .int 0, .int 0, .int 0, .int 0, .int 0, .ref 32, .ref 34, .null, .null, .int 0, .int 0, .null, .int 0, .int 0, .null, .int 0, .int 0, .int 0, .int 0, .int 0, .int 0, .int 0, .int 0])),
  (36, .inr (13, [.null, .int 0, .int 0])),
  (37, .inl (.int, 465, .inl fun _ => 0)),
  (36, .inr (13, [.ref 37, .int 0, .int 0])),
  (36, .inr (13, [.ref 37, .int 45, .int 0])),
  (36, .inr (13, [.ref 37, .int 45, .int 45])),
  (24, .inr (12, [.ref 25, .ref 26, .ref 27, .ref 28, .int 0, .int (-1), .int 0, .int 0, .int (-1), .int 0, .ref 29, .ref 30, .ref 31, .int 0, .int 0, .int 0, .int 0, .int 0, .int 0, .int 0, .int 0, .int 0, .int 0, .ref 32, .ref 34, .ref 36, .null, .int 0, .int 0, .null, .int 0, .int 0, .null, .int 0, .int 0, .int 0, .int 0, .int 0, .int 0, .int 0, .int 0])),
  (38, .inl (.byte, 2400, .inl fun _ => 0)),
  (24, .inr (12, [.ref 25, .ref 26, .ref 27, .ref 28, .int 0, .int (-1), .int 0, .int 0, .int (-1), .int 0, .ref 29, .ref 30, .ref 31, .int 0, .int 0, .int 0, .int 0, .int 0, .int 0, .int 0, .int 0, .int 0, .int 0, .ref 32, .ref 34, .ref 36, .ref 38, .int 0, .int 0, .null, .int 0, .int 0, .null, .int 0, .int 0, .int 0, .int 0, .int 0, .int 0, .int 0, .int 0])),
  (39, .inl (.byte, 12000, .inl fun _ => 0)),
  (24, .inr (12, [.ref 25, .ref 26, .ref 27, .ref 28, .int 0, .int (-1), .int 0, .int 0, .int (-1), .int 0, .ref 29, .ref 30, .ref 31, .int 0, .int 0, .int 0, .int 0, .int 0, .int 0, .int 0, .int 0, .int 0, .int 0, .ref 32, .ref 34, .ref 36, .ref 38, .int 0, .int 0, .ref 39, .int 0, .int 0, .null, .int 0, .int 0, .int 0, .int 0, .int 0, .int 0, .int 0, .int 0])),
  (40, .inl (.byte, 6000, .inl fun _ => 0)),
  (24, .inr (12, [.ref 25, .ref 26, .ref 27, .ref 28, .int 0, .int (-1), .int 0, .int 0, .int (-1), .int 0, .ref 29, .ref 30, .ref 31, .int 0, .int 0, .int 0, .int 0, .int 0, .int 0, .int 0, .int 0, .int 0, .int 0, .ref 32, .ref 34, .ref 36, .ref 38, .int 0, .int 0, .ref 39, .int 0, .int 0, .ref 40, .int 0, .int 0, .int 0, .int 0, .int 0, .int 0, .int 0, .int 0]))]
def mch4 : List (Nat × mC) := [(41, .inl (.long, 1, .inr (.inl fun _ => 0)))]
def mhs0 : mH := ((1, 0, 10), mfo mh0.2 mch0)
def mhs1 : mH := ((24, 0, 14822), mfo mhs0.2 mch1)
def mhs2 : mH := ((25, 0, 14863), mfo mhs1.2 mch2)
def mhs3 : mH := ((41, 0, 52739), mfo mhs2.2 mch3)
def mhs4 : mH := ((42, 0, 52740), mfo mhs3.2 mch4)
/-- the cells behind the constructors -/
def mhI : Nat → mC := fun a => if a < 42 then (bif Nat.blt a 21 then (bif Nat.blt a 10 then (bif Nat.blt a 5 then (bif Nat.blt a 2 then (bif Nat.blt a 1 then (bif Nat.beq a 0 then (.inr (0, [.ref 1, .ref 3, .ref 5, .ref 7, .ref 8, .ref 12, .ref 21, .int 0, .int 0, .int (-1)])) else (.inr (99, []))) else (bif Nat.beq a 1 then (.inr (1, [.ref 2, .int 0])) else (.inr (99, [])))) else (bif Nat.blt a 3 then (bif Nat.beq a 2 then (.inl (.byte, 800, .inl fun _ => 0)) else (.inr (99, []))) else (bif Nat.blt a 4 then (bif Nat.beq a 3 then (.inr (1, [.ref 4, .int 0])) else (.inr (99, []))) else (bif Nat.beq a 4 then (.inl (.byte, 400, .inl fun _ => 0)) else (.inr (99, [])))))) else (bif Nat.blt a 7 then (bif Nat.blt a 6 then (bif Nat.beq a 5 then (.inr (1, [.ref 6, .int 0])) else (.inr (99, []))) else (bif Nat.beq a 6 then (.inl (.byte, 6000, .inl fun _ => 0)) else (.inr (99, [])))) else (bif Nat.blt a 8 then (bif Nat.beq a 7 then (.inr (3, [.int 0, .int 0, .int 0, .int 0, .int 0, .int 0, .int 0, .int 0, .int 0])) else (.inr (99, []))) else (bif Nat.blt a 9 then (bif Nat.beq a 8 then (.inr (2, [.ref 9, .ref 10, .ref 11, .int 0])) else (.inr (99, []))) else (bif Nat.beq a 9 then (.inl (.int, 24, .inl fun _ => 0)) else (.inr (99, []))))))) else (bif Nat.blt a 15 then (bif Nat.blt a 12 then (bif Nat.blt a 11 then (bif Nat.beq a 10 then (.inl (.long, 24, .inr (.inl fun _ => 0))) else (.inr (99, []))) else (bif Nat.beq a 11 then (.inl (.byte, 4800, .inl fun _ => 0)) else (.inr (99, [])))) else (bif Nat.blt a 13 then (bif Nat.beq a 12 then (.inr (4, [.ref 7, .ref 8, .ref 5, .ref 13, .ref 15, .ref 20, .int 0, .int 0, .int 0, .long 0])) else (.inr (99, []))) else (bif Nat.blt a 14 then (bif Nat.beq a 13 then (.inr (5, [.ref 14, .int 0, .int 0, .int 0])) else (.inr (99, []))) else (bif Nat.beq a 14 then (.inl (.byte, 1600, .inl fun _ => 0)) else (.inr (99, [])))))) else (bif Nat.blt a 18 then (bif Nat.blt a 16 then (bif Nat.beq a 15 then (.inr (7, [.ref 16, .ref 19, .int 0, .int 0, .int 0, .long 0, .int 0, .int 0])) else (.inr (99, []))) else (bif Nat.blt a 17 then (bif Nat.beq a 16 then (.inr (8, [.ref 17, .int 0, .ref 18, .int 0, .int 0])) else (.inr (99, []))) else (bif Nat.beq a 17 then (.inl (.long, 96, .inr (.inl fun _ => 0))) else (.inr (99, []))))) else (bif Nat.blt a 19 then (bif Nat.beq a 18 then (.inl (.byte, 864, .inl fun _ => 0)) else (.inr (99, []))) else (bif Nat.blt a 20 then (bif Nat.beq a 19 then (.inr (9, [.long 0, .int 0, .long 0, .int 0, .long 0, .int 0, .int 0, .int 0])) else (.inr (99, []))) else (bif Nat.beq a 20 then (.inr (6, [.long 0, .int 0, .long 0, .int 0, .int 0, .int 0, .int 0])) else (.inr (99, [])))))))) else (bif Nat.blt a 31 then (bif Nat.blt a 26 then (bif Nat.blt a 23 then (bif Nat.blt a 22 then (bif Nat.beq a 21 then (.inr (10, [.ref 1, .ref 22, .int 0, .int 0, .int 0, .int 0, .int 0, .int 0, .int 0, .int 0, .long 0])) else (.inr (99, []))) else (bif Nat.beq a 22 then (.inr (11, [.ref 23, .int 0, .int 0, .int 0])) else (.inr (99, [])))) else (bif Nat.blt a 24 then (bif Nat.beq a 23 then (.inl (.long, 128, .inr (.inl fun _ => 0))) else (.inr (99, []))) else (bif Nat.blt a 25 then (bif Nat.beq a 24 then (.inr (12, [.ref 25, .ref 26, .ref 27, .ref 28, .int 0, .int (-1), .int 0, .int 0, .int (-1), .int 0, .ref 29, .ref 30, .ref 31, .int 0, .int 0, .int 0, .int 0, .int 0, .int 0, .int 0, .int 0, .int 0, .int 0, .ref 32, .ref 34, .ref 36, .ref 38, .int 0, .int 0, .ref 39, .int 0, .int 0, .ref 40, .int 0, .int 0, .int 0, .int 0, .int 0, .int 0, .int 0, .int 0])) else (.inr (99, []))) else (bif Nat.beq a 25 then (.inl (.byte, 800, .inl fun _ => 0)) else (.inr (99, [])))))) else (bif Nat.blt a 28 then (bif Nat.blt a 27 then (bif Nat.beq a 26 then (.inl (.byte, 400, .inl fun _ => 0)) else (.inr (99, []))) else (bif Nat.beq a 27 then (.inl (.byte, 10000, .inl fun _ => 0)) else (.inr (99, [])))) else (bif Nat.blt a 29 then (bif Nat.beq a 28 then (.inl (.byte, 4800, .inl fun _ => 0)) else (.inr (99, []))) else (bif Nat.blt a 30 then (bif Nat.beq a 29 then (.inl (.int, 24, .inl fun _ => 0)) else (.inr (99, []))) else (bif Nat.beq a 30 then (.inl (.int, 24, .inl fun _ => 0)) else (.inr (99, []))))))) else (bif Nat.blt a 36 then (bif Nat.blt a 33 then (bif Nat.blt a 32 then (bif Nat.beq a 31 then (.inl (.long, 24, .inr (.inl fun _ => 0))) else (.inr (99, []))) else (bif Nat.beq a 32 then (.inr (13, [.ref 33, .int 45, .int 45])) else (.inr (99, [])))) else (bif Nat.blt a 34 then (bif Nat.beq a 33 then (.inl (.int, 465, .inl fun _ => 0)) else (.inr (99, []))) else (bif Nat.blt a 35 then (bif Nat.beq a 34 then (.inr (13, [.ref 35, .int 45, .int 45])) else (.inr (99, []))) else (bif Nat.beq a 35 then (.inl (.int, 465, .inl fun _ => 0)) else (.inr (99, [])))))) else (bif Nat.blt a 39 then (bif Nat.blt a 37 then (bif Nat.beq a 36 then (.inr (13, [.ref 37, .int 45, .int 45])) else (.inr (99, []))) else (bif Nat.blt a 38 then (bif Nat.beq a 37 then (.inl (.int, 465, .inl fun _ => 0)) else (.inr (99, []))) else (bif Nat.beq a 38 then (.inl (.byte, 2400, .inl fun _ => 0)) else (.inr (99, []))))) else (bif Nat.blt a 40 then (bif Nat.beq a 39 then (.inl (.byte, 12000, .inl fun _ => 0)) else (.inr (99, []))) else (bif Nat.blt a 41 then (bif Nat.beq a 40 then (.inl (.byte, 6000, .inl fun _ => 0)) else (.inr (99, []))) else (bif Nat.beq a 41 then (.inl (.long, 1, .inr (.inl fun _ => 0))) else (.inr (99, []))))))))) else .inr (99, [])
theorem mfo_ge : ∀ (l : List (Nat × mC)) (f : Nat → mC) (n : Nat), (∀ p ∈ l, p.1 < n) → ∀ k, n ≤ k → mfo f l k = f k := by
  intro l
  induction l with
  | nil => intro f n _ k _; rfl
  | cons p l ih =>
    intro f n h k hk
    have h1 := h p List.mem_cons_self
    show mfo (mup f p.1 p.2) l k = f k
    rw [ih (mup f p.1 p.2) n (fun q hq => h q (List.mem_cons_of_mem _ hq)) k hk]
    show (if k = p.1 then p.2 else f k) = f k
    rw [if_neg (by omega)]
set_option maxRecDepth 100000 in
theorem mhI_eq : mhs4.2 = mhI := by
  funext k
  match k with
  | 0 => rfl
  | 1 => rfl
  | 2 => rfl
  | 3 => rfl
  | 4 => rfl
  | 5 => rfl
  | 6 => rfl
  | 7 => rfl
  | 8 => rfl
  | 9 => rfl
  | 10 => rfl
  | 11 => rfl
  | 12 => rfl
  | 13 => rfl
  | 14 => rfl
  | 15 => rfl
  | 16 => rfl
  | 17 => rfl
  | 18 => rfl
  | 19 => rfl
  | 20 => rfl
  | 21 => rfl
  | 22 => rfl
  | 23 => rfl
  | 24 => rfl
  | 25 => rfl
  | 26 => rfl
  | 27 => rfl
  | 28 => rfl
  | 29 => rfl
  | 30 => rfl
  | 31 => rfl
  | 32 => rfl
  | 33 => rfl
  | 34 => rfl
  | 35 => rfl
  | 36 => rfl
  | 37 => rfl
  | 38 => rfl
  | 39 => rfl
  | 40 => rfl
  | 41 => rfl
  | k + 42 =>
    have e : mhI (k + 42) = .inr (99, []) := if_neg (by omega)
    rw [e]
    show mfo (mfo (mfo (mfo (mfo mh0.2 mch0) mch1) mch2) mch3) mch4 (k + 42) = _
    rw [mfo_ge mch4 _ 42 (by decide +kernel) _ (by omega), mfo_ge mch3 _ 42 (by decide +kernel) _ (by omega), mfo_ge mch2 _ 42 (by decide +kernel) _ (by omega), mfo_ge mch1 _ 42 (by decide +kernel) _ (by omega), mfo_ge mch0 _ 42 (by decide +kernel) _ (by omega)]
    rfl
set_option maxRecDepth 100000 in
theorem mcF (X : mX) : mex X 400 40 mm0 0 (ment 1 [.ref 0]) [] mhs0 = some (.inl none, mhs1) := by rfl
set_option maxRecDepth 100000 in
theorem mcM (X : mX) : mex X 400 40 mm161 0 (ment 1 [.ref 24]) [] mhs2 = some (.inl none, mhs3) := by rfl
/-- the heap at the loop's head, before the first call -/
def mhS : mH := ((42, 0, 52740), mhI)
set_option maxRecDepth 100000 in
theorem law_head {X : mX} {r : mO × mH} (k : Ev X 1000 mm256 23 [some (.ref mRO), some (.ref 0), some (.ref 24), some (.ref 41), some (.int 0), none, none, none] [] mhS r) : Ev X 1000 mm256 0 mls [] mh0 r := by
  have e : mhs4 = mhS := by
    show ((42, 0, 52740), mhs4.2) = mhS
    rw [mhI_eq]
    rfl
  rw [← e] at k
  refine Ev.run (pc' := 4) (ls' := mls) (st' := [.ref 0, .ref 0]) (h' := mhs0) 2 rfl ?_
  refine Ev.call (v := none) (h' := mhs1) rfl rfl rfl (by decide) (Ev.deep (by omega) ⟨400, mcF X⟩) ?_
  refine Ev.run (pc' := 12) (ls' := [some (.ref mRO), some (.ref 0), none, none, none, none, none, none]) (st' := [.ref 24, .ref 24]) (h' := mhs2) 3 rfl ?_
  refine Ev.call (v := none) (h' := mhs3) rfl rfl rfl (by decide) (Ev.deep (by omega) ⟨400, mcM X⟩) ?_
  exact Ev.run (pc' := 23) (ls' := [some (.ref mRO), some (.ref 0), some (.ref 24), some (.ref 41), some (.int 0), none, none, none]) (st' := []) (h' := mhs4) 6 rfl k
