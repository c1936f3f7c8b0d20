/-! THE WORLDS of the two objects, once they are made: which cell lies where (the order is chosen here); v the numbers, a the arrays, w, u the longs
L: v: 0 imageKept, 1 moorsRead, 2 standsDone, 3 length, 4 rPegs, 5 rCoverts, 6 rLaughs, 7 rPart, 8 pegs, 9 coverts, 10 laughs, 11 places, 12 sport, 13 drives, 14 seen, 15 kpegs, 16 kcoverts, 17 klaughs, 18 kplaces, 19 ksport, 20 kdrives, 21 kseen, 22 orderSport, 23 gameLead, 24 gameCovert, 25 ySport, 26 yPlaces
L: a: 0 codes, 1 reach, 2 bag, 3 feed, 4 kind, 5 high, 6 seenLaugh, 7 seenWind, 8 seenPeg, 9 kreach, 10 kbag, 11 kfeed, 12 kkind, 13 khigh, 14 kseenLaugh, 15 kseenWind, 16 kseenPeg, 17 chosen, 18 worths, 19 nexts
M: v: 0 moors, 1 pegs, 2 coverts, 3 laughs, 4 sport, 5 drives, 6 asks, 7 seen, 8 pageLength, 9 isWhole, 10 newPegs, 11 newCoverts, 12 newLaughs, 13 lastHad, 14 isKept, 15 keptMoor, 16 keptSport, 17 keptDrives, 18 keptSeen
M: a: 0 reachOf (cell 1), 1 bagOf (cell 2), 2 feedOf (cell 3), 3 kindOf (cell 4), 4 covertOf (cell 5), 5 highOf (cell 6), 6 seenLaugh (cell 7), 7 seenWind (cell 8), 8 seenPeg (cell 9), 9 page (cell 10), 10 hadBy (cell 11), 11 saved (cell 12), 12 row (cell 13), 13 bestRow (cell 14), 14 savedReach (cell 15), 15 gameBy (cell 16), 16 keptReach (cell 17), 17 keptBag (cell 18), 18 keptFeed (cell 19), 19 keptCovert (cell 20), 20 keptHigh (cell 21), 21 keptLaugh (cell 22), 22 keptWind (cell 23), 23 keptPeg (cell 24) -/
def jL (v : Nat → Int32) (a : Nat → List Int32) (w : Int64) : jx_H := [
  .inr (6, [.ref 1, .ref 5, .ref 6, .ref 30, .int (v 0), .int (v 1), .int (v 2)]),
  .inr (1, [.ref 2, .int (v 3), .ref 4]),
  .inr (4, [.ref 3]),
  .inl (0, a 0),
  .inr (3, [.int (v 4), .int (v 5), .int (v 6), .int (v 7)]),
  .inr (2, [.ref 6, .int (v 22), .int (v 23), .int (v 24), .int (v 25), .int (v 26), .long w, .ref 24, .ref 26, .ref 28]),
  .inr (0, [.int (v 8), .int (v 9), .int (v 10), .ref 7, .ref 9, .ref 11, .ref 13, .ref 15, .ref 17, .int (v 11), .int (v 12), .int (v 13)]),
  .inr (4, [.ref 8]),
  .inl (0, a 1),
  .inr (4, [.ref 10]),
  .inl (0, a 2),
  .inr (4, [.ref 12]),
  .inl (0, a 3),
  .inr (4, [.ref 14]),
  .inl (0, a 4),
  .inr (4, [.ref 16]),
  .inl (0, a 5),
  .inr (5, [.int (v 14), .ref 18, .ref 20, .ref 22]),
  .inr (4, [.ref 19]),
  .inl (0, a 6),
  .inr (4, [.ref 21]),
  .inl (0, a 7),
  .inr (4, [.ref 23]),
  .inl (0, a 8),
  .inr (4, [.ref 25]),
  .inl (0, a 17),
  .inr (4, [.ref 27]),
  .inl (0, a 18),
  .inr (4, [.ref 29]),
  .inl (0, a 19),
  .inr (0, [.int (v 15), .int (v 16), .int (v 17), .ref 31, .ref 33, .ref 35, .ref 37, .ref 39, .ref 41, .int (v 18), .int (v 19), .int (v 20)]),
  .inr (4, [.ref 32]),
  .inl (0, a 9),
  .inr (4, [.ref 34]),
  .inl (0, a 10),
  .inr (4, [.ref 36]),
  .inl (0, a 11),
  .inr (4, [.ref 38]),
  .inl (0, a 12),
  .inr (4, [.ref 40]),
  .inl (0, a 13),
  .inr (5, [.int (v 21), .ref 42, .ref 44, .ref 46]),
  .inr (4, [.ref 43]),
  .inl (0, a 14),
  .inr (4, [.ref 45]),
  .inl (0, a 15),
  .inr (4, [.ref 47]),
  .inl (0, a 16)]
def jM (v : Nat → Int32) (a : Nat → List Int32) (w u : Int64) : jx_H := [
  .inr (7, [.int (v 0), .int (v 1), .int (v 2), .int (v 3), .ref 1, .ref 2, .ref 3, .ref 4, .ref 5, .ref 6, .int (v 4), .int (v 5), .int (v 6), .int (v 7), .ref 7, .ref 8, .ref 9, .int (v 8), .ref 10, .int (v 9), .int (v 10), .int (v 11), .int (v 12), .int (v 13), .ref 11, .ref 12, .ref 13, .ref 14, .ref 15, .ref 16, .long w, .int (v 14), .int (v 15), .int (v 16), .int (v 17), .int (v 18), .ref 17, .ref 18, .ref 19, .ref 20, .ref 21, .ref 22, .ref 23, .ref 24, .long u]),
  .inl (0, a 0),
  .inl (0, a 1),
  .inl (0, a 2),
  .inl (0, a 3),
  .inl (0, a 4),
  .inl (0, a 5),
  .inl (0, a 6),
  .inl (0, a 7),
  .inl (0, a 8),
  .inl (1, a 9),
  .inl (0, a 10),
  .inl (0, a 11),
  .inl (0, a 12),
  .inl (0, a 13),
  .inl (0, a 14),
  .inl (0, a 15),
  .inl (0, a 16),
  .inl (0, a 17),
  .inl (0, a 18),
  .inl (0, a 19),
  .inl (0, a 20),
  .inl (0, a 21),
  .inl (0, a 22),
  .inl (0, a 23)]
abbrev vL_imageKept : Nat := 0
abbrev vL_moorsRead : Nat := 1
abbrev vL_standsDone : Nat := 2
abbrev vL_length : Nat := 3
abbrev vL_rPegs : Nat := 4
abbrev vL_rCoverts : Nat := 5
abbrev vL_rLaughs : Nat := 6
abbrev vL_rPart : Nat := 7
abbrev vL_pegs : Nat := 8
abbrev vL_coverts : Nat := 9
abbrev vL_laughs : Nat := 10
abbrev vL_places : Nat := 11
abbrev vL_sport : Nat := 12
abbrev vL_drives : Nat := 13
abbrev vL_seen : Nat := 14
abbrev vL_kpegs : Nat := 15
abbrev vL_kcoverts : Nat := 16
abbrev vL_klaughs : Nat := 17
abbrev vL_kplaces : Nat := 18
abbrev vL_ksport : Nat := 19
abbrev vL_kdrives : Nat := 20
abbrev vL_kseen : Nat := 21
abbrev vL_orderSport : Nat := 22
abbrev vL_gameLead : Nat := 23
abbrev vL_gameCovert : Nat := 24
abbrev vL_ySport : Nat := 25
abbrev vL_yPlaces : Nat := 26
abbrev aL_codes : Nat := 0
abbrev aL_reach : Nat := 1
abbrev aL_bag : Nat := 2
abbrev aL_feed : Nat := 3
abbrev aL_kind : Nat := 4
abbrev aL_high : Nat := 5
abbrev aL_seenLaugh : Nat := 6
abbrev aL_seenWind : Nat := 7
abbrev aL_seenPeg : Nat := 8
abbrev aL_kreach : Nat := 9
abbrev aL_kbag : Nat := 10
abbrev aL_kfeed : Nat := 11
abbrev aL_kkind : Nat := 12
abbrev aL_khigh : Nat := 13
abbrev aL_kseenLaugh : Nat := 14
abbrev aL_kseenWind : Nat := 15
abbrev aL_kseenPeg : Nat := 16
abbrev aL_chosen : Nat := 17
abbrev aL_worths : Nat := 18
abbrev aL_nexts : Nat := 19
abbrev vM_moors : Nat := 0
abbrev vM_pegs : Nat := 1
abbrev vM_coverts : Nat := 2
abbrev vM_laughs : Nat := 3
abbrev vM_sport : Nat := 4
abbrev vM_drives : Nat := 5
abbrev vM_asks : Nat := 6
abbrev vM_seen : Nat := 7
abbrev vM_pageLength : Nat := 8
abbrev vM_isWhole : Nat := 9
abbrev vM_newPegs : Nat := 10
abbrev vM_newCoverts : Nat := 11
abbrev vM_newLaughs : Nat := 12
abbrev vM_lastHad : Nat := 13
abbrev vM_isKept : Nat := 14
abbrev vM_keptMoor : Nat := 15
abbrev vM_keptSport : Nat := 16
abbrev vM_keptDrives : Nat := 17
abbrev vM_keptSeen : Nat := 18
abbrev aM_reachOf : Nat := 0
abbrev aM_bagOf : Nat := 1
abbrev aM_feedOf : Nat := 2
abbrev aM_kindOf : Nat := 3
abbrev aM_covertOf : Nat := 4
abbrev aM_highOf : Nat := 5
abbrev aM_seenLaugh : Nat := 6
abbrev aM_seenWind : Nat := 7
abbrev aM_seenPeg : Nat := 8
abbrev aM_page : Nat := 9
abbrev aM_hadBy : Nat := 10
abbrev aM_saved : Nat := 11
abbrev aM_row : Nat := 12
abbrev aM_bestRow : Nat := 13
abbrev aM_savedReach : Nat := 14
abbrev aM_gameBy : Nat := 15
abbrev aM_keptReach : Nat := 16
abbrev aM_keptBag : Nat := 17
abbrev aM_keptFeed : Nat := 18
abbrev aM_keptCovert : Nat := 19
abbrev aM_keptHigh : Nat := 20
abbrev aM_keptLaugh : Nat := 21
abbrev aM_keptWind : Nat := 22
abbrev aM_keptPeg : Nat := 23
def jup {α : Type} (f : Nat → α) (k : Nat) (x : α) : Nat → α := fun j => bif Nat.beq j k then x else f j
theorem jup_s {α : Type} (f : Nat → α) (k : Nat) (x : α) : jup f k x k = x := by
  unfold jup; rw [Nat.beq_refl]; rfl
theorem jup_n {α : Type} (f : Nat → α) {k j : Nat} (x : α) (h : j ≠ k) : jup f k x j = f j := by
  unfold jup
  cases hb : Nat.beq j k with
  | true => exact absurd (Nat.eq_of_beq_eq_true hb) h
  | false => rfl
