/-! The class: its names and their kinds (1: the object, 20, 21 the two tellings, 100 to 120 tables, 200 to 221 standings, 1000.. the constants, 1100 the switch's table). -/
def kdOL : List (Nat × Nat) := [(99, 0), (0, 11), (0, 3), (0, 8), (2, 1000), (0, 4), (1, 80), (1, 80), (1, 80), (1, 30), (1, 30), (1, 1024), (4, 923), (4, 923), (4, 923), (0, 0), (6, 4), (1, 10), (1, 6), (7, 16), (0, 10), (0, 10), (0, 2), (0, 2), (0, 2), (0, 2), (4, 16), (4, 16), (4, 5), (4, 5), (1, 9), (1, 9), (1, 9), (1, 9), (0, 1), (0, 1), (0, 1), (0, 1), (5, 1000), (5, 1000), (5, 1000), (5, 1000), (1, 1000), (1, 1000), (1, 1000), (1, 1000), (5, 64), (5, 64), (5, 64), (5, 64), (1, 64), (1, 64), (1, 64), (1, 64), (1, 4), (1, 4), (1, 4), (1, 4), (1, 16), (1, 16), (1, 12), (1, 12), (1, 10), (1, 10), (99, 0), (99, 0), (99, 0), (99, 0), (99, 0), (99, 0), (0, 6), (0, 6), (0, 6), (0, 6), (0, 6), (99, 0), (99, 0), (99, 0), (99, 0), (99, 0), (99, 0), (99, 0), (99, 0), (99, 0), (99, 0), (99, 0), (99, 0), (99, 0), (99, 0), (99, 0), (99, 0), (99, 0), (99, 0), (99, 0), (99, 0), (99, 0), (99, 0), (99, 0), (99, 0), (99, 0), (0, 7), (0, 7), (0, 7), (0, 7), (0, 7), (0, 7), (0, 7), (0, 7), (0, 7), (0, 7), (0, 7), (0, 7), (0, 7), (0, 7), (0, 7), (0, 7), (0, 7), (0, 7), (0, 7), (0, 7), (0, 7), (99, 0), (99, 0), (99, 0), (99, 0), (99, 0), (99, 0), (99, 0), (99, 0), (99, 0), (1, 70), (1, 70), (1, 15), (1, 15), (1, 12), (1, 12), (1, 44), (1, 44), (1, 8), (1, 8), (1, 120), (1, 120), (1, 120), (1, 120), (1, 120), (1, 120), (1, 36), (1, 36), (1, 36), (1, 36), (1, 36), (99, 0), (99, 0), (99, 0), (99, 0), (99, 0), (99, 0), (99, 0), (99, 0), (99, 0), (99, 0), (99, 0), (99, 0), (99, 0), (99, 0), (99, 0), (99, 0), (99, 0), (99, 0), (99, 0), (99, 0), (99, 0), (99, 0), (99, 0), (99, 0), (99, 0), (99, 0), (99, 0), (99, 0), (99, 0), (99, 0), (99, 0), (99, 0), (99, 0), (99, 0), (99, 0), (99, 0), (99, 0), (99, 0), (99, 0), (99, 0), (99, 0), (99, 0), (99, 0), (99, 0), (99, 0), (99, 0), (99, 0), (99, 0), (99, 0), (0, 5), (0, 5), (0, 5), (0, 5), (0, 5), (0, 5), (0, 5), (0, 5), (0, 5), (0, 5), (0, 5), (0, 5), (0, 5), (0, 5), (0, 5), (0, 5), (0, 5), (0, 5), (0, 5), (0, 5), (0, 5), (0, 5), (99, 0), (99, 0), (99, 0), (99, 0), (99, 0), (99, 0), (99, 0), (99, 0), (1, 10), (1, 10), (1, 10), (1, 10), (1, 10), (1, 10), (1, 10), (1, 10), (1, 10), (1, 10), (1, 10), (1, 10), (1, 10), (1, 10), (1, 10), (1, 10), (1, 10), (1, 10), (1, 10), (1, 10), (1, 10), (1, 10), (99, 0), (99, 0), (99, 0), (99, 0), (99, 0), (99, 0), (99, 0), (99, 0)]
def kdO (a : Nat) : Nat × Nat := if a < 260 then kdOL.getD a (99, 0) else if a < 1000 then (99, 0) else if a < 1042 then (20, a - 1000) else if a = 1100 then (30, 42) else (99, 0)
def finOL : List (List Nat) := [[0], [4, 8, 12, 16, 20, 0, 0], [4, 8, 0], [1, 108], [1, 2, 3, 4, 5, 6, 7, 0, 0, 0, 0, 0, 0], [30, 0, 0, 0, 0, 0], [130, 41, 46, 0, 0], [0, 0, 30, 0], [1, 0, 0, 0, 0, 0, 0, 0], [], [2, 4, 80, 82, 84, 86, 88, 14, 16, 38, 40, 42, 0, 0, 0, 0, 0], [1, 69, 204, 4, 14, 15, 16, 17, 18, 0, 0, 0, 0]]
def finO (c a k : Nat) : Option Nat := match (finOL.getD c []).getD k 0 with | 0 => none | o => some (a + o)
/-- the constant of a sign, and of letters -/
def sgT (x : Int32) : Nat := if x = 40 then 4 else if x = 41 then 5 else if x = 59 then 6 else if x = 60 then 10 else if x = 61 then 11 else if x = 43 then 12 else if x = 45 then 13 else if x = 42 then 14 else 1
def ltT (x : Int64) : Nat := if x = 20974 then 7 else if x = 4545 then 8 else if x = 591 then 9 else if x = 5652993 then 15 else if x = 641 then 16 else if x = 180530 then 17 else if x = 9062903 then 18 else if x = 468724 then 19 else if x = 19047055 then 20 else if x = 486131888 then 21 else if x = 178220 then 22 else if x = 153068 then 23 else if x = 624093612691 then 24 else if x = 171056 then 25 else if x = 473122 then 26 else if x = 591022 then 27 else if x = 5943350 then 28 else if x = 405539 then 29 else if x = 363824 then 30 else if x = 25636 then 31 else if x = 14976400 then 32 else if x = 19965313 then 33 else if x = 9023671 then 34 else if x = 197796 then 35 else if x = 20587653 then 36 else if x = 21563027 then 37 else if x = 5694738 then 38 else if x = 190771 then 39 else if x = 183330 then 40 else if x = 5345 then 41 else 3
def inO (y : Nat) (as : List Value) (S : St) : Option (Option Value × St) := if y = 1800 then (match as with | [.int x] => some (some (.ref (1000 + sgT x)), S) | _ => none) else if y = 1801 then (match as with | [.long x] => some (some (.ref (1000 + ltT x)), S) | _ => none) else none
def KO : Cfg := (kdO, finO, inO)
theorem mx_1 : mX 1 = some ((⟨kN 0, "begin", "(I)V"⟩, prog_3_method_2_code, 2, none, 0), cd_1) := rfl
theorem mx_2 : mX 2 = some ((⟨kN 0, "below", "(I)I"⟩, prog_3_method_3_code, 2, some .int, 0), cd_2) := rfl
theorem mx_201 : mX 201 = some ((⟨kN 1, "clear", "()V"⟩, prog_4_method_2_code, 1, none, 1), cd_201) := rfl
theorem mx_202 : mX 202 = some ((⟨kN 1, "add", "(LNameOrchard$Token;I)V"⟩, prog_4_method_3_code, 3, none, 1), cd_202) := rfl
theorem mx_1803 : mX 1803 = some ((⟨kN 9, "isFactOf", "(Z)Z"⟩, prog_12_method_10_code, 2, some .boolean, 9), cd_1803) := rfl
theorem mx_205 : mX 205 = some ((⟨kN 1, "hold", "(LNameOrchard$Token;)V"⟩, prog_4_method_6_code, 2, none, 1), cd_205) := rfl
theorem mx_204 : mX 204 = some ((⟨kN 1, "last", "()LNameOrchard$Token;"⟩, prog_4_method_5_code, 1, some (.object "NameOrchard$Token"), 1), cd_204) := rfl
theorem mx_206 : mX 206 = some ((⟨kN 1, "drop", "()V"⟩, prog_4_method_7_code, 1, none, 1), cd_206) := rfl
theorem mx_209 : mX 209 = some ((⟨kN 1, "releaseNots", "()I"⟩, prog_4_method_10_code, 3, some .int, 1), cd_209) := rfl
theorem mx_207 : mX 207 = some ((⟨kN 1, "release", "(I)V"⟩, prog_4_method_8_code, 4, none, 1), cd_207) := rfl
theorem mx_208 : mX 208 = some ((⟨kN 1, "releaseBefore", "(LNameOrchard$Token;)Z"⟩, prog_4_method_9_code, 4, some .boolean, 1), cd_208) := rfl
theorem mx_1608 : mX 1608 = some ((⟨kN 8, "signAt", "(I)I"⟩, prog_11_method_9_code, 2, some .int, 8), cd_1608) := rfl
theorem mx_1609 : mX 1609 = some ((⟨kN 8, "isLetter", "(I)Z"⟩, prog_11_method_10_code, 1, some .boolean, 8), cd_1609) := rfl
theorem mx_401 : mX 401 = some ((⟨kN 2, "packed", "(JI)J"⟩, prog_5_method_2_code, 3, some .long, 2), cd_401) := rfl
theorem mx_1801 : mX 1801 = some ((⟨kN 9, "ofLetters", "(J)LNameOrchard$Token;"⟩, prog_12_method_8_code, 3, some (.object "NameOrchard$Token"), 9), cd_1801) := rfl
theorem mx_1606 : mX 1606 = some ((⟨kN 8, "readWord", "()V"⟩, prog_11_method_7_code, 2, none, 8), cd_1606) := rfl
theorem mx_1610 : mX 1610 = some ((⟨kN 8, "isDigit", "(I)Z"⟩, prog_11_method_11_code, 1, some .boolean, 8), cd_1610) := rfl
theorem mx_1607 : mX 1607 = some ((⟨kN 8, "readNumber", "()V"⟩, prog_11_method_8_code, 2, none, 8), cd_1607) := rfl
theorem mx_1800 : mX 1800 = some ((⟨kN 9, "ofSign", "(I)LNameOrchard$Token;"⟩, prog_12_method_7_code, 2, some (.object "NameOrchard$Token"), 9), cd_1800) := rfl
theorem mx_1605 : mX 1605 = some ((⟨kN 8, "step", "()V"⟩, prog_11_method_6_code, 1, none, 8), cd_1605) := rfl
theorem mx_203 : mX 203 = some ((⟨kN 1, "read", "(LNameOrchard$Tape;Z)I"⟩, prog_4_method_4_code, 9, some .int, 1), cd_203) := rfl
theorem mx_211 : mX 211 = some ((⟨kN 1, "joined", "(LNameOrchard$Token;II)I"⟩, prog_4_method_12_code, 3, some .int, 1), cd_211) := rfl
theorem mx_210 : mX 210 = some ((⟨kN 1, "answer", "(IIII)I"⟩, prog_4_method_11_code, 10, some .int, 1), cd_210) := rfl
theorem mx_402 : mX 402 = some ((⟨kN 2, "clear", "()V"⟩, prog_5_method_3_code, 1, none, 2), cd_402) := rfl
theorem mx_403 : mX 403 = some ((⟨kN 2, "size", "()I"⟩, prog_5_method_4_code, 1, some .int, 2), cd_403) := rfl
theorem mx_404 : mX 404 = some ((⟨kN 2, "at", "(I)J"⟩, prog_5_method_5_code, 2, some .long, 2), cd_404) := rfl
theorem mx_405 : mX 405 = some ((⟨kN 2, "add", "(J)V"⟩, prog_5_method_6_code, 3, none, 2), cd_405) := rfl
theorem mx_406 : mX 406 = some ((⟨kN 2, "find", "(J)I"⟩, prog_5_method_7_code, 4, some .int, 2), cd_406) := rfl
theorem mx_407 : mX 407 = some ((⟨kN 2, "letter", "(II)I"⟩, prog_5_method_8_code, 3, some .int, 2), cd_407) := rfl
theorem mx_408 : mX 408 = some ((⟨kN 2, "letters", "(I)I"⟩, prog_5_method_9_code, 5, some .int, 2), cd_408) := rfl
theorem mx_409 : mX 409 = some ((⟨kN 2, "holds", "(II)Z"⟩, prog_5_method_10_code, 6, some .boolean, 2), cd_409) := rfl
theorem mx_410 : mX 410 = some ((⟨kN 2, "start", "(II)I"⟩, prog_5_method_11_code, 8, some .int, 2), cd_410) := rfl
theorem mx_411 : mX 411 = some ((⟨kN 2, "rhyme", "(II)I"⟩, prog_5_method_12_code, 6, some .int, 2), cd_411) := rfl
theorem mx_412 : mX 412 = some ((⟨kN 2, "edits", "(II)I"⟩, prog_5_method_13_code, 12, some .int, 2), cd_412) := rfl
theorem mx_1401 : mX 1401 = some ((⟨kN 7, "clear", "()V"⟩, prog_10_method_2_code, 1, none, 7), cd_1401) := rfl
theorem mx_2001 : mX 2001 = some ((⟨kN 10, "clear", "()V"⟩, prog_13_method_2_code, 1, none, 10), cd_2001) := rfl
theorem mx_1602 : mX 1602 = some ((⟨kN 8, "open", "()V"⟩, prog_11_method_3_code, 1, none, 8), cd_1602) := rfl
theorem mx_603 : mX 603 = some ((⟨kN 3, "goesOn", "()Z"⟩, prog_6_method_4_code, 1, some .boolean, 3), cd_603) := rfl
theorem mx_1403 : mX 1403 = some ((⟨kN 7, "full", "()Z"⟩, prog_10_method_4_code, 1, some .boolean, 7), cd_1403) := rfl
theorem mx_1603 : mX 1603 = some ((⟨kN 8, "wrong", "(I)V"⟩, prog_11_method_4_code, 2, none, 8), cd_1603) := rfl
theorem mx_606 : mX 606 = some ((⟨kN 3, "open", "(Z)V"⟩, prog_6_method_7_code, 2, none, 3), cd_606) := rfl
theorem mx_1802 : mX 1802 = some ((⟨kN 9, "isName", "()Z"⟩, prog_12_method_9_code, 1, some .boolean, 9), cd_1802) := rfl
theorem mx_608 : mX 608 = some ((⟨kN 3, "isName", "()Z"⟩, prog_6_method_9_code, 1, some .boolean, 3), cd_608) := rfl
theorem mx_609 : mX 609 = some ((⟨kN 3, "newName", "(LNameOrchard$Told;)J"⟩, prog_6_method_10_code, 4, some .long, 3), cd_609) := rfl
theorem mx_1804 : mX 1804 = some ((⟨kN 9, "isSort", "()Z"⟩, prog_12_method_11_code, 1, some .boolean, 9), cd_1804) := rfl
theorem mx_614 : mX 614 = some ((⟨kN 3, "sortHere", "()I"⟩, prog_6_method_15_code, 2, some .int, 3), cd_614) := rfl
theorem mx_604 : mX 604 = some ((⟨kN 3, "take", "(LNameOrchard$Token;)V"⟩, prog_6_method_5_code, 2, none, 3), cd_604) := rfl
theorem mx_605 : mX 605 = some ((⟨kN 3, "number", "(I)I"⟩, prog_6_method_6_code, 3, some .int, 3), cd_605) := rfl
theorem mx_1404 : mX 1404 = some ((⟨kN 7, "holds", "(II)Z"⟩, prog_10_method_5_code, 3, some .boolean, 7), cd_1404) := rfl
theorem mx_1406 : mX 1406 = some ((⟨kN 7, "put", "(III)V"⟩, prog_10_method_7_code, 5, none, 7), cd_1406) := rfl
theorem mx_1407 : mX 1407 = some ((⟨kN 7, "add", "()I"⟩, prog_10_method_8_code, 2, some .int, 7), cd_1407) := rfl
theorem mx_613 : mX 613 = some ((⟨kN 3, "readApple", "(LNameOrchard$Told;)V"⟩, prog_6_method_14_code, 10, none, 3), cd_613) := rfl
theorem mx_1402 : mX 1402 = some ((⟨kN 7, "size", "()I"⟩, prog_10_method_3_code, 1, some .int, 7), cd_1402) := rfl
theorem mx_1405 : mX 1405 = some ((⟨kN 7, "at", "(II)I"⟩, prog_10_method_6_code, 4, some .int, 7), cd_1405) := rfl
theorem mx_2013 : mX 2013 = some ((⟨kN 10, "appleOfSound", "(I)I"⟩, prog_13_method_14_code, 3, some .int, 10), cd_2013) := rfl
theorem mx_611 : mX 611 = some ((⟨kN 3, "appleHere", "(LNameOrchard$Told;)I"⟩, prog_6_method_12_code, 3, some .int, 3), cd_611) := rfl
theorem mx_616 : mX 616 = some ((⟨kN 3, "untwinned", "(LNameOrchard$Told;I)I"⟩, prog_6_method_17_code, 4, some .int, 3), cd_616) := rfl
theorem mx_615 : mX 615 = some ((⟨kN 3, "readTwin", "(LNameOrchard$Told;)V"⟩, prog_6_method_16_code, 4, none, 3), cd_615) := rfl
theorem mx_617 : mX 617 = some ((⟨kN 3, "readOther", "(LNameOrchard$Told;)V"⟩, prog_6_method_18_code, 4, none, 3), cd_617) := rfl
theorem mx_610 : mX 610 = some ((⟨kN 3, "soundHere", "(LNameOrchard$Told;)I"⟩, prog_6_method_11_code, 3, some .int, 3), cd_610) := rfl
theorem mx_618 : mX 618 = some ((⟨kN 3, "readPerson", "(LNameOrchard$Told;)V"⟩, prog_6_method_19_code, 8, none, 3), cd_618) := rfl
theorem mx_619 : mX 619 = some ((⟨kN 3, "readStranger", "(LNameOrchard$Told;)V"⟩, prog_6_method_20_code, 5, none, 3), cd_619) := rfl
theorem mx_2005 : mX 2005 = some ((⟨kN 10, "hasApple", "(I)Z"⟩, prog_13_method_6_code, 2, some .boolean, 10), cd_2005) := rfl
theorem mx_620 : mX 620 = some ((⟨kN 3, "readPage", "(LNameOrchard$Told;)V"⟩, prog_6_method_21_code, 6, none, 3), cd_620) := rfl
theorem mx_621 : mX 621 = some ((⟨kN 3, "readBann", "(LNameOrchard$Told;)V"⟩, prog_6_method_22_code, 5, none, 3), cd_621) := rfl
theorem mx_607 : mX 607 = some ((⟨kN 3, "openLaw", "(Z)V"⟩, prog_6_method_8_code, 2, none, 3), cd_607) := rfl
theorem mx_624 : mX 624 = some ((⟨kN 3, "readLaw", "(LNameOrchard$Formula;Z)V"⟩, prog_6_method_25_code, 4, none, 3), cd_624) := rfl
theorem mx_622 : mX 622 = some ((⟨kN 3, "readNear", "(LNameOrchard$Told;)V"⟩, prog_6_method_23_code, 2, none, 3), cd_622) := rfl
theorem mx_623 : mX 623 = some ((⟨kN 3, "readValue", "(LNameOrchard$Told;)V"⟩, prog_6_method_24_code, 2, none, 3), cd_623) := rfl
theorem mx_2003 : mX 2003 = some ((⟨kN 10, "nearOnes", "(I)I"⟩, prog_13_method_4_code, 5, some .int, 10), cd_2003) := rfl
theorem mx_2004 : mX 2004 = some ((⟨kN 10, "having", "(II)I"⟩, prog_13_method_5_code, 5, some .int, 10), cd_2004) := rfl
theorem mx_2002 : mX 2002 = some ((⟨kN 10, "settle", "()V"⟩, prog_13_method_3_code, 2, none, 10), cd_2002) := rfl
theorem mx_1604 : mX 1604 = some ((⟨kN 8, "clear", "()V"⟩, prog_11_method_5_code, 1, none, 8), cd_1604) := rfl
theorem mx_601 : mX 601 = some ((⟨kN 3, "readOrchard", "(LNameOrchard$Told;)I"⟩, prog_6_method_2_code, 3, some .int, 3), cd_601) := rfl
theorem mx_612 : mX 612 = some ((⟨kN 3, "personHere", "(LNameOrchard$Told;)I"⟩, prog_6_method_13_code, 3, some .int, 3), cd_612) := rfl
theorem mx_625 : mX 625 = some ((⟨kN 3, "readLine", "(LNameOrchard$Told;)V"⟩, prog_6_method_26_code, 7, none, 3), cd_625) := rfl
theorem mx_602 : mX 602 = some ((⟨kN 3, "readDays", "(LNameOrchard$Told;)I"⟩, prog_6_method_3_code, 3, some .int, 3), cd_602) := rfl
theorem mx_2011 : mX 2011 = some ((⟨kN 10, "laneOf", "(I)I"⟩, prog_13_method_12_code, 2, some .int, 10), cd_2011) := rfl
theorem mx_2012 : mX 2012 = some ((⟨kN 10, "loudOf", "(I)I"⟩, prog_13_method_13_code, 2, some .int, 10), cd_2012) := rfl
theorem mx_2018 : mX 2018 = some ((⟨kN 10, "within", "(II)I"⟩, prog_13_method_19_code, 5, some .int, 10), cd_2018) := rfl
theorem mx_2007 : mX 2007 = some ((⟨kN 10, "hasPerson", "(I)Z"⟩, prog_13_method_8_code, 2, some .boolean, 10), cd_2007) := rfl
theorem mx_2006 : mX 2006 = some ((⟨kN 10, "hasSound", "(I)Z"⟩, prog_13_method_7_code, 2, some .boolean, 10), cd_2006) := rfl
theorem mx_2010 : mX 2010 = some ((⟨kN 10, "canSay", "(II)Z"⟩, prog_13_method_11_code, 3, some .boolean, 10), cd_2010) := rfl
theorem mx_1005 : mX 1005 = some ((⟨kN 5, "soundOf", "(I)I"⟩, prog_8_method_6_code, 2, some .int, 5), cd_1005) := rfl
theorem mx_2009 : mX 2009 = some ((⟨kN 10, "nearTo", "(I)I"⟩, prog_13_method_10_code, 2, some .int, 10), cd_2009) := rfl
theorem mx_1008 : mX 1008 = some ((⟨kN 5, "isMeant", "(LNameOrchard$Told;II)Z"⟩, prog_8_method_9_code, 5, some .boolean, 5), cd_1008) := rfl
theorem mx_1009 : mX 1009 = some ((⟨kN 5, "meant", "(LNameOrchard$Told;I)I"⟩, prog_8_method_10_code, 6, some .int, 5), cd_1009) := rfl
theorem mx_802 : mX 802 = some ((⟨kN 4, "add", "(III)V"⟩, prog_7_method_3_code, 5, none, 4), cd_802) := rfl
theorem mx_801 : mX 801 = some ((⟨kN 4, "gather", "(LNameOrchard$Told;LNameOrchard$Standing;)V"⟩, prog_7_method_2_code, 8, none, 4), cd_801) := rfl
theorem mx_2014 : mX 2014 = some ((⟨kN 10, "valueOf", "(II)I"⟩, prog_13_method_15_code, 4, some .int, 10), cd_2014) := rfl
theorem mx_804 : mX 804 = some ((⟨kN 4, "appraise", "(LNameOrchard$Told;I)V"⟩, prog_7_method_5_code, 9, none, 4), cd_804) := rfl
theorem mx_805 : mX 805 = some ((⟨kN 4, "sum", "([III)I"⟩, prog_7_method_6_code, 6, some .int, 4), cd_805) := rfl
theorem mx_2019 : mX 2019 = some ((⟨kN 10, "felled", "(IIII)I"⟩, prog_13_method_20_code, 9, some .int, 10), cd_2019) := rfl
theorem mx_806 : mX 806 = some ((⟨kN 4, "explore", "(LNameOrchard$Told;IIIII)V"⟩, prog_7_method_7_code, 12, none, 4), cd_806) := rfl
theorem mx_803 : mX 803 = some ((⟨kN 4, "harvest", "(LNameOrchard$Told;LNameOrchard$Standing;I)V"⟩, prog_7_method_4_code, 4, none, 4), cd_803) := rfl
theorem mx_2800 : mX 2800 = some ((⟨kN 14, "fill", "([JJ)V"⟩, prog_31_method_101_code, 5, none, 14), cd_2800) := rfl
theorem mx_810 : mX 810 = some ((⟨kN 4, "meet", "(II)V"⟩, prog_7_method_11_code, 7, none, 4), cd_810) := rfl
theorem mx_811 : mX 811 = some ((⟨kN 4, "digits", "(II)I"⟩, prog_7_method_12_code, 5, some .int, 4), cd_811) := rfl
theorem mx_809 : mX 809 = some ((⟨kN 4, "fellsAll", "(LNameOrchard$Told;I)Z"⟩, prog_7_method_10_code, 7, some .boolean, 4), cd_809) := rfl
theorem mx_808 : mX 808 = some ((⟨kN 4, "spread", "(LNameOrchard$Told;)Z"⟩, prog_7_method_9_code, 6, some .boolean, 4), cd_808) := rfl
theorem mx_807 : mX 807 = some ((⟨kN 4, "fewest", "(LNameOrchard$Told;LNameOrchard$Standing;)I"⟩, prog_7_method_8_code, 6, some .int, 4), cd_807) := rfl
theorem mx_1001 : mX 1001 = some ((⟨kN 5, "begin", "(LNameOrchard$Told;)V"⟩, prog_8_method_2_code, 3, none, 5), cd_1001) := rfl
theorem mx_1002 : mX 1002 = some ((⟨kN 5, "copy", "(LNameOrchard$Standing;)V"⟩, prog_8_method_3_code, 3, none, 5), cd_1002) := rfl
theorem mx_1003 : mX 1003 = some ((⟨kN 5, "hangs", "(I)Z"⟩, prog_8_method_4_code, 2, some .boolean, 5), cd_1003) := rfl
theorem mx_1004 : mX 1004 = some ((⟨kN 5, "isLoose", "(I)Z"⟩, prog_8_method_5_code, 2, some .boolean, 5), cd_1004) := rfl
theorem mx_1006 : mX 1006 = some ((⟨kN 5, "name", "(II)V"⟩, prog_8_method_7_code, 3, none, 5), cd_1006) := rfl
theorem mx_1007 : mX 1007 = some ((⟨kN 5, "hasOther", "(II)Z"⟩, prog_8_method_8_code, 4, some .boolean, 5), cd_1007) := rfl
theorem mx_1010 : mX 1010 = some ((⟨kN 5, "fallers", "(LNameOrchard$Told;III)I"⟩, prog_8_method_11_code, 6, some .int, 5), cd_1010) := rfl
theorem mx_2015 : mX 2015 = some ((⟨kN 10, "valuesOf", "(II)I"⟩, prog_13_method_16_code, 5, some .int, 10), cd_2015) := rfl
theorem mx_1011 : mX 1011 = some ((⟨kN 5, "cry", "(LNameOrchard$Told;III)I"⟩, prog_8_method_12_code, 8, some .int, 5), cd_1011) := rfl
theorem mx_1012 : mX 1012 = some ((⟨kN 5, "canTake", "(I)Z"⟩, prog_8_method_13_code, 2, some .boolean, 5), cd_1012) := rfl
theorem mx_1013 : mX 1013 = some ((⟨kN 5, "take", "(LNameOrchard$Told;I)I"⟩, prog_8_method_14_code, 4, some .int, 5), cd_1013) := rfl
theorem mx_1014 : mX 1014 = some ((⟨kN 5, "nextDay", "()V"⟩, prog_8_method_15_code, 1, none, 5), cd_1014) := rfl
theorem mx_1201 : mX 1201 = some ((⟨kN 6, "begin", "(LNameOrchard$Told;)V"⟩, prog_9_method_2_code, 2, none, 6), cd_1201) := rfl
theorem mx_1408 : mX 1408 = some ((⟨kN 7, "copy", "(LNameOrchard$Table;)V"⟩, prog_10_method_9_code, 2, none, 7), cd_1408) := rfl
theorem mx_1202 : mX 1202 = some ((⟨kN 6, "copy", "(LNameOrchard$State;)V"⟩, prog_9_method_3_code, 2, none, 6), cd_1202) := rfl
theorem mx_1601 : mX 1601 = some ((⟨kN 8, "put", "(J)V"⟩, prog_11_method_2_code, 6, none, 8), cd_1601) := rfl
theorem mx_2008 : mX 2008 = some ((⟨kN 10, "isDeaf", "(I)Z"⟩, prog_13_method_9_code, 2, some .boolean, 10), cd_2008) := rfl
theorem mx_2016 : mX 2016 = some ((⟨kN 10, "worthOf", "(I)I"⟩, prog_13_method_17_code, 4, some .int, 10), cd_2016) := rfl
theorem mx_2017 : mX 2017 = some ((⟨kN 10, "unripe", "(I)I"⟩, prog_13_method_18_code, 4, some .int, 10), cd_2017) := rfl
theorem mx_2201 : mX 2201 = some ((⟨kN 11, "feed", "(JJJ)I"⟩, prog_1_method_2_code, 7, some .int, 11), cd_2201) := rfl
theorem mx_2202 : mX 2202 = some ((⟨kN 11, "orchard", "()I"⟩, prog_1_method_3_code, 3, some .int, 11), cd_2202) := rfl
theorem mx_2203 : mX 2203 = some ((⟨kN 11, "days", "()I"⟩, prog_1_method_4_code, 2, some .int, 11), cd_2203) := rfl
theorem mx_2204 : mX 2204 = some ((⟨kN 11, "apple", "(II)I"⟩, prog_1_method_5_code, 3, some .int, 11), cd_2204) := rfl
theorem mx_2205 : mX 2205 = some ((⟨kN 11, "near", "(III)I"⟩, prog_1_method_6_code, 4, some .int, 11), cd_2205) := rfl
theorem mx_2206 : mX 2206 = some ((⟨kN 11, "says", "(II)I"⟩, prog_1_method_7_code, 3, some .int, 11), cd_2206) := rfl
theorem mx_2207 : mX 2207 = some ((⟨kN 11, "falls", "(II)I"⟩, prog_1_method_8_code, 3, some .int, 11), cd_2207) := rfl
theorem mx_2228 : mX 2228 = some ((⟨kN 11, "keepForUndo", "()V"⟩, prog_1_method_29_code, 3, none, 11), cd_2228) := rfl
theorem mx_2208 : mX 2208 = some ((⟨kN 11, "call", "(II)I"⟩, prog_1_method_9_code, 3, some .int, 11), cd_2208) := rfl
theorem mx_2209 : mX 2209 = some ((⟨kN 11, "pick", "(I)I"⟩, prog_1_method_10_code, 2, some .int, 11), cd_2209) := rfl
theorem mx_2210 : mX 2210 = some ((⟨kN 11, "christen", "(II)Z"⟩, prog_1_method_11_code, 4, some .boolean, 11), cd_2210) := rfl
theorem mx_2211 : mX 2211 = some ((⟨kN 11, "pass", "(I)I"⟩, prog_1_method_12_code, 3, some .int, 11), cd_2211) := rfl
theorem mx_2212 : mX 2212 = some ((⟨kN 11, "undo", "()Z"⟩, prog_1_method_13_code, 1, some .boolean, 11), cd_2212) := rfl
theorem mx_2229 : mX 2229 = some ((⟨kN 11, "live", "(I)I"⟩, prog_1_method_30_code, 5, some .int, 11), cd_2229) := rfl
theorem mx_2213 : mX 2213 = some ((⟨kN 11, "judged", "(I)I"⟩, prog_1_method_14_code, 7, some .int, 11), cd_2213) := rfl
theorem mx_2214 : mX 2214 = some ((⟨kN 11, "crop", "(II)I"⟩, prog_1_method_15_code, 3, some .int, 11), cd_2214) := rfl
theorem mx_2215 : mX 2215 = some ((⟨kN 11, "fetch", "()I"⟩, prog_1_method_16_code, 1, some .int, 11), cd_2215) := rfl
theorem mx_2216 : mX 2216 = some ((⟨kN 11, "lies", "(IZ)Z"⟩, prog_1_method_17_code, 3, some .boolean, 11), cd_2216) := rfl
theorem mx_2801 : mX 2801 = some ((⟨kN 14, "fill", "([II)V"⟩, prog_31_method_103_code, 4, none, 14), cd_2801) := rfl
theorem mx_2230 : mX 2230 = some ((⟨kN 11, "wasHeard", "(II)Z"⟩, prog_1_method_31_code, 5, some .boolean, 11), cd_2230) := rfl
theorem mx_2231 : mX 2231 = some ((⟨kN 11, "evenest", "(I)I"⟩, prog_1_method_32_code, 7, some .int, 11), cd_2231) := rfl
theorem mx_2217 : mX 2217 = some ((⟨kN 11, "called", "(I)I"⟩, prog_1_method_18_code, 7, some .int, 11), cd_2217) := rfl
theorem mx_2218 : mX 2218 = some ((⟨kN 11, "tell", "(IIZ)Z"⟩, prog_1_method_19_code, 5, some .boolean, 11), cd_2218) := rfl
theorem mx_2232 : mX 2232 = some ((⟨kN 11, "fits", "(II)Z"⟩, prog_1_method_33_code, 5, some .boolean, 11), cd_2232) := rfl
theorem mx_2219 : mX 2219 = some ((⟨kN 11, "laws", "(I)I"⟩, prog_1_method_20_code, 7, some .int, 11), cd_2219) := rfl
theorem mx_2234 : mX 2234 = some ((⟨kN 11, "spared", "(LNameOrchard$Standing;II)I"⟩, prog_1_method_35_code, 8, some .int, 11), cd_2234) := rfl
theorem mx_2233 : mX 2233 = some ((⟨kN 11, "lossOf", "(LNameOrchard$Standing;II)I"⟩, prog_1_method_34_code, 4, some .int, 11), cd_2233) := rfl
theorem mx_2220 : mX 2220 = some ((⟨kN 11, "loss", "(I)I"⟩, prog_1_method_21_code, 4, some .int, 11), cd_2220) := rfl
theorem mx_2221 : mX 2221 = some ((⟨kN 11, "best", "(II)I"⟩, prog_1_method_22_code, 7, some .int, 11), cd_2221) := rfl
theorem mx_2235 : mX 2235 = some ((⟨kN 11, "isVoice", "(II)Z"⟩, prog_1_method_36_code, 2, some .boolean, 11), cd_2235) := rfl
theorem mx_2236 : mX 2236 = some ((⟨kN 11, "stolen", "(III)I"⟩, prog_1_method_37_code, 7, some .int, 11), cd_2236) := rfl
theorem mx_2223 : mX 2223 = some ((⟨kN 11, "hide", "(II)I"⟩, prog_1_method_24_code, 9, some .int, 11), cd_2223) := rfl
theorem mx_2237 : mX 2237 = some ((⟨kN 11, "bannAt", "(III)I"⟩, prog_1_method_38_code, 3, some .int, 11), cd_2237) := rfl
theorem mx_2238 : mX 2238 = some ((⟨kN 11, "isOrder", "(II)Z"⟩, prog_1_method_39_code, 4, some .boolean, 11), cd_2238) := rfl
theorem mx_2239 : mX 2239 = some ((⟨kN 11, "lostByBanns", "(III)I"⟩, prog_1_method_40_code, 7, some .int, 11), cd_2239) := rfl
theorem mx_2224 : mX 2224 = some ((⟨kN 11, "banns", "(III)I"⟩, prog_1_method_25_code, 9, some .int, 11), cd_2224) := rfl
theorem mx_2240 : mX 2240 = some ((⟨kN 11, "drawStrangers", "()I"⟩, prog_1_method_41_code, 4, some .int, 11), cd_2240) := rfl
theorem mx_2241 : mX 2241 = some ((⟨kN 11, "drawPerson", "()I"⟩, prog_1_method_42_code, 3, some .int, 11), cd_2241) := rfl
theorem mx_3000 : mX 3000 = some ((⟨kN 15, "bitCount", "(I)I"⟩, prog_21_method_49_code, 1, some .int, 15), cd_3000) := rfl
theorem mx_3001 : mX 3001 = some ((⟨kN 15, "numberOfTrailingZeros", "(I)I"⟩, prog_21_method_48_code, 2, some .int, 15), cd_3001) := rfl
theorem mx_2242 : mX 2242 = some ((⟨kN 11, "pickFirstRipe", "()V"⟩, prog_1_method_43_code, 2, none, 11), cd_2242) := rfl
theorem mx_2225 : mX 2225 = some ((⟨kN 11, "years", "(III)I"⟩, prog_1_method_26_code, 8, some .int, 11), cd_2225) := rfl
theorem mx_2226 : mX 2226 = some ((⟨kN 11, "mark", "(IZ)Z"⟩, prog_1_method_27_code, 4, some .boolean, 11), cd_2226) := rfl
theorem mx_2227 : mX 2227 = some ((⟨kN 11, "count", "(I)I"⟩, prog_1_method_28_code, 2, some .int, 11), cd_2227) := rfl
def o_tk_ofSign (x : Int32) (S : St) : Re Nat := some (1000 + sgT x, S)
theorem s_o_tk_ofSign {d : Nat} {S' : St} {r : Nat} (x : Int32) (S : St) (h : o_tk_ofSign x S = some (r, S')) : RC KO (d + 0) 1800 [.int x] S (some (.ref r)) S' := by
  cases h
  exact ⟨0, rfl⟩
def o_tk_ofLetters (x : Int64) (S : St) : Re Nat := some (1000 + ltT x, S)
theorem s_o_tk_ofLetters {d : Nat} {S' : St} {r : Nat} (x : Int64) (S : St) (h : o_tk_ofLetters x S = some (r, S')) : RC KO (d + 0) 1801 [.long x] S (some (.ref r)) S' := by
  cases h
  exact ⟨0, rfl⟩
