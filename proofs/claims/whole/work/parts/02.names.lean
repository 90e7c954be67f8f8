/-! classes, their fields in the order of the slots (13 of the worlds; 13, 14, 15: Math, Arrays, Integer) -/
def kNL : List String := ["NameOrchard$Draws", "NameOrchard$Formula", "NameOrchard$Names", "NameOrchard$Reader", "NameOrchard$Search", "NameOrchard$Standing", "NameOrchard$State", "NameOrchard$Table", "NameOrchard$Tape", "NameOrchard$Token", "NameOrchard$Told", "NameOrchard", "NameOrchardModel", "java/lang/Math", "java/util/Arrays", "java/lang/Integer"]
def kN (c : Nat) : String := kNL.getD c ""
def kTL : List (List (String × String × String × Bool)) := [
  [("NameOrchard$Draws", "now", "J", false)],
  [("NameOrchard$Formula", "steps", "[LNameOrchard$Token;", true), ("NameOrchard$Formula", "numbers", "[I", true), ("NameOrchard$Formula", "waiting", "[LNameOrchard$Token;", true), ("NameOrchard$Formula", "stack", "[I", true), ("NameOrchard$Formula", "facts", "[I", true), ("NameOrchard$Formula", "length", "I", false), ("NameOrchard$Formula", "waits", "I", false)],
  [("NameOrchard$Names", "words", "[J", true), ("NameOrchard$Names", "row", "[I", true), ("NameOrchard$Names", "many", "I", false)],
  [("NameOrchard$Reader", "tape", "LNameOrchard$Tape;", true), ("NameOrchard$Reader", "lines", "LNameOrchard$Table;", true)],
  [("NameOrchard$Search", "whole", "[I", true), ("NameOrchard$Search", "heard", "[I", true), ("NameOrchard$Search", "names", "[I", true), ("NameOrchard$Search", "values", "[I", true), ("NameOrchard$Search", "ceilings", "[I", true), ("NameOrchard$Search", "thirds", "[I", true), ("NameOrchard$Search", "met", "[J", true), ("NameOrchard$Search", "front", "[J", false), ("NameOrchard$Search", "next", "[J", false), ("NameOrchard$Search", "calls", "I", false), ("NameOrchard$Search", "days", "I", false), ("NameOrchard$Search", "most", "I", false), ("NameOrchard$Search", "first", "I", false)],
  [("NameOrchard$Standing", "sounds", "[I", true), ("NameOrchard$Standing", "hang", "I", false), ("NameOrchard$Standing", "loose", "I", false), ("NameOrchard$Standing", "day", "I", false), ("NameOrchard$Standing", "had", "I", false), ("NameOrchard$Standing", "picked", "Z", false)],
  [("NameOrchard$State", "now", "LNameOrchard$Standing;", true), ("NameOrchard$State", "lines", "LNameOrchard$Table;", true), ("NameOrchard$State", "tellings", "LNameOrchard$Table;", true), ("NameOrchard$State", "seen", "I", false), ("NameOrchard$State", "lying", "I", false)],
  [("NameOrchard$Table", "most", "I", true), ("NameOrchard$Table", "wide", "I", true), ("NameOrchard$Table", "cells", "[I", true), ("NameOrchard$Table", "rows", "I", false)],
  [("NameOrchard$Tape", "signs", "[C", true), ("NameOrchard$Tape", "length", "I", false), ("NameOrchard$Tape", "at", "I", false), ("NameOrchard$Tape", "place", "I", false), ("NameOrchard$Tape", "number", "I", false), ("NameOrchard$Tape", "letters", "J", false), ("NameOrchard$Tape", "token", "LNameOrchard$Token;", false), ("NameOrchard$Tape", "fault", "I", false)],
  [],
  [("NameOrchard$Told", "sounds", "LNameOrchard$Names;", true), ("NameOrchard$Told", "persons", "LNameOrchard$Names;", true), ("NameOrchard$Told", "apples", "LNameOrchard$Table;", true), ("NameOrchard$Told", "people", "LNameOrchard$Table;", true), ("NameOrchard$Told", "strangers", "LNameOrchard$Table;", true), ("NameOrchard$Told", "pages", "LNameOrchard$Table;", true), ("NameOrchard$Told", "banns", "LNameOrchard$Table;", true), ("NameOrchard$Told", "near", "LNameOrchard$Formula;", true), ("NameOrchard$Told", "value", "LNameOrchard$Formula;", true), ("NameOrchard$Told", "nearTo", "[I", true), ("NameOrchard$Told", "inRow", "[I", true), ("NameOrchard$Told", "twins", "[I", true), ("NameOrchard$Told", "nearTold", "Z", false), ("NameOrchard$Told", "valueTold", "Z", false), ("NameOrchard$Told", "alias", "I", false), ("NameOrchard$Told", "welsh", "I", false), ("NameOrchard$Told", "deaf", "I", false)],
  [("NameOrchard", "reader", "LNameOrchard$Reader;", true), ("NameOrchard", "state", "LNameOrchard$State;", true), ("NameOrchard", "trial", "LNameOrchard$Standing;", true), ("NameOrchard", "search", "LNameOrchard$Search;", true), ("NameOrchard", "draws", "LNameOrchard$Draws;", true), ("NameOrchard", "marks", "[LNameOrchard$State;", true), ("NameOrchard", "tally", "[I", true), ("NameOrchard", "absent", "[I", true), ("NameOrchard", "earlier", "[LNameOrchard$Standing;", true), ("NameOrchard", "told", "LNameOrchard$Told;", false), ("NameOrchard", "draft", "LNameOrchard$Told;", false), ("NameOrchard", "undoable", "I", false), ("NameOrchard", "laid", "I", false)],
  [("NameOrchardModel", "thrown", "I", false), ("NameOrchardModel", "taped", "I", false), ("NameOrchardModel", "tape", "[I", true), ("NameOrchardModel", "size", "I", false), ("NameOrchardModel", "place", "I", false), ("NameOrchardModel", "begin", "I", false), ("NameOrchardModel", "token", "I", false), ("NameOrchardModel", "word", "J", false), ("NameOrchardModel", "told", "I", false), ("NameOrchardModel", "wrong", "I", false), ("NameOrchardModel", "orchard", "[I", true), ("NameOrchardModel", "soundName", "[J", true), ("NameOrchardModel", "personName", "[J", true), ("NameOrchardModel", "soundTold", "[I", true), ("NameOrchardModel", "sort", "[I", true), ("NameOrchardModel", "place0", "[I", true), ("NameOrchardModel", "rowAt", "[I", true), ("NameOrchardModel", "ripe", "[I", true), ("NameOrchardModel", "worthTold", "[I", true), ("NameOrchardModel", "twin", "[I", true), ("NameOrchardModel", "lane", "[I", true), ("NameOrchardModel", "loud", "[I", true), ("NameOrchardModel", "mute", "[I", true), ("NameOrchardModel", "strangerOf", "[I", true), ("NameOrchardModel", "strangerBy", "[I", true), ("NameOrchardModel", "pageOf", "[I", true), ("NameOrchardModel", "pageMany", "[I", true), ("NameOrchardModel", "bannA", "[I", true), ("NameOrchardModel", "bannB", "[I", true), ("NameOrchardModel", "lineFrom", "[I", true), ("NameOrchardModel", "lineTo", "[I", true), ("NameOrchardModel", "codes", "[I", true), ("NameOrchardModel", "code", "I", false), ("NameOrchardModel", "lawLine", "I", false), ("NameOrchardModel", "opened", "[I", true), ("NameOrchardModel", "compared", "[Z", true), ("NameOrchardModel", "kept", "[I", true), ("NameOrchardModel", "keptBy", "[I", true), ("NameOrchardModel", "ahead", "[I", true), ("NameOrchardModel", "against", "[I", true), ("NameOrchardModel", "sum", "[I", true), ("NameOrchardModel", "sumBy", "[I", true), ("NameOrchardModel", "term", "[I", true), ("NameOrchardModel", "termBy", "[I", true), ("NameOrchardModel", "byNot", "[I", true), ("NameOrchardModel", "valueOf", "[I", true), ("NameOrchardModel", "given", "I", false), ("NameOrchardModel", "edits", "[I", true), ("NameOrchardModel", "startOf", "[I", true), ("NameOrchardModel", "rhymeOf", "[I", true), ("NameOrchardModel", "isNear", "[Z", true), ("NameOrchardModel", "lettersA", "[I", true), ("NameOrchardModel", "lettersB", "[I", true), ("NameOrchardModel", "changes", "[I", true), ("NameOrchardModel", "lines", "[I", true), ("NameOrchardModel", "lineWhat", "[I", true), ("NameOrchardModel", "lineWho", "[I", true), ("NameOrchardModel", "lineOf", "[I", true), ("NameOrchardModel", "liesKnown", "[I", true), ("NameOrchardModel", "liesThere", "[I", true), ("NameOrchardModel", "tolds", "[I", true), ("NameOrchardModel", "toldCall", "[I", true), ("NameOrchardModel", "toldSound", "[I", true), ("NameOrchardModel", "toldNear", "[Z", true), ("NameOrchardModel", "s", "[I", true), ("NameOrchardModel", "aside", "[I", true), ("NameOrchardModel", "marked", "[I", true), ("NameOrchardModel", "undone", "[I", true), ("NameOrchardModel", "isLaid", "[Z", true), ("NameOrchardModel", "done", "I", false), ("NameOrchardModel", "wholly", "I", false), ("NameOrchardModel", "echo", "I", false), ("NameOrchardModel", "looseThen", "I", false), ("NameOrchardModel", "isGreen", "Z", false), ("NameOrchardModel", "heardBy", "[I", true), ("NameOrchardModel", "halfBy", "[I", true), ("NameOrchardModel", "callAs", "[I", true), ("NameOrchardModel", "callMany", "I", false), ("NameOrchardModel", "valueIn", "[I", true), ("NameOrchardModel", "firstCall", "I", false), ("NameOrchardModel", "stateOf", "[I", true), ("NameOrchardModel", "met", "[I", true), ("NameOrchardModel", "fallIn", "[I", true), ("NameOrchardModel", "order", "[I", true), ("NameOrchardModel", "bestOrder", "[I", true), ("NameOrchardModel", "bestLost", "I", false), ("NameOrchardModel", "g", "J", false)]]
def kT (c : Nat) : u_T := fun k => (kTL.getD c []).getD k ("", "", "", false)
def kF (c : Nat) : Nat := (kTL.getD c []).length
def kYL : List (List FieldType) := [
  [.long],
  [.array (.object "NameOrchard$Token"), .array .int, .array (.object "NameOrchard$Token"), .array .int, .array .int, .int, .int],
  [.array .long, .array .int, .int],
  [.object "NameOrchard$Tape", .object "NameOrchard$Table"],
  [.array .int, .array .int, .array .int, .array .int, .array .int, .array .int, .array .long, .array .long, .array .long, .int, .int, .int, .int],
  [.array .int, .int, .int, .int, .int, .boolean],
  [.object "NameOrchard$Standing", .object "NameOrchard$Table", .object "NameOrchard$Table", .int, .int],
  [.int, .int, .array .int, .int],
  [.array .char, .int, .int, .int, .int, .long, .object "NameOrchard$Token", .int],
  [],
  [.object "NameOrchard$Names", .object "NameOrchard$Names", .object "NameOrchard$Table", .object "NameOrchard$Table", .object "NameOrchard$Table", .object "NameOrchard$Table", .object "NameOrchard$Table", .object "NameOrchard$Formula", .object "NameOrchard$Formula", .array .int, .array .int, .array .int, .boolean, .boolean, .int, .int, .int],
  [.object "NameOrchard$Reader", .object "NameOrchard$State", .object "NameOrchard$Standing", .object "NameOrchard$Search", .object "NameOrchard$Draws", .array (.object "NameOrchard$State"), .array .int, .array .int, .array (.object "NameOrchard$Standing"), .object "NameOrchard$Told", .object "NameOrchard$Told", .int, .int],
  [.int, .int, .array .int, .int, .int, .int, .int, .long, .int, .int, .array .int, .array .long, .array .long, .array .int, .array .int, .array .int, .array .int, .array .int, .array .int, .array .int, .array .int, .array .int, .array .int, .array .int, .array .int, .array .int, .array .int, .array .int, .array .int, .array .int, .array .int, .array .int, .int, .int, .array .int, .array .boolean, .array .int, .array .int, .array .int, .array .int, .array .int, .array .int, .array .int, .array .int, .array .int, .array .int, .int, .array .int, .array .int, .array .int, .array .boolean, .array .int, .array .int, .array .int, .array .int, .array .int, .array .int, .array .int, .array .int, .array .int, .array .int, .array .int, .array .int, .array .boolean, .array .int, .array .int, .array .int, .array .int, .array .boolean, .int, .int, .int, .int, .boolean, .array .int, .array .int, .array .int, .int, .array .int, .int, .array .int, .array .int, .array .int, .array .int, .array .int, .int, .long]]
def kY (c : Nat) : Nat → FieldType := fun k => (kYL.getD c []).getD k .int
/-- 0: an int, 3: a boolean, 1: a long, 2: a reference -/
def kGL : List (List Nat) := [
  [1],
  [2, 2, 2, 2, 2, 0, 0],
  [2, 2, 0],
  [2, 2],
  [2, 2, 2, 2, 2, 2, 2, 2, 2, 0, 0, 0, 0],
  [2, 0, 0, 0, 0, 3],
  [2, 2, 2, 0, 0],
  [0, 0, 2, 0],
  [2, 0, 0, 0, 0, 1, 2, 0],
  [],
  [2, 2, 2, 2, 2, 2, 2, 2, 2, 2, 2, 2, 3, 3, 0, 0, 0],
  [2, 2, 2, 2, 2, 2, 2, 2, 2, 2, 2, 0, 0],
  [0, 0, 2, 0, 0, 0, 0, 1, 0, 0, 2, 2, 2, 2, 2, 2, 2, 2, 2, 2, 2, 2, 2, 2, 2, 2, 2, 2, 2, 2, 2, 2, 0, 0, 2, 2, 2, 2, 2, 2, 2, 2, 2, 2, 2, 2, 0, 2, 2, 2, 2, 2, 2, 2, 2, 2, 2, 2, 2, 2, 2, 2, 2, 2, 2, 2, 2, 2, 2, 0, 0, 0, 0, 3, 2, 2, 2, 0, 2, 0, 2, 2, 2, 2, 2, 0, 1]]
def kG (c k : Nat) : Nat := (kGL.getD c []).getD k 2
abbrev kCl : List vw_C := [(kN 0, kT 0, kF 0), (kN 1, kT 1, kF 1), (kN 2, kT 2, kF 2), (kN 3, kT 3, kF 3), (kN 4, kT 4, kF 4), (kN 5, kT 5, kF 5), (kN 6, kT 6, kF 6), (kN 7, kT 7, kF 7), (kN 8, kT 8, kF 8), (kN 9, kT 9, kF 9), (kN 10, kT 10, kF 10), (kN 11, kT 11, kF 11), (kN 12, kT 12, kF 12)]
set_option maxRecDepth 100000 in
theorem kCl_at : ∀ c, c < 13 → kCl[c]? = some (kN c, kT c, kF c) := fun c h => by
  rcases (show c = 0 ∨ c = 1 ∨ c = 2 ∨ c = 3 ∨ c = 4 ∨ c = 5 ∨ c = 6 ∨ c = 7 ∨ c = 8 ∨ c = 9 ∨ c = 10 ∨ c = 11 ∨ c = 12 by omega) with rfl | rfl | rfl | rfl | rfl | rfl | rfl | rfl | rfl | rfl | rfl | rfl | rfl <;> rfl
set_option maxRecDepth 100000 in
theorem k_nm : ∀ c, c < 13 → ∀ a, a < kF c → ∀ b, b < kF c → a ≠ b → (kT c a).2.1 ≠ (kT c b).2.1 := by decide +kernel
set_option maxRecDepth 100000 in
theorem k_ty : ∀ c, c < 13 → ∀ k, k < kF c → parseFieldDescriptor (kT c k).2.2.1 = some (kY c k) := by decide +kernel
set_option maxRecDepth 100000 in
theorem k_tag : ∀ c, c < 13 → ∀ k, k < kF c → (kG c k = 0 ∧ kY c k = .int) ∨ (kG c k = 3 ∧ kY c k = .boolean) ∨ (kG c k = 1 ∧ kY c k = .long) ∨ (kG c k = 2 ∧ ((∃ t, kY c k = .object t) ∨ ∃ t, kY c k = .array t)) := by
  intro c hc k hk
  have h : (List.range 13).all (fun c => (List.range (kF c)).all (fun k => match kG c k, kY c k with | 0, .int => true | 3, .boolean => true | 1, .long => true | 2, .object _ => true | 2, .array _ => true | _, _ => false)) = true := by decide +kernel
  have h1 := List.all_eq_true.mp (List.all_eq_true.mp h c (List.mem_range.mpr hc)) k (List.mem_range.mpr hk)
  revert h1
  generalize kG c k = g
  generalize kY c k = y
  intro h1
  split at h1 <;> simp_all
/-- the words of the tables that every method may take, and those of nest mates -/
def gw : List Cond := lw_tbl.filter goodWord
def isNest : Cond → Bool | .fieldLinkNest .. => true | .methodLinkNest .. => true | _ => false
def nw : List Cond := lw_tbl.filter isNest
theorem gw_in {w : Cond} (h : w ∈ lw_tbl) (hg : goodWord w = true) : w ∈ gw := List.mem_filter.mpr ⟨h, hg⟩
theorem nw_in {w : Cond} (h : w ∈ lw_tbl) (hg : isNest w = true) : w ∈ nw := List.mem_filter.mpr ⟨h, hg⟩
theorem gw_good : GoodIn gw gw := fun w h => ⟨h, good_of_word (List.mem_filter.mp h).2⟩
def kPL : List (List Nat) := [
  [425],
  [469, 471, 473, 475, 477, 479, 481],
  [445, 447, 449],
  [301, 303],
  [390, 392, 394, 396, 398, 400, 402, 404, 406, 408, 410, 412, 414],
  [331, 333, 335, 337, 339, 341],
  [356, 358, 360, 362, 364],
  [287, 289, 291, 293],
  [259, 261, 263, 265, 267, 269, 271, 273],
  [],
  [524, 526, 528, 530, 532, 534, 536, 538, 540, 542, 544, 546, 548, 550, 552, 554, 556],
  [683, 685, 687, 689, 691, 693, 695, 697, 699, 701, 703, 705, 707],
  [1604, 1606, 1608, 1610, 1612, 1614, 1616, 1618, 1620, 1622, 1624, 1626, 1628, 1630, 1632, 1634, 1636, 1638, 1640, 1642, 1644, 1646, 1648, 1650, 1652, 1654, 1656, 1658, 1660, 1662, 1664, 1666, 1668, 1670, 1672, 1674, 1676, 1678, 1680, 1682, 1684, 1686, 1688, 1690, 1692, 1694, 1696, 1698, 1700, 1702, 1704, 1706, 1708, 1710, 1712, 1714, 1716, 1718, 1720, 1722, 1724, 1726, 1728, 1730, 1732, 1734, 1736, 1738, 1740, 1742, 1744, 1746, 1748, 1750, 1752, 1754, 1756, 1758, 1760, 1762, 1764, 1766, 1768, 1770, 1772, 1774, 1776]]
set_option maxRecDepth 100000 in
theorem k_ws_0 : ∀ k, k < kF 0 → lw_tbl[(kPL.getD 0 []).getD k 0]? = some (u_lay (kN 0) (kT 0) k) ∧ goodWord (u_lay (kN 0) (kT 0) k) = true := by decide +kernel
set_option maxRecDepth 100000 in
theorem k_ws_1 : ∀ k, k < kF 1 → lw_tbl[(kPL.getD 1 []).getD k 0]? = some (u_lay (kN 1) (kT 1) k) ∧ goodWord (u_lay (kN 1) (kT 1) k) = true := by decide +kernel
set_option maxRecDepth 100000 in
theorem k_ws_2 : ∀ k, k < kF 2 → lw_tbl[(kPL.getD 2 []).getD k 0]? = some (u_lay (kN 2) (kT 2) k) ∧ goodWord (u_lay (kN 2) (kT 2) k) = true := by decide +kernel
set_option maxRecDepth 100000 in
theorem k_ws_3 : ∀ k, k < kF 3 → lw_tbl[(kPL.getD 3 []).getD k 0]? = some (u_lay (kN 3) (kT 3) k) ∧ goodWord (u_lay (kN 3) (kT 3) k) = true := by decide +kernel
set_option maxRecDepth 100000 in
theorem k_ws_4 : ∀ k, k < kF 4 → lw_tbl[(kPL.getD 4 []).getD k 0]? = some (u_lay (kN 4) (kT 4) k) ∧ goodWord (u_lay (kN 4) (kT 4) k) = true := by decide +kernel
set_option maxRecDepth 100000 in
theorem k_ws_5 : ∀ k, k < kF 5 → lw_tbl[(kPL.getD 5 []).getD k 0]? = some (u_lay (kN 5) (kT 5) k) ∧ goodWord (u_lay (kN 5) (kT 5) k) = true := by decide +kernel
set_option maxRecDepth 100000 in
theorem k_ws_6 : ∀ k, k < kF 6 → lw_tbl[(kPL.getD 6 []).getD k 0]? = some (u_lay (kN 6) (kT 6) k) ∧ goodWord (u_lay (kN 6) (kT 6) k) = true := by decide +kernel
set_option maxRecDepth 100000 in
theorem k_ws_7 : ∀ k, k < kF 7 → lw_tbl[(kPL.getD 7 []).getD k 0]? = some (u_lay (kN 7) (kT 7) k) ∧ goodWord (u_lay (kN 7) (kT 7) k) = true := by decide +kernel
set_option maxRecDepth 100000 in
theorem k_ws_8 : ∀ k, k < kF 8 → lw_tbl[(kPL.getD 8 []).getD k 0]? = some (u_lay (kN 8) (kT 8) k) ∧ goodWord (u_lay (kN 8) (kT 8) k) = true := by decide +kernel
set_option maxRecDepth 100000 in
theorem k_ws_9 : ∀ k, k < kF 9 → lw_tbl[(kPL.getD 9 []).getD k 0]? = some (u_lay (kN 9) (kT 9) k) ∧ goodWord (u_lay (kN 9) (kT 9) k) = true := by decide +kernel
set_option maxRecDepth 100000 in
theorem k_ws_10 : ∀ k, k < kF 10 → lw_tbl[(kPL.getD 10 []).getD k 0]? = some (u_lay (kN 10) (kT 10) k) ∧ goodWord (u_lay (kN 10) (kT 10) k) = true := by decide +kernel
set_option maxRecDepth 100000 in
theorem k_ws_11 : ∀ k, k < kF 11 → lw_tbl[(kPL.getD 11 []).getD k 0]? = some (u_lay (kN 11) (kT 11) k) ∧ goodWord (u_lay (kN 11) (kT 11) k) = true := by decide +kernel
set_option maxRecDepth 100000 in
theorem k_ws_12 : ∀ k, k < kF 12 → lw_tbl[(kPL.getD 12 []).getD k 0]? = some (u_lay (kN 12) (kT 12) k) ∧ goodWord (u_lay (kN 12) (kT 12) k) = true := by decide +kernel
theorem k_ws : ∀ c, c < 13 → ∀ w ∈ u_ws (kN c) (kT c) (kF c), w ∈ gw := by
  intro c hc w hw
  obtain ⟨k, hk, rfl⟩ := List.mem_map.mp hw
  have hk := List.mem_range.mp hk
  have h : lw_tbl[(kPL.getD c []).getD k 0]? = some (u_lay (kN c) (kT c) k) ∧ goodWord (u_lay (kN c) (kT c) k) = true := by
    rcases (show c = 0 ∨ c = 1 ∨ c = 2 ∨ c = 3 ∨ c = 4 ∨ c = 5 ∨ c = 6 ∨ c = 7 ∨ c = 8 ∨ c = 9 ∨ c = 10 ∨ c = 11 ∨ c = 12 by omega) with rfl | rfl | rfl | rfl | rfl | rfl | rfl | rfl | rfl | rfl | rfl | rfl | rfl
    · exact k_ws_0 k hk
    · exact k_ws_1 k hk
    · exact k_ws_2 k hk
    · exact k_ws_3 k hk
    · exact k_ws_4 k hk
    · exact k_ws_5 k hk
    · exact k_ws_6 k hk
    · exact k_ws_7 k hk
    · exact k_ws_8 k hk
    · exact k_ws_9 k hk
    · exact k_ws_10 k hk
    · exact k_ws_11 k hk
    · exact k_ws_12 k hk
  exact gw_in (List.mem_of_getElem? h.1) h.2
set_option maxRecDepth 100000 in
theorem k_init : ∀ c, c < 16 → lw_tbl[([204, 207, 206, 196, 203, 202, 201, 200, 197, 199, 205, 195, 210, 208, 216, 221] : List Nat).getD c 0]? = some (Cond.initialized (kN c)) := by decide +kernel
