/-! the start: what the premises and the tables give; written by gen/sta.py -/
def nwk : Nat → Nat → Cond → Option Cond
  | 0, _, _ => none
  | f + 1, p, c => bif Nat.beq p 1 then some c else (match c with
    | .and a b => bif Nat.beq (p % 2) 0 then nwk f (p / 2) a else nwk f (p / 2) b
    | _ => none)
theorem nwk_s (f p : Nat) (c : Cond) : nwk (f + 1) p c = (bif Nat.beq p 1 then some c else (match c with
    | .and a b => bif Nat.beq (p % 2) 0 then nwk f (p / 2) a else nwk f (p / 2) b
    | _ => none)) := rfl
theorem nwk_b {A : Array Value} {s : State} : ∀ (f p : Nat) (c w : Cond), c.before A s = true → nwk f p c = some w → w.before A s = true
  | 0, p, c, w, h, e => by cases e
  | f + 1, p, c, w, h, e => by
    rw [nwk_s] at e
    rcases hp : Nat.beq p 1 with _ | _ <;> rw [hp] at e
    · rw [cond_false] at e
      split at e
      · rw [Cond.before_and, Bool.and_eq_true] at h
        rename_i a b
        rcases hb : Nat.beq (p % 2) 0 with _ | _ <;> rw [hb] at e
        · exact nwk_b f _ b w h.2 e
        · exact nwk_b f _ a w h.1 e
      · cases e
    · cases e
      exact h
def pf (p : Nat) (w : Cond) : Bool := decide (nwk 12 p narrow_1 = some w)
theorem pr {A : Array Value} {s : State} (hN : narrow_1.before A s = true) {p : Nat} {w : Cond} (h : pf p w = true) : w.before A s = true := nwk_b 12 p narrow_1 w hN (of_decide_eq_true h)
def spo : List String := ["ClosedRooms$Tape", "ClosedRooms$Tape", "ClosedRooms$Tape", "ClosedRooms$Tape", "ClosedRooms$Tape", "ClosedRooms$Tape", "ClosedRooms$Tape", "ClosedRooms$Tape", "ClosedRooms$Tape", "ClosedRooms$Tape", "ClosedRooms$Tape", "ClosedRooms$Tape", "ClosedRooms$Tape", "ClosedRooms$Tape", "ClosedRooms$Tape", "ClosedRooms$Tape", "ClosedRooms$Tape", "ClosedRooms$Tape", "ClosedRooms$Tape", "ClosedRooms$Tape", "ClosedRooms", "ClosedRooms", "ClosedRooms", "ClosedRooms", "ClosedRooms", "ClosedRoomsModel"]
def spk : List Nat := [106, 108, 110, 112, 114, 116, 118, 120, 122, 124, 126, 128, 130, 132, 134, 136, 138, 140, 142, 144, 331, 339, 341, 343, 156, 471]
def tmS (i : Nat) : Term := .string (spo.getD i "") (spk.getD i 0)
def tmV (i : Nat) : Term := .field (tmS i) "java/lang/String" "value" "[B"
def spX : List Nat := [1766, 598, 1846, 1270, 654, 558, 1902, 1822, 1502, 1982, 1281, 1729, 1441, 1297, 1745, 1969, 1289, 1737, 1449, 1305, 1369, 1209, 2041, 1221, 1445, 1447]
def spC : List Nat := [1510, 1366, 1206, 1782, 1422, 1326, 1262, 1182, 2014, 638, 1793, 1473, 1953, 1809, 1489, 625, 1801, 1481, 1961, 1817, 1881, 1721, 517, 1733, 1957, 1959]
def spA : List Nat := [2022, 1878, 1718, 1526, 1934, 1838, 1774, 1694, 574, 1406, 641, 1985, 609, 657, 2001, 1393, 649, 1993, 617, 1177, 1241, 1465, 1285, 1477, 613, 615]
def spL : List Nat := [534, 1238, 1462, 2038, 590, 1198, 1518, 1438, 1342, 1918, 1409, 545, 1377, 1425, 561, 1905, 1417, 553, 1385, 1689, 1753, 1977, 1797, 1989, 1381, 1383]
def spE : List (List Nat) := [[1302, 1814, 662, 1430, 1942], [1750, 1494, 2006, 566, 1334], [1974, 630, 1398, 1910], [526, 1294, 1806], [1358, 1870, 1230, 1742, 1486, 1998], [1710, 1454, 1966, 622, 1390], [2030, 542, 1310], [1950, 606, 1374, 1886, 1246, 1758], [1854, 1214, 1726, 1470], [1278, 1790, 1534, 2046, 513], [1921, 577, 1345, 1857, 1217], [1313, 1825, 1185, 1697], [1889, 1249, 1761, 1505, 2017, 529], [1937, 593, 1361, 1873, 1233], [1329, 1841, 1201, 1713, 1457], [1265, 1777, 1521, 2033, 521], [1929, 585, 1353, 1865, 1225], [1321, 1833, 1193, 1705], [1897, 1257, 1769, 1513, 2025, 537], [1433, 1945, 601], [1497, 2009, 569, 1337, 1849], [633, 1401, 1913, 1273, 1785, 1529], [645, 1413, 1925, 581, 1349, 1861], [549, 1317, 1829, 1189, 1701], [1893, 1253, 1765, 1509, 2021, 533, 1301, 1813, 661, 1429, 1941, 597, 1365, 1877, 1237, 1749, 1493, 2005, 565, 1333], [1895, 1255, 1767, 1511, 2023, 535, 1303, 1815, 663, 1431, 1943, 599]]
def spq (i : Nat) : Bool := pf (spX.getD i 0) (.exactly (tmS i) "java/lang/String") && (pf (spC.getD i 0) (.eq (.field (tmS i) "java/lang/String" "coder" "B") (.int 0)) && (pf (spA.getD i 0) (.arrayOf (tmV i) .byte) && (pf (spL.getD i 0) (.eq (.length (tmV i)) (.int (Int32.ofNat (lenS.getD i 0)))) && (List.range (lenS.getD i 0)).all (fun j => pf ((spE.getD i []).getD j 0) (.eq (.elem (tmV i) (.int (Int32.ofNat j))) (.int ((bytS.getD i []).getD j 0)))))))
theorem spq_0 : (List.range 9).all spq = true := by decide +kernel
theorem spq_1 : (List.range 9).all (fun i => spq (9 + i)) = true := by decide +kernel
theorem spq_2 : (List.range 8).all (fun i => spq (18 + i)) = true := by decide +kernel
theorem spq_at {i : Nat} (h : i < 26) : spq i = true := by
  by_cases h1 : i < 9
  · exact List.all_eq_true.mp spq_0 _ (List.mem_range.mpr h1)
  · by_cases h2 : i < 18
    · have := List.all_eq_true.mp spq_1 (i - 9) (List.mem_range.mpr (by omega))
      rwa [show 9 + (i - 9) = i by omega] at this
    · have := List.all_eq_true.mp spq_2 (i - 18) (List.mem_range.mpr (by omega))
      rwa [show 18 + (i - 18) = i by omega] at this
def spd (i j : Nat) : Bool := Nat.beq i j || (!decide (Int32.ofNat (lenS.getD i 0) = Int32.ofNat (lenS.getD j 0)) || (List.range (Nat.min (lenS.getD i 0) (lenS.getD j 0))).any (fun k => !decide ((bytS.getD i []).getD k 0 = (bytS.getD j []).getD k 0)))
theorem spd_all : (List.range 26).all (fun i => (List.range 26).all (fun j => spd i j)) = true := by decide +kernel
theorem spl_ok : (List.range 26).all (fun i => Nat.ble (lenS.getD i 0) 20) = true := by decide +kernel
section BEG
variable {s : State} {args : Array Value} {A : Nat → Prop}
theorem S_beg (hN : narrow_1.before args s = true) (hA : ∀ a : Nat, a < s.heap.size → ¬ A a) : ∃ adK adV : Nat → Nat, vk_S 26 lenS bytS adK adV A s s.heap ∧ ∀ i : Nat, i < 26 → (tmS i).eval args s none [] s = some (.ref (adK i)) := by
  have h0 : ∀ i : Nat, ∃ q : Nat × Nat, i < 26 → (tmS i).eval args s none [] s = some (.ref q.1) ∧ va_O "java/lang/String" q.1 A s s.heap ∧ va_OF "java/lang/String" "coder" "B" (.int 0) q.1 A s s.heap ∧ va_OF "java/lang/String" "value" "[B" (.ref q.2) q.1 A s s.heap ∧ va_T .byte q.2 (lenS.getD i 0) (fun j => .int ((bytS.getD i []).getD j 0)) A s s.heap := by
    intro i
    by_cases hi : i < 26
    · have hq := spq_at hi
      simp only [spq, Bool.and_eq_true, List.all_eq_true, List.mem_range] at hq
      obtain ⟨q1, q2, q3, q4, q5⟩ := hq
      have h20 := Nat.le_of_ble_eq_true (List.all_eq_true.mp spl_ok i (List.mem_range.mpr hi))
      obtain ⟨adK, adV, ⟨v1, -⟩, v2⟩ := vk_Sof (args := args) (s := s) (N := 1) (tm := fun _ => tmS i) (len := [lenS.getD i 0]) (byt := [bytS.getD i []]) (A := A) (fun k hk => by
        obtain rfl : k = 0 := by omega
        show lenS.getD i 0 < 2 ^ 31
        omega) (fun k hk => pr hN q1) (fun k hk => pr hN q2) (fun k hk => pr hN q3) (fun k hk => by
        obtain rfl : k = 0 := by omega
        exact pr hN q4) (fun k hk j hj => by
        obtain rfl : k = 0 := by omega
        exact pr hN (q5 j hj)) (fun a b ha hb hab => absurd (by omega : a = b) hab) hA
      exact ⟨(adK 0, adV 0), fun _ => ⟨v2 0 Nat.one_pos, v1 0 Nat.one_pos⟩⟩
    · exact ⟨(0, 0), fun h => absurd h hi⟩
  obtain ⟨ad, had⟩ := Classical.axiomOfChoice h0
  refine ⟨fun i => (ad i).1, fun i => (ad i).2, ⟨fun i hi => (had i hi).2, fun i j hi hj e => ?_⟩, fun i hi => (had i hi).1⟩
  replace e : (ad i).1 = (ad j).1 := e
  obtain ⟨-, -, -, ⟨cf, k, ii, f, cell, a1, a2, a3, a4, a5, -⟩, ⟨cl, b1, -, -, -, b5, b6, -⟩⟩ := had i hi
  obtain ⟨-, -, -, ⟨cf', k', ii', f', cell', a1', a2', a3', a4', a5', -⟩, ⟨cl', b1', -, -, -, b5', b6', -⟩⟩ := had j hj
  rw [← e, a3] at a3'
  cases a3'
  rw [a1] at a1'
  cases a1'
  rw [a5] at a5'
  have e2 : (ad i).2 = (ad j).2 := by injection a5' with z; injection z
  rw [← e2, b1] at b1'
  cases b1'
  have hd := List.all_eq_true.mp (List.all_eq_true.mp spd_all i (List.mem_range.mpr hi)) j (List.mem_range.mpr hj)
  simp only [spd, Bool.or_eq_true, Bool.not_eq_true', decide_eq_false_iff_not, List.any_eq_true, List.mem_range] at hd
  rcases hd with hd | hd | ⟨k2, hk2, hd⟩
  · exact Nat.eq_of_beq_eq_true hd
  · exact absurd (b5.symm.trans b5') hd
  · have h1 := b6 k2 (Nat.lt_of_lt_of_le hk2 (Nat.min_le_left _ _))
    have h2 := b6' k2 (Nat.lt_of_lt_of_le hk2 (Nat.min_le_right _ _))
    rw [h1] at h2
    injection h2 with z
    injection z with z
    exact absurd z hd
def cSp : List Nat := [0, 0, 0, 0, 0, 0, 0, 0, 0, 0, 0, 0, 0, 0, 0, 0, 0, 0, 0, 0, 1525, 1869, 1197, 541, 1885, 1469, 1283, 1731, 1379, 1427, 1331, 1779, 1355, 1195, 539, 1371, 1723, 519, 1223, 1703, 0, 1207, 527]
def csq (n : Nat) : Bool := match cSS.getD n (0, 0, 0, 0) with
  | (c, k, i, _) => (Nat.beq (cSp.getD n 0) 0 && decide (tmS i.toNat = .string (cRn c) k)) || pf (cSp.getD n 0) (.eq (tmS i.toNat) (.string (cRn c) k))
theorem csq_0 : (List.range 22).all csq = true := by decide +kernel
theorem csq_1 : (List.range 21).all (fun i => csq (22 + i)) = true := by decide +kernel
theorem cS_len : cSS.length = 43 := by decide +kernel
theorem cS_idx : cSS.all (fun z => decide (z.2.2.1.toNat < 26)) = true := by decide +kernel
theorem cS_eval {adK : Nat → Nat} (hN : narrow_1.before args s = true) (h : ∀ i : Nat, i < 26 → (tmS i).eval args s none [] s = some (.ref (adK i))) : ∀ z ∈ cSS, (Term.string (cRn z.1) z.2.1).eval args s none [] s = some (.ref (adK z.2.2.1.toNat)) := by
  intro z hz
  have hi := of_decide_eq_true (List.all_eq_true.mp cS_idx z hz)
  obtain ⟨n, hn⟩ := List.getElem?_of_mem hz
  have hlt : n < 43 := by
    have := (List.getElem?_eq_some_iff.mp hn).1
    rw [cS_len] at this
    exact this
  have hq : csq n = true := by
    by_cases h1 : n < 22
    · exact List.all_eq_true.mp csq_0 _ (List.mem_range.mpr h1)
    · have := List.all_eq_true.mp csq_1 (n - 22) (List.mem_range.mpr (by omega))
      rwa [show 22 + (n - 22) = n by omega] at this
  have hg : cSS.getD n (0, 0, 0, 0) = z := by
    rw [List.getD_eq_getElem?_getD, hn]
    rfl
  unfold csq at hq
  rw [hg] at hq
  obtain ⟨c, k, i, x⟩ := z
  replace hq : ((Nat.beq (cSp.getD n 0) 0 && decide (tmS i.toNat = .string (cRn c) k)) || pf (cSp.getD n 0) (.eq (tmS i.toNat) (.string (cRn c) k))) = true := hq
  rw [Bool.or_eq_true, Bool.and_eq_true] at hq
  rcases hq with ⟨-, hq⟩ | hq
  · have := h i.toNat hi
    rw [of_decide_eq_true hq] at this
    exact this
  · exact va_eqR (pr hN hq) (h i.toNat hi)
def stn (t : Nat) : Nat := t - 62
def stA : List Nat := [1824, 1888, 640, 1808]
def stL : List Nat := [1184, 1248, 1408, 656]
def stE : List (List Nat) := [[1696, 1440, 1952, 608], [1760, 1504, 2016, 528], [1920, 576, 1344, 1856], [1424, 1936, 592, 1360, 1872, 1232, 1744, 1488, 2000, 560, 1328, 1840, 1200, 1712, 1456, 1968]]
def stT (t : Nat) : Term := .static "ClosedRooms" (cSt t) "[I"
def stq (t : Nat) : Bool := pf (stA.getD (stn t) 0) (.arrayOf (stT t) .int) && (pf (stL.getD (stn t) 0) (.eq (.length (stT t)) (.int (Int32.ofNat (al t).toNat))) && ((List.range (al t).toNat).all (fun j => pf ((stE.getD (stn t) []).getD j 0) (.eq (.elem (stT t) (.int (Int32.ofNat j))) (.int (Int32.ofInt (stv t (j : Int)))))) && (tat0 ([3075, 3077, 2230, 3118].getD (stn t) 0) (.laysStatic "ClosedRooms" (cSt t) "[I") && Nat.ble (al t).toNat 20)))
theorem stq_all : [62, 63, 64, 65].all stq = true := by decide +kernel
theorem ek_7 {t : Nat} (h : ek t = 7) : t ∈ [62, 63, 64, 65] := by
  unfold ek at h
  split at h <;> first | decide | (cases h; done)
theorem ek_3 {t : Nat} (h : ek t = 3) : t ∈ rtg := by
  unfold ek at h
  split at h <;> first | decide | (cases h; done)
theorem T_beg (hT : ∀ x ∈ lw_tbl, x.before args s = true) (hN : narrow_1.before args s = true) (hA : ∀ a : Nat, a < s.heap.size → ¬ A a) : ∃ adT : Nat → Nat, ∀ t, ek t = 7 → va_Z "ClosedRooms" (cSt t) "[I" (.ref (adT t)) A s s.heap ∧ va_T .int (adT t) (al t).toNat (fun j => .int (Int32.ofInt (stv t (j : Int)))) A s s.heap := by
  have h0 : ∀ t : Nat, ∃ a : Nat, ek t = 7 → va_Z "ClosedRooms" (cSt t) "[I" (.ref a) A s s.heap ∧ va_T .int a (al t).toNat (fun j => .int (Int32.ofInt (stv t (j : Int)))) A s s.heap := by
    intro t
    by_cases h : ek t = 7
    · have hq := List.all_eq_true.mp stq_all t (ek_7 h)
      simp only [stq, Bool.and_eq_true, List.all_eq_true, List.mem_range] at hq
      obtain ⟨q1, q2, q3, q4, q5⟩ := hq
      have h20 := Nat.le_of_ble_eq_true q5
      obtain ⟨a, ha, hT2⟩ := va_Tof (args := args) (tm := stT t) (ty := .int) (N := (al t).toNat) (f := fun j => .int (Int32.ofInt (stv t (j : Int)))) (A := A) (by omega) (pr hN q1) (va_eqt (pr hN q2)) (fun j hj => va_eqt (pr hN (q3 j hj))) hA
      exact ⟨a, fun _ => ⟨va_Zof (hT _ (tat0_in q4)) (hT _ (tat0_in (h := 1001) (by decide +kernel))) ha hA, hT2⟩⟩
    · exact ⟨0, fun q => absurd q h⟩
  exact Classical.axiomOfChoice h0
def dgE : List Nat := [1264, 1776, 1520, 2032, 520, 1288, 1800, 648, 1416, 1928, 584, 1352, 1864, 1224, 1736, 1480, 1992, 552, 1320, 1832, 1192, 1704, 1448, 1960, 616, 1384, 1896, 1256, 1768, 1512, 2024, 536, 1304, 1816, 1176, 1688, 1432, 1944, 600, 1368, 1880, 1240, 1752, 1496, 2008, 568, 1336, 1848, 1208, 1720, 1464, 1976, 632, 1400, 1912, 1272, 1784, 1528, 2040, 516, 1284, 1796, 644, 1412, 1924, 580, 1348, 1860, 1220, 1732, 1476, 1988, 548, 1316, 1828, 1188, 1700, 1444, 1956, 612, 1380, 1892, 1252, 1764, 1508, 2020, 532, 1300, 1812, 660, 1428, 1940, 596, 1364, 1876, 1236, 1748, 1492, 2004, 564]
def dgT : Term := .static "java/lang/Integer" "DigitOnes" "[B"
def dgq (j : Nat) : Bool := pf (dgE.getD j 0) (.eq (.elem dgT (.int (Int32.ofNat j))) (.int (dg1 j)))
theorem dgq_0 : (List.range 50).all dgq = true := by decide +kernel
theorem dgq_1 : (List.range 50).all (fun i => dgq (50 + i)) = true := by decide +kernel
theorem dgq_at {j : Nat} (h : j < 100) : dgq j = true := by
  by_cases h1 : j < 50
  · exact List.all_eq_true.mp dgq_0 _ (List.mem_range.mpr h1)
  · have := List.all_eq_true.mp dgq_1 (j - 50) (List.mem_range.mpr (by omega))
    rwa [show 50 + (j - 50) = j by omega] at this
theorem W_beg (hT : ∀ x ∈ lw_tbl, x.before args s = true) (hN : narrow_1.before args s = true) : ∃ (adK adV adT : Nat → Nat) (adD : Nat), WD s.heap.size adK adV adT adD s s.heap ∧ ∀ i : Nat, i < 26 → (tmS i).eval args s none [] s = some (.ref (adK i)) := by
  have hA : ∀ a : Nat, a < s.heap.size → ¬ AG s.heap.size a := fun a h q => absurd (Nat.lt_of_lt_of_le h q) (Nat.lt_irrefl _)
  obtain ⟨adK, adV, hS, hE⟩ := S_beg hN hA
  obtain ⟨adT, hTT⟩ := T_beg hT hN hA
  obtain ⟨adD, hd, hD⟩ := va_Tof (args := args) (tm := dgT) (ty := .byte) (N := 100) (f := fun j => .int (dg1 j)) (A := AG s.heap.size) (by decide) (pr hN (p := 1392) (by decide +kernel)) (va_eqt (pr hN (p := 1904) (by decide +kernel))) (fun j hj => va_eqt (pr hN (dgq_at hj))) hA
  exact ⟨adK, adV, adT, adD, ⟨⟨⟨hS, hTT, va_Zof (hT _ (tat0_in (h := 3031) (by decide +kernel))) (hT _ (tat0_in (h := 1012) (by decide +kernel))) (va_eqi (pr hN (p := 1216) (by decide +kernel))) hA,
    va_Zqof (hT _ (tat0_in (h := 3047) (by decide +kernel))) (hT _ (tat0_in (h := 1014) (by decide +kernel))) (pr hN (p := 1728) (by decide +kernel)) hA⟩, va_Zof (hT _ (tat0_in (h := 6082) (by decide +kernel))) (hT _ (tat0_in (h := 1027) (by decide +kernel))) hd hA, hD⟩,
    vx_Zqof (hT _ (tat0_in (h := 6225) (by decide +kernel))) (hT _ (tat0_in (h := 1018) (by decide +kernel))) (pr hN (p := 1874) (by decide +kernel)) hA, vx_Zqof (hT _ (tat0_in (h := 6227) (by decide +kernel))) (hT _ (tat0_in (h := 1018) (by decide +kernel))) (pr hN (p := 1234) (by decide +kernel)) hA⟩, hE⟩
def cIn : List (Nat × Nat) := [(1029, 14), (1037, 6), (1043, 2), (1083, 2), (1089, 10), (1103, 5), (1125, 9), (1190, 9), (2002, 7), (2044, 9), (7029, 24)]
def cInq (c : Nat) : Bool := match cIn.getD c (0, 0) with
  | (h, n) => tat0 h (.instantiable (cRn c) n)
theorem cIn_ok : (List.range 11).all cInq = true := by decide +kernel
def cOv (t : Nat) : Nat := match t with
  | 8 => 1081
  | 13 => 1095
  | 16 => 1097
  | 20 => 1099
  | 24 => 1101
  | _ => 2153
theorem cOv_ok : rtg.all (fun t => tat0 (cOv t) (.arrayOver (.object (cRn (rci t))))) = true := by decide +kernel
theorem kNe_ok : kNestH.all (fun z => tat0 z.2.2.2 (.methodLinkNest (cRn z.1) z.2.1 (kY z.2.2.1) "ClosedRooms")) = true := by decide +kernel
theorem kNe_in : kNest.all (fun z => kNestH.any (fun y => decide (z = (y.1, y.2.1, y.2.2.1)))) = true := by decide +kernel
theorem crC_lt {c : Nat} {q : vw_C} (h : crC[c]? = some q) : c < 11 := by
  have := (List.getElem?_eq_some_iff.mp h).1
  exact this
theorem V_beg {adK : Nat → Nat} (hT : ∀ x ∈ lw_tbl, x.before args s = true) (hN : narrow_1.before args s = true) (hE : ∀ i : Nat, i < 26 → (tmS i).eval args s none [] s = some (.ref (adK i))) : ∃ (D : va_G) (dA : Nat → ClassId), VS D dA adK s ∧ VC D dA s := by
  have hts : ∀ x ∈ TB, x.before args s = true := fun x hx => hT x (List.mem_filter.mp hx).1
  have h0 : ∀ c : Nat, ∃ q : ClassId × (Nat → Nat), c < 11 → u_Kn s (cRn c) (cFd c) (cNn c) q.1 q.2 := by
    intro c
    by_cases hc : c < 11
    · have hq := List.all_eq_true.mp cIn_ok c (List.mem_range.mpr hc)
      unfold cInq at hq
      rcases hz : cIn.getD c (0, 0) with ⟨h, n⟩
      rw [hz] at hq
      obtain ⟨cC, iS, hk⟩ := u_known (C := cRn c) (T := cFd c) (N := cNn c) (n := n) hts (c_in hc) (hT _ (tat0_in hq))
      exact ⟨(cC, iS), fun _ => hk⟩
    · exact ⟨(default, fun _ => 0), fun h => absurd h hc⟩
  obtain ⟨D0, hD0⟩ := Classical.axiomOfChoice h0
  have h1 : ∀ t : Nat, ∃ a : ClassId, (t = 0 → s.vm.findClass ("[" ++ (FieldType.int).toString) = some a ∧ ArrOfT s a .int) ∧ (t = 1 → s.vm.findClass ("[" ++ (FieldType.boolean).toString) = some a ∧ ArrOfT s a .boolean) ∧ (t ∈ rtg → s.vm.findClass ("[" ++ (FieldType.object (cRn (rci t))).toString) = some a ∧ ArrOfT s a (.object (cRn (rci t)))) := by
    intro t
    by_cases t0 : t = 0
    · obtain ⟨a, k, comp, f1, f2, f3⟩ := Cond.arrayClass_spec (type := .int) (hT _ (tat0_in (h := 1056) (by decide +kernel)))
      exact ⟨a, fun _ => ⟨f1, fun n z => ⟨fun k h => (by cases h), k, f2, comp, f3⟩⟩, fun q => absurd (t0.symm.trans q) (by decide), fun q => absurd q (by rw [t0]; decide)⟩
    · by_cases t1 : t = 1
      · obtain ⟨a, k, comp, f1, f2, f3⟩ := Cond.arrayClass_spec (type := .boolean) (hT _ (tat0_in (h := 1057) (by decide +kernel)))
        exact ⟨a, fun q => absurd q t0, fun _ => ⟨f1, fun n z => ⟨fun k h => (by cases h), k, f2, comp, f3⟩⟩, fun q => absurd q (by rw [t1]; decide)⟩
      · by_cases tr : t ∈ rtg
        · obtain ⟨comp, a, k, f0, f1, f2, f3, f4⟩ := Cond.arrayOver_spec (hT _ (tat0_in (List.all_eq_true.mp cOv_ok t tr)))
          exact ⟨a, fun q => absurd q t0, fun q => absurd q t1, fun _ => ⟨f4, fun n z => ⟨fun k h => (by cases h), k, f2, comp, f3⟩⟩⟩
        · exact ⟨default, fun q => absurd q t0, fun q => absurd q t1, fun q => absurd q tr⟩
  obtain ⟨dA, hdA⟩ := Classical.axiomOfChoice h1
  have hC : ∀ (c : Nat) (q : vw_C), crC[c]? = some q → u_Kn s q.1 q.2.1 q.2.2 (D0 c).1 (D0 c).2 := by
    intro c q hq
    have hc := crC_lt hq
    have h2 := crC_at hc
    rw [hq] at h2
    cases h2
    exact hD0 c hc
  have hk := okKS_
  unfold okKS1 at hk
  simp only [Bool.and_eq_true, List.all_eq_true] at hk
  obtain ⟨-, -, k3, k4⟩ := hk
  have hk2 := okCS_
  unfold okCS1 at hk2
  rw [List.all_eq_true] at hk2
  refine ⟨(fun c => (D0 c).1, fun c => (D0 c).2), dA, ⟨hC, ((hdA 0).1 rfl).2, ((hdA 1).2.1 rfl).2, fun t ht => ⟨_, ((hdA t).2.2 (ek_3 ht)).2⟩, fun z hz => vk_R.of (hT _ (tat0_in (k3 z hz))) (cS_eval hN hE z hz), fun z hz => va_tabs rfl rfl (hT _ (tat0_in (k4 z hz))), fun z hz hne => ?_⟩,
    ⟨hC, ((hdA 0).1 rfl).1, ((hdA 1).2.1 rfl).1, fun t ht => ⟨va_AO.of (hT _ (tat0_in (List.all_eq_true.mp cOv_ok t ht))), ((hdA t).2.2 ht).1⟩, fun z hz => ?_⟩⟩
  · have h3 := hk2 z hz
    obtain ⟨o, ix, a, nn, p⟩ := z
    rcases nn with _ | nn
    · exact absurd rfl hne
    · exact va_tabs rfl rfl (hT _ (tat0_in h3))
  · have h3 := List.all_eq_true.mp kNe_in z hz
    obtain ⟨y, hy, hyz⟩ := List.any_eq_true.mp h3
    have h4 := List.all_eq_true.mp kNe_ok y hy
    rw [of_decide_eq_true hyz]
    exact va_tabs rfl rfl (hT _ (tat0_in h4))
theorem K_beg {adK : Nat → Nat} (hT : ∀ x ∈ lw_tbl, x.before args s = true) (hE : ∀ i : Nat, i < 26 → (tmS i).eval args s none [] s = some (.ref (adK i))) : ∃ (DB : va_G) (dB : ClassId), KD DB dB adK s := by
  have hts : ∀ x ∈ TB, x.before args s = true := fun x hx => hT x (List.mem_filter.mp hx).1
  obtain ⟨cC, iS, hk⟩ := u_known (C := "java/lang/StringBuilder") (T := fB) (N := 4) (n := 4) hts fB_in (hT _ (tat0_in (h := 5180) (by decide +kernel)))
  obtain ⟨a, k, comp, f1, f2, f3⟩ := Cond.arrayClass_spec (type := .byte) (hT _ (tat0_in (h := 3120) (by decide +kernel)))
  refine ⟨(fun _ => cC, fun _ => iS), a, ⟨hk, fun n z => ⟨fun k h => (by cases h), k, f2, comp, f3⟩, f1, fun y hy => ?_⟩, fun z hz => ?_, va_tabs rfl rfl (hT _ (tat0_in (h := 6200) (by decide +kernel))), fun y hy => ?_⟩
  · refine va_tabs rfl rfl (sel_B hts ?_ ?_ ?_) <;> (simp only [xPV, List.mem_cons, List.not_mem_nil, or_false] at hy; rcases hy with rfl | rfl | rfl)
    · rfl
    · rfl
    · rfl
    · exact hT _ (tat0_in (h := 5221) (by decide +kernel))
    · exact hT _ (tat0_in (h := 6039) (by decide +kernel))
    · exact hT _ (tat0_in (h := 6035) (by decide +kernel))
    · exact hT _ (tat0_in (h := 5222) (by decide +kernel))
    · exact hT _ (tat0_in (h := 6040) (by decide +kernel))
    · exact hT _ (tat0_in (h := 6036) (by decide +kernel))
  · simp only [xSS, List.mem_cons, List.not_mem_nil, or_false] at hz
    rcases hz with rfl | rfl | rfl | rfl | rfl
    · exact vk_R.of (hT _ (tat0_in (h := 5208) (by decide +kernel))) (hE 20 (by decide))
    · exact vk_R.of (hT _ (tat0_in (h := 6093) (by decide +kernel))) (hE 21 (by decide))
    · exact vk_R.of (hT _ (tat0_in (h := 6094) (by decide +kernel))) (hE 22 (by decide))
    · exact vk_R.of (hT _ (tat0_in (h := 6095) (by decide +kernel))) (hE 23 (by decide))
    · exact vk_R.of (hT _ (tat0_in (h := 6237) (by decide +kernel))) (hE 24 (by decide))
  · simp only [xDC, List.mem_cons, List.not_mem_nil, or_false] at hy
    rcases hy with rfl | rfl | rfl
    · exact va_tabs rfl rfl (hT _ (tat0_in (h := 6202) (by decide +kernel)))
    · exact va_tabs rfl rfl (hT _ (tat0_in (h := 6204) (by decide +kernel)))
    · exact va_tabs rfl rfl (hT _ (tat0_in (h := 6206) (by decide +kernel)))
end BEG
