/-! the tables' words that the codes need, by their places -/
def zWS : List Cond := lw_tbl.filter goodWord
theorem zin_of {w : Cond} (p : Nat) (h : lw_tbl[p]? = some w) (hg : goodWord w = true) : w ∈ zWS := List.mem_filter.mpr ⟨List.mem_of_getElem? h, hg⟩
theorem zin_list {ws : List Cond} (ps : List Nat) (h : ws.map some = ps.map (fun p => lw_tbl[p]?)) (hg : ws.all goodWord = true) : ∀ w ∈ ws, w ∈ zWS := by
  intro w hw
  obtain ⟨i, hi, e⟩ := List.mem_iff_getElem.mp hw
  have h1 : (ws.map some)[i]? = some (some w) := by rw [List.getElem?_map, List.getElem?_eq_getElem hi, e]; rfl
  rw [h, List.getElem?_map] at h1
  cases hp : ps[i]? with
  | none => rw [hp] at h1; cases h1
  | some p =>
    rw [hp] at h1
    exact zin_of p (Option.some.inj h1) (List.all_eq_true.mp hg w hw)
theorem zlay_0 : ∀ w ∈ u_ws (zC 0) (zT 0) (zN 0), w ∈ zWS := zin_list [435, 437, 439, 441] (by decide +kernel) (by decide +kernel)
theorem zlay_1 : ∀ w ∈ u_ws (zC 1) (zT 1) (zN 1), w ∈ zWS := zin_list [235, 237, 239, 241, 243, 245, 247, 249, 251, 253, 255, 257, 259, 261, 263, 265] (by decide +kernel) (by decide +kernel)
theorem zlay_2 : ∀ w ∈ u_ws (zC 2) (zT 2) (zN 2), w ∈ zWS := zin_list [183] (by decide +kernel) (by decide +kernel)
theorem zlay_3 : ∀ w ∈ u_ws (zC 3) (zT 3) (zN 3), w ∈ zWS := zin_list [460, 462, 464, 466, 468, 470, 472, 474, 476, 478] (by decide +kernel) (by decide +kernel)
theorem zlay_4 : ∀ w ∈ u_ws (zC 4) (zT 4) (zN 4), w ∈ zWS := zin_list [350, 352, 354, 356, 358, 360, 362, 364, 366, 368, 370, 372, 374, 376, 378, 380] (by decide +kernel) (by decide +kernel)
theorem zlay_5 : ∀ w ∈ u_ws (zC 5) (zT 5) (zN 5), w ∈ zWS := zin_list [307, 309, 311, 313, 315, 317, 319, 321] (by decide +kernel) (by decide +kernel)
theorem zlay_6 : ∀ w ∈ u_ws (zC 6) (zT 6) (zN 6), w ∈ zWS := zin_list [281, 283, 285, 287, 289] (by decide +kernel) (by decide +kernel)
theorem zlay_7 : ∀ w ∈ u_ws (zC 7) (zT 7) (zN 7), w ∈ zWS := zin_list [153, 155, 157, 159, 161, 163, 165, 167, 169, 171] (by decide +kernel) (by decide +kernel)
theorem zlay_8 : ∀ w ∈ u_ws (zC 8) (zT 8) (zN 8), w ∈ zWS := zin_list [400, 402, 404, 406, 408, 410, 412, 414, 416, 418, 420] (by decide +kernel) (by decide +kernel)
theorem zlay_9 : ∀ w ∈ u_ws (zC 9) (zT 9) (zN 9), w ∈ zWS := zin_list [499, 501, 503, 505, 507, 509, 511, 513, 515, 517, 519, 521, 523, 525, 527, 529, 531, 533] (by decide +kernel) (by decide +kernel)
theorem zlay_10 : ∀ w ∈ u_ws (zC 10) (zT 10) (zN 10), w ∈ zWS := zin_list [1483, 1485, 1487, 1489, 1491, 1493, 1495, 1497, 1499, 1501, 1503, 1505, 1507, 1509, 1511, 1513, 1515, 1517, 1519, 1521, 1523, 1525, 1527, 1529, 1531, 1533, 1535, 1537, 1539, 1541, 1543, 1545, 1547, 1549, 1551, 1553, 1555, 1557, 1559, 1561, 1563, 1565, 1567, 1569, 1571, 1573, 1575, 1577, 1579, 1581, 1583, 1585, 1587, 1589, 1591] (by decide +kernel) (by decide +kernel)
theorem zlay : ∀ c, c < 11 → ∀ w ∈ u_ws (zC c) (zT c) (zN c), w ∈ zWS := by
  intro c hc
  match c, hc with
  | 0, _ => exact zlay_0
  | 1, _ => exact zlay_1
  | 2, _ => exact zlay_2
  | 3, _ => exact zlay_3
  | 4, _ => exact zlay_4
  | 5, _ => exact zlay_5
  | 6, _ => exact zlay_6
  | 7, _ => exact zlay_7
  | 8, _ => exact zlay_8
  | 9, _ => exact zlay_9
  | 10, _ => exact zlay_10
  | c + 11, h => exact absurd h (by omega)
theorem zty_ok : ∀ c, c < 11 → ∀ k, k < zN c → parseFieldDescriptor (zT c k).2.2.1 = some (zTy c k) := by decide +kernel
theorem znm_ok : ∀ c, c < 11 → ∀ a, a < zN c → ∀ b, b < zN c → a ≠ b → (zT c a).2.1 ≠ (zT c b).2.1 := by decide +kernel
/-- a field's link -/
def zfw (r : Nat × Nat × Nat × Nat × Nat × Bool) : Cond := let f := if r.2.2.1 = 11 then (["code", "dir", "measured"].getD r.2.2.2.1 "", ["J", "I", "I"].getD r.2.2.2.1 "") else ((zT r.2.2.1 r.2.2.2.1).2.1, (zT r.2.2.1 r.2.2.2.1).2.2.1); .fieldLink (zC r.1) r.2.1 (zC r.2.2.1) f.1 f.2
theorem zfl_ok : ∀ c, c < 15 → ∀ r ∈ zfl c, lw_tbl[r.2.2.2.2.1]? = some (zfw r) ∧ goodWord (zfw r) = true ∧ r.1 = c ∧ (r.2.2.1 < 11 ∧ r.2.2.2.1 < zN r.2.2.1 ∧ (zT r.2.2.1 r.2.2.2.1).1 = zC r.2.2.1 ∨ r.2.2.1 = 11 ∧ r.2.2.2.1 < 3) := by decide +kernel
/-- a static's link -/
def zsf (a : Nat) : String × String × String := if a = 1001 then ("RugReader", "WORDS", "[LRugReader$Word;") else ("RugReader$Word", zwnm (a - 1010), "LRugReader$Word;")
def zsw1 (r : Nat × Nat × Nat × Nat × Bool) : Cond := if r.2.2.2.2 = true then .fieldLinkNest (zC r.1) r.2.1 (zsf r.2.2.1).1 (zsf r.2.2.1).2.1 (zsf r.2.2.1).2.2 "RugReader" else .fieldLink (zC r.1) r.2.1 (zsf r.2.2.1).1 (zsf r.2.2.1).2.1 (zsf r.2.2.1).2.2
theorem zst_ok : ∀ r ∈ zst, lw_tbl[r.2.2.2.1]? = some (zsw1 r) ∧ (r.2.2.2.2 = false → goodWord (zsw1 r) = true) ∧ (r.2.2.1 = 1001 ∨ 1010 ≤ r.2.2.1 ∧ r.2.2.1 < 1030) := by decide +kernel
/-- a method's link -/
def zyy (n : Nat) : MethodName := if n = 1000 then arraycopyName else if n = 1001 then Lib.objectInit else zy n
def zmw (r : Nat × Nat × Nat × Nat × Bool) : Cond := if r.2.2.2.2 = true then .methodLinkNest (zC r.1) r.2.1 (zyy r.2.2.1) "RugReader" else .methodLink (zC r.1) r.2.1 (zyy r.2.2.1)
theorem zml_ok : ∀ c, c < 15 → ∀ r ∈ zml c, lw_tbl[r.2.2.2.1]? = some (zmw r) ∧ (r.2.2.2.2 = false → goodWord (zmw r) = true) ∧ r.1 = c := by decide +kernel
theorem zcls_ok : ∀ r ∈ zcls, lw_tbl[r.2.2.2]? = some (.classLink (zC r.1) r.2.1 (zC r.2.2.1)) ∧ goodWord (.classLink (zC r.1) r.2.1 (zC r.2.2.1)) = true := by decide +kernel
theorem zci_ok : ∀ r ∈ zci, lw_tbl[r.2.2.2]? = some (.constant (zC r.1) r.2.1 r.2.2.1) ∧ goodWord (.constant (zC r.1) r.2.1 r.2.2.1) = true := by decide +kernel
theorem zcj_ok : ∀ r ∈ zcj, lw_tbl[r.2.2.2]? = some (.constantLong (zC r.1) r.2.1 (zlc r.2.2.1)) ∧ goodWord (.constantLong (zC r.1) r.2.1 (zlc r.2.2.1)) = true := by decide +kernel
def zinstP : List Nat := [424, 187, 177, 445, 328, 293, 270, 134, 384, 126, 1396]
theorem zinst : ∀ c, c < 11 → lw_tbl[zinstP.getD c 0]? = some (.instantiable (zC c) (zN c)) ∧ goodWord (.instantiable (zC c) (zN c)) = true := by decide +kernel
def ziniP : List Nat := [113, 108, 107, 114, 111, 110, 109, 106, 112, 105, 115, 118, 104, 116, 124]
theorem zinit : ∀ c, c < 15 → lw_tbl[ziniP.getD c 0]? = some (.initialized (zC c)) ∧ goodWord (.initialized (zC c)) = true := by decide +kernel
def zNest : List Cond := [zmw (6, 131, 172, 1258, true), zmw (9, 9, 2, 135, true), zmw (9, 27, 4, 188, true), zmw (9, 37, 5, 271, true), zmw (9, 80, 7, 329, true), zmw (9, 87, 8, 385, true), zmw (9, 94, 9, 425, true), zmw (9, 101, 10, 446, true)]
def zNestF : List Cond := [zsw1 (7, 89, 1001, 600, true)]
theorem zml_n : ∀ c, c < 15 → ∀ r ∈ zml c, r.2.2.2.2 = true → zmw r ∈ zNest := by decide +kernel
theorem zst_n : ∀ r ∈ zst, r.2.2.2.2 = true → zsw1 r ∈ zNestF := by decide +kernel
theorem zst_1 : ∀ r ∈ zst, r.2.2.2.2 = true → r.2.2.1 = 1001 := by decide +kernel
theorem zarr : lw_tbl[174]? = some (.arrayClass .int) ∧ lw_tbl[175]? = some (.arrayClass .long) ∧ lw_tbl[1365]? = some (.arrayClass .byte) ∧ lw_tbl[268]? = some (.arrayClass .boolean) := by decide +kernel
theorem zaro : lw_tbl[325]? = some (.arrayOver (.object "RugReader$House")) ∧ lw_tbl[324]? = some (.arrayOver (.object "RugReader$Rug")) ∧ lw_tbl[326]? = some (.arrayOver (.object "RugReader$Sentence")) := by decide +kernel
theorem zcpw : (lw_tbl[804]? = some (.native arraycopyName) ∧ goodWord (.native arraycopyName) = true) ∧ (lw_tbl[803]? = some (.static arraycopyName) ∧ goodWord (.static arraycopyName) = true) ∧ (lw_tbl[123]? = some (.initialized "java/lang/System") ∧ goodWord (.initialized "java/lang/System") = true) := by decide +kernel
theorem zobw : (lw_tbl[131]? = some (.instanceMethod Lib.objectInit) ∧ goodWord (.instanceMethod Lib.objectInit) = true) ∧ lw_tbl[132]? = some (.code Lib.objectInit ⟨#[0xb1]⟩ 1 none) ∧ goodWord (.code Lib.objectInit ⟨#[0xb1]⟩ 1 none) = true := by decide +kernel
