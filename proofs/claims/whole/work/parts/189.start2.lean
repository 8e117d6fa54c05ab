/-! the start: what holds of it -/
section ST
variable {s : State} {args : Array Value} {b L : Nat} {xs : Nat → Int32}
theorem st_arr {ty : FieldType} (h : (Cond.arrayClass ty).before args s = true) : ∃ cA, ArrOfT s cA ty ∧ s.vm.findClass ("[" ++ ty.toString) = some cA := by
  obtain ⟨cA, kA, comp, h1, h2, h3⟩ := Cond.arrayClass_spec h
  exact ⟨cA, fun n z => ⟨fun k h => (by cases h), kA, h2, comp, h3⟩, h1⟩
theorem st_over {C : String} (h : (Cond.arrayOver (.object C)).before args s = true) : ∃ cA, ArrOfT s cA (.object C) ∧ va_RA s cA (.object C) := by
  obtain ⟨comp, cA, kA, h1, -, h2, h3, h4⟩ := Cond.arrayOver_spec h
  exact ⟨cA, fun n z => ⟨fun k h => (by cases h), kA, h2, comp, h3⟩, kA, comp, h2, h3, h1, h4⟩
theorem st_K (hts : ∀ w ∈ lw_tbl, w.before args s = true) : ∃ (dC : Nat → ClassId) (dI : Nat → Nat → Nat) (dA : Nat → ClassId), va_K (dC, dI) zcl (ztys dA) s := by
  have hz : ∀ w ∈ zWS, w.before args s = true := fun w hw => hts w (List.mem_filter.mp hw).1
  have h1 : ∀ c, ∃ (p : ClassId × (Nat → Nat)), c < 11 → u_Kn s (zC c) (zT c) (zN c) p.1 p.2 := by
    intro c
    by_cases hc : c < 11
    · obtain ⟨x, y, h⟩ := u_known hz (zlay c hc) (hts _ (st_i c hc))
      exact ⟨(x, y), fun _ => h⟩
    · exact ⟨(0, fun _ => 0), fun h => absurd h hc⟩
  obtain ⟨c1, a1, r1⟩ := st_arr (hts _ st_a.1)
  obtain ⟨c2, a2, r2⟩ := st_arr (hts _ st_a.2.1)
  obtain ⟨c3, a3, r3⟩ := st_arr (hts _ st_a.2.2.1)
  obtain ⟨c4, a4, r4⟩ := st_arr (hts _ st_a.2.2.2.1)
  obtain ⟨c5, a5, r5⟩ := st_over (hts _ st_a.2.2.2.2.1)
  obtain ⟨c6, a6, r6⟩ := st_over (hts _ st_a.2.2.2.2.2.1)
  obtain ⟨c7, a7, r7⟩ := st_over (hts _ st_a.2.2.2.2.2.2)
  refine ⟨fun c => (Classical.choose (h1 c)).1, fun c => (Classical.choose (h1 c)).2, fun k => if k = 101 then c1 else if k = 102 then c2 else if k = 103 then c3 else if k = 104 then c4 else if k = 111 then c5 else if k = 115 then c6 else c7, fun c q hq => ?_, fun k q hk => ?_⟩
  · unfold zcl at hq
    rw [List.getElem?_map, Option.map_eq_some_iff] at hq
    obtain ⟨x, hx, e⟩ := hq
    have hc : c < 11 := by
      have := (List.getElem?_eq_some_iff.mp hx).1
      rwa [List.length_range] at this
    have hxc : x = c := by
      rw [List.getElem?_range hc] at hx
      exact (Option.some.inj hx).symm
    subst hxc
    subst e
    exact Classical.choose_spec (h1 x) hc
  · match k, hk with
    | 0, hk => cases hk; exact ⟨a1, r1⟩
    | 1, hk => cases hk; exact ⟨a2, r2⟩
    | 2, hk => cases hk; exact ⟨a3, r3⟩
    | 3, hk => cases hk; exact ⟨a4, r4⟩
    | 4, hk => cases hk; exact ⟨a5, r5⟩
    | 5, hk => cases hk; exact ⟨a6, r6⟩
    | 6, hk => cases hk; exact ⟨a7, r7⟩
    | n + 7, hk => cases hk
theorem st_ref {t : Term} {C : String} (h : (Cond.exactly t C).before args s = true) : ∃ a, t.eval args s none [] s = some (.ref a) := by
  obtain ⟨a, -, -, -, h, -⟩ := Cond.exactly_spec h
  exact ⟨a, h⟩
theorem st_Z (hts : ∀ w ∈ lw_tbl, w.before args s = true) (hgv : ∀ w ∈ gvL, w.before args s = true) : ∃ a1 a2, zXZ s.heap.size a1 a2 s s.heap := by
  obtain ⟨x1, e1⟩ := st_ref (hgv _ st_w.2.2.2.2.1)
  obtain ⟨x2, e2⟩ := st_ref (hgv _ st_w.2.2.2.2.2)
  have hA : ∀ a : Nat, a < s.heap.size → ¬ zA s.heap.size a := fun a h q => by
    unfold zA at q
    omega
  refine ⟨x1, x2, vx_Zqof (hts _ st_l.2.2.2.2.2.1) (hts _ st_l.2.2.2.2.1) (hgv _ st_w.2.2.1) hA, vx_Zqof (hts _ st_l.2.2.2.2.2.2) (hts _ st_l.2.2.2.2.1) (hgv _ st_w.2.2.2.1) hA, ⟨?_, ?_⟩, ⟨?_, ?_⟩, fun w hw => ?_⟩
  · exact hts _ st_s.1
  · exact e1
  · exact hts _ st_s.2
  · exact e2
  · have := hts w (th_inB w hw)
    rcases thB_form w hw with ⟨x, rfl⟩ | ⟨a, b, rfl⟩
    · exact va_Nw.of rfl this
    · exact va_Nw.of rfl this
theorem st_S (hts : ∀ w ∈ lw_tbl, w.before args s = true) (hgv : ∀ w ∈ gvL, w.before args s = true) (hX : va_X b L xs s s.heap) (hb : b < s.heap.size) (hL : L < 2147483648) : ∃ sa : Nat → Nat, sa 0 = b ∧ zStat s.heap.size L xs sa s s.heap := by
  have hA : ∀ a : Nat, a < s.heap.size → ¬ zA s.heap.size a := fun a h q => by
    unfold zA at q
    omega
  have h1 : ∀ i, ∃ a, i < 20 → (stT i).eval args s none [] s = some (.ref a) := by
    intro i
    by_cases hi : i < 20
    · obtain ⟨a, h⟩ := st_ref (hgv _ (st_ex i hi))
      exact ⟨a, fun _ => h⟩
    · exact ⟨0, fun h => absurd h hi⟩
  obtain ⟨ad, hev⟩ : ∃ ad : Nat → Nat, ∀ i, i < 20 → (stT i).eval args s none [] s = some (.ref (ad i)) := ⟨fun i => Classical.choose (h1 i), fun i => Classical.choose_spec (h1 i)⟩
  obtain ⟨t, ht, hT⟩ := va_Tof (A := zA s.heap.size) (args := args) (s := s) (tm := stW) (ty := .object "RugReader$Word") (N := 20) (f := fun j => .ref (ad j)) (by decide) (hgv _ st_w.1) (va_eqv (hgv _ st_w.2.1) rfl) (fun j hj => va_eqv (hgv _ (st_el j hj)) (hev j hj)) hA
  have ads : ∀ i, (fun k => if k = 0 then b else if k = 1 then t else ad (k - 10)) (10 + i) = ad i := by
    intro i
    show (if 10 + i = 0 then b else if 10 + i = 1 then t else ad (10 + i - 10)) = _
    rw [if_neg (by omega), if_neg (by omega), show 10 + i - 10 = i by omega]
  refine ⟨fun k => if k = 0 then b else if k = 1 then t else ad (k - 10), rfl, ?_, ?_, fun i hi => ?_, ?_, ?_, ?_, ?_, fun i j hi hj e => ?_⟩
  · exact va_Zof (hts _ st_l.2.1) (hts _ st_l.2.2.1) ht hA
  · have e : (fun j => Value.ref ((fun k => if k = 0 then b else if k = 1 then t else ad (k - 10)) (10 + j))) = fun j => Value.ref (ad j) := by
      funext j
      show Value.ref (if 10 + j = 0 then b else if 10 + j = 1 then t else ad (10 + j - 10)) = _
      rw [if_neg (by omega), if_neg (by omega), show 10 + j - 10 = j by omega]
    rw [e]
    exact hT
  · have e : (fun k => if k = 0 then b else if k = 1 then t else ad (k - 10)) (10 + i) = ad i := by
      show (if 10 + i = 0 then b else if 10 + i = 1 then t else ad (10 + i - 10)) = _
      rw [if_neg (by omega), if_neg (by omega), show 10 + i - 10 = i by omega]
    rw [e, ← zw_nm i hi]
    exact va_Zof (hts _ (st_l.1 i hi)) (hts _ st_l.2.2.2.1) (hev i hi) hA
  · exact va_Efof (E := "RugReader$Word") (nm := zwL) (d0 := "LRugReader$Word;") (tm := fun i => .long (zwc i)) (fun i hi => by rw [ads i]; exact hev i hi) (fun i hi => hgv _ (st_code i hi)) (fun i hi => rfl) hA
  · exact va_Efof (E := "RugReader$Word") (nm := zwL) (d0 := "LRugReader$Word;") (tm := fun i => .int (zwd i)) (fun i hi => by rw [ads i]; exact hev i hi) (fun i hi => hgv _ (st_dir i hi)) (fun i hi => rfl) hA
  · exact va_Efof (E := "RugReader$Word") (nm := zwL) (d0 := "LRugReader$Word;") (tm := fun i => .int (zwm i)) (fun i hi => by rw [ads i]; exact hev i hi) (fun i hi => hgv _ (st_mea i hi)) (fun i hi => rfl) hA
  · obtain ⟨scr, g1, g2, g3, g4, g5⟩ := hX
    refine ⟨scr, g1, g2, g3, by omega, by rw [g4], g5, hA b hb⟩
  · rw [ads i, ads j] at e
    have e1 := hev i hi
    have e2 := hev j hj
    have c1 := va_eqv (hgv _ (st_code i hi)) (show (Term.long (zwc i)).eval args s none [] s = some (.long (zwc i)) from rfl)
    have c2 := va_eqv (hgv _ (st_code j hj)) (show (Term.long (zwc j)).eval args s none [] s = some (.long (zwc j)) from rfl)
    rw [e] at e1
    have c3 : (Term.field (stT i) "RugReader$Word" "code" "J").eval args s none [] s = (Term.field (stT j) "RugReader$Word" "code" "J").eval args s none [] s := by
      simp only [Term.eval]
      rw [e1, e2]
    rw [c1, c2] at c3
    exact zwc_ij i hi j hj (Value.long.inj (Option.some.inj c3))
end ST
