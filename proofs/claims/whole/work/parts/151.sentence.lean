/-! sentence(), both sides, whole -/
def smF (j : Nat) : Prop := j = 0 ∨ (2 ≤ j ∧ j ≤ 5) ∨ syF j
def s1P (q : Nat) : Prop := (1 ≤ q ∧ q ≤ 5) ∨ (27 ≤ q ∧ q ≤ 34)
section SH
variable {S : Nat → Int32} {w w' wx wy w1 w2 : Wd} {n : Nat} {b : Nat → Nat} {f : Nat → Int64}
theorem stpR.cong {S T : Nat → Int32} {a b c x y z : Int32} {D D' : Nat} (h : stpR S a b c x y z D D') (e : T 3 = S 3) : stpR T a b c x y z D D' := by
  unfold stpR at *
  rw [e]
  exact h
theorem j_158 (hG : XG S wx) (hN : XN S f wx) (hX : XT n b wx) (hS : wI wy 168 = S) (hf : MN f wy) (hM : MT n b wy) (hW : WRD wy) : t2 (sh_158 0 wx) (sh_272 166 wy) (fun r1 w1 r2 w2 => r1 = r2 ∧ XT 0 b w1 ∧ MT 0 b w2 ∧ wI w1 1 2 = wI w2 166 15 ∧ Kp (fun q => q = 166 ∨ q = 168 ∨ q = 170 ∨ q = 186) wy w2 ∧ Fm smF wy w2 ∧ ∃ S', (∀ j, j < 10084 → S' j = S j) ∧ wI w2 168 = S' ∧ XG S' w1 ∧ XN S' f w1 ∧ ∃ v, Kp s1P wx v ∧ (w1 = v ∨ ∃ c d, w1 = sR (sR v 0 4 (some c)) 0 5 (some d))) := by
  obtain ⟨hF, hWR, hR, a, ea, h7, hH⟩ := hG
  obtain ⟨a', o, s, u, e2, e3, e4, e5, hao, hsu, hNm, hSR⟩ := hN
  have : a' = a := by rw [ea] at e2; exact (Option.some.inj e2).symm
  subst this
  have hu : u = 27 ∨ u = 31 := by omega
  have hda : ∀ q, a' ≤ q → q ≤ a' + 9 → ¬ ((1 ≤ q ∧ q ≤ 5) ∨ (u ≤ q ∧ q ≤ u + 3)) := fun q h1 h2 => by omega
  have hdn : ∀ q, a' + 4 ≤ q → q ≤ a' + 5 → ¬ ((1 ≤ q ∧ q ≤ 5) ∨ (u ≤ q ∧ q ≤ u + 3)) := fun q h1 h2 => by omega
  have hds : ∀ q, s ≤ q → q ≤ s + 3 → ¬ ((1 ≤ q ∧ q ≤ 5) ∨ (u ≤ q ∧ q ≤ u + 3)) := fun q h1 h2 => by omega
  have hdr : ∀ q, 35 ≤ q → q ≤ 35 + 7 → ¬ ((1 ≤ q ∧ q ≤ 5) ∨ (u ≤ q ∧ q ≤ u + 3)) := fun q h1 h2 => by omega
  have hd1 : ∀ q, ((1 ≤ q ∧ q ≤ 5) ∨ (u ≤ q ∧ q ≤ u + 3)) → s1P q := fun q y => by unfold s1P; omega
  have hn := hX.1
  have hb : ∀ j, j < n → b j < 256 := fun j hj => (hX.2.2 j hj).2
  obtain ⟨P, eP, hP⟩ := hF.2.2.1
  have nm2 := hNm.2
  rw [eP, ix_nI (by omega)] at nm2
  have eg : ∃ g : Nat → List Nat, ∀ k, k < P → okL (g k) ∧ wL wx (a' + 5) k = lN (en5 (g k)) ∧ wL wy 171 (6 + k) = lN (en8 (g k)) := by
    refine ⟨fun k => if h : k < P then Classical.choose (nm2 k h) else [], fun k hk => ?_⟩
    have q := Classical.choose_spec (nm2 k hk)
    simp only [dif_pos hk]
    exact ⟨⟨q.1, q.2.1, q.2.2.1⟩, q.2.2.2.1, by rw [hf (6 + k) (by omega)]; exact q.2.2.2.2⟩
  obtain ⟨g, hg⟩ := eg
  unfold sh_158 sh_272
  rw [der_e e5, der_e ea]
  unfold sh_159
  refine t2c_cl ?_
  unfold sh_62
  refine t2c_g (fun u1 g1 k1 => t2c_g (fun u2 g2 k2 => t2c_some (t2c_cl ?_)))
  have ku : Kp (fun q => q = u) wx u2 := k1.trans k2
  have hX2 : XT n b u2 := ⟨hn, by rw [ku.I (by omega)]; exact hX.2.1, fun j hj => by rw [ku.I (by omega)]; exact hX.2.2 j hj⟩
  refine t2_1 (x_begin hX2 (lim := 200) (by decide)) (fun _ u3 g3 => ?_)
  obtain ⟨m, hXs, f4, f2, f3, f6, k3, -, -⟩ := g3
  have hXQ : XQ n b 200 m 0 u3 := ⟨⟨hXs, Nat.zero_le _, f6, f4⟩, f2⟩
  have hT := hXs.2.2.2.1
  refine t2_s2 ?_
  have hM0 : MT n b (sI wy 166 0 0) := ⟨by rw [wI_other (by decide)]; exact hM.1, fun j hj => by rw [wI_row (by decide)]; exact hM.2 j hj⟩
  refine t2_2 (y_taken hn hb (lim := 200) (by decide) hM0) (fun _ v1 h1 => ?_)
  obtain ⟨hB1, y4, y2, kv1, fv1⟩ := h1
  refine t2_h2 (fun v2 d2 m2 L2 => t2_h2 (fun v3 d3 m3 L3 => t2_h2 (fun v4 d4 m4 L4 => t2_h2 (fun v5 d5 m5 L5 => t2_h2 (fun v6 d6 m6 L6 => t2_h2 (fun v7 d7 m7 L7 => ?_))))))
  have km : Kp (fun q => q = 166) v1 v7 := ((((m2.trans m3).trans m4).trans m5).trans m6).trans m7
  have fm : Fm (fun j => j = 15 ∨ (46 ≤ j ∧ j ≤ 50)) v1 v7 := fun j hj => by
    rw [d7, up_o (by omega), d6, up_o (by omega), d5, up_o (by omega), d4, up_o (by omega), d3, up_o (by omega), d2, up_o (by omega)]
  have z15 : wI v7 166 15 = 0 := by rw [d7, up_o (by decide), d6, up_o (by decide), d5, up_o (by decide), d4, up_o (by decide), d3, up_o (by decide), d2, up_s]
  have z46 : wI v7 166 46 = 0 := by rw [d7, up_o (by decide), d6, up_o (by decide), d5, up_o (by decide), d4, up_o (by decide), d3, up_s]
  have z47 : wI v7 166 47 = 0 := by rw [d7, up_o (by decide), d6, up_o (by decide), d5, up_o (by decide), d4, up_s]
  have z48 : wI v7 166 48 = 0 := by rw [d7, up_o (by decide), d6, up_o (by decide), d5, up_s]
  have z49 : wI v7 166 49 = 1 := by rw [d7, up_o (by decide), d6, up_s]
  have z50 : wI v7 166 50 = 0 := by rw [d7, up_s]
  clear d2 d3 d4 d5 d6 d7 m2 m3 m4 m5 m6 m7
  have hB7 : MB n b 200 v7 := hB1.fm fm km (by decide) (by decide)
  refine t2_2 (y_first hB7 (by rw [fm 4 (by decide)]; exact y4) hT) (fun _ v8 h8 => ?_)
  obtain ⟨hK8, hB8, k8, f8⟩ := h8
  have ky8 : Kp (fun q => q = 166) wy v8 := ((kp0 (P := fun q => q = 166) rfl).trans kv1).trans (km.trans k8)
  have hY8 : YS n b 200 m 0 v8 := ⟨hK8, hB8, by unfold WRD; rw [ky8.L (by decide)]; exact hW, by rw [f8 15 (by unfold nxF; omega)]; exact z15⟩
  have fm8 : Fm smF wy v8 := fun j hj => by
    have a1 : ¬ nxF j := fun q => hj (Or.inr (Or.inr (Or.inl q)))
    have a2 : ¬ (j = 0 ∨ (2 ≤ j ∧ j ≤ 5) ∨ j = 15 ∨ (46 ≤ j ∧ j ≤ 50)) := fun q => hj (by unfold smF syF; omega)
    rw [f8 j a1, fm j (by omega), fv1 j (by omega), wI_other (by omega)]
  have kx3 : Kp (fun q => (1 ≤ q ∧ q ≤ 5) ∨ (u ≤ q ∧ q ≤ u + 3)) wx u3 := (ku.mono (fun q y => by omega)).trans (k3.mono (fun q y => by unfold tkP at y; omega))
  have x0 : wI u3 u 0 = nI 0 := by rw [k3.I (by unfold tkP; omega), g2, up_o (by decide), g1, up_s]; rfl
  have x1 : wI u3 u 1 = nI 0 := by rw [k3.I (by unfold tkP; omega), g2, up_s]; rfl
  have hen : SEN a' P g u3 v8 := by
    refine ⟨?_, fun k hk => ⟨(hg k hk).1, ?_⟩, fun k hk => ⟨(hg k hk).1, ?_⟩, ?_⟩
    · rw [kx3.I (by omega)]; exact hH.2.2.2.1.trans eP
    · rw [kx3.L (by omega)]; exact (hg k hk).2.1
    · rw [ky8.L (by decide)]; exact (hg k hk).2.2
    · rw [ky8.I (by decide), hS]; exact eP
  have hSM : SEM S u a' P g n b 200 m false 0 0 0 0 0 0 u3 v8 := ⟨hXQ, hY8, ⟨x0, x1⟩, ⟨by rw [f8 46 (by unfold nxF; omega)]; exact z46, by rw [f8 47 (by unfold nxF; omega)]; exact z47, by rw [f8 48 (by unfold nxF; omega)]; exact z48, by rw [f8 49 (by unfold nxF; omega)]; exact z49, by rw [f8 50 (by unfold nxF; omega)]; exact z50⟩, by omega, by omega, ⟨fun _ => 0, rfl, rfl, fun i hi => by omega⟩, hen⟩
  have hcon := (j_sim (n := n) (lim := 200) (m := m) (g := g) (b := b) h7 hu hP eP 40).2.2 0 (by omega) (by omega) 0 0 0 0 0 u3 v8 hSM (by omega) (fun z => by omega)
  have f8y : Kp (fun q => q = 166 ∨ q = 168 ∨ q = 170 ∨ q = 186) wy v8 := ky8.mono (fun q y => Or.inl y)
  show t2 (cl (cl (sr_S 40 0 u 1 a' (nI 0) u3) _) _) (itM bdS FU 1 v8) _
  refine t2c_cl (t2_1 hcon (fun r u4 hpo => ?_))
  obtain ⟨sx, hpo⟩ := hpo
  have kx4 : Kp (fun q => (1 ≤ q ∧ q ≤ 5) ∨ (u ≤ q ∧ q ≤ u + 3)) wx u4 := kx3.trans (sx.mono (fun q y => by omega))
  have sm_sy : ∀ {z z' : Wd}, SY z z' → Fm smF z z' := fun h j hj => h.2 j (fun q => hj (Or.inr (Or.inr q)))
  have ky_sy : ∀ {z z' : Wd}, SY z z' → Kp (fun q => q = 166 ∨ q = 168 ∨ q = 170 ∨ q = 186) z z' := fun h => h.1.mono (fun q y => by omega)
  -- refused
  have bad : ∀ (u5 v5 : Wd), Kp (fun q => (1 ≤ q ∧ q ≤ 5) ∨ (u ≤ q ∧ q ≤ u + 3)) wx u5 → FL u5 v5 → SY v8 v5 → itM bdS FU 1 v8 = some ((-1) - wI v5 166 16, v5) → t2 (stI u5 (0 + 1) 1 0 (fun w5 => if false = true then (der (wR w5 0 4) (fun a7 => der (wR w5 0 5) (fun a8 => stR w5 0 4 (some a8) (fun w9 => stR w9 0 5 (some a7) (fun w10 => der (wR w10 0 4) (fun a11 => some (wI w10 a11 0, w10))))))) else (some ((-1) - (wI w5 (0 + 1) 3), w5)))) (itM bdS FU 1 v8) (fun r1 w1 r2 w2 => r1 = r2 ∧ XT 0 b w1 ∧ MT 0 b w2 ∧ wI w1 1 2 = wI w2 166 15 ∧ Kp (fun q => q = 166 ∨ q = 168 ∨ q = 170 ∨ q = 186) wy w2 ∧ Fm smF wy w2 ∧ ∃ S', (∀ j, j < 10084 → S' j = S j) ∧ wI w2 168 = S' ∧ XG S' w1 ∧ XN S' f w1 ∧ ∃ v, Kp s1P wx v ∧ (w1 = v ∨ ∃ c d, w1 = sR (sR v 0 4 (some c)) 0 5 (some d))) := by
    intro u5 v5 kx5 fl sy5 er
    refine t2_g1 (fun u6 g6 k6 => t2_ifn1 (by decide) ?_)
    rw [er]
    have kx6 : Kp (fun q => (1 ≤ q ∧ q ≤ 5) ∨ (u ≤ q ∧ q ≤ u + 3)) wx u6 := kx5.trans (k6.mono (fun q y => by omega))
    have e12 : ∀ j, ¬ j = 1 → wI u6 1 j = wI u5 1 j := fun j hj => by rw [show wI u6 1 = wI u6 (0 + 1) from rfl, g6, up_o hj]
    have sy := ky_sy sy5
    refine t2_end ⟨?_, ⟨by omega, by rw [show wI u6 1 = wI u6 (0 + 1) from rfl, g6, up_s]; rfl, fun j hj => by omega⟩, ⟨?_, fun j hj => by omega⟩, ?_, f8y.trans sy, fun j hj => by rw [sm_sy sy5 j hj, fm8 j hj], S, fun _ _ => rfl, ?_, ⟨hF, hWR, hR.kp kx6 hdr, a', by rw [kx6.R]; exact ea, h7, hH.kp kx6 hda⟩, ⟨a', o, s, u, by rw [kx6.R]; exact ea, by rw [kx6.R]; exact e3, by rw [kx6.R]; exact e4, by rw [kx6.R]; exact e5, hao, hsu, hNm.kp kx6 hdn, hSR.kp kx6 hds⟩, u6, kx6.mono hd1, Or.inl rfl⟩
    · rw [show wI u6 (0 + 1) 3 = wI u5 1 3 from e12 3 (by decide), fl.2]
    · rw [sy5.2 2 (by unfold syF nxF; omega), f8 2 (by unfold nxF; omega), fm 2 (by decide)]; exact y2
    · rw [e12 2 (by decide)]; exact fl.1
    · rw [sy5.1.I (by decide), ky8.I (by decide)]; exact hS
  rcases hpo with ⟨er, k, v, hk, hrun, hfl, hsy⟩ | ⟨er, k, v, c, on, i, hk, hrun, hSE, hon, hc, hsy, -, hext⟩
  · rw [er]
    refine t2c_ifn (by decide) (t2c_some ?_)
    have hm9 : m ≤ 940 := hXs.2.1
    obtain ⟨N, hN⟩ := FU_split (k := k) (by omega)
    exact bad u4 v kx4 hfl hsy (by rw [hN, Nat.add_comm]; exact hrun N)
  · rw [er]
    refine t2c_if rfl (t2c_cl ?_)
    have hSE0 := hSE
    obtain ⟨hX5, hY5, hx5, ⟨w46, w47, w48, w49, w50⟩, h20, hd5, hst5, hen5⟩ := hSE
    have hm9 : m ≤ 940 := hXs.2.1
    have him := hX5.1.2.1
    obtain ⟨N, hN⟩ := FU_split (k := k + 2) (by omega)
    have e0 : itM bdS FU 1 v8 = itM bdS ((N + 1) + 1) 1 v := by rw [hN, show k + 2 + N = (N + 1 + 1) + k by omega, hrun]
    have hn5 := notsI w48 (by omega) (fun z => absurd z (by omega))
    have hj5 := joinsI (p := 12) w48 (by omega) (fun z => absurd z (by omega)) (fun z => absurd z (by omega))
    have hno : ¬ (wdB (tkA n b m i) 11 = true ∨ wdB (tkA n b m i) 10 = true) := by rw [hext.1, hext.2]; decide
    by_cases hend : i = m ∧ ¬ 200 < n
    · refine t2_e1 ((x_ends hX5.1).trans (if_pos hend)) (t2c_if rfl (t2c_some ?_))
      have y11 : wI v 166 11 = 0 := (y_atEnd hY5.1).mpr hend
      have e1 : bdS 1 v = some (.inl 0, v) := by
        rw [bd_wh0 w50 y11, cl_e hn5, cl_e hj5, if_neg (by rw [w48]; decide)]
      obtain ⟨ro, v9, e9, ero, hrow, k9⟩ := y_copy (c := c) (on := on) w46 w47 (by omega)
      have e2 : itM bdS FU 1 v8 = some (nI on, v9) := by
        rw [e0, itM, e1]
        show itM bdS (N + 1) 0 v = _
        rw [itM, e9, ero]
      rw [e2]
      refine t2_g1 (fun u6 g6 k6 => t2_if1 rfl ?_)
      have kx6 : Kp (fun q => (1 ≤ q ∧ q ≤ 5) ∨ (u ≤ q ∧ q ≤ u + 3)) wx u6 := kx4.trans (k6.mono (fun q y => by omega))
      rw [der_e (by rw [kx6.R]; exact e4), der_e (by rw [kx6.R]; exact e5)]
      refine t2_R1 (t2_R1 ?_)
      obtain ⟨u7, eu7⟩ : ∃ u7, u7 = sR (sR u6 0 4 (some u)) 0 5 (some s) := ⟨_, rfl⟩
      rw [← eu7]
      have i7 : wI u7 = wI u6 := by rw [eu7]; rfl
      have l7 : wL u7 = wL u6 := by rw [eu7]; rfl
      have r4 : wR u7 0 4 = some u := by rw [eu7, wR_sR, if_neg (by omega), wR_sR, if_pos ⟨rfl, rfl⟩]
      have r5 : wR u7 0 5 = some s := by rw [eu7, wR_sR, if_pos ⟨rfl, rfl⟩]
      have ro : ∀ j, ¬ j = 4 → ¬ j = 5 → wR u7 0 j = wR wx 0 j := fun j h4 h5 => by rw [eu7, wR_sR, if_neg (by omega), wR_sR, if_neg (by omega), kx6.R]
      rw [der_e r4]
      have e12 : ∀ j, ¬ j = 1 → wI u6 1 j = wI u4 1 j := fun j hj => by rw [show wI u6 1 = wI u6 (0 + 1) from rfl, g6, up_o hj]
      have eS : ∀ j, j < 10084 → wI v9 168 j = S j := fun j hj => by
        rw [hrow j, if_neg (by omega), if_neg (by omega), hsy.1.I (by decide), ky8.I (by decide), hS]
      have hRR : RR S u7 35 := by
        have := hR.kp kx6 hdr
        unfold RR at this ⊢
        rw [i7]; exact this
      have hHH : HR S u7 a' := by
        have := hH.kp kx6 hda
        unfold HR at this ⊢
        rw [i7]; exact this
      have hNN : NM S u7 a' f := by
        have := hNm.kp kx6 hdn
        unfold NM at this ⊢
        rw [l7]; exact this
      have sy := ky_sy hsy
      refine t2_end ⟨?_, ⟨by omega, by rw [i7, show wI u6 1 = wI u6 (0 + 1) from rfl, g6, up_s]; rfl, fun j hj => by omega⟩, ⟨?_, fun j hj => by omega⟩, ?_, (f8y.trans sy).trans (k9.mono (fun q y => by omega)), fun j hj => by rw [k9.I (by decide), sm_sy hsy j hj, fm8 j hj], wI v9 168, eS, rfl, ⟨hF.cong (fun i hi => eS i (by omega)), hWR.cong (fun j hj _ => eS j hj), hRR.cong (fun j hj => eS j hj), a', by rw [ro 2 (by decide) (by decide)]; exact ea, h7, hHH.cong hF (fun i hi => eS i (by omega))⟩, ⟨a', o, u, s, by rw [ro 2 (by decide) (by decide)]; exact ea, by rw [ro 3 (by decide) (by decide)]; exact e3, r4, r5, hao, by omega, hNN.cong (eS 2 (by decide)) (eS 3 (by decide)), ?_⟩, u6, kx6.mono hd1, Or.inr ⟨u, s, eu7⟩⟩
      · rw [i7, k6.I (by omega)]; exact hx5.1
      · rw [k9.I (by decide), hsy.2 2 (by unfold syF nxF; omega), f8 2 (by unfold nxF; omega), fm 2 (by decide)]; exact y2
      · rw [i7, e12 2 (by decide), k9.I (by decide), hX5.2, hY5.2.2.2]
      · obtain ⟨D, D0, Dc, hD⟩ := hst5
        have hc0 : 0 < c := by
          rcases Nat.eq_zero_or_pos c with q | q
          · subst q; omega
          · exact q
        refine ⟨c, D, by omega, ?_, ?_, ?_, D0, fun _ => Dc, fun i hi => ?_⟩
        · rw [hrow, if_pos rfl]
        · rw [i7, k6.I (by omega)]; exact hx5.2
        · rw [i7, k6.I (by omega), hx5.1]
          exact ⟨fun z => absurd z (n_ne (b := 0) (by omega) (by omega) (by decide)), fun z => by omega⟩
        · rw [i7, k6.I (by omega), k6.I (by omega), k6.I (by omega), hrow (10085 + 3 * i), if_neg (by omega), if_pos (by omega), hrow (10086 + 3 * i), if_neg (by omega), if_pos (by omega), hrow (10087 + 3 * i), if_neg (by omega), if_pos (by omega), show 10085 + 3 * i - 10085 = 3 * i by omega, show 10086 + 3 * i - 10085 = 3 * i + 1 by omega, show 10087 + 3 * i - 10085 = 3 * i + 2 by omega]
          exact (hD i hi).cong (eS 3 (by decide))
    · refine t2_e1 ((x_ends hX5.1).trans (if_neg hend)) (t2c_ifn (by decide) (t2c_some ?_))
      have y11 : ¬ wI v 166 11 = 0 := fun z => hend ((y_atEnd hY5.1).mp z)
      have hbad : bdS 1 v = some (.inr ((-1) - wI (yBad 1 (atB n b 200 m i) v) 166 16), yBad 1 (atB n b 200 m i) v) := by
        have e41 := y_signHere hY5.1 (c := 41) (by decide)
        rw [bd_wh1 w50 y11, y_276 hY5 hT hn5, if_neg hno, cl_e hj5, cl_e (show sh_205 166 41 v = some (sgOk (tkA n b m i) 41, v) from e41)]
        cases sgOk (tkA n b m i) 41 with
        | true =>
          rw [if_pos rfl, if_pos (by rw [w48]; rfl), cl_e (y_bad hY5.1 1)]
          rfl
        | false =>
          rw [if_neg (by decide), cl_e (y_bad hY5.1 1)]
          rfl
      refine bad (xBad 1 (atB n b 200 m i) u4) (yBad 1 (atB n b 200 m i) v) (kx4.trans ((kp0 (P := fun q => (1 ≤ q ∧ q ≤ 5) ∨ (u ≤ q ∧ q ≤ u + 3)) (Or.inl ⟨by decide, by decide⟩)).sI (Or.inl ⟨by decide, by decide⟩) _ _)) (FL_bad 1 _) (hsy.bad 1 _) ?_
      rw [e0, itM, hbad]
end SH
