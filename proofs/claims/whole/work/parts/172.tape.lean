/-! both systems in one world: the tape, the images, what is read -/
section CT
variable {w0 w w1 w2 : Wd} {P Q : Nat → Prop} {S T : Nat → Int32}
theorem c_feed (p q r s t : Int32) : SC w0 (fun w => sh_11 0 p q r s t w) (fun w => sh_185 166 p q r s t w) := by
  intro w h
  have h0 := h
  obtain ⟨a1, a2, a3, a5, ⟨n, b, x, y⟩, a7, a8, a9, a10⟩ := h
  by_cases hn : n + 20 ≤ 940
  · obtain ⟨v1, w1, e1, hv1, g1, K1, F1⟩ := x_feed x hn p q r s t
    obtain ⟨v2, w2, e2, hv2, y1, K2, F2⟩ := y_feed (w := w1) (mt_of y (by rw [K1.I (by omega)]) (K1.I (by omega))) hn p q r s t
    have K := K1.both K2
    have F' : ∀ j, ¬ (j = 0 ∨ j = 2) → wI w2 166 j = wI w 166 j := fun j hj => by rw [F2 j hj, K1.I (by omega)]
    have n : ∀ q, ¬ (q = 1 ∨ q = 2 ∨ q = 166 ∨ q = 167) → ¬ ((q = 1 ∨ q = 2) ∨ (q = 166 ∨ q = 167)) := fun q h => by omega
    refine ⟨v1, w1, w2, e1, K1.fr (fun q hq => by omega), by rw [hv1, ← hv2]; exact e2, a1.k K (n _ (by omega)) (n _ (by omega)), a2.k2 K (n _ (by omega)), a3.k K (fun q x y => n _ (by omega)) (n _ (by omega)) (n _ (by omega)) (fun q x => n _ (by unfold undP at x; omega)) (n _ (by omega)) (F' 23 (by omega)), a5.k K (fun q x => n _ (by omega)) (fun q x y => n _ (by omega)), ⟨_, _, xt_of g1 (by rw [K2.I (by omega)]) (K2.I (by omega)), y1⟩, a7.k K (n _ (by omega)) (n _ (by omega)) (F' 35 (by omega)), a8.k K (n _ (by omega)) (n _ (by omega)) (n _ (by omega)) (F' 42 (by omega)), a9.k ?_ (F' 15 (by omega)), a10.k (K.I (n _ (by omega))) (K.I (n _ (by omega))) (K.I (n _ (by omega))) (K.I (n _ (by omega))) (K.I (n _ (by omega))) (F' 28 (by omega)) (F' 29 (by omega))⟩
    rw [K2.I (by omega), F1 2 (by omega)]
  · exact sc_no h0 (x_feed_no x hn p q r s t) (y_feed_no y x.1 hn p q r s t)
theorem c_end (p : Int32) : SC w0 (fun w => sh_14 0 p w) (fun w => sh_187 166 p w) := by
  intro w h
  have h0 := h
  obtain ⟨a1, a2, a3, a5, ⟨n, b, x, y⟩, a7, a8, a9, a10⟩ := h
  by_cases hn : endOk n p
  · obtain ⟨m, rfl, hm⟩ := endOk_t x.1 hn
    obtain ⟨e1, g1⟩ := x_end x hm
    generalize hw1 : sI w 1 1 (nI m) = w1 at e1 g1
    have K1 : Kp (fun q => q = 1) w w1 := by rw [← hw1]; exact kp0 rfl
    have F1 : wI w1 1 2 = wI w 1 2 := by rw [← hw1]; exact wI_other (by decide)
    obtain ⟨e2, y1⟩ := y_end (w := w1) (mt_of y (by rw [K1.I (by omega)]) (K1.I (by omega))) x.1 hm
    generalize hw2 : sI (sI w1 166 0 0) 166 2 (nI m) = w2 at e2 y1
    have K2 : Kp (fun q => q = 166) w1 w2 := by rw [← hw2]; exact (kp0 (P := fun q => q = 166) rfl).trans (kp0 rfl)
    have F' : ∀ j, ¬ (j = 0 ∨ j = 2) → wI w2 166 j = wI w 166 j := fun j hj => by
      rw [← K1.I (show ¬ 166 = 1 by omega), ← hw2, wI_other (by omega), wI_other (by omega)]
    have K := K1.both K2
    have n : ∀ q, ¬ (q = 1 ∨ q = 166) → ¬ ((q = 1) ∨ (q = 166)) := fun q h => h
    refine ⟨true, w1, w2, e1, K1.fr (fun q hq => by omega), e2, a1.k K (n _ (by omega)) (n _ (by omega)), a2.k2 K (n _ (by omega)), a3.k K (fun q x y => n _ (by omega)) (n _ (by omega)) (n _ (by omega)) (fun q x => n _ (by unfold undP at x; omega)) (n _ (by omega)) (F' 23 (by omega)), a5.k K (fun q x => n _ (by omega)) (fun q x y => n _ (by omega)), ⟨_, _, xt_of g1 (by rw [K2.I (by omega)]) (K2.I (by omega)), y1⟩, a7.k K (n _ (by omega)) (n _ (by omega)) (F' 35 (by omega)), a8.k K (n _ (by omega)) (n _ (by omega)) (n _ (by omega)) (F' 42 (by omega)), a9.k ?_ (F' 15 (by omega)), a10.k (K.I (n _ (by omega))) (K.I (n _ (by omega))) (K.I (n _ (by omega))) (K.I (n _ (by omega))) (K.I (n _ (by omega))) (F' 28 (by omega)) (F' 29 (by omega))⟩
    rw [K2.I (by omega), F1]
  · exact sc_no h0 (x_end_no x hn) (y_end_no y hn)
theorem ds_img {fl : Nat → Bool} {Z : Nat → Nat → Int32} {k : Nat} (h : ∀ k, k < 2 → fl k = true → DS (Z k)) (hD : DS S) : ∀ i, i < 2 → imgF fl k true i = true → DS (imgF Z k S i) := by
  intro i hi q
  by_cases e : i = k
  · subst e; rw [imgF_s]; exact hD
  · rw [imgF_o _ _ e]; rw [imgF_o _ _ e] at q; exact h i hi q
theorem c_image (p : Int32) : SC w0 (fun w => sh_175 0 p w) (fun w => sh_283 166 p w) := by
  intro w h
  have h0 := h
  obtain ⟨a1, a2, a3, ⟨fl, Z, g, x, y, z⟩, a6, a7, a8, a9, a10⟩ := h
  have a3' := a3
  obtain ⟨S, f, us, m, b1, b2, b3, b4, b5, b6, b7, b8⟩ := a3'
  by_cases hn : ∃ k, k < 2 ∧ p = nI k
  · obtain ⟨k, hk, rfl⟩ := hn
    obtain ⟨v1, w1, e1, hv1, g1, K1⟩ := x_image b1 b2 x hk
    have nx : ∀ q, 166 ≤ q → ¬ imgP q := fun q h => by unfold imgP; omega
    obtain ⟨v2, w2, e2, hv2, y1, K2, F2⟩ := y_image (w := w1) ((K1.I (nx _ (by omega))).trans b3) (b4.kp K1 (nx _ (by omega))) (y.kp K1 (fun q a b => nx _ (by omega))) hk
    have K := K1.both K2
    have F' : ∀ j, ¬ j = 0 → wI w2 166 j = wI w 166 j := fun j hj => by rw [F2 j hj, K1.I (nx _ (by omega))]
    have n : ∀ q, ¬ (q = 47 ∨ 122 ≤ q ∧ q ≤ 165 ∨ q = 166 ∨ 188 ≤ q ∧ q ≤ 190) → ¬ (imgP q ∨ (q = 166 ∨ 188 ≤ q ∧ q ≤ 190)) := fun q h => by unfold imgP; omega
    exact ⟨v1, w1, w2, e1, K1.fr nx, by rw [hv1, ← hv2]; exact e2, a1.k K (n _ (by omega)) (n _ (by omega)), a2.k2 K (n _ (by omega)), a3.k K (fun q x y => n _ (by omega)) (n _ (by omega)) (n _ (by omega)) (fun q x => n _ (by unfold undP at x; omega)) (n _ (by omega)) (F' 23 (by omega)), ⟨_, _, _, g1.kp K2 (fun q a => by omega), y1, ds_img z b5⟩, a6.k K (by rw [K.I (n 1 (by omega))]) (n _ (by omega)) (F' 2 (by omega)) (n _ (by omega)), a7.k K (n _ (by omega)) (n _ (by omega)) (F' 35 (by omega)), a8.k K (n _ (by omega)) (n _ (by omega)) (n _ (by omega)) (F' 42 (by omega)), a9.k (by rw [K.I (n 1 (by omega))]) (F' 15 (by omega)), a10.k (K.I (n _ (by omega))) (K.I (n _ (by omega))) (K.I (n _ (by omega))) (K.I (n _ (by omega))) (K.I (n _ (by omega))) (F' 28 (by omega)) (F' 29 (by omega))⟩
  · exact sc_no h0 (x_image_no hn) (y_image_no hn)
theorem c_restore (p : Int32) : SC w0 (fun w => sh_178 0 p w) (fun w => sh_284 166 p w) := by
  intro w h
  have h0 := h
  obtain ⟨a1, a2, a3, ⟨fl, Z, g, x, y, z⟩, a6, a7, a8, a9, a10⟩ := h
  obtain ⟨S, f, us, m, b1, b2, b3, b4, b5, b6, b7, b8⟩ := a3
  by_cases hn : ∃ k, k < 2 ∧ p = nI k ∧ fl k = true
  · obtain ⟨k, hk, rfl, hfl⟩ := hn
    obtain ⟨v1, w1, e1, hv1, g1, g2, g3, g4, K1⟩ := x_restore b1 b2 b6 x hk hfl
    have nx : ∀ q, 166 ≤ q → ¬ rstP q := fun q h => by unfold rstP; omega
    obtain ⟨v2, w2, e2, hv2, y1, y2, y3, K2, F2⟩ := y_restore (w := w1) (us := us) ((K1.I (nx _ (by omega))).trans b3) (y.kp K1 (fun q a b => nx _ (by omega))) hk hfl
    have K := K1.both K2
    have F' : ∀ j, ¬ (j = 0 ∨ j = 23) → wI w2 166 j = wI w 166 j := fun j hj => by rw [F2 j hj, K1.I (nx _ (by omega))]
    have n : ∀ q, ¬ (q = 0 ∨ 7 ≤ q ∧ q ≤ 42 ∨ q = 166 ∨ q = 168 ∨ q = 171) → ¬ (rstP q ∨ (q = 166 ∨ q = 168 ∨ q = 171)) := fun q h => by unfold rstP; omega
    refine ⟨v1, w1, w2, e1, K1.fr nx, by rw [hv1, ← hv2]; exact e2, a1.k K (n _ (by omega)) (n _ (by omega)), a2.k2 K (n _ (by omega)), ⟨_, _, us, 0, g1.kp K2 (fun q a b => by omega), g2.kp K2 (fun q a b => by omega), y1, y2, ?_, g3.kp K2 (fun q a => by unfold undP at a; omega), y3, fun m hm => by omega⟩, ⟨fl, Z, g, g4.kp K2 (fun q a => by omega), (y.kp K1 (fun q a b => nx _ (by omega))).kp K2 (fun q a b => by omega), z⟩, a6.k K (by rw [K.I (n 1 (by omega))]) (n _ (by omega)) (F' 2 (by omega)) (n _ (by omega)), a7.k K (n _ (by omega)) (n _ (by omega)) (F' 35 (by omega)), a8.k K (n _ (by omega)) (n _ (by omega)) (n _ (by omega)) (F' 42 (by omega)), a9.k (by rw [K.I (n 1 (by omega))]) (F' 15 (by omega)), a10.k (K.I (n _ (by omega))) (K.I (n _ (by omega))) (K.I (n _ (by omega))) (K.I (n _ (by omega))) (K.I (n _ (by omega))) (F' 28 (by omega)) (F' 29 (by omega))⟩
    have hD := z k hk hfl
    have h8 : ix (Z k 5) ≤ 8 := by
      obtain ⟨a, e5, h8⟩ := ((x k hk).2 hfl).1.2.2.2.2.1
      rw [e5, ix_nI (by omega)]
      exact h8
    intro i j hi hj e
    rw [rst_lo (by omega)] at hi hj
    rw [rst_lo (by omega), rst_lo (by omega)] at e
    exact hD i j hi hj e
  · exact sc_no h0 (x_restore_no x hn) (y_restore_no y hn)
theorem c_seen (p q : Int32) : SC w0 (fun w => sh_138 0 p q w) (fun w => sh_256 166 p q w) := by
  intro w h
  have h0 := h
  obtain ⟨a1, a2, a3, a5, a6, a7, ⟨l, x, y⟩, a9, a10⟩ := h
  have a3' := a3
  obtain ⟨S, f, us, m, b1, b2, b3, b4, b5, b6, b7, b8⟩ := a3'
  by_cases hn : isK S 5 p = true ∧ isK S 5 q = true
  · obtain ⟨k, rfl, -, hk⟩ := isK_t hn.1
    obtain ⟨l, rfl, -, hl⟩ := isK_t hn.2
    obtain ⟨v1, w1, e1, h1⟩ := x_seen b1 b5 hk hl
    rcases h1 with ⟨ho, hv1, g1, K1⟩ | ⟨ho, hv1, rfl⟩
    · obtain ⟨v2, w2, e2, h2⟩ := y_seen (w := w1) b1.1 ((K1.I (by omega)).trans b3) b5 hk hl
      rcases h2 with ⟨-, hv2, y1, K2, F2⟩ | ⟨ho2, -⟩
      · have K := K1.both K2
        have F' : ∀ j, ¬ (j = 43 ∨ j = 42 ∨ j = 0) → wI w2 166 j = wI w 166 j := fun j hj => by rw [F2 j hj, K1.I (by omega)]
        have n : ∀ q, ¬ (67 ≤ q ∧ q ≤ 73 ∨ q = 166 ∨ 180 ≤ q ∧ q ≤ 185) → ¬ ((67 ≤ q ∧ q ≤ 73) ∨ snP q) := fun q h => by unfold snP; omega
        have n2 : ∀ q, ¬ (q = 166 ∨ 180 ≤ q ∧ q ≤ 185) → ¬ snP q := fun q h => by unfold snP; omega
        exact ⟨v1, w1, w2, e1, K1.fr (fun q hq => by omega), by rw [hv1, ← hv2]; exact e2, a1.k K (n _ (by omega)) (n _ (by omega)), a2.k2 K (n _ (by omega)), a3.k K (fun q x y => n _ (by omega)) (n _ (by omega)) (n _ (by omega)) (fun q x => n _ (by unfold undP at x; omega)) (n _ (by omega)) (F' 23 (by omega)), a5.k K (fun q x => n _ (by omega)) (fun q x y => n _ (by omega)), a6.k K (by rw [K.I (n 1 (by omega))]) (n _ (by omega)) (F' 2 (by omega)) (n _ (by omega)), a7.k K (n _ (by omega)) (n _ (by omega)) (F' 35 (by omega)), ⟨_, xl_kp g1 K2 (n2 _ (by omega)) (n2 _ (by omega)), y1⟩, a9.k (by rw [K.I (n 1 (by omega))]) (F' 15 (by omega)), a10.k (K.I (n _ (by omega))) (K.I (n _ (by omega))) (K.I (n _ (by omega))) (K.I (n _ (by omega))) (K.I (n _ (by omega))) (F' 28 (by omega)) (F' 29 (by omega))⟩
      · exact absurd ho ho2
    · obtain ⟨v2, w2, e2, h2⟩ := y_seen b1.1 b3 b5 hk hl
      rcases h2 with ⟨ho2, -⟩ | ⟨-, hv2, hw2⟩
      · exact absurd ho2 ho
      · refine sc_no h0 e1 ?_
        rw [hv1, ← hv2, ← hw2]
        exact e2
  · exact sc_no h0 (x_seen_no b1 hn) (y_seen_no b1.1 b3 hn)
theorem j2 {α : Type} {m1 m2 : Wd → Option (α × Wd)} {Q : Wd → α → Wd → α → Wd → Prop} (h : ∀ wy, FR w wy → t2 (m1 w) (m2 wy) (Q wy)) (hf : ∀ wy r1 w1 r2 w2, Q wy r1 w1 r2 w2 → FR w w1) : ∃ r1 w1 r2 w2, m1 w = some (r1, w1) ∧ FR w w1 ∧ m2 w1 = some (r2, w2) ∧ Q w1 r1 w1 r2 w2 := by
  obtain ⟨r1, w1, e1, r2, w2, e2, q⟩ := h w (fun _ _ => ⟨rfl, rfl⟩)
  obtain ⟨r1', w1', e1', r2', w2', e2', q'⟩ := h w1 (hf _ _ _ _ _ q)
  have := Option.some.inj (e1'.symm.trans e1)
  have ea : r1' = r1 := congrArg Prod.fst this
  have eb : w1' = w1 := congrArg Prod.snd this
  subst ea eb
  exact ⟨r1', w1', r2', w2', e1, hf _ _ _ _ _ q, e2', q'⟩
theorem c_readings : SC w0 (fun w => sh_106 0 w) (fun w => sh_241 166 w) := by
  intro w h
  obtain ⟨a1, a2, a3, a5, a6, a7, a8, a9, a10⟩ := h
  have a3' := a3
  obtain ⟨S, f, us, m, b1, b2, b3, b4, b5, b6, b7, b8⟩ := a3'
  obtain ⟨nn, b, x, y⟩ := a6
  obtain ⟨r1, w1, r2, w2, e1, hf, e2, er, g1, g2, g3, K1, F1, K2, F2⟩ := j2 (w := w) (m1 := fun w => sh_106 0 w) (m2 := fun w => sh_241 166 w) (fun wy hy => j_106 b1 x ((hy 168 (by omega)).1.trans b3) (mt_of y (by rw [(hy 166 (by omega)).1]) (hy 167 (by omega)).1) (a10.k rfl rfl rfl (hy 176 (by omega)).1 (hy 177 (by omega)).1 (by rw [(hy 166 (by omega)).1]) (by rw [(hy 166 (by omega)).1])))
    (fun wy r1 w1 r2 w2 q => q.2.2.2.2.1.fr (fun q hq => by unfold rqP; omega))
  have K := K1.both K2
  have n : ∀ q, ¬ (q = 1 ∨ 48 ≤ q ∧ q ≤ 59 ∨ q = 166 ∨ 174 ≤ q ∧ q ≤ 177) → ¬ ((q = 1 ∨ rqP q) ∨ (rmK q ∨ q = 174)) := fun q h => by unfold rqP rmK; omega
  have n2 : ∀ q, ¬ (q = 166 ∨ 174 ≤ q ∧ q ≤ 177) → ¬ (rmK q ∨ q = 174) := fun q h => by unfold rmK; omega
  have F' : ∀ j, ¬ (j = 0 ∨ (2 ≤ j ∧ j ≤ 5) ∨ j = 28 ∨ j = 29) → wI w2 166 j = wI w 166 j := fun j hj => by rw [F2 j hj, (hf 166 (by omega)).1]
  refine ⟨r1, w1, w2, e1, hf, by rw [er]; exact e2, a1.k K (n _ (by omega)) (n _ (by omega)), a2.k2 K (n _ (by omega)), a3.k K (fun q x y => n _ (by omega)) (n _ (by omega)) (n _ (by omega)) (fun q x => n _ (by unfold undP at x; omega)) (n _ (by omega)) (F' 23 (by omega)), a5.k K (fun q x => n _ (by omega)) (fun q x y => n _ (by omega)), ⟨_, _, xt_of g1 (by rw [K2.I (n2 _ (by omega))]) (K2.I (n2 _ (by omega))), g2⟩, a7.k K (n _ (by omega)) (n _ (by omega)) (F' 35 (by omega)), a8.k K (n _ (by omega)) (n _ (by omega)) (n _ (by omega)) (F' 42 (by omega)), a9.k ?_ (F' 15 (by omega)), g3.k (K2.I (n2 _ (by omega))) (K2.I (n2 _ (by omega))) (K2.I (n2 _ (by omega))) rfl rfl rfl rfl⟩
  rw [K2.I (n2 1 (by omega)), F1 2 (by omega)]
theorem c_walk : SC w0 (fun w => sh_128 0 w) (fun w => sh_253 166 w) := by
  intro w h
  obtain ⟨a1, a2, a3, a5, a6, a7, a8, a9, a10⟩ := h
  have a3' := a3
  obtain ⟨S, f, us, m, b1, b2, b3, b4, b5, b6, b7, b8⟩ := a3'
  obtain ⟨nn, b, x, y⟩ := a6
  obtain ⟨jd, v, u1, u2⟩ := a7
  obtain ⟨r1, w1, r2, w2, e1, hf, e2, er, g1, g2, g3, K1, K2, F2, jd', v', u3, u4⟩ := j2 (w := w) (m1 := fun w => sh_128 0 w) (m2 := fun w => sh_253 166 w) (fun wy hy => j_128 b1 b2 x ((hy 168 (by omega)).1.trans b3) (fun i hi => by rw [(hy 171 (by omega)).2]; exact b4 i hi) (mt_of y (by rw [(hy 166 (by omega)).1]) (hy 167 (by omega)).1) (by unfold WRD; rw [(hy 172 (by omega)).2]; exact a2) u1 (wkm_kp u2 (by rw [(hy 166 (by omega)).1]) (hy 179 (by omega)).1))
    (fun wy r1 w1 r2 w2 q => q.2.2.2.2.1.fr (fun q hq => by omega))
  have K := K1.both K2
  have n : ∀ q, ¬ (1 ≤ q ∧ q ≤ 5 ∨ 60 ≤ q ∧ q ≤ 63 ∨ q = 166 ∨ q = 170 ∨ q = 179) → ¬ (((1 ≤ q ∧ q ≤ 5) ∨ (60 ≤ q ∧ q ≤ 63)) ∨ (q = 166 ∨ q = 170 ∨ q = 179)) := fun q h => by omega
  have F' : ∀ j, ¬ wkF j → wI w2 166 j = wI w 166 j := fun j hj => by rw [F2 j hj, (hf 166 (by omega)).1]
  refine ⟨r1, w1, w2, e1, hf, by rw [er]; exact e2, a1.k K (n _ (by omega)) (n _ (by omega)), a2.k2 K (n _ (by omega)), a3.k K (fun q x y => n _ (by omega)) (n _ (by omega)) (n _ (by omega)) (fun q x => n _ (by unfold undP at x; omega)) (n _ (by omega)) (F' 23 (by unfold wkF wyF nxF; omega)), a5.k K (fun q x => n _ (by omega)) (fun q x y => n _ (by omega)), ⟨_, _, xt_of g1 (by rw [K2.I (by omega)]) (K2.I (by omega)), g2⟩, ⟨jd', v', wkx_kp u3 (K2.I (by omega)), u4⟩, a8.k K (n _ (by omega)) (n _ (by omega)) (n _ (by omega)) (F' 42 (by unfold wkF wyF nxF; omega)), ?_, a10.k (K.I (n _ (by omega))) (K.I (n _ (by omega))) (K.I (n _ (by omega))) (K.I (n _ (by omega))) (K.I (n _ (by omega))) (F' 28 (by unfold wkF wyF nxF; omega)) (F' 29 (by unfold wkF wyF nxF; omega))⟩
  unfold GF
  rw [K2.I (show ¬ (1 = 166 ∨ 1 = 170 ∨ 1 = 179) by omega)]
  exact g3
/-- the references of before -/
def rR (w : Wd) (R : Nat → Nat → Option Nat) : Wd := (wn w, wx w, wI w, wL w, R)
theorem Kp.rr (h : Kp P w1 w2) (R : Nat → Nat → Option Nat) : Kp P (rR w1 R) (rR w2 R) := ⟨h.1, h.2.1, rfl, h.2.2.2.1, h.2.2.2.2⟩
theorem c_sentence : SC w0 (fun w => sh_158 0 w) (fun w => sh_272 166 w) := by
  intro w h
  obtain ⟨a1, a2, a3, a5, a6, a7, a8, a9, a10⟩ := h
  obtain ⟨S, f, us, m, b1, b2, b3, b4, b5, b6, b7, b8⟩ := a3
  obtain ⟨nn, b, x, y⟩ := a6
  have fr : ∀ {w1 : Wd}, (∃ v, Kp s1P w v ∧ (w1 = v ∨ ∃ c d, w1 = sR (sR v 0 4 (some c)) 0 5 (some d))) → Kp s1P w (rR w1 (wR w)) := by
    rintro w1 ⟨v, K, hv⟩
    rcases hv with rfl | ⟨c, d, rfl⟩
    · exact ⟨K.1, K.2.1, rfl, K.2.2.2.1, K.2.2.2.2⟩
    · exact ⟨K.1, K.2.1, rfl, K.2.2.2.1, K.2.2.2.2⟩
  obtain ⟨r1, w1, r2, w2, e1, hf, e2, er, g1, g2, g3, K2, F2, T, lo, hS, t1, t2, hv⟩ := j2 (w := w) (m1 := fun w => sh_158 0 w) (m2 := fun w => sh_272 166 w) (fun wy hy => j_158 b1 b2 x ((hy 168 (by omega)).1.trans b3) (fun i hi => by rw [(hy 171 (by omega)).2]; exact b4 i hi) (mt_of y (by rw [(hy 166 (by omega)).1]) (hy 167 (by omega)).1) (by unfold WRD; rw [(hy 172 (by omega)).2]; exact a2))
    (fun wy r1 w1 r2 w2 q => by
      obtain ⟨-, -, -, -, -, -, T, -, -, -, -, hv⟩ := q
      exact (fr hv).fr (fun q hq => by unfold s1P; omega))
  have K1 := fr hv
  have K := K1.both (K2.rr (wR w))
  have n : ∀ q, ¬ (1 ≤ q ∧ q ≤ 5 ∨ 27 ≤ q ∧ q ≤ 34 ∨ q = 166 ∨ q = 168 ∨ q = 170 ∨ q = 186) → ¬ (s1P q ∨ (q = 166 ∨ q = 168 ∨ q = 170 ∨ q = 186)) := fun q h => by unfold s1P; omega
  have F' : ∀ j, ¬ smF j → wI w2 166 j = wI w 166 j := fun j hj => by rw [F2 j hj, (hf 166 (by omega)).1]
  have eF : ∀ j, wI (rR w2 (wR w)) 166 j = wI w2 166 j := fun _ => rfl
  have c1 : GZ w0 (rR w2 (wR w)) := a1.k K (n _ (by omega)) (n _ (by omega))
  have c2 : WRD (rR w2 (wR w)) := a2.k2 K (n _ (by omega))
  have c5 : GK (rR w2 (wR w)) := a5.k K (fun q x => n _ (by omega)) (fun q x y => n _ (by omega))
  have c7 : GW (rR w2 (wR w)) := a7.k K (n _ (by omega)) (n _ (by omega)) (F' 35 (by unfold smF syF nxF; omega))
  have c8 : GL (rR w2 (wR w)) := a8.k K (n _ (by omega)) (n _ (by omega)) (n _ (by omega)) (F' 42 (by unfold smF syF nxF; omega))
  have c6 : XU us m (rR w2 (wR w)) := b6.kp K (fun q a => n _ (by unfold undP at a; omega))
  have c10 : RDR (rR w2 (wR w)) (rR w2 (wR w)) := a10.k (K.I (n _ (by omega))) (K.I (n _ (by omega))) (K.I (n _ (by omega))) (K.I (n _ (by omega))) (K.I (n _ (by omega))) (F' 28 (by unfold smF syF nxF; omega)) (F' 29 (by unfold smF syF nxF; omega))
  refine ⟨r1, w1, w2, e1, hf, by rw [er]; exact e2, c1, c2, ⟨T, f, us, m, t1.kp K2 (fun q a b => by omega), t2.kp K2 (fun q a b => by omega), hS, ?_, ?_, c6, ?_, ?_⟩, c5, ⟨_, _, xt_of g1 (by rw [K2.I (by omega)]) (K2.I (by omega)), g2⟩, c7, c8, ?_, c10⟩
  · intro i hi
    rw [K2.L (by omega), (hf 171 (by omega)).2]
    exact b4 i hi
  · have h8 : ix (S 5) ≤ 8 := by
      obtain ⟨a, e5, h8⟩ := b1.1.2.2.2.2.1
      rw [e5, ix_nI (by omega)]
      exact h8
    intro k l hk hl e
    rw [lo 5 (by omega)] at hk hl
    rw [lo _ (by omega), lo _ (by omega)] at e
    exact b5 k l hk hl e
  · exact b7.of (F' 23 (by unfold smF syF nxF; omega)) (by rw [K2.I (by omega), (hf 173 (by omega)).1])
  · intro i hi
    refine ⟨(b8 i hi).1, fun j hj => ?_⟩
    rw [(b8 i hi).2 j hj, lo j (by omega)]
  · unfold GF
    rw [K2.I (show ¬ (1 = 166 ∨ 1 = 168 ∨ 1 = 170 ∨ 1 = 186) by omega)]
    exact g3
theorem c_house : SC w0 (fun w => sh_15 0 w) (fun w => sh_189 166 w) := by
  intro w h
  obtain ⟨a1, a2, a3, a5, a6, a7, a8, a9, a10⟩ := h
  obtain ⟨S, f, us, m, b1, b2, b3, b4, b5, b6, b7, b8⟩ := a3
  obtain ⟨nn, b, x, y⟩ := a6
  have frA : ∀ {w1 : Wd}, Kp h1P w w1 → Kp (fun q => q ≤ 42 ∧ ¬ q = 6) w (rR w1 (wR w)) := fun K =>
    ⟨K.1, K.2.1, rfl, fun q hq => K.2.2.2.1 q (by unfold h1P; omega), fun q hq => K.2.2.2.2 q (by unfold h1P; omega)⟩
  have frB : ∀ {v w1 : Wd} {c d : Nat}, Kp h1P w v → Kp h2P (sR (sR v 0 2 (some c)) 0 3 (some d)) w1 → Kp (fun q => q ≤ 42 ∧ ¬ q = 6) w (rR w1 (wR w)) := fun K H =>
    ⟨H.1.trans K.1, H.2.1.trans K.2.1, rfl, fun q hq => (H.2.2.2.1 q (by unfold h2P; omega)).trans (K.2.2.2.1 q (by unfold h1P; omega)), fun q hq => (H.2.2.2.2 q (by unfold h2P; omega)).trans (K.2.2.2.2 q (by unfold h1P; omega))⟩
  obtain ⟨r1, w1, r2, w2, e1, hf, e2, er, g1, g2, g3, K2, F2, hv⟩ := j2 (w := w) (m1 := fun w => sh_15 0 w) (m2 := fun w => sh_189 166 w) (fun wy hy => j_15 b1 b2 x ((hy 168 (by omega)).1.trans b3) (fun i hi => by rw [(hy 171 (by omega)).2]; exact b4 i hi) (mt_of y (by rw [(hy 166 (by omega)).1]) (hy 167 (by omega)).1) (by unfold WRD; rw [(hy 172 (by omega)).2]; exact a2))
    (fun wy r1 w1 r2 w2 q => by
      obtain ⟨-, -, -, -, -, -, hv⟩ := q
      rcases hv with ⟨K, -⟩ | ⟨T, f', v, c, d, -, -, -, -, -, -, -, K, H, -⟩
      · exact (frA K).fr (fun q hq => by omega)
      · exact (frB K H).fr (fun q hq => by omega))
  have F' : ∀ j, ¬ hmF j → wI w2 166 j = wI w 166 j := fun j hj => by rw [F2 j hj, (hf 166 (by omega)).1]
  have rest : Kp (fun q => q ≤ 42 ∧ ¬ q = 6) w (rR w1 (wR w)) → GS w2 → SB w0 w2 := by
    intro K1 hG
    have K := K1.both (K2.rr (wR w))
    have n : ∀ q, ¬ (q ≤ 42 ∨ q = 166 ∨ q = 168 ∨ q = 169 ∨ q = 171) → ¬ ((q ≤ 42 ∧ ¬ q = 6) ∨ (q = 166 ∨ q = 168 ∨ q = 169 ∨ q = 171)) := fun q h => by omega
    have c1 : GZ w0 (rR w2 (wR w)) := a1.k K (n _ (by omega)) (n _ (by omega))
    have c2 : WRD (rR w2 (wR w)) := a2.k2 K (n _ (by omega))
    have c5 : GK (rR w2 (wR w)) := a5.k K (fun q x => n _ (by omega)) (fun q x y => n _ (by omega))
    have c7 : GW (rR w2 (wR w)) := a7.k K (n _ (by omega)) (n _ (by omega)) (F' 35 (by unfold hmF lyF nxF; omega))
    have c8 : GL (rR w2 (wR w)) := a8.k K (n _ (by omega)) (n _ (by omega)) (n _ (by omega)) (F' 42 (by unfold hmF lyF nxF; omega))
    have c10 : RDR (rR w2 (wR w)) (rR w2 (wR w)) := a10.k (K.I (n _ (by omega))) (K.I (n _ (by omega))) (K.I (n _ (by omega))) (K.I (n _ (by omega))) (K.I (n _ (by omega))) (F' 28 (by unfold hmF lyF nxF; omega)) (F' 29 (by unfold hmF lyF nxF; omega))
    refine ⟨c1, c2, hG, c5, ⟨_, _, xt_of g1 (by rw [K2.I (by omega)]) (K2.I (by omega)), g2⟩, c7, c8, ?_, c10⟩
    unfold GF
    rw [K2.I (show ¬ (1 = 166 ∨ 1 = 168 ∨ 1 = 169 ∨ 1 = 171) by omega)]
    exact g3
  refine ⟨r1, w1, w2, e1, hf, by rw [er]; exact e2, ?_⟩
  rcases hv with ⟨K, t1, t2, t3, t4, t5⟩ | ⟨T, f', v, c, d, t1, t2, t3, t4, t5, t6, t7, K, H, t8⟩
  · refine rest (frA K) ⟨S, f, us, m, t1.kp K2 (fun q a b => by omega), t2.kp K2 (fun q a b => by omega), t3, t4, b5, (b6.kp K (fun q a => by unfold undP at a; unfold h1P; omega)).kp K2 (fun q a => by unfold undP at a; omega), b7.of (t5.trans (by rw [(hf 166 (by omega)).1])) (by rw [K2.I (by omega), (hf 173 (by omega)).1]), b8⟩
  · refine rest (frB K H) ⟨T, f', us, 0, t1.kp K2 (fun q a b => by omega), t2.kp K2 (fun q a b => by omega), t3, t4, t5, ?_, ⟨t7, fun i hi => by omega⟩, fun i hi => by omega⟩
    obtain ⟨-, o, ho, e9, e8, -⟩ := b6
    refine ⟨by omega, o, ho, ?_, ?_, fun i hi => by omega⟩
    · rw [K2.I (by omega)]; exact t6
    · rw [K2.I (by omega), t8 8 (by omega)]; exact e8
end CT
