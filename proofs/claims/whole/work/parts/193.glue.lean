/-! the codes' checks, put together -/
theorem za {f : Mth → Bool} {l : List Mth} (h : l.all f = true) : ∀ M ∈ l, f M = true := List.all_eq_true.mp h
theorem zone {Pr : Mth → Prop} {M : Mth} (h : Pr M) : ∀ N ∈ [M], Pr N := fun N hN => by
  rw [List.mem_singleton] at hN
  rw [hN]
  exact h
theorem zcuts {f : Nat × Nat × Op4 → Bool} (l : List (Nat × Nat × Op4)) (a k : Nat) (h1 : ((l.drop a).take k).all f = true) (h2 : (l.drop (a + k)).all f = true) : (l.drop a).all f = true := by
  have e : l.drop a = (l.drop a).take k ++ l.drop (a + k) := by
    rw [← List.drop_drop, List.take_append_drop]
  rw [e, List.all_append, h1, h2]
  rfl
theorem zchk_0 : zchk M0 = true := by
  show (mCode M0).all (zdec 0 12) = true
  have h : ((mCode M0).drop 0).all (zdec 0 12) = true :=
    zcuts _ 0 152 zchk_b0_0 (zcuts _ 152 86 zchk_b0_152 (zcuts _ 238 69 zchk_b0_238 (zcuts _ 307 59 zchk_b0_307 (zcuts _ 366 53 zchk_b0_366 (zcuts _ 419 48 zchk_b0_419 (zcuts _ 467 44 zchk_b0_467 (zcuts _ 511 42 zchk_b0_511 (zcuts _ 553 39 zchk_b0_553 (zcuts _ 592 37 zchk_b0_592 (zcuts _ 629 35 zchk_b0_629 (zcuts _ 664 34 zchk_b0_664 (zcuts _ 698 32 zchk_b0_698 (zcuts _ 730 31 zchk_b0_730 (zcuts _ 761 16 zchk_b0_761 (by decide +kernel)))))))))))))))
  rw [List.drop_zero] at h
  exact h
theorem zchk_188 : zchk M188 = true := by
  show (mCode M188).all (zdec 188 10) = true
  have h : ((mCode M188).drop 0).all (zdec 188 10) = true := zcuts _ 0 188 zchk_b188_0 (zcuts _ 188 19 zchk_b188_188 (by decide +kernel))
  rw [List.drop_zero] at h
  exact h
theorem zchk_195 : zchk M195 = true := by
  show (mCode M195).all (zdec 195 10) = true
  have h : ((mCode M195).drop 0).all (zdec 195 10) = true := zcuts _ 0 204 zchk_b195_0 (zcuts _ 204 80 zchk_b195_204 (by decide +kernel))
  rw [List.drop_zero] at h
  exact h
theorem zchk_253 : zchk M253 = true := by
  show (mCode M253).all (zdec 253 10) = true
  have h : ((mCode M253).drop 0).all (zdec 253 10) = true := zcuts _ 0 210 zchk_b253_0 (zcuts _ 210 15 zchk_b253_210 (by decide +kernel))
  rw [List.drop_zero] at h
  exact h
theorem zcut2 {Pr : Mth → Prop} (l : List Mth) (a k : Nat) (h1 : ∀ M ∈ (l.drop a).take k, Pr M) (h2 : ∀ M ∈ l.drop (a + k), Pr M) : ∀ M ∈ l.drop a, Pr M := by
  refine zcut (l.drop a) k h1 ?_
  rw [List.drop_drop]
  exact h2
theorem zd188 : (zMs.drop 188).take 1 = [M188] := rfl
theorem zd195 : (zMs.drop 195).take 1 = [M195] := rfl
theorem zd253 : (zMs.drop 253).take 1 = [M253] := rfl
theorem zchk_all : ∀ M ∈ zMs.drop 1, zchk M = true :=
  zcut2 zMs 1 11 (za zchk_r1) (zcut2 zMs 12 29 (za zchk_r12) (zcut2 zMs 41 21 (za zchk_r41) (zcut2 zMs 62 29 (za zchk_r62) (zcut2 zMs 91 19 (za zchk_r91) (zcut2 zMs 110 13 (za zchk_r110) (zcut2 zMs 123 20 (za zchk_r123) (zcut2 zMs 143 18 (za zchk_r143) (zcut2 zMs 161 11 (za zchk_r161) (zcut2 zMs 172 16 (za zchk_r172)
  (zcut2 zMs 188 1 (by rw [zd188]; exact zone zchk_188) (zcut2 zMs 189 3 (za zchk_r189) (zcut2 zMs 192 3 (za zchk_r192) (zcut2 zMs 195 1 (by rw [zd195]; exact zone zchk_195) (zcut2 zMs 196 12 (za zchk_r196) (zcut2 zMs 208 18 (za zchk_r208) (zcut2 zMs 226 16 (za zchk_r226) (zcut2 zMs 242 8 (za zchk_r242) (zcut2 zMs 250 3 (za zchk_r250)
  (zcut2 zMs 253 1 (by rw [zd253]; exact zone zchk_253) (zcut2 zMs 254 3 (za zchk_r254) (zcut2 zMs 257 7 (za zchk_r257) (zcut2 zMs 264 13 (za zchk_r264) (zcut2 zMs 277 4 (za zchk_r277) (zcut2 zMs 281 5 (za zchk_r281) (fun M hM => by
    have e : zMs.drop 286 = [] := rfl
    rw [show 281 + 5 = 286 from rfl, e] at hM
    cases hM)))))))))))))))))))))))))
theorem zloc_all : ∀ M ∈ zMs, zloc M = true := List.all_eq_true.mp (show zMs.all zloc = true by decide +kernel)
theorem hflag_all : ∀ M ∈ zMs.drop 1, zchk M = true ∧ zloc M = true := fun M hM => ⟨zchk_all M hM, zloc_all M (List.mem_of_mem_drop hM)⟩
theorem hM0_all : zchk M0 = true ∧ zloc M0 = true := ⟨zchk_0, zloc_all M0 (by rw [show zMs = M0 :: zMs.drop 1 from rfl]; exact List.mem_cons_self)⟩
/-- from the entry, for every script of at most 3072 ints, the law comes to its end with true -/
theorem whole_start {p : Program} {e : Env} {s : State} {m : MethodId} {below : List Frame} {meth : Method} {c : Code} (l : Launch) (hflags : l.flags = flags0) {b L : Nat} {xs : Nat → Int32} (hL : L ≤ 3072) (C0 : lw_At p s m meth c b L xs) : W p l e room_1 s m #[Value.ref b] below meth c s.heap [] 0 0 (lw_Z below #[Value.ref b] s) (entryFrame m ([Value.ref b] : List Value).toArray 7) :=
  whole_of hflag_all hM0_all l hflags hL C0
