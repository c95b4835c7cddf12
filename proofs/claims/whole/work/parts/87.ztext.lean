/-! the text split, whole -/
section TEXT
variable {k n L q m i s e r : Nat} {b st E : Nat → Nat} {I I' : IM} {N : NM} {M M' : Mem}
theorem NXc.tok {R : Nat → Nat → Nat} (hz : ∀ b, kZ N ≤ b → kS N b = 0) (h : ∀ c, c ≠ 1004 → R c = N.1 c) : NXc N (R, N.2) :=
  ⟨fun _ _ => ⟨rfl, rfl⟩, fun b k _ h1 _ _ => congrFun (h b h1) k, Nat.le_refl _, hz⟩
theorem TkR.rng (h : TkR b s e r) : 1 ≤ r ∧ r ≤ 36 := by
  rcases h with ⟨-, rfl⟩ | ⟨-, i, hi, -, -, rfl⟩ | ⟨-, -, rfl⟩ <;> omega
theorem TkR.cong {st' : Nat → Nat} (h : TkR b s e r) : TkR b s e r := h
theorem c_split (hs : Shp N) (hB : TBy I b L) (eL : I 1001 1 = nI L) : E1 (F_Text_split 1003 (I, N)) (fun M => ∃ I' R n st E, M = (I', (R, N.2)) ∧ TKn b L n st E ∧ (I' 1003 5 = nI n ∧ I' 1003 6 = 0) ∧ (∀ k, k ≤ n → I' 1005 k = nI (st k)) ∧ (∀ k, k < n → I' 1006 k = nI (E (k + 1))) ∧ (∀ k, k < n → TkR b (st k) (E (k + 1)) (R 1004 k)) ∧ R 1004 n = 2 ∧ (∀ c, c ≠ 1004 → R c = N.1 c) ∧ ∀ c j, c ≠ 1005 → c ≠ 1006 → ¬ (c = 1003 ∧ (j = 5 ∨ j = 6)) → I' c j = I c j) := by
  have hL := hB.1
  have hz := hs.2.2.2.2.2.2.2.2.2.2.2
  obtain ⟨t0, t1, t2, t3⟩ := hs.2.1
  obtain ⟨x0, x1, x2, x3, x4, x5, ⟨x6, x7⟩, ⟨x8, x9⟩, ⟨x10, x11⟩⟩ := hs.2.2.1
  unfold F_Text_split
  simp only [v_sI x0, Option.bind_some, reduceIte, if_true, if_false, Bool.false_eq_true, ck_tt]
  refine E1.bind (c_scan (I := u2 (u2 I 1003 5 0) 1003 6 0) hs (L := L) (b := b) (by rw [u2_n _ _ _ _ (by omega), u2_n _ _ _ _ (by omega)]; exact eL) hL (fun k hk => ⟨(hB.2 k hk).1, by rw [u2_n _ _ _ _ (by omega), u2_n _ _ _ _ (by omega)]; exact (hB.2 k hk).2⟩) (by rw [u2_n _ _ _ _ (by omega), u2_s])) ?_
  rintro _ ⟨I1, m, st, E, rfl, hT, f5, fa, fr⟩
  have hm := hT.le
  have e6 : I1 1003 6 = 0 := by rw [fr _ _ (by omega) (by omega) (by omega), u2_s]
  have fr' : ∀ c j, c ≠ 1005 → c ≠ 1006 → ¬ (c = 1003 ∧ (j = 5 ∨ j = 6)) → I1 c j = I c j := fun c j z1 z2 z3 => by rw [fr c j z1 z2 (by omega), u2_n _ _ _ _ (by omega), u2_n _ _ _ _ (by omega)]
  have hB1 : TBy I1 b L := ⟨hL, fun k hk => ⟨(hB.2 k hk).1, by rw [fr' _ _ (by omega) (by omega) (by omega)]; exact (hB.2 k hk).2⟩⟩
  have hTn := hT.done
  refine E1.bind (P := fun M => ∃ R, M = (I1, (R, N.2)) ∧ (∀ c, c ≠ 1004 → R c = N.1 c) ∧ ∀ k, k < m → TkR b (st k) (E (k + 1)) (R 1004 k)) ?_ ?_
  · refine lq1 (fun i z => ∃ R, z = (nI i, (I1, (R, N.2))) ∧ (∀ c, c ≠ 1004 → R c = N.1 c) ∧ ∀ k, k < i → TkR b (st k) (E (k + 1)) (R 1004 k)) _ m (lim_lt (by omega)) (Nat.zero_le _) ⟨N.1, rfl, fun _ _ => rfl, fun k hk => absurd hk (Nat.not_lt_zero _)⟩ ?_ ?_
    · rintro i z hi ⟨R, rfl, hR, ha⟩
      have hs1 : Shp (R, N.2) := hs.nx (NXc.tok hz hR)
      obtain ⟨y0, y1, y2, y3, y4, y5, ⟨y6, y7⟩, ⟨y8, y9⟩, ⟨y10, y11⟩⟩ := hs1.2.2.1
      obtain ⟨u1, u2'⟩ := fa i hi
      obtain ⟨⟨w1, w2, w3⟩, -⟩ := hT.2.2 i hi
      simp only [v_fI y0, v_fR y0, y3, y4, y5, f5, cm_leF hi (show m < 2 ^ 31 by omega), Option.bind_some, reduceIte, if_true, if_false, Bool.false_eq_true, ck_tt, v_aI y8 y9 (rfl : nI i = nI i) (show i < 401 by omega) (by omega), v_aI y10 y11 (rfl : nI i = nI i) (show i < 401 by omega) (by omega), u1, u2']
      refine E1.bind (c_token hs1 hB1 w1 w2) ?_
      intro r hr
      simp only [v_tT y6 hr.rng y7 (rfl : nI i = nI i) (show i < 401 by omega) (by omega), Option.bind_some, reduceIte, if_true, if_false, Bool.false_eq_true, ck_tt]
      refine E1.ok ⟨u2 R 1004 i r, Prod.ext (nI_1 i) rfl, fun c hc => by rw [u2_o _ _ _ _ hc]; exact hR c hc, fun k hk => ?_⟩
      by_cases ek : k = i
      · subst ek; rw [u2_s]; exact hr
      · rw [u2_n _ _ _ _ (by omega)]; exact ha k (by omega)
    · rintro z ⟨R, rfl, hR, ha⟩
      have hs1 : Shp (R, N.2) := hs.nx (NXc.tok hz hR)
      have y0 := hs1.2.2.1.1
      simp only [v_fI y0, f5, cm_leT (Nat.le_refl m) (show m < 2 ^ 31 by omega), Option.bind_some, reduceIte, if_true, if_false, Bool.false_eq_true, ck_tt]
      exact E1.ok ⟨R, rfl, hR, ha⟩
  · rintro _ ⟨R, rfl, hR, ha⟩
    have hs1 : Shp (R, N.2) := hs.nx (NXc.tok hz hR)
    obtain ⟨y0, y1, y2, y3, y4, y5, ⟨y6, y7⟩, ⟨y8, y9⟩, ⟨y10, y11⟩⟩ := hs1.2.2.1
    have eT : tT (I1, (R, N.2)) 1004 (nI m) 2 = some (I1, (u2 R 1004 m 2, N.2)) := v_tT (N := (R, N.2)) y6 (show 1 ≤ 2 ∧ 2 ≤ 36 by omega) y7 (rfl : nI m = nI m) (show m < 401 by omega) (by omega)
    have hR2 : ∀ c, c ≠ 1004 → u2 R 1004 m 2 c = N.1 c := fun c hc => by rw [u2_o _ _ _ _ hc]; exact hR c hc
    have hs2 : Shp (u2 R 1004 m 2, N.2) := hs.nx (NXc.tok hz hR2)
    obtain ⟨z0, z1, z2, z3, z4, z5, ⟨z6, z7⟩, ⟨z8, z9⟩, ⟨z10, z11⟩⟩ := hs2.2.2.1
    have v0 := hs2.2.1.1
    have eL1 : I1 1001 1 = nI L := by rw [fr' _ _ (by omega) (by omega) (by omega)]; exact eL
    simp only [v_fI y0, v_fR y0, y3, f5, eT, Option.bind_some, reduceIte, if_true, if_false, Bool.false_eq_true, ck_tt, v_fI z0, v_fR z0, z2, z4, v_fI v0, eL1, v_tI z8 z9 (rfl : nI m = nI m) (show m < 401 by omega) (by omega)]
    refine E1.ok ⟨_, _, m, _, E, rfl, hTn, ⟨by rw [u2_n _ _ _ _ (by omega)]; exact f5, by rw [u2_n _ _ _ _ (by omega)]; exact e6⟩, fun k hk => ?_, fun k hk => by rw [u2_n _ _ _ _ (by omega)]; exact (fa k hk).2, fun k hk => ?_, u2_s _ _ _ _, hR2, fun c j c1 c2 c3 => by rw [u2_n _ _ _ _ (by omega)]; exact fr' c j c1 c2 c3⟩
    · by_cases ek : k = m
      · subst ek; rw [u2_s, upN_s]
      · rw [u2_n _ _ _ _ (by omega), upN_n _ ek]; exact (fa k (by omega)).1
    · rw [u2_n _ _ _ _ (by omega), upN_n _ (by omega)]; exact ha k hk
end TEXT
