/-! a law's text, of both -/
section OPLAW
variable {a b c d s g w k v q p n L o hh g' w' hh' p' : Nat} {I I' I2 : IM} {W W' : Nat → Int32} {N N' N2 K : NM} {J J' J2 : IM} {M M' : Mem} {P P' : List lnT} {S : List stT} {x y : Int32}
theorem WR.cells3 (h : WR a I W g w) (f : ∀ j, j < 285 → j ≠ 3 → W' j = W j) : WR a I W' g w := by
  have h8 := h.w8
  have h12 := h.g12
  obtain ⟨h1, h2, h3, h4, h5⟩ := h
  refine ⟨h1, ?_, fun k hk => (h3 k hk).congr rfl rfl rfl (fun j hj => f _ (by omega) (by omega)), fun k hk => (h4 k hk).congr (fun j _ _ => rfl) rfl (fun q _ => rfl) (fun q _ => rfl) h12 (fun j hj => f _ (by omega) (by omega)), h5⟩
  unfold WA at h2 ⊢
  rw [f 0 (by omega) (by omega), f 1 (by omega) (by omega), f 2 (by omega) (by omega), f 4 (by omega) (by omega), f 5 (by omega) (by omega), f 6 (by omega) (by omega), f 7 (by omega) (by omega), f 8 (by omega) (by omega)]
  exact h2
theorem CRl.congB (h : CRl c I W g n) (hg : g ≤ 12) (f : ∀ r, c ≤ r → r < c + 9 → I' r = I r) (e : ∀ j, 285 ≤ j → j < 364 → W' j = W j) : CRl c I' W' g n := by
  obtain ⟨h1, h2, h3, h4⟩ := h
  refine ⟨h1, by rw [f c (by omega) (by omega)]; exact h2, by rw [e _ (by omega) (by omega)]; exact h3, fun i hi => ?_⟩
  obtain ⟨l, l1, l2, l3, l4⟩ := h4 i hi
  refine ⟨l, l1, by rw [f _ (by omega) (by omega)]; exact l2, by rw [e _ (by omega) (by omega)]; exact l3, fun k hk => ?_⟩
  rw [f _ (by omega) (by omega), e _ (by omega) (by omega)]
  exact l4 k hk
theorem LW.rowsZ (h : LW N I p W P) (hz : ∀ b, kZ N ≤ b → kS N b = 0) (f : ∀ c j, LZx c → c < kZ N → I' c j = I c j) : LW N I' p W P := by
  obtain ⟨⟨⟨h1, h2, h3, h4, h5, h6⟩, l2, l3, l4, l5⟩, hq⟩ := h
  obtain ⟨x0, x1, x2, x3⟩ := hq.x
  have b0 : p < kZ N := Nat.not_le.mp fun z => by have := hz p z; rw [h1.1] at this; cases this
  have b2 : kR N p 2 < kZ N := Nat.not_le.mp fun z => by have := hz _ z; rw [h3.1] at this; cases this
  refine ⟨⟨⟨h1, h2, h3, h4, h5, fun j x hx => ⟨(h6 j x hx).1, (h6 j x hx).2.1, ?_⟩⟩, l2, l3, l4, ?_⟩, hq⟩
  · rw [f _ _ x2 b2]; exact (h6 j x hx).2.2
  · rw [f _ _ x0 b0]; exact l5
/-- the rest, where a law's text was read -/
theorem INVp.lawT (h : INVp N I K J g w p P n L o hh) (hx : NXc N N') (r19 : ∀ x, kS N x = 17 → x ≠ 1007 → kR N' x 19 = kR N x 19) (e19 : kR N' 1007 19 = p')
    (fr : ∀ c, 1007 ≤ c → c < kZ N → ¬ (1073 ≤ c ∧ c < 1079) → I' c = I c) (e10 : I' 1000 10 = I 1000 10) (e11 : I' 1000 11 = J' 1528 13) (eT : I' 1001 1 = 0) (eT' : J' 1528 8 = 0)
    (e4 : J' 1528 4 = J 1528 4) (e30 : J' 1530 = J 1530) (fW : ∀ j, j < 364 → j ≠ 3 → J' 1529 j = J 1529 j) (hl : LW N' I' p' (J' 1529) P') (hH : HSr N' I' J' g w p' o hh') : INVp N' I' K J' g w p' P' n 0 o hh' := by
  obtain ⟨h1, h2, h3, h4, h5, h6, h7, h8, h9, h10⟩ := h
  obtain ⟨hz, hzz⟩ := h1.2.2.2.2.2.2.2.2.2.2
  have lz : ∀ c j, LZx c → c < kZ N → I' c j = I c j := fun c j hc h' => by have := hc.ne; rw [fr c (by rcases hc with h | h | h | h | ⟨i, h, h'⟩ <;> omega) h' (by omega)]
  refine ⟨h1.nx hx, h2, (h3.rows fun c c1 c2 => fr c c1 (by omega) (by omega)).cells3 fun j j1 j2 => fW j (by omega) j2, e19, hl, h6.congB h3.g12 (fun r r1 r2 => fr r (by omega) (by omega) (by omega)) (fun j j1 j2 => fW j j2 (by omega)), ⟨eT, eT', by omega, fun k hk => absurd hk (Nat.not_lt_zero _)⟩, e11, hH, ?_⟩
  unfold IMr
  rw [e10, e4, e30]
  rcases h10 with h10 | ⟨i1, i2, g', w', p', P', n', i3, i4, i5, i6⟩
  · exact Or.inl h10
  · exact Or.inr ⟨i1, i2, g', w', p', P', n', i3.rows fun c c1 c2 => fr c (by omega) (by omega) (by omega), by rw [r19 _ h1.2.2.2.1.2.2.1.1.1 (by omega)]; exact i4, (i5.rowsZ hzz lz).nx hx, i6.cong (fun r r1 r2 => fr r (by omega) (by omega) (by omega)) (fun _ _ => rfl)⟩
/-- the other side copies what it read -/
def cpW (W : Nat → Int32) (i : Nat) : Nat → Int32 := fun j => if 364 ≤ j ∧ j < 364 + i then W (837 + j) else W j
theorem m_copyL (hm : MN K) : loopN LIM (fun s14 : Int32 × Mem => if (837 : Int32) ≤ s14.1 then (some (.inr (s14.2))) else ((fR s14.2 1528 19 1).bind fun v16 => (fR s14.2 1528 19 1).bind fun v17 => (aI s14.2 v17 ((1201 : Int32) + s14.1)).bind fun v18 => (tI s14.2 v16 ((364 : Int32) + s14.1) v18).bind fun m19 => some (.inl ((s14.1 + (1 : Int32)), m19)))) ((0 : Int32), (rowI J 1529 W, K)) = some (rowI J 1529 (cpW W 837), K) := by
  refine E1.eq (lq1 (fun i s => s = (nI i, (rowI J 1529 (cpW W i), K))) _ 837 (lim_lt (by omega)) (Nat.zero_le _) ?_ ?_ ?_)
  · refine congrArg (fun f => ((0 : Int32), (rowI J 1529 f, K))) (funext fun j => ?_)
    unfold cpW
    rw [if_neg (by omega)]
  · rintro i s hi rfl
    have e1 : (1201 : Int32) + nI i = nI (1201 + i) := nI_add 1201 i
    have e2 : (364 : Int32) + nI i = nI (364 + i) := nI_add 364 i
    have ev : cpW W i (1201 + i) = W (1201 + i) := by unfold cpW; rw [if_neg (by omega)]
    simp only [show ((837 : Int32) ≤ nI i) = False from cm_leF (b := 837) hi (by omega), Option.bind_some, reduceIte, if_true, if_false, Bool.false_eq_true, ck_tt, v_qS, mo_k hm, mw_f hm, mo_r1 hm, mw_gates hm, mw_walkers hm, e1, e2, mw_a hm (show nI (1201 + i) = nI (1201 + i) from rfl) (show 1201 + i < 2038 by omega), mw_t hm (show nI (364 + i) = nI (364 + i) from rfl) (show 364 + i < 2038 by omega), ev]
    refine E1.ok ?_
    show _ = _
    rw [nI_1]
    refine congrArg (fun f => (nI (i + 1), (rowI J 1529 f, K))) (funext fun j => ?_)
    by_cases e : j = 364 + i
    · subst e
      rw [pk_us]
      unfold cpW
      rw [if_pos (by omega), show 837 + (364 + i) = 1201 + i by omega]
    · rw [pk_un e]
      unfold cpW
      by_cases e2 : 364 ≤ j ∧ j < 364 + i
      · rw [if_pos e2, if_pos (by omega)]
      · rw [if_neg e2, if_neg (by omega)]
  · rintro s rfl
    simp only [show ((837 : Int32) ≤ nI 837) = True from cm_leT (b := 837) (Nat.le_refl _) (by omega), Option.bind_some, reduceIte, if_true, if_false, Bool.false_eq_true, ck_tt]
    exact E1.ok rfl
theorem flat_18 (h : ∀ ln, ln ∈ P → lnOK ln) : ∀ x, x ∈ P.flatMap flat → x.1 < 18 := fun x hx => by
  obtain ⟨ln, h1, h2⟩ := List.mem_flatMap.mp hx
  obtain ⟨-, h14, -⟩ := h ln h1
  unfold flat at h2
  rcases List.mem_append.mp h2 with z | z
  · by_cases e : ln.2.2 = []
    · rw [if_pos e] at z
      rw [List.mem_singleton.mp z]; show 17 < 18; omega
    · rw [if_neg e] at z
      have := h14 x z
      omega
  · rw [List.mem_singleton.mp z]
    show (if ln.1 = true then 15 else 16) < 18
    cases ln.1 <;> decide
theorem NewL.nx (h : NewL N I x S N' I') (hz : ∀ b, kZ N ≤ b → kS N b = 0) : NXc N N' := by
  obtain ⟨h1, -, ⟨h3, h4, h5⟩, -⟩ := h
  have lt : ∀ b, kS N b ≠ 0 → b < kZ N := fun b hb => Nat.not_le.mp fun z => hb (hz b z)
  refine ⟨fun b hb => ?_, fun b k hb _ _ _ => ?_, by omega, fun b hb => ?_⟩
  · have := lt b hb
    rw [h4, h5, if_neg (by omega), if_neg (by omega), if_neg (by omega), if_neg (by omega), if_neg (by omega), if_neg (by omega), if_neg (by omega), if_neg (by omega)]
    exact ⟨rfl, rfl⟩
  · exact congrFun (h1 b (lt b hb)).2 k
  · rw [h4, if_neg (by omega), if_neg (by omega), if_neg (by omega), if_neg (by omega)]
    exact hz b (by omega)
end OPLAW
