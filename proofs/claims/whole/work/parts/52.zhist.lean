/-! what is remembered -/
section HIST
variable {a b c d s g w k v q p n L o hh n' L' t r : Nat} {I I' I2 : IM} {W W' : Nat → Int32} {N N' N2 K : NM} {J J' J2 : IM} {M M' : Mem} {P : List lnT} {tr : Nat → Int32} {x y z : Int32}
theorem NXc.r19 (hz : ∀ b, kZ N ≤ b → kS N b = 0) (hd : kS N d = 17) (r : Nat) : NXc N (rN N d 19 r) :=
  ⟨fun _ _ => ⟨rfl, rfl⟩, fun b k hb _ _ h17 => kR_n N (fun z => by obtain ⟨rfl, rfl⟩ := z; exact h17 hd rfl), Nat.le_refl _, hz⟩
theorem kR_s (N : NM) (d r : Nat) : kR (rN N d 19 r) d 19 = r := u2_s _ _ _ _
theorem LW.r19 (h : LW N I p W P) (hs : Shp N) (hd : kS N d = 17) (r : Nat) (f : ∀ c, LZx c → I' c = I c) : LW (rN N d 19 r) I' p W P :=
  (h.nx (NXc.r19 hs.2.2.2.2.2.2.2.2.2.2.2 hd r)).rows fun c j hc => congrFun (f c hc) j
theorem mo_as {i : Int32} (h : MN K) (e : i = nI n) (hn : n < 3420) : aI (J, K) 1532 i = some (J 1532 n) := v_aI h.2.2.2.2.1.1 h.2.2.2.2.1.2 e hn (by omega)
theorem mo_ts {i v : Int32} (h : MN K) (e : i = nI n) (hn : n < 3420) : tI (J, K) 1532 i v = some (u2 J 1532 n v, K) := v_tI h.2.2.2.2.1.1 h.2.2.2.2.1.2 e hn (by omega)
theorem m_shift (hm : MN K) : E1 (loopN LIM (fun s5 : Int32 × Mem => if (3135 : Int32) ≤ s5.1 then (some (.inr (s5.2))) else ((fR s5.2 1528 19 5).bind fun v7 => (fR s5.2 1528 19 5).bind fun v8 => (aI s5.2 v8 (s5.1 + (285 : Int32))).bind fun v9 => (tI s5.2 v7 s5.1 v9).bind fun m10 => some (.inl ((s5.1 + (1 : Int32)), m10)))) ((0 : Int32), (J, K)) : Option (Mem)) (fun M => ∃ J', M = (J', K) ∧ (∀ c, c ≠ 1532 → J' c = J c) ∧ ∀ j, j < 3135 → J' 1532 j = J 1532 (j + 285)) := by
  refine lq1 (fun i s => ∃ J', s = (nI i, (J', K)) ∧ (∀ c, c ≠ 1532 → J' c = J c) ∧ ∀ j, J' 1532 j = if j < i then J 1532 (j + 285) else J 1532 j) _ 3135 (lim_lt (by omega)) (Nat.zero_le _) ⟨J, rfl, fun _ _ => rfl, fun j => by rw [if_neg (Nat.not_lt_zero _)]⟩ ?_ ?_
  · rintro i s hi ⟨J1, rfl, hf, ha⟩
    simp only [show ((3135 : Int32) ≤ nI i) = False from cm_leF (b := 3135) hi (by omega), Option.bind_some, reduceIte, if_true, if_false, Bool.false_eq_true, ck_tt, mo_r5 hm, mo_as hm (show nI i + (285 : Int32) = nI (i + 285) from nI_add i 285) (show i + 285 < 3420 by omega), mo_ts hm (rfl : nI i = nI i) (show i < 3420 by omega)]
    refine E1.ok ⟨_, Prod.ext (nI_1 i) rfl, fun c hc => (u2_o _ _ _ _ hc).trans (hf c hc), fun j => ?_⟩
    by_cases e : j = i
    · subst e
      rw [u2_s, if_pos (Nat.lt_succ_self _), ha, if_neg (by omega)]
    · rw [u2_n _ _ _ _ (fun z => e z.2), ha]
      by_cases c : j < i
      · rw [if_pos c, if_pos (by omega)]
      · rw [if_neg c, if_neg (by omega)]
  · rintro s ⟨J1, rfl, hf, ha⟩
    simp only [show ((3135 : Int32) ≤ nI 3135) = True from cm_leT (Nat.le_refl 3135) (by omega), Option.bind_some, reduceIte, if_true, if_false, Bool.false_eq_true, ck_tt]
    exact E1.ok ⟨J1, rfl, hf, fun j hj => by rw [ha, if_pos hj]⟩
theorem m_put (hm : MN K) {c : Nat} (hc : c < 12) (e6 : J 1528 6 = nI (c + 1)) : E1 (loopN LIM (fun s12 : Int32 × Mem => if (285 : Int32) ≤ s12.1 then (some (.inr (s12.2))) else ((fR s12.2 1528 19 5).bind fun v14 => (fI s12.2 1528 19 6).bind fun v15 => (fR s12.2 1528 19 1).bind fun v16 => (aI s12.2 v16 s12.1).bind fun v17 => (tI s12.2 v14 (((285 : Int32) * (v15 - (1 : Int32))) + s12.1) v17).bind fun m18 => some (.inl ((s12.1 + (1 : Int32)), m18)))) ((0 : Int32), (J, K))) (fun M => ∃ J', M = (J', K) ∧ (∀ c, c ≠ 1532 → J' c = J c) ∧ (∀ k, k < 285 → J' 1532 (285 * c + k) = J 1529 k) ∧ ∀ j, j < 285 * c → J' 1532 j = J 1532 j) := by
  refine lq1 (fun i s => ∃ J', s = (nI i, (J', K)) ∧ (∀ c, c ≠ 1532 → J' c = J c) ∧ (∀ k, k < i → J' 1532 (285 * c + k) = J 1529 k) ∧ ∀ j, j < 285 * c → J' 1532 j = J 1532 j) _ 285 (lim_lt (by omega)) (Nat.zero_le _) ⟨J, rfl, fun _ _ => rfl, fun k hk => absurd hk (Nat.not_lt_zero _), fun _ _ => rfl⟩ ?_ ?_
  · rintro i s hi ⟨J1, rfl, hf, ha, hb⟩
    have e6' : J1 1528 6 = nI (c + 1) := by rw [hf _ (by omega)]; exact e6
    have e1 : nI (c + 1) - (1 : Int32) = nI c := by
      rw [← Int32.toInt_inj, show (1 : Int32) = nI 1 from rfl, pk_sub_toInt (by omega) (by omega), nI_toInt (by omega)]; omega
    have e2 : (285 : Int32) * nI c + nI i = nI (285 * c + i) := by rw [show (285 : Int32) * nI c = nI (285 * c) from pk_mul 285 c, nI_add]
    simp only [show ((285 : Int32) ≤ nI i) = False from cm_leF (b := 285) hi (by omega), Option.bind_some, reduceIte, if_true, if_false, Bool.false_eq_true, ck_tt, mo_r5 hm, mo_f hm, mo_r1 hm, e6', e1, e2, mo_a hm (rfl : nI i = nI i) (show i < 2038 by omega), mo_ts hm (rfl : nI (285 * c + i) = nI (285 * c + i)) (show 285 * c + i < 3420 by omega)]
    refine E1.ok ⟨_, Prod.ext (nI_1 i) rfl, fun c hc => (u2_o _ _ _ _ hc).trans (hf c hc), fun k hk => ?_, fun j hj => ?_⟩
    · by_cases e : k = i
      · subst e; rw [u2_s, hf _ (by omega)]
      · rw [u2_n _ _ _ _ (fun z => by omega)]; exact ha k (by omega)
    · rw [u2_n _ _ _ _ (fun z => by omega)]; exact hb j hj
  · rintro s ⟨J1, rfl, hf, ha, hb⟩
    simp only [show ((285 : Int32) ≤ nI 285) = True from cm_leT (Nat.le_refl 285) (by omega), Option.bind_some, reduceIte, if_true, if_false, Bool.false_eq_true, ck_tt]
    exact E1.ok ⟨J1, rfl, hf, ha, hb⟩
theorem m_rem (hm : MN K) (h12 : hh ≤ 12) (e6 : J 1528 6 = nI hh) : E1 (F_Mo_remembers 1528 (J, K)) (fun M => ∃ J', M = (J', K) ∧ (∀ c j, c ≠ 1532 → ¬ (c = 1528 ∧ j = 6) → J' c j = J c j) ∧
    ((hh < 12 ∧ J' 1528 6 = nI (hh + 1) ∧ (∀ k, k < 285 → J' 1532 (285 * hh + k) = J 1529 k) ∧ ∀ j, j < 285 * hh → J' 1532 j = J 1532 j) ∨
     (hh = 12 ∧ J' 1528 6 = nI 12 ∧ (∀ k, k < 285 → J' 1532 (285 * 11 + k) = J 1529 k) ∧ ∀ j, j < 285 * 11 → J' 1532 j = J 1532 (j + 285)))) := by
  unfold F_Mo_remembers
  by_cases c : hh = 12
  · simp only [mo_f hm, Option.bind_some, reduceIte, if_true, if_false, Bool.false_eq_true, ck_tt, e6, show (nI hh = (12 : Int32)) = True from eq_true (by rw [c]; rfl)]
    refine E1.bind (m_shift hm) ?_
    rintro _ ⟨J1, rfl, hf, ha⟩
    refine (m_put hm (c := 11) (by omega) (by rw [hf _ (by omega), e6, c])).imp ?_
    rintro _ ⟨J2, rfl, hf2, hb, hc⟩
    refine ⟨J2, rfl, fun c j hc1 hc2 => by rw [hf2 _ hc1, hf _ hc1], Or.inr ⟨c, by rw [hf2 _ (by omega), hf _ (by omega), e6, c], fun k hk => by rw [hb k hk, hf _ (by omega)], fun j hj => by rw [hc j hj, ha j (by omega)]⟩⟩
  · simp only [mo_f hm, mo_s hm, Option.bind_some, reduceIte, if_true, if_false, Bool.false_eq_true, ck_tt, e6, show (nI hh = (12 : Int32)) = False from cm_eqF (b := 12) c (by omega) (by omega)]
    rw [show nI hh + (1 : Int32) = nI (hh + 1) from nI_add hh 1]
    refine (m_put hm (c := hh) (by omega) (by rw [u2_s])).imp ?_
    rintro _ ⟨J2, rfl, hf2, hb, hc⟩
    refine ⟨J2, rfl, fun c j hc1 hc2 => by rw [hf2 _ hc1, u2_n _ _ _ _ hc2], Or.inl ⟨by omega, by rw [hf2 _ (by omega), u2_s], fun k hk => by rw [hb k hk, u2_o _ _ _ _ (by omega)], fun j hj => by rw [hc j hj, u2_o _ _ _ _ (by omega)]⟩⟩
theorem mod_12 {x : Nat} (h : x < 25) : nI x - nI x / (12 : Int32) * (12 : Int32) = nI (x % 12) := by
  have : ∀ x, x < 25 → nI x - nI x / (12 : Int32) * (12 : Int32) = nI (x % 12) := by decide +kernel
  exact this x h
theorem c_rem (hs : Shp N) (ho : o < 12) (hc : hh ≤ 12) (e1 : I 1077 1 = nI o) (e2 : I 1077 2 = nI hh) : E1 (F_History_remember 1077 1007 (I, N)) (fun M => ∃ I', M = (I', rN N (1079 + 33 * ((o + hh) % 12)) 19 (kR N 1007 19)) ∧ (∀ j k, cpd j k → I' (1079 + 33 * ((o + hh) % 12) + j) k = I (1007 + j) k) ∧ (∀ c j, ¬ (1079 + 33 * ((o + hh) % 12) ≤ c ∧ c < 1079 + 33 * ((o + hh) % 12) + 27) → ¬ (c = 1077 ∧ (j = 1 ∨ j = 2)) → I' c j = I c j) ∧ ((hh < 12 ∧ I' 1077 1 = nI o ∧ I' 1077 2 = nI (hh + 1)) ∨ (hh = 12 ∧ I' 1077 1 = nI ((o + 1) % 12) ∧ I' 1077 2 = nI 12))) := by
  obtain ⟨k0, r0, ⟨k1, n1⟩, r1⟩ := hs.2.2.2.2.2.2.1
  have hm : (o + hh) % 12 < 12 := Nat.mod_lt _ (by omega)
  have hd := hs.2.2.2.1.2.2.2 _ hm
  unfold F_History_remember
  simp only [v_fR k0, v_fI k0, r0, e1, e2, nI_add, mod_12 (show o + hh < 25 by omega), Option.bind_some, reduceIte, if_true, if_false, Bool.false_eq_true, ck_tt, v_aR k1 n1 (rfl : nI ((o + hh) % 12) = _) hm (by omega), r1 _ hm, v_qS, wa_k hd]
  generalize hD : 1079 + 33 * ((o + hh) % 12) = D at hd ⊢
  have hD1 : 1079 ≤ D ∧ D + 27 ≤ 1475 := by omega
  refine E1.bind (c_copy hd hs.wn (by omega) I) ?_
  rintro _ ⟨I1, rfl, hf, hr⟩
  have k0' : kS (rN N D 19 (kR N 1007 19)) 1077 = 11 := k0
  have q2 : I1 1077 2 = nI hh := by rw [hr _ (by omega), e2]
  have q1 : I1 1077 1 = nI o := by rw [hr _ (by omega), e1]
  simp only [v_fI k0', v_sI k0', q1, q2, Option.bind_some, reduceIte, if_true, if_false, Bool.false_eq_true, ck_tt]
  by_cases c : hh = 12
  · rw [if_pos (show (12 : Int32) ≤ nI hh from nI_le (a := 12) (by omega) (by omega)), show nI o + (1 : Int32) = nI (o + 1) from nI_add o 1, mod_12 (show o + 1 < 25 by omega)]
    exact E1.ok ⟨_, rfl, fun j k hjk => by rw [u2_n _ _ _ _ (by omega)]; exact hf j k hjk, fun c j c1 c2 => by rw [u2_n _ _ _ _ (by omega)]; exact congrFun (hr c c1) j, Or.inr ⟨c, u2_s _ _ _ _, by rw [u2_n _ _ _ _ (by omega), q2, c]⟩⟩
  · rw [if_neg (show ¬ (12 : Int32) ≤ nI hh from nI_ge (b := 12) (a := hh) (by omega) (by omega)), show nI hh + (1 : Int32) = nI (hh + 1) from nI_add hh 1]
    exact E1.ok ⟨_, rfl, fun j k hjk => by rw [u2_n _ _ _ _ (by omega)]; exact hf j k hjk, fun c j c1 c2 => by rw [u2_n _ _ _ _ (by omega)]; exact congrFun (hr c c1) j, Or.inl ⟨by omega, by rw [u2_n _ _ _ _ (by omega), q1], u2_s _ _ _ _⟩⟩
/-- both remember -/
theorem r_rem (h : INVp N I K J g w p P n L o hh) : E2 (F_History_remember 1077 1007 (I, N)) (F_Mo_remembers 1528 (J, K)) (fun M M' => ∃ I' N' J' o' h', M = (I', N') ∧ M' = (J', K) ∧ INVp N' I' K J' g w p P n L o' h' ∧ FrC I I' ∧ FrM J J' ∧ (∀ c j, c ≠ 1532 → ¬ (c = 1528 ∧ j = 6) → J' c j = J c j) ∧ ∀ c, 1007 ≤ c → c < 1034 → I' c = I c) := by
  obtain ⟨h1, h2, h3, h4, h5, h6, h7, h8, ⟨⟨q1, q2⟩, ⟨q3, q4, q5⟩, q6⟩, h10⟩ := h
  refine E2.mk (c_rem h1 q1 q2 q3 q4) ?_
  rintro _ ⟨I', rfl, f1, f2, f3⟩
  refine (m_rem h2 q2 q5).imp ?_
  rintro _ ⟨J', rfl, g1, g2⟩
  have hm : (o + hh) % 12 < 12 := Nat.mod_lt _ (by omega)
  have hd := h1.2.2.2.1.2.2.2 _ hm
  rw [h4]
  have hoD : (o + hh) % 12 = (o + hh) % 12 := rfl
  revert hoD
  generalize hD : (o + hh) % 12 = D at hm hd f1 f2 ⊢
  intro _
  have fr : ∀ c, ¬ (1079 + 33 * D ≤ c ∧ c < 1079 + 33 * D + 27) → c ≠ 1077 → I' c = I c := fun c c1 c2 => funext fun j => f2 c j c1 (by omega)
  have lz : ∀ c, LZx c → I' c = I c := fun c hc => fr c (by have := hc.ne.2.2.2.2.2 D hm; omega) (by have := hc.ne; omega)
  have gr : ∀ c, c ≠ 1532 → c ≠ 1528 → J' c = J c := fun c c1 c2 => funext fun j => g1 c j c1 (by omega)
  have r19 : ∀ b, b ≠ 1079 + 33 * D → kR (rN N (1079 + 33 * D) 19 p) b 19 = kR N b 19 := fun b hb => kR_n N (fun z => hb z.1)
  have old : ∀ i, i < hh → (o + i) % 12 ≠ D → ∀ i', (∀ k, k < 285 → J' 1532 (285 * i' + k) = J 1532 (285 * i + k)) → WR (1079 + 33 * ((o + i) % 12)) I' (fun k => J' 1532 (285 * i' + k)) g w ∧ kR (rN N (1079 + 33 * D) 19 p) (1079 + 33 * ((o + i) % 12)) 19 = p ∧ J' 1532 (285 * i' + 3) = J' 1529 3 := by
    intro i hi hne i' hk
    have hmi : (o + i) % 12 < 12 := Nat.mod_lt _ (by omega)
    refine ⟨((q6 i hi).1.rows fun c c1 c2 => fr c (by omega) (by omega)).cells fun k hk' => hk k hk', ?_⟩
    rw [r19 _ (by omega), hk 3 (by omega), gr 1529 (by omega) (by omega)]
    exact (q6 i hi).2
  have new : ∀ i', (∀ k, k < 285 → J' 1532 (285 * i' + k) = J 1529 k) → WR (1079 + 33 * D) I' (fun k => J' 1532 (285 * i' + k)) g w ∧ kR (rN N (1079 + 33 * D) 19 p) (1079 + 33 * D) 19 = p ∧ J' 1532 (285 * i' + 3) = J' 1529 3 := fun i' hk => ⟨(h3.copy f1).cells fun k hk' => hk k hk', kR_s _ _ _, by rw [hk 3 (by omega), gr 1529 (by omega) (by omega)]⟩
  have rest : ∀ o' h', HSr (rN N (1079 + 33 * D) 19 p) I' J' g w p o' h' → INVp (rN N (1079 + 33 * D) 19 p) I' K J' g w p P n L o' h' := by
    intro o' h' hH
    refine ⟨h1.nx (NXc.r19 h1.2.2.2.2.2.2.2.2.2.2.2 hd.1.1 p), h2, ?_, ?_, ?_, ?_, ?_, ?_, hH, ?_⟩
    · rw [gr 1529 (by omega) (by omega)]
      exact h3.rows fun c c1 c2 => fr c (by omega) (by omega)
    · rw [r19 _ (by omega)]; exact h4
    · rw [gr 1529 (by omega) (by omega)]
      exact h5.r19 h1 hd.1.1 p lz
    · rw [gr 1529 (by omega) (by omega)]
      exact h6.cong (fun c c1 c2 => fr c (by omega) (by omega)) (fun _ _ => rfl)
    · exact h7.cong (fr _ (by omega) (by omega)) (fr _ (by omega) (by omega)) (g1 _ _ (by omega) (by omega)) (gr _ (by omega) (by omega))
    · rw [fr 1000 (by omega) (by omega), g1 1528 13 (by omega) (by omega)]; exact h8
    · unfold IMr
      rw [fr 1000 (by omega) (by omega), g1 1528 4 (by omega) (by omega), gr 1530 (by omega) (by omega)]
      rcases h10 with h10 | ⟨i1, i2, g', w', p', P', n', i3, i4, i5, i6⟩
      · exact Or.inl h10
      · exact Or.inr ⟨i1, i2, g', w', p', P', n', i3.rows fun c c1 c2 => fr c (by omega) (by omega), by rw [r19 _ (by omega)]; exact i4, i5.r19 h1 hd.1.1 p lz, i6.cong (fun c c1 c2 => fr c (by omega) (by omega)) (fun _ _ => rfl)⟩
  have hC : FrC I I' := fun c c1 c2 => fr c (by omega) (by omega)
  have hM : FrM J J' := fun c hc => gr c (by omega) (by omega)
  have hwd : ∀ c, 1007 ≤ c → c < 1034 → I' c = I c := fun c c1 c2 => fr c (by omega) (by omega)
  rcases f3 with ⟨t1, t2, t3⟩ | ⟨t1, t2, t3⟩
  · rcases g2 with ⟨u1, u2, u3, u4⟩ | ⟨u1, _⟩
    · refine ⟨I', _, J', o, hh + 1, rfl, rfl, rest _ _ ⟨⟨q1, by omega⟩, ⟨t2, t3, u2⟩, fun i hi => ?_⟩, hC, hM, g1, hwd⟩
      by_cases e : i = hh
      · subst e
        rw [hD]
        exact new i u3
      · exact old i (by omega) (by omega) i fun k hk => u4 _ (by omega)
    · omega
  · rcases g2 with ⟨u1, _⟩ | ⟨u1, u2, u3, u4⟩
    · omega
    · refine ⟨I', _, J', (o + 1) % 12, 12, rfl, rfl, rest _ _ ⟨⟨Nat.mod_lt _ (by omega), by omega⟩, ⟨t2, t3, u2⟩, fun i hi => ?_⟩, hC, hM, g1, hwd⟩
      by_cases e : i = 11
      · subst e
        rw [show ((o + 1) % 12 + 11) % 12 = D by omega]
        exact new 11 u3
      · rw [show ((o + 1) % 12 + i) % 12 = (o + (i + 1)) % 12 by omega]
        exact old (i + 1) (by omega) (by omega) i fun k hk => by rw [u4 _ (by omega), show 285 * i + k + 285 = 285 * (i + 1) + k by omega]
end HIST
