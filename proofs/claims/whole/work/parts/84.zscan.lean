/-! the text's bytes gone through -/
section SCAN
variable {k n L q m i : Nat} {b st E : Nat → Nat} {I I' : IM} {N : NM} {M M' : Mem}
theorem c_sort {x : Nat} (hx : x < 256) (M : Mem) : F_Text_sortOf (nI x) M = some (nI (srt x)) := by
  unfold F_Text_sortOf srt
  by_cases c0 : x = 32
  · subst c0; rfl
  · have e0 : (nI x = (32 : Int32)) = False := cm_eqF (b := 32) c0 (by omega) (by omega)
    simp only [e0, c0, Option.bind_some, reduceIte, if_true, if_false, Bool.false_eq_true, ck_tt, c_isLet hx]
    by_cases c1 : 97 ≤ x ∧ x ≤ 122
    · simp only [c1, and_self, Option.bind_some, reduceIte, if_true, if_false, Bool.false_eq_true, ck_tt, i32_10]; rfl
    · simp only [c1, Option.bind_some, reduceIte, if_true, if_false, Bool.false_eq_true, ck_tt]
      by_cases c2 : x < 48
      · have a1 : (nI x < (48 : Int32)) = True := cm_ltT (b := 48) c2 (by omega)
        have a2 : (48 ≤ x ∧ x ≤ 57) = False := eq_false (by omega)
        simp only [a1, a2, Option.bind_some, reduceIte, if_true, if_false, Bool.false_eq_true, ck_tt]; rfl
      · have a1 : (nI x < (48 : Int32)) = False := cm_ltF (b := 48) (by omega) (by omega)
        by_cases c3 : 57 < x
        · have a3 : ((57 : Int32) < nI x) = True := cm_ltT (a := 57) c3 (by omega)
          have a2 : (48 ≤ x ∧ x ≤ 57) = False := eq_false (by omega)
          simp only [a1, a2, a3, Option.bind_some, reduceIte, if_true, if_false, Bool.false_eq_true, ck_tt]; rfl
        · have a3 : ((57 : Int32) < nI x) = False := cm_ltF (a := 57) (by omega) (by omega)
          have a2 : (48 ≤ x ∧ x ≤ 57) = True := eq_true (by omega)
          simp only [a1, a2, a3, Option.bind_some, reduceIte, if_true, if_false, Bool.false_eq_true, ck_tt]; rfl
theorem srt_lt (x : Nat) : srt x < 4 := by
  unfold srt
  by_cases c0 : x = 32
  · rw [if_pos c0]; omega
  · rw [if_neg c0]
    by_cases c1 : 97 ≤ x ∧ x ≤ 122
    · rw [if_pos c1]; omega
    · rw [if_neg c1]
      by_cases c2 : 48 ≤ x ∧ x ≤ 57
      · rw [if_pos c2]; omega
      · rw [if_neg c2]; omega
def prv (b : Nat → Nat) (i : Nat) : Nat := if i = 0 then 0 else srt (b (i - 1))
theorem TKp.le (h : TKp b i m st E) : m ≤ i := by
  have key : ∀ d k, k + d = m → E k + d ≤ E m := by
    intro d
    induction d with
    | zero => intro k e; rw [show k = m by omega]; exact Nat.le_refl _
    | succ d ih =>
      intro k e
      have h1 := ih (k + 1) (by omega)
      have h2 := (h.2.1 k (by omega)).1
      have h3 := (h.2.2 k (by omega)).1.1
      omega
  have := key m 0 (by omega)
  have := h.1.2.1
  omega
theorem c_scan (hs : Shp N) (eL : I 1001 1 = nI L) (hL : L ≤ 400) (hb : ∀ k, k < L → b k < 256 ∧ I 1002 k = nI (b k)) (e5 : I 1003 5 = 0) : E1 (loopN LIM (fun s3 : Int32 × Int32 × Mem => (fR s3.2.2 1003 16 1).bind fun v4 => (fI s3.2.2 v4 15 1).bind fun v5 => (if v5 ≤ s3.2.1 then (some false) else (if (400 : Int32) ≤ s3.2.1 then (some false) else (some true)) : Option Bool).bind fun b7 => if b7 = true then ((fR s3.2.2 1003 16 0).bind fun v9 => (aI s3.2.2 v9 s3.2.1).bind fun v10 => (F_Text_sortOf v10 s3.2.2).bind fun v11 => ((if v11 = s3.1 then (if v11 = (3 : Int32) then (some false) else (some true)) else (some false) : Option Bool).bind fun b13 => if b13 = true then (some (1 : Int32)) else (some (0 : Int32)) : Option (Int32)).bind fun s15 => ((if v11 = 0 then (some false) else (if s15 = 0 then (some true) else (some false)) : Option Bool).bind fun b17 => if b17 = true then ((fR s3.2.2 1003 16 3).bind fun v19 => (fI s3.2.2 1003 16 5).bind fun v20 => (tI s3.2.2 v19 v20 s3.2.1).bind fun m21 => (fI m21 1003 16 5).bind fun v22 => (sI m21 1003 16 5 (v22 + (1 : Int32))).bind fun m23 => some (m23)) else (some (s3.2.2)) : Option (Mem)).bind fun s24 => ((if v11 = 0 then (some false) else ((fI s24 1003 16 5).bind fun v27 => if v27 ≤ 0 then (some false) else (some true)) : Option Bool).bind fun b26 => if b26 = true then ((fR s24 1003 16 4).bind fun v29 => (fI s24 1003 16 5).bind fun v30 => (tI s24 v29 (v30 - (1 : Int32)) (s3.2.1 + (1 : Int32))).bind fun m31 => some (m31)) else (some (s24)) : Option (Mem)).bind fun s32 => some (.inl (v11, (s3.2.1 + (1 : Int32)), s32))) else (some (.inr (s3.2.2)))) ((0 : Int32), (0 : Int32), (I, N))) (fun M => ∃ I' m st E, M = (I', N) ∧ TKp b L m st E ∧ I' 1003 5 = nI m ∧ (∀ k, k < m → I' 1005 k = nI (st k) ∧ I' 1006 k = nI (E (k + 1))) ∧ ∀ c j, c ≠ 1005 → c ≠ 1006 → ¬ (c = 1003 ∧ j = 5) → I' c j = I c j) := by
  obtain ⟨t0, t1, t2, t3⟩ := hs.2.1
  obtain ⟨x0, x1, x2, x3, x4, x5, ⟨x6, x7⟩, ⟨x8, x9⟩, ⟨x10, x11⟩⟩ := hs.2.2.1
  refine lq1 (fun i s => ∃ I' m st E, s = (nI (prv b i), nI i, (I', N)) ∧ TKp b i m st E ∧ I' 1003 5 = nI m ∧ (∀ k, k < m → I' 1005 k = nI (st k) ∧ I' 1006 k = nI (E (k + 1))) ∧ ∀ c j, c ≠ 1005 → c ≠ 1006 → ¬ (c = 1003 ∧ j = 5) → I' c j = I c j) _ L (lim_lt (by omega)) (Nat.zero_le _) ⟨I, 0, _, _, rfl, TKp.zero b, e5, fun k hk => absurd hk (Nat.not_lt_zero _), fun _ _ _ _ _ => rfl⟩ ?_ ?_
  · rintro i s hi ⟨I1, m, st, E, rfl, hT, f5, fa, fr⟩
    obtain ⟨hx, ex⟩ := hb i hi
    have hm := hT.le
    have e1 : I1 1001 1 = nI L := by rw [fr _ _ (by omega) (by omega) (by omega)]; exact eL
    have e2 : I1 1002 i = nI (b i) := by rw [fr _ _ (by omega) (by omega) (by omega)]; exact ex
    have h4 := srt_lt (b i)
    have h4' : prv b i < 4 := by
      unfold prv
      by_cases c : i = 0
      · rw [if_pos c]; omega
      · rw [if_neg c]; exact srt_lt _
    have eq1 : (nI (srt (b i)) = nI (prv b i)) = (srt (b i) = prv b i) := propext (nI_eq (by omega) (by omega))
    have eq3 : (nI (srt (b i)) = (3 : Int32)) = (srt (b i) = 3) := propext (nI_eq (b := 3) (by omega) (by omega))
    have eq0 : (nI (srt (b i)) = (0 : Int32)) = (srt (b i) = 0) := propext (nI_eq (b := 0) (by omega) (by omega))
    have ep : prv b (i + 1) = srt (b i) := by unfold prv; rw [if_neg (by omega), Nat.add_sub_cancel]
    simp only [v_fR x0, x1, x2, x4, x5, v_fI t0, e1, cm_leF hi (show L < 2 ^ 31 by omega), show ((400 : Int32) ≤ nI i) = False from cm_leF (b := 400) (by omega) (by omega), Option.bind_some, reduceIte, if_true, if_false, Bool.false_eq_true, ck_tt, v_aI t2 t3 (rfl : nI i = nI i) (show i < 400 by omega) (by omega), e2, c_sort hx]
    have sub1 : ∀ x, 0 < x → x < 500 → nI x - (1 : Int32) = nI (x - 1) := fun x x1 x2 => by rw [← Int32.toInt_inj, show (1 : Int32) = nI 1 from rfl, pk_sub_toInt (by omega) (by omega), nI_toInt (by omega)]; omega
    by_cases c0 : srt (b i) = 0
    · have p0 : (nI (srt (b i)) = (0 : Int32)) = True := by rw [eq0]; exact eq_true c0
      have p3 : (nI (srt (b i)) = (3 : Int32)) = False := by rw [eq3]; exact eq_false (by omega)
      have fin : E1 (some (.inl (nI (srt (b i)), nI i + (1 : Int32), (I1, N))) : Option ((Int32 × Int32 × Mem) ⊕ Mem)) (Sum.elim (fun s => ∃ I' m st E, s = (nI (prv b (i + 1)), nI (i + 1), (I', N)) ∧ TKp b (i + 1) m st E ∧ I' 1003 5 = nI m ∧ (∀ k, k < m → I' 1005 k = nI (st k) ∧ I' 1006 k = nI (E (k + 1))) ∧ ∀ c j, c ≠ 1005 → c ≠ 1006 → ¬ (c = 1003 ∧ j = 5) → I' c j = I c j) (fun M => ∃ I' m st E, M = (I', N) ∧ TKp b L m st E ∧ I' 1003 5 = nI m ∧ (∀ k, k < m → I' 1005 k = nI (st k) ∧ I' 1006 k = nI (E (k + 1))) ∧ ∀ c j, c ≠ 1005 → c ≠ 1006 → ¬ (c = 1003 ∧ j = 5) → I' c j = I c j)) := E1.ok ⟨I1, m, st, E, by rw [ep, nI_1], hT.blank c0, f5, fa, fr⟩
      by_cases cp : srt (b i) = prv b i
      · have p1 : (nI (srt (b i)) = nI (prv b i)) = True := by rw [eq1]; exact eq_true cp
        simp only [p0, p1, p3, Option.bind_some, reduceIte, if_true, if_false, Bool.false_eq_true, ck_tt, i32_10]
        exact fin
      · have p1 : (nI (srt (b i)) = nI (prv b i)) = False := by rw [eq1]; exact eq_false cp
        simp only [p0, p1, p3, Option.bind_some, reduceIte, if_true, if_false, Bool.false_eq_true, ck_tt, i32_10]
        exact fin
    · have p0 : (nI (srt (b i)) = (0 : Int32)) = False := by rw [eq0]; exact eq_false c0
      by_cases cc : srt (b i) = prv b i ∧ srt (b i) ≠ 3
      · have p1 : (nI (srt (b i)) = nI (prv b i)) = True := by rw [eq1]; exact eq_true cc.1
        have p3 : (nI (srt (b i)) = (3 : Int32)) = False := by rw [eq3]; exact eq_false cc.2
        have hi0 : 0 < i := by
          refine Nat.pos_of_ne_zero fun z => c0 ?_
          rw [cc.1]; unfold prv; rw [if_pos z]
        have hpe : srt (b i) = srt (b (i - 1)) := by rw [cc.1]; unfold prv; rw [if_neg (by omega)]
        obtain ⟨l1, l2, l3, l4⟩ := hT.last hi0 (by rw [← hpe]; exact c0)
        have pm : (nI m ≤ (0 : Int32)) = False := by
          have : ¬ nI m ≤ nI 0 := nI_ge l1 (by omega)
          exact eq_false this
        simp only [p0, p1, p3, pm, Option.bind_some, reduceIte, if_true, if_false, Bool.false_eq_true, ck_tt, i32_10, v_fI x0, v_fR x0, x5, f5, sub1 m l1 (by omega), v_tI x10 x11 (rfl : nI (m - 1) = nI (m - 1)) (show m - 1 < 401 by omega) (by omega)]
        refine E1.ok ⟨_, m, st, upN E m (i + 1), by rw [ep, nI_1], hT.more hi0 hpe c0 cc.2, by rw [u2_n _ _ _ _ (by omega)]; exact f5, fun k hk => ⟨by rw [u2_n _ _ _ _ (by omega)]; exact (fa k hk).1, ?_⟩, fun c j z1 z2 z3 => by rw [u2_n _ _ _ _ (by omega)]; exact fr c j z1 z2 z3⟩
        by_cases e : k = m - 1
        · rw [e, u2_s, show m - 1 + 1 = m by omega, upN_s]
        · rw [u2_n _ _ _ _ (by omega), upN_n _ (by omega)]; exact (fa k hk).2
      · have hs15 : ((if nI (srt (b i)) = nI (prv b i) then (if nI (srt (b i)) = (3 : Int32) then (some false) else (some true)) else (some false) : Option Bool)) = some false := by
          by_cases cp : srt (b i) = prv b i
          · have p3 : srt (b i) = 3 := by
              by_cases z : srt (b i) = 3
              · exact z
              · exact absurd ⟨cp, z⟩ cc
            rw [if_pos (by rw [cp]), if_pos (by rw [p3]; rfl)]
          · rw [if_neg (by rw [eq1]; exact cp)]
        have pm : (nI (m + 1) ≤ (0 : Int32)) = False := by
          have : ¬ nI (m + 1) ≤ nI 0 := nI_ge (by omega) (by omega)
          exact eq_false this
        rw [hs15]
        simp only [p0, Option.bind_some, reduceIte, if_true, if_false, Bool.false_eq_true, ck_tt, v_fI x0, v_sI x0, v_fR x0, x4, x5, f5, v_tI x8 x9 (rfl : nI m = nI m) (show m < 401 by omega) (by omega), u2_n I1 1005 m (nI i) (show ¬ (1003 = 1005 ∧ 5 = m) by omega), u2_s, show nI m + (1 : Int32) = nI (m + 1) from nI_add m 1, pm, sub1 (m + 1) (by omega) (by omega), Nat.add_sub_cancel, v_tI x10 x11 (rfl : nI m = nI m) (show m < 401 by omega) (by omega)]
        refine E1.ok ⟨_, m + 1, upN st m i, upN E (m + 1) (i + 1), by rw [ep, nI_1], hT.new c0 (fun hi0 z => ?_), by rw [u2_n _ _ _ _ (by omega), u2_s], fun k hk => ?_, fun c j z1 z2 z3 => by rw [u2_n _ _ _ _ (by omega), u2_n _ _ _ _ (by omega), u2_n _ _ _ _ (by omega)]; exact fr c j z1 z2 z3⟩
        · by_cases z3 : srt (b i) = 3
          · exact z3
          · exact absurd ⟨by unfold prv; rw [if_neg (by omega)]; exact z, z3⟩ cc
        · by_cases e : k = m
          · subst e
            exact ⟨by rw [u2_n _ _ _ _ (by omega), u2_n _ _ _ _ (by omega), u2_s, upN_s], by rw [u2_s, upN_s]⟩
          · obtain ⟨a1, a2⟩ := fa k (by omega)
            exact ⟨by rw [u2_n _ _ _ _ (by omega), u2_n _ _ _ _ (by omega), u2_n _ _ _ _ (by omega), upN_n _ e]; exact a1, by rw [u2_n _ _ _ _ (by omega), u2_n _ _ _ _ (by omega), u2_n _ _ _ _ (by omega), upN_n _ (by omega)]; exact a2⟩
  · rintro s ⟨I1, m, st, E, rfl, hT, f5, fa, fr⟩
    have e1 : I1 1001 1 = nI L := by rw [fr _ _ (by omega) (by omega) (by omega)]; exact eL
    simp only [v_fR x0, x2, v_fI t0, e1, cm_leT (Nat.le_refl L) (show L < 2 ^ 31 by omega), Option.bind_some, reduceIte, if_true, if_false, Bool.false_eq_true, ck_tt]
    exact E1.ok ⟨I1, m, st, E, rfl, hT, f5, fa, fr⟩
end SCAN
