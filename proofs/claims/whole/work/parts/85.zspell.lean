/-! words spelled, tokens known -/
section SPELL
variable {k n L q m i s e r : Nat} {b st E : Nat → Nat} {I I' : IM} {N : NM} {M M' : Mem}
/-- the bytes of the tape -/
def TBy (I : IM) (b : Nat → Nat) (L : Nat) : Prop := L ≤ 400 ∧ ∀ k, k < L → b k < 256 ∧ I 1002 k = nI (b k)
theorem c_spell (hs : Shp N) (hB : TBy I b L) (hw : 100 ≤ r ∧ r < 181) (h12 : wl r ≤ 12) (hse : s ≤ e) (he : e ≤ L) : F_Text_isSpelled 1003 r (nI s) (nI e) (I, N) = some (if spl b s e r = true then 1 else 0) := by
  obtain ⟨hL, hb⟩ := hB
  obtain ⟨t0, t1, t2, t3⟩ := hs.2.1
  obtain ⟨x0, x1, -⟩ := hs.2.2.1
  have h60 := wl_all (r - 100) (by omega)
  have es : nI e - nI s = nI (e - s) := by rw [← Int32.toInt_inj, pk_sub_toInt (by omega) (by omega), nI_toInt (by omega)]; omega
  unfold F_Text_isSpelled spl
  simp only [sLen_e hw, es, Option.bind_some, reduceIte, if_true, if_false, Bool.false_eq_true, ck_tt]
  by_cases c : e - s = wl r
  · have c' : (nI (wl r) = nI (e - s)) = True := by rw [c]; exact eq_true rfl
    simp only [c', c, decide_true, Bool.true_and, Option.bind_some, reduceIte, if_true, if_false, Bool.false_eq_true, ck_tt]
    refine al_loop (F := fun i => decide (nI (b (s + i)) = wc r i)) (n := wl r) (by omega) (fun i hi hF => ?_) (fun i hi hF => ?_) ?_
    · have hF : nI (b (s + i)) = wc r i := of_decide_eq_true hF
      simp only [cm_leF hi (show wl r < 2 ^ 31 by omega), Option.bind_some, reduceIte, if_true, if_false, Bool.false_eq_true, ck_tt, sAt_e hw hi h60, v_fR x0, x1, nI_add, v_aI t2 t3 (rfl : nI (s + i) = nI (s + i)) (show s + i < 400 by omega) (by omega), (hb (s + i) (by omega)).2, hF]
    · have hF : ¬ nI (b (s + i)) = wc r i := of_decide_eq_false hF
      have hF' : (wc r i = nI (b (s + i))) = False := eq_false fun z => hF z.symm
      simp only [cm_leF hi (show wl r < 2 ^ 31 by omega), Option.bind_some, reduceIte, if_true, if_false, Bool.false_eq_true, ck_tt, sAt_e hw hi h60, v_fR x0, x1, nI_add, v_aI t2 t3 (rfl : nI (s + i) = nI (s + i)) (show s + i < 400 by omega) (by omega), (hb (s + i) (by omega)).2, hF']
    · simp only [cm_leT (Nat.le_refl (wl r)) (show wl r < 2 ^ 31 by omega), Option.bind_some, reduceIte, if_true, if_false, Bool.false_eq_true, ck_tt]
  · have c' : (nI (wl r) = nI (e - s)) = False := cm_eqF (fun z => c z.symm) (by omega) (by omega)
    simp only [c, c', decide_false, Bool.false_and, Option.bind_some, reduceIte, if_true, if_false, Bool.false_eq_true, ck_tt]
end SPELL
