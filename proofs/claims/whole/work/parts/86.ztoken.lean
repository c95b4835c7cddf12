/-! one token known -/
def tkP (b : Nat → Nat) (s e i : Nat) : Bool := spl b s e (100 + tokS.getD i 0)
/-- the token r of the bytes from s to e -/
def TkR (b : Nat → Nat) (s e r : Nat) : Prop := (srt (b s) = 2 ∧ r = 1) ∨ (srt (b s) ≠ 2 ∧ ∃ i, i < 36 ∧ tkP b s e i = true ∧ (∀ j, j < i → tkP b s e j = false) ∧ r = i + 1) ∨ (srt (b s) ≠ 2 ∧ (∀ i, i < 36 → tkP b s e i = false) ∧ r = 3)
theorem tokS_ok : ∀ i, i < 36 → 100 + tokS.getD i 0 < 181 ∧ wl (100 + tokS.getD i 0) ≤ 12 := by decide +kernel
section TOKEN
variable {k n L q m i s e r : Nat} {b st E : Nat → Nat} {I I' : IM} {N : NM} {M M' : Mem}
theorem c_token (hs : Shp N) (hB : TBy I b L) (hse : s < e) (he : e ≤ L) : E1 (F_Text_tokenFrom 1003 (nI s) (nI e) (I, N)) (TkR b s e) := by
  have hL := hB.1
  obtain ⟨hx, ex⟩ := hB.2 s (by omega)
  obtain ⟨t0, t1, t2, t3⟩ := hs.2.1
  obtain ⟨x0, x1, -⟩ := hs.2.2.1
  have h4 := srt_lt (b s)
  have eq2 : (nI (srt (b s)) = (2 : Int32)) = (srt (b s) = 2) := propext (nI_eq (b := 2) (by omega) (by omega))
  unfold F_Text_tokenFrom
  simp only [v_fR x0, x1, v_aI t2 t3 (rfl : nI s = nI s) (show s < 400 by omega) (by omega), ex, c_sort hx, Option.bind_some, reduceIte, if_true, if_false, Bool.false_eq_true, ck_tt, eq2]
  by_cases c : srt (b s) = 2
  · rw [if_pos c]
    exact E1.ok (Or.inl ⟨c, rfl⟩)
  · rw [if_neg c]
    have loop : E1 (loopN LIM (fun s5 : Int32 => if (36 : Int32) ≤ s5 then (some (.inr (.inr (.inl ())))) else ((tkA s5).bind fun v7 => (tkS v7).bind fun v8 => (F_Text_isSpelled 1003 v8 (nI s) (nI e) (I, N)).bind fun v9 => if v9 = 0 then (some (.inl (s5 + (1 : Int32)))) else (some (.inr (.inl s5))))) (0 : Int32) : Option (Int32 ⊕ (Unit ⊕ Nat))) (fun u => (∃ i, i < 36 ∧ u = .inl (nI i) ∧ tkP b s e i = true ∧ ∀ j, j < i → tkP b s e j = false) ∨ (u = .inr (.inl ()) ∧ ∀ i, i < 36 → tkP b s e i = false)) := by
      refine lq1 (fun i z => z = nI i ∧ ∀ j, j < i → tkP b s e j = false) _ 36 (lim_lt (by omega)) (Nat.zero_le _) ⟨rfl, fun j hj => absurd hj (Nat.not_lt_zero _)⟩ ?_ ?_
      · rintro i z hi ⟨rfl, ha⟩
        obtain ⟨w1, w2⟩ := tokS_ok i hi
        have ea : tkA (nI i) = some (i + 1) := by
          unfold tkA
          rw [nI_clamp (by omega), if_pos ⟨nI_pos' (by omega), hi⟩]
        have eS : tkS (i + 1) = some (100 + tokS.getD i 0) := by
          unfold tkS
          rw [if_pos ⟨by omega, by omega⟩, Nat.add_sub_cancel]
        simp only [show ((36 : Int32) ≤ nI i) = False from cm_leF (b := 36) hi (by omega), Option.bind_some, reduceIte, if_true, if_false, Bool.false_eq_true, ck_tt, ea, eS, c_spell hs hB (show 100 ≤ 100 + tokS.getD i 0 ∧ 100 + tokS.getD i 0 < 181 from ⟨by omega, w1⟩) w2 (show s ≤ e by omega) he, ib0]
        cases hp : spl b s e (100 + tokS.getD i 0) with
        | false =>
          simp only [Option.bind_some, reduceIte, if_true, if_false, Bool.false_eq_true, ck_tt]
          refine E1.ok ⟨nI_1 i, fun j hj => ?_⟩
          by_cases ej : j = i
          · rw [ej]; exact hp
          · exact ha j (by omega)
        | true =>
          simp only [Bool.true_eq_false, Option.bind_some, reduceIte, if_true, if_false, Bool.false_eq_true, ck_tt]
          exact E1.ok (Or.inl ⟨i, hi, rfl, hp, ha⟩)
      · rintro z ⟨rfl, ha⟩
        simp only [show ((36 : Int32) ≤ nI 36) = True from cm_leT (Nat.le_refl 36) (by omega), Option.bind_some, reduceIte, if_true, if_false, Bool.false_eq_true, ck_tt]
        exact E1.ok (Or.inr ⟨rfl, ha⟩)
    obtain ⟨u, eu, hu⟩ := loop
    rw [eu]
    rcases hu with ⟨i, hi, rfl, h1, h2⟩ | ⟨rfl, h1⟩
    · have ea : tkA (nI i) = some (i + 1) := by
        unfold tkA
        rw [nI_clamp (by omega), if_pos ⟨nI_pos' (by omega), hi⟩]
      rw [bdS_l, ea]
      exact E1.ok (Or.inr (Or.inl ⟨c, i, hi, h1, h2, rfl⟩))
    · exact E1.ok (Or.inr (Or.inr ⟨c, h1, rfl⟩))
end TOKEN
