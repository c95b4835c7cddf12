/-! a token and its spelling -/
theorem tok_neB : alB (fun i => alB (fun j => decide (i < 4 ∨ j < 4 ∨ i = j ∨ wl (100 + tokS.getD i 0) ≠ wl (100 + tokS.getD j 0) ∨ alB (fun x => decide (wc (100 + tokS.getD i 0) x = wc (100 + tokS.getD j 0) x)) (wl (100 + tokS.getD i 0)) = false)) 36) 36 = true := by decide +kernel
theorem tok_ne (i : Nat) (hi : i < 36) (j : Nat) (hj : j < 36) (h1 : 4 ≤ i) (h2 : 4 ≤ j) (h3 : i ≠ j) (h4 : wl (100 + tokS.getD i 0) = wl (100 + tokS.getD j 0)) : alB (fun x => decide (wc (100 + tokS.getD i 0) x = wc (100 + tokS.getD j 0) x)) (wl (100 + tokS.getD i 0)) = false := by
  rcases of_decide_eq_true (alB_iff.mp (alB_iff.mp tok_neB i hi) j hj) with h | h | h | h | h
  · omega
  · omega
  · exact absurd h h3
  · exact absurd h4 h
  · exact h
theorem tok_empty : ∀ i, i < 4 → wl (100 + tokS.getD i 0) = 0 := by decide +kernel
theorem tok_full : ∀ i, i < 36 → 4 ≤ i → 1 ≤ wl (100 + tokS.getD i 0) ∧ (∀ x, x < 10 → wc (100 + tokS.getD i 0) 0 ≠ nI (48 + x)) := by decide +kernel
section KNOWN
variable {s e r i j : Nat} {b : Nat → Nat}
theorem spl_at {r : Nat} (h : spl b s e r = true) : e - s = wl r ∧ ∀ i, i < wl r → nI (b (s + i)) = wc r i :=
  ⟨of_decide_eq_true (Bool.and_eq_true_iff.mp h).1, fun i hi => of_decide_eq_true (alB_iff.mp (Bool.and_eq_true_iff.mp h).2 i hi)⟩
theorem tkP_4 (h : tkP b s e i = true) (hse : s < e) : 4 ≤ i := by
  refine Nat.not_lt.mp fun z => ?_
  have h1 := (spl_at h).1
  rw [tok_empty i z] at h1
  omega
theorem tkP_one (h1 : tkP b s e i = true) (h2 : tkP b s e j = true) (hse : s < e) (hi : i < 36) (hj : j < 36) : i = j := by
  by_cases c : i = j
  · exact c
  · exfalso
    obtain ⟨a1, a2⟩ := spl_at h1
    obtain ⟨b1, b2⟩ := spl_at h2
    have := tok_ne i hi j hj (tkP_4 h1 hse) (tkP_4 h2 hse) c (by omega)
    rw [alB_iff.mpr (fun x hx => decide_eq_true (by rw [← a2 x hx, ← b2 x (by omega)]))] at this
    cases this
theorem tkP_2 (h : tkP b s e i = true) (hse : s < e) (hi : i < 36) (hx : b s < 256) : srt (b s) ≠ 2 := by
  intro z
  obtain ⟨a1, a2⟩ := spl_at h
  obtain ⟨f1, f2⟩ := tok_full i hi (tkP_4 h hse)
  have hd := srt_2 _ hx z
  refine f2 (b s - 48) (by omega) ?_
  have := a2 0 (by omega)
  rw [Nat.add_zero] at this
  rw [← this, show 48 + (b s - 48) = b s by omega]
/-- token i + 1 stands where its word is spelled -/
theorem tk_iff (h : TkR b s e r) (hse : s < e) (hx : b s < 256) (hi : i < 36) (h4 : 4 ≤ i) : r = i + 1 ↔ tkP b s e i = true := by
  rcases h with ⟨h1, rfl⟩ | ⟨h1, j, hj, h2, h3, rfl⟩ | ⟨h1, h2, rfl⟩
  · exact ⟨fun z => by omega, fun z => absurd h1 (tkP_2 z hse hi hx)⟩
  · exact ⟨fun z => by rw [show i = j by omega]; exact h2, fun z => by rw [tkP_one z h2 hse hi hj]⟩
  · exact ⟨fun z => by omega, fun z => by rw [h2 i hi] at z; cases z⟩
/-- a number stands where a figure is first -/
theorem tk_num (h : TkR b s e r) (hse : s < e) : r = 1 ↔ srt (b s) = 2 := by
  rcases h with ⟨h1, rfl⟩ | ⟨h1, j, hj, h2, h3, rfl⟩ | ⟨h1, h2, rfl⟩
  · exact ⟨fun _ => h1, fun _ => rfl⟩
  · exact ⟨fun z => by have := tkP_4 h2 hse; omega, fun z => absurd z h1⟩
  · exact ⟨fun z => by omega, fun z => absurd z h1⟩
/-- no token of bytes is the end -/
theorem tk_end (h : TkR b s e r) (hse : s < e) : r ≠ 2 := by
  rcases h with ⟨h1, rfl⟩ | ⟨h1, j, hj, h2, h3, rfl⟩ | ⟨h1, h2, rfl⟩
  · omega
  · have := tkP_4 h2 hse; omega
  · omega
end KNOWN
