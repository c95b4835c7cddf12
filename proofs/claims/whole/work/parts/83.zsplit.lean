/-! the text split -/
def TKp (b : Nat → Nat) (i m : Nat) (st E : Nat → Nat) : Prop :=
  (E 0 = 0 ∧ E m ≤ i ∧ ∀ j, E m ≤ j → j < i → srt (b j) = 0) ∧ (∀ k, k < m → E k ≤ st k ∧ ∀ j, E k ≤ j → j < st k → srt (b j) = 0) ∧
  ∀ k, k < m → (st k < E (k + 1) ∧ E (k + 1) ≤ i ∧ srt (b (st k)) ≠ 0) ∧ (∀ j, st k ≤ j → j < E (k + 1) → srt (b j) = srt (b (st k))) ∧ (srt (b (st k)) = 3 → E (k + 1) = st k + 1) ∧ (srt (b (st k)) ≠ 3 → E (k + 1) < i → srt (b (E (k + 1))) ≠ srt (b (st k)))
def upN (f : Nat → Nat) (k v : Nat) : Nat → Nat := fun j => if j = k then v else f j
theorem upN_s (f : Nat → Nat) (k v : Nat) : upN f k v k = v := if_pos rfl
theorem upN_n (f : Nat → Nat) {k v j : Nat} (h : j ≠ k) : upN f k v j = f j := if_neg h
section SPLIT
variable {b st E : Nat → Nat} {i m k : Nat}
theorem TKp.zero (b : Nat → Nat) : TKp b 0 0 (fun _ => 0) (fun _ => 0) := ⟨⟨rfl, Nat.le_refl _, fun j _ h => absurd h (Nat.not_lt_zero _)⟩, fun k h => absurd h (Nat.not_lt_zero _), fun k h => absurd h (Nat.not_lt_zero _)⟩
theorem TKp.mono (h : TKp b i m st E) : ∀ d k, k + d = m → E k ≤ E m
  | 0, k, e => by rw [show k = m by omega]; exact Nat.le_refl _
  | d + 1, k, e => by
    have h1 := h.mono d (k + 1) (by omega)
    have h2 := (h.2.1 k (by omega)).1
    have h3 := (h.2.2 k (by omega)).1.1
    omega
theorem TKp.blank (h : TKp b i m st E) (hs : srt (b i) = 0) : TKp b (i + 1) m st E := by
  obtain ⟨⟨h1, h2, h3⟩, h4, h5⟩ := h
  refine ⟨⟨h1, by omega, fun j j1 j2 => ?_⟩, h4, fun k hk => ?_⟩
  · by_cases e : j = i
    · rw [e]; exact hs
    · exact h3 j j1 (by omega)
  · obtain ⟨⟨t1, t2, t3⟩, t4, t5, t6⟩ := h5 k hk
    refine ⟨⟨t1, by omega, t3⟩, t4, t5, fun a1 a2 => ?_⟩
    by_cases e : E (k + 1) = i
    · rw [e, hs]; exact fun z => t3 z.symm
    · exact t6 a1 (by omega)
/-- the last token, where the byte before i is of sort s -/
theorem TKp.last (h : TKp b i m st E) (hi : 0 < i) (hs : srt (b (i - 1)) ≠ 0) : 0 < m ∧ E m = i ∧ srt (b (st (m - 1))) = srt (b (i - 1)) ∧ st (m - 1) < i := by
  obtain ⟨⟨h1, h2, h3⟩, h4, h5⟩ := h
  have e : E m = i := by
    refine Nat.le_antisymm h2 (Nat.not_lt.mp fun z => hs (h3 _ (by omega) (by omega)))
  have hm : 0 < m := by
    refine Nat.pos_of_ne_zero fun z => ?_
    rw [z, h1] at e; omega
  obtain ⟨⟨t1, t2, t3⟩, t4, t5, t6⟩ := h5 (m - 1) (by omega)
  rw [show m - 1 + 1 = m by omega] at t1 t4
  exact ⟨hm, e, (t4 (i - 1) (by omega) (by omega)).symm, by omega⟩
theorem TKp.more (h : TKp b i m st E) (hi : 0 < i) (hs : srt (b i) = srt (b (i - 1))) (h0 : srt (b i) ≠ 0) (h3 : srt (b i) ≠ 3) : TKp b (i + 1) m st (upN E m (i + 1)) := by
  obtain ⟨l1, l2, l3, l4⟩ := h.last hi (by rw [← hs]; exact h0)
  have hmono := h.mono
  obtain ⟨⟨h1, h2, h3'⟩, h4, h5⟩ := h
  refine ⟨⟨by rw [upN_n _ (by omega)]; exact h1, by rw [upN_s]; omega, fun j j1 j2 => by rw [upN_s] at j1; omega⟩, fun k hk => by rw [upN_n _ (by omega)]; exact h4 k hk, fun k hk => ?_⟩
  obtain ⟨⟨t1, t2, t3⟩, t4, t5, t6⟩ := h5 k hk
  by_cases e : k + 1 = m
  · rw [e, upN_s]
    have ek : m - 1 = k := by omega
    rw [ek] at l3 l4
    rw [e] at t4
    refine ⟨⟨by omega, Nat.le_refl _, t3⟩, fun j j1 j2 => ?_, fun z => absurd (by rw [hs, ← l3]; exact z) h3, fun _ z => by omega⟩
    by_cases ej : j = i
    · rw [ej, hs, l3]
    · exact t4 j j1 (by omega)
  · rw [upN_n _ e]
    have : E (k + 1) < i := by
      have a1 := hmono (m - (k + 1)) (k + 1) (by omega)
      have a2 := (h4 (k + 1) (by omega)).1
      have a3 := (h5 (k + 1) (by omega)).1.1
      have a4 := hmono (m - (k + 1 + 1)) (k + 1 + 1) (by omega)
      omega
    exact ⟨⟨t1, by omega, t3⟩, t4, t5, fun a1 a2 => t6 a1 this⟩
theorem TKp.new (h : TKp b i m st E) (h0 : srt (b i) ≠ 0) (hn : 0 < i → srt (b i) = srt (b (i - 1)) → srt (b i) = 3) : TKp b (i + 1) (m + 1) (upN st m i) (upN E (m + 1) (i + 1)) := by
  have hlast := h.last
  have hmono := h.mono
  obtain ⟨⟨h1, h2, h3⟩, h4, h5⟩ := h
  refine ⟨⟨by rw [upN_n _ (by omega)]; exact h1, by rw [upN_s]; omega, fun j j1 j2 => by rw [upN_s] at j1; omega⟩, fun k hk => ?_, fun k hk => ?_⟩
  · rw [upN_n E (show k ≠ m + 1 by omega)]
    by_cases e : k = m
    · subst e; rw [upN_s]; exact ⟨h2, h3⟩
    · rw [upN_n st e]; exact h4 k (by omega)
  · by_cases e : k = m
    · subst e
      rw [upN_s, upN_s]
      exact ⟨⟨by omega, Nat.le_refl _, h0⟩, fun j j1 j2 => by rw [show j = i by omega], fun _ => rfl, fun _ z => by omega⟩
    · rw [upN_n st e, upN_n E (show k + 1 ≠ m + 1 by omega)]
      obtain ⟨⟨t1, t2, t3⟩, t4, t5, t6⟩ := h5 k (by omega)
      refine ⟨⟨t1, by omega, t3⟩, t4, t5, fun a1 a2 => ?_⟩
      by_cases ei : E (k + 1) = i
      · rw [ei]
        intro z
        have hi : 0 < i := by omega
        have hb := t4 (i - 1) (by omega) (by omega)
        exact a1 (by rw [← z]; exact hn hi (by rw [z, hb]))
      · exact t6 a1 (by omega)
theorem TKp.done (h : TKp b i m st E) : TKn b i m (upN st m i) E := by
  obtain ⟨⟨h1, h2, h3⟩, h4, h5⟩ := h
  refine ⟨⟨upN_s _ _ _, h1⟩, fun k hk => ?_, fun k hk => ?_⟩
  · by_cases e : k = m
    · subst e; rw [upN_s]; exact ⟨h2, h3⟩
    · rw [upN_n _ e]; exact h4 k (by omega)
  · rw [upN_n _ (by omega)]; exact h5 k hk
end SPLIT
