/-! the road's small readers -/
section ROAD1
variable {k n L q s e r t i c x d g w : Nat} {b st E : Nat → Nat} {I I' : IM} {N N' K : NM} {J J' : IM} {W : Nat → Int32}
/-- a number that was read is one -/
theorem nuV_val {top : Int32} (h : TC N I b L n st E k) (hd : d ≤ 4) (hn : 0 ≤ nuV b st E n k d top) : ∃ v, v < 10 ^ 4 ∧ nuV b st E n k d top = nI v ∧ nI v ≤ top := by
  have hlt := nuV_lt hn
  unfold nuV fgN at hn ⊢
  rw [hlt.2] at hn ⊢
  by_cases c : E (k + 1) = st k ∨ d < E (k + 1) - st k ∨ dgV b (st k) (E (k + 1) - st k) < 0 ∨ ¬ dgV b (st k) (E (k + 1) - st k) ≤ top
  · rw [if_pos c] at hn
    exact absurd hn (by decide)
  · rw [if_neg c]
    have hd2 : srt (b (st k)) = 2 := by
      by_cases z : srt (b (st k)) = 2
      · exact z
      · exfalso
        have := hlt.2
        unfold fE at this
        rw [if_neg (fun y => z y.2)] at this
        exact c (Or.inl this.symm)
    obtain ⟨⟨w1, w2, w3⟩, w4, -⟩ := h.2.1.2.2 k hlt.1
    have c2 : ¬ d < E (k + 1) - st k := fun z => c (Or.inr (Or.inl z))
    obtain ⟨v, hv, ev⟩ := dg_nn (b := b) (s := st k) (E (k + 1) - st k) (by omega) fun j hj => srt_2 _ (h.1.2 _ (by omega)).1 (by rw [w4 _ (by omega) (by omega)]; exact hd2)
    refine ⟨v, Nat.lt_of_lt_of_le hv (Nat.pow_le_pow_right (by omega) (by omega)), ev, ?_⟩
    rw [← ev]
    by_cases z : dgV b (st k) (E (k + 1) - st k) ≤ top
    · exact z
    · exact absurd (Or.inr (Or.inr (Or.inr z))) c
theorem nuV_neg {top : Int32} (hn : ¬ 0 ≤ nuV b st E n k d top) : nuV b st E n k d top = -1 := by
  unfold nuV fgN at hn ⊢
  by_cases c : fE b st E n k = st k ∨ d < fE b st E n k - st k ∨ dgV b (st k) (fE b st E n k - st k) < 0 ∨ ¬ dgV b (st k) (fE b st E n k - st k) ≤ top
  · rw [if_pos c]
  · rw [if_neg c] at hn
    exfalso
    exact hn (Int32.not_lt.mp fun z => c (Or.inr (Or.inr (Or.inl z))))
theorem c_oneGate (h : BT N I J b L n st E k) (hs : Shp N) (eg : I 1040 0 = nI g) : F_RoadReader_readOneGate 1073 (I, N) = some (nuV b st E n k 3 (nI g - 1), if 0 ≤ nuV b st E n k 3 (nI g - 1) then (u2 I 1003 6 (nI (k + 1)), N) else (I, N)) := by
  obtain ⟨k0, r0, r1⟩ := hs.2.2.2.2.1
  have kt : kS N 1003 = 16 := hs.2.2.1.1
  have kw := wa_k hs.2.2.2.1.2.1
  unfold F_RoadReader_readOneGate
  simp only [v_fR k0, r0, r1, v_fI kw, eg, Option.bind_some, reduceIte, if_true, if_false, Bool.false_eq_true, ck_tt, v_qS, kt, show (3 : Int32) = nI 3 from rfl, h.figC hs (show 3 ≤ 4 by omega)]
end ROAD1
