/-! words of both sides -/
section BRIDGE
variable {k n L r i : Nat} {b st E : Nat → Nat}
theorem spl_str {s e r r' : Nat} (h : sBy (r - 100) = sBy (r' - 100)) : spl b s e r = spl b s e r' := by
  unfold spl wl wc
  rw [h]
/-- the other side's word r is the token i's, and begins with a letter -/
theorem wd_iff (hT : TKn b L n st E) (hk : k < n) (hx : b (st k) < 256) (hr : sBy (r - 100) = sBy (100 + tokS.getD i 0 - 100)) (h1 : 1 ≤ wl r) (hlet : ∀ x, x < 256 → nI x = wc r 0 → srt x = 1) : isW b st E n k r = tkP b (st k) (E (k + 1)) i := by
  have hse := (hT.2.2 k hk).1.1
  unfold isW tkP
  rw [spl_str hr]
  unfold wE
  by_cases c : srt (b (st k)) = 1
  · rw [if_pos ⟨hk, c⟩]
  · rw [if_neg (fun z => c z.2)]
    have e1 : spl b (st k) (st k) (100 + tokS.getD i 0) = false := by
      rw [← spl_str hr]
      cases z : spl b (st k) (st k) r with
      | false => rfl
      | true => have := (spl_at z).1; omega
    rw [e1]
    rw [← spl_str hr]
    cases z : spl b (st k) (E (k + 1)) r with
    | false => rfl
    | true =>
      have := (spl_at z).2 0 (by omega)
      rw [Nat.add_zero] at this
      exact absurd (hlet _ hx this) c
end BRIDGE
