/-! what the other side's readers do at token k -/
def isW (b st E : Nat → Nat) (n k r : Nat) : Bool := spl b (st k) (wE b st E n k) r
def fE (b st E : Nat → Nat) (n k : Nat) : Nat := if k < n ∧ srt (b (st k)) = 2 then E (k + 1) else st k
/-- the number of the first figures from s on -/
def dgV (b : Nat → Nat) (s : Nat) : Nat → Int32
  | 0 => 0
  | i + 1 => ((10 : Int32) * dgV b s i + nI (b (s + i))) - 48
def fgN (b : Nat → Nat) (s e d : Nat) (top : Int32) : Int32 := if e = s ∨ d < e - s ∨ dgV b s (e - s) < 0 ∨ ¬ dgV b s (e - s) ≤ top then -1 else dgV b s (e - s)
section PRIMS
variable {k n L q s e r : Nat} {b st E : Nat → Nat} {I I' : IM} {N K : NM} {J J' : IM} {M M' : Mem}
theorem TKn.st_le (hT : TKn b L n st E) (hk : k ≤ n) : st k ≤ L := by have := hT.le (n - k) k (by omega); omega
theorem TKn.st_lt (hT : TKn b L n st E) (hk : k ≤ n) : st k < L ↔ k < n := by
  constructor
  · intro h
    refine Nat.lt_of_le_of_ne hk fun e => ?_
    rw [e, hT.1.1] at h; omega
  · intro h
    have := (hT.2.2 k h).1
    omega
theorem isW_lt (h : isW b st E n k r = true) (h1 : 1 ≤ wl r) : k < n ∧ srt (b (st k)) = 1 ∧ wE b st E n k = E (k + 1) := by
  unfold isW spl at h
  have h2 : wE b st E n k - st k = wl r := of_decide_eq_true (Bool.and_eq_true_iff.mp h).1
  unfold wE at h2 ⊢
  by_cases c : k < n ∧ srt (b (st k)) = 1
  · rw [if_pos c]; exact ⟨c.1, c.2, rfl⟩
  · rw [if_neg c] at h2; omega
theorem m_passes (hm : MN K) (hB : MBy J b L) (hT : TKn b L n st E) (hk : k ≤ n) (h1 : E k ≤ q) (h2 : q ≤ st k) (e9 : J 1528 9 = nI q) (hw : 100 ≤ r ∧ r < 181) (hl : 1 ≤ wl r ∧ wl r ≤ 12) : F_Mo_passes 1528 r (J, K) = some (if isW b st E n k r = true then (1, (pt J (E (k + 1)) (st k), K)) else (0, (pt J (st k) (st k), K))) := by
  have hw1 : st k ≤ wE b st E n k ∧ wE b st E n k ≤ L := by
    unfold wE
    have := hT.st_le hk
    by_cases c : k < n ∧ srt (b (st k)) = 1
    · rw [if_pos c]
      have := (hT.2.2 k c.1).1
      omega
    · rw [if_neg c]; omega
  have hi := m_isWord (J := J) hm hB hw hl.2 hw1.1 hw1.2
  unfold F_Mo_passes
  rw [ck_tt (show qS (J, K) 1528 = 19 from mo_k hm), m_letters hm hB hT hk h1 h2 e9, Option.bind_some, ck_tt (show qS (pt J (wE b st E n k) (st k), K) 1528 = 19 from mo_k hm), hi, Option.bind_some]
  cases c : isW b st E n k r with
  | false =>
    have c' : spl b (st k) (wE b st E n k) r = false := c
    simp only [c', Option.bind_some, reduceIte, if_true, if_false, Bool.false_eq_true, ck_tt, mo_f hm, mo_s hm, pt_11, pt_u9]
  | true =>
    have c' : spl b (st k) (wE b st E n k) r = true := c
    simp only [c', Option.bind_some, reduceIte, if_true, if_false, Bool.false_eq_true, ck_tt, i32_10]
    rw [(isW_lt c hl.1).2.2]
theorem m_sign (hm : MN K) (hB : MBy J b L) (hT : TKn b L n st E) (hk : k ≤ n) (h1 : E k ≤ q) (h2 : q ≤ st k) (e9 : J 1528 9 = nI q) {c : Nat} (hc : c < 64) : F_Mo_sign 1528 (nI c) (J, K) = some (if k < n ∧ b (st k) = c then (1, (pt J (st k + 1) (st k), K)) else (0, (pt J (st k) (st k), K))) := by
  have hr := hT.st_le hk
  unfold F_Mo_sign
  rw [ck_tt (show qS (J, K) 1528 = 19 from mo_k hm), m_blanks hm hB hT hk h1 h2 e9, Option.bind_some, ck_tt (show qS (pt J (st k) (st k), K) 1528 = 19 from mo_k hm), m_isAt hm (hB.pt _ _) hr (pt_9 _ _ _), Option.bind_some]
  have key : (st k < L ∧ nI c ≤ pt J (st k) (st k) 1533 (st k) ∧ pt J (st k) (st k) 1533 (st k) ≤ nI c) = (k < n ∧ b (st k) = c) := by
    refine propext ⟨fun z => ?_, fun z => ?_⟩
    · obtain ⟨hx, ex⟩ := (hB.pt (st k) (st k)).2 (st k) z.1
      rw [ex] at z
      exact ⟨(hT.st_lt hk).mp z.1, (by_sign c hc _ hx).mp z.2⟩
    · have hl := (hT.st_lt hk).mpr z.1
      obtain ⟨hx, ex⟩ := (hB.pt (st k) (st k)).2 (st k) hl
      rw [ex]
      exact ⟨hl, (by_sign c hc _ hx).mpr z.2⟩
  simp only [key]
  by_cases z : k < n ∧ b (st k) = c
  · simp only [z, and_self, Option.bind_some, reduceIte, if_true, if_false, Bool.false_eq_true, ck_tt, i32_10, mo_f hm, mo_s hm, pt_9]
    rw [show nI (st k) + (1 : Int32) = nI (st k + 1) from nI_add (st k) 1, pt_u9]
  · simp only [z, Option.bind_some, reduceIte, if_true, if_false, Bool.false_eq_true, ck_tt]
theorem srt_2 : ∀ x, x < 256 → srt x = 2 → (48 ≤ x ∧ x ≤ 57) := by decide +kernel
theorem m_fig (hm : MN K) (hB : MBy J b L) (hT : TKn b L n st E) (hk : k ≤ n) (h1 : E k ≤ q) (h2 : q ≤ st k) (e9 : J 1528 9 = nI q) {d : Nat} (hd : d < 10) (top : Int32) : F_Mo_figures 1528 0 top (nI d) (J, K) = some (fgN b (st k) (fE b st E n k) d top, (pt J (fE b st E n k) (st k), K)) := by
  have hr := hT.st_le hk
  have hL := hB.1.2
  have hf : st k ≤ fE b st E n k ∧ fE b st E n k ≤ L ∧ (∀ j, st k ≤ j → j < fE b st E n k → srt (b j) = 2) ∧ (fE b st E n k < L → srt (b (fE b st E n k)) ≠ 2) := by
    unfold fE
    by_cases c : k < n ∧ srt (b (st k)) = 2
    · obtain ⟨⟨t1, t2, t3⟩, t4, t5, t6⟩ := hT.2.2 k c.1
      rw [if_pos c]
      exact ⟨by omega, t2, fun j j1 j2 => by rw [t4 j j1 j2]; exact c.2, fun hl => by have := t6 (by omega) hl; rwa [c.2] at this⟩
    · rw [if_neg c]
      exact ⟨Nat.le_refl _, hr, fun j j1 j2 => by omega, fun hl z => c ⟨(hT.st_lt hk).mp hl, z⟩⟩
  generalize hs : st k = s at *
  generalize fE b st E n k = e at *
  obtain ⟨f1, f2, f3, f4⟩ := hf
  have sub : ∀ i, s ≤ i → i ≤ L → nI i - nI s = nI (i - s) := fun i i1 i2 => by rw [← Int32.toInt_inj, pk_sub_toInt (by omega) (by omega), nI_toInt (by omega)]; omega
  unfold F_Mo_figures
  have hbl := m_blanks hm hB hT hk h1 (by omega) e9
  rw [hs] at hbl
  rw [ck_tt (show qS (J, K) 1528 = 19 from mo_k hm), hbl, Option.bind_some]
  refine E1.eq (E1.bind (P := fun u => u = (dgV b s (min (e - s) d), (pt J e s, K))) ?_ ?_)
  · refine lq1 (fun i z => z = (dgV b s (min i d), (pt J (s + i) s, K))) _ (e - s) (lim_lt (by omega)) (Nat.zero_le _) (by rw [Nat.zero_min]; rfl) ?_ ?_
    · rintro i z hi rfl
      have hB1 := hB.pt (s + i) s
      obtain ⟨hx, ex⟩ := hB1.2 (s + i) (by omega)
      have h2' := f3 (s + i) (by omega) (by omega)
      have hdg := srt_2 _ hx h2'
      have hc : (s + i < L ∧ (48 : Int32) ≤ pt J (s + i) s 1533 (s + i) ∧ pt J (s + i) s 1533 (s + i) ≤ 57) = True := eq_true ⟨by omega, by rw [ex]; exact (by_srt _ hx).2.2.mpr h2'⟩
      simp only [Option.bind_some, reduceIte, if_true, if_false, Bool.false_eq_true, ck_tt, v_qS, mo_k hm, m_isAt hm hB1 (show s + i ≤ L by omega) (pt_9 _ _ _), hc, i32_10, mo_f hm, mo_s hm, pt_9, pt_11, sub (s + i) (by omega) (by omega)]
      rw [show s + i - s = i by omega, show nI (s + i) + (1 : Int32) = nI (s + (i + 1)) from nI_add (s + i) 1, pt_u9]
      by_cases cd : d ≤ i
      · simp only [cm_leT cd (show i < 2 ^ 31 by omega), Option.bind_some, reduceIte, if_true, if_false, Bool.false_eq_true, ck_tt]
        refine E1.ok ?_
        show (_, _) = (_, _)
        rw [Nat.min_eq_right cd, Nat.min_eq_right (by omega)]
      · simp only [cm_leF (show i < d by omega) (show d < 2 ^ 31 by omega), Option.bind_some, reduceIte, if_true, if_false, Bool.false_eq_true, ck_tt, mo_r7 hm, mo_ab hm (rfl : nI (s + i) = nI (s + i)) (show s + i < 400 by omega), ex, (by_let _ hx).2.2.1 (by omega)]
        refine E1.ok ?_
        show (_, _) = (_, _)
        rw [Nat.min_eq_left (by omega), Nat.min_eq_left (by omega)]
        rfl
    · rintro z rfl
      rw [show s + (e - s) = e by omega]
      have hB1 := hB.pt e s
      have hc : (e < L ∧ (48 : Int32) ≤ pt J e s 1533 e ∧ pt J e s 1533 e ≤ 57) = False := eq_false fun z => by
        obtain ⟨hx, ex⟩ := hB1.2 e z.1
        rw [ex] at z
        exact f4 z.1 ((by_srt _ hx).2.2.mp z.2)
      simp only [Option.bind_some, reduceIte, if_true, if_false, Bool.false_eq_true, ck_tt, v_qS, mo_k hm, m_isAt hm hB1 f2 (pt_9 _ _ _), hc]
      exact E1.ok rfl
  · rintro _ rfl
    simp only [mo_f hm, pt_9, pt_11, sub e f1 f2, Option.bind_some, reduceIte, if_true, if_false, Bool.false_eq_true, ck_tt]
    unfold fgN
    by_cases c1 : e = s
    · simp only [c1, true_or, Option.bind_some, reduceIte, if_true, if_false, Bool.false_eq_true, ck_tt]
      exact E1.ok rfl
    · have c1' : (nI e = nI s) = False := cm_eqF c1 (by omega) (by omega)
      simp only [c1, c1', false_or, Option.bind_some, reduceIte, if_true, if_false, Bool.false_eq_true, ck_tt]
      by_cases c2 : d < e - s
      · simp only [c2, cm_ltT c2 (show e - s < 2 ^ 31 by omega), true_or, Option.bind_some, reduceIte, if_true, if_false, Bool.false_eq_true, ck_tt]
        exact E1.ok rfl
      · simp only [c2, cm_ltF (show e - s ≤ d by omega) (show d < 2 ^ 31 by omega), false_or, Option.bind_some, reduceIte, if_true, if_false, Bool.false_eq_true, ck_tt, Nat.min_eq_left (show e - s ≤ d by omega)]
        by_cases c3 : dgV b s (e - s) < 0
        · simp only [c3, true_or, Option.bind_some, reduceIte, if_true, if_false, Bool.false_eq_true, ck_tt]
          exact E1.ok rfl
        · simp only [c3, false_or, Option.bind_some, reduceIte, if_true, if_false, Bool.false_eq_true, ck_tt]
          by_cases c4 : dgV b s (e - s) ≤ top
          · simp only [c4, not_true_eq_false, Option.bind_some, reduceIte, if_true, if_false, Bool.false_eq_true, ck_tt]
            exact E1.ok rfl
          · simp only [c4, not_false_eq_true, Option.bind_some, reduceIte, if_true, if_false, Bool.false_eq_true, ck_tt]
            exact E1.ok rfl
end PRIMS
