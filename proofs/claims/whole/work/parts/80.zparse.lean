/-! what is read: sorts of bytes, tokens, the other side's point -/
def srt (x : Nat) : Nat := if x = 32 then 0 else if 97 ≤ x ∧ x ≤ 122 then 1 else if 48 ≤ x ∧ x ≤ 57 then 2 else 3
theorem by_srt : ∀ x, x < 256 → (((32 : Int32) ≤ (nI x).toInt8.toInt32 ∧ (nI x).toInt8.toInt32 ≤ 32) ↔ srt x = 0) ∧ (((97 : Int32) ≤ (nI x).toInt8.toInt32 ∧ (nI x).toInt8.toInt32 ≤ 122) ↔ srt x = 1) ∧ (((48 : Int32) ≤ (nI x).toInt8.toInt32 ∧ (nI x).toInt8.toInt32 ≤ 57) ↔ srt x = 2) := by decide +kernel
theorem by_sign : ∀ c, c < 64 → ∀ x, x < 256 → ((nI c ≤ (nI x).toInt8.toInt32 ∧ (nI x).toInt8.toInt32 ≤ nI c) ↔ x = c) := by decide +kernel
/-- L bytes b are n tokens: token k goes from st k to E (k + 1); before it, from E k on, blanks; st n = L -/
def TKn (b : Nat → Nat) (L n : Nat) (st E : Nat → Nat) : Prop :=
  (st n = L ∧ E 0 = 0) ∧ (∀ k, k ≤ n → E k ≤ st k ∧ ∀ j, E k ≤ j → j < st k → srt (b j) = 0) ∧
  ∀ k, k < n → (st k < E (k + 1) ∧ E (k + 1) ≤ L ∧ srt (b (st k)) ≠ 0) ∧ (∀ j, st k ≤ j → j < E (k + 1) → srt (b j) = srt (b (st k))) ∧ (srt (b (st k)) = 3 → E (k + 1) = st k + 1) ∧ (srt (b (st k)) ≠ 3 → E (k + 1) < L → srt (b (E (k + 1))) ≠ srt (b (st k)))
/-- the other side's bytes -/
def MBy (J : IM) (b : Nat → Nat) (L : Nat) : Prop := (J 1528 10 = nI L ∧ L ≤ 400) ∧ ∀ k, k < L → b k < 256 ∧ J 1533 k = (nI (b k)).toInt8.toInt32
theorem TKn.le {b : Nat → Nat} {L n : Nat} {st E : Nat → Nat} (h : TKn b L n st E) : ∀ d k, k + d = n → st k + d ≤ L
  | 0, k, e => by
    have : k = n := by omega
    rw [this, h.1.1]; omega
  | d + 1, k, e => by
    have h1 := h.le d (k + 1) (by omega)
    have h2 := (h.2.2 k (by omega)).1.1
    have h3 := (h.2.1 (k + 1) (by omega)).1
    omega
theorem u2_u2 (I : IM) (c j : Nat) (x y : Int32) : u2 (u2 I c j x) c j y = u2 I c j y := by
  refine funext fun d => funext fun i => ?_
  by_cases e : d = c ∧ i = j
  · obtain ⟨rfl, rfl⟩ := e; rw [u2_s, u2_s]
  · rw [u2_n _ _ _ _ e, u2_n _ _ _ _ e, u2_n _ _ _ _ e]
section PARSE
variable {k n L q : Nat} {b st E : Nat → Nat} {I I' : IM} {N K : NM} {J J' : IM} {M M' : Mem}
theorem m_isAt (hm : MN K) (hB : MBy J b L) (hq : q ≤ L) (e9 : J 1528 9 = nI q) (lo hi : Int32) : F_Mo_isAt 1528 lo hi (J, K) = some (if q < L ∧ lo ≤ J 1533 q ∧ J 1533 q ≤ hi then 1 else 0) := by
  obtain ⟨⟨e10, hL⟩, hb⟩ := hB
  unfold F_Mo_isAt
  by_cases c : q < L
  · simp only [mo_f hm, e9, e10, Option.bind_some, reduceIte, if_true, if_false, Bool.false_eq_true, ck_tt, cm_leF c (show L < 2 ^ 31 by omega), mo_r7 hm, mo_ab hm (rfl : nI q = nI q) (show q < 400 by omega), c, true_and]
    by_cases c1 : J 1533 q < lo
    · rw [if_pos c1, if_neg (fun z => absurd z.1 (Int32.not_le.mpr c1))]; rfl
    · rw [if_neg c1]
      by_cases c2 : hi < J 1533 q
      · rw [if_pos c2, if_neg (fun z => absurd z.2 (Int32.not_le.mpr c2))]; rfl
      · rw [if_neg c2, if_pos ⟨Int32.not_lt.mp c1, Int32.not_lt.mp c2⟩]; rfl
  · simp only [mo_f hm, e9, e10, Option.bind_some, reduceIte, if_true, if_false, Bool.false_eq_true, ck_tt, cm_leT (Nat.not_lt.mp c) (show q < 2 ^ 31 by omega), c, false_and]
theorem MBy.u9 (hB : MBy J b L) (x : Int32) : MBy (u2 J 1528 9 x) b L := by
  obtain ⟨⟨e10, hL⟩, hb⟩ := hB
  exact ⟨⟨by rw [u2_n _ _ _ _ (by omega)]; exact e10, hL⟩, fun k hk => ⟨(hb k hk).1, by rw [u2_n _ _ _ _ (by omega)]; exact (hb k hk).2⟩⟩
/-- the point runs from q to r, where all between is of one range, r is not -/
theorem m_run (hm : MN K) (hB : MBy J b L) {r s : Nat} {lo top : Int32} (hs : ∀ x, x < 256 → ((lo ≤ (nI x).toInt8.toInt32 ∧ (nI x).toInt8.toInt32 ≤ top) ↔ srt x = s)) (h1 : q ≤ r) (h2 : r ≤ L) (hin : ∀ j, q ≤ j → j < r → srt (b j) = s) (hout : r < L → srt (b r) ≠ s) (e9 : J 1528 9 = nI q) :
    loopN LIM (fun s1 : Mem => (ck (qS s1 1528 = 19)).bind fun h3 => (F_Mo_isAt 1528 lo top s1).bind fun v2 => if v2 = 0 then (some (.inr (s1))) else ((fI s1 1528 19 9).bind fun v5 => (sI s1 1528 19 9 (v5 + (1 : Int32))).bind fun m6 => some (.inl m6))) (J, K) = some (u2 J 1528 9 (nI r), K) := by
  have hL := hB.1.2
  refine E1.eq (lq1 (fun i M => M = (u2 J 1528 9 (nI (q + i)), K)) _ (r - q) (lim_lt (by omega)) (Nat.zero_le _) ?_ ?_ ?_)
  · rw [Nat.add_zero, ← e9, u2_self]
  · rintro i M hi rfl
    have hB1 := hB.u9 (nI (q + i))
    obtain ⟨hx, ex⟩ := hB1.2 (q + i) (by omega)
    have hc : (q + i < L ∧ lo ≤ u2 J 1528 9 (nI (q + i)) 1533 (q + i) ∧ u2 J 1528 9 (nI (q + i)) 1533 (q + i) ≤ top) = True := eq_true ⟨by omega, by rw [ex]; exact (hs _ hx).mpr (hin _ (by omega) (by omega))⟩
    simp only [Option.bind_some, reduceIte, if_true, if_false, Bool.false_eq_true, ck_tt, v_qS, mo_k hm, m_isAt hm hB1 (show q + i ≤ L by omega) (u2_s _ _ _ _), hc, i32_10, mo_f hm, mo_s hm, u2_s, u2_u2]
    exact E1.ok (by rw [show nI (q + i) + (1 : Int32) = nI (q + (i + 1)) from nI_add (q + i) 1]; rfl)
  · rintro M rfl
    rw [show q + (r - q) = r by omega]
    have hB1 := hB.u9 (nI r)
    have hc : (r < L ∧ lo ≤ u2 J 1528 9 (nI r) 1533 r ∧ u2 J 1528 9 (nI r) 1533 r ≤ top) = False := eq_false fun z => by
      obtain ⟨hx, ex⟩ := hB1.2 r z.1
      rw [ex] at z
      exact hout z.1 ((hs _ hx).mp z.2)
    simp only [Option.bind_some, reduceIte, if_true, if_false, Bool.false_eq_true, ck_tt, v_qS, mo_k hm, m_isAt hm hB1 h2 (u2_s _ _ _ _), hc]
    exact E1.ok rfl
/-- the state with the point and the begin set -/
def pt (J : IM) (q r : Nat) : IM := u2 (u2 J 1528 9 (nI q)) 1528 11 (nI r)
theorem m_blanks (hm : MN K) (hB : MBy J b L) (hT : TKn b L n st E) (hk : k ≤ n) (h1 : E k ≤ q) (h2 : q ≤ st k) (e9 : J 1528 9 = nI q) : F_Mo_blanks 1528 (J, K) = some (pt J (st k) (st k), K) := by
  have hr : st k ≤ L := by have := hT.le (n - k) k (by omega); omega
  unfold F_Mo_blanks
  rw [m_run hm hB (r := st k) (fun x hx => (by_srt x hx).1) h2 hr (fun j j1 j2 => (hT.2.1 k hk).2 j (by omega) j2) (fun hlt => ?_) e9]
  · simp only [Option.bind_some, reduceIte, if_true, if_false, Bool.false_eq_true, ck_tt, mo_f hm, mo_s hm, u2_s]
    rfl
  · have : k < n := by
      refine Nat.lt_of_le_of_ne hk fun e => ?_
      rw [e, hT.1.1] at hlt; omega
    exact (hT.2.2 k this).1.2.2
end PARSE
