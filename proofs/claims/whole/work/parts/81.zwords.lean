/-! words at the other side's point -/
def wl (r : Nat) : Nat := (sBy (r - 100)).length
def wc (r i : Nat) : Int32 := (sBy (r - 100)).getD i 0 &&& 255
theorem wc_all : ∀ j, j < 81 → ∀ i, i < 12 → i < (sBy j).length → ∃ c, c < 128 ∧ (sBy j).getD i 0 &&& 255 = nI c := by
  have : ∀ j, j < 81 → ∀ i, i < 12 → i < (sBy j).length → ((sBy j).getD i 0 &&& 255).toBitVec.toNat < 128 := by decide +kernel
  intro j hj i hi hl
  exact ⟨_, this j hj i hi hl, nI_toBV _⟩
theorem wl_all : ∀ j, j < 81 → (sBy j).length < 60 := by decide +kernel
/-- the bytes from s to e are the string r -/
def spl (b : Nat → Nat) (s e r : Nat) : Bool := decide (e - s = wl r) && alB (fun i => decide (nI (b (s + i)) = wc r i)) (wl r)
theorem by_neg : ∀ x, x < 256 → 128 ≤ x → (nI x).toInt8.toInt32 < 0 := by decide +kernel
theorem by_wc {x c : Nat} (hx : x < 256) (hc : c < 128) : ((nI x).toInt8.toInt32 = nI c) = (nI x = nI c) := by
  by_cases h : x < 128
  · rw [(by_let x hx).2.2.1 h]
  · have h1 := by_neg x hx (by omega)
    refine propext ⟨fun z => ?_, fun z => ?_⟩
    · rw [z] at h1
      exact absurd h1 (Int32.not_lt.mpr (nI_pos' (by omega)))
    · have := (nI_eq (by omega) (by omega)).mp z
      omega
theorem sLen_e {r : Nat} (h : 100 ≤ r ∧ r < 181) : sLen r = some (nI (wl r)) := if_pos h
theorem sAt_e {r i : Nat} (h : 100 ≤ r ∧ r < 181) (hi : i < wl r) (h60 : wl r < 60) : sAt r (nI i) = some (wc r i) := by
  unfold sAt
  rw [nI_clamp (by omega), if_pos ⟨h, nI_pos' (by omega), hi⟩]
  rfl
section WORDS
variable {k n L q s e r : Nat} {b st E : Nat → Nat} {I I' : IM} {N K : NM} {J J' : IM} {M M' : Mem}
theorem pt_9 (J : IM) (q r : Nat) : pt J q r 1528 9 = nI q := by unfold pt; rw [u2_n _ _ _ _ (by omega), u2_s]
theorem pt_11 (J : IM) (q r : Nat) : pt J q r 1528 11 = nI r := by unfold pt; rw [u2_s]
theorem pt_o (J : IM) (q r : Nat) {c j : Nat} (h : ¬ (c = 1528 ∧ (j = 9 ∨ j = 11))) : pt J q r c j = J c j := by
  unfold pt; rw [u2_n _ _ _ _ (by omega), u2_n _ _ _ _ (by omega)]
theorem pt_ext {J1 J2 : IM} (h : ∀ c j, ¬ (c = 1528 ∧ (j = 9 ∨ j = 11)) → J1 c j = J2 c j) (h9 : J1 1528 9 = J2 1528 9) (h11 : J1 1528 11 = J2 1528 11) : J1 = J2 := by
  refine funext fun c => funext fun j => ?_
  by_cases e : c = 1528 ∧ (j = 9 ∨ j = 11)
  · obtain ⟨rfl, rfl | rfl⟩ := e
    · exact h9
    · exact h11
  · exact h c j e
theorem pt_pt (J : IM) (q r q' r' : Nat) : pt (pt J q r) q' r' = pt J q' r' := pt_ext (fun c j h => by rw [pt_o _ _ _ h, pt_o _ _ _ h, pt_o _ _ _ h]) (by rw [pt_9, pt_9]) (by rw [pt_11, pt_11])
theorem pt_u9 (J : IM) (q r q' : Nat) : u2 (pt J q r) 1528 9 (nI q') = pt J q' r := pt_ext (fun c j h => by rw [u2_n _ _ _ _ (by omega), pt_o _ _ _ h, pt_o _ _ _ h]) (by rw [u2_s, pt_9]) (by rw [u2_n _ _ _ _ (by omega), pt_11, pt_11])
theorem MBy.pt (hB : MBy J b L) (q r : Nat) : MBy (pt J q r) b L := by
  obtain ⟨⟨e10, hL⟩, hb⟩ := hB
  exact ⟨⟨by rw [pt_o _ _ _ (by omega)]; exact e10, hL⟩, fun k hk => ⟨(hb k hk).1, by rw [pt_o _ _ _ (by omega)]; exact (hb k hk).2⟩⟩
/-- where the letters end -/
def wE (b : Nat → Nat) (st E : Nat → Nat) (n k : Nat) : Nat := if k < n ∧ srt (b (st k)) = 1 then E (k + 1) else st k
theorem m_letters (hm : MN K) (hB : MBy J b L) (hT : TKn b L n st E) (hk : k ≤ n) (h1 : E k ≤ q) (h2 : q ≤ st k) (e9 : J 1528 9 = nI q) : F_Mo_letters 1528 (J, K) = some (pt J (wE b st E n k) (st k), K) := by
  have hr : st k ≤ L := by have := hT.le (n - k) k (by omega); omega
  unfold F_Mo_letters
  rw [ck_tt (show qS (J, K) 1528 = 19 from mo_k hm), m_blanks hm hB hT hk h1 h2 e9, Option.bind_some]

  have key : ∀ r, st k ≤ r → r ≤ L → (∀ j, st k ≤ j → j < r → srt (b j) = 1) → (r < L → srt (b r) ≠ 1) → loopN LIM (fun s1 : Mem => (ck (qS s1 1528 = 19)).bind fun h3 => (F_Mo_isAt 1528 97 122 s1).bind fun v2 => if v2 = 0 then (some (.inr (s1))) else ((fI s1 1528 19 9).bind fun v5 => (sI s1 1528 19 9 (v5 + (1 : Int32))).bind fun m6 => some (.inl m6))) (pt J (st k) (st k), K) = some (pt J r (st k), K) := by
    intro r a1 a2 a3 a4
    rw [m_run hm (hB.pt _ _) (r := r) (fun x hx => (by_srt x hx).2.1) a1 a2 a3 a4 (pt_9 _ _ _), pt_u9]
  unfold wE
  by_cases c : k < n ∧ srt (b (st k)) = 1
  · obtain ⟨⟨t1, t2, t3⟩, t4, t5, t6⟩ := hT.2.2 k c.1
    rw [if_pos c]
    exact key _ (by omega) t2 (fun j j1 j2 => by rw [t4 j j1 j2]; exact c.2) (fun hl => by have := t6 (by omega) hl; rwa [c.2] at this)
  · rw [if_neg c]
    refine key _ (Nat.le_refl _) hr (fun j j1 j2 => by omega) (fun hl z => c ⟨?_, z⟩)
    refine Nat.lt_of_le_of_ne hk fun e => ?_
    rw [e, hT.1.1] at hl; omega
theorem m_isWord (hm : MN K) (hB : MBy J b L) (hw : 100 ≤ r ∧ r < 181) (h12 : wl r ≤ 12) (hse : s ≤ e) (he : e ≤ L) : F_Mo_isWord 1528 r (pt J e s, K) = some (if spl b s e r = true then 1 else 0) := by
  have hL := hB.1.2
  have h60 := wl_all (r - 100) (by omega)
  have es : nI e - nI s = nI (e - s) := by rw [← Int32.toInt_inj, pk_sub_toInt (by omega) (by omega), nI_toInt (by omega)]; omega
  unfold F_Mo_isWord spl
  simp only [mo_f hm, pt_9, pt_11, sLen_e hw, es, Option.bind_some, reduceIte, if_true, if_false, Bool.false_eq_true, ck_tt]
  by_cases c : e - s = wl r
  · simp only [c, decide_true, Bool.true_and, Option.bind_some, reduceIte, if_true, if_false, Bool.false_eq_true, ck_tt]
    refine E1.eq (lq1 (fun i z => z = (if alB (fun i => decide (nI (b (s + i)) = wc r i)) i = true then 1 else 0, nI i)) _ (wl r) (lim_lt (by omega)) (Nat.zero_le _) rfl ?_ ?_)
    · rintro i z hi rfl
      cases ha : alB (fun i => decide (nI (b (s + i)) = wc r i)) i with
      | false =>
        simp only [Option.bind_some, reduceIte, if_true, if_false, Bool.false_eq_true, ck_tt, ck_tt (show (0 : Int32) = 0 ∨ (0 : Int32) = 1 from Or.inl rfl), true_or]
        refine E1.ok ?_
        show (0 : Int32) = _
        rw [if_neg]
        intro hz
        have := alB_iff.mp hz
        rw [alB_iff.mpr (fun j hj => this j (by omega))] at ha
        cases ha
      | true =>
        obtain ⟨cc, hc1, hc2⟩ := wc_all (r - 100) (by omega) i (by omega) hi
        have hc2 : wc r i = nI cc := hc2
        have hB1 := hB.pt e s
        obtain ⟨hx, ex⟩ := hB1.2 (s + i) (by omega)
        simp only [Option.bind_some, reduceIte, if_true, if_false, Bool.false_eq_true, ck_tt, i32_10, cm_leF hi (show wl r < 2 ^ 31 by omega), mo_r7 hm, mo_f hm, pt_11, nI_add, mo_ab hm (rfl : nI (s + i) = nI (s + i)) (show s + i < 400 by omega), ex, sAt_e hw hi h60, hc2, by_wc hx hc1]
        by_cases hz : nI (b (s + i)) = nI cc
        · simp only [hz, Option.bind_some, reduceIte, if_true, if_false, Bool.false_eq_true, ck_tt]
          refine E1.ok (Prod.ext ?_ (nI_1 i))
          show (1 : Int32) = if (alB _ i && decide (nI (b (s + i)) = wc r i)) = true then 1 else 0
          rw [ha, hc2, hz, decide_eq_true rfl]; rfl
        · simp only [hz, Option.bind_some, reduceIte, if_true, if_false, Bool.false_eq_true, ck_tt]
          refine E1.ok (Prod.ext ?_ (nI_1 i))
          show (0 : Int32) = if (alB _ i && decide (nI (b (s + i)) = wc r i)) = true then 1 else 0
          rw [ha, hc2, decide_eq_false hz]; rfl
    · rintro z rfl
      cases ha : alB (fun i => decide (nI (b (s + i)) = wc r i)) (wl r) with
      | false =>
        simp only [Option.bind_some, reduceIte, if_true, if_false, Bool.false_eq_true, ck_tt, true_or]
        exact E1.ok rfl
      | true =>
        simp only [Option.bind_some, reduceIte, if_true, if_false, Bool.false_eq_true, ck_tt, i32_10, cm_leT (Nat.le_refl (wl r)) (show wl r < 2 ^ 31 by omega), or_true]
        exact E1.ok rfl
  · have c' : (nI (e - s) = nI (wl r)) = False := cm_eqF c (by omega) (by omega)
    simp only [c, c', decide_false, Bool.false_and, Option.bind_some, reduceIte, if_true, if_false, Bool.false_eq_true, ck_tt]
    refine E1.eq (lq1 (fun i z => z = (0, nI 0)) _ 0 (lim_lt (by omega)) (Nat.le_refl _) rfl (fun i s hi => absurd hi (Nat.not_lt_zero _)) ?_)
    rintro z rfl
    simp only [Option.bind_some, reduceIte, if_true, if_false, Bool.false_eq_true, ck_tt, true_or]
    exact E1.ok rfl
end WORDS
