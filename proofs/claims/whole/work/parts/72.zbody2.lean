/-! the law's body: every case -/
section BODY2
variable {I I' I2 : IM} {N N' N2 K : NM} {J J' : IM} {M M' : Mem}
def trR : Nat → Int32 := (fun c => if c = 1 then 1 else if c = 3 then 2 else 0)
def trL : Nat → Int32 := (fun c => if c = 1 then 1 else 0)
theorem sc_at {L : Nat} {xs : Nat → Int32} {i : Int32} {n : Nat} (e : i = nI n) (h : n < L) (hL : L ≤ 3072) : scA L xs i = some (xs n) := by
  subst e
  unfold scA
  rw [nI_clamp (by omega), if_pos ⟨nI_pos' (by omega), h⟩]
theorem b01 (x : Int32) : (if x = 0 then (some (0 : Int32)) else (some (1 : Int32)) : Option (Int32)) = some (if x = 0 then 0 else 1) := by
  by_cases h : x = 0
  · rw [if_pos h, if_pos h]
  · rw [if_neg h, if_neg h]
theorem end_iff {L m : Nat} (hL : L ≤ 3072) (hm : m ≤ 4000) : (Int32.ofNat L - (6 : Int32) < nI m) ↔ L < m + 6 := by
  rw [Int32.lt_iff_toInt_lt, show Int32.ofNat L - (6 : Int32) = nI L - nI 6 from rfl, pk_sub_toInt (by omega) (by omega), nI_toInt (by omega)]
  omega
theorem body_ok (hroad : ∀ N I K J, INV2 N I K J → E2 (F_RR_road 1000 (I, N)) (F_Mo_road 1528 (J, K)) (Ex trR N I K J)) (hlaw : ∀ N I K J, INV2 N I K J → E2 (F_RR_law 1000 (I, N)) (F_Mo_law 1528 (J, K)) (Ex trL N I K J)) {L m : Nat} {xs : Nat → Int32} (hL : L ≤ 3072) (hm : m ≤ 3078) (hst : St M) : E1 (F_L_body 1000 1528 1537 L xs (nI m, M)) (fun r => BQ (nI m) r ∧ m + 6 ≤ L ∨ ∃ M', r = .inr (1, M')) := by
  obtain ⟨I, N, rfl, hst⟩ := hst
  have hN := hst.shp
  have k18 : qS (I, N) 1000 = 18 := sp_k hN
  unfold F_L_body
  dsimp only
  by_cases hend : L < m + 6
  · rw [if_pos ((end_iff hL (by omega)).mpr hend)]
    exact E1.ok (Or.inr ⟨_, rfl⟩)
  rw [if_neg (fun z => hend ((end_iff hL (by omega)).mp z))]
  have s0 : scA L xs (nI m) = some (xs m) := sc_at rfl (by omega) hL
  have s1 : scA L xs (nI m + (1 : Int32)) = some (xs (m + 1)) := sc_at (nI_add m 1) (by omega) hL
  have s2 : scA L xs (nI m + (2 : Int32)) = some (xs (m + 2)) := sc_at (nI_add m 2) (by omega) hL
  have s3 : scA L xs (nI m + (3 : Int32)) = some (xs (m + 3)) := sc_at (nI_add m 3) (by omega) hL
  have s4 : scA L xs (nI m + (4 : Int32)) = some (xs (m + 4)) := sc_at (nI_add m 4) (by omega) hL
  have s5 : scA L xs (nI m + (5 : Int32)) = some (xs (m + 5)) := sc_at (nI_add m 5) (by omega) hL
  rw [s0, Option.bind_some]
  have fin : ∀ {X : Bo}, E1 X (BQ (nI m)) → E1 X (fun r => BQ (nI m) r ∧ m + 6 ≤ L ∨ ∃ M', r = .inr (1, M')) := fun h => h.imp fun r hr => Or.inl ⟨hr, by omega⟩
  by_cases c0 : (xs m &&& (63 : Int32)) = (0 : Int32)
  · rw [if_pos c0]
    simp only [Option.bind_some, s1, s2, s3, s4, s5, ck_tt k18]
    exact fin (bodyP hst (B := F_Mo_feed 1528 (xs (m + 1)) (xs (m + 2)) (xs (m + 3)) (xs (m + 4)) (xs (m + 5))) (fun K J h => k_feed (xs (m + 1)) (xs (m + 2)) (xs (m + 3)) (xs (m + 4)) (xs (m + 5)) h) (nI m))
  rw [if_neg c0]
  by_cases c1 : (xs m &&& (63 : Int32)) = (1 : Int32)
  · rw [if_pos c1]
    simp only [Option.bind_some, s1, ck_tt k18]
    exact fin (bodyP hst (B := F_Mo_end 1528 (xs (m + 1))) (fun K J h => k_end (xs (m + 1)) h) (nI m))
  rw [if_neg c1]
  by_cases c2 : (xs m &&& (63 : Int32)) = (2 : Int32)
  · rw [if_pos c2]
    exact fin (bodyX (tr := trR) hst (B := F_Mo_road 1528) (hroad N I) (by unfold F_L_road; rw [ck_tt k18]) (fun c M hc => by
      by_cases e0 : c = 1
      · subst e0; rfl
      by_cases e1 : c = 3
      · subst e1; rfl
      exact absurd (by unfold trR; simp only [e0, e1, if_false]) hc) (nI m))
  rw [if_neg c2]
  by_cases c3 : (xs m &&& (63 : Int32)) = (3 : Int32)
  · rw [if_pos c3]
    exact fin (bodyX (tr := trL) hst (B := F_Mo_law 1528) (hlaw N I) (by unfold F_L_law; rw [ck_tt k18]) (fun c M hc => by
      by_cases e0 : c = 1
      · subst e0; rfl
      exact absurd (by unfold trL; simp only [e0, if_false]) hc) (nI m))
  rw [if_neg c3]
  by_cases c4 : (xs m &&& (63 : Int32)) = (4 : Int32)
  · rw [if_pos c4]
    simp only [Option.bind_some, ck_tt k18]
    exact fin (bodyQ hst (B := F_Mo_fault 1528) (fun K J h => k_fault h) (nI m))
  rw [if_neg c4]
  by_cases c5 : (xs m &&& (63 : Int32)) = (5 : Int32)
  · rw [if_pos c5]
    simp only [Option.bind_some, s1, s2]
    exact fin (bodyX (tr := (fun c => if c = 0 then 1 else if c = 4 then 2 else 0)) hst (B := F_Mo_gate 1528 (xs (m + 1)) (xs (m + 2))) (lf_call (fun K J h => k_gate (xs (m + 1)) (xs (m + 2)) h)) (by unfold F_L_gate; rw [ck_tt k18]; exact lf_bd (fun v M => (tL M 1537 (0 : Int32) v.toInt64).bind fun m4 => some ((0 : Int32), m4)) _) (fun c M hc => by
      by_cases e0 : c = 0
      · subst e0; rfl
      by_cases e1 : c = 4
      · subst e1; rfl
      exact absurd (by simp only [e0, e1, if_false]) hc) (nI m))
  rw [if_neg c5]
  by_cases c6 : (xs m &&& (63 : Int32)) = (6 : Int32)
  · rw [if_pos c6]
    simp only [Option.bind_some, s1, s2]
    exact fin (bodyX (tr := (fun c => if c = 0 then 1 else if c = 4 then 2 else 0)) hst (B := F_Mo_walker 1528 (xs (m + 1)) (xs (m + 2))) (lf_call (fun K J h => k_walker (xs (m + 1)) (xs (m + 2)) h)) (by unfold F_L_walker; rw [ck_tt k18]; exact lf_bd (fun v M => (tL M 1537 (0 : Int32) v.toInt64).bind fun m4 => some ((0 : Int32), m4)) _) (fun c M hc => by
      by_cases e0 : c = 0
      · subst e0; rfl
      by_cases e1 : c = 4
      · subst e1; rfl
      exact absurd (by simp only [e0, e1, if_false]) hc) (nI m))
  rw [if_neg c6]
  by_cases c7 : (xs m &&& (63 : Int32)) = (7 : Int32)
  · rw [if_pos c7]
    simp only [Option.bind_some, s1, s2]
    exact fin (bodyX (tr := tr1) hst (B := F_Mo_since 1528 (xs (m + 1)) (xs (m + 2))) (lf_call (fun K J h => k_since (xs (m + 1)) (xs (m + 2)) h)) (by unfold F_L_since; rw [ck_tt k18]; exact lf_bd (fun v M => (tL M 1537 (0 : Int32) v.toInt64).bind fun m4 => some ((0 : Int32), m4)) _) (fun c M hc => by
      by_cases e0 : c = 0
      · subst e0; rfl
      exact absurd (by unfold tr1; simp only [e0, if_false]) hc) (nI m))
  rw [if_neg c7]
  by_cases c8 : (xs m &&& (63 : Int32)) = (8 : Int32)
  · rw [if_pos c8]
    simp only [Option.bind_some, s1, s2]
    exact fin (bodyX (tr := tr1) hst (B := F_Mo_price 1528 (xs (m + 1)) (xs (m + 2))) (lf_call (fun K J h => k_price (xs (m + 1)) (xs (m + 2)) h)) (by unfold F_L_price; rw [ck_tt k18]; exact lf_bd (fun v M => (tL M 1537 (0 : Int32) v.toInt64).bind fun m4 => some ((0 : Int32), m4)) _) (fun c M hc => by
      by_cases e0 : c = 0
      · subst e0; rfl
      exact absurd (by unfold tr1; simp only [e0, if_false]) hc) (nI m))
  rw [if_neg c8]
  by_cases c9 : (xs m &&& (63 : Int32)) = (9 : Int32)
  · rw [if_pos c9]
    simp only [Option.bind_some, s1, s2, s3, b01]
    exact fin (bodyXb (tr := tr1) hst (B := F_Mo_may 1528 (xs (m + 1)) (xs (m + 2)) (if xs (m + 3) = 0 then 0 else 1)) (lf_call (fun K J h => k_may (xs (m + 1)) (xs (m + 2)) (if xs (m + 3) = 0 then 0 else 1) h)) (by unfold F_L_may; rw [ck_tt k18]; exact lf_bd (fun v M => (if v = 0 then (some (0 : Int64)) else (some (1 : Int64)) : Option (Int64)).bind fun s5 => (tL M 1537 (0 : Int32) s5).bind fun m6 => some ((0 : Int32), m6)) _) (fun c M hc => by
      by_cases e0 : c = 0
      · subst e0; rfl
      exact absurd (by unfold tr1; simp only [e0, if_false]) hc) (nI m))
  rw [if_neg c9]
  by_cases c10 : (xs m &&& (63 : Int32)) = (10 : Int32)
  · rw [if_pos c10]
    simp only [Option.bind_some, s1, s2]
    exact fin (bodyX (tr := tr1) hst (B := F_Mo_chance 1528 (xs (m + 1)) (xs (m + 2))) (fun K J h => k_chance (xs (m + 1)) (xs (m + 2)) h) (by unfold F_L_chance; rw [ck_tt k18]) (fun c M hc => by
      by_cases e0 : c = 0
      · subst e0; rfl
      exact absurd (by unfold tr1; simp only [e0, if_false]) hc) (nI m))
  rw [if_neg c10]
  by_cases c11 : (xs m &&& (63 : Int32)) = (11 : Int32)
  · rw [if_pos c11]
    simp only [Option.bind_some, s1]
    exact fin (bodyX (tr := (fun c => if c = 0 then 1 else if c = 2 then 2 else 0)) hst (B := F_Mo_pass 1528 (xs (m + 1))) (fun K J h => k_pass (xs (m + 1)) h) (by unfold F_L_pass; rw [ck_tt k18]) (fun c M hc => by
      by_cases e0 : c = 0
      · subst e0; rfl
      by_cases e1 : c = 2
      · subst e1; rfl
      exact absurd (by simp only [e0, e1, if_false]) hc) (nI m))
  rw [if_neg c11]
  by_cases c12 : (xs m &&& (63 : Int32)) = (12 : Int32)
  · rw [if_pos c12]
    simp only [Option.bind_some, s1]
    exact fin (bodyXb (tr := (fun c => if c = 0 then 1 else if c = 2 then 2 else 0)) hst (B := F_Mo_guess 1528 (xs (m + 1))) (fun K J h => k_guess (xs (m + 1)) h) (by unfold F_L_guess; rw [ck_tt k18]) (fun c M hc => by
      by_cases e0 : c = 0
      · subst e0; rfl
      by_cases e1 : c = 2
      · subst e1; rfl
      exact absurd (by simp only [e0, e1, if_false]) hc) (nI m))
  rw [if_neg c12]
  by_cases c13 : (xs m &&& (63 : Int32)) = (13 : Int32)
  · rw [if_pos c13]
    simp only [Option.bind_some, s1, s2, s3]
    exact fin (bodyX (tr := (fun c => if c = 0 then 1 else if c = 1 then 2 else if c = 2 then 3 else 0)) hst (B := F_Mo_sell 1528 (xs (m + 1)) (xs (m + 2)) (xs (m + 3))) (fun K J h => k_sell (xs (m + 1)) (xs (m + 2)) (xs (m + 3)) h) (by unfold F_L_sell; rw [ck_tt k18]) (fun c M hc => by
      by_cases e0 : c = 0
      · subst e0; rfl
      by_cases e1 : c = 1
      · subst e1; rfl
      by_cases e2 : c = 2
      · subst e2; rfl
      exact absurd (by simp only [e0, e1, e2, if_false]) hc) (nI m))
  rw [if_neg c13]
  by_cases c14 : (xs m &&& (63 : Int32)) = (14 : Int32)
  · rw [if_pos c14]
    simp only [Option.bind_some, s1, ck_tt k18]
    exact fin (bodyP hst (B := F_Mo_inn 1528 (xs (m + 1))) (fun K J h => k_inn (xs (m + 1)) h) (nI m))
  rw [if_neg c14]
  by_cases c15 : (xs m &&& (63 : Int32)) = (15 : Int32)
  · rw [if_pos c15]
    simp only [Option.bind_some, s1]
    exact fin (bodyX (tr := tr1) hst (B := F_Mo_walkBack 1528 (xs (m + 1))) (fun K J h => k_walkBack (xs (m + 1)) h) (by unfold F_L_walkBack; rw [ck_tt k18]) (fun c M hc => by
      by_cases e0 : c = 0
      · subst e0; rfl
      exact absurd (by unfold tr1; simp only [e0, if_false]) hc) (nI m))
  rw [if_neg c15]
  by_cases c16 : (xs m &&& (63 : Int32)) = (16 : Int32)
  · rw [if_pos c16]
    simp only [Option.bind_some, s1]
    exact fin (bodyX (tr := (fun c => if c = 1 then 1 else 0)) hst (B := F_Mo_days 1528 (xs (m + 1))) (fun K J h => k_days (xs (m + 1)) h) (by unfold F_L_days; rw [ck_tt k18]) (fun c M hc => by
      by_cases e0 : c = 1
      · subst e0; rfl
      exact absurd (by simp only [e0, if_false]) hc) (nI m))
  rw [if_neg c16]
  by_cases c17 : (xs m &&& (63 : Int32)) = (17 : Int32)
  · rw [if_pos c17]
    simp only [Option.bind_some, s1, ck_tt k18]
    exact fin (bodyP hst (B := F_Mo_seed 1528 (xs (m + 1))) (fun K J h => k_seed (xs (m + 1)) h) (nI m))
  rw [if_neg c17]
  by_cases c18 : (xs m &&& (63 : Int32)) = (18 : Int32)
  · rw [if_pos c18]
    simp only [Option.bind_some, s1, s2, s3, b01]
    exact fin (bodyX (tr := (fun c => if c = 0 then 1 else if c = 1 then 2 else 0)) hst (B := F_Mo_cheapest 1528 (xs (m + 1)) (xs (m + 2)) (if xs (m + 3) = 0 then 0 else 1)) (lf_call (fun K J h => k_cheapest (xs (m + 1)) (xs (m + 2)) (if xs (m + 3) = 0 then 0 else 1) h)) (by unfold F_L_cheapest; rw [ck_tt k18]; exact lf_bd (fun v M => (tL M 1537 (0 : Int32) v.toInt64).bind fun m4 => some ((0 : Int32), m4)) _) (fun c M hc => by
      by_cases e0 : c = 0
      · subst e0; rfl
      by_cases e1 : c = 1
      · subst e1; rfl
      exact absurd (by simp only [e0, e1, if_false]) hc) (nI m))
  rw [if_neg c18]
  by_cases c19 : (xs m &&& (63 : Int32)) = (19 : Int32)
  · rw [if_pos c19]
    simp only [Option.bind_some, s1, s2, s3, b01]
    exact fin (bodyX (tr := (fun c => if c = 1 then 1 else 0)) hst (B := F_Mo_convoy 1528 (xs (m + 1)) (xs (m + 2)) (if xs (m + 3) = 0 then 0 else 1)) (lf_call (fun K J h => k_convoy (xs (m + 1)) (xs (m + 2)) (if xs (m + 3) = 0 then 0 else 1) h)) (by unfold F_L_convoy; rw [ck_tt k18]; exact lf_bd (fun v M => (tL M 1537 (0 : Int32) v.toInt64).bind fun m4 => some ((0 : Int32), m4)) _) (fun c M hc => by
      by_cases e0 : c = 1
      · subst e0; rfl
      exact absurd (by simp only [e0, if_false]) hc) (nI m))
  rw [if_neg c19]
  by_cases c20 : (xs m &&& (63 : Int32)) = (20 : Int32)
  · rw [if_pos c20]
    simp only [Option.bind_some, s1, s2, s3]
    exact fin (bodyX (tr := (fun c => if c = 0 then 1 else if c = 1 then 2 else 0)) hst (B := F_Mo_tries 1528 (xs (m + 1)) (xs (m + 2)) (xs (m + 3))) (fun K J h => k_tries (xs (m + 1)) (xs (m + 2)) (xs (m + 3)) h) (by unfold F_L_tries; rw [ck_tt k18]) (fun c M hc => by
      by_cases e0 : c = 0
      · subst e0; rfl
      by_cases e1 : c = 1
      · subst e1; rfl
      exact absurd (by simp only [e0, e1, if_false]) hc) (nI m))
  rw [if_neg c20]
  by_cases c21 : (xs m &&& (63 : Int32)) = (21 : Int32)
  · rw [if_pos c21]
    simp only [Option.bind_some, s1, ck_tt k18]
    exact fin (bodyQ hst (B := F_Mo_bring 1528 (xs (m + 1))) (fun K J h => k_bring (xs (m + 1)) h) (nI m))
  rw [if_neg c21]
  by_cases c22 : (xs m &&& (63 : Int32)) = (22 : Int32)
  · rw [if_pos c22]
    simp only [Option.bind_some, s1]
    exact fin (bodyX (tr := tr1) hst (B := F_Mo_apart 1528 (xs (m + 1))) (lf_call (fun K J h => k_apart (xs (m + 1)) h)) (by unfold F_L_apart; rw [ck_tt k18]; exact lf_bd (fun v M => (tL M 1537 (0 : Int32) v.toInt64).bind fun m4 => some ((0 : Int32), m4)) _) (fun c M hc => by
      by_cases e0 : c = 0
      · subst e0; rfl
      exact absurd (by unfold tr1; simp only [e0, if_false]) hc) (nI m))
  rw [if_neg c22]
  by_cases c23 : (xs m &&& (63 : Int32)) = (23 : Int32)
  · rw [if_pos c23]
    exact fin (bodyX (tr := (fun c => if c = 1 then 1 else if c = 3 then 2 else 0)) hst (B := F_Mo_chain 1528) (fun K J h => k_chain h) (by unfold F_L_chain; rw [ck_tt k18]) (fun c M hc => by
      by_cases e0 : c = 1
      · subst e0; rfl
      by_cases e1 : c = 3
      · subst e1; rfl
      exact absurd (by simp only [e0, e1, if_false]) hc) (nI m))
  rw [if_neg c23]
  by_cases c24 : (xs m &&& (63 : Int32)) = (24 : Int32)
  · rw [if_pos c24]
    simp only [Option.bind_some, s1, s2]
    exact fin (bodyX (tr := tr1) hst (B := F_Mo_letter 1528 (xs (m + 1)) (xs (m + 2))) (lf_call (fun K J h => k_letter (xs (m + 1)) (xs (m + 2)) h)) (by unfold F_L_letter; rw [ck_tt k18]; exact lf_bd (fun v M => (tL M 1537 (0 : Int32) v.toInt64).bind fun m4 => some ((0 : Int32), m4)) _) (fun c M hc => by
      by_cases e0 : c = 0
      · subst e0; rfl
      exact absurd (by unfold tr1; simp only [e0, if_false]) hc) (nI m))
  rw [if_neg c24]
  by_cases c25 : (xs m &&& (63 : Int32)) = (25 : Int32)
  · rw [if_pos c25]
    simp only [Option.bind_some, ck_tt k18]
    exact fin (bodyP hst (B := F_Mo_forget 1528) (fun K J h => k_forget h) (nI m))
  rw [if_neg c25]
  by_cases c26 : (xs m &&& (63 : Int32)) = (26 : Int32)
  · rw [if_pos c26]
    simp only [Option.bind_some, s1, b01, ck_tt k18]
    exact fin (bodyP hst (B := F_Mo_questions 1528 (if xs (m + 1) = 0 then 0 else 1)) (fun K J h => k_questions (if xs (m + 1) = 0 then 0 else 1) h) (nI m))
  rw [if_neg c26]
  by_cases c27 : (xs m &&& (63 : Int32)) = (27 : Int32)
  · rw [if_pos c27]
    simp only [Option.bind_some, s1]
    exact fin (bodyX (tr := (fun c => if c = 1 then 1 else 0)) hst (B := F_Mo_lie 1528 (xs (m + 1))) (fun K J h => k_lie (xs (m + 1)) h) (by unfold F_L_lie; rw [ck_tt k18]) (fun c M hc => by
      by_cases e0 : c = 1
      · subst e0; rfl
      exact absurd (by simp only [e0, if_false]) hc) (nI m))
  rw [if_neg c27]
  by_cases c28 : (xs m &&& (63 : Int32)) = (28 : Int32)
  · rw [if_pos c28]
    simp only [Option.bind_some, s1]
    exact fin (bodyX (tr := (fun c => if c = 1 then 1 else 0)) hst (B := F_Mo_monday 1528 (xs (m + 1))) (lf_call (fun K J h => k_monday (xs (m + 1)) h)) (by unfold F_L_monday; rw [ck_tt k18]; exact lf_bd (fun v M => (tL M 1537 (0 : Int32) v.toInt64).bind fun m4 => some ((0 : Int32), m4)) _) (fun c M hc => by
      by_cases e0 : c = 1
      · subst e0; rfl
      exact absurd (by simp only [e0, if_false]) hc) (nI m))
  rw [if_neg c28]
  by_cases c29 : (xs m &&& (63 : Int32)) = (29 : Int32)
  · rw [if_pos c29]
    simp only [Option.bind_some, s1]
    exact fin (bodyX (tr := (fun c => if c = 1 then 1 else 0)) hst (B := F_Mo_live 1528 (xs (m + 1))) (fun K J h => k_live (xs (m + 1)) h) (by unfold F_L_live; rw [ck_tt k18]) (fun c M hc => by
      by_cases e0 : c = 1
      · subst e0; rfl
      exact absurd (by simp only [e0, if_false]) hc) (nI m))
  rw [if_neg c29]
  by_cases c30 : (xs m &&& (63 : Int32)) = (30 : Int32)
  · rw [if_pos c30]
    simp only [Option.bind_some, ck_tt k18]
    exact fin (bodyP hst (B := F_Mo_undo 1528) (fun K J h => k_undo h) (nI m))
  rw [if_neg c30]
  by_cases c31 : (xs m &&& (63 : Int32)) = (31 : Int32)
  · rw [if_pos c31]
    simp only [Option.bind_some, ck_tt k18]
    exact fin (bodyI hst (B := F_Mo_image 1528) (fun K J h => k_image h) (nI m))
  rw [if_neg c31]
  by_cases c32 : (xs m &&& (63 : Int32)) = (32 : Int32)
  · rw [if_pos c32]
    simp only [Option.bind_some, ck_tt k18]
    exact fin (bodyP hst (B := F_Mo_back 1528) (fun K J h => k_back h) (nI m))
  rw [if_neg c32]
  by_cases c33 : (xs m &&& (63 : Int32)) = (33 : Int32)
  · rw [if_pos c33]
    simp only [Option.bind_some, s1, ck_tt k18]
    exact fin (bodyQ hst (B := F_Mo_count 1528 (xs (m + 1))) (fun K J h => k_count (xs (m + 1)) h) (nI m))
  rw [if_neg c33]
  exact fin (E1.ok ⟨_, rfl, I, N, rfl, hst⟩)
end BODY2
