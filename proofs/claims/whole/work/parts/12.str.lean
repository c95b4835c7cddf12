/-! the JDK's small methods: Enum.ordinal, String.length, String.charAt -/
def sBy (j : Nat) : List Int32 := match strT[j]? with
  | some q => q.2.2.2
  | none => []
def sLen (r : Nat) : Option Int32 := if 100 ≤ r ∧ r < 181 then some (Int32.ofNat (sBy (r - 100)).length) else none
def sAt (r : Nat) (i : Int32) : Option Int32 := if (100 ≤ r ∧ r < 181) ∧ 0 ≤ i ∧ i.toNatClampNeg < (sBy (r - 100)).length then some ((sBy (r - 100)).getD i.toNatClampNeg 0 &&& 255) else none
def tOrd (r : Nat) : Option Int32 := if 1 ≤ r ∧ r ≤ 36 then some (Int32.ofNat (r - 1)) else none
theorem strT_at {r : Nat} (h : 100 ≤ r ∧ r < 181) : ∃ q, strT[r - 100]? = some q ∧ sBy (r - 100) = q.2.2.2 ∧ 100 + (r - 100) = r := by
  have hl : strT.length = 81 := by decide +kernel
  have h1 : r - 100 < strT.length := by omega
  refine ⟨strT[r - 100], List.getElem?_eq_getElem h1, ?_, by omega⟩
  unfold sBy
  rw [List.getElem?_eq_getElem h1]
theorem tokO_at : ∀ i, i < 36 → tokO.getD i 0 = Int32.ofNat i := by decide +kernel
theorem byt_ok : ∀ j, j < 81 → (sBy j).length < 100 := by decide +kernel
def m_ord : My := (yJx29ce0_ordinal_8abf5, cJx29ce0_ordinal_8abf5, 1, some .int, { frames := 0, cells := 0, slots := 0, locals := 0 }, [])
def m_coder : My := (yJ0_coder_7d493, cJ0_coder_7d493, 1, some .byte, { frames := 0, cells := 0, slots := 0, locals := 0 }, [])
def m_isLatin1 : My := (yJ0_isLatin1_aae02, cJ0_isLatin1_aae02, 1, some .boolean, { frames := 0, cells := 0, slots := 0, locals := 0 }, [])
def m_slen : My := (yJ0_length_8abf5, cJ0_length_8abf5, 1, some .int, { frames := 1, cells := 0, slots := 0, locals := 20 }, [])
def m_pchk : My := (yJ3_checkIndex_8e157, cJ3_checkIndex_8e157, 3, some .int, { frames := 0, cells := 0, slots := 0, locals := 0 }, [])
def m_schk : My := (yJ0_checkIndex_df160, cJ0_checkIndex_df160, 2, none, { frames := 1, cells := 0, slots := 0, locals := 22 }, [])
def m_lat : My := (yJ1_charAt_3b067, cJ1_charAt_3b067, 2, some .char, { frames := 2, cells := 0, slots := 0, locals := 43 }, [])
def m_scat : My := (yJ0_charAt_5068e, cJ0_charAt_5068e, 2, some .char, { frames := 3, cells := 0, slots := 0, locals := 64 }, [])
theorem yg_ord : YG m_ord := in_gw (by decide +kernel)
theorem yg_coder : YG m_coder := in_gw (by decide +kernel)
theorem yg_isLatin1 : YG m_isLatin1 := in_gw (by decide +kernel)
theorem yg_slen : YG m_slen := in_gw (by decide +kernel)
theorem yg_pchk : YG m_pchk := in_gw (by decide +kernel)
theorem yg_schk : YG m_schk := in_gw (by decide +kernel)
theorem yg_lat : YG m_lat := in_gw (by decide +kernel)
theorem yg_scat : YG m_scat := in_gw (by decide +kernel)
theorem vl_slen_coder : VL RJ0 335 RJ0 yJ0_coder_7d493 0 := ⟨Or.inl (in_gw (by decide +kernel)), in_gw (by decide +kernel), in_gw (by decide +kernel), in_gw (by decide +kernel), by decide +kernel, by decide +kernel, by decide +kernel⟩
theorem vl_scat_isLatin1 : VL RJ0 492 RJ0 yJ0_isLatin1_aae02 0 := ⟨Or.inl (in_gw (by decide +kernel)), in_gw (by decide +kernel), in_gw (by decide +kernel), in_gw (by decide +kernel), by decide +kernel, by decide +kernel, by decide +kernel⟩
theorem sl_schk_pchk : SL RJ0 1059 yJ3_checkIndex_8e157 3 := ⟨Or.inl (in_gw (by decide +kernel)), in_gw (by decide +kernel), in_gw (by decide +kernel), by decide +kernel, by decide +kernel, by decide +kernel⟩
theorem sl_lat_schk : SL RJ1 9 yJ0_checkIndex_df160 2 := ⟨Or.inl (in_gw (by decide +kernel)), in_gw (by decide +kernel), in_gw (by decide +kernel), by decide +kernel, by decide +kernel, by decide +kernel⟩
theorem sl_scat_lat : SL RJ0 495 yJ1_charAt_3b067 2 := ⟨Or.inl (in_gw (by decide +kernel)), in_gw (by decide +kernel), in_gw (by decide +kernel), by decide +kernel, by decide +kernel, by decide +kernel⟩
section GStr
variable {X : Cx} {Y : My} {P : List Frame → Array Value → State → State → Prop} {pc : Nat} {ls st : List Value} {cs ss : Nat} {M : Mem}
theorem RC.tok {r : Nat} (h : 1 ≤ r ∧ r ≤ 36) : RC X M r RX10 := fun s H hK hR => by
  have hO := (hK.2.2.2.1.2.1.2.2.1.1 (r - 1) (show r - 1 < 36 by omega)).2.1
  dsimp only at hO
  rw [show r - 1 + 1 = r by omega] at hO
  obtain ⟨cell, g1, g2, g3, g4⟩ := hO.kept (kept_c (s := s) hR.2.1)
  refine ⟨by omega, cell, ?_, g2, g3⟩
  unfold ra
  rw [if_pos (by omega)]
  exact g1
theorem RC.str {r : Nat} (h : 100 ≤ r ∧ r < 181) : RC X M r RJ0 := fun s H hK hR => by
  obtain ⟨q, h1, -, h3⟩ := strT_at h
  have hO := (hK.2.2.2.1.2.1.2.1 (r - 100) q h1).1
  rw [h3] at hO
  obtain ⟨cell, g1, g2, g3, g4⟩ := hO.kept (kept_c (s := s) hR.2.1)
  refine ⟨by omega, cell, ?_, g2, g3⟩
  unfold ra
  rw [if_pos (by omega)]
  exact g1
theorem g_comp {idx : Nat} (d : decode (yC Y) pc = .ok (.getstatic idx, 3)) (hl : Cond.fieldLink (yN Y).cls idx "java/lang/String" "COMPACT_STRINGS" "Z" ∈ gw) (kk : G X Y P (pc + 3) ls (.int 1 :: st) cs ss M) : G X Y P pc ls st cs ss M := by
  intro p e s m args below meth c F H locs la hR hS hL
  exact va_gets F.1.1 F.1.2.1 (F.kc.2.2.2.2.2.2.1.kept F.kept) hS F.1.2.2.2.1 (F.2.1 _ hl) (fun _ h => h) d (kk p e s m args below meth c F H locs la hR hS hL)
theorem g_sio {idx : Nat} (d : decode (yC Y) pc = .ok (.getstatic idx, 3)) (hl : Cond.fieldLink (yN Y).cls idx "jdk/internal/util/Preconditions" "SIOOBE_FORMATTER" "Ljava/util/function/BiFunction;" ∈ gw) (kk : ∀ r, G X Y P (pc + 3) ls (.ref r :: st) cs ss M) : G X Y P pc ls st cs ss M := by
  intro p e s m args below meth c F H locs la hR hS hL
  rcases F.kc.2.2.2.2.2.2.2 with h | h
  · exact va_gets F.1.1 F.1.2.1 (h.kept F.kept) hS F.1.2.2.2.1 (F.2.1 _ hl) (fun _ h => h) d (kk 0 p e s m args below meth c F H locs la hR hS hL)
  · have k := kk 999 p e s m args below meth c F H locs la hR hS hL
    rw [List.map_cons, cv_c (by omega) (by omega)] at k
    exact va_gets F.1.1 F.1.2.1 (h.kept F.kept) hS F.1.2.2.2.1 (F.2.1 _ hl) (fun _ h => h) d k
theorem g_sval {idx r : Nat} (d : decode (yC Y) pc = .ok (.getfield idx, 3)) (hl : Cond.fieldLink (yN Y).cls idx "java/lang/String" "value" "[B" ∈ gw) (h : 100 ≤ r ∧ r < 181) (kk : G X Y P (pc + 3) ls (.ref (200 + r) :: st) cs ss M) : G X Y P pc ls (.ref r :: st) cs ss M := by
  intro p e s m args below meth c F H locs la hR hS hL
  obtain ⟨q, h1, -, h3⟩ := strT_at h
  have hf := (F.kc.2.1 (r - 100) q h1).2.2.1.kept F.kept
  rw [h3, show 300 + (r - 100) = 200 + r by omega] at hf
  have k := kk p e s m args below meth c F H locs la hR hS hL
  rw [List.map_cons, cv_c (by omega) (by omega)] at k
  rw [List.map_cons, cv_c (a := r) (by omega) (by omega)]
  exact vk_getf F.1.1 F.1.2.1 hf hS F.1.2.2.2.1 (F.2.1 _ hl) (fun _ h => h) d k
theorem g_scod {idx r : Nat} (d : decode (yC Y) pc = .ok (.getfield idx, 3)) (hl : Cond.fieldLink (yN Y).cls idx "java/lang/String" "coder" "B" ∈ gw) (h : 100 ≤ r ∧ r < 181) (kk : G X Y P (pc + 3) ls (.int 0 :: st) cs ss M) : G X Y P pc ls (.ref r :: st) cs ss M := by
  intro p e s m args below meth c F H locs la hR hS hL
  obtain ⟨q, h1, -, h3⟩ := strT_at h
  have hf := (F.kc.2.1 (r - 100) q h1).2.1.kept F.kept
  rw [h3] at hf
  rw [List.map_cons, cv_c (a := r) (by omega) (by omega)]
  exact vk_getf F.1.1 F.1.2.1 hf hS F.1.2.2.2.1 (F.2.1 _ hl) (fun _ h => h) d (kk p e s m args below meth c F H locs la hR hS hL)
theorem g_svl {r : Nat} (d : decode (yC Y) pc = .ok (.arraylength, 1)) (h : 100 ≤ r ∧ r < 181) (kk : G X Y P (pc + 1) ls (.int (Int32.ofNat (sBy (r - 100)).length) :: st) cs ss M) : G X Y P pc ls (.ref (200 + r) :: st) cs ss M := by
  intro p e s m args below meth c F H locs la hR hS hL
  obtain ⟨q, h1, h2, h3⟩ := strT_at h
  have hf := (F.kc.2.1 (r - 100) q h1).2.2.2.kept F.kept
  rw [show 300 + (r - 100) = 200 + r by omega] at hf
  rw [List.map_cons, cv_c (a := 200 + r) (by omega) (by omega)]
  exact va_tlen F.1.1 F.1.2.1 hf hS (by rw [h2]) d (kk p e s m args below meth c F H locs la hR hS hL)
theorem g_svb {r : Nat} {i : Int32} (d : decode (yC Y) pc = .ok (.baload, 1)) (h : 100 ≤ r ∧ r < 181) (h0 : 0 ≤ i) (hi : i.toNatClampNeg < (sBy (r - 100)).length) (kk : G X Y P (pc + 1) ls (.int ((sBy (r - 100)).getD i.toNatClampNeg 0) :: st) cs ss M) : G X Y P pc ls (.int i :: .ref (200 + r) :: st) cs ss M := by
  intro p e s m args below meth c F H locs la hR hS hL
  obtain ⟨q, h1, h2, h3⟩ := strT_at h
  have hf := (F.kc.2.1 (r - 100) q h1).2.2.2.kept F.kept
  rw [show 300 + (r - 100) = 200 + r by omega] at hf
  rw [List.map_cons, List.map_cons, cv_c (a := 200 + r) (by omega) (by omega)]
  exact va_tb F.1.1 F.1.2.1 hf hS (vin h0 (by rw [← h2]; exact hi)) (by rw [h2]; rfl) d (kk p e s m args below meth c F H locs la hR hS hL)
theorem ct_ord {r : Nat} {x : Int32} (h : tOrd r = some x) : Ct X m_ord [.ref r] M (.inl (.int x), M) := by
  obtain ⟨h1, rfl⟩ := ite_s h
  refine Ct.of (by decide +kernel) rfl rfl ?_
  refine g_aload_n (r := r) dJx29ce0_ordinal_8abf5_0 rfl ?_
  refine fun p e s m args below meth c F H locs la hR hS hL => ?_
  have hf := (F.kc.2.2.1.1 (r - 1) (show r - 1 < 36 by omega)).2.2 ("java/lang/Enum", "ordinal", "I", tokO) List.mem_cons_self
  have hf := hf.kept F.kept
  dsimp only at hf
  rw [show r - 1 + 1 = r by omega, tokO_at (r - 1) (by omega)] at hf
  have k := g_iret (X := X) (Y := m_ord) (v := Int32.ofNat (r - 1)) (M := M) (ls := ent0 m_ord [.ref r]) (cs := 0) (ss := 0) dJx29ce0_ordinal_8abf5_4 rfl rfl p e s m args below meth c F H locs la hR hS hL
  rw [List.map_cons, cv_c (a := r) (by omega) (by omega)]
  exact vk_getf F.1.1 F.1.2.1 hf hS F.1.2.2.2.1 (F.2.1 (Cond.fieldLink RJx29ce0 7 "java/lang/Enum" "ordinal" "I") (in_gw (by decide +kernel))) (fun _ h => h) dJx29ce0_ordinal_8abf5_1 k
theorem ct_coder {r : Nat} (h : 100 ≤ r ∧ r < 181) : Ct X m_coder [.ref r] M (.inl (.int 0), M) := by
  refine Ct.of (by decide +kernel) rfl rfl ?_
  refine g_comp dJ0_coder_7d493_0 (in_gw (by decide +kernel)) ?_
  refine g_if_eq 13 dJ0_coder_7d493_3 (by decide) (fun q => absurd q (by decide)) (fun _ => ?_)
  refine g_aload_n (r := r) dJ0_coder_7d493_6 rfl ?_
  refine g_scod dJ0_coder_7d493_7 (in_gw (by decide +kernel)) h ?_
  refine g_goto 14 dJ0_coder_7d493_10 (by decide) ?_
  exact g_nret (ty := .byte) dJ0_coder_7d493_14 rfl (by decide) rfl
theorem ct_isLatin1 {r : Nat} (h : 100 ≤ r ∧ r < 181) : Ct X m_isLatin1 [.ref r] M (.inl (.int 1), M) := by
  refine Ct.of (by decide +kernel) rfl rfl ?_
  refine g_comp dJ0_isLatin1_aae02_0 (in_gw (by decide +kernel)) ?_
  refine g_if_eq 17 dJ0_isLatin1_aae02_3 (by decide) (fun q => absurd q (by decide)) (fun _ => ?_)
  refine g_aload_n (r := r) dJ0_isLatin1_aae02_6 rfl ?_
  refine g_scod dJ0_isLatin1_aae02_7 (in_gw (by decide +kernel)) h ?_
  refine g_if_ne 17 dJ0_isLatin1_aae02_10 (by decide) (fun q => absurd rfl q) (fun _ => ?_)
  refine g_iconst (v := 1) dJ0_isLatin1_aae02_13 (by decide) ?_
  refine g_goto 18 dJ0_isLatin1_aae02_14 (by decide) ?_
  exact g_zret dJ0_isLatin1_aae02_18 rfl (Or.inr rfl) rfl
theorem ct_slen {r : Nat} {x : Int32} (h : sLen r = some x) : Ct X m_slen [.ref r] M (.inl (.int x), M) := by
  obtain ⟨h1, rfl⟩ := ite_s h
  refine Ct.of (by decide +kernel) rfl rfl ?_
  refine g_aload_n (r := r) dJ0_length_8abf5_0 rfl ?_
  refine g_sval dJ0_length_8abf5_1 (in_gw (by decide +kernel)) h1 ?_
  refine g_svl dJ0_length_8abf5_4 h1 ?_
  refine g_aload_n (r := r) dJ0_length_8abf5_5 rfl ?_
  refine g_callV (as := []) (rvs := [.int 0]) 0 0 dJ0_length_8abf5_6 yg_coder vl_slen_coder (ct_coder h1) (RC.str h1) rfl rfl rfl (Nat.le_of_ble_eq_true rfl) rfl rfl rfl ?_
  refine g_ishr dJ0_length_8abf5_9 ?_
  rw [sb_shr0]
  exact g_iret dJ0_length_8abf5_10 rfl rfl
theorem ct_pchk {i n : Int32} {r : Nat} (h0 : 0 ≤ i) (h1 : i < n) : Ct X m_pchk [.int i, .int n, .ref r] M (.inl (.int i), M) := by
  refine Ct.of (by decide +kernel) rfl rfl ?_
  refine g_iload_n (x := i) dJ3_checkIndex_8e157_0 rfl ?_
  refine g_if_lt 9 dJ3_checkIndex_8e157_1 (by decide) (fun q => absurd q (Int32.not_lt.mpr h0)) (fun _ => ?_)
  refine g_iload_n (x := i) dJ3_checkIndex_8e157_4 rfl ?_
  refine g_iload_n (x := n) dJ3_checkIndex_8e157_5 rfl ?_
  refine g_icmp_lt 16 dJ3_checkIndex_8e157_6 (by decide) (fun _ => ?_) (fun q => absurd h1 q)
  refine g_iload_n (x := i) dJ3_checkIndex_8e157_16 rfl ?_
  exact g_iret dJ3_checkIndex_8e157_17 rfl rfl
theorem ct_schk {i n : Int32} (h0 : 0 ≤ i) (h1 : i < n) : Ct X m_schk [.int i, .int n] M (.inl (.retAddr 0), M) := by
  refine Ct.of (by decide +kernel) rfl rfl ?_
  refine g_iload_n (x := i) dJ0_checkIndex_df160_0 rfl ?_
  refine g_iload_n (x := n) dJ0_checkIndex_df160_1 rfl ?_
  refine g_sio dJ0_checkIndex_df160_2 (in_gw (by decide +kernel)) (fun r => ?_)
  refine g_callS (as := [.int i, .int n, .ref r]) (st := []) (rvs := [.int i]) 0 0 dJ0_checkIndex_df160_5 yg_pchk sl_schk_pchk (ct_pchk h0 h1) rfl rfl rfl (Nat.le_of_ble_eq_true rfl) rfl rfl rfl ?_
  refine g_pop dJ0_checkIndex_df160_8 rfl ?_
  exact g_vret dJ0_checkIndex_df160_9 rfl rfl
theorem ct_lat {r : Nat} {i : Int32} (h : 100 ≤ r ∧ r < 181) (h0 : 0 ≤ i) (hi : i.toNatClampNeg < (sBy (r - 100)).length) : Ct X m_lat [.ref (200 + r), .int i] M (.inl (.int ((sBy (r - 100)).getD i.toNatClampNeg 0 &&& 255)), M) := by
  have hlt : i < Int32.ofNat (sBy (r - 100)).length := by
    have hb := byt_ok (r - 100) (by omega)
    rw [Int32.lt_iff_toInt_lt]
    have h9 := nI_toInt (n := (sBy (r - 100)).length) (by omega)
    have h8 : i.toInt = (i.toNatClampNeg : Int) := by
      have hz0 : (0 : Int) ≤ i.toInt := by simpa using Int32.le_iff_toInt_le.mp h0
      show i.toInt = ((i.toInt.toNat : Nat) : Int)
      omega
    unfold nI at h9
    rw [h9, h8]
    omega
  refine Ct.of (by decide +kernel) rfl rfl ?_
  refine g_iload_n (x := i) dJ1_charAt_3b067_0 rfl ?_
  refine g_aload_n (r := 200 + r) dJ1_charAt_3b067_1 rfl ?_
  refine g_svl dJ1_charAt_3b067_2 h ?_
  refine g_callS (as := [.int i, .int (Int32.ofNat (sBy (r - 100)).length)]) (st := []) (rvs := []) 0 0 dJ1_charAt_3b067_3 yg_schk sl_lat_schk (ct_schk h0 hlt) rfl rfl rfl (Nat.le_of_ble_eq_true rfl) rfl rfl rfl ?_
  refine g_aload_n (r := 200 + r) dJ1_charAt_3b067_6 rfl ?_
  refine g_iload_n (x := i) dJ1_charAt_3b067_7 rfl ?_
  refine g_svb dJ1_charAt_3b067_8 h h0 hi ?_
  refine g_sipush (v := 255) dJ1_charAt_3b067_9 (by decide) ?_
  refine g_iand dJ1_charAt_3b067_12 ?_
  refine g_i2c dJ1_charAt_3b067_13 ?_
  rw [sc_c2]
  exact g_nret (ty := .char) dJ1_charAt_3b067_14 rfl (sc_nar _) rfl
theorem ct_scat {r : Nat} {i x : Int32} (h : sAt r i = some x) : Ct X m_scat [.ref r, .int i] M (.inl (.int x), M) := by
  obtain ⟨⟨h1, h0, hi⟩, rfl⟩ := ite_s h
  refine Ct.of (by decide +kernel) rfl rfl ?_
  refine g_aload_n (r := r) dJ0_charAt_5068e_0 rfl ?_
  refine g_callV (as := []) (rvs := [.int 1]) 0 0 dJ0_charAt_5068e_1 yg_isLatin1 vl_scat_isLatin1 (ct_isLatin1 h1) (RC.str h1) rfl rfl rfl (Nat.le_of_ble_eq_true rfl) rfl rfl rfl ?_
  refine g_if_eq 16 dJ0_charAt_5068e_4 (by decide) (fun q => absurd q (by decide)) (fun _ => ?_)
  refine g_aload_n (r := r) dJ0_charAt_5068e_7 rfl ?_
  refine g_sval dJ0_charAt_5068e_8 (in_gw (by decide +kernel)) h1 ?_
  refine g_iload_n (x := i) dJ0_charAt_5068e_11 rfl ?_
  refine g_callS (as := [.ref (200 + r), .int i]) (st := []) (rvs := [.int ((sBy (r - 100)).getD i.toNatClampNeg 0 &&& 255)]) 0 0 dJ0_charAt_5068e_12 yg_lat sl_scat_lat (ct_lat h1 h0 hi) rfl rfl rfl (Nat.le_of_ble_eq_true rfl) rfl rfl rfl ?_
  exact g_nret (ty := .char) dJ0_charAt_5068e_15 rfl (sc_nar _) rfl
end GStr
