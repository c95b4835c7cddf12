/-! arrays -/
def aty (t : Nat) : FieldType := match t with
  | 1 => .int
  | 2 => .byte
  | 3 => .long
  | 4 => .object RX10
  | 5 => .object RX11
  | _ => .array .int
def aI (M : Mem) (a : Nat) (i : Int32) : Option Int32 := if qS M a = 1 ∧ 0 ≤ i ∧ i.toNatClampNeg < qN M a then some (qI M a i.toNatClampNeg) else none
def aB (M : Mem) (a : Nat) (i : Int32) : Option Int32 := if qS M a = 2 ∧ 0 ≤ i ∧ i.toNatClampNeg < qN M a then some (qI M a i.toNatClampNeg) else none
def aL (M : Mem) (a : Nat) (i : Int32) : Option Int64 := if qS M a = 3 ∧ 0 ≤ i ∧ i.toNatClampNeg < qN M a then some (qL M a i.toNatClampNeg) else none
def aR (M : Mem) (a t : Nat) (i : Int32) : Option Nat := if qS M a = t ∧ 0 ≤ i ∧ i.toNatClampNeg < qN M a then some (qR M a i.toNatClampNeg) else none
def tI (M : Mem) (a : Nat) (i v : Int32) : Option Mem := if qS M a = 1 ∧ 0 ≤ i ∧ i.toNatClampNeg < qN M a then some (pI M a i.toNatClampNeg v) else none
def tB (M : Mem) (a : Nat) (i v : Int32) : Option Mem := if qS M a = 2 ∧ 0 ≤ i ∧ i.toNatClampNeg < qN M a then some (pI M a i.toNatClampNeg v.toInt8.toInt32) else none
def tL (M : Mem) (a : Nat) (i : Int32) (v : Int64) : Option Mem := if qS M a = 3 ∧ 0 ≤ i ∧ i.toNatClampNeg < qN M a then some (pL M a i.toNatClampNeg v) else none
def aN (M : Mem) (a : Nat) : Option Int32 := if 1 ≤ qS M a ∧ qS M a ≤ 6 then some (Int32.ofNat (qN M a)) else none
theorem ite_s {c : Prop} [Decidable c] {α : Type} {a b : α} (h : (if c then some a else none) = some b) : c ∧ a = b := by
  by_cases e : c
  · rw [if_pos e] at h; exact ⟨e, Option.some.inj h⟩
  · rw [if_neg e] at h; cases h
theorem vin {i : Int32} {n : Nat} (h0 : 0 ≤ i) (h1 : i.toNatClampNeg < n) : vp_in i n := by
  intro q
  rcases q with q | q
  · exact absurd h0 (Int32.not_le.mpr q)
  · omega
theorem ent_1 {X : Cx} {M : Mem} {a : Nat} (h : qS M a = 1) : ent X M a = .inl (xA X 1, qN M a, .inl (qI M a)) := by unfold ent; rw [if_pos h]
theorem ent_2 {X : Cx} {M : Mem} {a : Nat} (h : qS M a = 2) : ent X M a = .inl (xA X 2, qN M a, .inl (qI M a)) := by unfold ent; rw [h, if_neg (by decide), if_pos rfl]
theorem ent_3 {X : Cx} {M : Mem} {a : Nat} (h : qS M a = 3) : ent X M a = .inl (xA X 3, qN M a, .inr (.inl (qL M a))) := by unfold ent; rw [h, if_neg (by decide), if_neg (by decide), if_pos rfl]
theorem ent_r {X : Cx} {M : Mem} {a t : Nat} (h : qS M a = t) (h1 : 4 ≤ t) (h2 : t < 10) : ent X M a = .inl (xA X t, qN M a, .inr (.inr (.inr (.inr (fun j => rf X (qR M a j)))))) := by
  unfold ent; rw [h, if_neg (by omega), if_neg (by omega), if_neg (by omega), if_pos h2]
theorem one_P {X : Cx} {a : Nat} {x : va_E} {H : Heap} (h : va_at (xD X) vwCl (a, x) H) : va_P (xD X) vwCl [(a, x)] H := fun i q hq => by
  cases i with
  | zero => cases hq; exact h
  | succ i => cases hq
section GA
variable {X : Cx} {Y : My} {P : List Frame → Array Value → State → State → Prop} {pc : Nat} {ls st : List Value} {cs ss : Nat} {M : Mem}
theorem g_aI {a : Nat} {i x : Int32} (d : decode (yC Y) pc = .ok (.iaload, 1)) (h : aI M a i = some x) (kk : G X Y P (pc + 1) ls (.int x :: st) cs ss M) : G X Y P pc ls (.int i :: .ref a :: st) cs ss M := by
  intro p e s m args below meth c F H locs la hR hS hL
  obtain ⟨⟨h1, h2, h3⟩, rfl⟩ := ite_s h
  have h0 : qS M a ≠ 0 := by omega
  have hP := one_P (ent_1 (X := X) h1 ▸ hR.at h0 (by omega))
  rw [List.map_cons, List.map_cons, cv_ref X (hR.ne h0)]
  exact va_iald F.1.1 F.1.2.1 F.2.2.1.1 hP 0 0 rfl rfl (vin h2 h3) d (kk p e s m args below meth c F H locs la hR hS hL)
theorem g_aB {a : Nat} {i x : Int32} (d : decode (yC Y) pc = .ok (.baload, 1)) (h : aB M a i = some x) (kk : G X Y P (pc + 1) ls (.int x :: st) cs ss M) : G X Y P pc ls (.int i :: .ref a :: st) cs ss M := by
  intro p e s m args below meth c F H locs la hR hS hL
  obtain ⟨⟨h1, h2, h3⟩, rfl⟩ := ite_s h
  have h0 : qS M a ≠ 0 := by omega
  have hP := one_P (ent_2 (X := X) h1 ▸ hR.at h0 (by omega))
  rw [List.map_cons, List.map_cons, cv_ref X (hR.ne h0)]
  exact va_bald F.1.1 F.1.2.1 F.2.2.1.1 hP 0 1 rfl rfl (vin h2 h3) d (kk p e s m args below meth c F H locs la hR hS hL)
theorem g_aL {a : Nat} {i : Int32} {x : Int64} (d : decode (yC Y) pc = .ok (.laload, 1)) (h : aL M a i = some x) (kk : G X Y P (pc + 1) ls (.long x :: st) cs ss M) : G X Y P pc ls (.int i :: .ref a :: st) cs ss M := by
  intro p e s m args below meth c F H locs la hR hS hL
  obtain ⟨⟨h1, h2, h3⟩, rfl⟩ := ite_s h
  have h0 : qS M a ≠ 0 := by omega
  have hP := one_P (ent_3 (X := X) h1 ▸ hR.at h0 (by omega))
  rw [List.map_cons, List.map_cons, cv_ref X (hR.ne h0)]
  exact va_lald F.1.1 F.1.2.1 F.2.2.1.1 hP 0 2 rfl rfl (vin h2 h3) d (kk p e s m args below meth c F H locs la hR hS hL)
theorem tys_at (X : Cx) {t : Nat} (h1 : 1 ≤ t) (h2 : t ≤ 6) : (tysX X)[t - 1]? = some (xA X t, aty t) := by
  obtain rfl | rfl | rfl | rfl | rfl | rfl : t = 1 ∨ t = 2 ∨ t = 3 ∨ t = 4 ∨ t = 5 ∨ t = 6 := by omega
  all_goals rfl
theorem aty_ref {t : Nat} (h1 : 4 ≤ t) (h2 : t ≤ 6) : (aty t).isReference = true := by
  obtain rfl | rfl | rfl : t = 4 ∨ t = 5 ∨ t = 6 := by omega
  all_goals rfl
theorem g_aR {a t : Nat} {i : Int32} {x : Nat} (d : decode (yC Y) pc = .ok (.aaload, 1)) (ht : (decide (4 ≤ t) && decide (t ≤ 6)) = true) (h : aR M a t i = some x) (kk : G X Y P (pc + 1) ls (.ref x :: st) cs ss M) : G X Y P pc ls (.int i :: .ref a :: st) cs ss M := by
  intro p e s m args below meth c F H locs la hR hS hL
  rw [Bool.and_eq_true, decide_eq_true_eq, decide_eq_true_eq] at ht
  obtain ⟨⟨h1, h2, h3⟩, rfl⟩ := ite_s h
  have h0 : qS M a ≠ 0 := by omega
  have hP := hR.at h0 (by omega)
  rw [ent_r (X := X) h1 ht.1 (by omega)] at hP
  rw [List.map_cons, List.map_cons, cv_ref X (hR.ne h0)]
  refine W.aald (v := va_rf (rf X (qR M a i.toNatClampNeg))) (ty := aty t) F.1.1 F.1.2.1 hP ((F.2.2.1.1.2 (t - 1) _ (tys_at X (by omega) ht.2)).1 (qN M a) (fun j => va_rf (rf X (qR M a j)))) (aty_ref ht.1 ht.2) (fun q => by cases q) ?_ ?_ rfl rfl d (kk p e s m args below meth c F H locs la hR hS hL)
  · show ¬ (i < 0 ∨ (arrV _ _ _).slots.size ≤ _)
    rw [arrV_size]
    exact vin h2 h3
  · show (arrV _ _ _).slots[_]? = _
    rw [arrV_read _ _ h3]
theorem g_aN {a : Nat} {x : Int32} (d : decode (yC Y) pc = .ok (.arraylength, 1)) (h : aN M a = some x) (kk : G X Y P (pc + 1) ls (.int x :: st) cs ss M) : G X Y P pc ls (.ref a :: st) cs ss M := by
  intro p e s m args below meth c F H locs la hR hS hL
  obtain ⟨⟨h1, h2⟩, rfl⟩ := ite_s h
  have h0 : qS M a ≠ 0 := by omega
  have hP := hR.at h0 (by omega)
  rw [List.map_cons, cv_ref X (hR.ne h0)]
  have hk := kk p e s m args below meth c F H locs la hR hS hL
  have key : ∀ x : vp_A, x.1 = qN M a → va_at (xD X) vwCl (ra X a, .inl (xA X (qS M a), x)) H → W p (xl X) e (yR Y) s m args below meth c H locs cs ss (P below args s) (F0 m pc la (.ref (ra X a) :: st.map (cv X))) := fun x hx hat =>
    va_alen (v := Int32.ofNat (qN M a)) F.1.1 F.1.2.1 F.2.2.1.1 (one_P hat) 0 (qS M a - 1) rfl (tys_at X h1 h2) (by rw [hx]) d hk
  by_cases e1 : qS M a = 1
  · rw [ent_1 e1] at hP
    exact key (qN M a, .inl (qI M a)) rfl (by rw [e1]; exact hP)
  by_cases e2 : qS M a = 2
  · rw [ent_2 e2] at hP
    exact key (qN M a, .inl (qI M a)) rfl (by rw [e2]; exact hP)
  by_cases e3 : qS M a = 3
  · rw [ent_3 e3] at hP
    exact key (qN M a, .inr (.inl (qL M a))) rfl (by rw [e3]; exact hP)
  rw [ent_r rfl (by omega) (by omega)] at hP
  exact key (qN M a, .inr (.inr (.inr (.inr (fun j => rf X (qR M a j)))))) rfl hP
theorem qI_pI_row (M : Mem) (a k : Nat) (v : Int32) : qI (pI M a k v) a = upd (qI M a) k v := by
  funext j
  by_cases e : j = k
  · subst e
    rw [qI_pI_s]
    exact (if_pos rfl).symm
  · rw [qI_pI_n M v (fun z => e z.2)]
    exact (if_neg e).symm
theorem g_tI {a : Nat} {i v : Int32} {M' : Mem} (d : decode (yC Y) pc = .ok (.iastore, 1)) (h : tI M a i v = some M') (kk : G X Y P (pc + 1) ls st cs ss M') : G X Y P pc ls (.int v :: .int i :: .ref a :: st) cs ss M := by
  intro p e s m args below meth c F H locs la hR hS hL
  obtain ⟨⟨h1, h2, h3⟩, rfl⟩ := ite_s h
  have h0 : qS M a ≠ 0 := by omega
  have hP := hR.at h0 (by omega)
  rw [ent_1 h1] at hP
  rw [List.map_cons, List.map_cons, List.map_cons, cv_ref X (hR.ne h0)]
  refine W.iast (x := v) F.1.1 F.1.2.1 hP ((F.2.2.1.1.2 0 _ rfl).1 (qN M a) (fun j => .int (qI M a j))) (fun q => by cases q) ?_ rfl rfl d fun H1 g1 g2 g3 => ?_
  · show ¬ (i < 0 ∨ (arrV _ _ _).slots.size ≤ _)
    rw [arrV_size]
    exact vin h2 h3
  · refine kk p e s m args below meth c F H1 _ la (hR.upd (a := a) h0 rfl (fun _ => rfl) (fun b hb => ent_pI hb) ?_ g2 g3) (hS.put g2 g3 (hR.A h0)) hL
    rw [ent_1 (show qS (pI M a _ v) a = 1 from h1), qI_pI_row]
    show H1[ra X a]? = some (vp_cell _ _)
    rw [g1, vp_cell_i, vp_cell_i, arrV_store]
    congr 2
    funext q
    by_cases hq : q = i.toNatClampNeg
    · subst hq; simp [updV, upd]
    · simp [updV, upd, hq]
theorem g_tB {a : Nat} {i v : Int32} {M' : Mem} (d : decode (yC Y) pc = .ok (.bastore, 1)) (h : tB M a i v = some M') (kk : G X Y P (pc + 1) ls st cs ss M') : G X Y P pc ls (.int v :: .int i :: .ref a :: st) cs ss M := by
  intro p e s m args below meth c F H locs la hR hS hL
  obtain ⟨⟨h1, h2, h3⟩, rfl⟩ := ite_s h
  have h0 : qS M a ≠ 0 := by omega
  have hP := hR.at h0 (by omega)
  rw [ent_2 h1] at hP
  rw [List.map_cons, List.map_cons, List.map_cons, cv_ref X (hR.ne h0)]
  refine W.bast (x := v) F.1.1 F.1.2.1 hP ((F.2.2.1.1.2 1 _ rfl).1 (qN M a) (fun j => .int (qI M a j))) (fun q => by cases q) ?_ rfl rfl d fun H1 g1 g2 g3 => ?_
  · show ¬ (i < 0 ∨ (arrV _ _ _).slots.size ≤ _)
    rw [arrV_size]
    exact vin h2 h3
  · refine kk p e s m args below meth c F H1 _ la (hR.upd (a := a) h0 rfl (fun _ => rfl) (fun b hb => ent_pI hb) ?_ g2 g3) (hS.put g2 g3 (hR.A h0)) hL
    rw [ent_2 (show qS (pI M a _ _) a = 2 from h1), qI_pI_row]
    show H1[ra X a]? = some (vp_cell _ _)
    rw [g1, vp_cell_i, vp_cell_i, arrV_store]
    congr 2
    funext q
    by_cases hq : q = i.toNatClampNeg
    · subst hq
      simp [updV, upd]
      rfl
    · simp [updV, upd, hq]
theorem g_tL {a : Nat} {i : Int32} {v : Int64} {M' : Mem} (d : decode (yC Y) pc = .ok (.lastore, 1)) (h : tL M a i v = some M') (kk : G X Y P (pc + 1) ls st cs ss M') : G X Y P pc ls (.long v :: .int i :: .ref a :: st) cs ss M := by
  intro p e s m args below meth c F H locs la hR hS hL
  obtain ⟨⟨h1, h2, h3⟩, rfl⟩ := ite_s h
  have h0 : qS M a ≠ 0 := by omega
  have hP := hR.at h0 (by omega)
  rw [ent_3 h1] at hP
  rw [List.map_cons, List.map_cons, List.map_cons, cv_ref X (hR.ne h0)]
  refine W.last (x := v) F.1.1 F.1.2.1 hP ((F.2.2.1.1.2 2 _ rfl).1 (qN M a) (fun j => .long (qL M a j))) (fun q => by cases q) ?_ rfl rfl d fun H1 g1 g2 g3 => ?_
  · show ¬ (i < 0 ∨ (arrV _ _ _).slots.size ≤ _)
    rw [arrV_size]
    exact vin h2 h3
  · refine kk p e s m args below meth c F H1 _ la (hR.upd (a := a) h0 rfl (fun _ => rfl) (fun b hb => ent_pL hb) ?_ g2 g3) (hS.put g2 g3 (hR.A h0)) hL
    rw [ent_3 (show qS (pL M a _ _) a = 3 from h1)]
    show H1[ra X a]? = some (vp_cell _ _)
    rw [g1, vp_cell_l, vp_cell_l, arrV_store]
    congr 2
    funext q
    by_cases hq : q = i.toNatClampNeg
    · subst hq
      simp only [updV, if_pos]
      exact congrArg Value.long (u2_s _ _ _ _).symm
    · simp only [updV, if_neg hq]
      exact congrArg Value.long (u2_n _ _ _ _ (fun z => hq z.2)).symm
/-- new World in an array of Worlds -/
def tW (M : Mem) (a : Nat) (i : Int32) (r : Nat) : Option Mem := if (qS M a = 5 ∧ qS M r = 17) ∧ 0 ≤ i ∧ i.toNatClampNeg < qN M a then some (pR M a i.toNatClampNeg r) else none
theorem g_tW {a : Nat} {i : Int32} {r : Nat} {M' : Mem} (d : decode (yC Y) pc = .ok (.aastore, 1)) (h : tW M a i r = some M') (kk : G X Y P (pc + 1) ls st cs ss M') : G X Y P pc ls (.ref r :: .int i :: .ref a :: st) cs ss M := by
  intro p e s m args below meth c F H locs la hR hS hL
  obtain ⟨⟨⟨h1, h4⟩, h2, h3⟩, rfl⟩ := ite_s h
  have h0 : qS M a ≠ 0 := by omega
  have h8 : qS M r ≠ 0 := by omega
  have hP := hR.at h0 (by omega)
  rw [ent_r h1 (by omega) (by omega)] at hP
  have hQ := hR.at h8 (by omega)
  rw [ent_obj (ci := 7) h4] at hQ
  rw [List.map_cons, List.map_cons, List.map_cons, cv_ref X (hR.ne h0), cv_ref X (hR.ne h8)]
  obtain ⟨r', hr', cellV, g1, g2, g3, -⟩ := hQ
  have hK := F.2.2.1.1
  have hcls := (hK.1 7 _ rfl).2
  obtain ⟨kA, comp, k1, k2, k3, -⟩ := (hK.2 4 _ rfl).2
  have hcomp : comp = (xD X).1 7 := Option.some.inj (k3.symm.trans hcls.1)
  subst hcomp
  obtain ⟨kC, hkC, -⟩ := hcls.2
  refine W.aast F.1.1 F.1.2.1 hP (fun q h => by cases h) (fun h => by cases h) k1 k2 rfl hkC ⟨fun q => absurd h2 (Int32.not_le.mpr q), by show _ < (arrV _ _ _).slots.size; rw [arrV_size]; exact h3⟩ g1 (fun q h => by rw [g3] at h; cases h) (by rw [g2]; exact hkC) (by rw [g2]; exact va_assign hcls) rfl rfl d fun H1 e1 z oq => ?_
  refine kk p e s m args below meth c F H1 _ la (hR.upd (a := a) h0 rfl (fun _ => rfl) (fun b hb => ent_pR hb) ?_ z oq) (hS.put z oq (hR.A h0)) hL
  rw [ent_r (show qS (pR M a _ _) a = 5 from h1) (by omega) (by omega)]
  show H1[ra X a]? = some (vp_cell _ _)
  rw [e1, vp_cell_q, vp_cell_q, arrV_store]
  congr 2
  funext q
  by_cases hq : q = i.toNatClampNeg
  · subst hq
    simp only [updV, if_pos]
    rw [qR_pR_s]
    exact (cv_ref X (hR.ne h8)).symm
  · simp only [updV, if_neg hq]
    rw [qR_pR_n M r (fun z => hq z.2)]
end GA
