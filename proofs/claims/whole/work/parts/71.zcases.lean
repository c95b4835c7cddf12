/-! every call keeps what holds -/
section CASES
variable {a b c d s g w k v q p n L o hh : Nat} {I I' I2 : IM} {W W' : Nat → Int32} {N N' N2 K K' : NM} {J J' J2 : IM} {M M' : Mem} {P : List lnT} {tr : Nat → Int32} {x y z : Int32}
theorem k_feed (x0 x1 x2 x3 x4 : Int32) (h : INV2 N I K J) : E2 (F_RR_feed 1000 x0 x1 x2 x3 x4 (I, N)) (F_Mo_feed 1528 x0 x1 x2 x3 x4 (J, K)) (fun u u' => Ex (fun _ => 0) N I K J (.inl u) u') := by
  obtain ⟨g, w, p, P, n, L, o, hh, h⟩ := h
  rw [row_e J] at h ⊢
  exact op_feed h x0 x1 x2 x3 x4
theorem k_end (x0 : Int32) (h : INV2 N I K J) : E2 (F_RR_end 1000 x0 (I, N)) (F_Mo_end 1528 x0 (J, K)) (fun u u' => Ex (fun _ => 0) N I K J (.inl u) u') := by
  obtain ⟨g, w, p, P, n, L, o, hh, h⟩ := h
  rw [row_e J] at h ⊢
  exact op_end h x0
theorem k_fault (h : INV2 N I K J) : E2 (F_RR_fault 1000 (I, N)) (F_Mo_fault 1528 (J, K)) (fun u u' => Ex (fun _ => 0) N I K J (.inl (u, (I, N))) u') := by
  obtain ⟨g, w, p, P, n, L, o, hh, h⟩ := h
  rw [row_e J] at h ⊢
  exact op_fault h
theorem k_gate (x0 x1 : Int32) (h : INV2 N I K J) : E2 (F_RR_gate 1000 x0 x1 (I, N)) (F_Mo_gate 1528 x0 x1 (J, K)) (fun u u' => Ex (fun c => if c = 0 then 1 else if c = 4 then 2 else 0) N I K J (lf (I, N) u) u') := by
  obtain ⟨g, w, p, P, n, L, o, hh, h⟩ := h
  rw [row_e J] at h ⊢
  exact op_gate h x0 x1
theorem k_walker (x0 x1 : Int32) (h : INV2 N I K J) : E2 (F_RR_walker 1000 x0 x1 (I, N)) (F_Mo_walker 1528 x0 x1 (J, K)) (fun u u' => Ex (fun c => if c = 0 then 1 else if c = 4 then 2 else 0) N I K J (lf (I, N) u) u') := by
  obtain ⟨g, w, p, P, n, L, o, hh, h⟩ := h
  rw [row_e J] at h ⊢
  exact op_walker h x0 x1
theorem k_since (x0 x1 : Int32) (h : INV2 N I K J) : E2 (F_RR_since 1000 x0 x1 (I, N)) (F_Mo_since 1528 x0 x1 (J, K)) (fun u u' => Ex tr1 N I K J (lf (I, N) u) u') := by
  obtain ⟨g, w, p, P, n, L, o, hh, h⟩ := h
  rw [row_e J] at h ⊢
  exact op_since h x0 x1
theorem k_price (x0 x1 : Int32) (h : INV2 N I K J) : E2 (F_RR_price 1000 x0 x1 (I, N)) (F_Mo_price 1528 x0 x1 (J, K)) (fun u u' => Ex tr1 N I K J (lf (I, N) u) u') := by
  obtain ⟨g, w, p, P, n, L, o, hh, h⟩ := h
  rw [row_e J] at h ⊢
  exact op_price h x0 x1
theorem k_may (x0 x1 x2 : Int32) (h : INV2 N I K J) : E2 (F_RR_may 1000 x0 x1 x2 (I, N)) (F_Mo_may 1528 x0 x1 x2 (J, K)) (fun u u' => Ex tr1 N I K J (lf (I, N) u) u') := by
  obtain ⟨g, w, p, P, n, L, o, hh, h⟩ := h
  rw [row_e J] at h ⊢
  exact op_may h x0 x1 x2
theorem k_chance (x0 x1 : Int32) (h : INV2 N I K J) : E2 (F_RR_chance 1000 x0 x1 (I, N)) (F_Mo_chance 1528 x0 x1 (J, K)) (Ex tr1 N I K J) := by
  obtain ⟨g, w, p, P, n, L, o, hh, h⟩ := h
  rw [row_e J] at h ⊢
  exact op_chance h x0 x1
theorem k_pass (x0 : Int32) (h : INV2 N I K J) : E2 (F_RR_pass 1000 x0 (I, N)) (F_Mo_pass 1528 x0 (J, K)) (Ex (fun c => if c = 0 then 1 else if c = 2 then 2 else 0) N I K J) := by
  obtain ⟨g, w, p, P, n, L, o, hh, h⟩ := h
  rw [row_e J] at h ⊢
  exact op_pass h x0
theorem k_guess (x0 : Int32) (h : INV2 N I K J) : E2 (F_RR_guess 1000 x0 (I, N)) (F_Mo_guess 1528 x0 (J, K)) (Ex (fun c => if c = 0 then 1 else if c = 2 then 2 else 0) N I K J) := by
  obtain ⟨g, w, p, P, n, L, o, hh, h⟩ := h
  rw [row_e J] at h ⊢
  exact op_guess h x0
theorem k_sell (x0 x1 x2 : Int32) (h : INV2 N I K J) : E2 (F_RR_sell 1000 x0 x1 x2 (I, N)) (F_Mo_sell 1528 x0 x1 x2 (J, K)) (Ex (fun c => if c = 0 then 1 else if c = 1 then 2 else if c = 2 then 3 else 0) N I K J) := by
  obtain ⟨g, w, p, P, n, L, o, hh, h⟩ := h
  rw [row_e J] at h ⊢
  exact op_sell h x0 x1 x2
theorem k_inn (x0 : Int32) (h : INV2 N I K J) : E2 (F_RR_inn 1000 x0 (I, N)) (F_Mo_inn 1528 x0 (J, K)) (fun u u' => Ex (fun _ => 0) N I K J (.inl u) u') := by
  obtain ⟨g, w, p, P, n, L, o, hh, h⟩ := h
  rw [row_e J] at h ⊢
  exact op_inn h x0
theorem k_walkBack (x0 : Int32) (h : INV2 N I K J) : E2 (F_RR_walkBack 1000 x0 (I, N)) (F_Mo_walkBack 1528 x0 (J, K)) (Ex tr1 N I K J) := by
  obtain ⟨g, w, p, P, n, L, o, hh, h⟩ := h
  rw [row_e J] at h ⊢
  exact op_walkBack h x0
theorem k_days (x0 : Int32) (h : INV2 N I K J) : E2 (F_RR_days 1000 x0 (I, N)) (F_Mo_days 1528 x0 (J, K)) (Ex (fun c => if c = 1 then 1 else 0) N I K J) := by
  obtain ⟨g, w, p, P, n, L, o, hh, h⟩ := h
  rw [row_e J] at h ⊢
  exact op_days h x0
theorem k_seed (x0 : Int32) (h : INV2 N I K J) : E2 (F_RR_seed 1000 x0 (I, N)) (F_Mo_seed 1528 x0 (J, K)) (fun u u' => Ex (fun _ => 0) N I K J (.inl u) u') := by
  obtain ⟨g, w, p, P, n, L, o, hh, h⟩ := h
  rw [row_e J] at h ⊢
  exact op_seed h x0
theorem k_cheapest (x0 x1 x2 : Int32) (h : INV2 N I K J) : E2 (F_RR_cheapest 1000 x0 x1 x2 (I, N)) (F_Mo_cheapest 1528 x0 x1 x2 (J, K)) (fun u u' => Ex (fun c => if c = 0 then 1 else if c = 1 then 2 else 0) N I K J (lf (I, N) u) u') := by
  obtain ⟨g, w, p, P, n, L, o, hh, h⟩ := h
  rw [row_e J] at h ⊢
  exact op_cheapest h x0 x1 x2
theorem k_convoy (x0 x1 x2 : Int32) (h : INV2 N I K J) : E2 (F_RR_convoy 1000 x0 x1 x2 (I, N)) (F_Mo_convoy 1528 x0 x1 x2 (J, K)) (fun u u' => Ex (fun c => if c = 1 then 1 else 0) N I K J (lf (I, N) u) u') := by
  obtain ⟨g, w, p, P, n, L, o, hh, h⟩ := h
  rw [row_e J] at h ⊢
  exact op_convoy h x0 x1 x2
theorem k_tries (x0 x1 x2 : Int32) (h : INV2 N I K J) : E2 (F_RR_tries 1000 x0 x1 x2 (I, N)) (F_Mo_tries 1528 x0 x1 x2 (J, K)) (Ex (fun c => if c = 0 then 1 else if c = 1 then 2 else 0) N I K J) := by
  obtain ⟨g, w, p, P, n, L, o, hh, h⟩ := h
  rw [row_e J] at h ⊢
  exact op_tries h x0 x1 x2
theorem k_bring (x0 : Int32) (h : INV2 N I K J) : E2 (F_RR_bring 1000 x0 (I, N)) (F_Mo_bring 1528 x0 (J, K)) (fun u u' => Ex (fun _ => 0) N I K J (.inl (u, (I, N))) u') := by
  obtain ⟨g, w, p, P, n, L, o, hh, h⟩ := h
  rw [row_e J] at h ⊢
  exact op_bring h x0
theorem k_apart (x0 : Int32) (h : INV2 N I K J) : E2 (F_RR_apart 1000 x0 (I, N)) (F_Mo_apart 1528 x0 (J, K)) (fun u u' => Ex tr1 N I K J (lf (I, N) u) u') := by
  obtain ⟨g, w, p, P, n, L, o, hh, h⟩ := h
  rw [row_e J] at h ⊢
  exact op_apart h x0
theorem k_chain (h : INV2 N I K J) : E2 (F_RR_chain 1000 (I, N)) (F_Mo_chain 1528 (J, K)) (Ex (fun c => if c = 1 then 1 else if c = 3 then 2 else 0) N I K J) := by
  obtain ⟨g, w, p, P, n, L, o, hh, h⟩ := h
  rw [row_e J] at h ⊢
  exact op_chain h
theorem k_letter (x0 x1 : Int32) (h : INV2 N I K J) : E2 (F_RR_letter 1000 x0 x1 (I, N)) (F_Mo_letter 1528 x0 x1 (J, K)) (fun u u' => Ex tr1 N I K J (lf (I, N) u) u') := by
  obtain ⟨g, w, p, P, n, L, o, hh, h⟩ := h
  rw [row_e J] at h ⊢
  exact op_letter h x0 x1
theorem k_forget (h : INV2 N I K J) : E2 (F_RR_forget 1000 (I, N)) (F_Mo_forget 1528 (J, K)) (fun u u' => Ex (fun _ => 0) N I K J (.inl u) u') := by
  obtain ⟨g, w, p, P, n, L, o, hh, h⟩ := h
  rw [row_e J] at h ⊢
  exact op_forget h
theorem k_questions (x0 : Int32) (h : INV2 N I K J) : E2 (F_RR_questions 1000 x0 (I, N)) (F_Mo_questions 1528 x0 (J, K)) (fun u u' => Ex (fun _ => 0) N I K J (.inl u) u') := by
  obtain ⟨g, w, p, P, n, L, o, hh, h⟩ := h
  rw [row_e J] at h ⊢
  exact op_questions h x0
theorem k_lie (x0 : Int32) (h : INV2 N I K J) : E2 (F_RR_lie 1000 x0 (I, N)) (F_Mo_lie 1528 x0 (J, K)) (Ex (fun c => if c = 1 then 1 else 0) N I K J) := by
  obtain ⟨g, w, p, P, n, L, o, hh, h⟩ := h
  rw [row_e J] at h ⊢
  exact op_lie h x0
theorem k_monday (x0 : Int32) (h : INV2 N I K J) : E2 (F_RR_monday 1000 x0 (I, N)) (F_Mo_monday 1528 x0 (J, K)) (fun u u' => Ex (fun c => if c = 1 then 1 else 0) N I K J (lf (I, N) u) u') := by
  obtain ⟨g, w, p, P, n, L, o, hh, h⟩ := h
  rw [row_e J] at h ⊢
  exact op_monday h x0
theorem k_live (x0 : Int32) (h : INV2 N I K J) : E2 (F_RR_live 1000 x0 (I, N)) (F_Mo_live 1528 x0 (J, K)) (Ex (fun c => if c = 1 then 1 else 0) N I K J) := by
  obtain ⟨g, w, p, P, n, L, o, hh, h⟩ := h
  rw [row_e J] at h ⊢
  exact op_live h x0
theorem k_undo (h : INV2 N I K J) : E2 (F_RR_undo 1000 (I, N)) (F_Mo_undo 1528 (J, K)) (fun u u' => Ex (fun _ => 0) N I K J (.inl u) u') := by
  obtain ⟨g, w, p, P, n, L, o, hh, h⟩ := h
  exact op_undo h
theorem k_image (h : INV2 N I K J) : E2 (F_RR_image 1000 (I, N)) (F_Mo_image 1528 (J, K)) (fun u u' => Ex (fun _ => 0) N I K J (.inl (0, u)) (0, u')) := by
  obtain ⟨g, w, p, P, n, L, o, hh, h⟩ := h
  exact op_image h
theorem k_back (h : INV2 N I K J) : E2 (F_RR_back 1000 (I, N)) (F_Mo_back 1528 (J, K)) (fun u u' => Ex (fun _ => 0) N I K J (.inl u) u') := by
  obtain ⟨g, w, p, P, n, L, o, hh, h⟩ := h
  exact op_back h
theorem k_count (x0 : Int32) (h : INV2 N I K J) : E2 (F_RR_count 1000 x0 (I, N)) (F_Mo_count 1528 x0 (J, K)) (fun u u' => Ex (fun _ => 0) N I K J (.inl (u, (I, N))) u') := by
  obtain ⟨g, w, p, P, n, L, o, hh, h⟩ := h
  rw [row_e J] at h ⊢
  exact op_count h x0
end CASES
