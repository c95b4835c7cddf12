/-! the law's body (written by wip/whole/gen/mk_law.py) -/
def m_L_main : My := (yL_law_, cL_law_, 7, some .boolean, room_1, [])
theorem lw2_t {a b c d : Nat} (h1 : a ≤ b) (h2 : c ≤ d) : lw2 a b c d = true := by
  unfold lw2
  rw [decide_eq_true h1, decide_eq_true h2]
  rfl
/-- the script stands at the constant 50 -/
def SCR (X : Cx) (_ : Nat) (_ : Nat → Int32) : Prop := xa X 50 < xb X
/-- the end of the law, where the script is the one it began with -/
def endL (X : Cx) (L : Nat) (xs : Nat → Int32) (out : Ou) : List Frame → Array Value → State → State → Prop := fun below args s t => va_X (xa X 50) L xs s s.heap → endP X m_L_main out below args s t
theorem g_toL {X : Cx} {L : Nat} {xs : Nat → Int32} {out : Ou} {pc : Nat} {ls st : List Value} {cs ss : Nat} {M : Mem} (h : G X m_L_main (endP X m_L_main out) pc ls st cs ss M) : G X m_L_main (endL X L xs out) pc ls st cs ss M := by
  intro p e s m args below meth c F H locs la hR hS hL T hT X'
  obtain ⟨t, a1, a2⟩ := h p e s m args below meth c F H locs la hR hS hL T hT X'
  exact ⟨t, a1, fun _ => a2⟩
def scA (L : Nat) (xs : Nat → Int32) (i : Int32) : Option Int32 := if 0 ≤ i ∧ i.toNatClampNeg < L then some (xs i.toNatClampNeg) else none
section GSc
variable {X : Cx} {Y : My} {P : List Frame → Array Value → State → State → Prop} {pc : Nat} {ls st : List Value} {cs ss : Nat} {M : Mem}
theorem g_slen {L : Nat} {xs : Nat → Int32} {out : Ou} (hs : SCR X L xs) (d : decode (yC Y) pc = .ok (.arraylength, 1)) (kk : G X Y (endL X L xs out) (pc + 1) ls (.int (Int32.ofNat L) :: st) cs ss M) : G X Y (endL X L xs out) pc ls (.ref 50 :: st) cs ss M := by
  intro p e s m args below meth c F H locs la hR hS hL
  by_cases hx : va_X (xa X 50) L xs s s.heap
  · rw [List.map_cons, cv_c (by omega) (by omega)]
    exact va_slen F.1.1 F.1.2.1 hx (Nat.lt_of_lt_of_le hs F.2.2.2.1.2) (fun q => absurd hs (Nat.not_lt.mpr q)) hS d (kk p e s m args below meth c F H locs la hR hS hL)
  · exact fun T hT X' => ⟨_, Steps.refl _, fun h => absurd h hx⟩
theorem g_sld {L : Nat} {xs : Nat → Int32} {out : Ou} {i x : Int32} (hs : SCR X L xs) (d : decode (yC Y) pc = .ok (.iaload, 1)) (h : scA L xs i = some x) (kk : G X Y (endL X L xs out) (pc + 1) ls (.int x :: st) cs ss M) : G X Y (endL X L xs out) pc ls (.int i :: .ref 50 :: st) cs ss M := by
  intro p e s m args below meth c F H locs la hR hS hL
  obtain ⟨⟨h1, h2⟩, rfl⟩ := ite_s h
  by_cases hx : va_X (xa X 50) L xs s s.heap
  · rw [List.map_cons, List.map_cons, cv_c (a := 50) (by omega) (by omega)]
    exact va_sld F.1.1 F.1.2.1 hx (Nat.lt_of_lt_of_le hs F.2.2.2.1.2) (fun q => absurd hs (Nat.not_lt.mpr q)) hS (vin h1 h2) d (kk p e s m args below meth c F H locs la hR hS hL)
  · exact fun T hT X' => ⟨_, Steps.refl _, fun h => absurd h hx⟩
end GSc
theorem dL_law__0 : decode cL_law_ 0 = .ok (.new 8, 3) := by decide +kernel
theorem dL_law__3 : decode cL_law_ 3 = .ok (.dup, 1) := by decide +kernel
theorem dL_law__4 : decode cL_law_ 4 = .ok (.invokespecial 92, 3) := by decide +kernel
theorem dL_law__7 : decode cL_law_ 7 = .ok (.astore_n 1, 1) := by decide +kernel
theorem dL_law__8 : decode cL_law_ 8 = .ok (.new 93, 3) := by decide +kernel
theorem dL_law__11 : decode cL_law_ 11 = .ok (.dup, 1) := by decide +kernel
theorem dL_law__12 : decode cL_law_ 12 = .ok (.invokespecial 95, 3) := by decide +kernel
theorem dL_law__15 : decode cL_law_ 15 = .ok (.astore_n 2, 1) := by decide +kernel
theorem dL_law__16 : decode cL_law_ 16 = .ok (.iconst 1, 1) := by decide +kernel
theorem dL_law__17 : decode cL_law_ 17 = .ok (.newarray .long, 2) := by decide +kernel
theorem dL_law__19 : decode cL_law_ 19 = .ok (.astore_n 3, 1) := by decide +kernel
theorem dL_law__20 : decode cL_law_ 20 = .ok (.iconst 0, 1) := by decide +kernel
theorem dL_law__21 : decode cL_law_ 21 = .ok (.istore 4, 2) := by decide +kernel
theorem dL_law__23 : decode cL_law_ 23 = .ok (.iload 4, 2) := by decide +kernel
theorem dL_law__25 : decode cL_law_ 25 = .ok (.aload_n 0, 1) := by decide +kernel
theorem dL_law__26 : decode cL_law_ 26 = .ok (.arraylength, 1) := by decide +kernel
theorem dL_law__27 : decode cL_law_ 27 = .ok (.bipush 6, 2) := by decide +kernel
theorem dL_law__29 : decode cL_law_ 29 = .ok (.isub, 1) := by decide +kernel
theorem dL_law__30 : decode cL_law_ 30 = .ok (.if_icmp .gt 1920, 3) := by decide +kernel
theorem dL_law__33 : decode cL_law_ 33 = .ok (.aload_n 0, 1) := by decide +kernel
theorem dL_law__34 : decode cL_law_ 34 = .ok (.iload 4, 2) := by decide +kernel
theorem dL_law__36 : decode cL_law_ 36 = .ok (.iaload, 1) := by decide +kernel
theorem dL_law__37 : decode cL_law_ 37 = .ok (.bipush 63, 2) := by decide +kernel
theorem dL_law__39 : decode cL_law_ 39 = .ok (.iand, 1) := by decide +kernel
theorem dL_law__40 : decode cL_law_ 40 = .ok (.tableswitch 1904 0 33 #[152, 225, 250, 294, 338, 351, 419, 487, 555, 623, 726, 794, 850, 913, 993, 1018, 1074, 1130, 1155, 1251, 1347, 1427, 1452, 1508, 1552, 1620, 1633, 1674, 1730, 1786, 1842, 1855, 1866, 1879], 152) := by decide +kernel
theorem dL_law__192 : decode cL_law_ 192 = .ok (.aload_n 1, 1) := by decide +kernel
theorem dL_law__193 : decode cL_law_ 193 = .ok (.aload_n 0, 1) := by decide +kernel
theorem dL_law__194 : decode cL_law_ 194 = .ok (.iload 4, 2) := by decide +kernel
theorem dL_law__196 : decode cL_law_ 196 = .ok (.iconst 1, 1) := by decide +kernel
theorem dL_law__197 : decode cL_law_ 197 = .ok (.iadd, 1) := by decide +kernel
theorem dL_law__198 : decode cL_law_ 198 = .ok (.iaload, 1) := by decide +kernel
theorem dL_law__199 : decode cL_law_ 199 = .ok (.aload_n 0, 1) := by decide +kernel
theorem dL_law__200 : decode cL_law_ 200 = .ok (.iload 4, 2) := by decide +kernel
theorem dL_law__202 : decode cL_law_ 202 = .ok (.iconst 2, 1) := by decide +kernel
theorem dL_law__203 : decode cL_law_ 203 = .ok (.iadd, 1) := by decide +kernel
theorem dL_law__204 : decode cL_law_ 204 = .ok (.iaload, 1) := by decide +kernel
theorem dL_law__205 : decode cL_law_ 205 = .ok (.aload_n 0, 1) := by decide +kernel
theorem dL_law__206 : decode cL_law_ 206 = .ok (.iload 4, 2) := by decide +kernel
theorem dL_law__208 : decode cL_law_ 208 = .ok (.iconst 3, 1) := by decide +kernel
theorem dL_law__209 : decode cL_law_ 209 = .ok (.iadd, 1) := by decide +kernel
theorem dL_law__210 : decode cL_law_ 210 = .ok (.iaload, 1) := by decide +kernel
theorem dL_law__211 : decode cL_law_ 211 = .ok (.aload_n 0, 1) := by decide +kernel
theorem dL_law__212 : decode cL_law_ 212 = .ok (.iload 4, 2) := by decide +kernel
theorem dL_law__214 : decode cL_law_ 214 = .ok (.iconst 4, 1) := by decide +kernel
theorem dL_law__215 : decode cL_law_ 215 = .ok (.iadd, 1) := by decide +kernel
theorem dL_law__216 : decode cL_law_ 216 = .ok (.iaload, 1) := by decide +kernel
theorem dL_law__217 : decode cL_law_ 217 = .ok (.aload_n 0, 1) := by decide +kernel
theorem dL_law__218 : decode cL_law_ 218 = .ok (.iload 4, 2) := by decide +kernel
theorem dL_law__220 : decode cL_law_ 220 = .ok (.iconst 5, 1) := by decide +kernel
theorem dL_law__221 : decode cL_law_ 221 = .ok (.iadd, 1) := by decide +kernel
theorem dL_law__222 : decode cL_law_ 222 = .ok (.iaload, 1) := by decide +kernel
theorem dL_law__223 : decode cL_law_ 223 = .ok (.invokevirtual 96, 3) := by decide +kernel
theorem dL_law__226 : decode cL_law_ 226 = .ok (.aload_n 2, 1) := by decide +kernel
theorem dL_law__227 : decode cL_law_ 227 = .ok (.aload_n 0, 1) := by decide +kernel
theorem dL_law__228 : decode cL_law_ 228 = .ok (.iload 4, 2) := by decide +kernel
theorem dL_law__230 : decode cL_law_ 230 = .ok (.iconst 1, 1) := by decide +kernel
theorem dL_law__231 : decode cL_law_ 231 = .ok (.iadd, 1) := by decide +kernel
theorem dL_law__232 : decode cL_law_ 232 = .ok (.iaload, 1) := by decide +kernel
theorem dL_law__233 : decode cL_law_ 233 = .ok (.aload_n 0, 1) := by decide +kernel
theorem dL_law__234 : decode cL_law_ 234 = .ok (.iload 4, 2) := by decide +kernel
theorem dL_law__236 : decode cL_law_ 236 = .ok (.iconst 2, 1) := by decide +kernel
theorem dL_law__237 : decode cL_law_ 237 = .ok (.iadd, 1) := by decide +kernel
theorem dL_law__238 : decode cL_law_ 238 = .ok (.iaload, 1) := by decide +kernel
theorem dL_law__239 : decode cL_law_ 239 = .ok (.aload_n 0, 1) := by decide +kernel
theorem dL_law__240 : decode cL_law_ 240 = .ok (.iload 4, 2) := by decide +kernel
theorem dL_law__242 : decode cL_law_ 242 = .ok (.iconst 3, 1) := by decide +kernel
theorem dL_law__243 : decode cL_law_ 243 = .ok (.iadd, 1) := by decide +kernel
theorem dL_law__244 : decode cL_law_ 244 = .ok (.iaload, 1) := by decide +kernel
theorem dL_law__245 : decode cL_law_ 245 = .ok (.aload_n 0, 1) := by decide +kernel
theorem dL_law__246 : decode cL_law_ 246 = .ok (.iload 4, 2) := by decide +kernel
theorem dL_law__248 : decode cL_law_ 248 = .ok (.iconst 4, 1) := by decide +kernel
theorem dL_law__249 : decode cL_law_ 249 = .ok (.iadd, 1) := by decide +kernel
theorem dL_law__250 : decode cL_law_ 250 = .ok (.iaload, 1) := by decide +kernel
theorem dL_law__251 : decode cL_law_ 251 = .ok (.aload_n 0, 1) := by decide +kernel
theorem dL_law__252 : decode cL_law_ 252 = .ok (.iload 4, 2) := by decide +kernel
theorem dL_law__254 : decode cL_law_ 254 = .ok (.iconst 5, 1) := by decide +kernel
theorem dL_law__255 : decode cL_law_ 255 = .ok (.iadd, 1) := by decide +kernel
theorem dL_law__256 : decode cL_law_ 256 = .ok (.iaload, 1) := by decide +kernel
theorem dL_law__257 : decode cL_law_ 257 = .ok (.invokevirtual 100, 3) := by decide +kernel
theorem dL_law__260 : decode cL_law_ 260 = .ok (.if_icmp .eq 1684, 3) := by decide +kernel
theorem dL_law__263 : decode cL_law_ 263 = .ok (.iconst 0, 1) := by decide +kernel
theorem dL_law__264 : decode cL_law_ 264 = .ok (.ireturn, 1) := by decide +kernel
theorem dL_law__265 : decode cL_law_ 265 = .ok (.aload_n 1, 1) := by decide +kernel
theorem dL_law__266 : decode cL_law_ 266 = .ok (.aload_n 0, 1) := by decide +kernel
theorem dL_law__267 : decode cL_law_ 267 = .ok (.iload 4, 2) := by decide +kernel
theorem dL_law__269 : decode cL_law_ 269 = .ok (.iconst 1, 1) := by decide +kernel
theorem dL_law__270 : decode cL_law_ 270 = .ok (.iadd, 1) := by decide +kernel
theorem dL_law__271 : decode cL_law_ 271 = .ok (.iaload, 1) := by decide +kernel
theorem dL_law__272 : decode cL_law_ 272 = .ok (.invokevirtual 101, 3) := by decide +kernel
theorem dL_law__275 : decode cL_law_ 275 = .ok (.aload_n 2, 1) := by decide +kernel
theorem dL_law__276 : decode cL_law_ 276 = .ok (.aload_n 0, 1) := by decide +kernel
theorem dL_law__277 : decode cL_law_ 277 = .ok (.iload 4, 2) := by decide +kernel
theorem dL_law__279 : decode cL_law_ 279 = .ok (.iconst 1, 1) := by decide +kernel
theorem dL_law__280 : decode cL_law_ 280 = .ok (.iadd, 1) := by decide +kernel
theorem dL_law__281 : decode cL_law_ 281 = .ok (.iaload, 1) := by decide +kernel
theorem dL_law__282 : decode cL_law_ 282 = .ok (.invokevirtual 104, 3) := by decide +kernel
theorem dL_law__285 : decode cL_law_ 285 = .ok (.if_icmp .eq 1659, 3) := by decide +kernel
theorem dL_law__288 : decode cL_law_ 288 = .ok (.iconst 0, 1) := by decide +kernel
theorem dL_law__289 : decode cL_law_ 289 = .ok (.ireturn, 1) := by decide +kernel
theorem dL_law__290 : decode cL_law_ 290 = .ok (.aload_n 1, 1) := by decide +kernel
theorem dL_law__291 : decode cL_law_ 291 = .ok (.aload_n 3, 1) := by decide +kernel
theorem dL_law__292 : decode cL_law_ 292 = .ok (.invokestatic 105, 3) := by decide +kernel
theorem dL_law__295 : decode cL_law_ 295 = .ok (.istore 5, 2) := by decide +kernel
theorem dL_law__297 : decode cL_law_ 297 = .ok (.aload_n 2, 1) := by decide +kernel
theorem dL_law__298 : decode cL_law_ 298 = .ok (.invokevirtual 110, 3) := by decide +kernel
theorem dL_law__301 : decode cL_law_ 301 = .ok (.istore 6, 2) := by decide +kernel
theorem dL_law__303 : decode cL_law_ 303 = .ok (.aload_n 2, 1) := by decide +kernel
theorem dL_law__304 : decode cL_law_ 304 = .ok (.invokevirtual 111, 3) := by decide +kernel
theorem dL_law__307 : decode cL_law_ 307 = .ok (.iload 5, 2) := by decide +kernel
theorem dL_law__309 : decode cL_law_ 309 = .ok (.if_icmp .eq 5, 3) := by decide +kernel
theorem dL_law__312 : decode cL_law_ 312 = .ok (.iconst 0, 1) := by decide +kernel
theorem dL_law__313 : decode cL_law_ 313 = .ok (.ireturn, 1) := by decide +kernel
theorem dL_law__314 : decode cL_law_ 314 = .ok (.iload 5, 2) := by decide +kernel
theorem dL_law__316 : decode cL_law_ 316 = .ok (.ifCond .ne 15, 3) := by decide +kernel
theorem dL_law__319 : decode cL_law_ 319 = .ok (.aload_n 3, 1) := by decide +kernel
theorem dL_law__320 : decode cL_law_ 320 = .ok (.iconst 0, 1) := by decide +kernel
theorem dL_law__321 : decode cL_law_ 321 = .ok (.laload, 1) := by decide +kernel
theorem dL_law__322 : decode cL_law_ 322 = .ok (.iload 6, 2) := by decide +kernel
theorem dL_law__324 : decode cL_law_ 324 = .ok (.i2l, 1) := by decide +kernel
theorem dL_law__325 : decode cL_law_ 325 = .ok (.lcmp, 1) := by decide +kernel
theorem dL_law__326 : decode cL_law_ 326 = .ok (.ifCond .eq 5, 3) := by decide +kernel
theorem dL_law__329 : decode cL_law_ 329 = .ok (.iconst 0, 1) := by decide +kernel
theorem dL_law__330 : decode cL_law_ 330 = .ok (.ireturn, 1) := by decide +kernel
theorem dL_law__331 : decode cL_law_ 331 = .ok (.goto 1613, 3) := by decide +kernel
theorem dL_law__334 : decode cL_law_ 334 = .ok (.aload_n 1, 1) := by decide +kernel
theorem dL_law__335 : decode cL_law_ 335 = .ok (.aload_n 3, 1) := by decide +kernel
theorem dL_law__336 : decode cL_law_ 336 = .ok (.invokestatic 114, 3) := by decide +kernel
theorem dL_law__339 : decode cL_law_ 339 = .ok (.istore 5, 2) := by decide +kernel
theorem dL_law__341 : decode cL_law_ 341 = .ok (.aload_n 2, 1) := by decide +kernel
theorem dL_law__342 : decode cL_law_ 342 = .ok (.invokevirtual 116, 3) := by decide +kernel
theorem dL_law__345 : decode cL_law_ 345 = .ok (.istore 6, 2) := by decide +kernel
theorem dL_law__347 : decode cL_law_ 347 = .ok (.aload_n 2, 1) := by decide +kernel
theorem dL_law__348 : decode cL_law_ 348 = .ok (.invokevirtual 111, 3) := by decide +kernel
theorem dL_law__351 : decode cL_law_ 351 = .ok (.iload 5, 2) := by decide +kernel
theorem dL_law__353 : decode cL_law_ 353 = .ok (.if_icmp .eq 5, 3) := by decide +kernel
theorem dL_law__356 : decode cL_law_ 356 = .ok (.iconst 0, 1) := by decide +kernel
theorem dL_law__357 : decode cL_law_ 357 = .ok (.ireturn, 1) := by decide +kernel
theorem dL_law__358 : decode cL_law_ 358 = .ok (.iload 5, 2) := by decide +kernel
theorem dL_law__360 : decode cL_law_ 360 = .ok (.ifCond .ne 15, 3) := by decide +kernel
theorem dL_law__363 : decode cL_law_ 363 = .ok (.aload_n 3, 1) := by decide +kernel
theorem dL_law__364 : decode cL_law_ 364 = .ok (.iconst 0, 1) := by decide +kernel
theorem dL_law__365 : decode cL_law_ 365 = .ok (.laload, 1) := by decide +kernel
theorem dL_law__366 : decode cL_law_ 366 = .ok (.iload 6, 2) := by decide +kernel
theorem dL_law__368 : decode cL_law_ 368 = .ok (.i2l, 1) := by decide +kernel
theorem dL_law__369 : decode cL_law_ 369 = .ok (.lcmp, 1) := by decide +kernel
theorem dL_law__370 : decode cL_law_ 370 = .ok (.ifCond .eq 5, 3) := by decide +kernel
theorem dL_law__373 : decode cL_law_ 373 = .ok (.iconst 0, 1) := by decide +kernel
theorem dL_law__374 : decode cL_law_ 374 = .ok (.ireturn, 1) := by decide +kernel
theorem dL_law__375 : decode cL_law_ 375 = .ok (.goto 1569, 3) := by decide +kernel
theorem dL_law__378 : decode cL_law_ 378 = .ok (.aload_n 1, 1) := by decide +kernel
theorem dL_law__379 : decode cL_law_ 379 = .ok (.invokevirtual 117, 3) := by decide +kernel
theorem dL_law__382 : decode cL_law_ 382 = .ok (.aload_n 2, 1) := by decide +kernel
theorem dL_law__383 : decode cL_law_ 383 = .ok (.invokevirtual 120, 3) := by decide +kernel
theorem dL_law__386 : decode cL_law_ 386 = .ok (.if_icmp .eq 1558, 3) := by decide +kernel
theorem dL_law__389 : decode cL_law_ 389 = .ok (.iconst 0, 1) := by decide +kernel
theorem dL_law__390 : decode cL_law_ 390 = .ok (.ireturn, 1) := by decide +kernel
theorem dL_law__391 : decode cL_law_ 391 = .ok (.aload_n 1, 1) := by decide +kernel
theorem dL_law__392 : decode cL_law_ 392 = .ok (.aload_n 0, 1) := by decide +kernel
theorem dL_law__393 : decode cL_law_ 393 = .ok (.iload 4, 2) := by decide +kernel
theorem dL_law__395 : decode cL_law_ 395 = .ok (.iconst 1, 1) := by decide +kernel
theorem dL_law__396 : decode cL_law_ 396 = .ok (.iadd, 1) := by decide +kernel
theorem dL_law__397 : decode cL_law_ 397 = .ok (.iaload, 1) := by decide +kernel
theorem dL_law__398 : decode cL_law_ 398 = .ok (.aload_n 0, 1) := by decide +kernel
theorem dL_law__399 : decode cL_law_ 399 = .ok (.iload 4, 2) := by decide +kernel
theorem dL_law__401 : decode cL_law_ 401 = .ok (.iconst 2, 1) := by decide +kernel
theorem dL_law__402 : decode cL_law_ 402 = .ok (.iadd, 1) := by decide +kernel
theorem dL_law__403 : decode cL_law_ 403 = .ok (.iaload, 1) := by decide +kernel
theorem dL_law__404 : decode cL_law_ 404 = .ok (.aload_n 3, 1) := by decide +kernel
theorem dL_law__405 : decode cL_law_ 405 = .ok (.invokestatic 121, 3) := by decide +kernel
theorem dL_law__408 : decode cL_law_ 408 = .ok (.istore 5, 2) := by decide +kernel
theorem dL_law__410 : decode cL_law_ 410 = .ok (.aload_n 2, 1) := by decide +kernel
theorem dL_law__411 : decode cL_law_ 411 = .ok (.aload_n 0, 1) := by decide +kernel
theorem dL_law__412 : decode cL_law_ 412 = .ok (.iload 4, 2) := by decide +kernel
theorem dL_law__414 : decode cL_law_ 414 = .ok (.iconst 1, 1) := by decide +kernel
theorem dL_law__415 : decode cL_law_ 415 = .ok (.iadd, 1) := by decide +kernel
theorem dL_law__416 : decode cL_law_ 416 = .ok (.iaload, 1) := by decide +kernel
theorem dL_law__417 : decode cL_law_ 417 = .ok (.aload_n 0, 1) := by decide +kernel
theorem dL_law__418 : decode cL_law_ 418 = .ok (.iload 4, 2) := by decide +kernel
theorem dL_law__420 : decode cL_law_ 420 = .ok (.iconst 2, 1) := by decide +kernel
theorem dL_law__421 : decode cL_law_ 421 = .ok (.iadd, 1) := by decide +kernel
theorem dL_law__422 : decode cL_law_ 422 = .ok (.iaload, 1) := by decide +kernel
theorem dL_law__423 : decode cL_law_ 423 = .ok (.invokevirtual 124, 3) := by decide +kernel
theorem dL_law__426 : decode cL_law_ 426 = .ok (.istore 6, 2) := by decide +kernel
theorem dL_law__428 : decode cL_law_ 428 = .ok (.aload_n 2, 1) := by decide +kernel
theorem dL_law__429 : decode cL_law_ 429 = .ok (.invokevirtual 111, 3) := by decide +kernel
theorem dL_law__432 : decode cL_law_ 432 = .ok (.iload 5, 2) := by decide +kernel
theorem dL_law__434 : decode cL_law_ 434 = .ok (.if_icmp .eq 5, 3) := by decide +kernel
theorem dL_law__437 : decode cL_law_ 437 = .ok (.iconst 0, 1) := by decide +kernel
theorem dL_law__438 : decode cL_law_ 438 = .ok (.ireturn, 1) := by decide +kernel
theorem dL_law__439 : decode cL_law_ 439 = .ok (.iload 5, 2) := by decide +kernel
theorem dL_law__441 : decode cL_law_ 441 = .ok (.ifCond .ne 15, 3) := by decide +kernel
theorem dL_law__444 : decode cL_law_ 444 = .ok (.aload_n 3, 1) := by decide +kernel
theorem dL_law__445 : decode cL_law_ 445 = .ok (.iconst 0, 1) := by decide +kernel
theorem dL_law__446 : decode cL_law_ 446 = .ok (.laload, 1) := by decide +kernel
theorem dL_law__447 : decode cL_law_ 447 = .ok (.iload 6, 2) := by decide +kernel
theorem dL_law__449 : decode cL_law_ 449 = .ok (.i2l, 1) := by decide +kernel
theorem dL_law__450 : decode cL_law_ 450 = .ok (.lcmp, 1) := by decide +kernel
theorem dL_law__451 : decode cL_law_ 451 = .ok (.ifCond .eq 5, 3) := by decide +kernel
theorem dL_law__454 : decode cL_law_ 454 = .ok (.iconst 0, 1) := by decide +kernel
theorem dL_law__455 : decode cL_law_ 455 = .ok (.ireturn, 1) := by decide +kernel
theorem dL_law__456 : decode cL_law_ 456 = .ok (.goto 1488, 3) := by decide +kernel
theorem dL_law__459 : decode cL_law_ 459 = .ok (.aload_n 1, 1) := by decide +kernel
theorem dL_law__460 : decode cL_law_ 460 = .ok (.aload_n 0, 1) := by decide +kernel
theorem dL_law__461 : decode cL_law_ 461 = .ok (.iload 4, 2) := by decide +kernel
theorem dL_law__463 : decode cL_law_ 463 = .ok (.iconst 1, 1) := by decide +kernel
theorem dL_law__464 : decode cL_law_ 464 = .ok (.iadd, 1) := by decide +kernel
theorem dL_law__465 : decode cL_law_ 465 = .ok (.iaload, 1) := by decide +kernel
theorem dL_law__466 : decode cL_law_ 466 = .ok (.aload_n 0, 1) := by decide +kernel
theorem dL_law__467 : decode cL_law_ 467 = .ok (.iload 4, 2) := by decide +kernel
theorem dL_law__469 : decode cL_law_ 469 = .ok (.iconst 2, 1) := by decide +kernel
theorem dL_law__470 : decode cL_law_ 470 = .ok (.iadd, 1) := by decide +kernel
theorem dL_law__471 : decode cL_law_ 471 = .ok (.iaload, 1) := by decide +kernel
theorem dL_law__472 : decode cL_law_ 472 = .ok (.aload_n 3, 1) := by decide +kernel
theorem dL_law__473 : decode cL_law_ 473 = .ok (.invokestatic 125, 3) := by decide +kernel
theorem dL_law__476 : decode cL_law_ 476 = .ok (.istore 5, 2) := by decide +kernel
theorem dL_law__478 : decode cL_law_ 478 = .ok (.aload_n 2, 1) := by decide +kernel
theorem dL_law__479 : decode cL_law_ 479 = .ok (.aload_n 0, 1) := by decide +kernel
theorem dL_law__480 : decode cL_law_ 480 = .ok (.iload 4, 2) := by decide +kernel
theorem dL_law__482 : decode cL_law_ 482 = .ok (.iconst 1, 1) := by decide +kernel
theorem dL_law__483 : decode cL_law_ 483 = .ok (.iadd, 1) := by decide +kernel
theorem dL_law__484 : decode cL_law_ 484 = .ok (.iaload, 1) := by decide +kernel
theorem dL_law__485 : decode cL_law_ 485 = .ok (.aload_n 0, 1) := by decide +kernel
theorem dL_law__486 : decode cL_law_ 486 = .ok (.iload 4, 2) := by decide +kernel
theorem dL_law__488 : decode cL_law_ 488 = .ok (.iconst 2, 1) := by decide +kernel
theorem dL_law__489 : decode cL_law_ 489 = .ok (.iadd, 1) := by decide +kernel
theorem dL_law__490 : decode cL_law_ 490 = .ok (.iaload, 1) := by decide +kernel
theorem dL_law__491 : decode cL_law_ 491 = .ok (.invokevirtual 127, 3) := by decide +kernel
theorem dL_law__494 : decode cL_law_ 494 = .ok (.istore 6, 2) := by decide +kernel
theorem dL_law__496 : decode cL_law_ 496 = .ok (.aload_n 2, 1) := by decide +kernel
theorem dL_law__497 : decode cL_law_ 497 = .ok (.invokevirtual 111, 3) := by decide +kernel
theorem dL_law__500 : decode cL_law_ 500 = .ok (.iload 5, 2) := by decide +kernel
theorem dL_law__502 : decode cL_law_ 502 = .ok (.if_icmp .eq 5, 3) := by decide +kernel
theorem dL_law__505 : decode cL_law_ 505 = .ok (.iconst 0, 1) := by decide +kernel
theorem dL_law__506 : decode cL_law_ 506 = .ok (.ireturn, 1) := by decide +kernel
theorem dL_law__507 : decode cL_law_ 507 = .ok (.iload 5, 2) := by decide +kernel
theorem dL_law__509 : decode cL_law_ 509 = .ok (.ifCond .ne 15, 3) := by decide +kernel
theorem dL_law__512 : decode cL_law_ 512 = .ok (.aload_n 3, 1) := by decide +kernel
theorem dL_law__513 : decode cL_law_ 513 = .ok (.iconst 0, 1) := by decide +kernel
theorem dL_law__514 : decode cL_law_ 514 = .ok (.laload, 1) := by decide +kernel
theorem dL_law__515 : decode cL_law_ 515 = .ok (.iload 6, 2) := by decide +kernel
theorem dL_law__517 : decode cL_law_ 517 = .ok (.i2l, 1) := by decide +kernel
theorem dL_law__518 : decode cL_law_ 518 = .ok (.lcmp, 1) := by decide +kernel
theorem dL_law__519 : decode cL_law_ 519 = .ok (.ifCond .eq 5, 3) := by decide +kernel
theorem dL_law__522 : decode cL_law_ 522 = .ok (.iconst 0, 1) := by decide +kernel
theorem dL_law__523 : decode cL_law_ 523 = .ok (.ireturn, 1) := by decide +kernel
theorem dL_law__524 : decode cL_law_ 524 = .ok (.goto 1420, 3) := by decide +kernel
theorem dL_law__527 : decode cL_law_ 527 = .ok (.aload_n 1, 1) := by decide +kernel
theorem dL_law__528 : decode cL_law_ 528 = .ok (.aload_n 0, 1) := by decide +kernel
theorem dL_law__529 : decode cL_law_ 529 = .ok (.iload 4, 2) := by decide +kernel
theorem dL_law__531 : decode cL_law_ 531 = .ok (.iconst 1, 1) := by decide +kernel
theorem dL_law__532 : decode cL_law_ 532 = .ok (.iadd, 1) := by decide +kernel
theorem dL_law__533 : decode cL_law_ 533 = .ok (.iaload, 1) := by decide +kernel
theorem dL_law__534 : decode cL_law_ 534 = .ok (.aload_n 0, 1) := by decide +kernel
theorem dL_law__535 : decode cL_law_ 535 = .ok (.iload 4, 2) := by decide +kernel
theorem dL_law__537 : decode cL_law_ 537 = .ok (.iconst 2, 1) := by decide +kernel
theorem dL_law__538 : decode cL_law_ 538 = .ok (.iadd, 1) := by decide +kernel
theorem dL_law__539 : decode cL_law_ 539 = .ok (.iaload, 1) := by decide +kernel
theorem dL_law__540 : decode cL_law_ 540 = .ok (.aload_n 3, 1) := by decide +kernel
theorem dL_law__541 : decode cL_law_ 541 = .ok (.invokestatic 128, 3) := by decide +kernel
theorem dL_law__544 : decode cL_law_ 544 = .ok (.istore 5, 2) := by decide +kernel
theorem dL_law__546 : decode cL_law_ 546 = .ok (.aload_n 2, 1) := by decide +kernel
theorem dL_law__547 : decode cL_law_ 547 = .ok (.aload_n 0, 1) := by decide +kernel
theorem dL_law__548 : decode cL_law_ 548 = .ok (.iload 4, 2) := by decide +kernel
theorem dL_law__550 : decode cL_law_ 550 = .ok (.iconst 1, 1) := by decide +kernel
theorem dL_law__551 : decode cL_law_ 551 = .ok (.iadd, 1) := by decide +kernel
theorem dL_law__552 : decode cL_law_ 552 = .ok (.iaload, 1) := by decide +kernel
theorem dL_law__553 : decode cL_law_ 553 = .ok (.aload_n 0, 1) := by decide +kernel
theorem dL_law__554 : decode cL_law_ 554 = .ok (.iload 4, 2) := by decide +kernel
theorem dL_law__556 : decode cL_law_ 556 = .ok (.iconst 2, 1) := by decide +kernel
theorem dL_law__557 : decode cL_law_ 557 = .ok (.iadd, 1) := by decide +kernel
theorem dL_law__558 : decode cL_law_ 558 = .ok (.iaload, 1) := by decide +kernel
theorem dL_law__559 : decode cL_law_ 559 = .ok (.invokevirtual 130, 3) := by decide +kernel
theorem dL_law__562 : decode cL_law_ 562 = .ok (.istore 6, 2) := by decide +kernel
theorem dL_law__564 : decode cL_law_ 564 = .ok (.aload_n 2, 1) := by decide +kernel
theorem dL_law__565 : decode cL_law_ 565 = .ok (.invokevirtual 111, 3) := by decide +kernel
theorem dL_law__568 : decode cL_law_ 568 = .ok (.iload 5, 2) := by decide +kernel
theorem dL_law__570 : decode cL_law_ 570 = .ok (.if_icmp .eq 5, 3) := by decide +kernel
theorem dL_law__573 : decode cL_law_ 573 = .ok (.iconst 0, 1) := by decide +kernel
theorem dL_law__574 : decode cL_law_ 574 = .ok (.ireturn, 1) := by decide +kernel
theorem dL_law__575 : decode cL_law_ 575 = .ok (.iload 5, 2) := by decide +kernel
theorem dL_law__577 : decode cL_law_ 577 = .ok (.ifCond .ne 15, 3) := by decide +kernel
theorem dL_law__580 : decode cL_law_ 580 = .ok (.aload_n 3, 1) := by decide +kernel
theorem dL_law__581 : decode cL_law_ 581 = .ok (.iconst 0, 1) := by decide +kernel
theorem dL_law__582 : decode cL_law_ 582 = .ok (.laload, 1) := by decide +kernel
theorem dL_law__583 : decode cL_law_ 583 = .ok (.iload 6, 2) := by decide +kernel
theorem dL_law__585 : decode cL_law_ 585 = .ok (.i2l, 1) := by decide +kernel
theorem dL_law__586 : decode cL_law_ 586 = .ok (.lcmp, 1) := by decide +kernel
theorem dL_law__587 : decode cL_law_ 587 = .ok (.ifCond .eq 5, 3) := by decide +kernel
theorem dL_law__590 : decode cL_law_ 590 = .ok (.iconst 0, 1) := by decide +kernel
theorem dL_law__591 : decode cL_law_ 591 = .ok (.ireturn, 1) := by decide +kernel
theorem dL_law__592 : decode cL_law_ 592 = .ok (.goto 1352, 3) := by decide +kernel
theorem dL_law__595 : decode cL_law_ 595 = .ok (.aload_n 1, 1) := by decide +kernel
theorem dL_law__596 : decode cL_law_ 596 = .ok (.aload_n 0, 1) := by decide +kernel
theorem dL_law__597 : decode cL_law_ 597 = .ok (.iload 4, 2) := by decide +kernel
theorem dL_law__599 : decode cL_law_ 599 = .ok (.iconst 1, 1) := by decide +kernel
theorem dL_law__600 : decode cL_law_ 600 = .ok (.iadd, 1) := by decide +kernel
theorem dL_law__601 : decode cL_law_ 601 = .ok (.iaload, 1) := by decide +kernel
theorem dL_law__602 : decode cL_law_ 602 = .ok (.aload_n 0, 1) := by decide +kernel
theorem dL_law__603 : decode cL_law_ 603 = .ok (.iload 4, 2) := by decide +kernel
theorem dL_law__605 : decode cL_law_ 605 = .ok (.iconst 2, 1) := by decide +kernel
theorem dL_law__606 : decode cL_law_ 606 = .ok (.iadd, 1) := by decide +kernel
theorem dL_law__607 : decode cL_law_ 607 = .ok (.iaload, 1) := by decide +kernel
theorem dL_law__608 : decode cL_law_ 608 = .ok (.aload_n 3, 1) := by decide +kernel
theorem dL_law__609 : decode cL_law_ 609 = .ok (.invokestatic 131, 3) := by decide +kernel
theorem dL_law__612 : decode cL_law_ 612 = .ok (.istore 5, 2) := by decide +kernel
theorem dL_law__614 : decode cL_law_ 614 = .ok (.aload_n 2, 1) := by decide +kernel
theorem dL_law__615 : decode cL_law_ 615 = .ok (.aload_n 0, 1) := by decide +kernel
theorem dL_law__616 : decode cL_law_ 616 = .ok (.iload 4, 2) := by decide +kernel
theorem dL_law__618 : decode cL_law_ 618 = .ok (.iconst 1, 1) := by decide +kernel
theorem dL_law__619 : decode cL_law_ 619 = .ok (.iadd, 1) := by decide +kernel
theorem dL_law__620 : decode cL_law_ 620 = .ok (.iaload, 1) := by decide +kernel
theorem dL_law__621 : decode cL_law_ 621 = .ok (.aload_n 0, 1) := by decide +kernel
theorem dL_law__622 : decode cL_law_ 622 = .ok (.iload 4, 2) := by decide +kernel
theorem dL_law__624 : decode cL_law_ 624 = .ok (.iconst 2, 1) := by decide +kernel
theorem dL_law__625 : decode cL_law_ 625 = .ok (.iadd, 1) := by decide +kernel
theorem dL_law__626 : decode cL_law_ 626 = .ok (.iaload, 1) := by decide +kernel
theorem dL_law__627 : decode cL_law_ 627 = .ok (.invokevirtual 133, 3) := by decide +kernel
theorem dL_law__630 : decode cL_law_ 630 = .ok (.istore 6, 2) := by decide +kernel
theorem dL_law__632 : decode cL_law_ 632 = .ok (.aload_n 2, 1) := by decide +kernel
theorem dL_law__633 : decode cL_law_ 633 = .ok (.invokevirtual 111, 3) := by decide +kernel
theorem dL_law__636 : decode cL_law_ 636 = .ok (.iload 5, 2) := by decide +kernel
theorem dL_law__638 : decode cL_law_ 638 = .ok (.if_icmp .eq 5, 3) := by decide +kernel
theorem dL_law__641 : decode cL_law_ 641 = .ok (.iconst 0, 1) := by decide +kernel
theorem dL_law__642 : decode cL_law_ 642 = .ok (.ireturn, 1) := by decide +kernel
theorem dL_law__643 : decode cL_law_ 643 = .ok (.iload 5, 2) := by decide +kernel
theorem dL_law__645 : decode cL_law_ 645 = .ok (.ifCond .ne 15, 3) := by decide +kernel
theorem dL_law__648 : decode cL_law_ 648 = .ok (.aload_n 3, 1) := by decide +kernel
theorem dL_law__649 : decode cL_law_ 649 = .ok (.iconst 0, 1) := by decide +kernel
theorem dL_law__650 : decode cL_law_ 650 = .ok (.laload, 1) := by decide +kernel
theorem dL_law__651 : decode cL_law_ 651 = .ok (.iload 6, 2) := by decide +kernel
theorem dL_law__653 : decode cL_law_ 653 = .ok (.i2l, 1) := by decide +kernel
theorem dL_law__654 : decode cL_law_ 654 = .ok (.lcmp, 1) := by decide +kernel
theorem dL_law__655 : decode cL_law_ 655 = .ok (.ifCond .eq 5, 3) := by decide +kernel
theorem dL_law__658 : decode cL_law_ 658 = .ok (.iconst 0, 1) := by decide +kernel
theorem dL_law__659 : decode cL_law_ 659 = .ok (.ireturn, 1) := by decide +kernel
theorem dL_law__660 : decode cL_law_ 660 = .ok (.goto 1284, 3) := by decide +kernel
theorem dL_law__663 : decode cL_law_ 663 = .ok (.aload_n 1, 1) := by decide +kernel
theorem dL_law__664 : decode cL_law_ 664 = .ok (.aload_n 0, 1) := by decide +kernel
theorem dL_law__665 : decode cL_law_ 665 = .ok (.iload 4, 2) := by decide +kernel
theorem dL_law__667 : decode cL_law_ 667 = .ok (.iconst 1, 1) := by decide +kernel
theorem dL_law__668 : decode cL_law_ 668 = .ok (.iadd, 1) := by decide +kernel
theorem dL_law__669 : decode cL_law_ 669 = .ok (.iaload, 1) := by decide +kernel
theorem dL_law__670 : decode cL_law_ 670 = .ok (.aload_n 0, 1) := by decide +kernel
theorem dL_law__671 : decode cL_law_ 671 = .ok (.iload 4, 2) := by decide +kernel
theorem dL_law__673 : decode cL_law_ 673 = .ok (.iconst 2, 1) := by decide +kernel
theorem dL_law__674 : decode cL_law_ 674 = .ok (.iadd, 1) := by decide +kernel
theorem dL_law__675 : decode cL_law_ 675 = .ok (.iaload, 1) := by decide +kernel
theorem dL_law__676 : decode cL_law_ 676 = .ok (.aload_n 0, 1) := by decide +kernel
theorem dL_law__677 : decode cL_law_ 677 = .ok (.iload 4, 2) := by decide +kernel
theorem dL_law__679 : decode cL_law_ 679 = .ok (.iconst 3, 1) := by decide +kernel
theorem dL_law__680 : decode cL_law_ 680 = .ok (.iadd, 1) := by decide +kernel
theorem dL_law__681 : decode cL_law_ 681 = .ok (.iaload, 1) := by decide +kernel
theorem dL_law__682 : decode cL_law_ 682 = .ok (.ifCond .eq 7, 3) := by decide +kernel
theorem dL_law__685 : decode cL_law_ 685 = .ok (.iconst 1, 1) := by decide +kernel
theorem dL_law__686 : decode cL_law_ 686 = .ok (.goto 4, 3) := by decide +kernel
theorem dL_law__689 : decode cL_law_ 689 = .ok (.iconst 0, 1) := by decide +kernel
theorem dL_law__690 : decode cL_law_ 690 = .ok (.aload_n 3, 1) := by decide +kernel
theorem dL_law__691 : decode cL_law_ 691 = .ok (.invokestatic 134, 3) := by decide +kernel
theorem dL_law__694 : decode cL_law_ 694 = .ok (.istore 5, 2) := by decide +kernel
theorem dL_law__696 : decode cL_law_ 696 = .ok (.aload_n 2, 1) := by decide +kernel
theorem dL_law__697 : decode cL_law_ 697 = .ok (.aload_n 0, 1) := by decide +kernel
theorem dL_law__698 : decode cL_law_ 698 = .ok (.iload 4, 2) := by decide +kernel
theorem dL_law__700 : decode cL_law_ 700 = .ok (.iconst 1, 1) := by decide +kernel
theorem dL_law__701 : decode cL_law_ 701 = .ok (.iadd, 1) := by decide +kernel
theorem dL_law__702 : decode cL_law_ 702 = .ok (.iaload, 1) := by decide +kernel
theorem dL_law__703 : decode cL_law_ 703 = .ok (.aload_n 0, 1) := by decide +kernel
theorem dL_law__704 : decode cL_law_ 704 = .ok (.iload 4, 2) := by decide +kernel
theorem dL_law__706 : decode cL_law_ 706 = .ok (.iconst 2, 1) := by decide +kernel
theorem dL_law__707 : decode cL_law_ 707 = .ok (.iadd, 1) := by decide +kernel
theorem dL_law__708 : decode cL_law_ 708 = .ok (.iaload, 1) := by decide +kernel
theorem dL_law__709 : decode cL_law_ 709 = .ok (.aload_n 0, 1) := by decide +kernel
theorem dL_law__710 : decode cL_law_ 710 = .ok (.iload 4, 2) := by decide +kernel
theorem dL_law__712 : decode cL_law_ 712 = .ok (.iconst 3, 1) := by decide +kernel
theorem dL_law__713 : decode cL_law_ 713 = .ok (.iadd, 1) := by decide +kernel
theorem dL_law__714 : decode cL_law_ 714 = .ok (.iaload, 1) := by decide +kernel
theorem dL_law__715 : decode cL_law_ 715 = .ok (.ifCond .eq 7, 3) := by decide +kernel
theorem dL_law__718 : decode cL_law_ 718 = .ok (.iconst 1, 1) := by decide +kernel
theorem dL_law__719 : decode cL_law_ 719 = .ok (.goto 4, 3) := by decide +kernel
theorem dL_law__722 : decode cL_law_ 722 = .ok (.iconst 0, 1) := by decide +kernel
theorem dL_law__723 : decode cL_law_ 723 = .ok (.invokevirtual 137, 3) := by decide +kernel
theorem dL_law__726 : decode cL_law_ 726 = .ok (.istore 6, 2) := by decide +kernel
theorem dL_law__728 : decode cL_law_ 728 = .ok (.aload_n 2, 1) := by decide +kernel
theorem dL_law__729 : decode cL_law_ 729 = .ok (.invokevirtual 111, 3) := by decide +kernel
theorem dL_law__732 : decode cL_law_ 732 = .ok (.iload 5, 2) := by decide +kernel
theorem dL_law__734 : decode cL_law_ 734 = .ok (.if_icmp .eq 5, 3) := by decide +kernel
theorem dL_law__737 : decode cL_law_ 737 = .ok (.iconst 0, 1) := by decide +kernel
theorem dL_law__738 : decode cL_law_ 738 = .ok (.ireturn, 1) := by decide +kernel
theorem dL_law__739 : decode cL_law_ 739 = .ok (.iload 5, 2) := by decide +kernel
theorem dL_law__741 : decode cL_law_ 741 = .ok (.ifCond .ne 22, 3) := by decide +kernel
theorem dL_law__744 : decode cL_law_ 744 = .ok (.aload_n 3, 1) := by decide +kernel
theorem dL_law__745 : decode cL_law_ 745 = .ok (.iconst 0, 1) := by decide +kernel
theorem dL_law__746 : decode cL_law_ 746 = .ok (.laload, 1) := by decide +kernel
theorem dL_law__747 : decode cL_law_ 747 = .ok (.iload 6, 2) := by decide +kernel
theorem dL_law__749 : decode cL_law_ 749 = .ok (.ifCond .eq 7, 3) := by decide +kernel
theorem dL_law__752 : decode cL_law_ 752 = .ok (.lconst 1, 1) := by decide +kernel
theorem dL_law__753 : decode cL_law_ 753 = .ok (.goto 4, 3) := by decide +kernel
theorem dL_law__756 : decode cL_law_ 756 = .ok (.lconst 0, 1) := by decide +kernel
theorem dL_law__757 : decode cL_law_ 757 = .ok (.lcmp, 1) := by decide +kernel
theorem dL_law__758 : decode cL_law_ 758 = .ok (.ifCond .eq 5, 3) := by decide +kernel
theorem dL_law__761 : decode cL_law_ 761 = .ok (.iconst 0, 1) := by decide +kernel
theorem dL_law__762 : decode cL_law_ 762 = .ok (.ireturn, 1) := by decide +kernel
theorem dL_law__763 : decode cL_law_ 763 = .ok (.goto 1181, 3) := by decide +kernel
theorem dL_law__766 : decode cL_law_ 766 = .ok (.aload_n 1, 1) := by decide +kernel
theorem dL_law__767 : decode cL_law_ 767 = .ok (.aload_n 0, 1) := by decide +kernel
theorem dL_law__768 : decode cL_law_ 768 = .ok (.iload 4, 2) := by decide +kernel
theorem dL_law__770 : decode cL_law_ 770 = .ok (.iconst 1, 1) := by decide +kernel
theorem dL_law__771 : decode cL_law_ 771 = .ok (.iadd, 1) := by decide +kernel
theorem dL_law__772 : decode cL_law_ 772 = .ok (.iaload, 1) := by decide +kernel
theorem dL_law__773 : decode cL_law_ 773 = .ok (.aload_n 0, 1) := by decide +kernel
theorem dL_law__774 : decode cL_law_ 774 = .ok (.iload 4, 2) := by decide +kernel
theorem dL_law__776 : decode cL_law_ 776 = .ok (.iconst 2, 1) := by decide +kernel
theorem dL_law__777 : decode cL_law_ 777 = .ok (.iadd, 1) := by decide +kernel
theorem dL_law__778 : decode cL_law_ 778 = .ok (.iaload, 1) := by decide +kernel
theorem dL_law__779 : decode cL_law_ 779 = .ok (.aload_n 3, 1) := by decide +kernel
theorem dL_law__780 : decode cL_law_ 780 = .ok (.invokestatic 138, 3) := by decide +kernel
theorem dL_law__783 : decode cL_law_ 783 = .ok (.istore 5, 2) := by decide +kernel
theorem dL_law__785 : decode cL_law_ 785 = .ok (.aload_n 2, 1) := by decide +kernel
theorem dL_law__786 : decode cL_law_ 786 = .ok (.aload_n 0, 1) := by decide +kernel
theorem dL_law__787 : decode cL_law_ 787 = .ok (.iload 4, 2) := by decide +kernel
theorem dL_law__789 : decode cL_law_ 789 = .ok (.iconst 1, 1) := by decide +kernel
theorem dL_law__790 : decode cL_law_ 790 = .ok (.iadd, 1) := by decide +kernel
theorem dL_law__791 : decode cL_law_ 791 = .ok (.iaload, 1) := by decide +kernel
theorem dL_law__792 : decode cL_law_ 792 = .ok (.aload_n 0, 1) := by decide +kernel
theorem dL_law__793 : decode cL_law_ 793 = .ok (.iload 4, 2) := by decide +kernel
theorem dL_law__795 : decode cL_law_ 795 = .ok (.iconst 2, 1) := by decide +kernel
theorem dL_law__796 : decode cL_law_ 796 = .ok (.iadd, 1) := by decide +kernel
theorem dL_law__797 : decode cL_law_ 797 = .ok (.iaload, 1) := by decide +kernel
theorem dL_law__798 : decode cL_law_ 798 = .ok (.invokevirtual 140, 3) := by decide +kernel
theorem dL_law__801 : decode cL_law_ 801 = .ok (.istore 6, 2) := by decide +kernel
theorem dL_law__803 : decode cL_law_ 803 = .ok (.aload_n 2, 1) := by decide +kernel
theorem dL_law__804 : decode cL_law_ 804 = .ok (.invokevirtual 111, 3) := by decide +kernel
theorem dL_law__807 : decode cL_law_ 807 = .ok (.iload 5, 2) := by decide +kernel
theorem dL_law__809 : decode cL_law_ 809 = .ok (.if_icmp .eq 5, 3) := by decide +kernel
theorem dL_law__812 : decode cL_law_ 812 = .ok (.iconst 0, 1) := by decide +kernel
theorem dL_law__813 : decode cL_law_ 813 = .ok (.ireturn, 1) := by decide +kernel
theorem dL_law__814 : decode cL_law_ 814 = .ok (.iload 5, 2) := by decide +kernel
theorem dL_law__816 : decode cL_law_ 816 = .ok (.ifCond .ne 15, 3) := by decide +kernel
theorem dL_law__819 : decode cL_law_ 819 = .ok (.aload_n 3, 1) := by decide +kernel
theorem dL_law__820 : decode cL_law_ 820 = .ok (.iconst 0, 1) := by decide +kernel
theorem dL_law__821 : decode cL_law_ 821 = .ok (.laload, 1) := by decide +kernel
theorem dL_law__822 : decode cL_law_ 822 = .ok (.iload 6, 2) := by decide +kernel
theorem dL_law__824 : decode cL_law_ 824 = .ok (.i2l, 1) := by decide +kernel
theorem dL_law__825 : decode cL_law_ 825 = .ok (.lcmp, 1) := by decide +kernel
theorem dL_law__826 : decode cL_law_ 826 = .ok (.ifCond .eq 5, 3) := by decide +kernel
theorem dL_law__829 : decode cL_law_ 829 = .ok (.iconst 0, 1) := by decide +kernel
theorem dL_law__830 : decode cL_law_ 830 = .ok (.ireturn, 1) := by decide +kernel
theorem dL_law__831 : decode cL_law_ 831 = .ok (.goto 1113, 3) := by decide +kernel
theorem dL_law__834 : decode cL_law_ 834 = .ok (.aload_n 1, 1) := by decide +kernel
theorem dL_law__835 : decode cL_law_ 835 = .ok (.aload_n 0, 1) := by decide +kernel
theorem dL_law__836 : decode cL_law_ 836 = .ok (.iload 4, 2) := by decide +kernel
theorem dL_law__838 : decode cL_law_ 838 = .ok (.iconst 1, 1) := by decide +kernel
theorem dL_law__839 : decode cL_law_ 839 = .ok (.iadd, 1) := by decide +kernel
theorem dL_law__840 : decode cL_law_ 840 = .ok (.iaload, 1) := by decide +kernel
theorem dL_law__841 : decode cL_law_ 841 = .ok (.aload_n 3, 1) := by decide +kernel
theorem dL_law__842 : decode cL_law_ 842 = .ok (.invokestatic 141, 3) := by decide +kernel
theorem dL_law__845 : decode cL_law_ 845 = .ok (.istore 5, 2) := by decide +kernel
theorem dL_law__847 : decode cL_law_ 847 = .ok (.aload_n 2, 1) := by decide +kernel
theorem dL_law__848 : decode cL_law_ 848 = .ok (.aload_n 0, 1) := by decide +kernel
theorem dL_law__849 : decode cL_law_ 849 = .ok (.iload 4, 2) := by decide +kernel
theorem dL_law__851 : decode cL_law_ 851 = .ok (.iconst 1, 1) := by decide +kernel
theorem dL_law__852 : decode cL_law_ 852 = .ok (.iadd, 1) := by decide +kernel
theorem dL_law__853 : decode cL_law_ 853 = .ok (.iaload, 1) := by decide +kernel
theorem dL_law__854 : decode cL_law_ 854 = .ok (.invokevirtual 144, 3) := by decide +kernel
theorem dL_law__857 : decode cL_law_ 857 = .ok (.istore 6, 2) := by decide +kernel
theorem dL_law__859 : decode cL_law_ 859 = .ok (.aload_n 2, 1) := by decide +kernel
theorem dL_law__860 : decode cL_law_ 860 = .ok (.invokevirtual 111, 3) := by decide +kernel
theorem dL_law__863 : decode cL_law_ 863 = .ok (.iload 5, 2) := by decide +kernel
theorem dL_law__865 : decode cL_law_ 865 = .ok (.if_icmp .eq 5, 3) := by decide +kernel
theorem dL_law__868 : decode cL_law_ 868 = .ok (.iconst 0, 1) := by decide +kernel
theorem dL_law__869 : decode cL_law_ 869 = .ok (.ireturn, 1) := by decide +kernel
theorem dL_law__870 : decode cL_law_ 870 = .ok (.iload 5, 2) := by decide +kernel
theorem dL_law__872 : decode cL_law_ 872 = .ok (.ifCond .ne 15, 3) := by decide +kernel
theorem dL_law__875 : decode cL_law_ 875 = .ok (.aload_n 3, 1) := by decide +kernel
theorem dL_law__876 : decode cL_law_ 876 = .ok (.iconst 0, 1) := by decide +kernel
theorem dL_law__877 : decode cL_law_ 877 = .ok (.laload, 1) := by decide +kernel
theorem dL_law__878 : decode cL_law_ 878 = .ok (.iload 6, 2) := by decide +kernel
theorem dL_law__880 : decode cL_law_ 880 = .ok (.i2l, 1) := by decide +kernel
theorem dL_law__881 : decode cL_law_ 881 = .ok (.lcmp, 1) := by decide +kernel
theorem dL_law__882 : decode cL_law_ 882 = .ok (.ifCond .eq 5, 3) := by decide +kernel
theorem dL_law__885 : decode cL_law_ 885 = .ok (.iconst 0, 1) := by decide +kernel
theorem dL_law__886 : decode cL_law_ 886 = .ok (.ireturn, 1) := by decide +kernel
theorem dL_law__887 : decode cL_law_ 887 = .ok (.goto 1057, 3) := by decide +kernel
theorem dL_law__890 : decode cL_law_ 890 = .ok (.aload_n 1, 1) := by decide +kernel
theorem dL_law__891 : decode cL_law_ 891 = .ok (.aload_n 0, 1) := by decide +kernel
theorem dL_law__892 : decode cL_law_ 892 = .ok (.iload 4, 2) := by decide +kernel
theorem dL_law__894 : decode cL_law_ 894 = .ok (.iconst 1, 1) := by decide +kernel
theorem dL_law__895 : decode cL_law_ 895 = .ok (.iadd, 1) := by decide +kernel
theorem dL_law__896 : decode cL_law_ 896 = .ok (.iaload, 1) := by decide +kernel
theorem dL_law__897 : decode cL_law_ 897 = .ok (.aload_n 3, 1) := by decide +kernel
theorem dL_law__898 : decode cL_law_ 898 = .ok (.invokestatic 145, 3) := by decide +kernel
theorem dL_law__901 : decode cL_law_ 901 = .ok (.istore 5, 2) := by decide +kernel
theorem dL_law__903 : decode cL_law_ 903 = .ok (.aload_n 2, 1) := by decide +kernel
theorem dL_law__904 : decode cL_law_ 904 = .ok (.aload_n 0, 1) := by decide +kernel
theorem dL_law__905 : decode cL_law_ 905 = .ok (.iload 4, 2) := by decide +kernel
theorem dL_law__907 : decode cL_law_ 907 = .ok (.iconst 1, 1) := by decide +kernel
theorem dL_law__908 : decode cL_law_ 908 = .ok (.iadd, 1) := by decide +kernel
theorem dL_law__909 : decode cL_law_ 909 = .ok (.iaload, 1) := by decide +kernel
theorem dL_law__910 : decode cL_law_ 910 = .ok (.invokevirtual 147, 3) := by decide +kernel
theorem dL_law__913 : decode cL_law_ 913 = .ok (.istore 6, 2) := by decide +kernel
theorem dL_law__915 : decode cL_law_ 915 = .ok (.aload_n 2, 1) := by decide +kernel
theorem dL_law__916 : decode cL_law_ 916 = .ok (.invokevirtual 111, 3) := by decide +kernel
theorem dL_law__919 : decode cL_law_ 919 = .ok (.iload 5, 2) := by decide +kernel
theorem dL_law__921 : decode cL_law_ 921 = .ok (.if_icmp .eq 5, 3) := by decide +kernel
theorem dL_law__924 : decode cL_law_ 924 = .ok (.iconst 0, 1) := by decide +kernel
theorem dL_law__925 : decode cL_law_ 925 = .ok (.ireturn, 1) := by decide +kernel
theorem dL_law__926 : decode cL_law_ 926 = .ok (.iload 5, 2) := by decide +kernel
theorem dL_law__928 : decode cL_law_ 928 = .ok (.ifCond .ne 22, 3) := by decide +kernel
theorem dL_law__931 : decode cL_law_ 931 = .ok (.aload_n 3, 1) := by decide +kernel
theorem dL_law__932 : decode cL_law_ 932 = .ok (.iconst 0, 1) := by decide +kernel
theorem dL_law__933 : decode cL_law_ 933 = .ok (.laload, 1) := by decide +kernel
theorem dL_law__934 : decode cL_law_ 934 = .ok (.iload 6, 2) := by decide +kernel
theorem dL_law__936 : decode cL_law_ 936 = .ok (.ifCond .eq 7, 3) := by decide +kernel
theorem dL_law__939 : decode cL_law_ 939 = .ok (.lconst 1, 1) := by decide +kernel
theorem dL_law__940 : decode cL_law_ 940 = .ok (.goto 4, 3) := by decide +kernel
theorem dL_law__943 : decode cL_law_ 943 = .ok (.lconst 0, 1) := by decide +kernel
theorem dL_law__944 : decode cL_law_ 944 = .ok (.lcmp, 1) := by decide +kernel
theorem dL_law__945 : decode cL_law_ 945 = .ok (.ifCond .eq 5, 3) := by decide +kernel
theorem dL_law__948 : decode cL_law_ 948 = .ok (.iconst 0, 1) := by decide +kernel
theorem dL_law__949 : decode cL_law_ 949 = .ok (.ireturn, 1) := by decide +kernel
theorem dL_law__950 : decode cL_law_ 950 = .ok (.goto 994, 3) := by decide +kernel
theorem dL_law__953 : decode cL_law_ 953 = .ok (.aload_n 1, 1) := by decide +kernel
theorem dL_law__954 : decode cL_law_ 954 = .ok (.aload_n 0, 1) := by decide +kernel
theorem dL_law__955 : decode cL_law_ 955 = .ok (.iload 4, 2) := by decide +kernel
theorem dL_law__957 : decode cL_law_ 957 = .ok (.iconst 1, 1) := by decide +kernel
theorem dL_law__958 : decode cL_law_ 958 = .ok (.iadd, 1) := by decide +kernel
theorem dL_law__959 : decode cL_law_ 959 = .ok (.iaload, 1) := by decide +kernel
theorem dL_law__960 : decode cL_law_ 960 = .ok (.aload_n 0, 1) := by decide +kernel
theorem dL_law__961 : decode cL_law_ 961 = .ok (.iload 4, 2) := by decide +kernel
theorem dL_law__963 : decode cL_law_ 963 = .ok (.iconst 2, 1) := by decide +kernel
theorem dL_law__964 : decode cL_law_ 964 = .ok (.iadd, 1) := by decide +kernel
theorem dL_law__965 : decode cL_law_ 965 = .ok (.iaload, 1) := by decide +kernel
theorem dL_law__966 : decode cL_law_ 966 = .ok (.aload_n 0, 1) := by decide +kernel
theorem dL_law__967 : decode cL_law_ 967 = .ok (.iload 4, 2) := by decide +kernel
theorem dL_law__969 : decode cL_law_ 969 = .ok (.iconst 3, 1) := by decide +kernel
theorem dL_law__970 : decode cL_law_ 970 = .ok (.iadd, 1) := by decide +kernel
theorem dL_law__971 : decode cL_law_ 971 = .ok (.iaload, 1) := by decide +kernel
theorem dL_law__972 : decode cL_law_ 972 = .ok (.aload_n 3, 1) := by decide +kernel
theorem dL_law__973 : decode cL_law_ 973 = .ok (.invokestatic 148, 3) := by decide +kernel
theorem dL_law__976 : decode cL_law_ 976 = .ok (.istore 5, 2) := by decide +kernel
theorem dL_law__978 : decode cL_law_ 978 = .ok (.aload_n 2, 1) := by decide +kernel
theorem dL_law__979 : decode cL_law_ 979 = .ok (.aload_n 0, 1) := by decide +kernel
theorem dL_law__980 : decode cL_law_ 980 = .ok (.iload 4, 2) := by decide +kernel
theorem dL_law__982 : decode cL_law_ 982 = .ok (.iconst 1, 1) := by decide +kernel
theorem dL_law__983 : decode cL_law_ 983 = .ok (.iadd, 1) := by decide +kernel
theorem dL_law__984 : decode cL_law_ 984 = .ok (.iaload, 1) := by decide +kernel
theorem dL_law__985 : decode cL_law_ 985 = .ok (.aload_n 0, 1) := by decide +kernel
theorem dL_law__986 : decode cL_law_ 986 = .ok (.iload 4, 2) := by decide +kernel
theorem dL_law__988 : decode cL_law_ 988 = .ok (.iconst 2, 1) := by decide +kernel
theorem dL_law__989 : decode cL_law_ 989 = .ok (.iadd, 1) := by decide +kernel
theorem dL_law__990 : decode cL_law_ 990 = .ok (.iaload, 1) := by decide +kernel
theorem dL_law__991 : decode cL_law_ 991 = .ok (.aload_n 0, 1) := by decide +kernel
theorem dL_law__992 : decode cL_law_ 992 = .ok (.iload 4, 2) := by decide +kernel
theorem dL_law__994 : decode cL_law_ 994 = .ok (.iconst 3, 1) := by decide +kernel
theorem dL_law__995 : decode cL_law_ 995 = .ok (.iadd, 1) := by decide +kernel
theorem dL_law__996 : decode cL_law_ 996 = .ok (.iaload, 1) := by decide +kernel
theorem dL_law__997 : decode cL_law_ 997 = .ok (.invokevirtual 151, 3) := by decide +kernel
theorem dL_law__1000 : decode cL_law_ 1000 = .ok (.istore 6, 2) := by decide +kernel
theorem dL_law__1002 : decode cL_law_ 1002 = .ok (.aload_n 2, 1) := by decide +kernel
theorem dL_law__1003 : decode cL_law_ 1003 = .ok (.invokevirtual 111, 3) := by decide +kernel
theorem dL_law__1006 : decode cL_law_ 1006 = .ok (.iload 5, 2) := by decide +kernel
theorem dL_law__1008 : decode cL_law_ 1008 = .ok (.if_icmp .eq 5, 3) := by decide +kernel
theorem dL_law__1011 : decode cL_law_ 1011 = .ok (.iconst 0, 1) := by decide +kernel
theorem dL_law__1012 : decode cL_law_ 1012 = .ok (.ireturn, 1) := by decide +kernel
theorem dL_law__1013 : decode cL_law_ 1013 = .ok (.iload 5, 2) := by decide +kernel
theorem dL_law__1015 : decode cL_law_ 1015 = .ok (.ifCond .ne 15, 3) := by decide +kernel
theorem dL_law__1018 : decode cL_law_ 1018 = .ok (.aload_n 3, 1) := by decide +kernel
theorem dL_law__1019 : decode cL_law_ 1019 = .ok (.iconst 0, 1) := by decide +kernel
theorem dL_law__1020 : decode cL_law_ 1020 = .ok (.laload, 1) := by decide +kernel
theorem dL_law__1021 : decode cL_law_ 1021 = .ok (.iload 6, 2) := by decide +kernel
theorem dL_law__1023 : decode cL_law_ 1023 = .ok (.i2l, 1) := by decide +kernel
theorem dL_law__1024 : decode cL_law_ 1024 = .ok (.lcmp, 1) := by decide +kernel
theorem dL_law__1025 : decode cL_law_ 1025 = .ok (.ifCond .eq 5, 3) := by decide +kernel
theorem dL_law__1028 : decode cL_law_ 1028 = .ok (.iconst 0, 1) := by decide +kernel
theorem dL_law__1029 : decode cL_law_ 1029 = .ok (.ireturn, 1) := by decide +kernel
theorem dL_law__1030 : decode cL_law_ 1030 = .ok (.goto 914, 3) := by decide +kernel
theorem dL_law__1033 : decode cL_law_ 1033 = .ok (.aload_n 1, 1) := by decide +kernel
theorem dL_law__1034 : decode cL_law_ 1034 = .ok (.aload_n 0, 1) := by decide +kernel
theorem dL_law__1035 : decode cL_law_ 1035 = .ok (.iload 4, 2) := by decide +kernel
theorem dL_law__1037 : decode cL_law_ 1037 = .ok (.iconst 1, 1) := by decide +kernel
theorem dL_law__1038 : decode cL_law_ 1038 = .ok (.iadd, 1) := by decide +kernel
theorem dL_law__1039 : decode cL_law_ 1039 = .ok (.iaload, 1) := by decide +kernel
theorem dL_law__1040 : decode cL_law_ 1040 = .ok (.invokevirtual 152, 3) := by decide +kernel
theorem dL_law__1043 : decode cL_law_ 1043 = .ok (.aload_n 2, 1) := by decide +kernel
theorem dL_law__1044 : decode cL_law_ 1044 = .ok (.aload_n 0, 1) := by decide +kernel
theorem dL_law__1045 : decode cL_law_ 1045 = .ok (.iload 4, 2) := by decide +kernel
theorem dL_law__1047 : decode cL_law_ 1047 = .ok (.iconst 1, 1) := by decide +kernel
theorem dL_law__1048 : decode cL_law_ 1048 = .ok (.iadd, 1) := by decide +kernel
theorem dL_law__1049 : decode cL_law_ 1049 = .ok (.iaload, 1) := by decide +kernel
theorem dL_law__1050 : decode cL_law_ 1050 = .ok (.invokevirtual 155, 3) := by decide +kernel
theorem dL_law__1053 : decode cL_law_ 1053 = .ok (.if_icmp .eq 891, 3) := by decide +kernel
theorem dL_law__1056 : decode cL_law_ 1056 = .ok (.iconst 0, 1) := by decide +kernel
theorem dL_law__1057 : decode cL_law_ 1057 = .ok (.ireturn, 1) := by decide +kernel
theorem dL_law__1058 : decode cL_law_ 1058 = .ok (.aload_n 1, 1) := by decide +kernel
theorem dL_law__1059 : decode cL_law_ 1059 = .ok (.aload_n 0, 1) := by decide +kernel
theorem dL_law__1060 : decode cL_law_ 1060 = .ok (.iload 4, 2) := by decide +kernel
theorem dL_law__1062 : decode cL_law_ 1062 = .ok (.iconst 1, 1) := by decide +kernel
theorem dL_law__1063 : decode cL_law_ 1063 = .ok (.iadd, 1) := by decide +kernel
theorem dL_law__1064 : decode cL_law_ 1064 = .ok (.iaload, 1) := by decide +kernel
theorem dL_law__1065 : decode cL_law_ 1065 = .ok (.aload_n 3, 1) := by decide +kernel
theorem dL_law__1066 : decode cL_law_ 1066 = .ok (.invokestatic 156, 3) := by decide +kernel
theorem dL_law__1069 : decode cL_law_ 1069 = .ok (.istore 5, 2) := by decide +kernel
theorem dL_law__1071 : decode cL_law_ 1071 = .ok (.aload_n 2, 1) := by decide +kernel
theorem dL_law__1072 : decode cL_law_ 1072 = .ok (.aload_n 0, 1) := by decide +kernel
theorem dL_law__1073 : decode cL_law_ 1073 = .ok (.iload 4, 2) := by decide +kernel
theorem dL_law__1075 : decode cL_law_ 1075 = .ok (.iconst 1, 1) := by decide +kernel
theorem dL_law__1076 : decode cL_law_ 1076 = .ok (.iadd, 1) := by decide +kernel
theorem dL_law__1077 : decode cL_law_ 1077 = .ok (.iaload, 1) := by decide +kernel
theorem dL_law__1078 : decode cL_law_ 1078 = .ok (.invokevirtual 158, 3) := by decide +kernel
theorem dL_law__1081 : decode cL_law_ 1081 = .ok (.istore 6, 2) := by decide +kernel
theorem dL_law__1083 : decode cL_law_ 1083 = .ok (.aload_n 2, 1) := by decide +kernel
theorem dL_law__1084 : decode cL_law_ 1084 = .ok (.invokevirtual 111, 3) := by decide +kernel
theorem dL_law__1087 : decode cL_law_ 1087 = .ok (.iload 5, 2) := by decide +kernel
theorem dL_law__1089 : decode cL_law_ 1089 = .ok (.if_icmp .eq 5, 3) := by decide +kernel
theorem dL_law__1092 : decode cL_law_ 1092 = .ok (.iconst 0, 1) := by decide +kernel
theorem dL_law__1093 : decode cL_law_ 1093 = .ok (.ireturn, 1) := by decide +kernel
theorem dL_law__1094 : decode cL_law_ 1094 = .ok (.iload 5, 2) := by decide +kernel
theorem dL_law__1096 : decode cL_law_ 1096 = .ok (.ifCond .ne 15, 3) := by decide +kernel
theorem dL_law__1099 : decode cL_law_ 1099 = .ok (.aload_n 3, 1) := by decide +kernel
theorem dL_law__1100 : decode cL_law_ 1100 = .ok (.iconst 0, 1) := by decide +kernel
theorem dL_law__1101 : decode cL_law_ 1101 = .ok (.laload, 1) := by decide +kernel
theorem dL_law__1102 : decode cL_law_ 1102 = .ok (.iload 6, 2) := by decide +kernel
theorem dL_law__1104 : decode cL_law_ 1104 = .ok (.i2l, 1) := by decide +kernel
theorem dL_law__1105 : decode cL_law_ 1105 = .ok (.lcmp, 1) := by decide +kernel
theorem dL_law__1106 : decode cL_law_ 1106 = .ok (.ifCond .eq 5, 3) := by decide +kernel
theorem dL_law__1109 : decode cL_law_ 1109 = .ok (.iconst 0, 1) := by decide +kernel
theorem dL_law__1110 : decode cL_law_ 1110 = .ok (.ireturn, 1) := by decide +kernel
theorem dL_law__1111 : decode cL_law_ 1111 = .ok (.goto 833, 3) := by decide +kernel
theorem dL_law__1114 : decode cL_law_ 1114 = .ok (.aload_n 1, 1) := by decide +kernel
theorem dL_law__1115 : decode cL_law_ 1115 = .ok (.aload_n 0, 1) := by decide +kernel
theorem dL_law__1116 : decode cL_law_ 1116 = .ok (.iload 4, 2) := by decide +kernel
theorem dL_law__1118 : decode cL_law_ 1118 = .ok (.iconst 1, 1) := by decide +kernel
theorem dL_law__1119 : decode cL_law_ 1119 = .ok (.iadd, 1) := by decide +kernel
theorem dL_law__1120 : decode cL_law_ 1120 = .ok (.iaload, 1) := by decide +kernel
theorem dL_law__1121 : decode cL_law_ 1121 = .ok (.aload_n 3, 1) := by decide +kernel
theorem dL_law__1122 : decode cL_law_ 1122 = .ok (.invokestatic 159, 3) := by decide +kernel
theorem dL_law__1125 : decode cL_law_ 1125 = .ok (.istore 5, 2) := by decide +kernel
theorem dL_law__1127 : decode cL_law_ 1127 = .ok (.aload_n 2, 1) := by decide +kernel
theorem dL_law__1128 : decode cL_law_ 1128 = .ok (.aload_n 0, 1) := by decide +kernel
theorem dL_law__1129 : decode cL_law_ 1129 = .ok (.iload 4, 2) := by decide +kernel
theorem dL_law__1131 : decode cL_law_ 1131 = .ok (.iconst 1, 1) := by decide +kernel
theorem dL_law__1132 : decode cL_law_ 1132 = .ok (.iadd, 1) := by decide +kernel
theorem dL_law__1133 : decode cL_law_ 1133 = .ok (.iaload, 1) := by decide +kernel
theorem dL_law__1134 : decode cL_law_ 1134 = .ok (.invokevirtual 161, 3) := by decide +kernel
theorem dL_law__1137 : decode cL_law_ 1137 = .ok (.istore 6, 2) := by decide +kernel
theorem dL_law__1139 : decode cL_law_ 1139 = .ok (.aload_n 2, 1) := by decide +kernel
theorem dL_law__1140 : decode cL_law_ 1140 = .ok (.invokevirtual 111, 3) := by decide +kernel
theorem dL_law__1143 : decode cL_law_ 1143 = .ok (.iload 5, 2) := by decide +kernel
theorem dL_law__1145 : decode cL_law_ 1145 = .ok (.if_icmp .eq 5, 3) := by decide +kernel
theorem dL_law__1148 : decode cL_law_ 1148 = .ok (.iconst 0, 1) := by decide +kernel
theorem dL_law__1149 : decode cL_law_ 1149 = .ok (.ireturn, 1) := by decide +kernel
theorem dL_law__1150 : decode cL_law_ 1150 = .ok (.iload 5, 2) := by decide +kernel
theorem dL_law__1152 : decode cL_law_ 1152 = .ok (.ifCond .ne 15, 3) := by decide +kernel
theorem dL_law__1155 : decode cL_law_ 1155 = .ok (.aload_n 3, 1) := by decide +kernel
theorem dL_law__1156 : decode cL_law_ 1156 = .ok (.iconst 0, 1) := by decide +kernel
theorem dL_law__1157 : decode cL_law_ 1157 = .ok (.laload, 1) := by decide +kernel
theorem dL_law__1158 : decode cL_law_ 1158 = .ok (.iload 6, 2) := by decide +kernel
theorem dL_law__1160 : decode cL_law_ 1160 = .ok (.i2l, 1) := by decide +kernel
theorem dL_law__1161 : decode cL_law_ 1161 = .ok (.lcmp, 1) := by decide +kernel
theorem dL_law__1162 : decode cL_law_ 1162 = .ok (.ifCond .eq 5, 3) := by decide +kernel
theorem dL_law__1165 : decode cL_law_ 1165 = .ok (.iconst 0, 1) := by decide +kernel
theorem dL_law__1166 : decode cL_law_ 1166 = .ok (.ireturn, 1) := by decide +kernel
theorem dL_law__1167 : decode cL_law_ 1167 = .ok (.goto 777, 3) := by decide +kernel
theorem dL_law__1170 : decode cL_law_ 1170 = .ok (.aload_n 1, 1) := by decide +kernel
theorem dL_law__1171 : decode cL_law_ 1171 = .ok (.aload_n 0, 1) := by decide +kernel
theorem dL_law__1172 : decode cL_law_ 1172 = .ok (.iload 4, 2) := by decide +kernel
theorem dL_law__1174 : decode cL_law_ 1174 = .ok (.iconst 1, 1) := by decide +kernel
theorem dL_law__1175 : decode cL_law_ 1175 = .ok (.iadd, 1) := by decide +kernel
theorem dL_law__1176 : decode cL_law_ 1176 = .ok (.iaload, 1) := by decide +kernel
theorem dL_law__1177 : decode cL_law_ 1177 = .ok (.invokevirtual 162, 3) := by decide +kernel
theorem dL_law__1180 : decode cL_law_ 1180 = .ok (.aload_n 2, 1) := by decide +kernel
theorem dL_law__1181 : decode cL_law_ 1181 = .ok (.aload_n 0, 1) := by decide +kernel
theorem dL_law__1182 : decode cL_law_ 1182 = .ok (.iload 4, 2) := by decide +kernel
theorem dL_law__1184 : decode cL_law_ 1184 = .ok (.iconst 1, 1) := by decide +kernel
theorem dL_law__1185 : decode cL_law_ 1185 = .ok (.iadd, 1) := by decide +kernel
theorem dL_law__1186 : decode cL_law_ 1186 = .ok (.iaload, 1) := by decide +kernel
theorem dL_law__1187 : decode cL_law_ 1187 = .ok (.invokevirtual 165, 3) := by decide +kernel
theorem dL_law__1190 : decode cL_law_ 1190 = .ok (.if_icmp .eq 754, 3) := by decide +kernel
theorem dL_law__1193 : decode cL_law_ 1193 = .ok (.iconst 0, 1) := by decide +kernel
theorem dL_law__1194 : decode cL_law_ 1194 = .ok (.ireturn, 1) := by decide +kernel
theorem dL_law__1195 : decode cL_law_ 1195 = .ok (.aload_n 1, 1) := by decide +kernel
theorem dL_law__1196 : decode cL_law_ 1196 = .ok (.aload_n 0, 1) := by decide +kernel
theorem dL_law__1197 : decode cL_law_ 1197 = .ok (.iload 4, 2) := by decide +kernel
theorem dL_law__1199 : decode cL_law_ 1199 = .ok (.iconst 1, 1) := by decide +kernel
theorem dL_law__1200 : decode cL_law_ 1200 = .ok (.iadd, 1) := by decide +kernel
theorem dL_law__1201 : decode cL_law_ 1201 = .ok (.iaload, 1) := by decide +kernel
theorem dL_law__1202 : decode cL_law_ 1202 = .ok (.aload_n 0, 1) := by decide +kernel
theorem dL_law__1203 : decode cL_law_ 1203 = .ok (.iload 4, 2) := by decide +kernel
theorem dL_law__1205 : decode cL_law_ 1205 = .ok (.iconst 2, 1) := by decide +kernel
theorem dL_law__1206 : decode cL_law_ 1206 = .ok (.iadd, 1) := by decide +kernel
theorem dL_law__1207 : decode cL_law_ 1207 = .ok (.iaload, 1) := by decide +kernel
theorem dL_law__1208 : decode cL_law_ 1208 = .ok (.aload_n 0, 1) := by decide +kernel
theorem dL_law__1209 : decode cL_law_ 1209 = .ok (.iload 4, 2) := by decide +kernel
theorem dL_law__1211 : decode cL_law_ 1211 = .ok (.iconst 3, 1) := by decide +kernel
theorem dL_law__1212 : decode cL_law_ 1212 = .ok (.iadd, 1) := by decide +kernel
theorem dL_law__1213 : decode cL_law_ 1213 = .ok (.iaload, 1) := by decide +kernel
theorem dL_law__1214 : decode cL_law_ 1214 = .ok (.ifCond .eq 7, 3) := by decide +kernel
theorem dL_law__1217 : decode cL_law_ 1217 = .ok (.iconst 1, 1) := by decide +kernel
theorem dL_law__1218 : decode cL_law_ 1218 = .ok (.goto 4, 3) := by decide +kernel
theorem dL_law__1221 : decode cL_law_ 1221 = .ok (.iconst 0, 1) := by decide +kernel
theorem dL_law__1222 : decode cL_law_ 1222 = .ok (.aload_n 3, 1) := by decide +kernel
theorem dL_law__1223 : decode cL_law_ 1223 = .ok (.invokestatic 166, 3) := by decide +kernel
theorem dL_law__1226 : decode cL_law_ 1226 = .ok (.istore 5, 2) := by decide +kernel
theorem dL_law__1228 : decode cL_law_ 1228 = .ok (.aload_n 2, 1) := by decide +kernel
theorem dL_law__1229 : decode cL_law_ 1229 = .ok (.aload_n 0, 1) := by decide +kernel
theorem dL_law__1230 : decode cL_law_ 1230 = .ok (.iload 4, 2) := by decide +kernel
theorem dL_law__1232 : decode cL_law_ 1232 = .ok (.iconst 1, 1) := by decide +kernel
theorem dL_law__1233 : decode cL_law_ 1233 = .ok (.iadd, 1) := by decide +kernel
theorem dL_law__1234 : decode cL_law_ 1234 = .ok (.iaload, 1) := by decide +kernel
theorem dL_law__1235 : decode cL_law_ 1235 = .ok (.aload_n 0, 1) := by decide +kernel
theorem dL_law__1236 : decode cL_law_ 1236 = .ok (.iload 4, 2) := by decide +kernel
theorem dL_law__1238 : decode cL_law_ 1238 = .ok (.iconst 2, 1) := by decide +kernel
theorem dL_law__1239 : decode cL_law_ 1239 = .ok (.iadd, 1) := by decide +kernel
theorem dL_law__1240 : decode cL_law_ 1240 = .ok (.iaload, 1) := by decide +kernel
theorem dL_law__1241 : decode cL_law_ 1241 = .ok (.aload_n 0, 1) := by decide +kernel
theorem dL_law__1242 : decode cL_law_ 1242 = .ok (.iload 4, 2) := by decide +kernel
theorem dL_law__1244 : decode cL_law_ 1244 = .ok (.iconst 3, 1) := by decide +kernel
theorem dL_law__1245 : decode cL_law_ 1245 = .ok (.iadd, 1) := by decide +kernel
theorem dL_law__1246 : decode cL_law_ 1246 = .ok (.iaload, 1) := by decide +kernel
theorem dL_law__1247 : decode cL_law_ 1247 = .ok (.ifCond .eq 7, 3) := by decide +kernel
theorem dL_law__1250 : decode cL_law_ 1250 = .ok (.iconst 1, 1) := by decide +kernel
theorem dL_law__1251 : decode cL_law_ 1251 = .ok (.goto 4, 3) := by decide +kernel
theorem dL_law__1254 : decode cL_law_ 1254 = .ok (.iconst 0, 1) := by decide +kernel
theorem dL_law__1255 : decode cL_law_ 1255 = .ok (.invokevirtual 168, 3) := by decide +kernel
theorem dL_law__1258 : decode cL_law_ 1258 = .ok (.istore 6, 2) := by decide +kernel
theorem dL_law__1260 : decode cL_law_ 1260 = .ok (.aload_n 2, 1) := by decide +kernel
theorem dL_law__1261 : decode cL_law_ 1261 = .ok (.invokevirtual 111, 3) := by decide +kernel
theorem dL_law__1264 : decode cL_law_ 1264 = .ok (.iload 5, 2) := by decide +kernel
theorem dL_law__1266 : decode cL_law_ 1266 = .ok (.if_icmp .eq 5, 3) := by decide +kernel
theorem dL_law__1269 : decode cL_law_ 1269 = .ok (.iconst 0, 1) := by decide +kernel
theorem dL_law__1270 : decode cL_law_ 1270 = .ok (.ireturn, 1) := by decide +kernel
theorem dL_law__1271 : decode cL_law_ 1271 = .ok (.iload 5, 2) := by decide +kernel
theorem dL_law__1273 : decode cL_law_ 1273 = .ok (.ifCond .ne 15, 3) := by decide +kernel
theorem dL_law__1276 : decode cL_law_ 1276 = .ok (.aload_n 3, 1) := by decide +kernel
theorem dL_law__1277 : decode cL_law_ 1277 = .ok (.iconst 0, 1) := by decide +kernel
theorem dL_law__1278 : decode cL_law_ 1278 = .ok (.laload, 1) := by decide +kernel
theorem dL_law__1279 : decode cL_law_ 1279 = .ok (.iload 6, 2) := by decide +kernel
theorem dL_law__1281 : decode cL_law_ 1281 = .ok (.i2l, 1) := by decide +kernel
theorem dL_law__1282 : decode cL_law_ 1282 = .ok (.lcmp, 1) := by decide +kernel
theorem dL_law__1283 : decode cL_law_ 1283 = .ok (.ifCond .eq 5, 3) := by decide +kernel
theorem dL_law__1286 : decode cL_law_ 1286 = .ok (.iconst 0, 1) := by decide +kernel
theorem dL_law__1287 : decode cL_law_ 1287 = .ok (.ireturn, 1) := by decide +kernel
theorem dL_law__1288 : decode cL_law_ 1288 = .ok (.goto 656, 3) := by decide +kernel
theorem dL_law__1291 : decode cL_law_ 1291 = .ok (.aload_n 1, 1) := by decide +kernel
theorem dL_law__1292 : decode cL_law_ 1292 = .ok (.aload_n 0, 1) := by decide +kernel
theorem dL_law__1293 : decode cL_law_ 1293 = .ok (.iload 4, 2) := by decide +kernel
theorem dL_law__1295 : decode cL_law_ 1295 = .ok (.iconst 1, 1) := by decide +kernel
theorem dL_law__1296 : decode cL_law_ 1296 = .ok (.iadd, 1) := by decide +kernel
theorem dL_law__1297 : decode cL_law_ 1297 = .ok (.iaload, 1) := by decide +kernel
theorem dL_law__1298 : decode cL_law_ 1298 = .ok (.aload_n 0, 1) := by decide +kernel
theorem dL_law__1299 : decode cL_law_ 1299 = .ok (.iload 4, 2) := by decide +kernel
theorem dL_law__1301 : decode cL_law_ 1301 = .ok (.iconst 2, 1) := by decide +kernel
theorem dL_law__1302 : decode cL_law_ 1302 = .ok (.iadd, 1) := by decide +kernel
theorem dL_law__1303 : decode cL_law_ 1303 = .ok (.iaload, 1) := by decide +kernel
theorem dL_law__1304 : decode cL_law_ 1304 = .ok (.aload_n 0, 1) := by decide +kernel
theorem dL_law__1305 : decode cL_law_ 1305 = .ok (.iload 4, 2) := by decide +kernel
theorem dL_law__1307 : decode cL_law_ 1307 = .ok (.iconst 3, 1) := by decide +kernel
theorem dL_law__1308 : decode cL_law_ 1308 = .ok (.iadd, 1) := by decide +kernel
theorem dL_law__1309 : decode cL_law_ 1309 = .ok (.iaload, 1) := by decide +kernel
theorem dL_law__1310 : decode cL_law_ 1310 = .ok (.ifCond .eq 7, 3) := by decide +kernel
theorem dL_law__1313 : decode cL_law_ 1313 = .ok (.iconst 1, 1) := by decide +kernel
theorem dL_law__1314 : decode cL_law_ 1314 = .ok (.goto 4, 3) := by decide +kernel
theorem dL_law__1317 : decode cL_law_ 1317 = .ok (.iconst 0, 1) := by decide +kernel
theorem dL_law__1318 : decode cL_law_ 1318 = .ok (.aload_n 3, 1) := by decide +kernel
theorem dL_law__1319 : decode cL_law_ 1319 = .ok (.invokestatic 169, 3) := by decide +kernel
theorem dL_law__1322 : decode cL_law_ 1322 = .ok (.istore 5, 2) := by decide +kernel
theorem dL_law__1324 : decode cL_law_ 1324 = .ok (.aload_n 2, 1) := by decide +kernel
theorem dL_law__1325 : decode cL_law_ 1325 = .ok (.aload_n 0, 1) := by decide +kernel
theorem dL_law__1326 : decode cL_law_ 1326 = .ok (.iload 4, 2) := by decide +kernel
theorem dL_law__1328 : decode cL_law_ 1328 = .ok (.iconst 1, 1) := by decide +kernel
theorem dL_law__1329 : decode cL_law_ 1329 = .ok (.iadd, 1) := by decide +kernel
theorem dL_law__1330 : decode cL_law_ 1330 = .ok (.iaload, 1) := by decide +kernel
theorem dL_law__1331 : decode cL_law_ 1331 = .ok (.aload_n 0, 1) := by decide +kernel
theorem dL_law__1332 : decode cL_law_ 1332 = .ok (.iload 4, 2) := by decide +kernel
theorem dL_law__1334 : decode cL_law_ 1334 = .ok (.iconst 2, 1) := by decide +kernel
theorem dL_law__1335 : decode cL_law_ 1335 = .ok (.iadd, 1) := by decide +kernel
theorem dL_law__1336 : decode cL_law_ 1336 = .ok (.iaload, 1) := by decide +kernel
theorem dL_law__1337 : decode cL_law_ 1337 = .ok (.aload_n 0, 1) := by decide +kernel
theorem dL_law__1338 : decode cL_law_ 1338 = .ok (.iload 4, 2) := by decide +kernel
theorem dL_law__1340 : decode cL_law_ 1340 = .ok (.iconst 3, 1) := by decide +kernel
theorem dL_law__1341 : decode cL_law_ 1341 = .ok (.iadd, 1) := by decide +kernel
theorem dL_law__1342 : decode cL_law_ 1342 = .ok (.iaload, 1) := by decide +kernel
theorem dL_law__1343 : decode cL_law_ 1343 = .ok (.ifCond .eq 7, 3) := by decide +kernel
theorem dL_law__1346 : decode cL_law_ 1346 = .ok (.iconst 1, 1) := by decide +kernel
theorem dL_law__1347 : decode cL_law_ 1347 = .ok (.goto 4, 3) := by decide +kernel
theorem dL_law__1350 : decode cL_law_ 1350 = .ok (.iconst 0, 1) := by decide +kernel
theorem dL_law__1351 : decode cL_law_ 1351 = .ok (.invokevirtual 171, 3) := by decide +kernel
theorem dL_law__1354 : decode cL_law_ 1354 = .ok (.istore 6, 2) := by decide +kernel
theorem dL_law__1356 : decode cL_law_ 1356 = .ok (.aload_n 2, 1) := by decide +kernel
theorem dL_law__1357 : decode cL_law_ 1357 = .ok (.invokevirtual 111, 3) := by decide +kernel
theorem dL_law__1360 : decode cL_law_ 1360 = .ok (.iload 5, 2) := by decide +kernel
theorem dL_law__1362 : decode cL_law_ 1362 = .ok (.if_icmp .eq 5, 3) := by decide +kernel
theorem dL_law__1365 : decode cL_law_ 1365 = .ok (.iconst 0, 1) := by decide +kernel
theorem dL_law__1366 : decode cL_law_ 1366 = .ok (.ireturn, 1) := by decide +kernel
theorem dL_law__1367 : decode cL_law_ 1367 = .ok (.iload 5, 2) := by decide +kernel
theorem dL_law__1369 : decode cL_law_ 1369 = .ok (.ifCond .ne 15, 3) := by decide +kernel
theorem dL_law__1372 : decode cL_law_ 1372 = .ok (.aload_n 3, 1) := by decide +kernel
theorem dL_law__1373 : decode cL_law_ 1373 = .ok (.iconst 0, 1) := by decide +kernel
theorem dL_law__1374 : decode cL_law_ 1374 = .ok (.laload, 1) := by decide +kernel
theorem dL_law__1375 : decode cL_law_ 1375 = .ok (.iload 6, 2) := by decide +kernel
theorem dL_law__1377 : decode cL_law_ 1377 = .ok (.i2l, 1) := by decide +kernel
theorem dL_law__1378 : decode cL_law_ 1378 = .ok (.lcmp, 1) := by decide +kernel
theorem dL_law__1379 : decode cL_law_ 1379 = .ok (.ifCond .eq 5, 3) := by decide +kernel
theorem dL_law__1382 : decode cL_law_ 1382 = .ok (.iconst 0, 1) := by decide +kernel
theorem dL_law__1383 : decode cL_law_ 1383 = .ok (.ireturn, 1) := by decide +kernel
theorem dL_law__1384 : decode cL_law_ 1384 = .ok (.goto 560, 3) := by decide +kernel
theorem dL_law__1387 : decode cL_law_ 1387 = .ok (.aload_n 1, 1) := by decide +kernel
theorem dL_law__1388 : decode cL_law_ 1388 = .ok (.aload_n 0, 1) := by decide +kernel
theorem dL_law__1389 : decode cL_law_ 1389 = .ok (.iload 4, 2) := by decide +kernel
theorem dL_law__1391 : decode cL_law_ 1391 = .ok (.iconst 1, 1) := by decide +kernel
theorem dL_law__1392 : decode cL_law_ 1392 = .ok (.iadd, 1) := by decide +kernel
theorem dL_law__1393 : decode cL_law_ 1393 = .ok (.iaload, 1) := by decide +kernel
theorem dL_law__1394 : decode cL_law_ 1394 = .ok (.aload_n 0, 1) := by decide +kernel
theorem dL_law__1395 : decode cL_law_ 1395 = .ok (.iload 4, 2) := by decide +kernel
theorem dL_law__1397 : decode cL_law_ 1397 = .ok (.iconst 2, 1) := by decide +kernel
theorem dL_law__1398 : decode cL_law_ 1398 = .ok (.iadd, 1) := by decide +kernel
theorem dL_law__1399 : decode cL_law_ 1399 = .ok (.iaload, 1) := by decide +kernel
theorem dL_law__1400 : decode cL_law_ 1400 = .ok (.aload_n 0, 1) := by decide +kernel
theorem dL_law__1401 : decode cL_law_ 1401 = .ok (.iload 4, 2) := by decide +kernel
theorem dL_law__1403 : decode cL_law_ 1403 = .ok (.iconst 3, 1) := by decide +kernel
theorem dL_law__1404 : decode cL_law_ 1404 = .ok (.iadd, 1) := by decide +kernel
theorem dL_law__1405 : decode cL_law_ 1405 = .ok (.iaload, 1) := by decide +kernel
theorem dL_law__1406 : decode cL_law_ 1406 = .ok (.aload_n 3, 1) := by decide +kernel
theorem dL_law__1407 : decode cL_law_ 1407 = .ok (.invokestatic 172, 3) := by decide +kernel
theorem dL_law__1410 : decode cL_law_ 1410 = .ok (.istore 5, 2) := by decide +kernel
theorem dL_law__1412 : decode cL_law_ 1412 = .ok (.aload_n 2, 1) := by decide +kernel
theorem dL_law__1413 : decode cL_law_ 1413 = .ok (.aload_n 0, 1) := by decide +kernel
theorem dL_law__1414 : decode cL_law_ 1414 = .ok (.iload 4, 2) := by decide +kernel
theorem dL_law__1416 : decode cL_law_ 1416 = .ok (.iconst 1, 1) := by decide +kernel
theorem dL_law__1417 : decode cL_law_ 1417 = .ok (.iadd, 1) := by decide +kernel
theorem dL_law__1418 : decode cL_law_ 1418 = .ok (.iaload, 1) := by decide +kernel
theorem dL_law__1419 : decode cL_law_ 1419 = .ok (.aload_n 0, 1) := by decide +kernel
theorem dL_law__1420 : decode cL_law_ 1420 = .ok (.iload 4, 2) := by decide +kernel
theorem dL_law__1422 : decode cL_law_ 1422 = .ok (.iconst 2, 1) := by decide +kernel
theorem dL_law__1423 : decode cL_law_ 1423 = .ok (.iadd, 1) := by decide +kernel
theorem dL_law__1424 : decode cL_law_ 1424 = .ok (.iaload, 1) := by decide +kernel
theorem dL_law__1425 : decode cL_law_ 1425 = .ok (.aload_n 0, 1) := by decide +kernel
theorem dL_law__1426 : decode cL_law_ 1426 = .ok (.iload 4, 2) := by decide +kernel
theorem dL_law__1428 : decode cL_law_ 1428 = .ok (.iconst 3, 1) := by decide +kernel
theorem dL_law__1429 : decode cL_law_ 1429 = .ok (.iadd, 1) := by decide +kernel
theorem dL_law__1430 : decode cL_law_ 1430 = .ok (.iaload, 1) := by decide +kernel
theorem dL_law__1431 : decode cL_law_ 1431 = .ok (.invokevirtual 174, 3) := by decide +kernel
theorem dL_law__1434 : decode cL_law_ 1434 = .ok (.istore 6, 2) := by decide +kernel
theorem dL_law__1436 : decode cL_law_ 1436 = .ok (.aload_n 2, 1) := by decide +kernel
theorem dL_law__1437 : decode cL_law_ 1437 = .ok (.invokevirtual 111, 3) := by decide +kernel
theorem dL_law__1440 : decode cL_law_ 1440 = .ok (.iload 5, 2) := by decide +kernel
theorem dL_law__1442 : decode cL_law_ 1442 = .ok (.if_icmp .eq 5, 3) := by decide +kernel
theorem dL_law__1445 : decode cL_law_ 1445 = .ok (.iconst 0, 1) := by decide +kernel
theorem dL_law__1446 : decode cL_law_ 1446 = .ok (.ireturn, 1) := by decide +kernel
theorem dL_law__1447 : decode cL_law_ 1447 = .ok (.iload 5, 2) := by decide +kernel
theorem dL_law__1449 : decode cL_law_ 1449 = .ok (.ifCond .ne 15, 3) := by decide +kernel
theorem dL_law__1452 : decode cL_law_ 1452 = .ok (.aload_n 3, 1) := by decide +kernel
theorem dL_law__1453 : decode cL_law_ 1453 = .ok (.iconst 0, 1) := by decide +kernel
theorem dL_law__1454 : decode cL_law_ 1454 = .ok (.laload, 1) := by decide +kernel
theorem dL_law__1455 : decode cL_law_ 1455 = .ok (.iload 6, 2) := by decide +kernel
theorem dL_law__1457 : decode cL_law_ 1457 = .ok (.i2l, 1) := by decide +kernel
theorem dL_law__1458 : decode cL_law_ 1458 = .ok (.lcmp, 1) := by decide +kernel
theorem dL_law__1459 : decode cL_law_ 1459 = .ok (.ifCond .eq 5, 3) := by decide +kernel
theorem dL_law__1462 : decode cL_law_ 1462 = .ok (.iconst 0, 1) := by decide +kernel
theorem dL_law__1463 : decode cL_law_ 1463 = .ok (.ireturn, 1) := by decide +kernel
theorem dL_law__1464 : decode cL_law_ 1464 = .ok (.goto 480, 3) := by decide +kernel
theorem dL_law__1467 : decode cL_law_ 1467 = .ok (.aload_n 1, 1) := by decide +kernel
theorem dL_law__1468 : decode cL_law_ 1468 = .ok (.aload_n 0, 1) := by decide +kernel
theorem dL_law__1469 : decode cL_law_ 1469 = .ok (.iload 4, 2) := by decide +kernel
theorem dL_law__1471 : decode cL_law_ 1471 = .ok (.iconst 1, 1) := by decide +kernel
theorem dL_law__1472 : decode cL_law_ 1472 = .ok (.iadd, 1) := by decide +kernel
theorem dL_law__1473 : decode cL_law_ 1473 = .ok (.iaload, 1) := by decide +kernel
theorem dL_law__1474 : decode cL_law_ 1474 = .ok (.invokevirtual 175, 3) := by decide +kernel
theorem dL_law__1477 : decode cL_law_ 1477 = .ok (.aload_n 2, 1) := by decide +kernel
theorem dL_law__1478 : decode cL_law_ 1478 = .ok (.aload_n 0, 1) := by decide +kernel
theorem dL_law__1479 : decode cL_law_ 1479 = .ok (.iload 4, 2) := by decide +kernel
theorem dL_law__1481 : decode cL_law_ 1481 = .ok (.iconst 1, 1) := by decide +kernel
theorem dL_law__1482 : decode cL_law_ 1482 = .ok (.iadd, 1) := by decide +kernel
theorem dL_law__1483 : decode cL_law_ 1483 = .ok (.iaload, 1) := by decide +kernel
theorem dL_law__1484 : decode cL_law_ 1484 = .ok (.invokevirtual 178, 3) := by decide +kernel
theorem dL_law__1487 : decode cL_law_ 1487 = .ok (.if_icmp .eq 457, 3) := by decide +kernel
theorem dL_law__1490 : decode cL_law_ 1490 = .ok (.iconst 0, 1) := by decide +kernel
theorem dL_law__1491 : decode cL_law_ 1491 = .ok (.ireturn, 1) := by decide +kernel
theorem dL_law__1492 : decode cL_law_ 1492 = .ok (.aload_n 1, 1) := by decide +kernel
theorem dL_law__1493 : decode cL_law_ 1493 = .ok (.aload_n 0, 1) := by decide +kernel
theorem dL_law__1494 : decode cL_law_ 1494 = .ok (.iload 4, 2) := by decide +kernel
theorem dL_law__1496 : decode cL_law_ 1496 = .ok (.iconst 1, 1) := by decide +kernel
theorem dL_law__1497 : decode cL_law_ 1497 = .ok (.iadd, 1) := by decide +kernel
theorem dL_law__1498 : decode cL_law_ 1498 = .ok (.iaload, 1) := by decide +kernel
theorem dL_law__1499 : decode cL_law_ 1499 = .ok (.aload_n 3, 1) := by decide +kernel
theorem dL_law__1500 : decode cL_law_ 1500 = .ok (.invokestatic 179, 3) := by decide +kernel
theorem dL_law__1503 : decode cL_law_ 1503 = .ok (.istore 5, 2) := by decide +kernel
theorem dL_law__1505 : decode cL_law_ 1505 = .ok (.aload_n 2, 1) := by decide +kernel
theorem dL_law__1506 : decode cL_law_ 1506 = .ok (.aload_n 0, 1) := by decide +kernel
theorem dL_law__1507 : decode cL_law_ 1507 = .ok (.iload 4, 2) := by decide +kernel
theorem dL_law__1509 : decode cL_law_ 1509 = .ok (.iconst 1, 1) := by decide +kernel
theorem dL_law__1510 : decode cL_law_ 1510 = .ok (.iadd, 1) := by decide +kernel
theorem dL_law__1511 : decode cL_law_ 1511 = .ok (.iaload, 1) := by decide +kernel
theorem dL_law__1512 : decode cL_law_ 1512 = .ok (.invokevirtual 181, 3) := by decide +kernel
theorem dL_law__1515 : decode cL_law_ 1515 = .ok (.istore 6, 2) := by decide +kernel
theorem dL_law__1517 : decode cL_law_ 1517 = .ok (.aload_n 2, 1) := by decide +kernel
theorem dL_law__1518 : decode cL_law_ 1518 = .ok (.invokevirtual 111, 3) := by decide +kernel
theorem dL_law__1521 : decode cL_law_ 1521 = .ok (.iload 5, 2) := by decide +kernel
theorem dL_law__1523 : decode cL_law_ 1523 = .ok (.if_icmp .eq 5, 3) := by decide +kernel
theorem dL_law__1526 : decode cL_law_ 1526 = .ok (.iconst 0, 1) := by decide +kernel
theorem dL_law__1527 : decode cL_law_ 1527 = .ok (.ireturn, 1) := by decide +kernel
theorem dL_law__1528 : decode cL_law_ 1528 = .ok (.iload 5, 2) := by decide +kernel
theorem dL_law__1530 : decode cL_law_ 1530 = .ok (.ifCond .ne 15, 3) := by decide +kernel
theorem dL_law__1533 : decode cL_law_ 1533 = .ok (.aload_n 3, 1) := by decide +kernel
theorem dL_law__1534 : decode cL_law_ 1534 = .ok (.iconst 0, 1) := by decide +kernel
theorem dL_law__1535 : decode cL_law_ 1535 = .ok (.laload, 1) := by decide +kernel
theorem dL_law__1536 : decode cL_law_ 1536 = .ok (.iload 6, 2) := by decide +kernel
theorem dL_law__1538 : decode cL_law_ 1538 = .ok (.i2l, 1) := by decide +kernel
theorem dL_law__1539 : decode cL_law_ 1539 = .ok (.lcmp, 1) := by decide +kernel
theorem dL_law__1540 : decode cL_law_ 1540 = .ok (.ifCond .eq 5, 3) := by decide +kernel
theorem dL_law__1543 : decode cL_law_ 1543 = .ok (.iconst 0, 1) := by decide +kernel
theorem dL_law__1544 : decode cL_law_ 1544 = .ok (.ireturn, 1) := by decide +kernel
theorem dL_law__1545 : decode cL_law_ 1545 = .ok (.goto 399, 3) := by decide +kernel
theorem dL_law__1548 : decode cL_law_ 1548 = .ok (.aload_n 1, 1) := by decide +kernel
theorem dL_law__1549 : decode cL_law_ 1549 = .ok (.aload_n 3, 1) := by decide +kernel
theorem dL_law__1550 : decode cL_law_ 1550 = .ok (.invokestatic 182, 3) := by decide +kernel
theorem dL_law__1553 : decode cL_law_ 1553 = .ok (.istore 5, 2) := by decide +kernel
theorem dL_law__1555 : decode cL_law_ 1555 = .ok (.aload_n 2, 1) := by decide +kernel
theorem dL_law__1556 : decode cL_law_ 1556 = .ok (.invokevirtual 184, 3) := by decide +kernel
theorem dL_law__1559 : decode cL_law_ 1559 = .ok (.istore 6, 2) := by decide +kernel
theorem dL_law__1561 : decode cL_law_ 1561 = .ok (.aload_n 2, 1) := by decide +kernel
theorem dL_law__1562 : decode cL_law_ 1562 = .ok (.invokevirtual 111, 3) := by decide +kernel
theorem dL_law__1565 : decode cL_law_ 1565 = .ok (.iload 5, 2) := by decide +kernel
theorem dL_law__1567 : decode cL_law_ 1567 = .ok (.if_icmp .eq 5, 3) := by decide +kernel
theorem dL_law__1570 : decode cL_law_ 1570 = .ok (.iconst 0, 1) := by decide +kernel
theorem dL_law__1571 : decode cL_law_ 1571 = .ok (.ireturn, 1) := by decide +kernel
theorem dL_law__1572 : decode cL_law_ 1572 = .ok (.iload 5, 2) := by decide +kernel
theorem dL_law__1574 : decode cL_law_ 1574 = .ok (.ifCond .ne 15, 3) := by decide +kernel
theorem dL_law__1577 : decode cL_law_ 1577 = .ok (.aload_n 3, 1) := by decide +kernel
theorem dL_law__1578 : decode cL_law_ 1578 = .ok (.iconst 0, 1) := by decide +kernel
theorem dL_law__1579 : decode cL_law_ 1579 = .ok (.laload, 1) := by decide +kernel
theorem dL_law__1580 : decode cL_law_ 1580 = .ok (.iload 6, 2) := by decide +kernel
theorem dL_law__1582 : decode cL_law_ 1582 = .ok (.i2l, 1) := by decide +kernel
theorem dL_law__1583 : decode cL_law_ 1583 = .ok (.lcmp, 1) := by decide +kernel
theorem dL_law__1584 : decode cL_law_ 1584 = .ok (.ifCond .eq 5, 3) := by decide +kernel
theorem dL_law__1587 : decode cL_law_ 1587 = .ok (.iconst 0, 1) := by decide +kernel
theorem dL_law__1588 : decode cL_law_ 1588 = .ok (.ireturn, 1) := by decide +kernel
theorem dL_law__1589 : decode cL_law_ 1589 = .ok (.goto 355, 3) := by decide +kernel
theorem dL_law__1592 : decode cL_law_ 1592 = .ok (.aload_n 1, 1) := by decide +kernel
theorem dL_law__1593 : decode cL_law_ 1593 = .ok (.aload_n 0, 1) := by decide +kernel
theorem dL_law__1594 : decode cL_law_ 1594 = .ok (.iload 4, 2) := by decide +kernel
theorem dL_law__1596 : decode cL_law_ 1596 = .ok (.iconst 1, 1) := by decide +kernel
theorem dL_law__1597 : decode cL_law_ 1597 = .ok (.iadd, 1) := by decide +kernel
theorem dL_law__1598 : decode cL_law_ 1598 = .ok (.iaload, 1) := by decide +kernel
theorem dL_law__1599 : decode cL_law_ 1599 = .ok (.aload_n 0, 1) := by decide +kernel
theorem dL_law__1600 : decode cL_law_ 1600 = .ok (.iload 4, 2) := by decide +kernel
theorem dL_law__1602 : decode cL_law_ 1602 = .ok (.iconst 2, 1) := by decide +kernel
theorem dL_law__1603 : decode cL_law_ 1603 = .ok (.iadd, 1) := by decide +kernel
theorem dL_law__1604 : decode cL_law_ 1604 = .ok (.iaload, 1) := by decide +kernel
theorem dL_law__1605 : decode cL_law_ 1605 = .ok (.aload_n 3, 1) := by decide +kernel
theorem dL_law__1606 : decode cL_law_ 1606 = .ok (.invokestatic 185, 3) := by decide +kernel
theorem dL_law__1609 : decode cL_law_ 1609 = .ok (.istore 5, 2) := by decide +kernel
theorem dL_law__1611 : decode cL_law_ 1611 = .ok (.aload_n 2, 1) := by decide +kernel
theorem dL_law__1612 : decode cL_law_ 1612 = .ok (.aload_n 0, 1) := by decide +kernel
theorem dL_law__1613 : decode cL_law_ 1613 = .ok (.iload 4, 2) := by decide +kernel
theorem dL_law__1615 : decode cL_law_ 1615 = .ok (.iconst 1, 1) := by decide +kernel
theorem dL_law__1616 : decode cL_law_ 1616 = .ok (.iadd, 1) := by decide +kernel
theorem dL_law__1617 : decode cL_law_ 1617 = .ok (.iaload, 1) := by decide +kernel
theorem dL_law__1618 : decode cL_law_ 1618 = .ok (.aload_n 0, 1) := by decide +kernel
theorem dL_law__1619 : decode cL_law_ 1619 = .ok (.iload 4, 2) := by decide +kernel
theorem dL_law__1621 : decode cL_law_ 1621 = .ok (.iconst 2, 1) := by decide +kernel
theorem dL_law__1622 : decode cL_law_ 1622 = .ok (.iadd, 1) := by decide +kernel
theorem dL_law__1623 : decode cL_law_ 1623 = .ok (.iaload, 1) := by decide +kernel
theorem dL_law__1624 : decode cL_law_ 1624 = .ok (.invokevirtual 187, 3) := by decide +kernel
theorem dL_law__1627 : decode cL_law_ 1627 = .ok (.istore 6, 2) := by decide +kernel
theorem dL_law__1629 : decode cL_law_ 1629 = .ok (.aload_n 2, 1) := by decide +kernel
theorem dL_law__1630 : decode cL_law_ 1630 = .ok (.invokevirtual 111, 3) := by decide +kernel
theorem dL_law__1633 : decode cL_law_ 1633 = .ok (.iload 5, 2) := by decide +kernel
theorem dL_law__1635 : decode cL_law_ 1635 = .ok (.if_icmp .eq 5, 3) := by decide +kernel
theorem dL_law__1638 : decode cL_law_ 1638 = .ok (.iconst 0, 1) := by decide +kernel
theorem dL_law__1639 : decode cL_law_ 1639 = .ok (.ireturn, 1) := by decide +kernel
theorem dL_law__1640 : decode cL_law_ 1640 = .ok (.iload 5, 2) := by decide +kernel
theorem dL_law__1642 : decode cL_law_ 1642 = .ok (.ifCond .ne 15, 3) := by decide +kernel
theorem dL_law__1645 : decode cL_law_ 1645 = .ok (.aload_n 3, 1) := by decide +kernel
theorem dL_law__1646 : decode cL_law_ 1646 = .ok (.iconst 0, 1) := by decide +kernel
theorem dL_law__1647 : decode cL_law_ 1647 = .ok (.laload, 1) := by decide +kernel
theorem dL_law__1648 : decode cL_law_ 1648 = .ok (.iload 6, 2) := by decide +kernel
theorem dL_law__1650 : decode cL_law_ 1650 = .ok (.i2l, 1) := by decide +kernel
theorem dL_law__1651 : decode cL_law_ 1651 = .ok (.lcmp, 1) := by decide +kernel
theorem dL_law__1652 : decode cL_law_ 1652 = .ok (.ifCond .eq 5, 3) := by decide +kernel
theorem dL_law__1655 : decode cL_law_ 1655 = .ok (.iconst 0, 1) := by decide +kernel
theorem dL_law__1656 : decode cL_law_ 1656 = .ok (.ireturn, 1) := by decide +kernel
theorem dL_law__1657 : decode cL_law_ 1657 = .ok (.goto 287, 3) := by decide +kernel
theorem dL_law__1660 : decode cL_law_ 1660 = .ok (.aload_n 1, 1) := by decide +kernel
theorem dL_law__1661 : decode cL_law_ 1661 = .ok (.invokevirtual 188, 3) := by decide +kernel
theorem dL_law__1664 : decode cL_law_ 1664 = .ok (.aload_n 2, 1) := by decide +kernel
theorem dL_law__1665 : decode cL_law_ 1665 = .ok (.invokevirtual 191, 3) := by decide +kernel
theorem dL_law__1668 : decode cL_law_ 1668 = .ok (.if_icmp .eq 276, 3) := by decide +kernel
theorem dL_law__1671 : decode cL_law_ 1671 = .ok (.iconst 0, 1) := by decide +kernel
theorem dL_law__1672 : decode cL_law_ 1672 = .ok (.ireturn, 1) := by decide +kernel
theorem dL_law__1673 : decode cL_law_ 1673 = .ok (.aload_n 1, 1) := by decide +kernel
theorem dL_law__1674 : decode cL_law_ 1674 = .ok (.aload_n 0, 1) := by decide +kernel
theorem dL_law__1675 : decode cL_law_ 1675 = .ok (.iload 4, 2) := by decide +kernel
theorem dL_law__1677 : decode cL_law_ 1677 = .ok (.iconst 1, 1) := by decide +kernel
theorem dL_law__1678 : decode cL_law_ 1678 = .ok (.iadd, 1) := by decide +kernel
theorem dL_law__1679 : decode cL_law_ 1679 = .ok (.iaload, 1) := by decide +kernel
theorem dL_law__1680 : decode cL_law_ 1680 = .ok (.ifCond .eq 7, 3) := by decide +kernel
theorem dL_law__1683 : decode cL_law_ 1683 = .ok (.iconst 1, 1) := by decide +kernel
theorem dL_law__1684 : decode cL_law_ 1684 = .ok (.goto 4, 3) := by decide +kernel
theorem dL_law__1687 : decode cL_law_ 1687 = .ok (.iconst 0, 1) := by decide +kernel
theorem dL_law__1688 : decode cL_law_ 1688 = .ok (.invokevirtual 192, 3) := by decide +kernel
theorem dL_law__1691 : decode cL_law_ 1691 = .ok (.aload_n 2, 1) := by decide +kernel
theorem dL_law__1692 : decode cL_law_ 1692 = .ok (.aload_n 0, 1) := by decide +kernel
theorem dL_law__1693 : decode cL_law_ 1693 = .ok (.iload 4, 2) := by decide +kernel
theorem dL_law__1695 : decode cL_law_ 1695 = .ok (.iconst 1, 1) := by decide +kernel
theorem dL_law__1696 : decode cL_law_ 1696 = .ok (.iadd, 1) := by decide +kernel
theorem dL_law__1697 : decode cL_law_ 1697 = .ok (.iaload, 1) := by decide +kernel
theorem dL_law__1698 : decode cL_law_ 1698 = .ok (.ifCond .eq 7, 3) := by decide +kernel
theorem dL_law__1701 : decode cL_law_ 1701 = .ok (.iconst 1, 1) := by decide +kernel
theorem dL_law__1702 : decode cL_law_ 1702 = .ok (.goto 4, 3) := by decide +kernel
theorem dL_law__1705 : decode cL_law_ 1705 = .ok (.iconst 0, 1) := by decide +kernel
theorem dL_law__1706 : decode cL_law_ 1706 = .ok (.invokevirtual 196, 3) := by decide +kernel
theorem dL_law__1709 : decode cL_law_ 1709 = .ok (.if_icmp .eq 235, 3) := by decide +kernel
theorem dL_law__1712 : decode cL_law_ 1712 = .ok (.iconst 0, 1) := by decide +kernel
theorem dL_law__1713 : decode cL_law_ 1713 = .ok (.ireturn, 1) := by decide +kernel
theorem dL_law__1714 : decode cL_law_ 1714 = .ok (.aload_n 1, 1) := by decide +kernel
theorem dL_law__1715 : decode cL_law_ 1715 = .ok (.aload_n 0, 1) := by decide +kernel
theorem dL_law__1716 : decode cL_law_ 1716 = .ok (.iload 4, 2) := by decide +kernel
theorem dL_law__1718 : decode cL_law_ 1718 = .ok (.iconst 1, 1) := by decide +kernel
theorem dL_law__1719 : decode cL_law_ 1719 = .ok (.iadd, 1) := by decide +kernel
theorem dL_law__1720 : decode cL_law_ 1720 = .ok (.iaload, 1) := by decide +kernel
theorem dL_law__1721 : decode cL_law_ 1721 = .ok (.aload_n 3, 1) := by decide +kernel
theorem dL_law__1722 : decode cL_law_ 1722 = .ok (.invokestatic 197, 3) := by decide +kernel
theorem dL_law__1725 : decode cL_law_ 1725 = .ok (.istore 5, 2) := by decide +kernel
theorem dL_law__1727 : decode cL_law_ 1727 = .ok (.aload_n 2, 1) := by decide +kernel
theorem dL_law__1728 : decode cL_law_ 1728 = .ok (.aload_n 0, 1) := by decide +kernel
theorem dL_law__1729 : decode cL_law_ 1729 = .ok (.iload 4, 2) := by decide +kernel
theorem dL_law__1731 : decode cL_law_ 1731 = .ok (.iconst 1, 1) := by decide +kernel
theorem dL_law__1732 : decode cL_law_ 1732 = .ok (.iadd, 1) := by decide +kernel
theorem dL_law__1733 : decode cL_law_ 1733 = .ok (.iaload, 1) := by decide +kernel
theorem dL_law__1734 : decode cL_law_ 1734 = .ok (.invokevirtual 199, 3) := by decide +kernel
theorem dL_law__1737 : decode cL_law_ 1737 = .ok (.istore 6, 2) := by decide +kernel
theorem dL_law__1739 : decode cL_law_ 1739 = .ok (.aload_n 2, 1) := by decide +kernel
theorem dL_law__1740 : decode cL_law_ 1740 = .ok (.invokevirtual 111, 3) := by decide +kernel
theorem dL_law__1743 : decode cL_law_ 1743 = .ok (.iload 5, 2) := by decide +kernel
theorem dL_law__1745 : decode cL_law_ 1745 = .ok (.if_icmp .eq 5, 3) := by decide +kernel
theorem dL_law__1748 : decode cL_law_ 1748 = .ok (.iconst 0, 1) := by decide +kernel
theorem dL_law__1749 : decode cL_law_ 1749 = .ok (.ireturn, 1) := by decide +kernel
theorem dL_law__1750 : decode cL_law_ 1750 = .ok (.iload 5, 2) := by decide +kernel
theorem dL_law__1752 : decode cL_law_ 1752 = .ok (.ifCond .ne 15, 3) := by decide +kernel
theorem dL_law__1755 : decode cL_law_ 1755 = .ok (.aload_n 3, 1) := by decide +kernel
theorem dL_law__1756 : decode cL_law_ 1756 = .ok (.iconst 0, 1) := by decide +kernel
theorem dL_law__1757 : decode cL_law_ 1757 = .ok (.laload, 1) := by decide +kernel
theorem dL_law__1758 : decode cL_law_ 1758 = .ok (.iload 6, 2) := by decide +kernel
theorem dL_law__1760 : decode cL_law_ 1760 = .ok (.i2l, 1) := by decide +kernel
theorem dL_law__1761 : decode cL_law_ 1761 = .ok (.lcmp, 1) := by decide +kernel
theorem dL_law__1762 : decode cL_law_ 1762 = .ok (.ifCond .eq 5, 3) := by decide +kernel
theorem dL_law__1765 : decode cL_law_ 1765 = .ok (.iconst 0, 1) := by decide +kernel
theorem dL_law__1766 : decode cL_law_ 1766 = .ok (.ireturn, 1) := by decide +kernel
theorem dL_law__1767 : decode cL_law_ 1767 = .ok (.goto 177, 3) := by decide +kernel
theorem dL_law__1770 : decode cL_law_ 1770 = .ok (.aload_n 1, 1) := by decide +kernel
theorem dL_law__1771 : decode cL_law_ 1771 = .ok (.aload_n 0, 1) := by decide +kernel
theorem dL_law__1772 : decode cL_law_ 1772 = .ok (.iload 4, 2) := by decide +kernel
theorem dL_law__1774 : decode cL_law_ 1774 = .ok (.iconst 1, 1) := by decide +kernel
theorem dL_law__1775 : decode cL_law_ 1775 = .ok (.iadd, 1) := by decide +kernel
theorem dL_law__1776 : decode cL_law_ 1776 = .ok (.iaload, 1) := by decide +kernel
theorem dL_law__1777 : decode cL_law_ 1777 = .ok (.aload_n 3, 1) := by decide +kernel
theorem dL_law__1778 : decode cL_law_ 1778 = .ok (.invokestatic 200, 3) := by decide +kernel
theorem dL_law__1781 : decode cL_law_ 1781 = .ok (.istore 5, 2) := by decide +kernel
theorem dL_law__1783 : decode cL_law_ 1783 = .ok (.aload_n 2, 1) := by decide +kernel
theorem dL_law__1784 : decode cL_law_ 1784 = .ok (.aload_n 0, 1) := by decide +kernel
theorem dL_law__1785 : decode cL_law_ 1785 = .ok (.iload 4, 2) := by decide +kernel
theorem dL_law__1787 : decode cL_law_ 1787 = .ok (.iconst 1, 1) := by decide +kernel
theorem dL_law__1788 : decode cL_law_ 1788 = .ok (.iadd, 1) := by decide +kernel
theorem dL_law__1789 : decode cL_law_ 1789 = .ok (.iaload, 1) := by decide +kernel
theorem dL_law__1790 : decode cL_law_ 1790 = .ok (.invokevirtual 202, 3) := by decide +kernel
theorem dL_law__1793 : decode cL_law_ 1793 = .ok (.istore 6, 2) := by decide +kernel
theorem dL_law__1795 : decode cL_law_ 1795 = .ok (.aload_n 2, 1) := by decide +kernel
theorem dL_law__1796 : decode cL_law_ 1796 = .ok (.invokevirtual 111, 3) := by decide +kernel
theorem dL_law__1799 : decode cL_law_ 1799 = .ok (.iload 5, 2) := by decide +kernel
theorem dL_law__1801 : decode cL_law_ 1801 = .ok (.if_icmp .eq 5, 3) := by decide +kernel
theorem dL_law__1804 : decode cL_law_ 1804 = .ok (.iconst 0, 1) := by decide +kernel
theorem dL_law__1805 : decode cL_law_ 1805 = .ok (.ireturn, 1) := by decide +kernel
theorem dL_law__1806 : decode cL_law_ 1806 = .ok (.iload 5, 2) := by decide +kernel
theorem dL_law__1808 : decode cL_law_ 1808 = .ok (.ifCond .ne 15, 3) := by decide +kernel
theorem dL_law__1811 : decode cL_law_ 1811 = .ok (.aload_n 3, 1) := by decide +kernel
theorem dL_law__1812 : decode cL_law_ 1812 = .ok (.iconst 0, 1) := by decide +kernel
theorem dL_law__1813 : decode cL_law_ 1813 = .ok (.laload, 1) := by decide +kernel
theorem dL_law__1814 : decode cL_law_ 1814 = .ok (.iload 6, 2) := by decide +kernel
theorem dL_law__1816 : decode cL_law_ 1816 = .ok (.i2l, 1) := by decide +kernel
theorem dL_law__1817 : decode cL_law_ 1817 = .ok (.lcmp, 1) := by decide +kernel
theorem dL_law__1818 : decode cL_law_ 1818 = .ok (.ifCond .eq 5, 3) := by decide +kernel
theorem dL_law__1821 : decode cL_law_ 1821 = .ok (.iconst 0, 1) := by decide +kernel
theorem dL_law__1822 : decode cL_law_ 1822 = .ok (.ireturn, 1) := by decide +kernel
theorem dL_law__1823 : decode cL_law_ 1823 = .ok (.goto 121, 3) := by decide +kernel
theorem dL_law__1826 : decode cL_law_ 1826 = .ok (.aload_n 1, 1) := by decide +kernel
theorem dL_law__1827 : decode cL_law_ 1827 = .ok (.aload_n 0, 1) := by decide +kernel
theorem dL_law__1828 : decode cL_law_ 1828 = .ok (.iload 4, 2) := by decide +kernel
theorem dL_law__1830 : decode cL_law_ 1830 = .ok (.iconst 1, 1) := by decide +kernel
theorem dL_law__1831 : decode cL_law_ 1831 = .ok (.iadd, 1) := by decide +kernel
theorem dL_law__1832 : decode cL_law_ 1832 = .ok (.iaload, 1) := by decide +kernel
theorem dL_law__1833 : decode cL_law_ 1833 = .ok (.aload_n 3, 1) := by decide +kernel
theorem dL_law__1834 : decode cL_law_ 1834 = .ok (.invokestatic 203, 3) := by decide +kernel
theorem dL_law__1837 : decode cL_law_ 1837 = .ok (.istore 5, 2) := by decide +kernel
theorem dL_law__1839 : decode cL_law_ 1839 = .ok (.aload_n 2, 1) := by decide +kernel
theorem dL_law__1840 : decode cL_law_ 1840 = .ok (.aload_n 0, 1) := by decide +kernel
theorem dL_law__1841 : decode cL_law_ 1841 = .ok (.iload 4, 2) := by decide +kernel
theorem dL_law__1843 : decode cL_law_ 1843 = .ok (.iconst 1, 1) := by decide +kernel
theorem dL_law__1844 : decode cL_law_ 1844 = .ok (.iadd, 1) := by decide +kernel
theorem dL_law__1845 : decode cL_law_ 1845 = .ok (.iaload, 1) := by decide +kernel
theorem dL_law__1846 : decode cL_law_ 1846 = .ok (.invokevirtual 205, 3) := by decide +kernel
theorem dL_law__1849 : decode cL_law_ 1849 = .ok (.istore 6, 2) := by decide +kernel
theorem dL_law__1851 : decode cL_law_ 1851 = .ok (.aload_n 2, 1) := by decide +kernel
theorem dL_law__1852 : decode cL_law_ 1852 = .ok (.invokevirtual 111, 3) := by decide +kernel
theorem dL_law__1855 : decode cL_law_ 1855 = .ok (.iload 5, 2) := by decide +kernel
theorem dL_law__1857 : decode cL_law_ 1857 = .ok (.if_icmp .eq 5, 3) := by decide +kernel
theorem dL_law__1860 : decode cL_law_ 1860 = .ok (.iconst 0, 1) := by decide +kernel
theorem dL_law__1861 : decode cL_law_ 1861 = .ok (.ireturn, 1) := by decide +kernel
theorem dL_law__1862 : decode cL_law_ 1862 = .ok (.iload 5, 2) := by decide +kernel
theorem dL_law__1864 : decode cL_law_ 1864 = .ok (.ifCond .ne 15, 3) := by decide +kernel
theorem dL_law__1867 : decode cL_law_ 1867 = .ok (.aload_n 3, 1) := by decide +kernel
theorem dL_law__1868 : decode cL_law_ 1868 = .ok (.iconst 0, 1) := by decide +kernel
theorem dL_law__1869 : decode cL_law_ 1869 = .ok (.laload, 1) := by decide +kernel
theorem dL_law__1870 : decode cL_law_ 1870 = .ok (.iload 6, 2) := by decide +kernel
theorem dL_law__1872 : decode cL_law_ 1872 = .ok (.i2l, 1) := by decide +kernel
theorem dL_law__1873 : decode cL_law_ 1873 = .ok (.lcmp, 1) := by decide +kernel
theorem dL_law__1874 : decode cL_law_ 1874 = .ok (.ifCond .eq 5, 3) := by decide +kernel
theorem dL_law__1877 : decode cL_law_ 1877 = .ok (.iconst 0, 1) := by decide +kernel
theorem dL_law__1878 : decode cL_law_ 1878 = .ok (.ireturn, 1) := by decide +kernel
theorem dL_law__1879 : decode cL_law_ 1879 = .ok (.goto 65, 3) := by decide +kernel
theorem dL_law__1882 : decode cL_law_ 1882 = .ok (.aload_n 1, 1) := by decide +kernel
theorem dL_law__1883 : decode cL_law_ 1883 = .ok (.invokevirtual 206, 3) := by decide +kernel
theorem dL_law__1886 : decode cL_law_ 1886 = .ok (.aload_n 2, 1) := by decide +kernel
theorem dL_law__1887 : decode cL_law_ 1887 = .ok (.invokevirtual 210, 3) := by decide +kernel
theorem dL_law__1890 : decode cL_law_ 1890 = .ok (.if_icmp .eq 54, 3) := by decide +kernel
theorem dL_law__1893 : decode cL_law_ 1893 = .ok (.iconst 0, 1) := by decide +kernel
theorem dL_law__1894 : decode cL_law_ 1894 = .ok (.ireturn, 1) := by decide +kernel
theorem dL_law__1895 : decode cL_law_ 1895 = .ok (.aload_n 1, 1) := by decide +kernel
theorem dL_law__1896 : decode cL_law_ 1896 = .ok (.invokevirtual 211, 3) := by decide +kernel
theorem dL_law__1899 : decode cL_law_ 1899 = .ok (.aload_n 2, 1) := by decide +kernel
theorem dL_law__1900 : decode cL_law_ 1900 = .ok (.invokevirtual 214, 3) := by decide +kernel
theorem dL_law__1903 : decode cL_law_ 1903 = .ok (.goto 41, 3) := by decide +kernel
theorem dL_law__1906 : decode cL_law_ 1906 = .ok (.aload_n 1, 1) := by decide +kernel
theorem dL_law__1907 : decode cL_law_ 1907 = .ok (.invokevirtual 215, 3) := by decide +kernel
theorem dL_law__1910 : decode cL_law_ 1910 = .ok (.aload_n 2, 1) := by decide +kernel
theorem dL_law__1911 : decode cL_law_ 1911 = .ok (.invokevirtual 218, 3) := by decide +kernel
theorem dL_law__1914 : decode cL_law_ 1914 = .ok (.if_icmp .eq 30, 3) := by decide +kernel
theorem dL_law__1917 : decode cL_law_ 1917 = .ok (.iconst 0, 1) := by decide +kernel
theorem dL_law__1918 : decode cL_law_ 1918 = .ok (.ireturn, 1) := by decide +kernel
theorem dL_law__1919 : decode cL_law_ 1919 = .ok (.aload_n 1, 1) := by decide +kernel
theorem dL_law__1920 : decode cL_law_ 1920 = .ok (.aload_n 0, 1) := by decide +kernel
theorem dL_law__1921 : decode cL_law_ 1921 = .ok (.iload 4, 2) := by decide +kernel
theorem dL_law__1923 : decode cL_law_ 1923 = .ok (.iconst 1, 1) := by decide +kernel
theorem dL_law__1924 : decode cL_law_ 1924 = .ok (.iadd, 1) := by decide +kernel
theorem dL_law__1925 : decode cL_law_ 1925 = .ok (.iaload, 1) := by decide +kernel
theorem dL_law__1926 : decode cL_law_ 1926 = .ok (.invokevirtual 219, 3) := by decide +kernel
theorem dL_law__1929 : decode cL_law_ 1929 = .ok (.aload_n 2, 1) := by decide +kernel
theorem dL_law__1930 : decode cL_law_ 1930 = .ok (.aload_n 0, 1) := by decide +kernel
theorem dL_law__1931 : decode cL_law_ 1931 = .ok (.iload 4, 2) := by decide +kernel
theorem dL_law__1933 : decode cL_law_ 1933 = .ok (.iconst 1, 1) := by decide +kernel
theorem dL_law__1934 : decode cL_law_ 1934 = .ok (.iadd, 1) := by decide +kernel
theorem dL_law__1935 : decode cL_law_ 1935 = .ok (.iaload, 1) := by decide +kernel
theorem dL_law__1936 : decode cL_law_ 1936 = .ok (.invokevirtual 222, 3) := by decide +kernel
theorem dL_law__1939 : decode cL_law_ 1939 = .ok (.if_icmp .eq 5, 3) := by decide +kernel
theorem dL_law__1942 : decode cL_law_ 1942 = .ok (.iconst 0, 1) := by decide +kernel
theorem dL_law__1943 : decode cL_law_ 1943 = .ok (.ireturn, 1) := by decide +kernel
theorem dL_law__1944 : decode cL_law_ 1944 = .ok (.iinc 4 6, 3) := by decide +kernel
theorem dL_law__1947 : decode cL_law_ 1947 = .ok (.goto (-1924), 3) := by decide +kernel
theorem dL_law__1950 : decode cL_law_ 1950 = .ok (.iconst 1, 1) := by decide +kernel
theorem dL_law__1951 : decode cL_law_ 1951 = .ok (.ireturn, 1) := by decide +kernel
theorem vl_L_96 : VL RL 96 RX12 yX12_feed 5 := ⟨Or.inl (at_gw 481 (by decide +kernel) rfl), (at_gw 482 (by decide +kernel) rfl), (at_gw 483 (by decide +kernel) rfl), (at_gw 141 (by decide +kernel) rfl), ⟨by decide +kernel, by decide +kernel, by decide +kernel⟩⟩
theorem vl_L_100 : VL RL 100 RX13 yX13_feed 5 := ⟨Or.inl (at_gw 1433 (by decide +kernel) rfl), (at_gw 1434 (by decide +kernel) rfl), (at_gw 1435 (by decide +kernel) rfl), (at_gw 154 (by decide +kernel) rfl), ⟨by decide +kernel, by decide +kernel, by decide +kernel⟩⟩
theorem vl_L_101 : VL RL 101 RX12 yX12_end 1 := ⟨Or.inl (at_gw 493 (by decide +kernel) rfl), (at_gw 494 (by decide +kernel) rfl), (at_gw 495 (by decide +kernel) rfl), (at_gw 141 (by decide +kernel) rfl), ⟨by decide +kernel, by decide +kernel, by decide +kernel⟩⟩
theorem vl_L_104 : VL RL 104 RX13 yX13_end 1 := ⟨Or.inl (at_gw 1437 (by decide +kernel) rfl), (at_gw 1438 (by decide +kernel) rfl), (at_gw 1439 (by decide +kernel) rfl), (at_gw 154 (by decide +kernel) rfl), ⟨by decide +kernel, by decide +kernel, by decide +kernel⟩⟩
theorem sl_L_105 : SL RL 105 yL_road 2 := ⟨Or.inl (at_gw 632 (by decide +kernel) rfl), (at_gw 633 (by decide +kernel) rfl), (at_gw 140 (by decide +kernel) rfl), ⟨by decide +kernel, by decide +kernel, by decide +kernel⟩⟩
theorem ml_L_105 : Cond.methodLink RL 105 yL_road ∈ gw := (at_gw 632 (by decide +kernel) rfl)
theorem vl_L_110 : VL RL 110 RX13 yX13_road 0 := ⟨Or.inl (at_gw 1445 (by decide +kernel) rfl), (at_gw 1446 (by decide +kernel) rfl), (at_gw 1447 (by decide +kernel) rfl), (at_gw 154 (by decide +kernel) rfl), ⟨by decide +kernel, by decide +kernel, by decide +kernel⟩⟩
theorem vl_L_111 : VL RL 111 RX13 yX13_thrown 0 := ⟨Or.inl (at_gw 1350 (by decide +kernel) rfl), (at_gw 1351 (by decide +kernel) rfl), (at_gw 1352 (by decide +kernel) rfl), (at_gw 154 (by decide +kernel) rfl), ⟨by decide +kernel, by decide +kernel, by decide +kernel⟩⟩
theorem sl_L_114 : SL RL 114 yL_law 2 := ⟨Or.inl (at_gw 957 (by decide +kernel) rfl), (at_gw 958 (by decide +kernel) rfl), (at_gw 140 (by decide +kernel) rfl), ⟨by decide +kernel, by decide +kernel, by decide +kernel⟩⟩
theorem ml_L_114 : Cond.methodLink RL 114 yL_law ∈ gw := (at_gw 957 (by decide +kernel) rfl)
theorem vl_L_116 : VL RL 116 RX13 yX13_law 0 := ⟨Or.inl (at_gw 1596 (by decide +kernel) rfl), (at_gw 1597 (by decide +kernel) rfl), (at_gw 1598 (by decide +kernel) rfl), (at_gw 154 (by decide +kernel) rfl), ⟨by decide +kernel, by decide +kernel, by decide +kernel⟩⟩
theorem vl_L_117 : VL RL 117 RX12 yX12_fault 0 := ⟨Or.inl (at_gw 497 (by decide +kernel) rfl), (at_gw 498 (by decide +kernel) rfl), (at_gw 499 (by decide +kernel) rfl), (at_gw 141 (by decide +kernel) rfl), ⟨by decide +kernel, by decide +kernel, by decide +kernel⟩⟩
theorem vl_L_120 : VL RL 120 RX13 yX13_fault 0 := ⟨Or.inl (at_gw 1441 (by decide +kernel) rfl), (at_gw 1442 (by decide +kernel) rfl), (at_gw 1443 (by decide +kernel) rfl), (at_gw 154 (by decide +kernel) rfl), ⟨by decide +kernel, by decide +kernel, by decide +kernel⟩⟩
theorem sl_L_121 : SL RL 121 yL_gate 4 := ⟨Or.inl (at_gw 978 (by decide +kernel) rfl), (at_gw 979 (by decide +kernel) rfl), (at_gw 140 (by decide +kernel) rfl), ⟨by decide +kernel, by decide +kernel, by decide +kernel⟩⟩
theorem ml_L_121 : Cond.methodLink RL 121 yL_gate ∈ gw := (at_gw 978 (by decide +kernel) rfl)
theorem vl_L_124 : VL RL 124 RX13 yX13_gate 2 := ⟨Or.inl (at_gw 1600 (by decide +kernel) rfl), (at_gw 1601 (by decide +kernel) rfl), (at_gw 1602 (by decide +kernel) rfl), (at_gw 154 (by decide +kernel) rfl), ⟨by decide +kernel, by decide +kernel, by decide +kernel⟩⟩
theorem sl_L_125 : SL RL 125 yL_walker 4 := ⟨Or.inl (at_gw 1027 (by decide +kernel) rfl), (at_gw 1028 (by decide +kernel) rfl), (at_gw 140 (by decide +kernel) rfl), ⟨by decide +kernel, by decide +kernel, by decide +kernel⟩⟩
theorem ml_L_125 : Cond.methodLink RL 125 yL_walker ∈ gw := (at_gw 1027 (by decide +kernel) rfl)
theorem vl_L_127 : VL RL 127 RX13 yX13_walker 2 := ⟨Or.inl (at_gw 1615 (by decide +kernel) rfl), (at_gw 1616 (by decide +kernel) rfl), (at_gw 1617 (by decide +kernel) rfl), (at_gw 154 (by decide +kernel) rfl), ⟨by decide +kernel, by decide +kernel, by decide +kernel⟩⟩
theorem sl_L_128 : SL RL 128 yL_since 4 := ⟨Or.inl (at_gw 1040 (by decide +kernel) rfl), (at_gw 1041 (by decide +kernel) rfl), (at_gw 140 (by decide +kernel) rfl), ⟨by decide +kernel, by decide +kernel, by decide +kernel⟩⟩
theorem ml_L_128 : Cond.methodLink RL 128 yL_since ∈ gw := (at_gw 1040 (by decide +kernel) rfl)
theorem vl_L_130 : VL RL 130 RX13 yX13_since 2 := ⟨Or.inl (at_gw 1623 (by decide +kernel) rfl), (at_gw 1624 (by decide +kernel) rfl), (at_gw 1625 (by decide +kernel) rfl), (at_gw 154 (by decide +kernel) rfl), ⟨by decide +kernel, by decide +kernel, by decide +kernel⟩⟩
theorem sl_L_131 : SL RL 131 yL_price 4 := ⟨Or.inl (at_gw 1051 (by decide +kernel) rfl), (at_gw 1052 (by decide +kernel) rfl), (at_gw 140 (by decide +kernel) rfl), ⟨by decide +kernel, by decide +kernel, by decide +kernel⟩⟩
theorem ml_L_131 : Cond.methodLink RL 131 yL_price ∈ gw := (at_gw 1051 (by decide +kernel) rfl)
theorem vl_L_133 : VL RL 133 RX13 yX13_price 2 := ⟨Or.inl (at_gw 1627 (by decide +kernel) rfl), (at_gw 1628 (by decide +kernel) rfl), (at_gw 1629 (by decide +kernel) rfl), (at_gw 154 (by decide +kernel) rfl), ⟨by decide +kernel, by decide +kernel, by decide +kernel⟩⟩
theorem sl_L_134 : SL RL 134 yL_may 5 := ⟨Or.inl (at_gw 1058 (by decide +kernel) rfl), (at_gw 1059 (by decide +kernel) rfl), (at_gw 140 (by decide +kernel) rfl), ⟨by decide +kernel, by decide +kernel, by decide +kernel⟩⟩
theorem ml_L_134 : Cond.methodLink RL 134 yL_may ∈ gw := (at_gw 1058 (by decide +kernel) rfl)
theorem vl_L_137 : VL RL 137 RX13 yX13_may 3 := ⟨Or.inl (at_gw 1631 (by decide +kernel) rfl), (at_gw 1632 (by decide +kernel) rfl), (at_gw 1633 (by decide +kernel) rfl), (at_gw 154 (by decide +kernel) rfl), ⟨by decide +kernel, by decide +kernel, by decide +kernel⟩⟩
theorem sl_L_138 : SL RL 138 yL_chance 4 := ⟨Or.inl (at_gw 1074 (by decide +kernel) rfl), (at_gw 1075 (by decide +kernel) rfl), (at_gw 140 (by decide +kernel) rfl), ⟨by decide +kernel, by decide +kernel, by decide +kernel⟩⟩
theorem ml_L_138 : Cond.methodLink RL 138 yL_chance ∈ gw := (at_gw 1074 (by decide +kernel) rfl)
theorem vl_L_140 : VL RL 140 RX13 yX13_chance 2 := ⟨Or.inl (at_gw 1651 (by decide +kernel) rfl), (at_gw 1652 (by decide +kernel) rfl), (at_gw 1653 (by decide +kernel) rfl), (at_gw 154 (by decide +kernel) rfl), ⟨by decide +kernel, by decide +kernel, by decide +kernel⟩⟩
theorem sl_L_141 : SL RL 141 yL_pass 3 := ⟨Or.inl (at_gw 1107 (by decide +kernel) rfl), (at_gw 1108 (by decide +kernel) rfl), (at_gw 140 (by decide +kernel) rfl), ⟨by decide +kernel, by decide +kernel, by decide +kernel⟩⟩
theorem ml_L_141 : Cond.methodLink RL 141 yL_pass ∈ gw := (at_gw 1107 (by decide +kernel) rfl)
theorem vl_L_144 : VL RL 144 RX13 yX13_pass 1 := ⟨Or.inl (at_gw 1669 (by decide +kernel) rfl), (at_gw 1670 (by decide +kernel) rfl), (at_gw 1671 (by decide +kernel) rfl), (at_gw 154 (by decide +kernel) rfl), ⟨by decide +kernel, by decide +kernel, by decide +kernel⟩⟩
theorem sl_L_145 : SL RL 145 yL_guess 3 := ⟨Or.inl (at_gw 1153 (by decide +kernel) rfl), (at_gw 1154 (by decide +kernel) rfl), (at_gw 140 (by decide +kernel) rfl), ⟨by decide +kernel, by decide +kernel, by decide +kernel⟩⟩
theorem ml_L_145 : Cond.methodLink RL 145 yL_guess ∈ gw := (at_gw 1153 (by decide +kernel) rfl)
theorem vl_L_147 : VL RL 147 RX13 yX13_guess 1 := ⟨Or.inl (at_gw 1689 (by decide +kernel) rfl), (at_gw 1690 (by decide +kernel) rfl), (at_gw 1691 (by decide +kernel) rfl), (at_gw 154 (by decide +kernel) rfl), ⟨by decide +kernel, by decide +kernel, by decide +kernel⟩⟩
theorem sl_L_148 : SL RL 148 yL_sell 5 := ⟨Or.inl (at_gw 1171 (by decide +kernel) rfl), (at_gw 1172 (by decide +kernel) rfl), (at_gw 140 (by decide +kernel) rfl), ⟨by decide +kernel, by decide +kernel, by decide +kernel⟩⟩
theorem ml_L_148 : Cond.methodLink RL 148 yL_sell ∈ gw := (at_gw 1171 (by decide +kernel) rfl)
theorem vl_L_151 : VL RL 151 RX13 yX13_sell 3 := ⟨Or.inl (at_gw 1698 (by decide +kernel) rfl), (at_gw 1699 (by decide +kernel) rfl), (at_gw 1700 (by decide +kernel) rfl), (at_gw 154 (by decide +kernel) rfl), ⟨by decide +kernel, by decide +kernel, by decide +kernel⟩⟩
theorem vl_L_152 : VL RL 152 RX12 yX12_inn 1 := ⟨Or.inl (at_gw 501 (by decide +kernel) rfl), (at_gw 502 (by decide +kernel) rfl), (at_gw 503 (by decide +kernel) rfl), (at_gw 141 (by decide +kernel) rfl), ⟨by decide +kernel, by decide +kernel, by decide +kernel⟩⟩
theorem vl_L_155 : VL RL 155 RX13 yX13_inn 1 := ⟨Or.inl (at_gw 1714 (by decide +kernel) rfl), (at_gw 1715 (by decide +kernel) rfl), (at_gw 1716 (by decide +kernel) rfl), (at_gw 154 (by decide +kernel) rfl), ⟨by decide +kernel, by decide +kernel, by decide +kernel⟩⟩
theorem sl_L_156 : SL RL 156 yL_walkBack 3 := ⟨Or.inl (at_gw 1192 (by decide +kernel) rfl), (at_gw 1193 (by decide +kernel) rfl), (at_gw 140 (by decide +kernel) rfl), ⟨by decide +kernel, by decide +kernel, by decide +kernel⟩⟩
theorem ml_L_156 : Cond.methodLink RL 156 yL_walkBack ∈ gw := (at_gw 1192 (by decide +kernel) rfl)
theorem vl_L_158 : VL RL 158 RX13 yX13_walkBack 1 := ⟨Or.inl (at_gw 1722 (by decide +kernel) rfl), (at_gw 1723 (by decide +kernel) rfl), (at_gw 1724 (by decide +kernel) rfl), (at_gw 154 (by decide +kernel) rfl), ⟨by decide +kernel, by decide +kernel, by decide +kernel⟩⟩
theorem sl_L_159 : SL RL 159 yL_days 3 := ⟨Or.inl (at_gw 1200 (by decide +kernel) rfl), (at_gw 1201 (by decide +kernel) rfl), (at_gw 140 (by decide +kernel) rfl), ⟨by decide +kernel, by decide +kernel, by decide +kernel⟩⟩
theorem ml_L_159 : Cond.methodLink RL 159 yL_days ∈ gw := (at_gw 1200 (by decide +kernel) rfl)
theorem vl_L_161 : VL RL 161 RX13 yX13_days 1 := ⟨Or.inl (at_gw 1726 (by decide +kernel) rfl), (at_gw 1727 (by decide +kernel) rfl), (at_gw 1728 (by decide +kernel) rfl), (at_gw 154 (by decide +kernel) rfl), ⟨by decide +kernel, by decide +kernel, by decide +kernel⟩⟩
theorem vl_L_162 : VL RL 162 RX12 yX12_seed 1 := ⟨Or.inl (at_gw 534 (by decide +kernel) rfl), (at_gw 535 (by decide +kernel) rfl), (at_gw 536 (by decide +kernel) rfl), (at_gw 141 (by decide +kernel) rfl), ⟨by decide +kernel, by decide +kernel, by decide +kernel⟩⟩
theorem vl_L_165 : VL RL 165 RX13 yX13_seed 1 := ⟨Or.inl (at_gw 1734 (by decide +kernel) rfl), (at_gw 1735 (by decide +kernel) rfl), (at_gw 1736 (by decide +kernel) rfl), (at_gw 154 (by decide +kernel) rfl), ⟨by decide +kernel, by decide +kernel, by decide +kernel⟩⟩
theorem sl_L_166 : SL RL 166 yL_cheapest 5 := ⟨Or.inl (at_gw 1219 (by decide +kernel) rfl), (at_gw 1220 (by decide +kernel) rfl), (at_gw 140 (by decide +kernel) rfl), ⟨by decide +kernel, by decide +kernel, by decide +kernel⟩⟩
theorem ml_L_166 : Cond.methodLink RL 166 yL_cheapest ∈ gw := (at_gw 1219 (by decide +kernel) rfl)
theorem vl_L_168 : VL RL 168 RX13 yX13_cheapest 3 := ⟨Or.inl (at_gw 1738 (by decide +kernel) rfl), (at_gw 1739 (by decide +kernel) rfl), (at_gw 1740 (by decide +kernel) rfl), (at_gw 154 (by decide +kernel) rfl), ⟨by decide +kernel, by decide +kernel, by decide +kernel⟩⟩
theorem sl_L_169 : SL RL 169 yL_convoy 5 := ⟨Or.inl (at_gw 1235 (by decide +kernel) rfl), (at_gw 1236 (by decide +kernel) rfl), (at_gw 140 (by decide +kernel) rfl), ⟨by decide +kernel, by decide +kernel, by decide +kernel⟩⟩
theorem ml_L_169 : Cond.methodLink RL 169 yL_convoy ∈ gw := (at_gw 1235 (by decide +kernel) rfl)
theorem vl_L_171 : VL RL 171 RX13 yX13_convoy 3 := ⟨Or.inl (at_gw 1758 (by decide +kernel) rfl), (at_gw 1759 (by decide +kernel) rfl), (at_gw 1760 (by decide +kernel) rfl), (at_gw 154 (by decide +kernel) rfl), ⟨by decide +kernel, by decide +kernel, by decide +kernel⟩⟩
theorem sl_L_172 : SL RL 172 yL_tries 5 := ⟨Or.inl (at_gw 1245 (by decide +kernel) rfl), (at_gw 1246 (by decide +kernel) rfl), (at_gw 140 (by decide +kernel) rfl), ⟨by decide +kernel, by decide +kernel, by decide +kernel⟩⟩
theorem ml_L_172 : Cond.methodLink RL 172 yL_tries ∈ gw := (at_gw 1245 (by decide +kernel) rfl)
theorem vl_L_174 : VL RL 174 RX13 yX13_tries 3 := ⟨Or.inl (at_gw 1766 (by decide +kernel) rfl), (at_gw 1767 (by decide +kernel) rfl), (at_gw 1768 (by decide +kernel) rfl), (at_gw 154 (by decide +kernel) rfl), ⟨by decide +kernel, by decide +kernel, by decide +kernel⟩⟩
theorem vl_L_175 : VL RL 175 RX12 yX12_bring 1 := ⟨Or.inl (at_gw 538 (by decide +kernel) rfl), (at_gw 539 (by decide +kernel) rfl), (at_gw 540 (by decide +kernel) rfl), (at_gw 141 (by decide +kernel) rfl), ⟨by decide +kernel, by decide +kernel, by decide +kernel⟩⟩
theorem vl_L_178 : VL RL 178 RX13 yX13_bring 1 := ⟨Or.inl (at_gw 1774 (by decide +kernel) rfl), (at_gw 1775 (by decide +kernel) rfl), (at_gw 1776 (by decide +kernel) rfl), (at_gw 154 (by decide +kernel) rfl), ⟨by decide +kernel, by decide +kernel, by decide +kernel⟩⟩
theorem sl_L_179 : SL RL 179 yL_apart 3 := ⟨Or.inl (at_gw 1260 (by decide +kernel) rfl), (at_gw 1261 (by decide +kernel) rfl), (at_gw 140 (by decide +kernel) rfl), ⟨by decide +kernel, by decide +kernel, by decide +kernel⟩⟩
theorem ml_L_179 : Cond.methodLink RL 179 yL_apart ∈ gw := (at_gw 1260 (by decide +kernel) rfl)
theorem vl_L_181 : VL RL 181 RX13 yX13_apart 1 := ⟨Or.inl (at_gw 1782 (by decide +kernel) rfl), (at_gw 1783 (by decide +kernel) rfl), (at_gw 1784 (by decide +kernel) rfl), (at_gw 154 (by decide +kernel) rfl), ⟨by decide +kernel, by decide +kernel, by decide +kernel⟩⟩
theorem sl_L_182 : SL RL 182 yL_chain 2 := ⟨Or.inl (at_gw 1270 (by decide +kernel) rfl), (at_gw 1271 (by decide +kernel) rfl), (at_gw 140 (by decide +kernel) rfl), ⟨by decide +kernel, by decide +kernel, by decide +kernel⟩⟩
theorem ml_L_182 : Cond.methodLink RL 182 yL_chain ∈ gw := (at_gw 1270 (by decide +kernel) rfl)
theorem vl_L_184 : VL RL 184 RX13 yX13_chain 0 := ⟨Or.inl (at_gw 1786 (by decide +kernel) rfl), (at_gw 1787 (by decide +kernel) rfl), (at_gw 1788 (by decide +kernel) rfl), (at_gw 154 (by decide +kernel) rfl), ⟨by decide +kernel, by decide +kernel, by decide +kernel⟩⟩
theorem sl_L_185 : SL RL 185 yL_letter 4 := ⟨Or.inl (at_gw 1288 (by decide +kernel) rfl), (at_gw 1289 (by decide +kernel) rfl), (at_gw 140 (by decide +kernel) rfl), ⟨by decide +kernel, by decide +kernel, by decide +kernel⟩⟩
theorem ml_L_185 : Cond.methodLink RL 185 yL_letter ∈ gw := (at_gw 1288 (by decide +kernel) rfl)
theorem vl_L_187 : VL RL 187 RX13 yX13_letter 2 := ⟨Or.inl (at_gw 1790 (by decide +kernel) rfl), (at_gw 1791 (by decide +kernel) rfl), (at_gw 1792 (by decide +kernel) rfl), (at_gw 154 (by decide +kernel) rfl), ⟨by decide +kernel, by decide +kernel, by decide +kernel⟩⟩
theorem vl_L_188 : VL RL 188 RX12 yX12_forget 0 := ⟨Or.inl (at_gw 555 (by decide +kernel) rfl), (at_gw 556 (by decide +kernel) rfl), (at_gw 557 (by decide +kernel) rfl), (at_gw 141 (by decide +kernel) rfl), ⟨by decide +kernel, by decide +kernel, by decide +kernel⟩⟩
theorem vl_L_191 : VL RL 191 RX13 yX13_forget 0 := ⟨Or.inl (at_gw 1802 (by decide +kernel) rfl), (at_gw 1803 (by decide +kernel) rfl), (at_gw 1804 (by decide +kernel) rfl), (at_gw 154 (by decide +kernel) rfl), ⟨by decide +kernel, by decide +kernel, by decide +kernel⟩⟩
theorem vl_L_192 : VL RL 192 RX12 yX12_questions 1 := ⟨Or.inl (at_gw 559 (by decide +kernel) rfl), (at_gw 560 (by decide +kernel) rfl), (at_gw 561 (by decide +kernel) rfl), (at_gw 141 (by decide +kernel) rfl), ⟨by decide +kernel, by decide +kernel, by decide +kernel⟩⟩
theorem vl_L_196 : VL RL 196 RX13 yX13_questions 1 := ⟨Or.inl (at_gw 1806 (by decide +kernel) rfl), (at_gw 1807 (by decide +kernel) rfl), (at_gw 1808 (by decide +kernel) rfl), (at_gw 154 (by decide +kernel) rfl), ⟨by decide +kernel, by decide +kernel, by decide +kernel⟩⟩
theorem sl_L_197 : SL RL 197 yL_lie 3 := ⟨Or.inl (at_gw 1296 (by decide +kernel) rfl), (at_gw 1297 (by decide +kernel) rfl), (at_gw 140 (by decide +kernel) rfl), ⟨by decide +kernel, by decide +kernel, by decide +kernel⟩⟩
theorem ml_L_197 : Cond.methodLink RL 197 yL_lie ∈ gw := (at_gw 1296 (by decide +kernel) rfl)
theorem vl_L_199 : VL RL 199 RX13 yX13_lie 1 := ⟨Or.inl (at_gw 1822 (by decide +kernel) rfl), (at_gw 1823 (by decide +kernel) rfl), (at_gw 1824 (by decide +kernel) rfl), (at_gw 154 (by decide +kernel) rfl), ⟨by decide +kernel, by decide +kernel, by decide +kernel⟩⟩
theorem sl_L_200 : SL RL 200 yL_monday 3 := ⟨Or.inl (at_gw 1312 (by decide +kernel) rfl), (at_gw 1313 (by decide +kernel) rfl), (at_gw 140 (by decide +kernel) rfl), ⟨by decide +kernel, by decide +kernel, by decide +kernel⟩⟩
theorem ml_L_200 : Cond.methodLink RL 200 yL_monday ∈ gw := (at_gw 1312 (by decide +kernel) rfl)
theorem vl_L_202 : VL RL 202 RX13 yX13_monday 1 := ⟨Or.inl (at_gw 1826 (by decide +kernel) rfl), (at_gw 1827 (by decide +kernel) rfl), (at_gw 1828 (by decide +kernel) rfl), (at_gw 154 (by decide +kernel) rfl), ⟨by decide +kernel, by decide +kernel, by decide +kernel⟩⟩
theorem sl_L_203 : SL RL 203 yL_live 3 := ⟨Or.inl (at_gw 1327 (by decide +kernel) rfl), (at_gw 1328 (by decide +kernel) rfl), (at_gw 140 (by decide +kernel) rfl), ⟨by decide +kernel, by decide +kernel, by decide +kernel⟩⟩
theorem ml_L_203 : Cond.methodLink RL 203 yL_live ∈ gw := (at_gw 1327 (by decide +kernel) rfl)
theorem vl_L_205 : VL RL 205 RX13 yX13_live 1 := ⟨Or.inl (at_gw 1830 (by decide +kernel) rfl), (at_gw 1831 (by decide +kernel) rfl), (at_gw 1832 (by decide +kernel) rfl), (at_gw 154 (by decide +kernel) rfl), ⟨by decide +kernel, by decide +kernel, by decide +kernel⟩⟩
theorem vl_L_206 : VL RL 206 RX12 yX12_undo 0 := ⟨Or.inl (at_gw 590 (by decide +kernel) rfl), (at_gw 591 (by decide +kernel) rfl), (at_gw 592 (by decide +kernel) rfl), (at_gw 141 (by decide +kernel) rfl), ⟨by decide +kernel, by decide +kernel, by decide +kernel⟩⟩
theorem vl_L_210 : VL RL 210 RX13 yX13_undo 0 := ⟨Or.inl (at_gw 1429 (by decide +kernel) rfl), (at_gw 1430 (by decide +kernel) rfl), (at_gw 1431 (by decide +kernel) rfl), (at_gw 154 (by decide +kernel) rfl), ⟨by decide +kernel, by decide +kernel, by decide +kernel⟩⟩
theorem vl_L_211 : VL RL 211 RX12 yX12_image 0 := ⟨Or.inl (at_gw 598 (by decide +kernel) rfl), (at_gw 599 (by decide +kernel) rfl), (at_gw 600 (by decide +kernel) rfl), (at_gw 141 (by decide +kernel) rfl), ⟨by decide +kernel, by decide +kernel, by decide +kernel⟩⟩
theorem vl_L_214 : VL RL 214 RX13 yX13_image 0 := ⟨Or.inl (at_gw 1421 (by decide +kernel) rfl), (at_gw 1422 (by decide +kernel) rfl), (at_gw 1423 (by decide +kernel) rfl), (at_gw 154 (by decide +kernel) rfl), ⟨by decide +kernel, by decide +kernel, by decide +kernel⟩⟩
theorem vl_L_215 : VL RL 215 RX12 yX12_back 0 := ⟨Or.inl (at_gw 608 (by decide +kernel) rfl), (at_gw 609 (by decide +kernel) rfl), (at_gw 610 (by decide +kernel) rfl), (at_gw 141 (by decide +kernel) rfl), ⟨by decide +kernel, by decide +kernel, by decide +kernel⟩⟩
theorem vl_L_218 : VL RL 218 RX13 yX13_back 0 := ⟨Or.inl (at_gw 1425 (by decide +kernel) rfl), (at_gw 1426 (by decide +kernel) rfl), (at_gw 1427 (by decide +kernel) rfl), (at_gw 154 (by decide +kernel) rfl), ⟨by decide +kernel, by decide +kernel, by decide +kernel⟩⟩
theorem vl_L_219 : VL RL 219 RX12 yX12_count 1 := ⟨Or.inl (at_gw 616 (by decide +kernel) rfl), (at_gw 617 (by decide +kernel) rfl), (at_gw 618 (by decide +kernel) rfl), (at_gw 141 (by decide +kernel) rfl), ⟨by decide +kernel, by decide +kernel, by decide +kernel⟩⟩
theorem vl_L_222 : VL RL 222 RX13 yX13_count 1 := ⟨Or.inl (at_gw 1838 (by decide +kernel) rfl), (at_gw 1839 (by decide +kernel) rfl), (at_gw 1840 (by decide +kernel) rfl), (at_gw 154 (by decide +kernel) rfl), ⟨by decide +kernel, by decide +kernel, by decide +kernel⟩⟩
theorem cn_L_8 : Cond.classLink RL 8 RX12 ∈ gw := (at_gw 171 (by decide +kernel) rfl)
theorem in_X12 : Cond.instantiable RX12 12 ∈ gw := (at_gw 172 (by decide +kernel) rfl)
theorem it_X12 : Cond.initialized RX12 ∈ gw := (at_gw 141 (by decide +kernel) rfl)
theorem il_L_92 : IL RL 92 yX12_init 0 := ⟨Or.inl (at_gw 173 (by decide +kernel) rfl), (at_gw 174 (by decide +kernel) rfl), (at_gw 141 (by decide +kernel) rfl), ⟨by decide +kernel, by decide +kernel, by decide +kernel⟩, rfl⟩
theorem cn_L_93 : Cond.classLink RL 93 RX13 ∈ gw := (at_gw 1354 (by decide +kernel) rfl)
theorem in_X13 : Cond.instantiable RX13 20 ∈ gw := (at_gw 1355 (by decide +kernel) rfl)
theorem it_X13 : Cond.initialized RX13 ∈ gw := (at_gw 154 (by decide +kernel) rfl)
theorem il_L_95 : IL RL 95 yX13_init 0 := ⟨Or.inl (at_gw 1356 (by decide +kernel) rfl), (at_gw 1357 (by decide +kernel) rfl), (at_gw 154 (by decide +kernel) rfl), ⟨by decide +kernel, by decide +kernel, by decide +kernel⟩, rfl⟩
theorem ac_3 : Cond.arrayClass .long ∈ gw := (at_gw 1842 (by decide +kernel) rfl)
def F_L_body (x m o L : Nat) (xs : Nat → Int32) (s1 : Int32 × Mem) : Option ((Int32 × Mem) ⊕ (Int32 × Mem)) := if ((Int32.ofNat L) - (6 : Int32)) < s1.1 then (some (.inr ((1 : Int32), s1.2))) else ((scA L xs s1.1).bind fun v2 => if (v2 &&& (63 : Int32)) = (0 : Int32) then ((scA L xs (s1.1 + (1 : Int32))).bind fun v38 => (scA L xs (s1.1 + (2 : Int32))).bind fun v39 => (scA L xs (s1.1 + (3 : Int32))).bind fun v40 => (scA L xs (s1.1 + (4 : Int32))).bind fun v41 => (scA L xs (s1.1 + (5 : Int32))).bind fun v42 => (ck (qS s1.2 x = 18)).bind fun h44 => (F_RR_feed x v38 v39 v40 v41 v42 s1.2).bind fun v43 => (scA L xs (s1.1 + (1 : Int32))).bind fun v45 => (scA L xs (s1.1 + (2 : Int32))).bind fun v46 => (scA L xs (s1.1 + (3 : Int32))).bind fun v47 => (scA L xs (s1.1 + (4 : Int32))).bind fun v48 => (scA L xs (s1.1 + (5 : Int32))).bind fun v49 => (ck (qS v43.2 m = 19)).bind fun h51 => (F_Mo_feed m v45 v46 v47 v48 v49 v43.2).bind fun v50 => if v43.1 = v50.1 then (some (.inl ((s1.1 + (6 : Int32)), v50.2))) else (some (.inr ((0 : Int32), v50.2)))) else if (v2 &&& (63 : Int32)) = (1 : Int32) then ((scA L xs (s1.1 + (1 : Int32))).bind fun v53 => (ck (qS s1.2 x = 18)).bind fun h55 => (F_RR_end x v53 s1.2).bind fun v54 => (scA L xs (s1.1 + (1 : Int32))).bind fun v56 => (ck (qS v54.2 m = 19)).bind fun h58 => (F_Mo_end m v56 v54.2).bind fun v57 => if v54.1 = v57.1 then (some (.inl ((s1.1 + (6 : Int32)), v57.2))) else (some (.inr ((0 : Int32), v57.2)))) else if (v2 &&& (63 : Int32)) = (2 : Int32) then ((F_L_road x o s1.2).bind fun v60 => (ck (qS v60.2 m = 19)).bind fun h62 => (F_Mo_road m v60.2).bind fun v61 => (ck (qS v61.2 m = 19)).bind fun h64 => (F_Mo_thrown m v61.2).bind fun v63 => if v63 = v60.1 then ((if v60.1 = 0 then ((aL v61.2 o (0 : Int32)).bind fun v68 => if (lg_cmp v68 v61.1.toInt64) = 0 then (some false) else (some true)) else (some false) : Option Bool).bind fun b67 => if b67 = true then (some (.inr ((0 : Int32), v61.2))) else (some (.inl ((s1.1 + (6 : Int32)), v61.2)))) else (some (.inr ((0 : Int32), v61.2)))) else if (v2 &&& (63 : Int32)) = (3 : Int32) then ((F_L_law x o s1.2).bind fun v70 => (ck (qS v70.2 m = 19)).bind fun h72 => (F_Mo_law m v70.2).bind fun v71 => (ck (qS v71.2 m = 19)).bind fun h74 => (F_Mo_thrown m v71.2).bind fun v73 => if v73 = v70.1 then ((if v70.1 = 0 then ((aL v71.2 o (0 : Int32)).bind fun v78 => if (lg_cmp v78 v71.1.toInt64) = 0 then (some false) else (some true)) else (some false) : Option Bool).bind fun b77 => if b77 = true then (some (.inr ((0 : Int32), v71.2))) else (some (.inl ((s1.1 + (6 : Int32)), v71.2)))) else (some (.inr ((0 : Int32), v71.2)))) else if (v2 &&& (63 : Int32)) = (4 : Int32) then ((ck (qS s1.2 x = 18)).bind fun h81 => (F_RR_fault x s1.2).bind fun v80 => (ck (qS s1.2 m = 19)).bind fun h83 => (F_Mo_fault m s1.2).bind fun v82 => if v80 = v82.1 then (some (.inl ((s1.1 + (6 : Int32)), v82.2))) else (some (.inr ((0 : Int32), v82.2)))) else if (v2 &&& (63 : Int32)) = (5 : Int32) then ((scA L xs (s1.1 + (1 : Int32))).bind fun v85 => (scA L xs (s1.1 + (2 : Int32))).bind fun v86 => (F_L_gate x v85 v86 o s1.2).bind fun v87 => (scA L xs (s1.1 + (1 : Int32))).bind fun v88 => (scA L xs (s1.1 + (2 : Int32))).bind fun v89 => (ck (qS v87.2 m = 19)).bind fun h91 => (F_Mo_gate m v88 v89 v87.2).bind fun v90 => (ck (qS v90.2 m = 19)).bind fun h93 => (F_Mo_thrown m v90.2).bind fun v92 => if v92 = v87.1 then ((if v87.1 = 0 then ((aL v90.2 o (0 : Int32)).bind fun v97 => if (lg_cmp v97 v90.1.toInt64) = 0 then (some false) else (some true)) else (some false) : Option Bool).bind fun b96 => if b96 = true then (some (.inr ((0 : Int32), v90.2))) else (some (.inl ((s1.1 + (6 : Int32)), v90.2)))) else (some (.inr ((0 : Int32), v90.2)))) else if (v2 &&& (63 : Int32)) = (6 : Int32) then ((scA L xs (s1.1 + (1 : Int32))).bind fun v99 => (scA L xs (s1.1 + (2 : Int32))).bind fun v100 => (F_L_walker x v99 v100 o s1.2).bind fun v101 => (scA L xs (s1.1 + (1 : Int32))).bind fun v102 => (scA L xs (s1.1 + (2 : Int32))).bind fun v103 => (ck (qS v101.2 m = 19)).bind fun h105 => (F_Mo_walker m v102 v103 v101.2).bind fun v104 => (ck (qS v104.2 m = 19)).bind fun h107 => (F_Mo_thrown m v104.2).bind fun v106 => if v106 = v101.1 then ((if v101.1 = 0 then ((aL v104.2 o (0 : Int32)).bind fun v111 => if (lg_cmp v111 v104.1.toInt64) = 0 then (some false) else (some true)) else (some false) : Option Bool).bind fun b110 => if b110 = true then (some (.inr ((0 : Int32), v104.2))) else (some (.inl ((s1.1 + (6 : Int32)), v104.2)))) else (some (.inr ((0 : Int32), v104.2)))) else if (v2 &&& (63 : Int32)) = (7 : Int32) then ((scA L xs (s1.1 + (1 : Int32))).bind fun v113 => (scA L xs (s1.1 + (2 : Int32))).bind fun v114 => (F_L_since x v113 v114 o s1.2).bind fun v115 => (scA L xs (s1.1 + (1 : Int32))).bind fun v116 => (scA L xs (s1.1 + (2 : Int32))).bind fun v117 => (ck (qS v115.2 m = 19)).bind fun h119 => (F_Mo_since m v116 v117 v115.2).bind fun v118 => (ck (qS v118.2 m = 19)).bind fun h121 => (F_Mo_thrown m v118.2).bind fun v120 => if v120 = v115.1 then ((if v115.1 = 0 then ((aL v118.2 o (0 : Int32)).bind fun v125 => if (lg_cmp v125 v118.1.toInt64) = 0 then (some false) else (some true)) else (some false) : Option Bool).bind fun b124 => if b124 = true then (some (.inr ((0 : Int32), v118.2))) else (some (.inl ((s1.1 + (6 : Int32)), v118.2)))) else (some (.inr ((0 : Int32), v118.2)))) else if (v2 &&& (63 : Int32)) = (8 : Int32) then ((scA L xs (s1.1 + (1 : Int32))).bind fun v127 => (scA L xs (s1.1 + (2 : Int32))).bind fun v128 => (F_L_price x v127 v128 o s1.2).bind fun v129 => (scA L xs (s1.1 + (1 : Int32))).bind fun v130 => (scA L xs (s1.1 + (2 : Int32))).bind fun v131 => (ck (qS v129.2 m = 19)).bind fun h133 => (F_Mo_price m v130 v131 v129.2).bind fun v132 => (ck (qS v132.2 m = 19)).bind fun h135 => (F_Mo_thrown m v132.2).bind fun v134 => if v134 = v129.1 then ((if v129.1 = 0 then ((aL v132.2 o (0 : Int32)).bind fun v139 => if (lg_cmp v139 v132.1.toInt64) = 0 then (some false) else (some true)) else (some false) : Option Bool).bind fun b138 => if b138 = true then (some (.inr ((0 : Int32), v132.2))) else (some (.inl ((s1.1 + (6 : Int32)), v132.2)))) else (some (.inr ((0 : Int32), v132.2)))) else if (v2 &&& (63 : Int32)) = (9 : Int32) then ((scA L xs (s1.1 + (1 : Int32))).bind fun v141 => (scA L xs (s1.1 + (2 : Int32))).bind fun v142 => (scA L xs (s1.1 + (3 : Int32))).bind fun v143 => (if v143 = 0 then (some (0 : Int32)) else (some (1 : Int32)) : Option (Int32)).bind fun s145 => (F_L_may x v141 v142 s145 o s1.2).bind fun v146 => (scA L xs (s1.1 + (1 : Int32))).bind fun v147 => (scA L xs (s1.1 + (2 : Int32))).bind fun v148 => (scA L xs (s1.1 + (3 : Int32))).bind fun v149 => (if v149 = 0 then (some (0 : Int32)) else (some (1 : Int32)) : Option (Int32)).bind fun s151 => (ck (qS v146.2 m = 19)).bind fun h153 => (F_Mo_may m v147 v148 s151 v146.2).bind fun v152 => (ck (qS v152.2 m = 19)).bind fun h155 => (F_Mo_thrown m v152.2).bind fun v154 => if v154 = v146.1 then (if v146.1 = 0 then ((aL v152.2 o (0 : Int32)).bind fun v158 => (if v152.1 = 0 then (some (0 : Int64)) else (some (1 : Int64)) : Option (Int64)).bind fun s160 => if (lg_cmp v158 s160) = 0 then (some (.inl ((s1.1 + (6 : Int32)), v152.2))) else (some (.inr ((0 : Int32), v152.2)))) else (some (.inl ((s1.1 + (6 : Int32)), v152.2)))) else (some (.inr ((0 : Int32), v152.2)))) else if (v2 &&& (63 : Int32)) = (10 : Int32) then ((scA L xs (s1.1 + (1 : Int32))).bind fun v162 => (scA L xs (s1.1 + (2 : Int32))).bind fun v163 => (F_L_chance x v162 v163 o s1.2).bind fun v164 => (scA L xs (s1.1 + (1 : Int32))).bind fun v165 => (scA L xs (s1.1 + (2 : Int32))).bind fun v166 => (ck (qS v164.2 m = 19)).bind fun h168 => (F_Mo_chance m v165 v166 v164.2).bind fun v167 => (ck (qS v167.2 m = 19)).bind fun h170 => (F_Mo_thrown m v167.2).bind fun v169 => if v169 = v164.1 then ((if v164.1 = 0 then ((aL v167.2 o (0 : Int32)).bind fun v174 => if (lg_cmp v174 v167.1.toInt64) = 0 then (some false) else (some true)) else (some false) : Option Bool).bind fun b173 => if b173 = true then (some (.inr ((0 : Int32), v167.2))) else (some (.inl ((s1.1 + (6 : Int32)), v167.2)))) else (some (.inr ((0 : Int32), v167.2)))) else if (v2 &&& (63 : Int32)) = (11 : Int32) then ((scA L xs (s1.1 + (1 : Int32))).bind fun v176 => (F_L_pass x v176 o s1.2).bind fun v177 => (scA L xs (s1.1 + (1 : Int32))).bind fun v178 => (ck (qS v177.2 m = 19)).bind fun h180 => (F_Mo_pass m v178 v177.2).bind fun v179 => (ck (qS v179.2 m = 19)).bind fun h182 => (F_Mo_thrown m v179.2).bind fun v181 => if v181 = v177.1 then ((if v177.1 = 0 then ((aL v179.2 o (0 : Int32)).bind fun v186 => if (lg_cmp v186 v179.1.toInt64) = 0 then (some false) else (some true)) else (some false) : Option Bool).bind fun b185 => if b185 = true then (some (.inr ((0 : Int32), v179.2))) else (some (.inl ((s1.1 + (6 : Int32)), v179.2)))) else (some (.inr ((0 : Int32), v179.2)))) else if (v2 &&& (63 : Int32)) = (12 : Int32) then ((scA L xs (s1.1 + (1 : Int32))).bind fun v188 => (F_L_guess x v188 o s1.2).bind fun v189 => (scA L xs (s1.1 + (1 : Int32))).bind fun v190 => (ck (qS v189.2 m = 19)).bind fun h192 => (F_Mo_guess m v190 v189.2).bind fun v191 => (ck (qS v191.2 m = 19)).bind fun h194 => (F_Mo_thrown m v191.2).bind fun v193 => if v193 = v189.1 then (if v189.1 = 0 then ((aL v191.2 o (0 : Int32)).bind fun v197 => (if v191.1 = 0 then (some (0 : Int64)) else (some (1 : Int64)) : Option (Int64)).bind fun s199 => if (lg_cmp v197 s199) = 0 then (some (.inl ((s1.1 + (6 : Int32)), v191.2))) else (some (.inr ((0 : Int32), v191.2)))) else (some (.inl ((s1.1 + (6 : Int32)), v191.2)))) else (some (.inr ((0 : Int32), v191.2)))) else if (v2 &&& (63 : Int32)) = (13 : Int32) then ((scA L xs (s1.1 + (1 : Int32))).bind fun v201 => (scA L xs (s1.1 + (2 : Int32))).bind fun v202 => (scA L xs (s1.1 + (3 : Int32))).bind fun v203 => (F_L_sell x v201 v202 v203 o s1.2).bind fun v204 => (scA L xs (s1.1 + (1 : Int32))).bind fun v205 => (scA L xs (s1.1 + (2 : Int32))).bind fun v206 => (scA L xs (s1.1 + (3 : Int32))).bind fun v207 => (ck (qS v204.2 m = 19)).bind fun h209 => (F_Mo_sell m v205 v206 v207 v204.2).bind fun v208 => (ck (qS v208.2 m = 19)).bind fun h211 => (F_Mo_thrown m v208.2).bind fun v210 => if v210 = v204.1 then ((if v204.1 = 0 then ((aL v208.2 o (0 : Int32)).bind fun v215 => if (lg_cmp v215 v208.1.toInt64) = 0 then (some false) else (some true)) else (some false) : Option Bool).bind fun b214 => if b214 = true then (some (.inr ((0 : Int32), v208.2))) else (some (.inl ((s1.1 + (6 : Int32)), v208.2)))) else (some (.inr ((0 : Int32), v208.2)))) else if (v2 &&& (63 : Int32)) = (14 : Int32) then ((scA L xs (s1.1 + (1 : Int32))).bind fun v217 => (ck (qS s1.2 x = 18)).bind fun h219 => (F_RR_inn x v217 s1.2).bind fun v218 => (scA L xs (s1.1 + (1 : Int32))).bind fun v220 => (ck (qS v218.2 m = 19)).bind fun h222 => (F_Mo_inn m v220 v218.2).bind fun v221 => if v218.1 = v221.1 then (some (.inl ((s1.1 + (6 : Int32)), v221.2))) else (some (.inr ((0 : Int32), v221.2)))) else if (v2 &&& (63 : Int32)) = (15 : Int32) then ((scA L xs (s1.1 + (1 : Int32))).bind fun v224 => (F_L_walkBack x v224 o s1.2).bind fun v225 => (scA L xs (s1.1 + (1 : Int32))).bind fun v226 => (ck (qS v225.2 m = 19)).bind fun h228 => (F_Mo_walkBack m v226 v225.2).bind fun v227 => (ck (qS v227.2 m = 19)).bind fun h230 => (F_Mo_thrown m v227.2).bind fun v229 => if v229 = v225.1 then ((if v225.1 = 0 then ((aL v227.2 o (0 : Int32)).bind fun v234 => if (lg_cmp v234 v227.1.toInt64) = 0 then (some false) else (some true)) else (some false) : Option Bool).bind fun b233 => if b233 = true then (some (.inr ((0 : Int32), v227.2))) else (some (.inl ((s1.1 + (6 : Int32)), v227.2)))) else (some (.inr ((0 : Int32), v227.2)))) else if (v2 &&& (63 : Int32)) = (16 : Int32) then ((scA L xs (s1.1 + (1 : Int32))).bind fun v236 => (F_L_days x v236 o s1.2).bind fun v237 => (scA L xs (s1.1 + (1 : Int32))).bind fun v238 => (ck (qS v237.2 m = 19)).bind fun h240 => (F_Mo_days m v238 v237.2).bind fun v239 => (ck (qS v239.2 m = 19)).bind fun h242 => (F_Mo_thrown m v239.2).bind fun v241 => if v241 = v237.1 then ((if v237.1 = 0 then ((aL v239.2 o (0 : Int32)).bind fun v246 => if (lg_cmp v246 v239.1.toInt64) = 0 then (some false) else (some true)) else (some false) : Option Bool).bind fun b245 => if b245 = true then (some (.inr ((0 : Int32), v239.2))) else (some (.inl ((s1.1 + (6 : Int32)), v239.2)))) else (some (.inr ((0 : Int32), v239.2)))) else if (v2 &&& (63 : Int32)) = (17 : Int32) then ((scA L xs (s1.1 + (1 : Int32))).bind fun v248 => (ck (qS s1.2 x = 18)).bind fun h250 => (F_RR_seed x v248 s1.2).bind fun v249 => (scA L xs (s1.1 + (1 : Int32))).bind fun v251 => (ck (qS v249.2 m = 19)).bind fun h253 => (F_Mo_seed m v251 v249.2).bind fun v252 => if v249.1 = v252.1 then (some (.inl ((s1.1 + (6 : Int32)), v252.2))) else (some (.inr ((0 : Int32), v252.2)))) else if (v2 &&& (63 : Int32)) = (18 : Int32) then ((scA L xs (s1.1 + (1 : Int32))).bind fun v255 => (scA L xs (s1.1 + (2 : Int32))).bind fun v256 => (scA L xs (s1.1 + (3 : Int32))).bind fun v257 => (if v257 = 0 then (some (0 : Int32)) else (some (1 : Int32)) : Option (Int32)).bind fun s259 => (F_L_cheapest x v255 v256 s259 o s1.2).bind fun v260 => (scA L xs (s1.1 + (1 : Int32))).bind fun v261 => (scA L xs (s1.1 + (2 : Int32))).bind fun v262 => (scA L xs (s1.1 + (3 : Int32))).bind fun v263 => (if v263 = 0 then (some (0 : Int32)) else (some (1 : Int32)) : Option (Int32)).bind fun s265 => (ck (qS v260.2 m = 19)).bind fun h267 => (F_Mo_cheapest m v261 v262 s265 v260.2).bind fun v266 => (ck (qS v266.2 m = 19)).bind fun h269 => (F_Mo_thrown m v266.2).bind fun v268 => if v268 = v260.1 then ((if v260.1 = 0 then ((aL v266.2 o (0 : Int32)).bind fun v273 => if (lg_cmp v273 v266.1.toInt64) = 0 then (some false) else (some true)) else (some false) : Option Bool).bind fun b272 => if b272 = true then (some (.inr ((0 : Int32), v266.2))) else (some (.inl ((s1.1 + (6 : Int32)), v266.2)))) else (some (.inr ((0 : Int32), v266.2)))) else if (v2 &&& (63 : Int32)) = (19 : Int32) then ((scA L xs (s1.1 + (1 : Int32))).bind fun v275 => (scA L xs (s1.1 + (2 : Int32))).bind fun v276 => (scA L xs (s1.1 + (3 : Int32))).bind fun v277 => (if v277 = 0 then (some (0 : Int32)) else (some (1 : Int32)) : Option (Int32)).bind fun s279 => (F_L_convoy x v275 v276 s279 o s1.2).bind fun v280 => (scA L xs (s1.1 + (1 : Int32))).bind fun v281 => (scA L xs (s1.1 + (2 : Int32))).bind fun v282 => (scA L xs (s1.1 + (3 : Int32))).bind fun v283 => (if v283 = 0 then (some (0 : Int32)) else (some (1 : Int32)) : Option (Int32)).bind fun s285 => (ck (qS v280.2 m = 19)).bind fun h287 => (F_Mo_convoy m v281 v282 s285 v280.2).bind fun v286 => (ck (qS v286.2 m = 19)).bind fun h289 => (F_Mo_thrown m v286.2).bind fun v288 => if v288 = v280.1 then ((if v280.1 = 0 then ((aL v286.2 o (0 : Int32)).bind fun v293 => if (lg_cmp v293 v286.1.toInt64) = 0 then (some false) else (some true)) else (some false) : Option Bool).bind fun b292 => if b292 = true then (some (.inr ((0 : Int32), v286.2))) else (some (.inl ((s1.1 + (6 : Int32)), v286.2)))) else (some (.inr ((0 : Int32), v286.2)))) else if (v2 &&& (63 : Int32)) = (20 : Int32) then ((scA L xs (s1.1 + (1 : Int32))).bind fun v295 => (scA L xs (s1.1 + (2 : Int32))).bind fun v296 => (scA L xs (s1.1 + (3 : Int32))).bind fun v297 => (F_L_tries x v295 v296 v297 o s1.2).bind fun v298 => (scA L xs (s1.1 + (1 : Int32))).bind fun v299 => (scA L xs (s1.1 + (2 : Int32))).bind fun v300 => (scA L xs (s1.1 + (3 : Int32))).bind fun v301 => (ck (qS v298.2 m = 19)).bind fun h303 => (F_Mo_tries m v299 v300 v301 v298.2).bind fun v302 => (ck (qS v302.2 m = 19)).bind fun h305 => (F_Mo_thrown m v302.2).bind fun v304 => if v304 = v298.1 then ((if v298.1 = 0 then ((aL v302.2 o (0 : Int32)).bind fun v309 => if (lg_cmp v309 v302.1.toInt64) = 0 then (some false) else (some true)) else (some false) : Option Bool).bind fun b308 => if b308 = true then (some (.inr ((0 : Int32), v302.2))) else (some (.inl ((s1.1 + (6 : Int32)), v302.2)))) else (some (.inr ((0 : Int32), v302.2)))) else if (v2 &&& (63 : Int32)) = (21 : Int32) then ((scA L xs (s1.1 + (1 : Int32))).bind fun v311 => (ck (qS s1.2 x = 18)).bind fun h313 => (F_RR_bring x v311 s1.2).bind fun v312 => (scA L xs (s1.1 + (1 : Int32))).bind fun v314 => (ck (qS s1.2 m = 19)).bind fun h316 => (F_Mo_bring m v314 s1.2).bind fun v315 => if v312 = v315.1 then (some (.inl ((s1.1 + (6 : Int32)), v315.2))) else (some (.inr ((0 : Int32), v315.2)))) else if (v2 &&& (63 : Int32)) = (22 : Int32) then ((scA L xs (s1.1 + (1 : Int32))).bind fun v318 => (F_L_apart x v318 o s1.2).bind fun v319 => (scA L xs (s1.1 + (1 : Int32))).bind fun v320 => (ck (qS v319.2 m = 19)).bind fun h322 => (F_Mo_apart m v320 v319.2).bind fun v321 => (ck (qS v321.2 m = 19)).bind fun h324 => (F_Mo_thrown m v321.2).bind fun v323 => if v323 = v319.1 then ((if v319.1 = 0 then ((aL v321.2 o (0 : Int32)).bind fun v328 => if (lg_cmp v328 v321.1.toInt64) = 0 then (some false) else (some true)) else (some false) : Option Bool).bind fun b327 => if b327 = true then (some (.inr ((0 : Int32), v321.2))) else (some (.inl ((s1.1 + (6 : Int32)), v321.2)))) else (some (.inr ((0 : Int32), v321.2)))) else if (v2 &&& (63 : Int32)) = (23 : Int32) then ((F_L_chain x o s1.2).bind fun v330 => (ck (qS v330.2 m = 19)).bind fun h332 => (F_Mo_chain m v330.2).bind fun v331 => (ck (qS v331.2 m = 19)).bind fun h334 => (F_Mo_thrown m v331.2).bind fun v333 => if v333 = v330.1 then ((if v330.1 = 0 then ((aL v331.2 o (0 : Int32)).bind fun v338 => if (lg_cmp v338 v331.1.toInt64) = 0 then (some false) else (some true)) else (some false) : Option Bool).bind fun b337 => if b337 = true then (some (.inr ((0 : Int32), v331.2))) else (some (.inl ((s1.1 + (6 : Int32)), v331.2)))) else (some (.inr ((0 : Int32), v331.2)))) else if (v2 &&& (63 : Int32)) = (24 : Int32) then ((scA L xs (s1.1 + (1 : Int32))).bind fun v340 => (scA L xs (s1.1 + (2 : Int32))).bind fun v341 => (F_L_letter x v340 v341 o s1.2).bind fun v342 => (scA L xs (s1.1 + (1 : Int32))).bind fun v343 => (scA L xs (s1.1 + (2 : Int32))).bind fun v344 => (ck (qS v342.2 m = 19)).bind fun h346 => (F_Mo_letter m v343 v344 v342.2).bind fun v345 => (ck (qS v345.2 m = 19)).bind fun h348 => (F_Mo_thrown m v345.2).bind fun v347 => if v347 = v342.1 then ((if v342.1 = 0 then ((aL v345.2 o (0 : Int32)).bind fun v352 => if (lg_cmp v352 v345.1.toInt64) = 0 then (some false) else (some true)) else (some false) : Option Bool).bind fun b351 => if b351 = true then (some (.inr ((0 : Int32), v345.2))) else (some (.inl ((s1.1 + (6 : Int32)), v345.2)))) else (some (.inr ((0 : Int32), v345.2)))) else if (v2 &&& (63 : Int32)) = (25 : Int32) then ((ck (qS s1.2 x = 18)).bind fun h355 => (F_RR_forget x s1.2).bind fun v354 => (ck (qS v354.2 m = 19)).bind fun h357 => (F_Mo_forget m v354.2).bind fun v356 => if v354.1 = v356.1 then (some (.inl ((s1.1 + (6 : Int32)), v356.2))) else (some (.inr ((0 : Int32), v356.2)))) else if (v2 &&& (63 : Int32)) = (26 : Int32) then ((scA L xs (s1.1 + (1 : Int32))).bind fun v359 => (if v359 = 0 then (some (0 : Int32)) else (some (1 : Int32)) : Option (Int32)).bind fun s361 => (ck (qS s1.2 x = 18)).bind fun h363 => (F_RR_questions x s361 s1.2).bind fun v362 => (scA L xs (s1.1 + (1 : Int32))).bind fun v364 => (if v364 = 0 then (some (0 : Int32)) else (some (1 : Int32)) : Option (Int32)).bind fun s366 => (ck (qS v362.2 m = 19)).bind fun h368 => (F_Mo_questions m s366 v362.2).bind fun v367 => if v362.1 = v367.1 then (some (.inl ((s1.1 + (6 : Int32)), v367.2))) else (some (.inr ((0 : Int32), v367.2)))) else if (v2 &&& (63 : Int32)) = (27 : Int32) then ((scA L xs (s1.1 + (1 : Int32))).bind fun v370 => (F_L_lie x v370 o s1.2).bind fun v371 => (scA L xs (s1.1 + (1 : Int32))).bind fun v372 => (ck (qS v371.2 m = 19)).bind fun h374 => (F_Mo_lie m v372 v371.2).bind fun v373 => (ck (qS v373.2 m = 19)).bind fun h376 => (F_Mo_thrown m v373.2).bind fun v375 => if v375 = v371.1 then ((if v371.1 = 0 then ((aL v373.2 o (0 : Int32)).bind fun v380 => if (lg_cmp v380 v373.1.toInt64) = 0 then (some false) else (some true)) else (some false) : Option Bool).bind fun b379 => if b379 = true then (some (.inr ((0 : Int32), v373.2))) else (some (.inl ((s1.1 + (6 : Int32)), v373.2)))) else (some (.inr ((0 : Int32), v373.2)))) else if (v2 &&& (63 : Int32)) = (28 : Int32) then ((scA L xs (s1.1 + (1 : Int32))).bind fun v382 => (F_L_monday x v382 o s1.2).bind fun v383 => (scA L xs (s1.1 + (1 : Int32))).bind fun v384 => (ck (qS v383.2 m = 19)).bind fun h386 => (F_Mo_monday m v384 v383.2).bind fun v385 => (ck (qS v385.2 m = 19)).bind fun h388 => (F_Mo_thrown m v385.2).bind fun v387 => if v387 = v383.1 then ((if v383.1 = 0 then ((aL v385.2 o (0 : Int32)).bind fun v392 => if (lg_cmp v392 v385.1.toInt64) = 0 then (some false) else (some true)) else (some false) : Option Bool).bind fun b391 => if b391 = true then (some (.inr ((0 : Int32), v385.2))) else (some (.inl ((s1.1 + (6 : Int32)), v385.2)))) else (some (.inr ((0 : Int32), v385.2)))) else if (v2 &&& (63 : Int32)) = (29 : Int32) then ((scA L xs (s1.1 + (1 : Int32))).bind fun v394 => (F_L_live x v394 o s1.2).bind fun v395 => (scA L xs (s1.1 + (1 : Int32))).bind fun v396 => (ck (qS v395.2 m = 19)).bind fun h398 => (F_Mo_live m v396 v395.2).bind fun v397 => (ck (qS v397.2 m = 19)).bind fun h400 => (F_Mo_thrown m v397.2).bind fun v399 => if v399 = v395.1 then ((if v395.1 = 0 then ((aL v397.2 o (0 : Int32)).bind fun v404 => if (lg_cmp v404 v397.1.toInt64) = 0 then (some false) else (some true)) else (some false) : Option Bool).bind fun b403 => if b403 = true then (some (.inr ((0 : Int32), v397.2))) else (some (.inl ((s1.1 + (6 : Int32)), v397.2)))) else (some (.inr ((0 : Int32), v397.2)))) else if (v2 &&& (63 : Int32)) = (30 : Int32) then ((ck (qS s1.2 x = 18)).bind fun h407 => (F_RR_undo x s1.2).bind fun v406 => (ck (qS v406.2 m = 19)).bind fun h409 => (F_Mo_undo m v406.2).bind fun v408 => if v406.1 = v408.1 then (some (.inl ((s1.1 + (6 : Int32)), v408.2))) else (some (.inr ((0 : Int32), v408.2)))) else if (v2 &&& (63 : Int32)) = (31 : Int32) then ((ck (qS s1.2 x = 18)).bind fun h412 => (F_RR_image x s1.2).bind fun v411 => (ck (qS v411 m = 19)).bind fun h414 => (F_Mo_image m v411).bind fun v413 => some (.inl ((s1.1 + (6 : Int32)), v413))) else if (v2 &&& (63 : Int32)) = (32 : Int32) then ((ck (qS s1.2 x = 18)).bind fun h416 => (F_RR_back x s1.2).bind fun v415 => (ck (qS v415.2 m = 19)).bind fun h418 => (F_Mo_back m v415.2).bind fun v417 => if v415.1 = v417.1 then (some (.inl ((s1.1 + (6 : Int32)), v417.2))) else (some (.inr ((0 : Int32), v417.2)))) else if (v2 &&& (63 : Int32)) = (33 : Int32) then ((scA L xs (s1.1 + (1 : Int32))).bind fun v420 => (ck (qS s1.2 x = 18)).bind fun h422 => (F_RR_count x v420 s1.2).bind fun v421 => (scA L xs (s1.1 + (1 : Int32))).bind fun v423 => (ck (qS s1.2 m = 19)).bind fun h425 => (F_Mo_count m v423 s1.2).bind fun v424 => if v421 = v424.1 then (some (.inl ((s1.1 + (6 : Int32)), v424.2))) else (some (.inr ((0 : Int32), v424.2)))) else (some (.inl ((s1.1 + (6 : Int32)), s1.2))))
theorem gm_L_body {X : Cx} {x m o L : Nat} {xs : Nat → Int32} {r : Int32 × Mem} {C D : Nat} (hscr : SCR X L xs) (hC : C + 4 ≤ 601024) (hD : D + 1669 ≤ 7293034) {s1 : Int32 × Mem} {e1 : (Int32 × Mem) ⊕ (Int32 × Mem)} (hE : F_L_body x m o L xs s1 = some e1) (hc : ∀ s2 : Int32 × Mem, e1 = .inl s2 → G X m_L_main (endL X L xs (oIM r)) 23 [.ref 50, .ref x, .ref m, .ref o, .int s2.1, .retAddr 0, .retAddr 0] [] (C + 4) (D + 1669) s2.2) (xR : ∀ v : Int32 × Mem, e1 = .inr v → r = v) : G X m_L_main (endL X L xs (oIM r)) 23 [.ref 50, .ref x, .ref m, .ref o, .int s1.1, .retAddr 0, .retAddr 0] [] C D s1.2 := by
  unfold F_L_body at hE
  refine g_iload (x := s1.1) dL_law__23 rfl ?_
  refine g_aload_n (r := 50) dL_law__25 rfl ?_
  refine g_slen hscr dL_law__26 ?_
  refine g_bipush (v := (6 : Int32)) dL_law__27 (by decide) ?_
  refine g_isub dL_law__29 ?_
  refine g_icmp_gt 1950 dL_law__30 (by decide) (fun q1 => ?_) (fun q1 => ?_)
  · replace hE := ife_p q1 hE
    refine g_iconst (v := (1 : Int32)) dL_law__1950 (by decide) ?_
    rw [xR ((1 : Int32), s1.2) (Option.some.inj hE).symm]
    exact g_toL (g_zret dL_law__1951 rfl (Or.inr rfl) (lw2_t (by show _ ≤ 601024; omega) (by show _ ≤ 7293034; omega)))
  replace hE := ife_n q1 hE
  refine g_aload_n (r := 50) dL_law__33 rfl ?_
  refine g_iload (x := s1.1) dL_law__34 rfl ?_
  replace hE := bd_s hE
  obtain ⟨v2, hv2, hE⟩ := hE
  refine g_sld hscr dL_law__36 hv2 ?_
  refine g_bipush (v := (63 : Int32)) dL_law__37 (by decide) ?_
  refine g_iand dL_law__39 ?_
  by_cases q3 : (v2 &&& (63 : Int32)) = (0 : Int32)
  · replace hE := ife_p q3 hE
    refine g_tabIn 192 dL_law__40 (by rw [q3]; decide) (by rw [q3]; decide) (by rw [q3]; rfl) (by decide) ?_
    refine g_aload_n (r := x) dL_law__192 rfl ?_
    refine g_aload_n (r := 50) dL_law__193 rfl ?_
    refine g_iload (x := s1.1) dL_law__194 rfl ?_
    refine g_iconst (v := (1 : Int32)) dL_law__196 (by decide) ?_
    refine g_iadd dL_law__197 ?_
    replace hE := bd_s hE
    obtain ⟨v38, hv38, hE⟩ := hE
    refine g_sld hscr dL_law__198 hv38 ?_
    refine g_aload_n (r := 50) dL_law__199 rfl ?_
    refine g_iload (x := s1.1) dL_law__200 rfl ?_
    refine g_iconst (v := (2 : Int32)) dL_law__202 (by decide) ?_
    refine g_iadd dL_law__203 ?_
    replace hE := bd_s hE
    obtain ⟨v39, hv39, hE⟩ := hE
    refine g_sld hscr dL_law__204 hv39 ?_
    refine g_aload_n (r := 50) dL_law__205 rfl ?_
    refine g_iload (x := s1.1) dL_law__206 rfl ?_
    refine g_iconst (v := (3 : Int32)) dL_law__208 (by decide) ?_
    refine g_iadd dL_law__209 ?_
    replace hE := bd_s hE
    obtain ⟨v40, hv40, hE⟩ := hE
    refine g_sld hscr dL_law__210 hv40 ?_
    refine g_aload_n (r := 50) dL_law__211 rfl ?_
    refine g_iload (x := s1.1) dL_law__212 rfl ?_
    refine g_iconst (v := (4 : Int32)) dL_law__214 (by decide) ?_
    refine g_iadd dL_law__215 ?_
    replace hE := bd_s hE
    obtain ⟨v41, hv41, hE⟩ := hE
    refine g_sld hscr dL_law__216 hv41 ?_
    refine g_aload_n (r := 50) dL_law__217 rfl ?_
    refine g_iload (x := s1.1) dL_law__218 rfl ?_
    refine g_iconst (v := (5 : Int32)) dL_law__220 (by decide) ?_
    refine g_iadd dL_law__221 ?_
    replace hE := bd_s hE
    obtain ⟨v42, hv42, hE⟩ := hE
    refine g_sld hscr dL_law__222 hv42 ?_
    replace hE := bd_s hE
    obtain ⟨h44, hh44, hE⟩ := hE
    replace hh44 := ck_s hh44
    replace hE := bd_s hE
    obtain ⟨v43, hv43, hE⟩ := hE
    refine g_callV (as := [.int v38, .int v39, .int v40, .int v41, .int v42]) (rvs := [.int v43.1]) C D dL_law__223 yg_RR_feed vl_L_96 (ct_RR_feed hv43) (RC.obj hh44 (by decide) cl_8.1) rfl rfl (rmk_ok (Nat.le_of_ble_eq_true rfl) (Nat.le_of_ble_eq_true rfl) (by show C + 0 ≤ 601024; omega) (by show D + 0 ≤ 7293034; omega)) (Nat.le_of_ble_eq_true rfl) (by show C + 0 = C; omega) (by show D + 0 = D; omega) rfl ?_
    refine g_aload_n (r := m) dL_law__226 rfl ?_
    refine g_aload_n (r := 50) dL_law__227 rfl ?_
    refine g_iload (x := s1.1) dL_law__228 rfl ?_
    refine g_iconst (v := (1 : Int32)) dL_law__230 (by decide) ?_
    refine g_iadd dL_law__231 ?_
    replace hE := bd_s hE
    obtain ⟨v45, hv45, hE⟩ := hE
    refine g_sld hscr dL_law__232 hv45 ?_
    refine g_aload_n (r := 50) dL_law__233 rfl ?_
    refine g_iload (x := s1.1) dL_law__234 rfl ?_
    refine g_iconst (v := (2 : Int32)) dL_law__236 (by decide) ?_
    refine g_iadd dL_law__237 ?_
    replace hE := bd_s hE
    obtain ⟨v46, hv46, hE⟩ := hE
    refine g_sld hscr dL_law__238 hv46 ?_
    refine g_aload_n (r := 50) dL_law__239 rfl ?_
    refine g_iload (x := s1.1) dL_law__240 rfl ?_
    refine g_iconst (v := (3 : Int32)) dL_law__242 (by decide) ?_
    refine g_iadd dL_law__243 ?_
    replace hE := bd_s hE
    obtain ⟨v47, hv47, hE⟩ := hE
    refine g_sld hscr dL_law__244 hv47 ?_
    refine g_aload_n (r := 50) dL_law__245 rfl ?_
    refine g_iload (x := s1.1) dL_law__246 rfl ?_
    refine g_iconst (v := (4 : Int32)) dL_law__248 (by decide) ?_
    refine g_iadd dL_law__249 ?_
    replace hE := bd_s hE
    obtain ⟨v48, hv48, hE⟩ := hE
    refine g_sld hscr dL_law__250 hv48 ?_
    refine g_aload_n (r := 50) dL_law__251 rfl ?_
    refine g_iload (x := s1.1) dL_law__252 rfl ?_
    refine g_iconst (v := (5 : Int32)) dL_law__254 (by decide) ?_
    refine g_iadd dL_law__255 ?_
    replace hE := bd_s hE
    obtain ⟨v49, hv49, hE⟩ := hE
    refine g_sld hscr dL_law__256 hv49 ?_
    replace hE := bd_s hE
    obtain ⟨h51, hh51, hE⟩ := hE
    replace hh51 := ck_s hh51
    replace hE := bd_s hE
    obtain ⟨v50, hv50, hE⟩ := hE
    refine g_callV (as := [.int v45, .int v46, .int v47, .int v48, .int v49]) (rvs := [.int v50.1]) C D dL_law__257 yg_Mo_feed vl_L_100 (ct_Mo_feed hv50) (RC.obj hh51 (by decide) cl_9.1) rfl rfl (rmk_ok (Nat.le_of_ble_eq_true rfl) (Nat.le_of_ble_eq_true rfl) (by show C + 0 ≤ 601024; omega) (by show D + 0 ≤ 7293034; omega)) (Nat.le_of_ble_eq_true rfl) (by show C + 0 = C; omega) (by show D + 0 = D; omega) rfl ?_
    refine g_icmp_eq 1944 dL_law__260 (by decide) (fun q52 => ?_) (fun q52 => ?_)
    · replace hE := ife_p q52 hE
      refine g_iinc (s1.1 + (6 : Int32)) dL_law__1944 rfl (iinc_e (by decide)) rfl ?_
      refine g_goto 23 dL_law__1947 (by decide) ?_
      refine g_wd (cs' := (C + 4)) (ss' := (D + 1669)) (lw2_t (by omega) (by omega)) ?_
      exact hc ((s1.1 + (6 : Int32)), v50.2) (Option.some.inj hE).symm
    replace hE := ife_n q52 hE
    refine g_iconst (v := (0 : Int32)) dL_law__263 (by decide) ?_
    rw [xR ((0 : Int32), v50.2) (Option.some.inj hE).symm]
    exact g_toL (g_zret dL_law__264 rfl (Or.inl rfl) (lw2_t (by show _ ≤ 601024; omega) (by show _ ≤ 7293034; omega)))
  replace hE := ife_n q3 hE
  by_cases q4 : (v2 &&& (63 : Int32)) = (1 : Int32)
  · replace hE := ife_p q4 hE
    refine g_tabIn 265 dL_law__40 (by rw [q4]; decide) (by rw [q4]; decide) (by rw [q4]; rfl) (by decide) ?_
    refine g_aload_n (r := x) dL_law__265 rfl ?_
    refine g_aload_n (r := 50) dL_law__266 rfl ?_
    refine g_iload (x := s1.1) dL_law__267 rfl ?_
    refine g_iconst (v := (1 : Int32)) dL_law__269 (by decide) ?_
    refine g_iadd dL_law__270 ?_
    replace hE := bd_s hE
    obtain ⟨v53, hv53, hE⟩ := hE
    refine g_sld hscr dL_law__271 hv53 ?_
    replace hE := bd_s hE
    obtain ⟨h55, hh55, hE⟩ := hE
    replace hh55 := ck_s hh55
    replace hE := bd_s hE
    obtain ⟨v54, hv54, hE⟩ := hE
    refine g_callV (as := [.int v53]) (rvs := [.int v54.1]) C D dL_law__272 yg_RR_end vl_L_101 (ct_RR_end hv54) (RC.obj hh55 (by decide) cl_8.1) rfl rfl (rmk_ok (Nat.le_of_ble_eq_true rfl) (Nat.le_of_ble_eq_true rfl) (by show C + 0 ≤ 601024; omega) (by show D + 0 ≤ 7293034; omega)) (Nat.le_of_ble_eq_true rfl) (by show C + 0 = C; omega) (by show D + 0 = D; omega) rfl ?_
    refine g_aload_n (r := m) dL_law__275 rfl ?_
    refine g_aload_n (r := 50) dL_law__276 rfl ?_
    refine g_iload (x := s1.1) dL_law__277 rfl ?_
    refine g_iconst (v := (1 : Int32)) dL_law__279 (by decide) ?_
    refine g_iadd dL_law__280 ?_
    replace hE := bd_s hE
    obtain ⟨v56, hv56, hE⟩ := hE
    refine g_sld hscr dL_law__281 hv56 ?_
    replace hE := bd_s hE
    obtain ⟨h58, hh58, hE⟩ := hE
    replace hh58 := ck_s hh58
    replace hE := bd_s hE
    obtain ⟨v57, hv57, hE⟩ := hE
    refine g_callV (as := [.int v56]) (rvs := [.int v57.1]) C D dL_law__282 yg_Mo_end vl_L_104 (ct_Mo_end hv57) (RC.obj hh58 (by decide) cl_9.1) rfl rfl (rmk_ok (Nat.le_of_ble_eq_true rfl) (Nat.le_of_ble_eq_true rfl) (by show C + 0 ≤ 601024; omega) (by show D + 0 ≤ 7293034; omega)) (Nat.le_of_ble_eq_true rfl) (by show C + 0 = C; omega) (by show D + 0 = D; omega) rfl ?_
    refine g_icmp_eq 1944 dL_law__285 (by decide) (fun q59 => ?_) (fun q59 => ?_)
    · replace hE := ife_p q59 hE
      refine g_iinc (s1.1 + (6 : Int32)) dL_law__1944 rfl (iinc_e (by decide)) rfl ?_
      refine g_goto 23 dL_law__1947 (by decide) ?_
      refine g_wd (cs' := (C + 4)) (ss' := (D + 1669)) (lw2_t (by omega) (by omega)) ?_
      exact hc ((s1.1 + (6 : Int32)), v57.2) (Option.some.inj hE).symm
    replace hE := ife_n q59 hE
    refine g_iconst (v := (0 : Int32)) dL_law__288 (by decide) ?_
    rw [xR ((0 : Int32), v57.2) (Option.some.inj hE).symm]
    exact g_toL (g_zret dL_law__289 rfl (Or.inl rfl) (lw2_t (by show _ ≤ 601024; omega) (by show _ ≤ 7293034; omega)))
  replace hE := ife_n q4 hE
  by_cases q5 : (v2 &&& (63 : Int32)) = (2 : Int32)
  · replace hE := ife_p q5 hE
    refine g_tabIn 290 dL_law__40 (by rw [q5]; decide) (by rw [q5]; decide) (by rw [q5]; rfl) (by decide) ?_
    refine g_aload_n (r := x) dL_law__290 rfl ?_
    refine g_aload_n (r := o) dL_law__291 rfl ?_
    replace hE := bd_s hE
    obtain ⟨v60, hv60, hE⟩ := hE
    refine g_callSW (as := [.ref x, .ref o]) (rvs := [.int v60.1]) (C + 1) (D + 6) dL_law__292 yg_L_road sl_L_105 ml_L_105 (ct_L_road hv60) rfl rfl (rmk_ok (Nat.le_of_ble_eq_true rfl) (Nat.le_of_ble_eq_true rfl) (by show C + 1 ≤ 601024; omega) (by show D + 6 ≤ 7293034; omega)) (Nat.le_of_ble_eq_true rfl) (by show C + 1 = (C + 1); omega) (by show D + 6 = (D + 6); omega) rfl ?_
    refine g_istore dL_law__295 rfl ?_
    refine g_aload_n (r := m) dL_law__297 rfl ?_
    replace hE := bd_s hE
    obtain ⟨h62, hh62, hE⟩ := hE
    replace hh62 := ck_s hh62
    replace hE := bd_s hE
    obtain ⟨v61, hv61, hE⟩ := hE
    refine g_callV (as := []) (rvs := [.int v61.1]) (C + 1) (D + 6) dL_law__298 yg_Mo_road vl_L_110 (ct_Mo_road hv61) (RC.obj hh62 (by decide) cl_9.1) rfl rfl (rmk_ok (Nat.le_of_ble_eq_true rfl) (Nat.le_of_ble_eq_true rfl) (by show (C + 1) + 0 ≤ 601024; omega) (by show (D + 6) + 0 ≤ 7293034; omega)) (Nat.le_of_ble_eq_true rfl) (by show (C + 1) + 0 = (C + 1); omega) (by show (D + 6) + 0 = (D + 6); omega) rfl ?_
    refine g_istore dL_law__301 rfl ?_
    refine g_aload_n (r := m) dL_law__303 rfl ?_
    replace hE := bd_s hE
    obtain ⟨h64, hh64, hE⟩ := hE
    replace hh64 := ck_s hh64
    replace hE := bd_s hE
    obtain ⟨v63, hv63, hE⟩ := hE
    refine g_callV (as := []) (rvs := [.int v63]) (C + 1) (D + 6) dL_law__304 yg_Mo_thrown vl_L_111 (ct_Mo_thrown hv63) (RC.obj hh64 (by decide) cl_9.1) rfl rfl (rmk_ok (Nat.le_of_ble_eq_true rfl) (Nat.le_of_ble_eq_true rfl) (by show (C + 1) + 0 ≤ 601024; omega) (by show (D + 6) + 0 ≤ 7293034; omega)) (Nat.le_of_ble_eq_true rfl) (by show (C + 1) + 0 = (C + 1); omega) (by show (D + 6) + 0 = (D + 6); omega) rfl ?_
    refine g_iload (x := v60.1) dL_law__307 rfl ?_
    refine g_icmp_eq 314 dL_law__309 (by decide) (fun q65 => ?_) (fun q65 => ?_)
    · replace hE := ife_p q65 hE
      refine g_iload (x := v60.1) dL_law__314 rfl ?_
      replace hE := bd_s hE
      obtain ⟨b67, hE, hb1⟩ := hE
      have x1t : b67 = true → G X m_L_main (endL X L xs (oIM r)) 329 [.ref 50, .ref x, .ref m, .ref o, .int s1.1, .int v60.1, .int v61.1] [] (C + 1) (D + 6) v61.2 := by
        intro q
        replace hE := ifb_t q hb1
        refine g_iconst (v := (0 : Int32)) dL_law__329 (by decide) ?_
        rw [xR ((0 : Int32), v61.2) (Option.some.inj hE).symm]
        exact g_toL (g_zret dL_law__330 rfl (Or.inl rfl) (lw2_t (by show _ ≤ 601024; omega) (by show _ ≤ 7293034; omega)))
      have x1f : b67 = false → G X m_L_main (endL X L xs (oIM r)) 331 [.ref 50, .ref x, .ref m, .ref o, .int s1.1, .int v60.1, .int v61.1] [] (C + 1) (D + 6) v61.2 := by
        intro q
        replace hE := ifb_f q hb1
        refine g_goto 1944 dL_law__331 (by decide) ?_
        refine g_iinc (s1.1 + (6 : Int32)) dL_law__1944 rfl (iinc_e (by decide)) rfl ?_
        refine g_goto 23 dL_law__1947 (by decide) ?_
        refine g_wd (cs' := (C + 4)) (ss' := (D + 1669)) (lw2_t (by omega) (by omega)) ?_
        refine g_msk [true, true, true, true, true, false, false] ?_
        exact hc ((s1.1 + (6 : Int32)), v61.2) (Option.some.inj hE).symm
      clear hb1
      refine g_if_ne 331 dL_law__316 (by decide) (fun q66 => ?_) (fun q66 => ?_)
      · replace hE := ife_n q66 hE
        exact x1f (Option.some.inj hE).symm
      replace hE := ife_p q66 hE
      refine g_aload_n (r := o) dL_law__319 rfl ?_
      refine g_iconst (v := (0 : Int32)) dL_law__320 (by decide) ?_
      replace hE := bd_s hE
      obtain ⟨v68, hv68, hE⟩ := hE
      refine g_aL dL_law__321 hv68 ?_
      refine g_iload (x := v61.1) dL_law__322 rfl ?_
      refine g_i2l dL_law__324 ?_
      refine g_lcmp dL_law__325 ?_
      refine g_if_eq 331 dL_law__326 (by decide) (fun q69 => ?_) (fun q69 => ?_)
      · replace hE := ife_p q69 hE
        exact x1f (Option.some.inj hE).symm
      replace hE := ife_n q69 hE
      exact x1t (Option.some.inj hE).symm
    replace hE := ife_n q65 hE
    refine g_iconst (v := (0 : Int32)) dL_law__312 (by decide) ?_
    rw [xR ((0 : Int32), v61.2) (Option.some.inj hE).symm]
    exact g_toL (g_zret dL_law__313 rfl (Or.inl rfl) (lw2_t (by show _ ≤ 601024; omega) (by show _ ≤ 7293034; omega)))
  replace hE := ife_n q5 hE
  by_cases q6 : (v2 &&& (63 : Int32)) = (3 : Int32)
  · replace hE := ife_p q6 hE
    refine g_tabIn 334 dL_law__40 (by rw [q6]; decide) (by rw [q6]; decide) (by rw [q6]; rfl) (by decide) ?_
    refine g_aload_n (r := x) dL_law__334 rfl ?_
    refine g_aload_n (r := o) dL_law__335 rfl ?_
    replace hE := bd_s hE
    obtain ⟨v70, hv70, hE⟩ := hE
    refine g_callSW (as := [.ref x, .ref o]) (rvs := [.int v70.1]) (C + 4) (D + 1669) dL_law__336 yg_L_law sl_L_114 ml_L_114 (ct_L_law hv70) rfl rfl (rmk_ok (Nat.le_of_ble_eq_true rfl) (Nat.le_of_ble_eq_true rfl) (by show C + 4 ≤ 601024; omega) (by show D + 1669 ≤ 7293034; omega)) (Nat.le_of_ble_eq_true rfl) (by show C + 4 = (C + 4); omega) (by show D + 1669 = (D + 1669); omega) rfl ?_
    refine g_istore dL_law__339 rfl ?_
    refine g_aload_n (r := m) dL_law__341 rfl ?_
    replace hE := bd_s hE
    obtain ⟨h72, hh72, hE⟩ := hE
    replace hh72 := ck_s hh72
    replace hE := bd_s hE
    obtain ⟨v71, hv71, hE⟩ := hE
    refine g_callV (as := []) (rvs := [.int v71.1]) (C + 4) (D + 1669) dL_law__342 yg_Mo_law vl_L_116 (ct_Mo_law hv71) (RC.obj hh72 (by decide) cl_9.1) rfl rfl (rmk_ok (Nat.le_of_ble_eq_true rfl) (Nat.le_of_ble_eq_true rfl) (by show (C + 4) + 0 ≤ 601024; omega) (by show (D + 1669) + 0 ≤ 7293034; omega)) (Nat.le_of_ble_eq_true rfl) (by show (C + 4) + 0 = (C + 4); omega) (by show (D + 1669) + 0 = (D + 1669); omega) rfl ?_
    refine g_istore dL_law__345 rfl ?_
    refine g_aload_n (r := m) dL_law__347 rfl ?_
    replace hE := bd_s hE
    obtain ⟨h74, hh74, hE⟩ := hE
    replace hh74 := ck_s hh74
    replace hE := bd_s hE
    obtain ⟨v73, hv73, hE⟩ := hE
    refine g_callV (as := []) (rvs := [.int v73]) (C + 4) (D + 1669) dL_law__348 yg_Mo_thrown vl_L_111 (ct_Mo_thrown hv73) (RC.obj hh74 (by decide) cl_9.1) rfl rfl (rmk_ok (Nat.le_of_ble_eq_true rfl) (Nat.le_of_ble_eq_true rfl) (by show (C + 4) + 0 ≤ 601024; omega) (by show (D + 1669) + 0 ≤ 7293034; omega)) (Nat.le_of_ble_eq_true rfl) (by show (C + 4) + 0 = (C + 4); omega) (by show (D + 1669) + 0 = (D + 1669); omega) rfl ?_
    refine g_iload (x := v70.1) dL_law__351 rfl ?_
    refine g_icmp_eq 358 dL_law__353 (by decide) (fun q75 => ?_) (fun q75 => ?_)
    · replace hE := ife_p q75 hE
      refine g_iload (x := v70.1) dL_law__358 rfl ?_
      replace hE := bd_s hE
      obtain ⟨b77, hE, hb2⟩ := hE
      have x2t : b77 = true → G X m_L_main (endL X L xs (oIM r)) 373 [.ref 50, .ref x, .ref m, .ref o, .int s1.1, .int v70.1, .int v71.1] [] (C + 4) (D + 1669) v71.2 := by
        intro q
        replace hE := ifb_t q hb2
        refine g_iconst (v := (0 : Int32)) dL_law__373 (by decide) ?_
        rw [xR ((0 : Int32), v71.2) (Option.some.inj hE).symm]
        exact g_toL (g_zret dL_law__374 rfl (Or.inl rfl) (lw2_t (by show _ ≤ 601024; omega) (by show _ ≤ 7293034; omega)))
      have x2f : b77 = false → G X m_L_main (endL X L xs (oIM r)) 375 [.ref 50, .ref x, .ref m, .ref o, .int s1.1, .int v70.1, .int v71.1] [] (C + 4) (D + 1669) v71.2 := by
        intro q
        replace hE := ifb_f q hb2
        refine g_goto 1944 dL_law__375 (by decide) ?_
        refine g_iinc (s1.1 + (6 : Int32)) dL_law__1944 rfl (iinc_e (by decide)) rfl ?_
        refine g_goto 23 dL_law__1947 (by decide) ?_
        refine g_msk [true, true, true, true, true, false, false] ?_
        exact hc ((s1.1 + (6 : Int32)), v71.2) (Option.some.inj hE).symm
      clear hb2
      refine g_if_ne 375 dL_law__360 (by decide) (fun q76 => ?_) (fun q76 => ?_)
      · replace hE := ife_n q76 hE
        exact x2f (Option.some.inj hE).symm
      replace hE := ife_p q76 hE
      refine g_aload_n (r := o) dL_law__363 rfl ?_
      refine g_iconst (v := (0 : Int32)) dL_law__364 (by decide) ?_
      replace hE := bd_s hE
      obtain ⟨v78, hv78, hE⟩ := hE
      refine g_aL dL_law__365 hv78 ?_
      refine g_iload (x := v71.1) dL_law__366 rfl ?_
      refine g_i2l dL_law__368 ?_
      refine g_lcmp dL_law__369 ?_
      refine g_if_eq 375 dL_law__370 (by decide) (fun q79 => ?_) (fun q79 => ?_)
      · replace hE := ife_p q79 hE
        exact x2f (Option.some.inj hE).symm
      replace hE := ife_n q79 hE
      exact x2t (Option.some.inj hE).symm
    replace hE := ife_n q75 hE
    refine g_iconst (v := (0 : Int32)) dL_law__356 (by decide) ?_
    rw [xR ((0 : Int32), v71.2) (Option.some.inj hE).symm]
    exact g_toL (g_zret dL_law__357 rfl (Or.inl rfl) (lw2_t (by show _ ≤ 601024; omega) (by show _ ≤ 7293034; omega)))
  replace hE := ife_n q6 hE
  by_cases q7 : (v2 &&& (63 : Int32)) = (4 : Int32)
  · replace hE := ife_p q7 hE
    refine g_tabIn 378 dL_law__40 (by rw [q7]; decide) (by rw [q7]; decide) (by rw [q7]; rfl) (by decide) ?_
    refine g_aload_n (r := x) dL_law__378 rfl ?_
    replace hE := bd_s hE
    obtain ⟨h81, hh81, hE⟩ := hE
    replace hh81 := ck_s hh81
    replace hE := bd_s hE
    obtain ⟨v80, hv80, hE⟩ := hE
    refine g_callV (as := []) (rvs := [.int v80]) C D dL_law__379 yg_RR_fault vl_L_117 (ct_RR_fault hv80) (RC.obj hh81 (by decide) cl_8.1) rfl rfl (rmk_ok (Nat.le_of_ble_eq_true rfl) (Nat.le_of_ble_eq_true rfl) (by show C + 0 ≤ 601024; omega) (by show D + 0 ≤ 7293034; omega)) (Nat.le_of_ble_eq_true rfl) (by show C + 0 = C; omega) (by show D + 0 = D; omega) rfl ?_
    refine g_aload_n (r := m) dL_law__382 rfl ?_
    replace hE := bd_s hE
    obtain ⟨h83, hh83, hE⟩ := hE
    replace hh83 := ck_s hh83
    replace hE := bd_s hE
    obtain ⟨v82, hv82, hE⟩ := hE
    refine g_callV (as := []) (rvs := [.int v82.1]) C D dL_law__383 yg_Mo_fault vl_L_120 (ct_Mo_fault hv82) (RC.obj hh83 (by decide) cl_9.1) rfl rfl (rmk_ok (Nat.le_of_ble_eq_true rfl) (Nat.le_of_ble_eq_true rfl) (by show C + 0 ≤ 601024; omega) (by show D + 0 ≤ 7293034; omega)) (Nat.le_of_ble_eq_true rfl) (by show C + 0 = C; omega) (by show D + 0 = D; omega) rfl ?_
    refine g_icmp_eq 1944 dL_law__386 (by decide) (fun q84 => ?_) (fun q84 => ?_)
    · replace hE := ife_p q84 hE
      refine g_iinc (s1.1 + (6 : Int32)) dL_law__1944 rfl (iinc_e (by decide)) rfl ?_
      refine g_goto 23 dL_law__1947 (by decide) ?_
      refine g_wd (cs' := (C + 4)) (ss' := (D + 1669)) (lw2_t (by omega) (by omega)) ?_
      exact hc ((s1.1 + (6 : Int32)), v82.2) (Option.some.inj hE).symm
    replace hE := ife_n q84 hE
    refine g_iconst (v := (0 : Int32)) dL_law__389 (by decide) ?_
    rw [xR ((0 : Int32), v82.2) (Option.some.inj hE).symm]
    exact g_toL (g_zret dL_law__390 rfl (Or.inl rfl) (lw2_t (by show _ ≤ 601024; omega) (by show _ ≤ 7293034; omega)))
  replace hE := ife_n q7 hE
  by_cases q8 : (v2 &&& (63 : Int32)) = (5 : Int32)
  · replace hE := ife_p q8 hE
    refine g_tabIn 391 dL_law__40 (by rw [q8]; decide) (by rw [q8]; decide) (by rw [q8]; rfl) (by decide) ?_
    refine g_aload_n (r := x) dL_law__391 rfl ?_
    refine g_aload_n (r := 50) dL_law__392 rfl ?_
    refine g_iload (x := s1.1) dL_law__393 rfl ?_
    refine g_iconst (v := (1 : Int32)) dL_law__395 (by decide) ?_
    refine g_iadd dL_law__396 ?_
    replace hE := bd_s hE
    obtain ⟨v85, hv85, hE⟩ := hE
    refine g_sld hscr dL_law__397 hv85 ?_
    refine g_aload_n (r := 50) dL_law__398 rfl ?_
    refine g_iload (x := s1.1) dL_law__399 rfl ?_
    refine g_iconst (v := (2 : Int32)) dL_law__401 (by decide) ?_
    refine g_iadd dL_law__402 ?_
    replace hE := bd_s hE
    obtain ⟨v86, hv86, hE⟩ := hE
    refine g_sld hscr dL_law__403 hv86 ?_
    refine g_aload_n (r := o) dL_law__404 rfl ?_
    replace hE := bd_s hE
    obtain ⟨v87, hv87, hE⟩ := hE
    refine g_callSW (as := [.ref x, .int v85, .int v86, .ref o]) (rvs := [.int v87.1]) (C + 2) (D + 12) dL_law__405 yg_L_gate sl_L_121 ml_L_121 (ct_L_gate hv87) rfl rfl (rmk_ok (Nat.le_of_ble_eq_true rfl) (Nat.le_of_ble_eq_true rfl) (by show C + 2 ≤ 601024; omega) (by show D + 12 ≤ 7293034; omega)) (Nat.le_of_ble_eq_true rfl) (by show C + 2 = (C + 2); omega) (by show D + 12 = (D + 12); omega) rfl ?_
    refine g_istore dL_law__408 rfl ?_
    refine g_aload_n (r := m) dL_law__410 rfl ?_
    refine g_aload_n (r := 50) dL_law__411 rfl ?_
    refine g_iload (x := s1.1) dL_law__412 rfl ?_
    refine g_iconst (v := (1 : Int32)) dL_law__414 (by decide) ?_
    refine g_iadd dL_law__415 ?_
    replace hE := bd_s hE
    obtain ⟨v88, hv88, hE⟩ := hE
    refine g_sld hscr dL_law__416 hv88 ?_
    refine g_aload_n (r := 50) dL_law__417 rfl ?_
    refine g_iload (x := s1.1) dL_law__418 rfl ?_
    refine g_iconst (v := (2 : Int32)) dL_law__420 (by decide) ?_
    refine g_iadd dL_law__421 ?_
    replace hE := bd_s hE
    obtain ⟨v89, hv89, hE⟩ := hE
    refine g_sld hscr dL_law__422 hv89 ?_
    replace hE := bd_s hE
    obtain ⟨h91, hh91, hE⟩ := hE
    replace hh91 := ck_s hh91
    replace hE := bd_s hE
    obtain ⟨v90, hv90, hE⟩ := hE
    refine g_callV (as := [.int v88, .int v89]) (rvs := [.int v90.1]) (C + 2) (D + 12) dL_law__423 yg_Mo_gate vl_L_124 (ct_Mo_gate hv90) (RC.obj hh91 (by decide) cl_9.1) rfl rfl (rmk_ok (Nat.le_of_ble_eq_true rfl) (Nat.le_of_ble_eq_true rfl) (by show (C + 2) + 0 ≤ 601024; omega) (by show (D + 12) + 0 ≤ 7293034; omega)) (Nat.le_of_ble_eq_true rfl) (by show (C + 2) + 0 = (C + 2); omega) (by show (D + 12) + 0 = (D + 12); omega) rfl ?_
    refine g_istore dL_law__426 rfl ?_
    refine g_aload_n (r := m) dL_law__428 rfl ?_
    replace hE := bd_s hE
    obtain ⟨h93, hh93, hE⟩ := hE
    replace hh93 := ck_s hh93
    replace hE := bd_s hE
    obtain ⟨v92, hv92, hE⟩ := hE
    refine g_callV (as := []) (rvs := [.int v92]) (C + 2) (D + 12) dL_law__429 yg_Mo_thrown vl_L_111 (ct_Mo_thrown hv92) (RC.obj hh93 (by decide) cl_9.1) rfl rfl (rmk_ok (Nat.le_of_ble_eq_true rfl) (Nat.le_of_ble_eq_true rfl) (by show (C + 2) + 0 ≤ 601024; omega) (by show (D + 12) + 0 ≤ 7293034; omega)) (Nat.le_of_ble_eq_true rfl) (by show (C + 2) + 0 = (C + 2); omega) (by show (D + 12) + 0 = (D + 12); omega) rfl ?_
    refine g_iload (x := v87.1) dL_law__432 rfl ?_
    refine g_icmp_eq 439 dL_law__434 (by decide) (fun q94 => ?_) (fun q94 => ?_)
    · replace hE := ife_p q94 hE
      refine g_iload (x := v87.1) dL_law__439 rfl ?_
      replace hE := bd_s hE
      obtain ⟨b96, hE, hb3⟩ := hE
      have x3t : b96 = true → G X m_L_main (endL X L xs (oIM r)) 454 [.ref 50, .ref x, .ref m, .ref o, .int s1.1, .int v87.1, .int v90.1] [] (C + 2) (D + 12) v90.2 := by
        intro q
        replace hE := ifb_t q hb3
        refine g_iconst (v := (0 : Int32)) dL_law__454 (by decide) ?_
        rw [xR ((0 : Int32), v90.2) (Option.some.inj hE).symm]
        exact g_toL (g_zret dL_law__455 rfl (Or.inl rfl) (lw2_t (by show _ ≤ 601024; omega) (by show _ ≤ 7293034; omega)))
      have x3f : b96 = false → G X m_L_main (endL X L xs (oIM r)) 456 [.ref 50, .ref x, .ref m, .ref o, .int s1.1, .int v87.1, .int v90.1] [] (C + 2) (D + 12) v90.2 := by
        intro q
        replace hE := ifb_f q hb3
        refine g_goto 1944 dL_law__456 (by decide) ?_
        refine g_iinc (s1.1 + (6 : Int32)) dL_law__1944 rfl (iinc_e (by decide)) rfl ?_
        refine g_goto 23 dL_law__1947 (by decide) ?_
        refine g_wd (cs' := (C + 4)) (ss' := (D + 1669)) (lw2_t (by omega) (by omega)) ?_
        refine g_msk [true, true, true, true, true, false, false] ?_
        exact hc ((s1.1 + (6 : Int32)), v90.2) (Option.some.inj hE).symm
      clear hb3
      refine g_if_ne 456 dL_law__441 (by decide) (fun q95 => ?_) (fun q95 => ?_)
      · replace hE := ife_n q95 hE
        exact x3f (Option.some.inj hE).symm
      replace hE := ife_p q95 hE
      refine g_aload_n (r := o) dL_law__444 rfl ?_
      refine g_iconst (v := (0 : Int32)) dL_law__445 (by decide) ?_
      replace hE := bd_s hE
      obtain ⟨v97, hv97, hE⟩ := hE
      refine g_aL dL_law__446 hv97 ?_
      refine g_iload (x := v90.1) dL_law__447 rfl ?_
      refine g_i2l dL_law__449 ?_
      refine g_lcmp dL_law__450 ?_
      refine g_if_eq 456 dL_law__451 (by decide) (fun q98 => ?_) (fun q98 => ?_)
      · replace hE := ife_p q98 hE
        exact x3f (Option.some.inj hE).symm
      replace hE := ife_n q98 hE
      exact x3t (Option.some.inj hE).symm
    replace hE := ife_n q94 hE
    refine g_iconst (v := (0 : Int32)) dL_law__437 (by decide) ?_
    rw [xR ((0 : Int32), v90.2) (Option.some.inj hE).symm]
    exact g_toL (g_zret dL_law__438 rfl (Or.inl rfl) (lw2_t (by show _ ≤ 601024; omega) (by show _ ≤ 7293034; omega)))
  replace hE := ife_n q8 hE
  by_cases q9 : (v2 &&& (63 : Int32)) = (6 : Int32)
  · replace hE := ife_p q9 hE
    refine g_tabIn 459 dL_law__40 (by rw [q9]; decide) (by rw [q9]; decide) (by rw [q9]; rfl) (by decide) ?_
    refine g_aload_n (r := x) dL_law__459 rfl ?_
    refine g_aload_n (r := 50) dL_law__460 rfl ?_
    refine g_iload (x := s1.1) dL_law__461 rfl ?_
    refine g_iconst (v := (1 : Int32)) dL_law__463 (by decide) ?_
    refine g_iadd dL_law__464 ?_
    replace hE := bd_s hE
    obtain ⟨v99, hv99, hE⟩ := hE
    refine g_sld hscr dL_law__465 hv99 ?_
    refine g_aload_n (r := 50) dL_law__466 rfl ?_
    refine g_iload (x := s1.1) dL_law__467 rfl ?_
    refine g_iconst (v := (2 : Int32)) dL_law__469 (by decide) ?_
    refine g_iadd dL_law__470 ?_
    replace hE := bd_s hE
    obtain ⟨v100, hv100, hE⟩ := hE
    refine g_sld hscr dL_law__471 hv100 ?_
    refine g_aload_n (r := o) dL_law__472 rfl ?_
    replace hE := bd_s hE
    obtain ⟨v101, hv101, hE⟩ := hE
    refine g_callSW (as := [.ref x, .int v99, .int v100, .ref o]) (rvs := [.int v101.1]) (C + 2) (D + 12) dL_law__473 yg_L_walker sl_L_125 ml_L_125 (ct_L_walker hv101) rfl rfl (rmk_ok (Nat.le_of_ble_eq_true rfl) (Nat.le_of_ble_eq_true rfl) (by show C + 2 ≤ 601024; omega) (by show D + 12 ≤ 7293034; omega)) (Nat.le_of_ble_eq_true rfl) (by show C + 2 = (C + 2); omega) (by show D + 12 = (D + 12); omega) rfl ?_
    refine g_istore dL_law__476 rfl ?_
    refine g_aload_n (r := m) dL_law__478 rfl ?_
    refine g_aload_n (r := 50) dL_law__479 rfl ?_
    refine g_iload (x := s1.1) dL_law__480 rfl ?_
    refine g_iconst (v := (1 : Int32)) dL_law__482 (by decide) ?_
    refine g_iadd dL_law__483 ?_
    replace hE := bd_s hE
    obtain ⟨v102, hv102, hE⟩ := hE
    refine g_sld hscr dL_law__484 hv102 ?_
    refine g_aload_n (r := 50) dL_law__485 rfl ?_
    refine g_iload (x := s1.1) dL_law__486 rfl ?_
    refine g_iconst (v := (2 : Int32)) dL_law__488 (by decide) ?_
    refine g_iadd dL_law__489 ?_
    replace hE := bd_s hE
    obtain ⟨v103, hv103, hE⟩ := hE
    refine g_sld hscr dL_law__490 hv103 ?_
    replace hE := bd_s hE
    obtain ⟨h105, hh105, hE⟩ := hE
    replace hh105 := ck_s hh105
    replace hE := bd_s hE
    obtain ⟨v104, hv104, hE⟩ := hE
    refine g_callV (as := [.int v102, .int v103]) (rvs := [.int v104.1]) (C + 2) (D + 12) dL_law__491 yg_Mo_walker vl_L_127 (ct_Mo_walker hv104) (RC.obj hh105 (by decide) cl_9.1) rfl rfl (rmk_ok (Nat.le_of_ble_eq_true rfl) (Nat.le_of_ble_eq_true rfl) (by show (C + 2) + 0 ≤ 601024; omega) (by show (D + 12) + 0 ≤ 7293034; omega)) (Nat.le_of_ble_eq_true rfl) (by show (C + 2) + 0 = (C + 2); omega) (by show (D + 12) + 0 = (D + 12); omega) rfl ?_
    refine g_istore dL_law__494 rfl ?_
    refine g_aload_n (r := m) dL_law__496 rfl ?_
    replace hE := bd_s hE
    obtain ⟨h107, hh107, hE⟩ := hE
    replace hh107 := ck_s hh107
    replace hE := bd_s hE
    obtain ⟨v106, hv106, hE⟩ := hE
    refine g_callV (as := []) (rvs := [.int v106]) (C + 2) (D + 12) dL_law__497 yg_Mo_thrown vl_L_111 (ct_Mo_thrown hv106) (RC.obj hh107 (by decide) cl_9.1) rfl rfl (rmk_ok (Nat.le_of_ble_eq_true rfl) (Nat.le_of_ble_eq_true rfl) (by show (C + 2) + 0 ≤ 601024; omega) (by show (D + 12) + 0 ≤ 7293034; omega)) (Nat.le_of_ble_eq_true rfl) (by show (C + 2) + 0 = (C + 2); omega) (by show (D + 12) + 0 = (D + 12); omega) rfl ?_
    refine g_iload (x := v101.1) dL_law__500 rfl ?_
    refine g_icmp_eq 507 dL_law__502 (by decide) (fun q108 => ?_) (fun q108 => ?_)
    · replace hE := ife_p q108 hE
      refine g_iload (x := v101.1) dL_law__507 rfl ?_
      replace hE := bd_s hE
      obtain ⟨b110, hE, hb4⟩ := hE
      have x4t : b110 = true → G X m_L_main (endL X L xs (oIM r)) 522 [.ref 50, .ref x, .ref m, .ref o, .int s1.1, .int v101.1, .int v104.1] [] (C + 2) (D + 12) v104.2 := by
        intro q
        replace hE := ifb_t q hb4
        refine g_iconst (v := (0 : Int32)) dL_law__522 (by decide) ?_
        rw [xR ((0 : Int32), v104.2) (Option.some.inj hE).symm]
        exact g_toL (g_zret dL_law__523 rfl (Or.inl rfl) (lw2_t (by show _ ≤ 601024; omega) (by show _ ≤ 7293034; omega)))
      have x4f : b110 = false → G X m_L_main (endL X L xs (oIM r)) 524 [.ref 50, .ref x, .ref m, .ref o, .int s1.1, .int v101.1, .int v104.1] [] (C + 2) (D + 12) v104.2 := by
        intro q
        replace hE := ifb_f q hb4
        refine g_goto 1944 dL_law__524 (by decide) ?_
        refine g_iinc (s1.1 + (6 : Int32)) dL_law__1944 rfl (iinc_e (by decide)) rfl ?_
        refine g_goto 23 dL_law__1947 (by decide) ?_
        refine g_wd (cs' := (C + 4)) (ss' := (D + 1669)) (lw2_t (by omega) (by omega)) ?_
        refine g_msk [true, true, true, true, true, false, false] ?_
        exact hc ((s1.1 + (6 : Int32)), v104.2) (Option.some.inj hE).symm
      clear hb4
      refine g_if_ne 524 dL_law__509 (by decide) (fun q109 => ?_) (fun q109 => ?_)
      · replace hE := ife_n q109 hE
        exact x4f (Option.some.inj hE).symm
      replace hE := ife_p q109 hE
      refine g_aload_n (r := o) dL_law__512 rfl ?_
      refine g_iconst (v := (0 : Int32)) dL_law__513 (by decide) ?_
      replace hE := bd_s hE
      obtain ⟨v111, hv111, hE⟩ := hE
      refine g_aL dL_law__514 hv111 ?_
      refine g_iload (x := v104.1) dL_law__515 rfl ?_
      refine g_i2l dL_law__517 ?_
      refine g_lcmp dL_law__518 ?_
      refine g_if_eq 524 dL_law__519 (by decide) (fun q112 => ?_) (fun q112 => ?_)
      · replace hE := ife_p q112 hE
        exact x4f (Option.some.inj hE).symm
      replace hE := ife_n q112 hE
      exact x4t (Option.some.inj hE).symm
    replace hE := ife_n q108 hE
    refine g_iconst (v := (0 : Int32)) dL_law__505 (by decide) ?_
    rw [xR ((0 : Int32), v104.2) (Option.some.inj hE).symm]
    exact g_toL (g_zret dL_law__506 rfl (Or.inl rfl) (lw2_t (by show _ ≤ 601024; omega) (by show _ ≤ 7293034; omega)))
  replace hE := ife_n q9 hE
  by_cases q10 : (v2 &&& (63 : Int32)) = (7 : Int32)
  · replace hE := ife_p q10 hE
    refine g_tabIn 527 dL_law__40 (by rw [q10]; decide) (by rw [q10]; decide) (by rw [q10]; rfl) (by decide) ?_
    refine g_aload_n (r := x) dL_law__527 rfl ?_
    refine g_aload_n (r := 50) dL_law__528 rfl ?_
    refine g_iload (x := s1.1) dL_law__529 rfl ?_
    refine g_iconst (v := (1 : Int32)) dL_law__531 (by decide) ?_
    refine g_iadd dL_law__532 ?_
    replace hE := bd_s hE
    obtain ⟨v113, hv113, hE⟩ := hE
    refine g_sld hscr dL_law__533 hv113 ?_
    refine g_aload_n (r := 50) dL_law__534 rfl ?_
    refine g_iload (x := s1.1) dL_law__535 rfl ?_
    refine g_iconst (v := (2 : Int32)) dL_law__537 (by decide) ?_
    refine g_iadd dL_law__538 ?_
    replace hE := bd_s hE
    obtain ⟨v114, hv114, hE⟩ := hE
    refine g_sld hscr dL_law__539 hv114 ?_
    refine g_aload_n (r := o) dL_law__540 rfl ?_
    replace hE := bd_s hE
    obtain ⟨v115, hv115, hE⟩ := hE
    refine g_callSW (as := [.ref x, .int v113, .int v114, .ref o]) (rvs := [.int v115.1]) (C + 2) (D + 12) dL_law__541 yg_L_since sl_L_128 ml_L_128 (ct_L_since hv115) rfl rfl (rmk_ok (Nat.le_of_ble_eq_true rfl) (Nat.le_of_ble_eq_true rfl) (by show C + 2 ≤ 601024; omega) (by show D + 12 ≤ 7293034; omega)) (Nat.le_of_ble_eq_true rfl) (by show C + 2 = (C + 2); omega) (by show D + 12 = (D + 12); omega) rfl ?_
    refine g_istore dL_law__544 rfl ?_
    refine g_aload_n (r := m) dL_law__546 rfl ?_
    refine g_aload_n (r := 50) dL_law__547 rfl ?_
    refine g_iload (x := s1.1) dL_law__548 rfl ?_
    refine g_iconst (v := (1 : Int32)) dL_law__550 (by decide) ?_
    refine g_iadd dL_law__551 ?_
    replace hE := bd_s hE
    obtain ⟨v116, hv116, hE⟩ := hE
    refine g_sld hscr dL_law__552 hv116 ?_
    refine g_aload_n (r := 50) dL_law__553 rfl ?_
    refine g_iload (x := s1.1) dL_law__554 rfl ?_
    refine g_iconst (v := (2 : Int32)) dL_law__556 (by decide) ?_
    refine g_iadd dL_law__557 ?_
    replace hE := bd_s hE
    obtain ⟨v117, hv117, hE⟩ := hE
    refine g_sld hscr dL_law__558 hv117 ?_
    replace hE := bd_s hE
    obtain ⟨h119, hh119, hE⟩ := hE
    replace hh119 := ck_s hh119
    replace hE := bd_s hE
    obtain ⟨v118, hv118, hE⟩ := hE
    refine g_callV (as := [.int v116, .int v117]) (rvs := [.int v118.1]) (C + 2) (D + 12) dL_law__559 yg_Mo_since vl_L_130 (ct_Mo_since hv118) (RC.obj hh119 (by decide) cl_9.1) rfl rfl (rmk_ok (Nat.le_of_ble_eq_true rfl) (Nat.le_of_ble_eq_true rfl) (by show (C + 2) + 0 ≤ 601024; omega) (by show (D + 12) + 0 ≤ 7293034; omega)) (Nat.le_of_ble_eq_true rfl) (by show (C + 2) + 0 = (C + 2); omega) (by show (D + 12) + 0 = (D + 12); omega) rfl ?_
    refine g_istore dL_law__562 rfl ?_
    refine g_aload_n (r := m) dL_law__564 rfl ?_
    replace hE := bd_s hE
    obtain ⟨h121, hh121, hE⟩ := hE
    replace hh121 := ck_s hh121
    replace hE := bd_s hE
    obtain ⟨v120, hv120, hE⟩ := hE
    refine g_callV (as := []) (rvs := [.int v120]) (C + 2) (D + 12) dL_law__565 yg_Mo_thrown vl_L_111 (ct_Mo_thrown hv120) (RC.obj hh121 (by decide) cl_9.1) rfl rfl (rmk_ok (Nat.le_of_ble_eq_true rfl) (Nat.le_of_ble_eq_true rfl) (by show (C + 2) + 0 ≤ 601024; omega) (by show (D + 12) + 0 ≤ 7293034; omega)) (Nat.le_of_ble_eq_true rfl) (by show (C + 2) + 0 = (C + 2); omega) (by show (D + 12) + 0 = (D + 12); omega) rfl ?_
    refine g_iload (x := v115.1) dL_law__568 rfl ?_
    refine g_icmp_eq 575 dL_law__570 (by decide) (fun q122 => ?_) (fun q122 => ?_)
    · replace hE := ife_p q122 hE
      refine g_iload (x := v115.1) dL_law__575 rfl ?_
      replace hE := bd_s hE
      obtain ⟨b124, hE, hb5⟩ := hE
      have x5t : b124 = true → G X m_L_main (endL X L xs (oIM r)) 590 [.ref 50, .ref x, .ref m, .ref o, .int s1.1, .int v115.1, .int v118.1] [] (C + 2) (D + 12) v118.2 := by
        intro q
        replace hE := ifb_t q hb5
        refine g_iconst (v := (0 : Int32)) dL_law__590 (by decide) ?_
        rw [xR ((0 : Int32), v118.2) (Option.some.inj hE).symm]
        exact g_toL (g_zret dL_law__591 rfl (Or.inl rfl) (lw2_t (by show _ ≤ 601024; omega) (by show _ ≤ 7293034; omega)))
      have x5f : b124 = false → G X m_L_main (endL X L xs (oIM r)) 592 [.ref 50, .ref x, .ref m, .ref o, .int s1.1, .int v115.1, .int v118.1] [] (C + 2) (D + 12) v118.2 := by
        intro q
        replace hE := ifb_f q hb5
        refine g_goto 1944 dL_law__592 (by decide) ?_
        refine g_iinc (s1.1 + (6 : Int32)) dL_law__1944 rfl (iinc_e (by decide)) rfl ?_
        refine g_goto 23 dL_law__1947 (by decide) ?_
        refine g_wd (cs' := (C + 4)) (ss' := (D + 1669)) (lw2_t (by omega) (by omega)) ?_
        refine g_msk [true, true, true, true, true, false, false] ?_
        exact hc ((s1.1 + (6 : Int32)), v118.2) (Option.some.inj hE).symm
      clear hb5
      refine g_if_ne 592 dL_law__577 (by decide) (fun q123 => ?_) (fun q123 => ?_)
      · replace hE := ife_n q123 hE
        exact x5f (Option.some.inj hE).symm
      replace hE := ife_p q123 hE
      refine g_aload_n (r := o) dL_law__580 rfl ?_
      refine g_iconst (v := (0 : Int32)) dL_law__581 (by decide) ?_
      replace hE := bd_s hE
      obtain ⟨v125, hv125, hE⟩ := hE
      refine g_aL dL_law__582 hv125 ?_
      refine g_iload (x := v118.1) dL_law__583 rfl ?_
      refine g_i2l dL_law__585 ?_
      refine g_lcmp dL_law__586 ?_
      refine g_if_eq 592 dL_law__587 (by decide) (fun q126 => ?_) (fun q126 => ?_)
      · replace hE := ife_p q126 hE
        exact x5f (Option.some.inj hE).symm
      replace hE := ife_n q126 hE
      exact x5t (Option.some.inj hE).symm
    replace hE := ife_n q122 hE
    refine g_iconst (v := (0 : Int32)) dL_law__573 (by decide) ?_
    rw [xR ((0 : Int32), v118.2) (Option.some.inj hE).symm]
    exact g_toL (g_zret dL_law__574 rfl (Or.inl rfl) (lw2_t (by show _ ≤ 601024; omega) (by show _ ≤ 7293034; omega)))
  replace hE := ife_n q10 hE
  by_cases q11 : (v2 &&& (63 : Int32)) = (8 : Int32)
  · replace hE := ife_p q11 hE
    refine g_tabIn 595 dL_law__40 (by rw [q11]; decide) (by rw [q11]; decide) (by rw [q11]; rfl) (by decide) ?_
    refine g_aload_n (r := x) dL_law__595 rfl ?_
    refine g_aload_n (r := 50) dL_law__596 rfl ?_
    refine g_iload (x := s1.1) dL_law__597 rfl ?_
    refine g_iconst (v := (1 : Int32)) dL_law__599 (by decide) ?_
    refine g_iadd dL_law__600 ?_
    replace hE := bd_s hE
    obtain ⟨v127, hv127, hE⟩ := hE
    refine g_sld hscr dL_law__601 hv127 ?_
    refine g_aload_n (r := 50) dL_law__602 rfl ?_
    refine g_iload (x := s1.1) dL_law__603 rfl ?_
    refine g_iconst (v := (2 : Int32)) dL_law__605 (by decide) ?_
    refine g_iadd dL_law__606 ?_
    replace hE := bd_s hE
    obtain ⟨v128, hv128, hE⟩ := hE
    refine g_sld hscr dL_law__607 hv128 ?_
    refine g_aload_n (r := o) dL_law__608 rfl ?_
    replace hE := bd_s hE
    obtain ⟨v129, hv129, hE⟩ := hE
    refine g_callSW (as := [.ref x, .int v127, .int v128, .ref o]) (rvs := [.int v129.1]) (C + 2) (D + 12) dL_law__609 yg_L_price sl_L_131 ml_L_131 (ct_L_price hv129) rfl rfl (rmk_ok (Nat.le_of_ble_eq_true rfl) (Nat.le_of_ble_eq_true rfl) (by show C + 2 ≤ 601024; omega) (by show D + 12 ≤ 7293034; omega)) (Nat.le_of_ble_eq_true rfl) (by show C + 2 = (C + 2); omega) (by show D + 12 = (D + 12); omega) rfl ?_
    refine g_istore dL_law__612 rfl ?_
    refine g_aload_n (r := m) dL_law__614 rfl ?_
    refine g_aload_n (r := 50) dL_law__615 rfl ?_
    refine g_iload (x := s1.1) dL_law__616 rfl ?_
    refine g_iconst (v := (1 : Int32)) dL_law__618 (by decide) ?_
    refine g_iadd dL_law__619 ?_
    replace hE := bd_s hE
    obtain ⟨v130, hv130, hE⟩ := hE
    refine g_sld hscr dL_law__620 hv130 ?_
    refine g_aload_n (r := 50) dL_law__621 rfl ?_
    refine g_iload (x := s1.1) dL_law__622 rfl ?_
    refine g_iconst (v := (2 : Int32)) dL_law__624 (by decide) ?_
    refine g_iadd dL_law__625 ?_
    replace hE := bd_s hE
    obtain ⟨v131, hv131, hE⟩ := hE
    refine g_sld hscr dL_law__626 hv131 ?_
    replace hE := bd_s hE
    obtain ⟨h133, hh133, hE⟩ := hE
    replace hh133 := ck_s hh133
    replace hE := bd_s hE
    obtain ⟨v132, hv132, hE⟩ := hE
    refine g_callV (as := [.int v130, .int v131]) (rvs := [.int v132.1]) (C + 2) (D + 12) dL_law__627 yg_Mo_price vl_L_133 (ct_Mo_price hv132) (RC.obj hh133 (by decide) cl_9.1) rfl rfl (rmk_ok (Nat.le_of_ble_eq_true rfl) (Nat.le_of_ble_eq_true rfl) (by show (C + 2) + 0 ≤ 601024; omega) (by show (D + 12) + 0 ≤ 7293034; omega)) (Nat.le_of_ble_eq_true rfl) (by show (C + 2) + 0 = (C + 2); omega) (by show (D + 12) + 0 = (D + 12); omega) rfl ?_
    refine g_istore dL_law__630 rfl ?_
    refine g_aload_n (r := m) dL_law__632 rfl ?_
    replace hE := bd_s hE
    obtain ⟨h135, hh135, hE⟩ := hE
    replace hh135 := ck_s hh135
    replace hE := bd_s hE
    obtain ⟨v134, hv134, hE⟩ := hE
    refine g_callV (as := []) (rvs := [.int v134]) (C + 2) (D + 12) dL_law__633 yg_Mo_thrown vl_L_111 (ct_Mo_thrown hv134) (RC.obj hh135 (by decide) cl_9.1) rfl rfl (rmk_ok (Nat.le_of_ble_eq_true rfl) (Nat.le_of_ble_eq_true rfl) (by show (C + 2) + 0 ≤ 601024; omega) (by show (D + 12) + 0 ≤ 7293034; omega)) (Nat.le_of_ble_eq_true rfl) (by show (C + 2) + 0 = (C + 2); omega) (by show (D + 12) + 0 = (D + 12); omega) rfl ?_
    refine g_iload (x := v129.1) dL_law__636 rfl ?_
    refine g_icmp_eq 643 dL_law__638 (by decide) (fun q136 => ?_) (fun q136 => ?_)
    · replace hE := ife_p q136 hE
      refine g_iload (x := v129.1) dL_law__643 rfl ?_
      replace hE := bd_s hE
      obtain ⟨b138, hE, hb6⟩ := hE
      have x6t : b138 = true → G X m_L_main (endL X L xs (oIM r)) 658 [.ref 50, .ref x, .ref m, .ref o, .int s1.1, .int v129.1, .int v132.1] [] (C + 2) (D + 12) v132.2 := by
        intro q
        replace hE := ifb_t q hb6
        refine g_iconst (v := (0 : Int32)) dL_law__658 (by decide) ?_
        rw [xR ((0 : Int32), v132.2) (Option.some.inj hE).symm]
        exact g_toL (g_zret dL_law__659 rfl (Or.inl rfl) (lw2_t (by show _ ≤ 601024; omega) (by show _ ≤ 7293034; omega)))
      have x6f : b138 = false → G X m_L_main (endL X L xs (oIM r)) 660 [.ref 50, .ref x, .ref m, .ref o, .int s1.1, .int v129.1, .int v132.1] [] (C + 2) (D + 12) v132.2 := by
        intro q
        replace hE := ifb_f q hb6
        refine g_goto 1944 dL_law__660 (by decide) ?_
        refine g_iinc (s1.1 + (6 : Int32)) dL_law__1944 rfl (iinc_e (by decide)) rfl ?_
        refine g_goto 23 dL_law__1947 (by decide) ?_
        refine g_wd (cs' := (C + 4)) (ss' := (D + 1669)) (lw2_t (by omega) (by omega)) ?_
        refine g_msk [true, true, true, true, true, false, false] ?_
        exact hc ((s1.1 + (6 : Int32)), v132.2) (Option.some.inj hE).symm
      clear hb6
      refine g_if_ne 660 dL_law__645 (by decide) (fun q137 => ?_) (fun q137 => ?_)
      · replace hE := ife_n q137 hE
        exact x6f (Option.some.inj hE).symm
      replace hE := ife_p q137 hE
      refine g_aload_n (r := o) dL_law__648 rfl ?_
      refine g_iconst (v := (0 : Int32)) dL_law__649 (by decide) ?_
      replace hE := bd_s hE
      obtain ⟨v139, hv139, hE⟩ := hE
      refine g_aL dL_law__650 hv139 ?_
      refine g_iload (x := v132.1) dL_law__651 rfl ?_
      refine g_i2l dL_law__653 ?_
      refine g_lcmp dL_law__654 ?_
      refine g_if_eq 660 dL_law__655 (by decide) (fun q140 => ?_) (fun q140 => ?_)
      · replace hE := ife_p q140 hE
        exact x6f (Option.some.inj hE).symm
      replace hE := ife_n q140 hE
      exact x6t (Option.some.inj hE).symm
    replace hE := ife_n q136 hE
    refine g_iconst (v := (0 : Int32)) dL_law__641 (by decide) ?_
    rw [xR ((0 : Int32), v132.2) (Option.some.inj hE).symm]
    exact g_toL (g_zret dL_law__642 rfl (Or.inl rfl) (lw2_t (by show _ ≤ 601024; omega) (by show _ ≤ 7293034; omega)))
  replace hE := ife_n q11 hE
  by_cases q12 : (v2 &&& (63 : Int32)) = (9 : Int32)
  · replace hE := ife_p q12 hE
    refine g_tabIn 663 dL_law__40 (by rw [q12]; decide) (by rw [q12]; decide) (by rw [q12]; rfl) (by decide) ?_
    refine g_aload_n (r := x) dL_law__663 rfl ?_
    refine g_aload_n (r := 50) dL_law__664 rfl ?_
    refine g_iload (x := s1.1) dL_law__665 rfl ?_
    refine g_iconst (v := (1 : Int32)) dL_law__667 (by decide) ?_
    refine g_iadd dL_law__668 ?_
    replace hE := bd_s hE
    obtain ⟨v141, hv141, hE⟩ := hE
    refine g_sld hscr dL_law__669 hv141 ?_
    refine g_aload_n (r := 50) dL_law__670 rfl ?_
    refine g_iload (x := s1.1) dL_law__671 rfl ?_
    refine g_iconst (v := (2 : Int32)) dL_law__673 (by decide) ?_
    refine g_iadd dL_law__674 ?_
    replace hE := bd_s hE
    obtain ⟨v142, hv142, hE⟩ := hE
    refine g_sld hscr dL_law__675 hv142 ?_
    refine g_aload_n (r := 50) dL_law__676 rfl ?_
    refine g_iload (x := s1.1) dL_law__677 rfl ?_
    refine g_iconst (v := (3 : Int32)) dL_law__679 (by decide) ?_
    refine g_iadd dL_law__680 ?_
    replace hE := bd_s hE
    obtain ⟨v143, hv143, hE⟩ := hE
    refine g_sld hscr dL_law__681 hv143 ?_
    replace hE := bd_s2 hE
    obtain ⟨e7, hE, hm7⟩ := hE
    have x7 : ∀ s145 : Int32, e7 = s145 → G X m_L_main (endL X L xs (oIM r)) 690 [.ref 50, .ref x, .ref m, .ref o, .int s1.1, .retAddr 0, .retAddr 0] [.int s145, .int v142, .int v141, .ref x] C D s1.2 := by
      intro s145 q
      replace hE := hm7 s145 q
      clear hm7
      refine g_aload_n (r := o) dL_law__690 rfl ?_
      replace hE := bd_s hE
      obtain ⟨v146, hv146, hE⟩ := hE
      refine g_callSW (as := [.ref x, .int v141, .int v142, .int s145, .ref o]) (rvs := [.int v146.1]) (C + 2) (D + 12) dL_law__691 yg_L_may sl_L_134 ml_L_134 (ct_L_may hv146) rfl rfl (rmk_ok (Nat.le_of_ble_eq_true rfl) (Nat.le_of_ble_eq_true rfl) (by show C + 2 ≤ 601024; omega) (by show D + 12 ≤ 7293034; omega)) (Nat.le_of_ble_eq_true rfl) (by show C + 2 = (C + 2); omega) (by show D + 12 = (D + 12); omega) rfl ?_
      refine g_istore dL_law__694 rfl ?_
      refine g_aload_n (r := m) dL_law__696 rfl ?_
      refine g_aload_n (r := 50) dL_law__697 rfl ?_
      refine g_iload (x := s1.1) dL_law__698 rfl ?_
      refine g_iconst (v := (1 : Int32)) dL_law__700 (by decide) ?_
      refine g_iadd dL_law__701 ?_
      replace hE := bd_s hE
      obtain ⟨v147, hv147, hE⟩ := hE
      refine g_sld hscr dL_law__702 hv147 ?_
      refine g_aload_n (r := 50) dL_law__703 rfl ?_
      refine g_iload (x := s1.1) dL_law__704 rfl ?_
      refine g_iconst (v := (2 : Int32)) dL_law__706 (by decide) ?_
      refine g_iadd dL_law__707 ?_
      replace hE := bd_s hE
      obtain ⟨v148, hv148, hE⟩ := hE
      refine g_sld hscr dL_law__708 hv148 ?_
      refine g_aload_n (r := 50) dL_law__709 rfl ?_
      refine g_iload (x := s1.1) dL_law__710 rfl ?_
      refine g_iconst (v := (3 : Int32)) dL_law__712 (by decide) ?_
      refine g_iadd dL_law__713 ?_
      replace hE := bd_s hE
      obtain ⟨v149, hv149, hE⟩ := hE
      refine g_sld hscr dL_law__714 hv149 ?_
      replace hE := bd_s2 hE
      obtain ⟨e8, hE, hm8⟩ := hE
      have x8 : ∀ s151 : Int32, e8 = s151 → G X m_L_main (endL X L xs (oIM r)) 723 [.ref 50, .ref x, .ref m, .ref o, .int s1.1, .int v146.1, .retAddr 0] [.int s151, .int v148, .int v147, .ref m] (C + 2) (D + 12) v146.2 := by
        intro s151 q
        replace hE := hm8 s151 q
        clear hm8
        replace hE := bd_s hE
        obtain ⟨h153, hh153, hE⟩ := hE
        replace hh153 := ck_s hh153
        replace hE := bd_s hE
        obtain ⟨v152, hv152, hE⟩ := hE
        refine g_callV (as := [.int v147, .int v148, .int s151]) (rvs := [.int v152.1]) (C + 2) (D + 12) dL_law__723 yg_Mo_may vl_L_137 (ct_Mo_may hv152) (RC.obj hh153 (by decide) cl_9.1) rfl rfl (rmk_ok (Nat.le_of_ble_eq_true rfl) (Nat.le_of_ble_eq_true rfl) (by show (C + 2) + 0 ≤ 601024; omega) (by show (D + 12) + 0 ≤ 7293034; omega)) (Nat.le_of_ble_eq_true rfl) (by show (C + 2) + 0 = (C + 2); omega) (by show (D + 12) + 0 = (D + 12); omega) rfl ?_
        refine g_istore dL_law__726 rfl ?_
        refine g_aload_n (r := m) dL_law__728 rfl ?_
        replace hE := bd_s hE
        obtain ⟨h155, hh155, hE⟩ := hE
        replace hh155 := ck_s hh155
        replace hE := bd_s hE
        obtain ⟨v154, hv154, hE⟩ := hE
        refine g_callV (as := []) (rvs := [.int v154]) (C + 2) (D + 12) dL_law__729 yg_Mo_thrown vl_L_111 (ct_Mo_thrown hv154) (RC.obj hh155 (by decide) cl_9.1) rfl rfl (rmk_ok (Nat.le_of_ble_eq_true rfl) (Nat.le_of_ble_eq_true rfl) (by show (C + 2) + 0 ≤ 601024; omega) (by show (D + 12) + 0 ≤ 7293034; omega)) (Nat.le_of_ble_eq_true rfl) (by show (C + 2) + 0 = (C + 2); omega) (by show (D + 12) + 0 = (D + 12); omega) rfl ?_
        refine g_iload (x := v146.1) dL_law__732 rfl ?_
        refine g_icmp_eq 739 dL_law__734 (by decide) (fun q156 => ?_) (fun q156 => ?_)
        · replace hE := ife_p q156 hE
          refine g_iload (x := v146.1) dL_law__739 rfl ?_
          refine g_if_ne 763 dL_law__741 (by decide) (fun q157 => ?_) (fun q157 => ?_)
          · replace hE := ife_n q157 hE
            refine g_goto 1944 dL_law__763 (by decide) ?_
            refine g_iinc (s1.1 + (6 : Int32)) dL_law__1944 rfl (iinc_e (by decide)) rfl ?_
            refine g_goto 23 dL_law__1947 (by decide) ?_
            refine g_wd (cs' := (C + 4)) (ss' := (D + 1669)) (lw2_t (by omega) (by omega)) ?_
            refine g_msk [true, true, true, true, true, false, false] ?_
            exact hc ((s1.1 + (6 : Int32)), v152.2) (Option.some.inj hE).symm
          replace hE := ife_p q157 hE
          refine g_aload_n (r := o) dL_law__744 rfl ?_
          refine g_iconst (v := (0 : Int32)) dL_law__745 (by decide) ?_
          replace hE := bd_s hE
          obtain ⟨v158, hv158, hE⟩ := hE
          refine g_aL dL_law__746 hv158 ?_
          refine g_iload (x := v152.1) dL_law__747 rfl ?_
          replace hE := bd_s2 hE
          obtain ⟨e9, hE, hm9⟩ := hE
          have x9 : ∀ s160 : Int64, e9 = s160 → G X m_L_main (endL X L xs (oIM r)) 757 [.ref 50, .ref x, .ref m, .ref o, .int s1.1, .retAddr 0, .retAddr 0] [.long s160, .long v158] (C + 2) (D + 12) v152.2 := by
            intro s160 q
            replace hE := hm9 s160 q
            clear hm9
            refine g_lcmp dL_law__757 ?_
            refine g_if_eq 763 dL_law__758 (by decide) (fun q161 => ?_) (fun q161 => ?_)
            · replace hE := ife_p q161 hE
              refine g_goto 1944 dL_law__763 (by decide) ?_
              refine g_iinc (s1.1 + (6 : Int32)) dL_law__1944 rfl (iinc_e (by decide)) rfl ?_
              refine g_goto 23 dL_law__1947 (by decide) ?_
              refine g_wd (cs' := (C + 4)) (ss' := (D + 1669)) (lw2_t (by omega) (by omega)) ?_
              exact hc ((s1.1 + (6 : Int32)), v152.2) (Option.some.inj hE).symm
            replace hE := ife_n q161 hE
            refine g_iconst (v := (0 : Int32)) dL_law__761 (by decide) ?_
            rw [xR ((0 : Int32), v152.2) (Option.some.inj hE).symm]
            exact g_toL (g_zret dL_law__762 rfl (Or.inl rfl) (lw2_t (by show _ ≤ 601024; omega) (by show _ ≤ 7293034; omega)))
          clear hm9
          refine g_if_eq 756 dL_law__749 (by decide) (fun q159 => ?_) (fun q159 => ?_)
          · replace hE := ife_p q159 hE
            refine g_lconst (v := (0 : Int64)) dL_law__756 (by decide) ?_
            refine g_msk [true, true, true, true, true, false, false] ?_
            exact x9 (0 : Int64) (Option.some.inj hE).symm
          replace hE := ife_n q159 hE
          refine g_lconst (v := (1 : Int64)) dL_law__752 (by decide) ?_
          refine g_goto 757 dL_law__753 (by decide) ?_
          refine g_msk [true, true, true, true, true, false, false] ?_
          exact x9 (1 : Int64) (Option.some.inj hE).symm
        replace hE := ife_n q156 hE
        refine g_iconst (v := (0 : Int32)) dL_law__737 (by decide) ?_
        rw [xR ((0 : Int32), v152.2) (Option.some.inj hE).symm]
        exact g_toL (g_zret dL_law__738 rfl (Or.inl rfl) (lw2_t (by show _ ≤ 601024; omega) (by show _ ≤ 7293034; omega)))
      clear hm8
      refine g_if_eq 722 dL_law__715 (by decide) (fun q150 => ?_) (fun q150 => ?_)
      · replace hE := ife_p q150 hE
        refine g_iconst (v := (0 : Int32)) dL_law__722 (by decide) ?_
        exact x8 (0 : Int32) (Option.some.inj hE).symm
      replace hE := ife_n q150 hE
      refine g_iconst (v := (1 : Int32)) dL_law__718 (by decide) ?_
      refine g_goto 723 dL_law__719 (by decide) ?_
      exact x8 (1 : Int32) (Option.some.inj hE).symm
    clear hm7
    refine g_if_eq 689 dL_law__682 (by decide) (fun q144 => ?_) (fun q144 => ?_)
    · replace hE := ife_p q144 hE
      refine g_iconst (v := (0 : Int32)) dL_law__689 (by decide) ?_
      exact x7 (0 : Int32) (Option.some.inj hE).symm
    replace hE := ife_n q144 hE
    refine g_iconst (v := (1 : Int32)) dL_law__685 (by decide) ?_
    refine g_goto 690 dL_law__686 (by decide) ?_
    exact x7 (1 : Int32) (Option.some.inj hE).symm
  replace hE := ife_n q12 hE
  by_cases q13 : (v2 &&& (63 : Int32)) = (10 : Int32)
  · replace hE := ife_p q13 hE
    refine g_tabIn 766 dL_law__40 (by rw [q13]; decide) (by rw [q13]; decide) (by rw [q13]; rfl) (by decide) ?_
    refine g_aload_n (r := x) dL_law__766 rfl ?_
    refine g_aload_n (r := 50) dL_law__767 rfl ?_
    refine g_iload (x := s1.1) dL_law__768 rfl ?_
    refine g_iconst (v := (1 : Int32)) dL_law__770 (by decide) ?_
    refine g_iadd dL_law__771 ?_
    replace hE := bd_s hE
    obtain ⟨v162, hv162, hE⟩ := hE
    refine g_sld hscr dL_law__772 hv162 ?_
    refine g_aload_n (r := 50) dL_law__773 rfl ?_
    refine g_iload (x := s1.1) dL_law__774 rfl ?_
    refine g_iconst (v := (2 : Int32)) dL_law__776 (by decide) ?_
    refine g_iadd dL_law__777 ?_
    replace hE := bd_s hE
    obtain ⟨v163, hv163, hE⟩ := hE
    refine g_sld hscr dL_law__778 hv163 ?_
    refine g_aload_n (r := o) dL_law__779 rfl ?_
    replace hE := bd_s hE
    obtain ⟨v164, hv164, hE⟩ := hE
    refine g_callSW (as := [.ref x, .int v162, .int v163, .ref o]) (rvs := [.int v164.1]) (C + 2) (D + 12) dL_law__780 yg_L_chance sl_L_138 ml_L_138 (ct_L_chance hv164) rfl rfl (rmk_ok (Nat.le_of_ble_eq_true rfl) (Nat.le_of_ble_eq_true rfl) (by show C + 2 ≤ 601024; omega) (by show D + 12 ≤ 7293034; omega)) (Nat.le_of_ble_eq_true rfl) (by show C + 2 = (C + 2); omega) (by show D + 12 = (D + 12); omega) rfl ?_
    refine g_istore dL_law__783 rfl ?_
    refine g_aload_n (r := m) dL_law__785 rfl ?_
    refine g_aload_n (r := 50) dL_law__786 rfl ?_
    refine g_iload (x := s1.1) dL_law__787 rfl ?_
    refine g_iconst (v := (1 : Int32)) dL_law__789 (by decide) ?_
    refine g_iadd dL_law__790 ?_
    replace hE := bd_s hE
    obtain ⟨v165, hv165, hE⟩ := hE
    refine g_sld hscr dL_law__791 hv165 ?_
    refine g_aload_n (r := 50) dL_law__792 rfl ?_
    refine g_iload (x := s1.1) dL_law__793 rfl ?_
    refine g_iconst (v := (2 : Int32)) dL_law__795 (by decide) ?_
    refine g_iadd dL_law__796 ?_
    replace hE := bd_s hE
    obtain ⟨v166, hv166, hE⟩ := hE
    refine g_sld hscr dL_law__797 hv166 ?_
    replace hE := bd_s hE
    obtain ⟨h168, hh168, hE⟩ := hE
    replace hh168 := ck_s hh168
    replace hE := bd_s hE
    obtain ⟨v167, hv167, hE⟩ := hE
    refine g_callV (as := [.int v165, .int v166]) (rvs := [.int v167.1]) (C + 2) (D + 12) dL_law__798 yg_Mo_chance vl_L_140 (ct_Mo_chance hv167) (RC.obj hh168 (by decide) cl_9.1) rfl rfl (rmk_ok (Nat.le_of_ble_eq_true rfl) (Nat.le_of_ble_eq_true rfl) (by show (C + 2) + 0 ≤ 601024; omega) (by show (D + 12) + 0 ≤ 7293034; omega)) (Nat.le_of_ble_eq_true rfl) (by show (C + 2) + 0 = (C + 2); omega) (by show (D + 12) + 0 = (D + 12); omega) rfl ?_
    refine g_istore dL_law__801 rfl ?_
    refine g_aload_n (r := m) dL_law__803 rfl ?_
    replace hE := bd_s hE
    obtain ⟨h170, hh170, hE⟩ := hE
    replace hh170 := ck_s hh170
    replace hE := bd_s hE
    obtain ⟨v169, hv169, hE⟩ := hE
    refine g_callV (as := []) (rvs := [.int v169]) (C + 2) (D + 12) dL_law__804 yg_Mo_thrown vl_L_111 (ct_Mo_thrown hv169) (RC.obj hh170 (by decide) cl_9.1) rfl rfl (rmk_ok (Nat.le_of_ble_eq_true rfl) (Nat.le_of_ble_eq_true rfl) (by show (C + 2) + 0 ≤ 601024; omega) (by show (D + 12) + 0 ≤ 7293034; omega)) (Nat.le_of_ble_eq_true rfl) (by show (C + 2) + 0 = (C + 2); omega) (by show (D + 12) + 0 = (D + 12); omega) rfl ?_
    refine g_iload (x := v164.1) dL_law__807 rfl ?_
    refine g_icmp_eq 814 dL_law__809 (by decide) (fun q171 => ?_) (fun q171 => ?_)
    · replace hE := ife_p q171 hE
      refine g_iload (x := v164.1) dL_law__814 rfl ?_
      replace hE := bd_s hE
      obtain ⟨b173, hE, hb10⟩ := hE
      have x10t : b173 = true → G X m_L_main (endL X L xs (oIM r)) 829 [.ref 50, .ref x, .ref m, .ref o, .int s1.1, .int v164.1, .int v167.1] [] (C + 2) (D + 12) v167.2 := by
        intro q
        replace hE := ifb_t q hb10
        refine g_iconst (v := (0 : Int32)) dL_law__829 (by decide) ?_
        rw [xR ((0 : Int32), v167.2) (Option.some.inj hE).symm]
        exact g_toL (g_zret dL_law__830 rfl (Or.inl rfl) (lw2_t (by show _ ≤ 601024; omega) (by show _ ≤ 7293034; omega)))
      have x10f : b173 = false → G X m_L_main (endL X L xs (oIM r)) 831 [.ref 50, .ref x, .ref m, .ref o, .int s1.1, .int v164.1, .int v167.1] [] (C + 2) (D + 12) v167.2 := by
        intro q
        replace hE := ifb_f q hb10
        refine g_goto 1944 dL_law__831 (by decide) ?_
        refine g_iinc (s1.1 + (6 : Int32)) dL_law__1944 rfl (iinc_e (by decide)) rfl ?_
        refine g_goto 23 dL_law__1947 (by decide) ?_
        refine g_wd (cs' := (C + 4)) (ss' := (D + 1669)) (lw2_t (by omega) (by omega)) ?_
        refine g_msk [true, true, true, true, true, false, false] ?_
        exact hc ((s1.1 + (6 : Int32)), v167.2) (Option.some.inj hE).symm
      clear hb10
      refine g_if_ne 831 dL_law__816 (by decide) (fun q172 => ?_) (fun q172 => ?_)
      · replace hE := ife_n q172 hE
        exact x10f (Option.some.inj hE).symm
      replace hE := ife_p q172 hE
      refine g_aload_n (r := o) dL_law__819 rfl ?_
      refine g_iconst (v := (0 : Int32)) dL_law__820 (by decide) ?_
      replace hE := bd_s hE
      obtain ⟨v174, hv174, hE⟩ := hE
      refine g_aL dL_law__821 hv174 ?_
      refine g_iload (x := v167.1) dL_law__822 rfl ?_
      refine g_i2l dL_law__824 ?_
      refine g_lcmp dL_law__825 ?_
      refine g_if_eq 831 dL_law__826 (by decide) (fun q175 => ?_) (fun q175 => ?_)
      · replace hE := ife_p q175 hE
        exact x10f (Option.some.inj hE).symm
      replace hE := ife_n q175 hE
      exact x10t (Option.some.inj hE).symm
    replace hE := ife_n q171 hE
    refine g_iconst (v := (0 : Int32)) dL_law__812 (by decide) ?_
    rw [xR ((0 : Int32), v167.2) (Option.some.inj hE).symm]
    exact g_toL (g_zret dL_law__813 rfl (Or.inl rfl) (lw2_t (by show _ ≤ 601024; omega) (by show _ ≤ 7293034; omega)))
  replace hE := ife_n q13 hE
  by_cases q14 : (v2 &&& (63 : Int32)) = (11 : Int32)
  · replace hE := ife_p q14 hE
    refine g_tabIn 834 dL_law__40 (by rw [q14]; decide) (by rw [q14]; decide) (by rw [q14]; rfl) (by decide) ?_
    refine g_aload_n (r := x) dL_law__834 rfl ?_
    refine g_aload_n (r := 50) dL_law__835 rfl ?_
    refine g_iload (x := s1.1) dL_law__836 rfl ?_
    refine g_iconst (v := (1 : Int32)) dL_law__838 (by decide) ?_
    refine g_iadd dL_law__839 ?_
    replace hE := bd_s hE
    obtain ⟨v176, hv176, hE⟩ := hE
    refine g_sld hscr dL_law__840 hv176 ?_
    refine g_aload_n (r := o) dL_law__841 rfl ?_
    replace hE := bd_s hE
    obtain ⟨v177, hv177, hE⟩ := hE
    refine g_callSW (as := [.ref x, .int v176, .ref o]) (rvs := [.int v177.1]) (C + 2) (D + 12) dL_law__842 yg_L_pass sl_L_141 ml_L_141 (ct_L_pass hv177) rfl rfl (rmk_ok (Nat.le_of_ble_eq_true rfl) (Nat.le_of_ble_eq_true rfl) (by show C + 2 ≤ 601024; omega) (by show D + 12 ≤ 7293034; omega)) (Nat.le_of_ble_eq_true rfl) (by show C + 2 = (C + 2); omega) (by show D + 12 = (D + 12); omega) rfl ?_
    refine g_istore dL_law__845 rfl ?_
    refine g_aload_n (r := m) dL_law__847 rfl ?_
    refine g_aload_n (r := 50) dL_law__848 rfl ?_
    refine g_iload (x := s1.1) dL_law__849 rfl ?_
    refine g_iconst (v := (1 : Int32)) dL_law__851 (by decide) ?_
    refine g_iadd dL_law__852 ?_
    replace hE := bd_s hE
    obtain ⟨v178, hv178, hE⟩ := hE
    refine g_sld hscr dL_law__853 hv178 ?_
    replace hE := bd_s hE
    obtain ⟨h180, hh180, hE⟩ := hE
    replace hh180 := ck_s hh180
    replace hE := bd_s hE
    obtain ⟨v179, hv179, hE⟩ := hE
    refine g_callV (as := [.int v178]) (rvs := [.int v179.1]) (C + 2) (D + 12) dL_law__854 yg_Mo_pass vl_L_144 (ct_Mo_pass hv179) (RC.obj hh180 (by decide) cl_9.1) rfl rfl (rmk_ok (Nat.le_of_ble_eq_true rfl) (Nat.le_of_ble_eq_true rfl) (by show (C + 2) + 0 ≤ 601024; omega) (by show (D + 12) + 0 ≤ 7293034; omega)) (Nat.le_of_ble_eq_true rfl) (by show (C + 2) + 0 = (C + 2); omega) (by show (D + 12) + 0 = (D + 12); omega) rfl ?_
    refine g_istore dL_law__857 rfl ?_
    refine g_aload_n (r := m) dL_law__859 rfl ?_
    replace hE := bd_s hE
    obtain ⟨h182, hh182, hE⟩ := hE
    replace hh182 := ck_s hh182
    replace hE := bd_s hE
    obtain ⟨v181, hv181, hE⟩ := hE
    refine g_callV (as := []) (rvs := [.int v181]) (C + 2) (D + 12) dL_law__860 yg_Mo_thrown vl_L_111 (ct_Mo_thrown hv181) (RC.obj hh182 (by decide) cl_9.1) rfl rfl (rmk_ok (Nat.le_of_ble_eq_true rfl) (Nat.le_of_ble_eq_true rfl) (by show (C + 2) + 0 ≤ 601024; omega) (by show (D + 12) + 0 ≤ 7293034; omega)) (Nat.le_of_ble_eq_true rfl) (by show (C + 2) + 0 = (C + 2); omega) (by show (D + 12) + 0 = (D + 12); omega) rfl ?_
    refine g_iload (x := v177.1) dL_law__863 rfl ?_
    refine g_icmp_eq 870 dL_law__865 (by decide) (fun q183 => ?_) (fun q183 => ?_)
    · replace hE := ife_p q183 hE
      refine g_iload (x := v177.1) dL_law__870 rfl ?_
      replace hE := bd_s hE
      obtain ⟨b185, hE, hb11⟩ := hE
      have x11t : b185 = true → G X m_L_main (endL X L xs (oIM r)) 885 [.ref 50, .ref x, .ref m, .ref o, .int s1.1, .int v177.1, .int v179.1] [] (C + 2) (D + 12) v179.2 := by
        intro q
        replace hE := ifb_t q hb11
        refine g_iconst (v := (0 : Int32)) dL_law__885 (by decide) ?_
        rw [xR ((0 : Int32), v179.2) (Option.some.inj hE).symm]
        exact g_toL (g_zret dL_law__886 rfl (Or.inl rfl) (lw2_t (by show _ ≤ 601024; omega) (by show _ ≤ 7293034; omega)))
      have x11f : b185 = false → G X m_L_main (endL X L xs (oIM r)) 887 [.ref 50, .ref x, .ref m, .ref o, .int s1.1, .int v177.1, .int v179.1] [] (C + 2) (D + 12) v179.2 := by
        intro q
        replace hE := ifb_f q hb11
        refine g_goto 1944 dL_law__887 (by decide) ?_
        refine g_iinc (s1.1 + (6 : Int32)) dL_law__1944 rfl (iinc_e (by decide)) rfl ?_
        refine g_goto 23 dL_law__1947 (by decide) ?_
        refine g_wd (cs' := (C + 4)) (ss' := (D + 1669)) (lw2_t (by omega) (by omega)) ?_
        refine g_msk [true, true, true, true, true, false, false] ?_
        exact hc ((s1.1 + (6 : Int32)), v179.2) (Option.some.inj hE).symm
      clear hb11
      refine g_if_ne 887 dL_law__872 (by decide) (fun q184 => ?_) (fun q184 => ?_)
      · replace hE := ife_n q184 hE
        exact x11f (Option.some.inj hE).symm
      replace hE := ife_p q184 hE
      refine g_aload_n (r := o) dL_law__875 rfl ?_
      refine g_iconst (v := (0 : Int32)) dL_law__876 (by decide) ?_
      replace hE := bd_s hE
      obtain ⟨v186, hv186, hE⟩ := hE
      refine g_aL dL_law__877 hv186 ?_
      refine g_iload (x := v179.1) dL_law__878 rfl ?_
      refine g_i2l dL_law__880 ?_
      refine g_lcmp dL_law__881 ?_
      refine g_if_eq 887 dL_law__882 (by decide) (fun q187 => ?_) (fun q187 => ?_)
      · replace hE := ife_p q187 hE
        exact x11f (Option.some.inj hE).symm
      replace hE := ife_n q187 hE
      exact x11t (Option.some.inj hE).symm
    replace hE := ife_n q183 hE
    refine g_iconst (v := (0 : Int32)) dL_law__868 (by decide) ?_
    rw [xR ((0 : Int32), v179.2) (Option.some.inj hE).symm]
    exact g_toL (g_zret dL_law__869 rfl (Or.inl rfl) (lw2_t (by show _ ≤ 601024; omega) (by show _ ≤ 7293034; omega)))
  replace hE := ife_n q14 hE
  by_cases q15 : (v2 &&& (63 : Int32)) = (12 : Int32)
  · replace hE := ife_p q15 hE
    refine g_tabIn 890 dL_law__40 (by rw [q15]; decide) (by rw [q15]; decide) (by rw [q15]; rfl) (by decide) ?_
    refine g_aload_n (r := x) dL_law__890 rfl ?_
    refine g_aload_n (r := 50) dL_law__891 rfl ?_
    refine g_iload (x := s1.1) dL_law__892 rfl ?_
    refine g_iconst (v := (1 : Int32)) dL_law__894 (by decide) ?_
    refine g_iadd dL_law__895 ?_
    replace hE := bd_s hE
    obtain ⟨v188, hv188, hE⟩ := hE
    refine g_sld hscr dL_law__896 hv188 ?_
    refine g_aload_n (r := o) dL_law__897 rfl ?_
    replace hE := bd_s hE
    obtain ⟨v189, hv189, hE⟩ := hE
    refine g_callSW (as := [.ref x, .int v188, .ref o]) (rvs := [.int v189.1]) (C + 2) (D + 12) dL_law__898 yg_L_guess sl_L_145 ml_L_145 (ct_L_guess hv189) rfl rfl (rmk_ok (Nat.le_of_ble_eq_true rfl) (Nat.le_of_ble_eq_true rfl) (by show C + 2 ≤ 601024; omega) (by show D + 12 ≤ 7293034; omega)) (Nat.le_of_ble_eq_true rfl) (by show C + 2 = (C + 2); omega) (by show D + 12 = (D + 12); omega) rfl ?_
    refine g_istore dL_law__901 rfl ?_
    refine g_aload_n (r := m) dL_law__903 rfl ?_
    refine g_aload_n (r := 50) dL_law__904 rfl ?_
    refine g_iload (x := s1.1) dL_law__905 rfl ?_
    refine g_iconst (v := (1 : Int32)) dL_law__907 (by decide) ?_
    refine g_iadd dL_law__908 ?_
    replace hE := bd_s hE
    obtain ⟨v190, hv190, hE⟩ := hE
    refine g_sld hscr dL_law__909 hv190 ?_
    replace hE := bd_s hE
    obtain ⟨h192, hh192, hE⟩ := hE
    replace hh192 := ck_s hh192
    replace hE := bd_s hE
    obtain ⟨v191, hv191, hE⟩ := hE
    refine g_callV (as := [.int v190]) (rvs := [.int v191.1]) (C + 2) (D + 12) dL_law__910 yg_Mo_guess vl_L_147 (ct_Mo_guess hv191) (RC.obj hh192 (by decide) cl_9.1) rfl rfl (rmk_ok (Nat.le_of_ble_eq_true rfl) (Nat.le_of_ble_eq_true rfl) (by show (C + 2) + 0 ≤ 601024; omega) (by show (D + 12) + 0 ≤ 7293034; omega)) (Nat.le_of_ble_eq_true rfl) (by show (C + 2) + 0 = (C + 2); omega) (by show (D + 12) + 0 = (D + 12); omega) rfl ?_
    refine g_istore dL_law__913 rfl ?_
    refine g_aload_n (r := m) dL_law__915 rfl ?_
    replace hE := bd_s hE
    obtain ⟨h194, hh194, hE⟩ := hE
    replace hh194 := ck_s hh194
    replace hE := bd_s hE
    obtain ⟨v193, hv193, hE⟩ := hE
    refine g_callV (as := []) (rvs := [.int v193]) (C + 2) (D + 12) dL_law__916 yg_Mo_thrown vl_L_111 (ct_Mo_thrown hv193) (RC.obj hh194 (by decide) cl_9.1) rfl rfl (rmk_ok (Nat.le_of_ble_eq_true rfl) (Nat.le_of_ble_eq_true rfl) (by show (C + 2) + 0 ≤ 601024; omega) (by show (D + 12) + 0 ≤ 7293034; omega)) (Nat.le_of_ble_eq_true rfl) (by show (C + 2) + 0 = (C + 2); omega) (by show (D + 12) + 0 = (D + 12); omega) rfl ?_
    refine g_iload (x := v189.1) dL_law__919 rfl ?_
    refine g_icmp_eq 926 dL_law__921 (by decide) (fun q195 => ?_) (fun q195 => ?_)
    · replace hE := ife_p q195 hE
      refine g_iload (x := v189.1) dL_law__926 rfl ?_
      refine g_if_ne 950 dL_law__928 (by decide) (fun q196 => ?_) (fun q196 => ?_)
      · replace hE := ife_n q196 hE
        refine g_goto 1944 dL_law__950 (by decide) ?_
        refine g_iinc (s1.1 + (6 : Int32)) dL_law__1944 rfl (iinc_e (by decide)) rfl ?_
        refine g_goto 23 dL_law__1947 (by decide) ?_
        refine g_wd (cs' := (C + 4)) (ss' := (D + 1669)) (lw2_t (by omega) (by omega)) ?_
        refine g_msk [true, true, true, true, true, false, false] ?_
        exact hc ((s1.1 + (6 : Int32)), v191.2) (Option.some.inj hE).symm
      replace hE := ife_p q196 hE
      refine g_aload_n (r := o) dL_law__931 rfl ?_
      refine g_iconst (v := (0 : Int32)) dL_law__932 (by decide) ?_
      replace hE := bd_s hE
      obtain ⟨v197, hv197, hE⟩ := hE
      refine g_aL dL_law__933 hv197 ?_
      refine g_iload (x := v191.1) dL_law__934 rfl ?_
      replace hE := bd_s2 hE
      obtain ⟨e12, hE, hm12⟩ := hE
      have x12 : ∀ s199 : Int64, e12 = s199 → G X m_L_main (endL X L xs (oIM r)) 944 [.ref 50, .ref x, .ref m, .ref o, .int s1.1, .retAddr 0, .retAddr 0] [.long s199, .long v197] (C + 2) (D + 12) v191.2 := by
        intro s199 q
        replace hE := hm12 s199 q
        clear hm12
        refine g_lcmp dL_law__944 ?_
        refine g_if_eq 950 dL_law__945 (by decide) (fun q200 => ?_) (fun q200 => ?_)
        · replace hE := ife_p q200 hE
          refine g_goto 1944 dL_law__950 (by decide) ?_
          refine g_iinc (s1.1 + (6 : Int32)) dL_law__1944 rfl (iinc_e (by decide)) rfl ?_
          refine g_goto 23 dL_law__1947 (by decide) ?_
          refine g_wd (cs' := (C + 4)) (ss' := (D + 1669)) (lw2_t (by omega) (by omega)) ?_
          exact hc ((s1.1 + (6 : Int32)), v191.2) (Option.some.inj hE).symm
        replace hE := ife_n q200 hE
        refine g_iconst (v := (0 : Int32)) dL_law__948 (by decide) ?_
        rw [xR ((0 : Int32), v191.2) (Option.some.inj hE).symm]
        exact g_toL (g_zret dL_law__949 rfl (Or.inl rfl) (lw2_t (by show _ ≤ 601024; omega) (by show _ ≤ 7293034; omega)))
      clear hm12
      refine g_if_eq 943 dL_law__936 (by decide) (fun q198 => ?_) (fun q198 => ?_)
      · replace hE := ife_p q198 hE
        refine g_lconst (v := (0 : Int64)) dL_law__943 (by decide) ?_
        refine g_msk [true, true, true, true, true, false, false] ?_
        exact x12 (0 : Int64) (Option.some.inj hE).symm
      replace hE := ife_n q198 hE
      refine g_lconst (v := (1 : Int64)) dL_law__939 (by decide) ?_
      refine g_goto 944 dL_law__940 (by decide) ?_
      refine g_msk [true, true, true, true, true, false, false] ?_
      exact x12 (1 : Int64) (Option.some.inj hE).symm
    replace hE := ife_n q195 hE
    refine g_iconst (v := (0 : Int32)) dL_law__924 (by decide) ?_
    rw [xR ((0 : Int32), v191.2) (Option.some.inj hE).symm]
    exact g_toL (g_zret dL_law__925 rfl (Or.inl rfl) (lw2_t (by show _ ≤ 601024; omega) (by show _ ≤ 7293034; omega)))
  replace hE := ife_n q15 hE
  by_cases q16 : (v2 &&& (63 : Int32)) = (13 : Int32)
  · replace hE := ife_p q16 hE
    refine g_tabIn 953 dL_law__40 (by rw [q16]; decide) (by rw [q16]; decide) (by rw [q16]; rfl) (by decide) ?_
    refine g_aload_n (r := x) dL_law__953 rfl ?_
    refine g_aload_n (r := 50) dL_law__954 rfl ?_
    refine g_iload (x := s1.1) dL_law__955 rfl ?_
    refine g_iconst (v := (1 : Int32)) dL_law__957 (by decide) ?_
    refine g_iadd dL_law__958 ?_
    replace hE := bd_s hE
    obtain ⟨v201, hv201, hE⟩ := hE
    refine g_sld hscr dL_law__959 hv201 ?_
    refine g_aload_n (r := 50) dL_law__960 rfl ?_
    refine g_iload (x := s1.1) dL_law__961 rfl ?_
    refine g_iconst (v := (2 : Int32)) dL_law__963 (by decide) ?_
    refine g_iadd dL_law__964 ?_
    replace hE := bd_s hE
    obtain ⟨v202, hv202, hE⟩ := hE
    refine g_sld hscr dL_law__965 hv202 ?_
    refine g_aload_n (r := 50) dL_law__966 rfl ?_
    refine g_iload (x := s1.1) dL_law__967 rfl ?_
    refine g_iconst (v := (3 : Int32)) dL_law__969 (by decide) ?_
    refine g_iadd dL_law__970 ?_
    replace hE := bd_s hE
    obtain ⟨v203, hv203, hE⟩ := hE
    refine g_sld hscr dL_law__971 hv203 ?_
    refine g_aload_n (r := o) dL_law__972 rfl ?_
    replace hE := bd_s hE
    obtain ⟨v204, hv204, hE⟩ := hE
    refine g_callSW (as := [.ref x, .int v201, .int v202, .int v203, .ref o]) (rvs := [.int v204.1]) (C + 4) (D + 24) dL_law__973 yg_L_sell sl_L_148 ml_L_148 (ct_L_sell hv204) rfl rfl (rmk_ok (Nat.le_of_ble_eq_true rfl) (Nat.le_of_ble_eq_true rfl) (by show C + 4 ≤ 601024; omega) (by show D + 24 ≤ 7293034; omega)) (Nat.le_of_ble_eq_true rfl) (by show C + 4 = (C + 4); omega) (by show D + 24 = (D + 24); omega) rfl ?_
    refine g_istore dL_law__976 rfl ?_
    refine g_aload_n (r := m) dL_law__978 rfl ?_
    refine g_aload_n (r := 50) dL_law__979 rfl ?_
    refine g_iload (x := s1.1) dL_law__980 rfl ?_
    refine g_iconst (v := (1 : Int32)) dL_law__982 (by decide) ?_
    refine g_iadd dL_law__983 ?_
    replace hE := bd_s hE
    obtain ⟨v205, hv205, hE⟩ := hE
    refine g_sld hscr dL_law__984 hv205 ?_
    refine g_aload_n (r := 50) dL_law__985 rfl ?_
    refine g_iload (x := s1.1) dL_law__986 rfl ?_
    refine g_iconst (v := (2 : Int32)) dL_law__988 (by decide) ?_
    refine g_iadd dL_law__989 ?_
    replace hE := bd_s hE
    obtain ⟨v206, hv206, hE⟩ := hE
    refine g_sld hscr dL_law__990 hv206 ?_
    refine g_aload_n (r := 50) dL_law__991 rfl ?_
    refine g_iload (x := s1.1) dL_law__992 rfl ?_
    refine g_iconst (v := (3 : Int32)) dL_law__994 (by decide) ?_
    refine g_iadd dL_law__995 ?_
    replace hE := bd_s hE
    obtain ⟨v207, hv207, hE⟩ := hE
    refine g_sld hscr dL_law__996 hv207 ?_
    replace hE := bd_s hE
    obtain ⟨h209, hh209, hE⟩ := hE
    replace hh209 := ck_s hh209
    replace hE := bd_s hE
    obtain ⟨v208, hv208, hE⟩ := hE
    refine g_callV (as := [.int v205, .int v206, .int v207]) (rvs := [.int v208.1]) (C + 4) (D + 24) dL_law__997 yg_Mo_sell vl_L_151 (ct_Mo_sell hv208) (RC.obj hh209 (by decide) cl_9.1) rfl rfl (rmk_ok (Nat.le_of_ble_eq_true rfl) (Nat.le_of_ble_eq_true rfl) (by show (C + 4) + 0 ≤ 601024; omega) (by show (D + 24) + 0 ≤ 7293034; omega)) (Nat.le_of_ble_eq_true rfl) (by show (C + 4) + 0 = (C + 4); omega) (by show (D + 24) + 0 = (D + 24); omega) rfl ?_
    refine g_istore dL_law__1000 rfl ?_
    refine g_aload_n (r := m) dL_law__1002 rfl ?_
    replace hE := bd_s hE
    obtain ⟨h211, hh211, hE⟩ := hE
    replace hh211 := ck_s hh211
    replace hE := bd_s hE
    obtain ⟨v210, hv210, hE⟩ := hE
    refine g_callV (as := []) (rvs := [.int v210]) (C + 4) (D + 24) dL_law__1003 yg_Mo_thrown vl_L_111 (ct_Mo_thrown hv210) (RC.obj hh211 (by decide) cl_9.1) rfl rfl (rmk_ok (Nat.le_of_ble_eq_true rfl) (Nat.le_of_ble_eq_true rfl) (by show (C + 4) + 0 ≤ 601024; omega) (by show (D + 24) + 0 ≤ 7293034; omega)) (Nat.le_of_ble_eq_true rfl) (by show (C + 4) + 0 = (C + 4); omega) (by show (D + 24) + 0 = (D + 24); omega) rfl ?_
    refine g_iload (x := v204.1) dL_law__1006 rfl ?_
    refine g_icmp_eq 1013 dL_law__1008 (by decide) (fun q212 => ?_) (fun q212 => ?_)
    · replace hE := ife_p q212 hE
      refine g_iload (x := v204.1) dL_law__1013 rfl ?_
      replace hE := bd_s hE
      obtain ⟨b214, hE, hb13⟩ := hE
      have x13t : b214 = true → G X m_L_main (endL X L xs (oIM r)) 1028 [.ref 50, .ref x, .ref m, .ref o, .int s1.1, .int v204.1, .int v208.1] [] (C + 4) (D + 24) v208.2 := by
        intro q
        replace hE := ifb_t q hb13
        refine g_iconst (v := (0 : Int32)) dL_law__1028 (by decide) ?_
        rw [xR ((0 : Int32), v208.2) (Option.some.inj hE).symm]
        exact g_toL (g_zret dL_law__1029 rfl (Or.inl rfl) (lw2_t (by show _ ≤ 601024; omega) (by show _ ≤ 7293034; omega)))
      have x13f : b214 = false → G X m_L_main (endL X L xs (oIM r)) 1030 [.ref 50, .ref x, .ref m, .ref o, .int s1.1, .int v204.1, .int v208.1] [] (C + 4) (D + 24) v208.2 := by
        intro q
        replace hE := ifb_f q hb13
        refine g_goto 1944 dL_law__1030 (by decide) ?_
        refine g_iinc (s1.1 + (6 : Int32)) dL_law__1944 rfl (iinc_e (by decide)) rfl ?_
        refine g_goto 23 dL_law__1947 (by decide) ?_
        refine g_wd (cs' := (C + 4)) (ss' := (D + 1669)) (lw2_t (by omega) (by omega)) ?_
        refine g_msk [true, true, true, true, true, false, false] ?_
        exact hc ((s1.1 + (6 : Int32)), v208.2) (Option.some.inj hE).symm
      clear hb13
      refine g_if_ne 1030 dL_law__1015 (by decide) (fun q213 => ?_) (fun q213 => ?_)
      · replace hE := ife_n q213 hE
        exact x13f (Option.some.inj hE).symm
      replace hE := ife_p q213 hE
      refine g_aload_n (r := o) dL_law__1018 rfl ?_
      refine g_iconst (v := (0 : Int32)) dL_law__1019 (by decide) ?_
      replace hE := bd_s hE
      obtain ⟨v215, hv215, hE⟩ := hE
      refine g_aL dL_law__1020 hv215 ?_
      refine g_iload (x := v208.1) dL_law__1021 rfl ?_
      refine g_i2l dL_law__1023 ?_
      refine g_lcmp dL_law__1024 ?_
      refine g_if_eq 1030 dL_law__1025 (by decide) (fun q216 => ?_) (fun q216 => ?_)
      · replace hE := ife_p q216 hE
        exact x13f (Option.some.inj hE).symm
      replace hE := ife_n q216 hE
      exact x13t (Option.some.inj hE).symm
    replace hE := ife_n q212 hE
    refine g_iconst (v := (0 : Int32)) dL_law__1011 (by decide) ?_
    rw [xR ((0 : Int32), v208.2) (Option.some.inj hE).symm]
    exact g_toL (g_zret dL_law__1012 rfl (Or.inl rfl) (lw2_t (by show _ ≤ 601024; omega) (by show _ ≤ 7293034; omega)))
  replace hE := ife_n q16 hE
  by_cases q17 : (v2 &&& (63 : Int32)) = (14 : Int32)
  · replace hE := ife_p q17 hE
    refine g_tabIn 1033 dL_law__40 (by rw [q17]; decide) (by rw [q17]; decide) (by rw [q17]; rfl) (by decide) ?_
    refine g_aload_n (r := x) dL_law__1033 rfl ?_
    refine g_aload_n (r := 50) dL_law__1034 rfl ?_
    refine g_iload (x := s1.1) dL_law__1035 rfl ?_
    refine g_iconst (v := (1 : Int32)) dL_law__1037 (by decide) ?_
    refine g_iadd dL_law__1038 ?_
    replace hE := bd_s hE
    obtain ⟨v217, hv217, hE⟩ := hE
    refine g_sld hscr dL_law__1039 hv217 ?_
    replace hE := bd_s hE
    obtain ⟨h219, hh219, hE⟩ := hE
    replace hh219 := ck_s hh219
    replace hE := bd_s hE
    obtain ⟨v218, hv218, hE⟩ := hE
    refine g_callV (as := [.int v217]) (rvs := [.int v218.1]) C D dL_law__1040 yg_RR_inn vl_L_152 (ct_RR_inn hv218) (RC.obj hh219 (by decide) cl_8.1) rfl rfl (rmk_ok (Nat.le_of_ble_eq_true rfl) (Nat.le_of_ble_eq_true rfl) (by show C + 0 ≤ 601024; omega) (by show D + 0 ≤ 7293034; omega)) (Nat.le_of_ble_eq_true rfl) (by show C + 0 = C; omega) (by show D + 0 = D; omega) rfl ?_
    refine g_aload_n (r := m) dL_law__1043 rfl ?_
    refine g_aload_n (r := 50) dL_law__1044 rfl ?_
    refine g_iload (x := s1.1) dL_law__1045 rfl ?_
    refine g_iconst (v := (1 : Int32)) dL_law__1047 (by decide) ?_
    refine g_iadd dL_law__1048 ?_
    replace hE := bd_s hE
    obtain ⟨v220, hv220, hE⟩ := hE
    refine g_sld hscr dL_law__1049 hv220 ?_
    replace hE := bd_s hE
    obtain ⟨h222, hh222, hE⟩ := hE
    replace hh222 := ck_s hh222
    replace hE := bd_s hE
    obtain ⟨v221, hv221, hE⟩ := hE
    refine g_callV (as := [.int v220]) (rvs := [.int v221.1]) C D dL_law__1050 yg_Mo_inn vl_L_155 (ct_Mo_inn hv221) (RC.obj hh222 (by decide) cl_9.1) rfl rfl (rmk_ok (Nat.le_of_ble_eq_true rfl) (Nat.le_of_ble_eq_true rfl) (by show C + 0 ≤ 601024; omega) (by show D + 0 ≤ 7293034; omega)) (Nat.le_of_ble_eq_true rfl) (by show C + 0 = C; omega) (by show D + 0 = D; omega) rfl ?_
    refine g_icmp_eq 1944 dL_law__1053 (by decide) (fun q223 => ?_) (fun q223 => ?_)
    · replace hE := ife_p q223 hE
      refine g_iinc (s1.1 + (6 : Int32)) dL_law__1944 rfl (iinc_e (by decide)) rfl ?_
      refine g_goto 23 dL_law__1947 (by decide) ?_
      refine g_wd (cs' := (C + 4)) (ss' := (D + 1669)) (lw2_t (by omega) (by omega)) ?_
      exact hc ((s1.1 + (6 : Int32)), v221.2) (Option.some.inj hE).symm
    replace hE := ife_n q223 hE
    refine g_iconst (v := (0 : Int32)) dL_law__1056 (by decide) ?_
    rw [xR ((0 : Int32), v221.2) (Option.some.inj hE).symm]
    exact g_toL (g_zret dL_law__1057 rfl (Or.inl rfl) (lw2_t (by show _ ≤ 601024; omega) (by show _ ≤ 7293034; omega)))
  replace hE := ife_n q17 hE
  by_cases q18 : (v2 &&& (63 : Int32)) = (15 : Int32)
  · replace hE := ife_p q18 hE
    refine g_tabIn 1058 dL_law__40 (by rw [q18]; decide) (by rw [q18]; decide) (by rw [q18]; rfl) (by decide) ?_
    refine g_aload_n (r := x) dL_law__1058 rfl ?_
    refine g_aload_n (r := 50) dL_law__1059 rfl ?_
    refine g_iload (x := s1.1) dL_law__1060 rfl ?_
    refine g_iconst (v := (1 : Int32)) dL_law__1062 (by decide) ?_
    refine g_iadd dL_law__1063 ?_
    replace hE := bd_s hE
    obtain ⟨v224, hv224, hE⟩ := hE
    refine g_sld hscr dL_law__1064 hv224 ?_
    refine g_aload_n (r := o) dL_law__1065 rfl ?_
    replace hE := bd_s hE
    obtain ⟨v225, hv225, hE⟩ := hE
    refine g_callSW (as := [.ref x, .int v224, .ref o]) (rvs := [.int v225.1]) (C + 1) (D + 6) dL_law__1066 yg_L_walkBack sl_L_156 ml_L_156 (ct_L_walkBack hv225) rfl rfl (rmk_ok (Nat.le_of_ble_eq_true rfl) (Nat.le_of_ble_eq_true rfl) (by show C + 1 ≤ 601024; omega) (by show D + 6 ≤ 7293034; omega)) (Nat.le_of_ble_eq_true rfl) (by show C + 1 = (C + 1); omega) (by show D + 6 = (D + 6); omega) rfl ?_
    refine g_istore dL_law__1069 rfl ?_
    refine g_aload_n (r := m) dL_law__1071 rfl ?_
    refine g_aload_n (r := 50) dL_law__1072 rfl ?_
    refine g_iload (x := s1.1) dL_law__1073 rfl ?_
    refine g_iconst (v := (1 : Int32)) dL_law__1075 (by decide) ?_
    refine g_iadd dL_law__1076 ?_
    replace hE := bd_s hE
    obtain ⟨v226, hv226, hE⟩ := hE
    refine g_sld hscr dL_law__1077 hv226 ?_
    replace hE := bd_s hE
    obtain ⟨h228, hh228, hE⟩ := hE
    replace hh228 := ck_s hh228
    replace hE := bd_s hE
    obtain ⟨v227, hv227, hE⟩ := hE
    refine g_callV (as := [.int v226]) (rvs := [.int v227.1]) (C + 1) (D + 6) dL_law__1078 yg_Mo_walkBack vl_L_158 (ct_Mo_walkBack hv227) (RC.obj hh228 (by decide) cl_9.1) rfl rfl (rmk_ok (Nat.le_of_ble_eq_true rfl) (Nat.le_of_ble_eq_true rfl) (by show (C + 1) + 0 ≤ 601024; omega) (by show (D + 6) + 0 ≤ 7293034; omega)) (Nat.le_of_ble_eq_true rfl) (by show (C + 1) + 0 = (C + 1); omega) (by show (D + 6) + 0 = (D + 6); omega) rfl ?_
    refine g_istore dL_law__1081 rfl ?_
    refine g_aload_n (r := m) dL_law__1083 rfl ?_
    replace hE := bd_s hE
    obtain ⟨h230, hh230, hE⟩ := hE
    replace hh230 := ck_s hh230
    replace hE := bd_s hE
    obtain ⟨v229, hv229, hE⟩ := hE
    refine g_callV (as := []) (rvs := [.int v229]) (C + 1) (D + 6) dL_law__1084 yg_Mo_thrown vl_L_111 (ct_Mo_thrown hv229) (RC.obj hh230 (by decide) cl_9.1) rfl rfl (rmk_ok (Nat.le_of_ble_eq_true rfl) (Nat.le_of_ble_eq_true rfl) (by show (C + 1) + 0 ≤ 601024; omega) (by show (D + 6) + 0 ≤ 7293034; omega)) (Nat.le_of_ble_eq_true rfl) (by show (C + 1) + 0 = (C + 1); omega) (by show (D + 6) + 0 = (D + 6); omega) rfl ?_
    refine g_iload (x := v225.1) dL_law__1087 rfl ?_
    refine g_icmp_eq 1094 dL_law__1089 (by decide) (fun q231 => ?_) (fun q231 => ?_)
    · replace hE := ife_p q231 hE
      refine g_iload (x := v225.1) dL_law__1094 rfl ?_
      replace hE := bd_s hE
      obtain ⟨b233, hE, hb14⟩ := hE
      have x14t : b233 = true → G X m_L_main (endL X L xs (oIM r)) 1109 [.ref 50, .ref x, .ref m, .ref o, .int s1.1, .int v225.1, .int v227.1] [] (C + 1) (D + 6) v227.2 := by
        intro q
        replace hE := ifb_t q hb14
        refine g_iconst (v := (0 : Int32)) dL_law__1109 (by decide) ?_
        rw [xR ((0 : Int32), v227.2) (Option.some.inj hE).symm]
        exact g_toL (g_zret dL_law__1110 rfl (Or.inl rfl) (lw2_t (by show _ ≤ 601024; omega) (by show _ ≤ 7293034; omega)))
      have x14f : b233 = false → G X m_L_main (endL X L xs (oIM r)) 1111 [.ref 50, .ref x, .ref m, .ref o, .int s1.1, .int v225.1, .int v227.1] [] (C + 1) (D + 6) v227.2 := by
        intro q
        replace hE := ifb_f q hb14
        refine g_goto 1944 dL_law__1111 (by decide) ?_
        refine g_iinc (s1.1 + (6 : Int32)) dL_law__1944 rfl (iinc_e (by decide)) rfl ?_
        refine g_goto 23 dL_law__1947 (by decide) ?_
        refine g_wd (cs' := (C + 4)) (ss' := (D + 1669)) (lw2_t (by omega) (by omega)) ?_
        refine g_msk [true, true, true, true, true, false, false] ?_
        exact hc ((s1.1 + (6 : Int32)), v227.2) (Option.some.inj hE).symm
      clear hb14
      refine g_if_ne 1111 dL_law__1096 (by decide) (fun q232 => ?_) (fun q232 => ?_)
      · replace hE := ife_n q232 hE
        exact x14f (Option.some.inj hE).symm
      replace hE := ife_p q232 hE
      refine g_aload_n (r := o) dL_law__1099 rfl ?_
      refine g_iconst (v := (0 : Int32)) dL_law__1100 (by decide) ?_
      replace hE := bd_s hE
      obtain ⟨v234, hv234, hE⟩ := hE
      refine g_aL dL_law__1101 hv234 ?_
      refine g_iload (x := v227.1) dL_law__1102 rfl ?_
      refine g_i2l dL_law__1104 ?_
      refine g_lcmp dL_law__1105 ?_
      refine g_if_eq 1111 dL_law__1106 (by decide) (fun q235 => ?_) (fun q235 => ?_)
      · replace hE := ife_p q235 hE
        exact x14f (Option.some.inj hE).symm
      replace hE := ife_n q235 hE
      exact x14t (Option.some.inj hE).symm
    replace hE := ife_n q231 hE
    refine g_iconst (v := (0 : Int32)) dL_law__1092 (by decide) ?_
    rw [xR ((0 : Int32), v227.2) (Option.some.inj hE).symm]
    exact g_toL (g_zret dL_law__1093 rfl (Or.inl rfl) (lw2_t (by show _ ≤ 601024; omega) (by show _ ≤ 7293034; omega)))
  replace hE := ife_n q18 hE
  by_cases q19 : (v2 &&& (63 : Int32)) = (16 : Int32)
  · replace hE := ife_p q19 hE
    refine g_tabIn 1114 dL_law__40 (by rw [q19]; decide) (by rw [q19]; decide) (by rw [q19]; rfl) (by decide) ?_
    refine g_aload_n (r := x) dL_law__1114 rfl ?_
    refine g_aload_n (r := 50) dL_law__1115 rfl ?_
    refine g_iload (x := s1.1) dL_law__1116 rfl ?_
    refine g_iconst (v := (1 : Int32)) dL_law__1118 (by decide) ?_
    refine g_iadd dL_law__1119 ?_
    replace hE := bd_s hE
    obtain ⟨v236, hv236, hE⟩ := hE
    refine g_sld hscr dL_law__1120 hv236 ?_
    refine g_aload_n (r := o) dL_law__1121 rfl ?_
    replace hE := bd_s hE
    obtain ⟨v237, hv237, hE⟩ := hE
    refine g_callSW (as := [.ref x, .int v236, .ref o]) (rvs := [.int v237.1]) (C + 1) (D + 6) dL_law__1122 yg_L_days sl_L_159 ml_L_159 (ct_L_days hv237) rfl rfl (rmk_ok (Nat.le_of_ble_eq_true rfl) (Nat.le_of_ble_eq_true rfl) (by show C + 1 ≤ 601024; omega) (by show D + 6 ≤ 7293034; omega)) (Nat.le_of_ble_eq_true rfl) (by show C + 1 = (C + 1); omega) (by show D + 6 = (D + 6); omega) rfl ?_
    refine g_istore dL_law__1125 rfl ?_
    refine g_aload_n (r := m) dL_law__1127 rfl ?_
    refine g_aload_n (r := 50) dL_law__1128 rfl ?_
    refine g_iload (x := s1.1) dL_law__1129 rfl ?_
    refine g_iconst (v := (1 : Int32)) dL_law__1131 (by decide) ?_
    refine g_iadd dL_law__1132 ?_
    replace hE := bd_s hE
    obtain ⟨v238, hv238, hE⟩ := hE
    refine g_sld hscr dL_law__1133 hv238 ?_
    replace hE := bd_s hE
    obtain ⟨h240, hh240, hE⟩ := hE
    replace hh240 := ck_s hh240
    replace hE := bd_s hE
    obtain ⟨v239, hv239, hE⟩ := hE
    refine g_callV (as := [.int v238]) (rvs := [.int v239.1]) (C + 1) (D + 6) dL_law__1134 yg_Mo_days vl_L_161 (ct_Mo_days hv239) (RC.obj hh240 (by decide) cl_9.1) rfl rfl (rmk_ok (Nat.le_of_ble_eq_true rfl) (Nat.le_of_ble_eq_true rfl) (by show (C + 1) + 0 ≤ 601024; omega) (by show (D + 6) + 0 ≤ 7293034; omega)) (Nat.le_of_ble_eq_true rfl) (by show (C + 1) + 0 = (C + 1); omega) (by show (D + 6) + 0 = (D + 6); omega) rfl ?_
    refine g_istore dL_law__1137 rfl ?_
    refine g_aload_n (r := m) dL_law__1139 rfl ?_
    replace hE := bd_s hE
    obtain ⟨h242, hh242, hE⟩ := hE
    replace hh242 := ck_s hh242
    replace hE := bd_s hE
    obtain ⟨v241, hv241, hE⟩ := hE
    refine g_callV (as := []) (rvs := [.int v241]) (C + 1) (D + 6) dL_law__1140 yg_Mo_thrown vl_L_111 (ct_Mo_thrown hv241) (RC.obj hh242 (by decide) cl_9.1) rfl rfl (rmk_ok (Nat.le_of_ble_eq_true rfl) (Nat.le_of_ble_eq_true rfl) (by show (C + 1) + 0 ≤ 601024; omega) (by show (D + 6) + 0 ≤ 7293034; omega)) (Nat.le_of_ble_eq_true rfl) (by show (C + 1) + 0 = (C + 1); omega) (by show (D + 6) + 0 = (D + 6); omega) rfl ?_
    refine g_iload (x := v237.1) dL_law__1143 rfl ?_
    refine g_icmp_eq 1150 dL_law__1145 (by decide) (fun q243 => ?_) (fun q243 => ?_)
    · replace hE := ife_p q243 hE
      refine g_iload (x := v237.1) dL_law__1150 rfl ?_
      replace hE := bd_s hE
      obtain ⟨b245, hE, hb15⟩ := hE
      have x15t : b245 = true → G X m_L_main (endL X L xs (oIM r)) 1165 [.ref 50, .ref x, .ref m, .ref o, .int s1.1, .int v237.1, .int v239.1] [] (C + 1) (D + 6) v239.2 := by
        intro q
        replace hE := ifb_t q hb15
        refine g_iconst (v := (0 : Int32)) dL_law__1165 (by decide) ?_
        rw [xR ((0 : Int32), v239.2) (Option.some.inj hE).symm]
        exact g_toL (g_zret dL_law__1166 rfl (Or.inl rfl) (lw2_t (by show _ ≤ 601024; omega) (by show _ ≤ 7293034; omega)))
      have x15f : b245 = false → G X m_L_main (endL X L xs (oIM r)) 1167 [.ref 50, .ref x, .ref m, .ref o, .int s1.1, .int v237.1, .int v239.1] [] (C + 1) (D + 6) v239.2 := by
        intro q
        replace hE := ifb_f q hb15
        refine g_goto 1944 dL_law__1167 (by decide) ?_
        refine g_iinc (s1.1 + (6 : Int32)) dL_law__1944 rfl (iinc_e (by decide)) rfl ?_
        refine g_goto 23 dL_law__1947 (by decide) ?_
        refine g_wd (cs' := (C + 4)) (ss' := (D + 1669)) (lw2_t (by omega) (by omega)) ?_
        refine g_msk [true, true, true, true, true, false, false] ?_
        exact hc ((s1.1 + (6 : Int32)), v239.2) (Option.some.inj hE).symm
      clear hb15
      refine g_if_ne 1167 dL_law__1152 (by decide) (fun q244 => ?_) (fun q244 => ?_)
      · replace hE := ife_n q244 hE
        exact x15f (Option.some.inj hE).symm
      replace hE := ife_p q244 hE
      refine g_aload_n (r := o) dL_law__1155 rfl ?_
      refine g_iconst (v := (0 : Int32)) dL_law__1156 (by decide) ?_
      replace hE := bd_s hE
      obtain ⟨v246, hv246, hE⟩ := hE
      refine g_aL dL_law__1157 hv246 ?_
      refine g_iload (x := v239.1) dL_law__1158 rfl ?_
      refine g_i2l dL_law__1160 ?_
      refine g_lcmp dL_law__1161 ?_
      refine g_if_eq 1167 dL_law__1162 (by decide) (fun q247 => ?_) (fun q247 => ?_)
      · replace hE := ife_p q247 hE
        exact x15f (Option.some.inj hE).symm
      replace hE := ife_n q247 hE
      exact x15t (Option.some.inj hE).symm
    replace hE := ife_n q243 hE
    refine g_iconst (v := (0 : Int32)) dL_law__1148 (by decide) ?_
    rw [xR ((0 : Int32), v239.2) (Option.some.inj hE).symm]
    exact g_toL (g_zret dL_law__1149 rfl (Or.inl rfl) (lw2_t (by show _ ≤ 601024; omega) (by show _ ≤ 7293034; omega)))
  replace hE := ife_n q19 hE
  by_cases q20 : (v2 &&& (63 : Int32)) = (17 : Int32)
  · replace hE := ife_p q20 hE
    refine g_tabIn 1170 dL_law__40 (by rw [q20]; decide) (by rw [q20]; decide) (by rw [q20]; rfl) (by decide) ?_
    refine g_aload_n (r := x) dL_law__1170 rfl ?_
    refine g_aload_n (r := 50) dL_law__1171 rfl ?_
    refine g_iload (x := s1.1) dL_law__1172 rfl ?_
    refine g_iconst (v := (1 : Int32)) dL_law__1174 (by decide) ?_
    refine g_iadd dL_law__1175 ?_
    replace hE := bd_s hE
    obtain ⟨v248, hv248, hE⟩ := hE
    refine g_sld hscr dL_law__1176 hv248 ?_
    replace hE := bd_s hE
    obtain ⟨h250, hh250, hE⟩ := hE
    replace hh250 := ck_s hh250
    replace hE := bd_s hE
    obtain ⟨v249, hv249, hE⟩ := hE
    refine g_callV (as := [.int v248]) (rvs := [.int v249.1]) C D dL_law__1177 yg_RR_seed vl_L_162 (ct_RR_seed hv249) (RC.obj hh250 (by decide) cl_8.1) rfl rfl (rmk_ok (Nat.le_of_ble_eq_true rfl) (Nat.le_of_ble_eq_true rfl) (by show C + 0 ≤ 601024; omega) (by show D + 0 ≤ 7293034; omega)) (Nat.le_of_ble_eq_true rfl) (by show C + 0 = C; omega) (by show D + 0 = D; omega) rfl ?_
    refine g_aload_n (r := m) dL_law__1180 rfl ?_
    refine g_aload_n (r := 50) dL_law__1181 rfl ?_
    refine g_iload (x := s1.1) dL_law__1182 rfl ?_
    refine g_iconst (v := (1 : Int32)) dL_law__1184 (by decide) ?_
    refine g_iadd dL_law__1185 ?_
    replace hE := bd_s hE
    obtain ⟨v251, hv251, hE⟩ := hE
    refine g_sld hscr dL_law__1186 hv251 ?_
    replace hE := bd_s hE
    obtain ⟨h253, hh253, hE⟩ := hE
    replace hh253 := ck_s hh253
    replace hE := bd_s hE
    obtain ⟨v252, hv252, hE⟩ := hE
    refine g_callV (as := [.int v251]) (rvs := [.int v252.1]) C D dL_law__1187 yg_Mo_seed vl_L_165 (ct_Mo_seed hv252) (RC.obj hh253 (by decide) cl_9.1) rfl rfl (rmk_ok (Nat.le_of_ble_eq_true rfl) (Nat.le_of_ble_eq_true rfl) (by show C + 0 ≤ 601024; omega) (by show D + 0 ≤ 7293034; omega)) (Nat.le_of_ble_eq_true rfl) (by show C + 0 = C; omega) (by show D + 0 = D; omega) rfl ?_
    refine g_icmp_eq 1944 dL_law__1190 (by decide) (fun q254 => ?_) (fun q254 => ?_)
    · replace hE := ife_p q254 hE
      refine g_iinc (s1.1 + (6 : Int32)) dL_law__1944 rfl (iinc_e (by decide)) rfl ?_
      refine g_goto 23 dL_law__1947 (by decide) ?_
      refine g_wd (cs' := (C + 4)) (ss' := (D + 1669)) (lw2_t (by omega) (by omega)) ?_
      exact hc ((s1.1 + (6 : Int32)), v252.2) (Option.some.inj hE).symm
    replace hE := ife_n q254 hE
    refine g_iconst (v := (0 : Int32)) dL_law__1193 (by decide) ?_
    rw [xR ((0 : Int32), v252.2) (Option.some.inj hE).symm]
    exact g_toL (g_zret dL_law__1194 rfl (Or.inl rfl) (lw2_t (by show _ ≤ 601024; omega) (by show _ ≤ 7293034; omega)))
  replace hE := ife_n q20 hE
  by_cases q21 : (v2 &&& (63 : Int32)) = (18 : Int32)
  · replace hE := ife_p q21 hE
    refine g_tabIn 1195 dL_law__40 (by rw [q21]; decide) (by rw [q21]; decide) (by rw [q21]; rfl) (by decide) ?_
    refine g_aload_n (r := x) dL_law__1195 rfl ?_
    refine g_aload_n (r := 50) dL_law__1196 rfl ?_
    refine g_iload (x := s1.1) dL_law__1197 rfl ?_
    refine g_iconst (v := (1 : Int32)) dL_law__1199 (by decide) ?_
    refine g_iadd dL_law__1200 ?_
    replace hE := bd_s hE
    obtain ⟨v255, hv255, hE⟩ := hE
    refine g_sld hscr dL_law__1201 hv255 ?_
    refine g_aload_n (r := 50) dL_law__1202 rfl ?_
    refine g_iload (x := s1.1) dL_law__1203 rfl ?_
    refine g_iconst (v := (2 : Int32)) dL_law__1205 (by decide) ?_
    refine g_iadd dL_law__1206 ?_
    replace hE := bd_s hE
    obtain ⟨v256, hv256, hE⟩ := hE
    refine g_sld hscr dL_law__1207 hv256 ?_
    refine g_aload_n (r := 50) dL_law__1208 rfl ?_
    refine g_iload (x := s1.1) dL_law__1209 rfl ?_
    refine g_iconst (v := (3 : Int32)) dL_law__1211 (by decide) ?_
    refine g_iadd dL_law__1212 ?_
    replace hE := bd_s hE
    obtain ⟨v257, hv257, hE⟩ := hE
    refine g_sld hscr dL_law__1213 hv257 ?_
    replace hE := bd_s2 hE
    obtain ⟨e16, hE, hm16⟩ := hE
    have x16 : ∀ s259 : Int32, e16 = s259 → G X m_L_main (endL X L xs (oIM r)) 1222 [.ref 50, .ref x, .ref m, .ref o, .int s1.1, .retAddr 0, .retAddr 0] [.int s259, .int v256, .int v255, .ref x] C D s1.2 := by
      intro s259 q
      replace hE := hm16 s259 q
      clear hm16
      refine g_aload_n (r := o) dL_law__1222 rfl ?_
      replace hE := bd_s hE
      obtain ⟨v260, hv260, hE⟩ := hE
      refine g_callSW (as := [.ref x, .int v255, .int v256, .int s259, .ref o]) (rvs := [.int v260.1]) (C + 2) (D + 12) dL_law__1223 yg_L_cheapest sl_L_166 ml_L_166 (ct_L_cheapest hv260) rfl rfl (rmk_ok (Nat.le_of_ble_eq_true rfl) (Nat.le_of_ble_eq_true rfl) (by show C + 2 ≤ 601024; omega) (by show D + 12 ≤ 7293034; omega)) (Nat.le_of_ble_eq_true rfl) (by show C + 2 = (C + 2); omega) (by show D + 12 = (D + 12); omega) rfl ?_
      refine g_istore dL_law__1226 rfl ?_
      refine g_aload_n (r := m) dL_law__1228 rfl ?_
      refine g_aload_n (r := 50) dL_law__1229 rfl ?_
      refine g_iload (x := s1.1) dL_law__1230 rfl ?_
      refine g_iconst (v := (1 : Int32)) dL_law__1232 (by decide) ?_
      refine g_iadd dL_law__1233 ?_
      replace hE := bd_s hE
      obtain ⟨v261, hv261, hE⟩ := hE
      refine g_sld hscr dL_law__1234 hv261 ?_
      refine g_aload_n (r := 50) dL_law__1235 rfl ?_
      refine g_iload (x := s1.1) dL_law__1236 rfl ?_
      refine g_iconst (v := (2 : Int32)) dL_law__1238 (by decide) ?_
      refine g_iadd dL_law__1239 ?_
      replace hE := bd_s hE
      obtain ⟨v262, hv262, hE⟩ := hE
      refine g_sld hscr dL_law__1240 hv262 ?_
      refine g_aload_n (r := 50) dL_law__1241 rfl ?_
      refine g_iload (x := s1.1) dL_law__1242 rfl ?_
      refine g_iconst (v := (3 : Int32)) dL_law__1244 (by decide) ?_
      refine g_iadd dL_law__1245 ?_
      replace hE := bd_s hE
      obtain ⟨v263, hv263, hE⟩ := hE
      refine g_sld hscr dL_law__1246 hv263 ?_
      replace hE := bd_s2 hE
      obtain ⟨e17, hE, hm17⟩ := hE
      have x17 : ∀ s265 : Int32, e17 = s265 → G X m_L_main (endL X L xs (oIM r)) 1255 [.ref 50, .ref x, .ref m, .ref o, .int s1.1, .int v260.1, .retAddr 0] [.int s265, .int v262, .int v261, .ref m] (C + 2) (D + 12) v260.2 := by
        intro s265 q
        replace hE := hm17 s265 q
        clear hm17
        replace hE := bd_s hE
        obtain ⟨h267, hh267, hE⟩ := hE
        replace hh267 := ck_s hh267
        replace hE := bd_s hE
        obtain ⟨v266, hv266, hE⟩ := hE
        refine g_callV (as := [.int v261, .int v262, .int s265]) (rvs := [.int v266.1]) (C + 2) (D + 12) dL_law__1255 yg_Mo_cheapest vl_L_168 (ct_Mo_cheapest hv266) (RC.obj hh267 (by decide) cl_9.1) rfl rfl (rmk_ok (Nat.le_of_ble_eq_true rfl) (Nat.le_of_ble_eq_true rfl) (by show (C + 2) + 0 ≤ 601024; omega) (by show (D + 12) + 0 ≤ 7293034; omega)) (Nat.le_of_ble_eq_true rfl) (by show (C + 2) + 0 = (C + 2); omega) (by show (D + 12) + 0 = (D + 12); omega) rfl ?_
        refine g_istore dL_law__1258 rfl ?_
        refine g_aload_n (r := m) dL_law__1260 rfl ?_
        replace hE := bd_s hE
        obtain ⟨h269, hh269, hE⟩ := hE
        replace hh269 := ck_s hh269
        replace hE := bd_s hE
        obtain ⟨v268, hv268, hE⟩ := hE
        refine g_callV (as := []) (rvs := [.int v268]) (C + 2) (D + 12) dL_law__1261 yg_Mo_thrown vl_L_111 (ct_Mo_thrown hv268) (RC.obj hh269 (by decide) cl_9.1) rfl rfl (rmk_ok (Nat.le_of_ble_eq_true rfl) (Nat.le_of_ble_eq_true rfl) (by show (C + 2) + 0 ≤ 601024; omega) (by show (D + 12) + 0 ≤ 7293034; omega)) (Nat.le_of_ble_eq_true rfl) (by show (C + 2) + 0 = (C + 2); omega) (by show (D + 12) + 0 = (D + 12); omega) rfl ?_
        refine g_iload (x := v260.1) dL_law__1264 rfl ?_
        refine g_icmp_eq 1271 dL_law__1266 (by decide) (fun q270 => ?_) (fun q270 => ?_)
        · replace hE := ife_p q270 hE
          refine g_iload (x := v260.1) dL_law__1271 rfl ?_
          replace hE := bd_s hE
          obtain ⟨b272, hE, hb18⟩ := hE
          have x18t : b272 = true → G X m_L_main (endL X L xs (oIM r)) 1286 [.ref 50, .ref x, .ref m, .ref o, .int s1.1, .int v260.1, .int v266.1] [] (C + 2) (D + 12) v266.2 := by
            intro q
            replace hE := ifb_t q hb18
            refine g_iconst (v := (0 : Int32)) dL_law__1286 (by decide) ?_
            rw [xR ((0 : Int32), v266.2) (Option.some.inj hE).symm]
            exact g_toL (g_zret dL_law__1287 rfl (Or.inl rfl) (lw2_t (by show _ ≤ 601024; omega) (by show _ ≤ 7293034; omega)))
          have x18f : b272 = false → G X m_L_main (endL X L xs (oIM r)) 1288 [.ref 50, .ref x, .ref m, .ref o, .int s1.1, .int v260.1, .int v266.1] [] (C + 2) (D + 12) v266.2 := by
            intro q
            replace hE := ifb_f q hb18
            refine g_goto 1944 dL_law__1288 (by decide) ?_
            refine g_iinc (s1.1 + (6 : Int32)) dL_law__1944 rfl (iinc_e (by decide)) rfl ?_
            refine g_goto 23 dL_law__1947 (by decide) ?_
            refine g_wd (cs' := (C + 4)) (ss' := (D + 1669)) (lw2_t (by omega) (by omega)) ?_
            refine g_msk [true, true, true, true, true, false, false] ?_
            exact hc ((s1.1 + (6 : Int32)), v266.2) (Option.some.inj hE).symm
          clear hb18
          refine g_if_ne 1288 dL_law__1273 (by decide) (fun q271 => ?_) (fun q271 => ?_)
          · replace hE := ife_n q271 hE
            exact x18f (Option.some.inj hE).symm
          replace hE := ife_p q271 hE
          refine g_aload_n (r := o) dL_law__1276 rfl ?_
          refine g_iconst (v := (0 : Int32)) dL_law__1277 (by decide) ?_
          replace hE := bd_s hE
          obtain ⟨v273, hv273, hE⟩ := hE
          refine g_aL dL_law__1278 hv273 ?_
          refine g_iload (x := v266.1) dL_law__1279 rfl ?_
          refine g_i2l dL_law__1281 ?_
          refine g_lcmp dL_law__1282 ?_
          refine g_if_eq 1288 dL_law__1283 (by decide) (fun q274 => ?_) (fun q274 => ?_)
          · replace hE := ife_p q274 hE
            exact x18f (Option.some.inj hE).symm
          replace hE := ife_n q274 hE
          exact x18t (Option.some.inj hE).symm
        replace hE := ife_n q270 hE
        refine g_iconst (v := (0 : Int32)) dL_law__1269 (by decide) ?_
        rw [xR ((0 : Int32), v266.2) (Option.some.inj hE).symm]
        exact g_toL (g_zret dL_law__1270 rfl (Or.inl rfl) (lw2_t (by show _ ≤ 601024; omega) (by show _ ≤ 7293034; omega)))
      clear hm17
      refine g_if_eq 1254 dL_law__1247 (by decide) (fun q264 => ?_) (fun q264 => ?_)
      · replace hE := ife_p q264 hE
        refine g_iconst (v := (0 : Int32)) dL_law__1254 (by decide) ?_
        exact x17 (0 : Int32) (Option.some.inj hE).symm
      replace hE := ife_n q264 hE
      refine g_iconst (v := (1 : Int32)) dL_law__1250 (by decide) ?_
      refine g_goto 1255 dL_law__1251 (by decide) ?_
      exact x17 (1 : Int32) (Option.some.inj hE).symm
    clear hm16
    refine g_if_eq 1221 dL_law__1214 (by decide) (fun q258 => ?_) (fun q258 => ?_)
    · replace hE := ife_p q258 hE
      refine g_iconst (v := (0 : Int32)) dL_law__1221 (by decide) ?_
      exact x16 (0 : Int32) (Option.some.inj hE).symm
    replace hE := ife_n q258 hE
    refine g_iconst (v := (1 : Int32)) dL_law__1217 (by decide) ?_
    refine g_goto 1222 dL_law__1218 (by decide) ?_
    exact x16 (1 : Int32) (Option.some.inj hE).symm
  replace hE := ife_n q21 hE
  by_cases q22 : (v2 &&& (63 : Int32)) = (19 : Int32)
  · replace hE := ife_p q22 hE
    refine g_tabIn 1291 dL_law__40 (by rw [q22]; decide) (by rw [q22]; decide) (by rw [q22]; rfl) (by decide) ?_
    refine g_aload_n (r := x) dL_law__1291 rfl ?_
    refine g_aload_n (r := 50) dL_law__1292 rfl ?_
    refine g_iload (x := s1.1) dL_law__1293 rfl ?_
    refine g_iconst (v := (1 : Int32)) dL_law__1295 (by decide) ?_
    refine g_iadd dL_law__1296 ?_
    replace hE := bd_s hE
    obtain ⟨v275, hv275, hE⟩ := hE
    refine g_sld hscr dL_law__1297 hv275 ?_
    refine g_aload_n (r := 50) dL_law__1298 rfl ?_
    refine g_iload (x := s1.1) dL_law__1299 rfl ?_
    refine g_iconst (v := (2 : Int32)) dL_law__1301 (by decide) ?_
    refine g_iadd dL_law__1302 ?_
    replace hE := bd_s hE
    obtain ⟨v276, hv276, hE⟩ := hE
    refine g_sld hscr dL_law__1303 hv276 ?_
    refine g_aload_n (r := 50) dL_law__1304 rfl ?_
    refine g_iload (x := s1.1) dL_law__1305 rfl ?_
    refine g_iconst (v := (3 : Int32)) dL_law__1307 (by decide) ?_
    refine g_iadd dL_law__1308 ?_
    replace hE := bd_s hE
    obtain ⟨v277, hv277, hE⟩ := hE
    refine g_sld hscr dL_law__1309 hv277 ?_
    replace hE := bd_s2 hE
    obtain ⟨e19, hE, hm19⟩ := hE
    have x19 : ∀ s279 : Int32, e19 = s279 → G X m_L_main (endL X L xs (oIM r)) 1318 [.ref 50, .ref x, .ref m, .ref o, .int s1.1, .retAddr 0, .retAddr 0] [.int s279, .int v276, .int v275, .ref x] C D s1.2 := by
      intro s279 q
      replace hE := hm19 s279 q
      clear hm19
      refine g_aload_n (r := o) dL_law__1318 rfl ?_
      replace hE := bd_s hE
      obtain ⟨v280, hv280, hE⟩ := hE
      refine g_callSW (as := [.ref x, .int v275, .int v276, .int s279, .ref o]) (rvs := [.int v280.1]) (C + 1) (D + 6) dL_law__1319 yg_L_convoy sl_L_169 ml_L_169 (ct_L_convoy hv280) rfl rfl (rmk_ok (Nat.le_of_ble_eq_true rfl) (Nat.le_of_ble_eq_true rfl) (by show C + 1 ≤ 601024; omega) (by show D + 6 ≤ 7293034; omega)) (Nat.le_of_ble_eq_true rfl) (by show C + 1 = (C + 1); omega) (by show D + 6 = (D + 6); omega) rfl ?_
      refine g_istore dL_law__1322 rfl ?_
      refine g_aload_n (r := m) dL_law__1324 rfl ?_
      refine g_aload_n (r := 50) dL_law__1325 rfl ?_
      refine g_iload (x := s1.1) dL_law__1326 rfl ?_
      refine g_iconst (v := (1 : Int32)) dL_law__1328 (by decide) ?_
      refine g_iadd dL_law__1329 ?_
      replace hE := bd_s hE
      obtain ⟨v281, hv281, hE⟩ := hE
      refine g_sld hscr dL_law__1330 hv281 ?_
      refine g_aload_n (r := 50) dL_law__1331 rfl ?_
      refine g_iload (x := s1.1) dL_law__1332 rfl ?_
      refine g_iconst (v := (2 : Int32)) dL_law__1334 (by decide) ?_
      refine g_iadd dL_law__1335 ?_
      replace hE := bd_s hE
      obtain ⟨v282, hv282, hE⟩ := hE
      refine g_sld hscr dL_law__1336 hv282 ?_
      refine g_aload_n (r := 50) dL_law__1337 rfl ?_
      refine g_iload (x := s1.1) dL_law__1338 rfl ?_
      refine g_iconst (v := (3 : Int32)) dL_law__1340 (by decide) ?_
      refine g_iadd dL_law__1341 ?_
      replace hE := bd_s hE
      obtain ⟨v283, hv283, hE⟩ := hE
      refine g_sld hscr dL_law__1342 hv283 ?_
      replace hE := bd_s2 hE
      obtain ⟨e20, hE, hm20⟩ := hE
      have x20 : ∀ s285 : Int32, e20 = s285 → G X m_L_main (endL X L xs (oIM r)) 1351 [.ref 50, .ref x, .ref m, .ref o, .int s1.1, .int v280.1, .retAddr 0] [.int s285, .int v282, .int v281, .ref m] (C + 1) (D + 6) v280.2 := by
        intro s285 q
        replace hE := hm20 s285 q
        clear hm20
        replace hE := bd_s hE
        obtain ⟨h287, hh287, hE⟩ := hE
        replace hh287 := ck_s hh287
        replace hE := bd_s hE
        obtain ⟨v286, hv286, hE⟩ := hE
        refine g_callV (as := [.int v281, .int v282, .int s285]) (rvs := [.int v286.1]) (C + 1) (D + 6) dL_law__1351 yg_Mo_convoy vl_L_171 (ct_Mo_convoy hv286) (RC.obj hh287 (by decide) cl_9.1) rfl rfl (rmk_ok (Nat.le_of_ble_eq_true rfl) (Nat.le_of_ble_eq_true rfl) (by show (C + 1) + 0 ≤ 601024; omega) (by show (D + 6) + 0 ≤ 7293034; omega)) (Nat.le_of_ble_eq_true rfl) (by show (C + 1) + 0 = (C + 1); omega) (by show (D + 6) + 0 = (D + 6); omega) rfl ?_
        refine g_istore dL_law__1354 rfl ?_
        refine g_aload_n (r := m) dL_law__1356 rfl ?_
        replace hE := bd_s hE
        obtain ⟨h289, hh289, hE⟩ := hE
        replace hh289 := ck_s hh289
        replace hE := bd_s hE
        obtain ⟨v288, hv288, hE⟩ := hE
        refine g_callV (as := []) (rvs := [.int v288]) (C + 1) (D + 6) dL_law__1357 yg_Mo_thrown vl_L_111 (ct_Mo_thrown hv288) (RC.obj hh289 (by decide) cl_9.1) rfl rfl (rmk_ok (Nat.le_of_ble_eq_true rfl) (Nat.le_of_ble_eq_true rfl) (by show (C + 1) + 0 ≤ 601024; omega) (by show (D + 6) + 0 ≤ 7293034; omega)) (Nat.le_of_ble_eq_true rfl) (by show (C + 1) + 0 = (C + 1); omega) (by show (D + 6) + 0 = (D + 6); omega) rfl ?_
        refine g_iload (x := v280.1) dL_law__1360 rfl ?_
        refine g_icmp_eq 1367 dL_law__1362 (by decide) (fun q290 => ?_) (fun q290 => ?_)
        · replace hE := ife_p q290 hE
          refine g_iload (x := v280.1) dL_law__1367 rfl ?_
          replace hE := bd_s hE
          obtain ⟨b292, hE, hb21⟩ := hE
          have x21t : b292 = true → G X m_L_main (endL X L xs (oIM r)) 1382 [.ref 50, .ref x, .ref m, .ref o, .int s1.1, .int v280.1, .int v286.1] [] (C + 1) (D + 6) v286.2 := by
            intro q
            replace hE := ifb_t q hb21
            refine g_iconst (v := (0 : Int32)) dL_law__1382 (by decide) ?_
            rw [xR ((0 : Int32), v286.2) (Option.some.inj hE).symm]
            exact g_toL (g_zret dL_law__1383 rfl (Or.inl rfl) (lw2_t (by show _ ≤ 601024; omega) (by show _ ≤ 7293034; omega)))
          have x21f : b292 = false → G X m_L_main (endL X L xs (oIM r)) 1384 [.ref 50, .ref x, .ref m, .ref o, .int s1.1, .int v280.1, .int v286.1] [] (C + 1) (D + 6) v286.2 := by
            intro q
            replace hE := ifb_f q hb21
            refine g_goto 1944 dL_law__1384 (by decide) ?_
            refine g_iinc (s1.1 + (6 : Int32)) dL_law__1944 rfl (iinc_e (by decide)) rfl ?_
            refine g_goto 23 dL_law__1947 (by decide) ?_
            refine g_wd (cs' := (C + 4)) (ss' := (D + 1669)) (lw2_t (by omega) (by omega)) ?_
            refine g_msk [true, true, true, true, true, false, false] ?_
            exact hc ((s1.1 + (6 : Int32)), v286.2) (Option.some.inj hE).symm
          clear hb21
          refine g_if_ne 1384 dL_law__1369 (by decide) (fun q291 => ?_) (fun q291 => ?_)
          · replace hE := ife_n q291 hE
            exact x21f (Option.some.inj hE).symm
          replace hE := ife_p q291 hE
          refine g_aload_n (r := o) dL_law__1372 rfl ?_
          refine g_iconst (v := (0 : Int32)) dL_law__1373 (by decide) ?_
          replace hE := bd_s hE
          obtain ⟨v293, hv293, hE⟩ := hE
          refine g_aL dL_law__1374 hv293 ?_
          refine g_iload (x := v286.1) dL_law__1375 rfl ?_
          refine g_i2l dL_law__1377 ?_
          refine g_lcmp dL_law__1378 ?_
          refine g_if_eq 1384 dL_law__1379 (by decide) (fun q294 => ?_) (fun q294 => ?_)
          · replace hE := ife_p q294 hE
            exact x21f (Option.some.inj hE).symm
          replace hE := ife_n q294 hE
          exact x21t (Option.some.inj hE).symm
        replace hE := ife_n q290 hE
        refine g_iconst (v := (0 : Int32)) dL_law__1365 (by decide) ?_
        rw [xR ((0 : Int32), v286.2) (Option.some.inj hE).symm]
        exact g_toL (g_zret dL_law__1366 rfl (Or.inl rfl) (lw2_t (by show _ ≤ 601024; omega) (by show _ ≤ 7293034; omega)))
      clear hm20
      refine g_if_eq 1350 dL_law__1343 (by decide) (fun q284 => ?_) (fun q284 => ?_)
      · replace hE := ife_p q284 hE
        refine g_iconst (v := (0 : Int32)) dL_law__1350 (by decide) ?_
        exact x20 (0 : Int32) (Option.some.inj hE).symm
      replace hE := ife_n q284 hE
      refine g_iconst (v := (1 : Int32)) dL_law__1346 (by decide) ?_
      refine g_goto 1351 dL_law__1347 (by decide) ?_
      exact x20 (1 : Int32) (Option.some.inj hE).symm
    clear hm19
    refine g_if_eq 1317 dL_law__1310 (by decide) (fun q278 => ?_) (fun q278 => ?_)
    · replace hE := ife_p q278 hE
      refine g_iconst (v := (0 : Int32)) dL_law__1317 (by decide) ?_
      exact x19 (0 : Int32) (Option.some.inj hE).symm
    replace hE := ife_n q278 hE
    refine g_iconst (v := (1 : Int32)) dL_law__1313 (by decide) ?_
    refine g_goto 1318 dL_law__1314 (by decide) ?_
    exact x19 (1 : Int32) (Option.some.inj hE).symm
  replace hE := ife_n q22 hE
  by_cases q23 : (v2 &&& (63 : Int32)) = (20 : Int32)
  · replace hE := ife_p q23 hE
    refine g_tabIn 1387 dL_law__40 (by rw [q23]; decide) (by rw [q23]; decide) (by rw [q23]; rfl) (by decide) ?_
    refine g_aload_n (r := x) dL_law__1387 rfl ?_
    refine g_aload_n (r := 50) dL_law__1388 rfl ?_
    refine g_iload (x := s1.1) dL_law__1389 rfl ?_
    refine g_iconst (v := (1 : Int32)) dL_law__1391 (by decide) ?_
    refine g_iadd dL_law__1392 ?_
    replace hE := bd_s hE
    obtain ⟨v295, hv295, hE⟩ := hE
    refine g_sld hscr dL_law__1393 hv295 ?_
    refine g_aload_n (r := 50) dL_law__1394 rfl ?_
    refine g_iload (x := s1.1) dL_law__1395 rfl ?_
    refine g_iconst (v := (2 : Int32)) dL_law__1397 (by decide) ?_
    refine g_iadd dL_law__1398 ?_
    replace hE := bd_s hE
    obtain ⟨v296, hv296, hE⟩ := hE
    refine g_sld hscr dL_law__1399 hv296 ?_
    refine g_aload_n (r := 50) dL_law__1400 rfl ?_
    refine g_iload (x := s1.1) dL_law__1401 rfl ?_
    refine g_iconst (v := (3 : Int32)) dL_law__1403 (by decide) ?_
    refine g_iadd dL_law__1404 ?_
    replace hE := bd_s hE
    obtain ⟨v297, hv297, hE⟩ := hE
    refine g_sld hscr dL_law__1405 hv297 ?_
    refine g_aload_n (r := o) dL_law__1406 rfl ?_
    replace hE := bd_s hE
    obtain ⟨v298, hv298, hE⟩ := hE
    refine g_callSW (as := [.ref x, .int v295, .int v296, .int v297, .ref o]) (rvs := [.int v298.1]) (C + 3) (D + 18) dL_law__1407 yg_L_tries sl_L_172 ml_L_172 (ct_L_tries hv298) rfl rfl (rmk_ok (Nat.le_of_ble_eq_true rfl) (Nat.le_of_ble_eq_true rfl) (by show C + 3 ≤ 601024; omega) (by show D + 18 ≤ 7293034; omega)) (Nat.le_of_ble_eq_true rfl) (by show C + 3 = (C + 3); omega) (by show D + 18 = (D + 18); omega) rfl ?_
    refine g_istore dL_law__1410 rfl ?_
    refine g_aload_n (r := m) dL_law__1412 rfl ?_
    refine g_aload_n (r := 50) dL_law__1413 rfl ?_
    refine g_iload (x := s1.1) dL_law__1414 rfl ?_
    refine g_iconst (v := (1 : Int32)) dL_law__1416 (by decide) ?_
    refine g_iadd dL_law__1417 ?_
    replace hE := bd_s hE
    obtain ⟨v299, hv299, hE⟩ := hE
    refine g_sld hscr dL_law__1418 hv299 ?_
    refine g_aload_n (r := 50) dL_law__1419 rfl ?_
    refine g_iload (x := s1.1) dL_law__1420 rfl ?_
    refine g_iconst (v := (2 : Int32)) dL_law__1422 (by decide) ?_
    refine g_iadd dL_law__1423 ?_
    replace hE := bd_s hE
    obtain ⟨v300, hv300, hE⟩ := hE
    refine g_sld hscr dL_law__1424 hv300 ?_
    refine g_aload_n (r := 50) dL_law__1425 rfl ?_
    refine g_iload (x := s1.1) dL_law__1426 rfl ?_
    refine g_iconst (v := (3 : Int32)) dL_law__1428 (by decide) ?_
    refine g_iadd dL_law__1429 ?_
    replace hE := bd_s hE
    obtain ⟨v301, hv301, hE⟩ := hE
    refine g_sld hscr dL_law__1430 hv301 ?_
    replace hE := bd_s hE
    obtain ⟨h303, hh303, hE⟩ := hE
    replace hh303 := ck_s hh303
    replace hE := bd_s hE
    obtain ⟨v302, hv302, hE⟩ := hE
    refine g_callV (as := [.int v299, .int v300, .int v301]) (rvs := [.int v302.1]) (C + 3) (D + 18) dL_law__1431 yg_Mo_tries vl_L_174 (ct_Mo_tries hv302) (RC.obj hh303 (by decide) cl_9.1) rfl rfl (rmk_ok (Nat.le_of_ble_eq_true rfl) (Nat.le_of_ble_eq_true rfl) (by show (C + 3) + 0 ≤ 601024; omega) (by show (D + 18) + 0 ≤ 7293034; omega)) (Nat.le_of_ble_eq_true rfl) (by show (C + 3) + 0 = (C + 3); omega) (by show (D + 18) + 0 = (D + 18); omega) rfl ?_
    refine g_istore dL_law__1434 rfl ?_
    refine g_aload_n (r := m) dL_law__1436 rfl ?_
    replace hE := bd_s hE
    obtain ⟨h305, hh305, hE⟩ := hE
    replace hh305 := ck_s hh305
    replace hE := bd_s hE
    obtain ⟨v304, hv304, hE⟩ := hE
    refine g_callV (as := []) (rvs := [.int v304]) (C + 3) (D + 18) dL_law__1437 yg_Mo_thrown vl_L_111 (ct_Mo_thrown hv304) (RC.obj hh305 (by decide) cl_9.1) rfl rfl (rmk_ok (Nat.le_of_ble_eq_true rfl) (Nat.le_of_ble_eq_true rfl) (by show (C + 3) + 0 ≤ 601024; omega) (by show (D + 18) + 0 ≤ 7293034; omega)) (Nat.le_of_ble_eq_true rfl) (by show (C + 3) + 0 = (C + 3); omega) (by show (D + 18) + 0 = (D + 18); omega) rfl ?_
    refine g_iload (x := v298.1) dL_law__1440 rfl ?_
    refine g_icmp_eq 1447 dL_law__1442 (by decide) (fun q306 => ?_) (fun q306 => ?_)
    · replace hE := ife_p q306 hE
      refine g_iload (x := v298.1) dL_law__1447 rfl ?_
      replace hE := bd_s hE
      obtain ⟨b308, hE, hb22⟩ := hE
      have x22t : b308 = true → G X m_L_main (endL X L xs (oIM r)) 1462 [.ref 50, .ref x, .ref m, .ref o, .int s1.1, .int v298.1, .int v302.1] [] (C + 3) (D + 18) v302.2 := by
        intro q
        replace hE := ifb_t q hb22
        refine g_iconst (v := (0 : Int32)) dL_law__1462 (by decide) ?_
        rw [xR ((0 : Int32), v302.2) (Option.some.inj hE).symm]
        exact g_toL (g_zret dL_law__1463 rfl (Or.inl rfl) (lw2_t (by show _ ≤ 601024; omega) (by show _ ≤ 7293034; omega)))
      have x22f : b308 = false → G X m_L_main (endL X L xs (oIM r)) 1464 [.ref 50, .ref x, .ref m, .ref o, .int s1.1, .int v298.1, .int v302.1] [] (C + 3) (D + 18) v302.2 := by
        intro q
        replace hE := ifb_f q hb22
        refine g_goto 1944 dL_law__1464 (by decide) ?_
        refine g_iinc (s1.1 + (6 : Int32)) dL_law__1944 rfl (iinc_e (by decide)) rfl ?_
        refine g_goto 23 dL_law__1947 (by decide) ?_
        refine g_wd (cs' := (C + 4)) (ss' := (D + 1669)) (lw2_t (by omega) (by omega)) ?_
        refine g_msk [true, true, true, true, true, false, false] ?_
        exact hc ((s1.1 + (6 : Int32)), v302.2) (Option.some.inj hE).symm
      clear hb22
      refine g_if_ne 1464 dL_law__1449 (by decide) (fun q307 => ?_) (fun q307 => ?_)
      · replace hE := ife_n q307 hE
        exact x22f (Option.some.inj hE).symm
      replace hE := ife_p q307 hE
      refine g_aload_n (r := o) dL_law__1452 rfl ?_
      refine g_iconst (v := (0 : Int32)) dL_law__1453 (by decide) ?_
      replace hE := bd_s hE
      obtain ⟨v309, hv309, hE⟩ := hE
      refine g_aL dL_law__1454 hv309 ?_
      refine g_iload (x := v302.1) dL_law__1455 rfl ?_
      refine g_i2l dL_law__1457 ?_
      refine g_lcmp dL_law__1458 ?_
      refine g_if_eq 1464 dL_law__1459 (by decide) (fun q310 => ?_) (fun q310 => ?_)
      · replace hE := ife_p q310 hE
        exact x22f (Option.some.inj hE).symm
      replace hE := ife_n q310 hE
      exact x22t (Option.some.inj hE).symm
    replace hE := ife_n q306 hE
    refine g_iconst (v := (0 : Int32)) dL_law__1445 (by decide) ?_
    rw [xR ((0 : Int32), v302.2) (Option.some.inj hE).symm]
    exact g_toL (g_zret dL_law__1446 rfl (Or.inl rfl) (lw2_t (by show _ ≤ 601024; omega) (by show _ ≤ 7293034; omega)))
  replace hE := ife_n q23 hE
  by_cases q24 : (v2 &&& (63 : Int32)) = (21 : Int32)
  · replace hE := ife_p q24 hE
    refine g_tabIn 1467 dL_law__40 (by rw [q24]; decide) (by rw [q24]; decide) (by rw [q24]; rfl) (by decide) ?_
    refine g_aload_n (r := x) dL_law__1467 rfl ?_
    refine g_aload_n (r := 50) dL_law__1468 rfl ?_
    refine g_iload (x := s1.1) dL_law__1469 rfl ?_
    refine g_iconst (v := (1 : Int32)) dL_law__1471 (by decide) ?_
    refine g_iadd dL_law__1472 ?_
    replace hE := bd_s hE
    obtain ⟨v311, hv311, hE⟩ := hE
    refine g_sld hscr dL_law__1473 hv311 ?_
    replace hE := bd_s hE
    obtain ⟨h313, hh313, hE⟩ := hE
    replace hh313 := ck_s hh313
    replace hE := bd_s hE
    obtain ⟨v312, hv312, hE⟩ := hE
    refine g_callV (as := [.int v311]) (rvs := [.int v312]) C D dL_law__1474 yg_RR_bring vl_L_175 (ct_RR_bring hv312) (RC.obj hh313 (by decide) cl_8.1) rfl rfl (rmk_ok (Nat.le_of_ble_eq_true rfl) (Nat.le_of_ble_eq_true rfl) (by show C + 0 ≤ 601024; omega) (by show D + 0 ≤ 7293034; omega)) (Nat.le_of_ble_eq_true rfl) (by show C + 0 = C; omega) (by show D + 0 = D; omega) rfl ?_
    refine g_aload_n (r := m) dL_law__1477 rfl ?_
    refine g_aload_n (r := 50) dL_law__1478 rfl ?_
    refine g_iload (x := s1.1) dL_law__1479 rfl ?_
    refine g_iconst (v := (1 : Int32)) dL_law__1481 (by decide) ?_
    refine g_iadd dL_law__1482 ?_
    replace hE := bd_s hE
    obtain ⟨v314, hv314, hE⟩ := hE
    refine g_sld hscr dL_law__1483 hv314 ?_
    replace hE := bd_s hE
    obtain ⟨h316, hh316, hE⟩ := hE
    replace hh316 := ck_s hh316
    replace hE := bd_s hE
    obtain ⟨v315, hv315, hE⟩ := hE
    refine g_callV (as := [.int v314]) (rvs := [.int v315.1]) C D dL_law__1484 yg_Mo_bring vl_L_178 (ct_Mo_bring hv315) (RC.obj hh316 (by decide) cl_9.1) rfl rfl (rmk_ok (Nat.le_of_ble_eq_true rfl) (Nat.le_of_ble_eq_true rfl) (by show C + 0 ≤ 601024; omega) (by show D + 0 ≤ 7293034; omega)) (Nat.le_of_ble_eq_true rfl) (by show C + 0 = C; omega) (by show D + 0 = D; omega) rfl ?_
    refine g_icmp_eq 1944 dL_law__1487 (by decide) (fun q317 => ?_) (fun q317 => ?_)
    · replace hE := ife_p q317 hE
      refine g_iinc (s1.1 + (6 : Int32)) dL_law__1944 rfl (iinc_e (by decide)) rfl ?_
      refine g_goto 23 dL_law__1947 (by decide) ?_
      refine g_wd (cs' := (C + 4)) (ss' := (D + 1669)) (lw2_t (by omega) (by omega)) ?_
      exact hc ((s1.1 + (6 : Int32)), v315.2) (Option.some.inj hE).symm
    replace hE := ife_n q317 hE
    refine g_iconst (v := (0 : Int32)) dL_law__1490 (by decide) ?_
    rw [xR ((0 : Int32), v315.2) (Option.some.inj hE).symm]
    exact g_toL (g_zret dL_law__1491 rfl (Or.inl rfl) (lw2_t (by show _ ≤ 601024; omega) (by show _ ≤ 7293034; omega)))
  replace hE := ife_n q24 hE
  by_cases q25 : (v2 &&& (63 : Int32)) = (22 : Int32)
  · replace hE := ife_p q25 hE
    refine g_tabIn 1492 dL_law__40 (by rw [q25]; decide) (by rw [q25]; decide) (by rw [q25]; rfl) (by decide) ?_
    refine g_aload_n (r := x) dL_law__1492 rfl ?_
    refine g_aload_n (r := 50) dL_law__1493 rfl ?_
    refine g_iload (x := s1.1) dL_law__1494 rfl ?_
    refine g_iconst (v := (1 : Int32)) dL_law__1496 (by decide) ?_
    refine g_iadd dL_law__1497 ?_
    replace hE := bd_s hE
    obtain ⟨v318, hv318, hE⟩ := hE
    refine g_sld hscr dL_law__1498 hv318 ?_
    refine g_aload_n (r := o) dL_law__1499 rfl ?_
    replace hE := bd_s hE
    obtain ⟨v319, hv319, hE⟩ := hE
    refine g_callSW (as := [.ref x, .int v318, .ref o]) (rvs := [.int v319.1]) (C + 1) (D + 6) dL_law__1500 yg_L_apart sl_L_179 ml_L_179 (ct_L_apart hv319) rfl rfl (rmk_ok (Nat.le_of_ble_eq_true rfl) (Nat.le_of_ble_eq_true rfl) (by show C + 1 ≤ 601024; omega) (by show D + 6 ≤ 7293034; omega)) (Nat.le_of_ble_eq_true rfl) (by show C + 1 = (C + 1); omega) (by show D + 6 = (D + 6); omega) rfl ?_
    refine g_istore dL_law__1503 rfl ?_
    refine g_aload_n (r := m) dL_law__1505 rfl ?_
    refine g_aload_n (r := 50) dL_law__1506 rfl ?_
    refine g_iload (x := s1.1) dL_law__1507 rfl ?_
    refine g_iconst (v := (1 : Int32)) dL_law__1509 (by decide) ?_
    refine g_iadd dL_law__1510 ?_
    replace hE := bd_s hE
    obtain ⟨v320, hv320, hE⟩ := hE
    refine g_sld hscr dL_law__1511 hv320 ?_
    replace hE := bd_s hE
    obtain ⟨h322, hh322, hE⟩ := hE
    replace hh322 := ck_s hh322
    replace hE := bd_s hE
    obtain ⟨v321, hv321, hE⟩ := hE
    refine g_callV (as := [.int v320]) (rvs := [.int v321.1]) (C + 1) (D + 6) dL_law__1512 yg_Mo_apart vl_L_181 (ct_Mo_apart hv321) (RC.obj hh322 (by decide) cl_9.1) rfl rfl (rmk_ok (Nat.le_of_ble_eq_true rfl) (Nat.le_of_ble_eq_true rfl) (by show (C + 1) + 0 ≤ 601024; omega) (by show (D + 6) + 0 ≤ 7293034; omega)) (Nat.le_of_ble_eq_true rfl) (by show (C + 1) + 0 = (C + 1); omega) (by show (D + 6) + 0 = (D + 6); omega) rfl ?_
    refine g_istore dL_law__1515 rfl ?_
    refine g_aload_n (r := m) dL_law__1517 rfl ?_
    replace hE := bd_s hE
    obtain ⟨h324, hh324, hE⟩ := hE
    replace hh324 := ck_s hh324
    replace hE := bd_s hE
    obtain ⟨v323, hv323, hE⟩ := hE
    refine g_callV (as := []) (rvs := [.int v323]) (C + 1) (D + 6) dL_law__1518 yg_Mo_thrown vl_L_111 (ct_Mo_thrown hv323) (RC.obj hh324 (by decide) cl_9.1) rfl rfl (rmk_ok (Nat.le_of_ble_eq_true rfl) (Nat.le_of_ble_eq_true rfl) (by show (C + 1) + 0 ≤ 601024; omega) (by show (D + 6) + 0 ≤ 7293034; omega)) (Nat.le_of_ble_eq_true rfl) (by show (C + 1) + 0 = (C + 1); omega) (by show (D + 6) + 0 = (D + 6); omega) rfl ?_
    refine g_iload (x := v319.1) dL_law__1521 rfl ?_
    refine g_icmp_eq 1528 dL_law__1523 (by decide) (fun q325 => ?_) (fun q325 => ?_)
    · replace hE := ife_p q325 hE
      refine g_iload (x := v319.1) dL_law__1528 rfl ?_
      replace hE := bd_s hE
      obtain ⟨b327, hE, hb23⟩ := hE
      have x23t : b327 = true → G X m_L_main (endL X L xs (oIM r)) 1543 [.ref 50, .ref x, .ref m, .ref o, .int s1.1, .int v319.1, .int v321.1] [] (C + 1) (D + 6) v321.2 := by
        intro q
        replace hE := ifb_t q hb23
        refine g_iconst (v := (0 : Int32)) dL_law__1543 (by decide) ?_
        rw [xR ((0 : Int32), v321.2) (Option.some.inj hE).symm]
        exact g_toL (g_zret dL_law__1544 rfl (Or.inl rfl) (lw2_t (by show _ ≤ 601024; omega) (by show _ ≤ 7293034; omega)))
      have x23f : b327 = false → G X m_L_main (endL X L xs (oIM r)) 1545 [.ref 50, .ref x, .ref m, .ref o, .int s1.1, .int v319.1, .int v321.1] [] (C + 1) (D + 6) v321.2 := by
        intro q
        replace hE := ifb_f q hb23
        refine g_goto 1944 dL_law__1545 (by decide) ?_
        refine g_iinc (s1.1 + (6 : Int32)) dL_law__1944 rfl (iinc_e (by decide)) rfl ?_
        refine g_goto 23 dL_law__1947 (by decide) ?_
        refine g_wd (cs' := (C + 4)) (ss' := (D + 1669)) (lw2_t (by omega) (by omega)) ?_
        refine g_msk [true, true, true, true, true, false, false] ?_
        exact hc ((s1.1 + (6 : Int32)), v321.2) (Option.some.inj hE).symm
      clear hb23
      refine g_if_ne 1545 dL_law__1530 (by decide) (fun q326 => ?_) (fun q326 => ?_)
      · replace hE := ife_n q326 hE
        exact x23f (Option.some.inj hE).symm
      replace hE := ife_p q326 hE
      refine g_aload_n (r := o) dL_law__1533 rfl ?_
      refine g_iconst (v := (0 : Int32)) dL_law__1534 (by decide) ?_
      replace hE := bd_s hE
      obtain ⟨v328, hv328, hE⟩ := hE
      refine g_aL dL_law__1535 hv328 ?_
      refine g_iload (x := v321.1) dL_law__1536 rfl ?_
      refine g_i2l dL_law__1538 ?_
      refine g_lcmp dL_law__1539 ?_
      refine g_if_eq 1545 dL_law__1540 (by decide) (fun q329 => ?_) (fun q329 => ?_)
      · replace hE := ife_p q329 hE
        exact x23f (Option.some.inj hE).symm
      replace hE := ife_n q329 hE
      exact x23t (Option.some.inj hE).symm
    replace hE := ife_n q325 hE
    refine g_iconst (v := (0 : Int32)) dL_law__1526 (by decide) ?_
    rw [xR ((0 : Int32), v321.2) (Option.some.inj hE).symm]
    exact g_toL (g_zret dL_law__1527 rfl (Or.inl rfl) (lw2_t (by show _ ≤ 601024; omega) (by show _ ≤ 7293034; omega)))
  replace hE := ife_n q25 hE
  by_cases q26 : (v2 &&& (63 : Int32)) = (23 : Int32)
  · replace hE := ife_p q26 hE
    refine g_tabIn 1548 dL_law__40 (by rw [q26]; decide) (by rw [q26]; decide) (by rw [q26]; rfl) (by decide) ?_
    refine g_aload_n (r := x) dL_law__1548 rfl ?_
    refine g_aload_n (r := o) dL_law__1549 rfl ?_
    replace hE := bd_s hE
    obtain ⟨v330, hv330, hE⟩ := hE
    refine g_callSW (as := [.ref x, .ref o]) (rvs := [.int v330.1]) (C + 1) (D + 6) dL_law__1550 yg_L_chain sl_L_182 ml_L_182 (ct_L_chain hv330) rfl rfl (rmk_ok (Nat.le_of_ble_eq_true rfl) (Nat.le_of_ble_eq_true rfl) (by show C + 1 ≤ 601024; omega) (by show D + 6 ≤ 7293034; omega)) (Nat.le_of_ble_eq_true rfl) (by show C + 1 = (C + 1); omega) (by show D + 6 = (D + 6); omega) rfl ?_
    refine g_istore dL_law__1553 rfl ?_
    refine g_aload_n (r := m) dL_law__1555 rfl ?_
    replace hE := bd_s hE
    obtain ⟨h332, hh332, hE⟩ := hE
    replace hh332 := ck_s hh332
    replace hE := bd_s hE
    obtain ⟨v331, hv331, hE⟩ := hE
    refine g_callV (as := []) (rvs := [.int v331.1]) (C + 1) (D + 6) dL_law__1556 yg_Mo_chain vl_L_184 (ct_Mo_chain hv331) (RC.obj hh332 (by decide) cl_9.1) rfl rfl (rmk_ok (Nat.le_of_ble_eq_true rfl) (Nat.le_of_ble_eq_true rfl) (by show (C + 1) + 0 ≤ 601024; omega) (by show (D + 6) + 0 ≤ 7293034; omega)) (Nat.le_of_ble_eq_true rfl) (by show (C + 1) + 0 = (C + 1); omega) (by show (D + 6) + 0 = (D + 6); omega) rfl ?_
    refine g_istore dL_law__1559 rfl ?_
    refine g_aload_n (r := m) dL_law__1561 rfl ?_
    replace hE := bd_s hE
    obtain ⟨h334, hh334, hE⟩ := hE
    replace hh334 := ck_s hh334
    replace hE := bd_s hE
    obtain ⟨v333, hv333, hE⟩ := hE
    refine g_callV (as := []) (rvs := [.int v333]) (C + 1) (D + 6) dL_law__1562 yg_Mo_thrown vl_L_111 (ct_Mo_thrown hv333) (RC.obj hh334 (by decide) cl_9.1) rfl rfl (rmk_ok (Nat.le_of_ble_eq_true rfl) (Nat.le_of_ble_eq_true rfl) (by show (C + 1) + 0 ≤ 601024; omega) (by show (D + 6) + 0 ≤ 7293034; omega)) (Nat.le_of_ble_eq_true rfl) (by show (C + 1) + 0 = (C + 1); omega) (by show (D + 6) + 0 = (D + 6); omega) rfl ?_
    refine g_iload (x := v330.1) dL_law__1565 rfl ?_
    refine g_icmp_eq 1572 dL_law__1567 (by decide) (fun q335 => ?_) (fun q335 => ?_)
    · replace hE := ife_p q335 hE
      refine g_iload (x := v330.1) dL_law__1572 rfl ?_
      replace hE := bd_s hE
      obtain ⟨b337, hE, hb24⟩ := hE
      have x24t : b337 = true → G X m_L_main (endL X L xs (oIM r)) 1587 [.ref 50, .ref x, .ref m, .ref o, .int s1.1, .int v330.1, .int v331.1] [] (C + 1) (D + 6) v331.2 := by
        intro q
        replace hE := ifb_t q hb24
        refine g_iconst (v := (0 : Int32)) dL_law__1587 (by decide) ?_
        rw [xR ((0 : Int32), v331.2) (Option.some.inj hE).symm]
        exact g_toL (g_zret dL_law__1588 rfl (Or.inl rfl) (lw2_t (by show _ ≤ 601024; omega) (by show _ ≤ 7293034; omega)))
      have x24f : b337 = false → G X m_L_main (endL X L xs (oIM r)) 1589 [.ref 50, .ref x, .ref m, .ref o, .int s1.1, .int v330.1, .int v331.1] [] (C + 1) (D + 6) v331.2 := by
        intro q
        replace hE := ifb_f q hb24
        refine g_goto 1944 dL_law__1589 (by decide) ?_
        refine g_iinc (s1.1 + (6 : Int32)) dL_law__1944 rfl (iinc_e (by decide)) rfl ?_
        refine g_goto 23 dL_law__1947 (by decide) ?_
        refine g_wd (cs' := (C + 4)) (ss' := (D + 1669)) (lw2_t (by omega) (by omega)) ?_
        refine g_msk [true, true, true, true, true, false, false] ?_
        exact hc ((s1.1 + (6 : Int32)), v331.2) (Option.some.inj hE).symm
      clear hb24
      refine g_if_ne 1589 dL_law__1574 (by decide) (fun q336 => ?_) (fun q336 => ?_)
      · replace hE := ife_n q336 hE
        exact x24f (Option.some.inj hE).symm
      replace hE := ife_p q336 hE
      refine g_aload_n (r := o) dL_law__1577 rfl ?_
      refine g_iconst (v := (0 : Int32)) dL_law__1578 (by decide) ?_
      replace hE := bd_s hE
      obtain ⟨v338, hv338, hE⟩ := hE
      refine g_aL dL_law__1579 hv338 ?_
      refine g_iload (x := v331.1) dL_law__1580 rfl ?_
      refine g_i2l dL_law__1582 ?_
      refine g_lcmp dL_law__1583 ?_
      refine g_if_eq 1589 dL_law__1584 (by decide) (fun q339 => ?_) (fun q339 => ?_)
      · replace hE := ife_p q339 hE
        exact x24f (Option.some.inj hE).symm
      replace hE := ife_n q339 hE
      exact x24t (Option.some.inj hE).symm
    replace hE := ife_n q335 hE
    refine g_iconst (v := (0 : Int32)) dL_law__1570 (by decide) ?_
    rw [xR ((0 : Int32), v331.2) (Option.some.inj hE).symm]
    exact g_toL (g_zret dL_law__1571 rfl (Or.inl rfl) (lw2_t (by show _ ≤ 601024; omega) (by show _ ≤ 7293034; omega)))
  replace hE := ife_n q26 hE
  by_cases q27 : (v2 &&& (63 : Int32)) = (24 : Int32)
  · replace hE := ife_p q27 hE
    refine g_tabIn 1592 dL_law__40 (by rw [q27]; decide) (by rw [q27]; decide) (by rw [q27]; rfl) (by decide) ?_
    refine g_aload_n (r := x) dL_law__1592 rfl ?_
    refine g_aload_n (r := 50) dL_law__1593 rfl ?_
    refine g_iload (x := s1.1) dL_law__1594 rfl ?_
    refine g_iconst (v := (1 : Int32)) dL_law__1596 (by decide) ?_
    refine g_iadd dL_law__1597 ?_
    replace hE := bd_s hE
    obtain ⟨v340, hv340, hE⟩ := hE
    refine g_sld hscr dL_law__1598 hv340 ?_
    refine g_aload_n (r := 50) dL_law__1599 rfl ?_
    refine g_iload (x := s1.1) dL_law__1600 rfl ?_
    refine g_iconst (v := (2 : Int32)) dL_law__1602 (by decide) ?_
    refine g_iadd dL_law__1603 ?_
    replace hE := bd_s hE
    obtain ⟨v341, hv341, hE⟩ := hE
    refine g_sld hscr dL_law__1604 hv341 ?_
    refine g_aload_n (r := o) dL_law__1605 rfl ?_
    replace hE := bd_s hE
    obtain ⟨v342, hv342, hE⟩ := hE
    refine g_callSW (as := [.ref x, .int v340, .int v341, .ref o]) (rvs := [.int v342.1]) (C + 1) (D + 6) dL_law__1606 yg_L_letter sl_L_185 ml_L_185 (ct_L_letter hv342) rfl rfl (rmk_ok (Nat.le_of_ble_eq_true rfl) (Nat.le_of_ble_eq_true rfl) (by show C + 1 ≤ 601024; omega) (by show D + 6 ≤ 7293034; omega)) (Nat.le_of_ble_eq_true rfl) (by show C + 1 = (C + 1); omega) (by show D + 6 = (D + 6); omega) rfl ?_
    refine g_istore dL_law__1609 rfl ?_
    refine g_aload_n (r := m) dL_law__1611 rfl ?_
    refine g_aload_n (r := 50) dL_law__1612 rfl ?_
    refine g_iload (x := s1.1) dL_law__1613 rfl ?_
    refine g_iconst (v := (1 : Int32)) dL_law__1615 (by decide) ?_
    refine g_iadd dL_law__1616 ?_
    replace hE := bd_s hE
    obtain ⟨v343, hv343, hE⟩ := hE
    refine g_sld hscr dL_law__1617 hv343 ?_
    refine g_aload_n (r := 50) dL_law__1618 rfl ?_
    refine g_iload (x := s1.1) dL_law__1619 rfl ?_
    refine g_iconst (v := (2 : Int32)) dL_law__1621 (by decide) ?_
    refine g_iadd dL_law__1622 ?_
    replace hE := bd_s hE
    obtain ⟨v344, hv344, hE⟩ := hE
    refine g_sld hscr dL_law__1623 hv344 ?_
    replace hE := bd_s hE
    obtain ⟨h346, hh346, hE⟩ := hE
    replace hh346 := ck_s hh346
    replace hE := bd_s hE
    obtain ⟨v345, hv345, hE⟩ := hE
    refine g_callV (as := [.int v343, .int v344]) (rvs := [.int v345.1]) (C + 1) (D + 6) dL_law__1624 yg_Mo_letter vl_L_187 (ct_Mo_letter hv345) (RC.obj hh346 (by decide) cl_9.1) rfl rfl (rmk_ok (Nat.le_of_ble_eq_true rfl) (Nat.le_of_ble_eq_true rfl) (by show (C + 1) + 0 ≤ 601024; omega) (by show (D + 6) + 0 ≤ 7293034; omega)) (Nat.le_of_ble_eq_true rfl) (by show (C + 1) + 0 = (C + 1); omega) (by show (D + 6) + 0 = (D + 6); omega) rfl ?_
    refine g_istore dL_law__1627 rfl ?_
    refine g_aload_n (r := m) dL_law__1629 rfl ?_
    replace hE := bd_s hE
    obtain ⟨h348, hh348, hE⟩ := hE
    replace hh348 := ck_s hh348
    replace hE := bd_s hE
    obtain ⟨v347, hv347, hE⟩ := hE
    refine g_callV (as := []) (rvs := [.int v347]) (C + 1) (D + 6) dL_law__1630 yg_Mo_thrown vl_L_111 (ct_Mo_thrown hv347) (RC.obj hh348 (by decide) cl_9.1) rfl rfl (rmk_ok (Nat.le_of_ble_eq_true rfl) (Nat.le_of_ble_eq_true rfl) (by show (C + 1) + 0 ≤ 601024; omega) (by show (D + 6) + 0 ≤ 7293034; omega)) (Nat.le_of_ble_eq_true rfl) (by show (C + 1) + 0 = (C + 1); omega) (by show (D + 6) + 0 = (D + 6); omega) rfl ?_
    refine g_iload (x := v342.1) dL_law__1633 rfl ?_
    refine g_icmp_eq 1640 dL_law__1635 (by decide) (fun q349 => ?_) (fun q349 => ?_)
    · replace hE := ife_p q349 hE
      refine g_iload (x := v342.1) dL_law__1640 rfl ?_
      replace hE := bd_s hE
      obtain ⟨b351, hE, hb25⟩ := hE
      have x25t : b351 = true → G X m_L_main (endL X L xs (oIM r)) 1655 [.ref 50, .ref x, .ref m, .ref o, .int s1.1, .int v342.1, .int v345.1] [] (C + 1) (D + 6) v345.2 := by
        intro q
        replace hE := ifb_t q hb25
        refine g_iconst (v := (0 : Int32)) dL_law__1655 (by decide) ?_
        rw [xR ((0 : Int32), v345.2) (Option.some.inj hE).symm]
        exact g_toL (g_zret dL_law__1656 rfl (Or.inl rfl) (lw2_t (by show _ ≤ 601024; omega) (by show _ ≤ 7293034; omega)))
      have x25f : b351 = false → G X m_L_main (endL X L xs (oIM r)) 1657 [.ref 50, .ref x, .ref m, .ref o, .int s1.1, .int v342.1, .int v345.1] [] (C + 1) (D + 6) v345.2 := by
        intro q
        replace hE := ifb_f q hb25
        refine g_goto 1944 dL_law__1657 (by decide) ?_
        refine g_iinc (s1.1 + (6 : Int32)) dL_law__1944 rfl (iinc_e (by decide)) rfl ?_
        refine g_goto 23 dL_law__1947 (by decide) ?_
        refine g_wd (cs' := (C + 4)) (ss' := (D + 1669)) (lw2_t (by omega) (by omega)) ?_
        refine g_msk [true, true, true, true, true, false, false] ?_
        exact hc ((s1.1 + (6 : Int32)), v345.2) (Option.some.inj hE).symm
      clear hb25
      refine g_if_ne 1657 dL_law__1642 (by decide) (fun q350 => ?_) (fun q350 => ?_)
      · replace hE := ife_n q350 hE
        exact x25f (Option.some.inj hE).symm
      replace hE := ife_p q350 hE
      refine g_aload_n (r := o) dL_law__1645 rfl ?_
      refine g_iconst (v := (0 : Int32)) dL_law__1646 (by decide) ?_
      replace hE := bd_s hE
      obtain ⟨v352, hv352, hE⟩ := hE
      refine g_aL dL_law__1647 hv352 ?_
      refine g_iload (x := v345.1) dL_law__1648 rfl ?_
      refine g_i2l dL_law__1650 ?_
      refine g_lcmp dL_law__1651 ?_
      refine g_if_eq 1657 dL_law__1652 (by decide) (fun q353 => ?_) (fun q353 => ?_)
      · replace hE := ife_p q353 hE
        exact x25f (Option.some.inj hE).symm
      replace hE := ife_n q353 hE
      exact x25t (Option.some.inj hE).symm
    replace hE := ife_n q349 hE
    refine g_iconst (v := (0 : Int32)) dL_law__1638 (by decide) ?_
    rw [xR ((0 : Int32), v345.2) (Option.some.inj hE).symm]
    exact g_toL (g_zret dL_law__1639 rfl (Or.inl rfl) (lw2_t (by show _ ≤ 601024; omega) (by show _ ≤ 7293034; omega)))
  replace hE := ife_n q27 hE
  by_cases q28 : (v2 &&& (63 : Int32)) = (25 : Int32)
  · replace hE := ife_p q28 hE
    refine g_tabIn 1660 dL_law__40 (by rw [q28]; decide) (by rw [q28]; decide) (by rw [q28]; rfl) (by decide) ?_
    refine g_aload_n (r := x) dL_law__1660 rfl ?_
    replace hE := bd_s hE
    obtain ⟨h355, hh355, hE⟩ := hE
    replace hh355 := ck_s hh355
    replace hE := bd_s hE
    obtain ⟨v354, hv354, hE⟩ := hE
    refine g_callV (as := []) (rvs := [.int v354.1]) C D dL_law__1661 yg_RR_forget vl_L_188 (ct_RR_forget hv354) (RC.obj hh355 (by decide) cl_8.1) rfl rfl (rmk_ok (Nat.le_of_ble_eq_true rfl) (Nat.le_of_ble_eq_true rfl) (by show C + 0 ≤ 601024; omega) (by show D + 0 ≤ 7293034; omega)) (Nat.le_of_ble_eq_true rfl) (by show C + 0 = C; omega) (by show D + 0 = D; omega) rfl ?_
    refine g_aload_n (r := m) dL_law__1664 rfl ?_
    replace hE := bd_s hE
    obtain ⟨h357, hh357, hE⟩ := hE
    replace hh357 := ck_s hh357
    replace hE := bd_s hE
    obtain ⟨v356, hv356, hE⟩ := hE
    refine g_callV (as := []) (rvs := [.int v356.1]) C D dL_law__1665 yg_Mo_forget vl_L_191 (ct_Mo_forget hv356) (RC.obj hh357 (by decide) cl_9.1) rfl rfl (rmk_ok (Nat.le_of_ble_eq_true rfl) (Nat.le_of_ble_eq_true rfl) (by show C + 0 ≤ 601024; omega) (by show D + 0 ≤ 7293034; omega)) (Nat.le_of_ble_eq_true rfl) (by show C + 0 = C; omega) (by show D + 0 = D; omega) rfl ?_
    refine g_icmp_eq 1944 dL_law__1668 (by decide) (fun q358 => ?_) (fun q358 => ?_)
    · replace hE := ife_p q358 hE
      refine g_iinc (s1.1 + (6 : Int32)) dL_law__1944 rfl (iinc_e (by decide)) rfl ?_
      refine g_goto 23 dL_law__1947 (by decide) ?_
      refine g_wd (cs' := (C + 4)) (ss' := (D + 1669)) (lw2_t (by omega) (by omega)) ?_
      exact hc ((s1.1 + (6 : Int32)), v356.2) (Option.some.inj hE).symm
    replace hE := ife_n q358 hE
    refine g_iconst (v := (0 : Int32)) dL_law__1671 (by decide) ?_
    rw [xR ((0 : Int32), v356.2) (Option.some.inj hE).symm]
    exact g_toL (g_zret dL_law__1672 rfl (Or.inl rfl) (lw2_t (by show _ ≤ 601024; omega) (by show _ ≤ 7293034; omega)))
  replace hE := ife_n q28 hE
  by_cases q29 : (v2 &&& (63 : Int32)) = (26 : Int32)
  · replace hE := ife_p q29 hE
    refine g_tabIn 1673 dL_law__40 (by rw [q29]; decide) (by rw [q29]; decide) (by rw [q29]; rfl) (by decide) ?_
    refine g_aload_n (r := x) dL_law__1673 rfl ?_
    refine g_aload_n (r := 50) dL_law__1674 rfl ?_
    refine g_iload (x := s1.1) dL_law__1675 rfl ?_
    refine g_iconst (v := (1 : Int32)) dL_law__1677 (by decide) ?_
    refine g_iadd dL_law__1678 ?_
    replace hE := bd_s hE
    obtain ⟨v359, hv359, hE⟩ := hE
    refine g_sld hscr dL_law__1679 hv359 ?_
    replace hE := bd_s2 hE
    obtain ⟨e26, hE, hm26⟩ := hE
    have x26 : ∀ s361 : Int32, e26 = s361 → G X m_L_main (endL X L xs (oIM r)) 1688 [.ref 50, .ref x, .ref m, .ref o, .int s1.1, .retAddr 0, .retAddr 0] [.int s361, .ref x] C D s1.2 := by
      intro s361 q
      replace hE := hm26 s361 q
      clear hm26
      replace hE := bd_s hE
      obtain ⟨h363, hh363, hE⟩ := hE
      replace hh363 := ck_s hh363
      replace hE := bd_s hE
      obtain ⟨v362, hv362, hE⟩ := hE
      refine g_callV (as := [.int s361]) (rvs := [.int v362.1]) C D dL_law__1688 yg_RR_questions vl_L_192 (ct_RR_questions hv362) (RC.obj hh363 (by decide) cl_8.1) rfl rfl (rmk_ok (Nat.le_of_ble_eq_true rfl) (Nat.le_of_ble_eq_true rfl) (by show C + 0 ≤ 601024; omega) (by show D + 0 ≤ 7293034; omega)) (Nat.le_of_ble_eq_true rfl) (by show C + 0 = C; omega) (by show D + 0 = D; omega) rfl ?_
      refine g_aload_n (r := m) dL_law__1691 rfl ?_
      refine g_aload_n (r := 50) dL_law__1692 rfl ?_
      refine g_iload (x := s1.1) dL_law__1693 rfl ?_
      refine g_iconst (v := (1 : Int32)) dL_law__1695 (by decide) ?_
      refine g_iadd dL_law__1696 ?_
      replace hE := bd_s hE
      obtain ⟨v364, hv364, hE⟩ := hE
      refine g_sld hscr dL_law__1697 hv364 ?_
      replace hE := bd_s2 hE
      obtain ⟨e27, hE, hm27⟩ := hE
      have x27 : ∀ s366 : Int32, e27 = s366 → G X m_L_main (endL X L xs (oIM r)) 1706 [.ref 50, .ref x, .ref m, .ref o, .int s1.1, .retAddr 0, .retAddr 0] [.int s366, .ref m, .int v362.1] C D v362.2 := by
        intro s366 q
        replace hE := hm27 s366 q
        clear hm27
        replace hE := bd_s hE
        obtain ⟨h368, hh368, hE⟩ := hE
        replace hh368 := ck_s hh368
        replace hE := bd_s hE
        obtain ⟨v367, hv367, hE⟩ := hE
        refine g_callV (as := [.int s366]) (rvs := [.int v367.1]) C D dL_law__1706 yg_Mo_questions vl_L_196 (ct_Mo_questions hv367) (RC.obj hh368 (by decide) cl_9.1) rfl rfl (rmk_ok (Nat.le_of_ble_eq_true rfl) (Nat.le_of_ble_eq_true rfl) (by show C + 0 ≤ 601024; omega) (by show D + 0 ≤ 7293034; omega)) (Nat.le_of_ble_eq_true rfl) (by show C + 0 = C; omega) (by show D + 0 = D; omega) rfl ?_
        refine g_icmp_eq 1944 dL_law__1709 (by decide) (fun q369 => ?_) (fun q369 => ?_)
        · replace hE := ife_p q369 hE
          refine g_iinc (s1.1 + (6 : Int32)) dL_law__1944 rfl (iinc_e (by decide)) rfl ?_
          refine g_goto 23 dL_law__1947 (by decide) ?_
          refine g_wd (cs' := (C + 4)) (ss' := (D + 1669)) (lw2_t (by omega) (by omega)) ?_
          exact hc ((s1.1 + (6 : Int32)), v367.2) (Option.some.inj hE).symm
        replace hE := ife_n q369 hE
        refine g_iconst (v := (0 : Int32)) dL_law__1712 (by decide) ?_
        rw [xR ((0 : Int32), v367.2) (Option.some.inj hE).symm]
        exact g_toL (g_zret dL_law__1713 rfl (Or.inl rfl) (lw2_t (by show _ ≤ 601024; omega) (by show _ ≤ 7293034; omega)))
      clear hm27
      refine g_if_eq 1705 dL_law__1698 (by decide) (fun q365 => ?_) (fun q365 => ?_)
      · replace hE := ife_p q365 hE
        refine g_iconst (v := (0 : Int32)) dL_law__1705 (by decide) ?_
        exact x27 (0 : Int32) (Option.some.inj hE).symm
      replace hE := ife_n q365 hE
      refine g_iconst (v := (1 : Int32)) dL_law__1701 (by decide) ?_
      refine g_goto 1706 dL_law__1702 (by decide) ?_
      exact x27 (1 : Int32) (Option.some.inj hE).symm
    clear hm26
    refine g_if_eq 1687 dL_law__1680 (by decide) (fun q360 => ?_) (fun q360 => ?_)
    · replace hE := ife_p q360 hE
      refine g_iconst (v := (0 : Int32)) dL_law__1687 (by decide) ?_
      exact x26 (0 : Int32) (Option.some.inj hE).symm
    replace hE := ife_n q360 hE
    refine g_iconst (v := (1 : Int32)) dL_law__1683 (by decide) ?_
    refine g_goto 1688 dL_law__1684 (by decide) ?_
    exact x26 (1 : Int32) (Option.some.inj hE).symm
  replace hE := ife_n q29 hE
  by_cases q30 : (v2 &&& (63 : Int32)) = (27 : Int32)
  · replace hE := ife_p q30 hE
    refine g_tabIn 1714 dL_law__40 (by rw [q30]; decide) (by rw [q30]; decide) (by rw [q30]; rfl) (by decide) ?_
    refine g_aload_n (r := x) dL_law__1714 rfl ?_
    refine g_aload_n (r := 50) dL_law__1715 rfl ?_
    refine g_iload (x := s1.1) dL_law__1716 rfl ?_
    refine g_iconst (v := (1 : Int32)) dL_law__1718 (by decide) ?_
    refine g_iadd dL_law__1719 ?_
    replace hE := bd_s hE
    obtain ⟨v370, hv370, hE⟩ := hE
    refine g_sld hscr dL_law__1720 hv370 ?_
    refine g_aload_n (r := o) dL_law__1721 rfl ?_
    replace hE := bd_s hE
    obtain ⟨v371, hv371, hE⟩ := hE
    refine g_callSW (as := [.ref x, .int v370, .ref o]) (rvs := [.int v371.1]) (C + 1) (D + 6) dL_law__1722 yg_L_lie sl_L_197 ml_L_197 (ct_L_lie hv371) rfl rfl (rmk_ok (Nat.le_of_ble_eq_true rfl) (Nat.le_of_ble_eq_true rfl) (by show C + 1 ≤ 601024; omega) (by show D + 6 ≤ 7293034; omega)) (Nat.le_of_ble_eq_true rfl) (by show C + 1 = (C + 1); omega) (by show D + 6 = (D + 6); omega) rfl ?_
    refine g_istore dL_law__1725 rfl ?_
    refine g_aload_n (r := m) dL_law__1727 rfl ?_
    refine g_aload_n (r := 50) dL_law__1728 rfl ?_
    refine g_iload (x := s1.1) dL_law__1729 rfl ?_
    refine g_iconst (v := (1 : Int32)) dL_law__1731 (by decide) ?_
    refine g_iadd dL_law__1732 ?_
    replace hE := bd_s hE
    obtain ⟨v372, hv372, hE⟩ := hE
    refine g_sld hscr dL_law__1733 hv372 ?_
    replace hE := bd_s hE
    obtain ⟨h374, hh374, hE⟩ := hE
    replace hh374 := ck_s hh374
    replace hE := bd_s hE
    obtain ⟨v373, hv373, hE⟩ := hE
    refine g_callV (as := [.int v372]) (rvs := [.int v373.1]) (C + 1) (D + 6) dL_law__1734 yg_Mo_lie vl_L_199 (ct_Mo_lie hv373) (RC.obj hh374 (by decide) cl_9.1) rfl rfl (rmk_ok (Nat.le_of_ble_eq_true rfl) (Nat.le_of_ble_eq_true rfl) (by show (C + 1) + 0 ≤ 601024; omega) (by show (D + 6) + 0 ≤ 7293034; omega)) (Nat.le_of_ble_eq_true rfl) (by show (C + 1) + 0 = (C + 1); omega) (by show (D + 6) + 0 = (D + 6); omega) rfl ?_
    refine g_istore dL_law__1737 rfl ?_
    refine g_aload_n (r := m) dL_law__1739 rfl ?_
    replace hE := bd_s hE
    obtain ⟨h376, hh376, hE⟩ := hE
    replace hh376 := ck_s hh376
    replace hE := bd_s hE
    obtain ⟨v375, hv375, hE⟩ := hE
    refine g_callV (as := []) (rvs := [.int v375]) (C + 1) (D + 6) dL_law__1740 yg_Mo_thrown vl_L_111 (ct_Mo_thrown hv375) (RC.obj hh376 (by decide) cl_9.1) rfl rfl (rmk_ok (Nat.le_of_ble_eq_true rfl) (Nat.le_of_ble_eq_true rfl) (by show (C + 1) + 0 ≤ 601024; omega) (by show (D + 6) + 0 ≤ 7293034; omega)) (Nat.le_of_ble_eq_true rfl) (by show (C + 1) + 0 = (C + 1); omega) (by show (D + 6) + 0 = (D + 6); omega) rfl ?_
    refine g_iload (x := v371.1) dL_law__1743 rfl ?_
    refine g_icmp_eq 1750 dL_law__1745 (by decide) (fun q377 => ?_) (fun q377 => ?_)
    · replace hE := ife_p q377 hE
      refine g_iload (x := v371.1) dL_law__1750 rfl ?_
      replace hE := bd_s hE
      obtain ⟨b379, hE, hb28⟩ := hE
      have x28t : b379 = true → G X m_L_main (endL X L xs (oIM r)) 1765 [.ref 50, .ref x, .ref m, .ref o, .int s1.1, .int v371.1, .int v373.1] [] (C + 1) (D + 6) v373.2 := by
        intro q
        replace hE := ifb_t q hb28
        refine g_iconst (v := (0 : Int32)) dL_law__1765 (by decide) ?_
        rw [xR ((0 : Int32), v373.2) (Option.some.inj hE).symm]
        exact g_toL (g_zret dL_law__1766 rfl (Or.inl rfl) (lw2_t (by show _ ≤ 601024; omega) (by show _ ≤ 7293034; omega)))
      have x28f : b379 = false → G X m_L_main (endL X L xs (oIM r)) 1767 [.ref 50, .ref x, .ref m, .ref o, .int s1.1, .int v371.1, .int v373.1] [] (C + 1) (D + 6) v373.2 := by
        intro q
        replace hE := ifb_f q hb28
        refine g_goto 1944 dL_law__1767 (by decide) ?_
        refine g_iinc (s1.1 + (6 : Int32)) dL_law__1944 rfl (iinc_e (by decide)) rfl ?_
        refine g_goto 23 dL_law__1947 (by decide) ?_
        refine g_wd (cs' := (C + 4)) (ss' := (D + 1669)) (lw2_t (by omega) (by omega)) ?_
        refine g_msk [true, true, true, true, true, false, false] ?_
        exact hc ((s1.1 + (6 : Int32)), v373.2) (Option.some.inj hE).symm
      clear hb28
      refine g_if_ne 1767 dL_law__1752 (by decide) (fun q378 => ?_) (fun q378 => ?_)
      · replace hE := ife_n q378 hE
        exact x28f (Option.some.inj hE).symm
      replace hE := ife_p q378 hE
      refine g_aload_n (r := o) dL_law__1755 rfl ?_
      refine g_iconst (v := (0 : Int32)) dL_law__1756 (by decide) ?_
      replace hE := bd_s hE
      obtain ⟨v380, hv380, hE⟩ := hE
      refine g_aL dL_law__1757 hv380 ?_
      refine g_iload (x := v373.1) dL_law__1758 rfl ?_
      refine g_i2l dL_law__1760 ?_
      refine g_lcmp dL_law__1761 ?_
      refine g_if_eq 1767 dL_law__1762 (by decide) (fun q381 => ?_) (fun q381 => ?_)
      · replace hE := ife_p q381 hE
        exact x28f (Option.some.inj hE).symm
      replace hE := ife_n q381 hE
      exact x28t (Option.some.inj hE).symm
    replace hE := ife_n q377 hE
    refine g_iconst (v := (0 : Int32)) dL_law__1748 (by decide) ?_
    rw [xR ((0 : Int32), v373.2) (Option.some.inj hE).symm]
    exact g_toL (g_zret dL_law__1749 rfl (Or.inl rfl) (lw2_t (by show _ ≤ 601024; omega) (by show _ ≤ 7293034; omega)))
  replace hE := ife_n q30 hE
  by_cases q31 : (v2 &&& (63 : Int32)) = (28 : Int32)
  · replace hE := ife_p q31 hE
    refine g_tabIn 1770 dL_law__40 (by rw [q31]; decide) (by rw [q31]; decide) (by rw [q31]; rfl) (by decide) ?_
    refine g_aload_n (r := x) dL_law__1770 rfl ?_
    refine g_aload_n (r := 50) dL_law__1771 rfl ?_
    refine g_iload (x := s1.1) dL_law__1772 rfl ?_
    refine g_iconst (v := (1 : Int32)) dL_law__1774 (by decide) ?_
    refine g_iadd dL_law__1775 ?_
    replace hE := bd_s hE
    obtain ⟨v382, hv382, hE⟩ := hE
    refine g_sld hscr dL_law__1776 hv382 ?_
    refine g_aload_n (r := o) dL_law__1777 rfl ?_
    replace hE := bd_s hE
    obtain ⟨v383, hv383, hE⟩ := hE
    refine g_callSW (as := [.ref x, .int v382, .ref o]) (rvs := [.int v383.1]) (C + 1) (D + 6) dL_law__1778 yg_L_monday sl_L_200 ml_L_200 (ct_L_monday hv383) rfl rfl (rmk_ok (Nat.le_of_ble_eq_true rfl) (Nat.le_of_ble_eq_true rfl) (by show C + 1 ≤ 601024; omega) (by show D + 6 ≤ 7293034; omega)) (Nat.le_of_ble_eq_true rfl) (by show C + 1 = (C + 1); omega) (by show D + 6 = (D + 6); omega) rfl ?_
    refine g_istore dL_law__1781 rfl ?_
    refine g_aload_n (r := m) dL_law__1783 rfl ?_
    refine g_aload_n (r := 50) dL_law__1784 rfl ?_
    refine g_iload (x := s1.1) dL_law__1785 rfl ?_
    refine g_iconst (v := (1 : Int32)) dL_law__1787 (by decide) ?_
    refine g_iadd dL_law__1788 ?_
    replace hE := bd_s hE
    obtain ⟨v384, hv384, hE⟩ := hE
    refine g_sld hscr dL_law__1789 hv384 ?_
    replace hE := bd_s hE
    obtain ⟨h386, hh386, hE⟩ := hE
    replace hh386 := ck_s hh386
    replace hE := bd_s hE
    obtain ⟨v385, hv385, hE⟩ := hE
    refine g_callV (as := [.int v384]) (rvs := [.int v385.1]) (C + 1) (D + 6) dL_law__1790 yg_Mo_monday vl_L_202 (ct_Mo_monday hv385) (RC.obj hh386 (by decide) cl_9.1) rfl rfl (rmk_ok (Nat.le_of_ble_eq_true rfl) (Nat.le_of_ble_eq_true rfl) (by show (C + 1) + 0 ≤ 601024; omega) (by show (D + 6) + 0 ≤ 7293034; omega)) (Nat.le_of_ble_eq_true rfl) (by show (C + 1) + 0 = (C + 1); omega) (by show (D + 6) + 0 = (D + 6); omega) rfl ?_
    refine g_istore dL_law__1793 rfl ?_
    refine g_aload_n (r := m) dL_law__1795 rfl ?_
    replace hE := bd_s hE
    obtain ⟨h388, hh388, hE⟩ := hE
    replace hh388 := ck_s hh388
    replace hE := bd_s hE
    obtain ⟨v387, hv387, hE⟩ := hE
    refine g_callV (as := []) (rvs := [.int v387]) (C + 1) (D + 6) dL_law__1796 yg_Mo_thrown vl_L_111 (ct_Mo_thrown hv387) (RC.obj hh388 (by decide) cl_9.1) rfl rfl (rmk_ok (Nat.le_of_ble_eq_true rfl) (Nat.le_of_ble_eq_true rfl) (by show (C + 1) + 0 ≤ 601024; omega) (by show (D + 6) + 0 ≤ 7293034; omega)) (Nat.le_of_ble_eq_true rfl) (by show (C + 1) + 0 = (C + 1); omega) (by show (D + 6) + 0 = (D + 6); omega) rfl ?_
    refine g_iload (x := v383.1) dL_law__1799 rfl ?_
    refine g_icmp_eq 1806 dL_law__1801 (by decide) (fun q389 => ?_) (fun q389 => ?_)
    · replace hE := ife_p q389 hE
      refine g_iload (x := v383.1) dL_law__1806 rfl ?_
      replace hE := bd_s hE
      obtain ⟨b391, hE, hb29⟩ := hE
      have x29t : b391 = true → G X m_L_main (endL X L xs (oIM r)) 1821 [.ref 50, .ref x, .ref m, .ref o, .int s1.1, .int v383.1, .int v385.1] [] (C + 1) (D + 6) v385.2 := by
        intro q
        replace hE := ifb_t q hb29
        refine g_iconst (v := (0 : Int32)) dL_law__1821 (by decide) ?_
        rw [xR ((0 : Int32), v385.2) (Option.some.inj hE).symm]
        exact g_toL (g_zret dL_law__1822 rfl (Or.inl rfl) (lw2_t (by show _ ≤ 601024; omega) (by show _ ≤ 7293034; omega)))
      have x29f : b391 = false → G X m_L_main (endL X L xs (oIM r)) 1823 [.ref 50, .ref x, .ref m, .ref o, .int s1.1, .int v383.1, .int v385.1] [] (C + 1) (D + 6) v385.2 := by
        intro q
        replace hE := ifb_f q hb29
        refine g_goto 1944 dL_law__1823 (by decide) ?_
        refine g_iinc (s1.1 + (6 : Int32)) dL_law__1944 rfl (iinc_e (by decide)) rfl ?_
        refine g_goto 23 dL_law__1947 (by decide) ?_
        refine g_wd (cs' := (C + 4)) (ss' := (D + 1669)) (lw2_t (by omega) (by omega)) ?_
        refine g_msk [true, true, true, true, true, false, false] ?_
        exact hc ((s1.1 + (6 : Int32)), v385.2) (Option.some.inj hE).symm
      clear hb29
      refine g_if_ne 1823 dL_law__1808 (by decide) (fun q390 => ?_) (fun q390 => ?_)
      · replace hE := ife_n q390 hE
        exact x29f (Option.some.inj hE).symm
      replace hE := ife_p q390 hE
      refine g_aload_n (r := o) dL_law__1811 rfl ?_
      refine g_iconst (v := (0 : Int32)) dL_law__1812 (by decide) ?_
      replace hE := bd_s hE
      obtain ⟨v392, hv392, hE⟩ := hE
      refine g_aL dL_law__1813 hv392 ?_
      refine g_iload (x := v385.1) dL_law__1814 rfl ?_
      refine g_i2l dL_law__1816 ?_
      refine g_lcmp dL_law__1817 ?_
      refine g_if_eq 1823 dL_law__1818 (by decide) (fun q393 => ?_) (fun q393 => ?_)
      · replace hE := ife_p q393 hE
        exact x29f (Option.some.inj hE).symm
      replace hE := ife_n q393 hE
      exact x29t (Option.some.inj hE).symm
    replace hE := ife_n q389 hE
    refine g_iconst (v := (0 : Int32)) dL_law__1804 (by decide) ?_
    rw [xR ((0 : Int32), v385.2) (Option.some.inj hE).symm]
    exact g_toL (g_zret dL_law__1805 rfl (Or.inl rfl) (lw2_t (by show _ ≤ 601024; omega) (by show _ ≤ 7293034; omega)))
  replace hE := ife_n q31 hE
  by_cases q32 : (v2 &&& (63 : Int32)) = (29 : Int32)
  · replace hE := ife_p q32 hE
    refine g_tabIn 1826 dL_law__40 (by rw [q32]; decide) (by rw [q32]; decide) (by rw [q32]; rfl) (by decide) ?_
    refine g_aload_n (r := x) dL_law__1826 rfl ?_
    refine g_aload_n (r := 50) dL_law__1827 rfl ?_
    refine g_iload (x := s1.1) dL_law__1828 rfl ?_
    refine g_iconst (v := (1 : Int32)) dL_law__1830 (by decide) ?_
    refine g_iadd dL_law__1831 ?_
    replace hE := bd_s hE
    obtain ⟨v394, hv394, hE⟩ := hE
    refine g_sld hscr dL_law__1832 hv394 ?_
    refine g_aload_n (r := o) dL_law__1833 rfl ?_
    replace hE := bd_s hE
    obtain ⟨v395, hv395, hE⟩ := hE
    refine g_callSW (as := [.ref x, .int v394, .ref o]) (rvs := [.int v395.1]) (C + 1) (D + 6) dL_law__1834 yg_L_live sl_L_203 ml_L_203 (ct_L_live hv395) rfl rfl (rmk_ok (Nat.le_of_ble_eq_true rfl) (Nat.le_of_ble_eq_true rfl) (by show C + 1 ≤ 601024; omega) (by show D + 6 ≤ 7293034; omega)) (Nat.le_of_ble_eq_true rfl) (by show C + 1 = (C + 1); omega) (by show D + 6 = (D + 6); omega) rfl ?_
    refine g_istore dL_law__1837 rfl ?_
    refine g_aload_n (r := m) dL_law__1839 rfl ?_
    refine g_aload_n (r := 50) dL_law__1840 rfl ?_
    refine g_iload (x := s1.1) dL_law__1841 rfl ?_
    refine g_iconst (v := (1 : Int32)) dL_law__1843 (by decide) ?_
    refine g_iadd dL_law__1844 ?_
    replace hE := bd_s hE
    obtain ⟨v396, hv396, hE⟩ := hE
    refine g_sld hscr dL_law__1845 hv396 ?_
    replace hE := bd_s hE
    obtain ⟨h398, hh398, hE⟩ := hE
    replace hh398 := ck_s hh398
    replace hE := bd_s hE
    obtain ⟨v397, hv397, hE⟩ := hE
    refine g_callV (as := [.int v396]) (rvs := [.int v397.1]) (C + 1) (D + 6) dL_law__1846 yg_Mo_live vl_L_205 (ct_Mo_live hv397) (RC.obj hh398 (by decide) cl_9.1) rfl rfl (rmk_ok (Nat.le_of_ble_eq_true rfl) (Nat.le_of_ble_eq_true rfl) (by show (C + 1) + 0 ≤ 601024; omega) (by show (D + 6) + 0 ≤ 7293034; omega)) (Nat.le_of_ble_eq_true rfl) (by show (C + 1) + 0 = (C + 1); omega) (by show (D + 6) + 0 = (D + 6); omega) rfl ?_
    refine g_istore dL_law__1849 rfl ?_
    refine g_aload_n (r := m) dL_law__1851 rfl ?_
    replace hE := bd_s hE
    obtain ⟨h400, hh400, hE⟩ := hE
    replace hh400 := ck_s hh400
    replace hE := bd_s hE
    obtain ⟨v399, hv399, hE⟩ := hE
    refine g_callV (as := []) (rvs := [.int v399]) (C + 1) (D + 6) dL_law__1852 yg_Mo_thrown vl_L_111 (ct_Mo_thrown hv399) (RC.obj hh400 (by decide) cl_9.1) rfl rfl (rmk_ok (Nat.le_of_ble_eq_true rfl) (Nat.le_of_ble_eq_true rfl) (by show (C + 1) + 0 ≤ 601024; omega) (by show (D + 6) + 0 ≤ 7293034; omega)) (Nat.le_of_ble_eq_true rfl) (by show (C + 1) + 0 = (C + 1); omega) (by show (D + 6) + 0 = (D + 6); omega) rfl ?_
    refine g_iload (x := v395.1) dL_law__1855 rfl ?_
    refine g_icmp_eq 1862 dL_law__1857 (by decide) (fun q401 => ?_) (fun q401 => ?_)
    · replace hE := ife_p q401 hE
      refine g_iload (x := v395.1) dL_law__1862 rfl ?_
      replace hE := bd_s hE
      obtain ⟨b403, hE, hb30⟩ := hE
      have x30t : b403 = true → G X m_L_main (endL X L xs (oIM r)) 1877 [.ref 50, .ref x, .ref m, .ref o, .int s1.1, .int v395.1, .int v397.1] [] (C + 1) (D + 6) v397.2 := by
        intro q
        replace hE := ifb_t q hb30
        refine g_iconst (v := (0 : Int32)) dL_law__1877 (by decide) ?_
        rw [xR ((0 : Int32), v397.2) (Option.some.inj hE).symm]
        exact g_toL (g_zret dL_law__1878 rfl (Or.inl rfl) (lw2_t (by show _ ≤ 601024; omega) (by show _ ≤ 7293034; omega)))
      have x30f : b403 = false → G X m_L_main (endL X L xs (oIM r)) 1879 [.ref 50, .ref x, .ref m, .ref o, .int s1.1, .int v395.1, .int v397.1] [] (C + 1) (D + 6) v397.2 := by
        intro q
        replace hE := ifb_f q hb30
        refine g_goto 1944 dL_law__1879 (by decide) ?_
        refine g_iinc (s1.1 + (6 : Int32)) dL_law__1944 rfl (iinc_e (by decide)) rfl ?_
        refine g_goto 23 dL_law__1947 (by decide) ?_
        refine g_wd (cs' := (C + 4)) (ss' := (D + 1669)) (lw2_t (by omega) (by omega)) ?_
        refine g_msk [true, true, true, true, true, false, false] ?_
        exact hc ((s1.1 + (6 : Int32)), v397.2) (Option.some.inj hE).symm
      clear hb30
      refine g_if_ne 1879 dL_law__1864 (by decide) (fun q402 => ?_) (fun q402 => ?_)
      · replace hE := ife_n q402 hE
        exact x30f (Option.some.inj hE).symm
      replace hE := ife_p q402 hE
      refine g_aload_n (r := o) dL_law__1867 rfl ?_
      refine g_iconst (v := (0 : Int32)) dL_law__1868 (by decide) ?_
      replace hE := bd_s hE
      obtain ⟨v404, hv404, hE⟩ := hE
      refine g_aL dL_law__1869 hv404 ?_
      refine g_iload (x := v397.1) dL_law__1870 rfl ?_
      refine g_i2l dL_law__1872 ?_
      refine g_lcmp dL_law__1873 ?_
      refine g_if_eq 1879 dL_law__1874 (by decide) (fun q405 => ?_) (fun q405 => ?_)
      · replace hE := ife_p q405 hE
        exact x30f (Option.some.inj hE).symm
      replace hE := ife_n q405 hE
      exact x30t (Option.some.inj hE).symm
    replace hE := ife_n q401 hE
    refine g_iconst (v := (0 : Int32)) dL_law__1860 (by decide) ?_
    rw [xR ((0 : Int32), v397.2) (Option.some.inj hE).symm]
    exact g_toL (g_zret dL_law__1861 rfl (Or.inl rfl) (lw2_t (by show _ ≤ 601024; omega) (by show _ ≤ 7293034; omega)))
  replace hE := ife_n q32 hE
  by_cases q33 : (v2 &&& (63 : Int32)) = (30 : Int32)
  · replace hE := ife_p q33 hE
    refine g_tabIn 1882 dL_law__40 (by rw [q33]; decide) (by rw [q33]; decide) (by rw [q33]; rfl) (by decide) ?_
    refine g_aload_n (r := x) dL_law__1882 rfl ?_
    replace hE := bd_s hE
    obtain ⟨h407, hh407, hE⟩ := hE
    replace hh407 := ck_s hh407
    replace hE := bd_s hE
    obtain ⟨v406, hv406, hE⟩ := hE
    refine g_callV (as := []) (rvs := [.int v406.1]) C D dL_law__1883 yg_RR_undo vl_L_206 (ct_RR_undo hv406) (RC.obj hh407 (by decide) cl_8.1) rfl rfl (rmk_ok (Nat.le_of_ble_eq_true rfl) (Nat.le_of_ble_eq_true rfl) (by show C + 0 ≤ 601024; omega) (by show D + 0 ≤ 7293034; omega)) (Nat.le_of_ble_eq_true rfl) (by show C + 0 = C; omega) (by show D + 0 = D; omega) rfl ?_
    refine g_aload_n (r := m) dL_law__1886 rfl ?_
    replace hE := bd_s hE
    obtain ⟨h409, hh409, hE⟩ := hE
    replace hh409 := ck_s hh409
    replace hE := bd_s hE
    obtain ⟨v408, hv408, hE⟩ := hE
    refine g_callV (as := []) (rvs := [.int v408.1]) C D dL_law__1887 yg_Mo_undo vl_L_210 (ct_Mo_undo hv408) (RC.obj hh409 (by decide) cl_9.1) rfl rfl (rmk_ok (Nat.le_of_ble_eq_true rfl) (Nat.le_of_ble_eq_true rfl) (by show C + 0 ≤ 601024; omega) (by show D + 0 ≤ 7293034; omega)) (Nat.le_of_ble_eq_true rfl) (by show C + 0 = C; omega) (by show D + 0 = D; omega) rfl ?_
    refine g_icmp_eq 1944 dL_law__1890 (by decide) (fun q410 => ?_) (fun q410 => ?_)
    · replace hE := ife_p q410 hE
      refine g_iinc (s1.1 + (6 : Int32)) dL_law__1944 rfl (iinc_e (by decide)) rfl ?_
      refine g_goto 23 dL_law__1947 (by decide) ?_
      refine g_wd (cs' := (C + 4)) (ss' := (D + 1669)) (lw2_t (by omega) (by omega)) ?_
      exact hc ((s1.1 + (6 : Int32)), v408.2) (Option.some.inj hE).symm
    replace hE := ife_n q410 hE
    refine g_iconst (v := (0 : Int32)) dL_law__1893 (by decide) ?_
    rw [xR ((0 : Int32), v408.2) (Option.some.inj hE).symm]
    exact g_toL (g_zret dL_law__1894 rfl (Or.inl rfl) (lw2_t (by show _ ≤ 601024; omega) (by show _ ≤ 7293034; omega)))
  replace hE := ife_n q33 hE
  by_cases q34 : (v2 &&& (63 : Int32)) = (31 : Int32)
  · replace hE := ife_p q34 hE
    refine g_tabIn 1895 dL_law__40 (by rw [q34]; decide) (by rw [q34]; decide) (by rw [q34]; rfl) (by decide) ?_
    refine g_aload_n (r := x) dL_law__1895 rfl ?_
    replace hE := bd_s hE
    obtain ⟨h412, hh412, hE⟩ := hE
    replace hh412 := ck_s hh412
    replace hE := bd_s hE
    obtain ⟨v411, hv411, hE⟩ := hE
    refine g_callV (as := []) (rvs := []) C D dL_law__1896 yg_RR_image vl_L_211 (ct_RR_image hv411) (RC.obj hh412 (by decide) cl_8.1) rfl rfl (rmk_ok (Nat.le_of_ble_eq_true rfl) (Nat.le_of_ble_eq_true rfl) (by show C + 0 ≤ 601024; omega) (by show D + 0 ≤ 7293034; omega)) (Nat.le_of_ble_eq_true rfl) (by show C + 0 = C; omega) (by show D + 0 = D; omega) rfl ?_
    refine g_aload_n (r := m) dL_law__1899 rfl ?_
    replace hE := bd_s hE
    obtain ⟨h414, hh414, hE⟩ := hE
    replace hh414 := ck_s hh414
    replace hE := bd_s hE
    obtain ⟨v413, hv413, hE⟩ := hE
    refine g_callV (as := []) (rvs := []) C D dL_law__1900 yg_Mo_image vl_L_214 (ct_Mo_image hv413) (RC.obj hh414 (by decide) cl_9.1) rfl rfl (rmk_ok (Nat.le_of_ble_eq_true rfl) (Nat.le_of_ble_eq_true rfl) (by show C + 0 ≤ 601024; omega) (by show D + 0 ≤ 7293034; omega)) (Nat.le_of_ble_eq_true rfl) (by show C + 0 = C; omega) (by show D + 0 = D; omega) rfl ?_
    refine g_goto 1944 dL_law__1903 (by decide) ?_
    refine g_iinc (s1.1 + (6 : Int32)) dL_law__1944 rfl (iinc_e (by decide)) rfl ?_
    refine g_goto 23 dL_law__1947 (by decide) ?_
    refine g_wd (cs' := (C + 4)) (ss' := (D + 1669)) (lw2_t (by omega) (by omega)) ?_
    exact hc ((s1.1 + (6 : Int32)), v413) (Option.some.inj hE).symm
  replace hE := ife_n q34 hE
  by_cases q35 : (v2 &&& (63 : Int32)) = (32 : Int32)
  · replace hE := ife_p q35 hE
    refine g_tabIn 1906 dL_law__40 (by rw [q35]; decide) (by rw [q35]; decide) (by rw [q35]; rfl) (by decide) ?_
    refine g_aload_n (r := x) dL_law__1906 rfl ?_
    replace hE := bd_s hE
    obtain ⟨h416, hh416, hE⟩ := hE
    replace hh416 := ck_s hh416
    replace hE := bd_s hE
    obtain ⟨v415, hv415, hE⟩ := hE
    refine g_callV (as := []) (rvs := [.int v415.1]) C D dL_law__1907 yg_RR_back vl_L_215 (ct_RR_back hv415) (RC.obj hh416 (by decide) cl_8.1) rfl rfl (rmk_ok (Nat.le_of_ble_eq_true rfl) (Nat.le_of_ble_eq_true rfl) (by show C + 0 ≤ 601024; omega) (by show D + 0 ≤ 7293034; omega)) (Nat.le_of_ble_eq_true rfl) (by show C + 0 = C; omega) (by show D + 0 = D; omega) rfl ?_
    refine g_aload_n (r := m) dL_law__1910 rfl ?_
    replace hE := bd_s hE
    obtain ⟨h418, hh418, hE⟩ := hE
    replace hh418 := ck_s hh418
    replace hE := bd_s hE
    obtain ⟨v417, hv417, hE⟩ := hE
    refine g_callV (as := []) (rvs := [.int v417.1]) C D dL_law__1911 yg_Mo_back vl_L_218 (ct_Mo_back hv417) (RC.obj hh418 (by decide) cl_9.1) rfl rfl (rmk_ok (Nat.le_of_ble_eq_true rfl) (Nat.le_of_ble_eq_true rfl) (by show C + 0 ≤ 601024; omega) (by show D + 0 ≤ 7293034; omega)) (Nat.le_of_ble_eq_true rfl) (by show C + 0 = C; omega) (by show D + 0 = D; omega) rfl ?_
    refine g_icmp_eq 1944 dL_law__1914 (by decide) (fun q419 => ?_) (fun q419 => ?_)
    · replace hE := ife_p q419 hE
      refine g_iinc (s1.1 + (6 : Int32)) dL_law__1944 rfl (iinc_e (by decide)) rfl ?_
      refine g_goto 23 dL_law__1947 (by decide) ?_
      refine g_wd (cs' := (C + 4)) (ss' := (D + 1669)) (lw2_t (by omega) (by omega)) ?_
      exact hc ((s1.1 + (6 : Int32)), v417.2) (Option.some.inj hE).symm
    replace hE := ife_n q419 hE
    refine g_iconst (v := (0 : Int32)) dL_law__1917 (by decide) ?_
    rw [xR ((0 : Int32), v417.2) (Option.some.inj hE).symm]
    exact g_toL (g_zret dL_law__1918 rfl (Or.inl rfl) (lw2_t (by show _ ≤ 601024; omega) (by show _ ≤ 7293034; omega)))
  replace hE := ife_n q35 hE
  by_cases q36 : (v2 &&& (63 : Int32)) = (33 : Int32)
  · replace hE := ife_p q36 hE
    refine g_tabIn 1919 dL_law__40 (by rw [q36]; decide) (by rw [q36]; decide) (by rw [q36]; rfl) (by decide) ?_
    refine g_aload_n (r := x) dL_law__1919 rfl ?_
    refine g_aload_n (r := 50) dL_law__1920 rfl ?_
    refine g_iload (x := s1.1) dL_law__1921 rfl ?_
    refine g_iconst (v := (1 : Int32)) dL_law__1923 (by decide) ?_
    refine g_iadd dL_law__1924 ?_
    replace hE := bd_s hE
    obtain ⟨v420, hv420, hE⟩ := hE
    refine g_sld hscr dL_law__1925 hv420 ?_
    replace hE := bd_s hE
    obtain ⟨h422, hh422, hE⟩ := hE
    replace hh422 := ck_s hh422
    replace hE := bd_s hE
    obtain ⟨v421, hv421, hE⟩ := hE
    refine g_callV (as := [.int v420]) (rvs := [.int v421]) C D dL_law__1926 yg_RR_count vl_L_219 (ct_RR_count hv421) (RC.obj hh422 (by decide) cl_8.1) rfl rfl (rmk_ok (Nat.le_of_ble_eq_true rfl) (Nat.le_of_ble_eq_true rfl) (by show C + 0 ≤ 601024; omega) (by show D + 0 ≤ 7293034; omega)) (Nat.le_of_ble_eq_true rfl) (by show C + 0 = C; omega) (by show D + 0 = D; omega) rfl ?_
    refine g_aload_n (r := m) dL_law__1929 rfl ?_
    refine g_aload_n (r := 50) dL_law__1930 rfl ?_
    refine g_iload (x := s1.1) dL_law__1931 rfl ?_
    refine g_iconst (v := (1 : Int32)) dL_law__1933 (by decide) ?_
    refine g_iadd dL_law__1934 ?_
    replace hE := bd_s hE
    obtain ⟨v423, hv423, hE⟩ := hE
    refine g_sld hscr dL_law__1935 hv423 ?_
    replace hE := bd_s hE
    obtain ⟨h425, hh425, hE⟩ := hE
    replace hh425 := ck_s hh425
    replace hE := bd_s hE
    obtain ⟨v424, hv424, hE⟩ := hE
    refine g_callV (as := [.int v423]) (rvs := [.int v424.1]) C D dL_law__1936 yg_Mo_count vl_L_222 (ct_Mo_count hv424) (RC.obj hh425 (by decide) cl_9.1) rfl rfl (rmk_ok (Nat.le_of_ble_eq_true rfl) (Nat.le_of_ble_eq_true rfl) (by show C + 0 ≤ 601024; omega) (by show D + 0 ≤ 7293034; omega)) (Nat.le_of_ble_eq_true rfl) (by show C + 0 = C; omega) (by show D + 0 = D; omega) rfl ?_
    refine g_icmp_eq 1944 dL_law__1939 (by decide) (fun q426 => ?_) (fun q426 => ?_)
    · replace hE := ife_p q426 hE
      refine g_iinc (s1.1 + (6 : Int32)) dL_law__1944 rfl (iinc_e (by decide)) rfl ?_
      refine g_goto 23 dL_law__1947 (by decide) ?_
      refine g_wd (cs' := (C + 4)) (ss' := (D + 1669)) (lw2_t (by omega) (by omega)) ?_
      exact hc ((s1.1 + (6 : Int32)), v424.2) (Option.some.inj hE).symm
    replace hE := ife_n q426 hE
    refine g_iconst (v := (0 : Int32)) dL_law__1942 (by decide) ?_
    rw [xR ((0 : Int32), v424.2) (Option.some.inj hE).symm]
    exact g_toL (g_zret dL_law__1943 rfl (Or.inl rfl) (lw2_t (by show _ ≤ 601024; omega) (by show _ ≤ 7293034; omega)))
  replace hE := ife_n q36 hE
  have x37 : G X m_L_main (endL X L xs (oIM r)) 1944 [.ref 50, .ref x, .ref m, .ref o, .int s1.1, .retAddr 0, .retAddr 0] [] C D s1.2 := by
    refine g_iinc (s1.1 + (6 : Int32)) dL_law__1944 rfl (iinc_e (by decide)) rfl ?_
    refine g_goto 23 dL_law__1947 (by decide) ?_
    refine g_wd (cs' := (C + 4)) (ss' := (D + 1669)) (lw2_t (by omega) (by omega)) ?_
    exact hc ((s1.1 + (6 : Int32)), s1.2) (Option.some.inj hE).symm
  replace q3 := ti_ne (0 : Int32) (0) (by decide) q3
  replace q4 := ti_ne (1 : Int32) (1) (by decide) q4
  replace q5 := ti_ne (2 : Int32) (2) (by decide) q5
  replace q6 := ti_ne (3 : Int32) (3) (by decide) q6
  replace q7 := ti_ne (4 : Int32) (4) (by decide) q7
  replace q8 := ti_ne (5 : Int32) (5) (by decide) q8
  replace q9 := ti_ne (6 : Int32) (6) (by decide) q9
  replace q10 := ti_ne (7 : Int32) (7) (by decide) q10
  replace q11 := ti_ne (8 : Int32) (8) (by decide) q11
  replace q12 := ti_ne (9 : Int32) (9) (by decide) q12
  replace q13 := ti_ne (10 : Int32) (10) (by decide) q13
  replace q14 := ti_ne (11 : Int32) (11) (by decide) q14
  replace q15 := ti_ne (12 : Int32) (12) (by decide) q15
  replace q16 := ti_ne (13 : Int32) (13) (by decide) q16
  replace q17 := ti_ne (14 : Int32) (14) (by decide) q17
  replace q18 := ti_ne (15 : Int32) (15) (by decide) q18
  replace q19 := ti_ne (16 : Int32) (16) (by decide) q19
  replace q20 := ti_ne (17 : Int32) (17) (by decide) q20
  replace q21 := ti_ne (18 : Int32) (18) (by decide) q21
  replace q22 := ti_ne (19 : Int32) (19) (by decide) q22
  replace q23 := ti_ne (20 : Int32) (20) (by decide) q23
  replace q24 := ti_ne (21 : Int32) (21) (by decide) q24
  replace q25 := ti_ne (22 : Int32) (22) (by decide) q25
  replace q26 := ti_ne (23 : Int32) (23) (by decide) q26
  replace q27 := ti_ne (24 : Int32) (24) (by decide) q27
  replace q28 := ti_ne (25 : Int32) (25) (by decide) q28
  replace q29 := ti_ne (26 : Int32) (26) (by decide) q29
  replace q30 := ti_ne (27 : Int32) (27) (by decide) q30
  replace q31 := ti_ne (28 : Int32) (28) (by decide) q31
  replace q32 := ti_ne (29 : Int32) (29) (by decide) q32
  replace q33 := ti_ne (30 : Int32) (30) (by decide) q33
  replace q34 := ti_ne (31 : Int32) (31) (by decide) q34
  replace q35 := ti_ne (32 : Int32) (32) (by decide) q35
  replace q36 := ti_ne (33 : Int32) (33) (by decide) q36
  refine g_tabOut 1944 dL_law__40 (by omega) (by decide) ?_
  exact x37
