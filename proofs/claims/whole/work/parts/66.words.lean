/-! Rows for the second layer. -/
theorem xb_k {α β : Type} {z : Nat ⊕ α} {r : Nat ⊕ β} {f : α → Option (Nat ⊕ β)} (h : (∃ k, z = .inl k ∧ r = .inl k) ∨ ∃ v, z = .inr v ∧ f v = some r) {k : Nat} (hk : z = .inl k) : r = .inl k := by
  rcases h with ⟨k', e1, e2⟩ | ⟨v, e1, _⟩
  · rw [hk] at e1; cases e1; exact e2
  · rw [hk] at e1; cases e1
theorem xb_v {α β : Type} {z : Nat ⊕ α} {r : Nat ⊕ β} {f : α → Option (Nat ⊕ β)} (h : (∃ k, z = .inl k ∧ r = .inl k) ∨ ∃ v, z = .inr v ∧ f v = some r) {v : α} (hv : z = .inr v) : f v = some r := by
  rcases h with ⟨k', e1, e2⟩ | ⟨v', e1, e2⟩
  · rw [hv] at e1; cases e1
  · rw [hv] at e1; cases e1; exact e2
theorem eRe_of {oF oD : Nat} {kA vA : Nat → Nat} {A : Nat → Prop} {s U : State} {H : Heap} {locs : List Loc} (hU : U.heap = H) (hW : s.WarmedH U.vm) (hS : va_S A s.heap H locs) (hE : eE oF oD kA vA A s s.heap) (t : Int32) : rAt (oR oF oD t) (KR t) U := rA_rAt (eE_r (eEe_of hU hW hS hE) t)
theorem eRc {oF oD : Nat} {kA vA : Nat → Nat} {A : Nat → Prop} {s : State} {H : Heap} {locs : List Loc} (hS : va_S A s.heap H locs) (hE : eE oF oD kA vA A s s.heap) (t : Int32) : ∃ cell : Cell, H[oR oF oD t]? = some cell ∧ cell.vm.isStatics = false ∧ s.vm.findClass R_Real = some cell.cls := by
  obtain ⟨cell, h1, h2, h3, -⟩ := (eE_r hE t).1.kept hS.2.1
  exact ⟨cell, h1, h2, h3⟩
theorem m_440 : (.code y_PB_shiftedLong b_PB_shiftedLong 4 (some .long) : Cond) ∈ BIG := List.mem_filter.mpr ⟨by decide +kernel, by rfl⟩
theorem m_441 : (.methodLink R_PB 128 y_PB_shiftedLong : Cond) ∈ BIG := List.mem_filter.mpr ⟨by decide +kernel, by rfl⟩
theorem m_442 : (.static y_PB_shiftedLong : Cond) ∈ BIG := List.mem_filter.mpr ⟨by decide +kernel, by rfl⟩
theorem m_443 : (.code y_PB_shiftedInt b_PB_shiftedInt 3 (some .long) : Cond) ∈ BIG := List.mem_filter.mpr ⟨by decide +kernel, by rfl⟩
theorem m_444 : (.methodLink R_PB 124 y_PB_shiftedInt : Cond) ∈ BIG := List.mem_filter.mpr ⟨by decide +kernel, by rfl⟩
theorem m_445 : (.static y_PB_shiftedInt : Cond) ∈ BIG := List.mem_filter.mpr ⟨by decide +kernel, by rfl⟩
theorem m_446 : (.code y_PB_isArithmetic b_PB_isArithmetic 1 (some .boolean) : Cond) ∈ BIG := List.mem_filter.mpr ⟨by decide +kernel, by rfl⟩
theorem m_447 : (.methodLink R_PB 23 y_PB_isArithmetic : Cond) ∈ BIG := List.mem_filter.mpr ⟨by decide +kernel, by rfl⟩
theorem m_448 : (.static y_PB_isArithmetic : Cond) ∈ BIG := List.mem_filter.mpr ⟨by decide +kernel, by rfl⟩
theorem m_449 : (.code y_PB_lastOperator b_PB_lastOperator 1 (some .int) : Cond) ∈ BIG := List.mem_filter.mpr ⟨by decide +kernel, by rfl⟩
theorem m_450 : (.methodLink R_PB 27 y_PB_lastOperator : Cond) ∈ BIG := List.mem_filter.mpr ⟨by decide +kernel, by rfl⟩
theorem m_451 : (.static y_PB_lastOperator : Cond) ∈ BIG := List.mem_filter.mpr ⟨by decide +kernel, by rfl⟩
theorem m_452 : (.code y_PB_realResult b_PB_realResult 6 (some .long) : Cond) ∈ BIG := List.mem_filter.mpr ⟨by decide +kernel, by rfl⟩
theorem m_453 : (.methodLink R_PB 53 y_PB_realResult : Cond) ∈ BIG := List.mem_filter.mpr ⟨by decide +kernel, by rfl⟩
theorem m_454 : (.static y_PB_realResult : Cond) ∈ BIG := List.mem_filter.mpr ⟨by decide +kernel, by rfl⟩
theorem m_455 : (.code y_PB_wholeResult b_PB_wholeResult 6 (some .long) : Cond) ∈ BIG := List.mem_filter.mpr ⟨by decide +kernel, by rfl⟩
theorem m_456 : (.methodLink R_PB 45 y_PB_wholeResult : Cond) ∈ BIG := List.mem_filter.mpr ⟨by decide +kernel, by rfl⟩
theorem m_457 : (.static y_PB_wholeResult : Cond) ∈ BIG := List.mem_filter.mpr ⟨by decide +kernel, by rfl⟩
theorem m_458 : (.code y_Real_fromReal b_Real_fromReal 4 (some .long) : Cond) ∈ BIG := List.mem_filter.mpr ⟨by decide +kernel, by rfl⟩
theorem m_459 : (.methodLink R_PB 74 y_Real_fromReal : Cond) ∈ BIG := List.mem_filter.mpr ⟨by decide +kernel, by rfl⟩
theorem m_460 : (.instanceMethod y_Real_fromReal : Cond) ∈ BIG := List.mem_filter.mpr ⟨by decide +kernel, by rfl⟩
theorem m_461 : (.selects R_Real y_Real_fromReal y_Real_fromReal : Cond) ∈ BIG := List.mem_filter.mpr ⟨by decide +kernel, by rfl⟩
theorem m_462 : (.code y_PB_wholeFromReal b_PB_wholeFromReal 6 (some .long) : Cond) ∈ BIG := List.mem_filter.mpr ⟨by decide +kernel, by rfl⟩
theorem m_463 : (.methodLink R_PB 70 y_PB_wholeFromReal : Cond) ∈ BIG := List.mem_filter.mpr ⟨by decide +kernel, by rfl⟩
theorem m_464 : (.static y_PB_wholeFromReal : Cond) ∈ BIG := List.mem_filter.mpr ⟨by decide +kernel, by rfl⟩
theorem m_465 : (.code y_Real_fromWhole b_Real_fromWhole 3 (some .long) : Cond) ∈ BIG := List.mem_filter.mpr ⟨by decide +kernel, by rfl⟩
theorem m_466 : (.methodLink R_PB 67 y_Real_fromWhole : Cond) ∈ BIG := List.mem_filter.mpr ⟨by decide +kernel, by rfl⟩
theorem m_467 : (.instanceMethod y_Real_fromWhole : Cond) ∈ BIG := List.mem_filter.mpr ⟨by decide +kernel, by rfl⟩
theorem m_468 : (.selects R_Real y_Real_fromWhole y_Real_fromWhole : Cond) ∈ BIG := List.mem_filter.mpr ⟨by decide +kernel, by rfl⟩
theorem m_469 : (.code y_Real_rank b_Real_rank 3 (some .long) : Cond) ∈ BIG := List.mem_filter.mpr ⟨by decide +kernel, by rfl⟩
theorem m_470 : (.methodLink R_PB 88 y_Real_rank : Cond) ∈ BIG := List.mem_filter.mpr ⟨by decide +kernel, by rfl⟩
theorem m_471 : (.instanceMethod y_Real_rank : Cond) ∈ BIG := List.mem_filter.mpr ⟨by decide +kernel, by rfl⟩
theorem m_472 : (.selects R_Real y_Real_rank y_Real_rank : Cond) ∈ BIG := List.mem_filter.mpr ⟨by decide +kernel, by rfl⟩
theorem m_473 : (.code y_PB_order b_PB_order 4 (some .int) : Cond) ∈ BIG := List.mem_filter.mpr ⟨by decide +kernel, by rfl⟩
theorem m_474 : (.methodLink R_PB 80 y_PB_order : Cond) ∈ BIG := List.mem_filter.mpr ⟨by decide +kernel, by rfl⟩
theorem m_475 : (.static y_PB_order : Cond) ∈ BIG := List.mem_filter.mpr ⟨by decide +kernel, by rfl⟩
theorem m_476 : (.code y_Lt_put_r b_Lt_put_r 3 none : Cond) ∈ BIG := List.mem_filter.mpr ⟨by decide +kernel, by rfl⟩
theorem m_477 : (.methodLink R_Lt 55 y_Lt_put_r : Cond) ∈ BIG := List.mem_filter.mpr ⟨by decide +kernel, by rfl⟩
theorem m_478 : (.instanceMethod y_Lt_put_r : Cond) ∈ BIG := List.mem_filter.mpr ⟨by decide +kernel, by rfl⟩
theorem m_479 : (.selects R_Lt y_Lt_put_r y_Lt_put_r : Cond) ∈ BIG := List.mem_filter.mpr ⟨by decide +kernel, by rfl⟩
theorem m_480 : (.code y_Lt_putPointed b_Lt_putPointed 7 none : Cond) ∈ BIG := List.mem_filter.mpr ⟨by decide +kernel, by rfl⟩
theorem m_481 : (.methodLink R_Lt 41 y_Lt_putPointed : Cond) ∈ BIG := List.mem_filter.mpr ⟨by decide +kernel, by rfl⟩
theorem m_482 : (.instanceMethod y_Lt_putPointed : Cond) ∈ BIG := List.mem_filter.mpr ⟨by decide +kernel, by rfl⟩
theorem m_483 : (.selects R_Lt y_Lt_putPointed y_Lt_putPointed : Cond) ∈ BIG := List.mem_filter.mpr ⟨by decide +kernel, by rfl⟩
theorem m_484 : (.methodLink R_PB 169 y_Real_isNegative : Cond) ∈ BIG := List.mem_filter.mpr ⟨by decide +kernel, by rfl⟩
theorem m_485 : (.methodLink R_PB 175 y_Real_isInfinite : Cond) ∈ BIG := List.mem_filter.mpr ⟨by decide +kernel, by rfl⟩
theorem m_486 : (.methodLink R_PB 180 y_Real_isZero : Cond) ∈ BIG := List.mem_filter.mpr ⟨by decide +kernel, by rfl⟩
theorem m_487 : (.fieldLink R_PB 19 R_PB "shortest" "LPrimitiveBits$ShortestDecimal;" : Cond) ∈ BIG := List.mem_filter.mpr ⟨by decide +kernel, by rfl⟩
theorem m_488 : (.methodLink R_PB 185 y_Real_significand : Cond) ∈ BIG := List.mem_filter.mpr ⟨by decide +kernel, by rfl⟩
theorem m_489 : (.methodLink R_PB 188 y_Real_power : Cond) ∈ BIG := List.mem_filter.mpr ⟨by decide +kernel, by rfl⟩
theorem m_490 : (.code y_Real_isCloserBelow b_Real_isCloserBelow 3 (some .boolean) : Cond) ∈ BIG := List.mem_filter.mpr ⟨by decide +kernel, by rfl⟩
theorem m_491 : (.methodLink R_PB 192 y_Real_isCloserBelow : Cond) ∈ BIG := List.mem_filter.mpr ⟨by decide +kernel, by rfl⟩
theorem m_492 : (.instanceMethod y_Real_isCloserBelow : Cond) ∈ BIG := List.mem_filter.mpr ⟨by decide +kernel, by rfl⟩
theorem m_493 : (.selects R_Real y_Real_isCloserBelow y_Real_isCloserBelow : Cond) ∈ BIG := List.mem_filter.mpr ⟨by decide +kernel, by rfl⟩
theorem m_494 : (.code y_SD_find b_SD_find 16 none : Cond) ∈ BIG := List.mem_filter.mpr ⟨by decide +kernel, by rfl⟩
theorem m_495 : (.methodLink R_PB 195 y_SD_find : Cond) ∈ BIG := List.mem_filter.mpr ⟨by decide +kernel, by rfl⟩
theorem m_496 : (.instanceMethod y_SD_find : Cond) ∈ BIG := List.mem_filter.mpr ⟨by decide +kernel, by rfl⟩
theorem m_497 : (.selects R_SD y_SD_find y_SD_find : Cond) ∈ BIG := List.mem_filter.mpr ⟨by decide +kernel, by rfl⟩
theorem m_498 : (.fieldLink R_PB 10 R_PB "letters" "LPrimitiveBits$Letters;" : Cond) ∈ BIG := List.mem_filter.mpr ⟨by decide +kernel, by rfl⟩
theorem m_499 : (.code y_SD_digits b_SD_digits 1 (some .long) : Cond) ∈ BIG := List.mem_filter.mpr ⟨by decide +kernel, by rfl⟩
theorem m_500 : (.methodLink R_PB 199 y_SD_digits : Cond) ∈ BIG := List.mem_filter.mpr ⟨by decide +kernel, by rfl⟩
theorem m_501 : (.instanceMethod y_SD_digits : Cond) ∈ BIG := List.mem_filter.mpr ⟨by decide +kernel, by rfl⟩
theorem m_502 : (.selects R_SD y_SD_digits y_SD_digits : Cond) ∈ BIG := List.mem_filter.mpr ⟨by decide +kernel, by rfl⟩
theorem m_503 : (.code y_SD_power b_SD_power 1 (some .int) : Cond) ∈ BIG := List.mem_filter.mpr ⟨by decide +kernel, by rfl⟩
theorem m_504 : (.methodLink R_PB 202 y_SD_power : Cond) ∈ BIG := List.mem_filter.mpr ⟨by decide +kernel, by rfl⟩
theorem m_505 : (.instanceMethod y_SD_power : Cond) ∈ BIG := List.mem_filter.mpr ⟨by decide +kernel, by rfl⟩
theorem m_506 : (.selects R_SD y_SD_power y_SD_power : Cond) ∈ BIG := List.mem_filter.mpr ⟨by decide +kernel, by rfl⟩
theorem m_507 : (.code y_Lt_putDecimal b_Lt_putDecimal 6 none : Cond) ∈ BIG := List.mem_filter.mpr ⟨by decide +kernel, by rfl⟩
theorem m_508 : (.methodLink R_PB 204 y_Lt_putDecimal : Cond) ∈ BIG := List.mem_filter.mpr ⟨by decide +kernel, by rfl⟩
theorem m_509 : (.instanceMethod y_Lt_putDecimal : Cond) ∈ BIG := List.mem_filter.mpr ⟨by decide +kernel, by rfl⟩
theorem m_510 : (.selects R_Lt y_Lt_putDecimal y_Lt_putDecimal : Cond) ∈ BIG := List.mem_filter.mpr ⟨by decide +kernel, by rfl⟩
theorem m_511 : (.methodLink R_PB 166 y_Lt_put_r : Cond) ∈ BIG := List.mem_filter.mpr ⟨by decide +kernel, by rfl⟩
theorem m_512 : (.methodLink R_PB 172 y_Lt_put_i : Cond) ∈ BIG := List.mem_filter.mpr ⟨by decide +kernel, by rfl⟩
theorem m_513 : (.code y_Lt_clear b_Lt_clear 1 none : Cond) ∈ BIG := List.mem_filter.mpr ⟨by decide +kernel, by rfl⟩
theorem m_514 : (.methodLink R_PB 93 y_Lt_clear : Cond) ∈ BIG := List.mem_filter.mpr ⟨by decide +kernel, by rfl⟩
theorem m_515 : (.instanceMethod y_Lt_clear : Cond) ∈ BIG := List.mem_filter.mpr ⟨by decide +kernel, by rfl⟩
theorem m_516 : (.selects R_Lt y_Lt_clear y_Lt_clear : Cond) ∈ BIG := List.mem_filter.mpr ⟨by decide +kernel, by rfl⟩
theorem m_517 : (.code y_Lt_count b_Lt_count 1 (some .int) : Cond) ∈ BIG := List.mem_filter.mpr ⟨by decide +kernel, by rfl⟩
theorem m_518 : (.methodLink R_PB 104 y_Lt_count : Cond) ∈ BIG := List.mem_filter.mpr ⟨by decide +kernel, by rfl⟩
theorem m_519 : (.instanceMethod y_Lt_count : Cond) ∈ BIG := List.mem_filter.mpr ⟨by decide +kernel, by rfl⟩
theorem m_520 : (.selects R_Lt y_Lt_count y_Lt_count : Cond) ∈ BIG := List.mem_filter.mpr ⟨by decide +kernel, by rfl⟩
theorem m_521 : (.code y_PB_putReal b_PB_putReal 4 none : Cond) ∈ BIG := List.mem_filter.mpr ⟨by decide +kernel, by rfl⟩
theorem m_522 : (.methodLink R_PB 100 y_PB_putReal : Cond) ∈ BIG := List.mem_filter.mpr ⟨by decide +kernel, by rfl⟩
theorem m_523 : (.instanceMethod y_PB_putReal : Cond) ∈ BIG := List.mem_filter.mpr ⟨by decide +kernel, by rfl⟩
theorem m_524 : (.selects R_PB y_PB_putReal y_PB_putReal : Cond) ∈ BIG := List.mem_filter.mpr ⟨by decide +kernel, by rfl⟩
theorem m_525 : (.methodLink R_PB 96 y_Lt_putWhole : Cond) ∈ BIG := List.mem_filter.mpr ⟨by decide +kernel, by rfl⟩
theorem m_526 : (.code y_Lt_next b_Lt_next 5 (some .long) : Cond) ∈ BIG := List.mem_filter.mpr ⟨by decide +kernel, by rfl⟩
theorem m_527 : (.methodLink R_PB 108 y_Lt_next : Cond) ∈ BIG := List.mem_filter.mpr ⟨by decide +kernel, by rfl⟩
theorem m_528 : (.instanceMethod y_Lt_next : Cond) ∈ BIG := List.mem_filter.mpr ⟨by decide +kernel, by rfl⟩
theorem m_529 : (.selects R_Lt y_Lt_next y_Lt_next : Cond) ∈ BIG := List.mem_filter.mpr ⟨by decide +kernel, by rfl⟩
theorem bp_7 : (Int8.ofInt 7).toInt32 = 7 := by decide
