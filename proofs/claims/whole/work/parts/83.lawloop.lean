section LAWLOOP
variable {E : EV} {b L : Nat} {xs : Nat → Int32} {cs sl : Nat} {μ : Mem} {i : Nat}
theorem and63 (x : Int32) : ∃ k : Nat, k ≤ 63 ∧ x &&& 63 = nI k := by
  have hx : x = nI x.toBitVec.toNat := i32_ext (by rw [pk_tn x.toBitVec.isLt])
  refine ⟨x.toBitVec.toNat &&& 63, Nat.and_le_right, ?_⟩
  have h : nI x.toBitVec.toNat &&& nI 63 = nI (x.toBitVec.toNat &&& 63) := b_and x.toBitVec.isLt (by decide)
  rw [← hx] at h
  exact h
theorem law_end (hcs : cs ≤ 600000) (hsl : sl ≤ 7302250) : Lx E b L xs cs sl 1308 (nI i) [] μ := by
  intro p e s m below meth c hA hK hN hz H locs lr hl hP hS
  refine lv_iconst hA.1 hA.2.1 (dk zLw14 52 rfl) (v := 1) rfl ?_
  refine va_forget (fun q hq => by have := hS.2.2 q hq; rw [← hz]; exact this) ?_
  refine W.widen hcs hsl ?_
  exact lw_ret hA.1 hA.2.1 hA.2.2.1 hA.2.2.2.2.2.2.2.2.1 (dk zLw14 53 rfl)
theorem law_next (k : Lx E b L xs cs sl 18 (nI (i + 6)) [] μ) : Lx E b L xs cs sl 1302 (nI i) [] μ := by
  intro p e s m below meth c hA hK hN hz H locs lr hl hP hS
  refine lv_iinc (k := 3) hA.1 hA.2.1 (dk zLw14 50 rfl) hl rfl (v := nI (i + 6)) (nI_add i 6) (by decide) rfl (fun lr2 hl2 => ?_)
  refine lv_goto (tgt := 18) hA.1 hA.2.1 (dk zLw14 51 rfl) (by decide) ?_
  exact k p e s m below meth c hA hK hN hz H locs lr2 (lv_sub hl2 [1, 2, 3, 0] rfl) hP hS
theorem law_switch {x : Int32} (hi : i + 6 ≤ L) (hL : L ≤ 3072) (hcs : cs ≤ 600000) (hsl : sl ≤ 7302250) (hv : Inv μ) (k : ∀ ξ, Inv ξ → Lx E b L xs cs sl 1302 (nI i) [] ξ) : Lx E b L xs cs sl 33 (nI i) [.int (x &&& 63)] μ := by
  obtain ⟨j, hj, ej⟩ := and63 x
  rw [ej]
  have tj : (nI j).toInt = (j : Int) := nI_toInt (by omega)
  by_cases c : 32 < j
  · intro p e s m below meth c' hA hK hN hz H locs lr hl hP hS
    exact lv_tableOut (tgt := 1302) hA.1 hA.2.1 (dk zLw0 21 rfl) (Or.inr (by rw [tj]; omega)) (by decide) (k μ hv p e s m below meth c' hA hK hN hz H locs lr hl hP hS)
  · have go : ∀ (off : Int) (tgt : Nat), ((#[147, 180, 203, 226, 259, 272, 295, 328, 381, 414, 478, 541, 584, 607, 640, 694, 727, 750, 763, 796, 829, 852, 865, 898, 931, 974, 1017, 1040, 1093, 1136, 1199, 1232, 1255] : Array Int)[j]? = some off) → ((33 : Nat) : Int) + off = (tgt : Int) → Lx E b L xs cs sl tgt (nI i) [] μ → Lx E b L xs cs sl 33 (nI i) [.int (nI j)] μ := by
      intro off tgt ho ht kk p e s m below meth c' hA hK hN hz H locs lr hl hP hS
      exact lv_tableIn (tgt := tgt) (off := off) hA.1 hA.2.1 (dk zLw0 21 rfl) (by rw [tj]; omega) (by rw [tj]; omega) (by rw [tj, show ((j : Int) - 0).toNat = j by omega]; exact ho) ht (kk p e s m below meth c' hA hK hN hz H locs lr hl hP hS)
    rcases (show j = 0 ∨ j = 1 ∨ j = 2 ∨ j = 3 ∨ j = 4 ∨ j = 5 ∨ j = 6 ∨ j = 7 ∨ j = 8 ∨ j = 9 ∨ j = 10 ∨ j = 11 ∨ j = 12 ∨ j = 13 ∨ j = 14 ∨ j = 15 ∨ j = 16 ∨ j = 17 ∨ j = 18 ∨ j = 19 ∨ j = 20 ∨ j = 21 ∨ j = 22 ∨ j = 23 ∨ j = 24 ∨ j = 25 ∨ j = 26 ∨ j = 27 ∨ j = 28 ∨ j = 29 ∨ j = 30 ∨ j = 31 ∨ j = 32 by omega) with rfl | rfl | rfl | rfl | rfl | rfl | rfl | rfl | rfl | rfl | rfl | rfl | rfl | rfl | rfl | rfl | rfl | rfl | rfl | rfl | rfl | rfl | rfl | rfl | rfl | rfl | rfl | rfl | rfl | rfl | rfl | rfl | rfl
    · exact go 147 180 rfl (by decide) (law_type hi hL hcs hsl hv k)
    · exact go 180 213 rfl (by decide) (law_wipe hi hL hcs hsl hv k)
    · exact go 203 236 rfl (by decide) (law_fault hi hL hcs hsl hv k)
    · exact go 226 259 rfl (by decide) (law_gate hi hL hcs hsl hv k)
    · exact go 259 292 rfl (by decide) (law_room hi hL hcs hsl hv k)
    · exact go 272 305 rfl (by decide) (law_shut hi hL hcs hsl hv k)
    · exact go 295 328 rfl (by decide) (law_paper hi hL hcs hsl hv k)
    · exact go 328 361 rfl (by decide) (law_judged hi hL hcs hsl hv k)
    · exact go 381 414 rfl (by decide) (law_same hi hL hcs hsl hv k)
    · exact go 414 447 rfl (by decide) (law_shortest hi hL hcs hsl hv k)
    · exact go 478 511 rfl (by decide) (law_letter hi hL hcs hsl hv k)
    · exact go 541 574 rfl (by decide) (law_errands hi hL hcs hsl hv k)
    · exact go 584 617 rfl (by decide) (law_clean hi hL hcs hsl hv k)
    · exact go 607 640 rfl (by decide) (law_found hi hL hcs hsl hv k)
    · exact go 640 673 rfl (by decide) (law_many hi hL hcs hsl hv k)
    · exact go 694 727 rfl (by decide) (law_list hi hL hcs hsl hv k)
    · exact go 727 760 rfl (by decide) (law_read hi hL hcs hsl hv k)
    · exact go 750 783 rfl (by decide) (law_unlist hi hL hcs hsl hv k)
    · exact go 763 796 rfl (by decide) (law_listed hi hL hcs hsl hv k)
    · exact go 796 829 rfl (by decide) (law_lets hi hL hcs hsl hv k)
    · exact go 829 862 rfl (by decide) (law_slips hi hL hcs hsl hv k)
    · exact go 852 885 rfl (by decide) (law_fewest hi hL hcs hsl hv k)
    · exact go 865 898 rfl (by decide) (law_far hi hL hcs hsl hv k)
    · exact go 898 931 rfl (by decide) (law_without hi hL hcs hsl hv k)
    · exact go 931 964 rfl (by decide) (law_with hi hL hcs hsl hv k)
    · exact go 974 1007 rfl (by decide) (law_sheet hi hL hcs hsl hv k)
    · exact go 1017 1050 rfl (by decide) (law_lose hi hL hcs hsl hv k)
    · exact go 1040 1073 rfl (by decide) (law_lay hi hL hcs hsl hv k)
    · exact go 1093 1126 rfl (by decide) (law_get hi hL hcs hsl hv k)
    · exact go 1136 1169 rfl (by decide) (law_copy hi hL hcs hsl hv k)
    · exact go 1199 1232 rfl (by decide) (law_write hi hL hcs hsl hv k)
    · exact go 1232 1265 rfl (by decide) (law_count hi hL hcs hsl hv k)
    · exact go 1255 1288 rfl (by decide) (law_digest hi hL hcs hsl hv k)
theorem law_head (hi : i < 4000) (hL : L ≤ 3072) (hcs : cs ≤ 600000) (hsl : sl ≤ 7302250) (hv : Inv μ) (k : i + 6 ≤ L → ∀ ξ, Inv ξ → Lx E b L xs cs sl 18 (nI (i + 6)) [] ξ) : Lx E b L xs cs sl 18 (nI i) [] μ := by
  intro p e s m below meth c hA hK hN hz H locs lr hl hP hS
  have hbA : ¬ Fz E b := by
    show ¬ E.2.2.2 ≤ b
    have := hA.2.2.2.2.2.2.2.1
    omega
  have hX := hA.2.2.2.2.2.2.1
  have hbl := hA.2.2.2.2.2.2.2.1
  refine lv_iload_n hA.1 hA.2.1 (dk zLw0 10 rfl) rfl (lv_at hl 3 rfl) ?_
  refine lv_aload_n hA.1 hA.2.1 (dk zLw0 11 rfl) rfl (lv_at hl 0 rfl) ?_
  refine va_slen hA.1 hA.2.1 hX hbl hbA hS (dk zLw0 12 rfl) ?_
  refine lv_bipush hA.1 hA.2.1 (dk zLw0 13 rfl) (v := 6) rfl ?_
  refine lv_isub hA.1 hA.2.1 (dk zLw0 14 rfl) ?_
  have e6 : (Int32.ofNat L - 6).toInt = (L : Int) - 6 := pk_sub_toInt (a := L) (b := 6) (by omega) (by omega)
  refine lv_icmp_gt (tgt := 1308) hA.1 hA.2.1 (dk zLw0 15 rfl) (by decide) (fun _ => law_end (μ := μ) (i := i) hcs hsl p e s m below meth c hA hK hN hz H locs lr hl hP hS) (fun z => ?_)
  rw [i_lt, e6, nI_toInt (by omega)] at z
  have hi6 : i + 6 ≤ L := by omega
  refine lv_aload_n hA.1 hA.2.1 (dk zLw0 16 rfl) rfl (lv_at hl 0 rfl) ?_
  refine lv_iload_n hA.1 hA.2.1 (dk zLw0 17 rfl) rfl (lv_at hl 3 rfl) ?_
  refine va_sld hA.1 hA.2.1 hX hbl hbA hS (by rw [n_in (by omega) (by omega)]; omega) (dk zLw0 18 rfl) ?_
  refine lv_bipush hA.1 hA.2.1 (dk zLw0 19 rfl) (v := 63) rfl ?_
  refine lv_iand hA.1 hA.2.1 (dk zLw0 20 rfl) ?_
  exact law_switch hi6 hL hcs hsl hv (fun ξ hξ => law_next (k hi6 ξ hξ)) p e s m below meth c hA hK hN hz H locs lr hl hP hS
theorem law_loop (hL : L ≤ 3072) (hcs : cs ≤ 600000) (hsl : sl ≤ 7302250) : ∀ (d i : Nat) (μ : Mem), L + 6 ≤ i + d → i ≤ L + 6 → Inv μ → Lx E b L xs cs sl 18 (nI i) [] μ := by
  intro d
  induction d with
  | zero => intro i μ h1 h2 hv; exact law_head (by omega) hL hcs hsl hv (fun w => by omega)
  | succ d ih => intro i μ h1 h2 hv; exact law_head (by omega) hL hcs hsl hv (fun w ξ hξ => ih (i + 6) ξ (by omega) (by omega) hξ)
end LAWLOOP
