/-! a job comes in: the class -/
theorem rd_si {W : z_W} {g i k g' i' k' : Nat} {x : Int32} (h : ¬ k' = k) : (z_si W g i k x).1 g' i' k' = W.1 g' i' k' := if_neg (fun h9 => h h9.2.2)
theorem rd_g {W : z_W} {g i k g' i' k' : Nat} {x : Int32} (h : ¬ (g' = g ∧ i' = i ∧ k' = k)) : (z_si W g i k x).1 g' i' k' = W.1 g' i' k' := if_neg h
/-- only the row rr of the jobs but for its number, and its pixels -/
def cpW (rr : Nat) (w w' : z_W) : Prop := w'.2 = w.2 ∧ ∀ g i k, ¬ (g = 9 ∧ i = rr ∧ 2 ≤ k) → ¬ (g = 10 ∧ i = rr) → w'.1 g i k = w.1 g i k
section AD
variable {Q : z_W → Option z_V → Prop}
theorem e_copyFrom {rr : Nat} {a : Nat → Nat} {w : z_W} (hrr : rr < 20) (ha : ∀ f, 2 ≤ f → f ≤ 9 → w.1 9 20 f = iN (a f)) (K : ∀ w', cpW rr w w' → (∀ f, 2 ≤ f → f ≤ 9 → w'.1 9 rr f = iN (a f)) → (∀ q, q < 72 → w'.1 10 rr q = w.1 10 20 q) → Q w' none) : cRun kJ_copyFrom (0, [some (zR 9 rr), some (zR 9 20)], [], w) Q := by
  have h2 := ha 2 (by decide) (by decide)
  have h3 := ha 3 (by decide) (by decide)
  have h4 := ha 4 (by decide) (by decide)
  have h5 := ha 5 (by decide) (by decide)
  have h6 := ha 6 (by decide) (by decide)
  have h7 := ha 7 (by decide) (by decide)
  have h8 := ha 8 (by decide) (by decide)
  have h9 := ha 9 (by decide) (by decide)
  clear ha
  refine z_C.go 2 rfl ?_
  refine z_C.ld rfl rfl h2 ?_
  refine z_C.go 1 rfl ?_
  show cRun kJ_copyFrom (8, [some (zR 9 rr), some (zR 9 20)], [], z_si w 9 rr 2 (iN (a 2))) Q
  generalize e2 : z_si w 9 rr 2 (iN (a 2)) = w2
  have h3 : w2.1 9 20 3 = iN (a 3) := by rw [← e2]; exact (rd_si (by decide)).trans h3
  have h4 : w2.1 9 20 4 = iN (a 4) := by rw [← e2]; exact (rd_si (by decide)).trans h4
  have h5 : w2.1 9 20 5 = iN (a 5) := by rw [← e2]; exact (rd_si (by decide)).trans h5
  have h6 : w2.1 9 20 6 = iN (a 6) := by rw [← e2]; exact (rd_si (by decide)).trans h6
  have h7 : w2.1 9 20 7 = iN (a 7) := by rw [← e2]; exact (rd_si (by decide)).trans h7
  have h8 : w2.1 9 20 8 = iN (a 8) := by rw [← e2]; exact (rd_si (by decide)).trans h8
  have h9 : w2.1 9 20 9 = iN (a 9) := by rw [← e2]; exact (rd_si (by decide)).trans h9
  have s2 : w2.1 9 rr 2 = iN (a 2) := by rw [← e2]; exact if_pos ⟨rfl, rfl, rfl⟩
  have c2 : cpW rr w w2 := by
    rw [← e2]
    exact ⟨rfl, fun g i k h _ => rd_g (fun h9 => h ⟨h9.1, h9.2.1, by omega⟩)⟩
  refine z_C.go 2 rfl ?_
  refine z_C.ld rfl rfl h3 ?_
  refine z_C.go 1 rfl ?_
  show cRun kJ_copyFrom (16, [some (zR 9 rr), some (zR 9 20)], [], z_si w2 9 rr 3 (iN (a 3))) Q
  generalize e3 : z_si w2 9 rr 3 (iN (a 3)) = w3
  have h4 : w3.1 9 20 4 = iN (a 4) := by rw [← e3]; exact (rd_si (by decide)).trans h4
  have h5 : w3.1 9 20 5 = iN (a 5) := by rw [← e3]; exact (rd_si (by decide)).trans h5
  have h6 : w3.1 9 20 6 = iN (a 6) := by rw [← e3]; exact (rd_si (by decide)).trans h6
  have h7 : w3.1 9 20 7 = iN (a 7) := by rw [← e3]; exact (rd_si (by decide)).trans h7
  have h8 : w3.1 9 20 8 = iN (a 8) := by rw [← e3]; exact (rd_si (by decide)).trans h8
  have h9 : w3.1 9 20 9 = iN (a 9) := by rw [← e3]; exact (rd_si (by decide)).trans h9
  have s2 : w3.1 9 rr 2 = iN (a 2) := by rw [← e3]; exact (rd_si (by decide)).trans s2
  have s3 : w3.1 9 rr 3 = iN (a 3) := by rw [← e3]; exact if_pos ⟨rfl, rfl, rfl⟩
  have c3 : cpW rr w w3 := by
    rw [← e3]
    exact ⟨c2.1, fun g i k h h2 => (rd_g (fun h9 => h ⟨h9.1, h9.2.1, by omega⟩)).trans (c2.2 g i k h h2)⟩
  refine z_C.go 2 rfl ?_
  refine z_C.ld rfl rfl h4 ?_
  refine z_C.go 1 rfl ?_
  show cRun kJ_copyFrom (24, [some (zR 9 rr), some (zR 9 20)], [], z_si w3 9 rr 4 (iN (a 4))) Q
  generalize e4 : z_si w3 9 rr 4 (iN (a 4)) = w4
  have h5 : w4.1 9 20 5 = iN (a 5) := by rw [← e4]; exact (rd_si (by decide)).trans h5
  have h6 : w4.1 9 20 6 = iN (a 6) := by rw [← e4]; exact (rd_si (by decide)).trans h6
  have h7 : w4.1 9 20 7 = iN (a 7) := by rw [← e4]; exact (rd_si (by decide)).trans h7
  have h8 : w4.1 9 20 8 = iN (a 8) := by rw [← e4]; exact (rd_si (by decide)).trans h8
  have h9 : w4.1 9 20 9 = iN (a 9) := by rw [← e4]; exact (rd_si (by decide)).trans h9
  have s2 : w4.1 9 rr 2 = iN (a 2) := by rw [← e4]; exact (rd_si (by decide)).trans s2
  have s3 : w4.1 9 rr 3 = iN (a 3) := by rw [← e4]; exact (rd_si (by decide)).trans s3
  have s4 : w4.1 9 rr 4 = iN (a 4) := by rw [← e4]; exact if_pos ⟨rfl, rfl, rfl⟩
  have c4 : cpW rr w w4 := by
    rw [← e4]
    exact ⟨c3.1, fun g i k h h2 => (rd_g (fun h9 => h ⟨h9.1, h9.2.1, by omega⟩)).trans (c3.2 g i k h h2)⟩
  refine z_C.go 2 rfl ?_
  refine z_C.ld rfl rfl h5 ?_
  refine z_C.go 1 rfl ?_
  show cRun kJ_copyFrom (32, [some (zR 9 rr), some (zR 9 20)], [], z_si w4 9 rr 5 (iN (a 5))) Q
  generalize e5 : z_si w4 9 rr 5 (iN (a 5)) = w5
  have h6 : w5.1 9 20 6 = iN (a 6) := by rw [← e5]; exact (rd_si (by decide)).trans h6
  have h7 : w5.1 9 20 7 = iN (a 7) := by rw [← e5]; exact (rd_si (by decide)).trans h7
  have h8 : w5.1 9 20 8 = iN (a 8) := by rw [← e5]; exact (rd_si (by decide)).trans h8
  have h9 : w5.1 9 20 9 = iN (a 9) := by rw [← e5]; exact (rd_si (by decide)).trans h9
  have s2 : w5.1 9 rr 2 = iN (a 2) := by rw [← e5]; exact (rd_si (by decide)).trans s2
  have s3 : w5.1 9 rr 3 = iN (a 3) := by rw [← e5]; exact (rd_si (by decide)).trans s3
  have s4 : w5.1 9 rr 4 = iN (a 4) := by rw [← e5]; exact (rd_si (by decide)).trans s4
  have s5 : w5.1 9 rr 5 = iN (a 5) := by rw [← e5]; exact if_pos ⟨rfl, rfl, rfl⟩
  have c5 : cpW rr w w5 := by
    rw [← e5]
    exact ⟨c4.1, fun g i k h h2 => (rd_g (fun h9 => h ⟨h9.1, h9.2.1, by omega⟩)).trans (c4.2 g i k h h2)⟩
  refine z_C.go 2 rfl ?_
  refine z_C.ld rfl rfl h6 ?_
  refine z_C.go 1 rfl ?_
  show cRun kJ_copyFrom (40, [some (zR 9 rr), some (zR 9 20)], [], z_si w5 9 rr 6 (iN (a 6))) Q
  generalize e6 : z_si w5 9 rr 6 (iN (a 6)) = w6
  have h7 : w6.1 9 20 7 = iN (a 7) := by rw [← e6]; exact (rd_si (by decide)).trans h7
  have h8 : w6.1 9 20 8 = iN (a 8) := by rw [← e6]; exact (rd_si (by decide)).trans h8
  have h9 : w6.1 9 20 9 = iN (a 9) := by rw [← e6]; exact (rd_si (by decide)).trans h9
  have s2 : w6.1 9 rr 2 = iN (a 2) := by rw [← e6]; exact (rd_si (by decide)).trans s2
  have s3 : w6.1 9 rr 3 = iN (a 3) := by rw [← e6]; exact (rd_si (by decide)).trans s3
  have s4 : w6.1 9 rr 4 = iN (a 4) := by rw [← e6]; exact (rd_si (by decide)).trans s4
  have s5 : w6.1 9 rr 5 = iN (a 5) := by rw [← e6]; exact (rd_si (by decide)).trans s5
  have s6 : w6.1 9 rr 6 = iN (a 6) := by rw [← e6]; exact if_pos ⟨rfl, rfl, rfl⟩
  have c6 : cpW rr w w6 := by
    rw [← e6]
    exact ⟨c5.1, fun g i k h h2 => (rd_g (fun h9 => h ⟨h9.1, h9.2.1, by omega⟩)).trans (c5.2 g i k h h2)⟩
  refine z_C.go 2 rfl ?_
  refine z_C.ld rfl rfl h7 ?_
  refine z_C.go 1 rfl ?_
  show cRun kJ_copyFrom (48, [some (zR 9 rr), some (zR 9 20)], [], z_si w6 9 rr 7 (iN (a 7))) Q
  generalize e7 : z_si w6 9 rr 7 (iN (a 7)) = w7
  have h8 : w7.1 9 20 8 = iN (a 8) := by rw [← e7]; exact (rd_si (by decide)).trans h8
  have h9 : w7.1 9 20 9 = iN (a 9) := by rw [← e7]; exact (rd_si (by decide)).trans h9
  have s2 : w7.1 9 rr 2 = iN (a 2) := by rw [← e7]; exact (rd_si (by decide)).trans s2
  have s3 : w7.1 9 rr 3 = iN (a 3) := by rw [← e7]; exact (rd_si (by decide)).trans s3
  have s4 : w7.1 9 rr 4 = iN (a 4) := by rw [← e7]; exact (rd_si (by decide)).trans s4
  have s5 : w7.1 9 rr 5 = iN (a 5) := by rw [← e7]; exact (rd_si (by decide)).trans s5
  have s6 : w7.1 9 rr 6 = iN (a 6) := by rw [← e7]; exact (rd_si (by decide)).trans s6
  have s7 : w7.1 9 rr 7 = iN (a 7) := by rw [← e7]; exact if_pos ⟨rfl, rfl, rfl⟩
  have c7 : cpW rr w w7 := by
    rw [← e7]
    exact ⟨c6.1, fun g i k h h2 => (rd_g (fun h9 => h ⟨h9.1, h9.2.1, by omega⟩)).trans (c6.2 g i k h h2)⟩
  refine z_C.go 2 rfl ?_
  refine z_C.ld rfl rfl h8 ?_
  refine z_C.go 1 rfl ?_
  show cRun kJ_copyFrom (56, [some (zR 9 rr), some (zR 9 20)], [], z_si w7 9 rr 8 (iN (a 8))) Q
  generalize e8 : z_si w7 9 rr 8 (iN (a 8)) = w8
  have h9 : w8.1 9 20 9 = iN (a 9) := by rw [← e8]; exact (rd_si (by decide)).trans h9
  have s2 : w8.1 9 rr 2 = iN (a 2) := by rw [← e8]; exact (rd_si (by decide)).trans s2
  have s3 : w8.1 9 rr 3 = iN (a 3) := by rw [← e8]; exact (rd_si (by decide)).trans s3
  have s4 : w8.1 9 rr 4 = iN (a 4) := by rw [← e8]; exact (rd_si (by decide)).trans s4
  have s5 : w8.1 9 rr 5 = iN (a 5) := by rw [← e8]; exact (rd_si (by decide)).trans s5
  have s6 : w8.1 9 rr 6 = iN (a 6) := by rw [← e8]; exact (rd_si (by decide)).trans s6
  have s7 : w8.1 9 rr 7 = iN (a 7) := by rw [← e8]; exact (rd_si (by decide)).trans s7
  have s8 : w8.1 9 rr 8 = iN (a 8) := by rw [← e8]; exact if_pos ⟨rfl, rfl, rfl⟩
  have c8 : cpW rr w w8 := by
    rw [← e8]
    exact ⟨c7.1, fun g i k h h2 => (rd_g (fun h9 => h ⟨h9.1, h9.2.1, by omega⟩)).trans (c7.2 g i k h h2)⟩
  refine z_C.go 2 rfl ?_
  refine z_C.ld rfl rfl h9 ?_
  refine z_C.go 1 rfl ?_
  show cRun kJ_copyFrom (64, [some (zR 9 rr), some (zR 9 20)], [], z_si w8 9 rr 9 (iN (a 9))) Q
  generalize e9 : z_si w8 9 rr 9 (iN (a 9)) = w9
  have s2 : w9.1 9 rr 2 = iN (a 2) := by rw [← e9]; exact (rd_si (by decide)).trans s2
  have s3 : w9.1 9 rr 3 = iN (a 3) := by rw [← e9]; exact (rd_si (by decide)).trans s3
  have s4 : w9.1 9 rr 4 = iN (a 4) := by rw [← e9]; exact (rd_si (by decide)).trans s4
  have s5 : w9.1 9 rr 5 = iN (a 5) := by rw [← e9]; exact (rd_si (by decide)).trans s5
  have s6 : w9.1 9 rr 6 = iN (a 6) := by rw [← e9]; exact (rd_si (by decide)).trans s6
  have s7 : w9.1 9 rr 7 = iN (a 7) := by rw [← e9]; exact (rd_si (by decide)).trans s7
  have s8 : w9.1 9 rr 8 = iN (a 8) := by rw [← e9]; exact (rd_si (by decide)).trans s8
  have s9 : w9.1 9 rr 9 = iN (a 9) := by rw [← e9]; exact if_pos ⟨rfl, rfl, rfl⟩
  have c9 : cpW rr w w9 := by
    rw [← e9]
    exact ⟨c8.1, fun g i k h h2 => (rd_g (fun h9 => h ⟨h9.1, h9.2.1, by omega⟩)).trans (c8.2 g i k h h2)⟩
  refine z_C.go 9 rfl ?_
  show cRun kJ_copyFrom (79, [some (zR 9 rr), some (zR 9 20)], [zI 72, zI 0, zR 10 rr, zI 0, zR 10 20], w9) Q
  refine z_C.go 1 rfl ?_
  refine z_C.ret rfl rfl (K _ ⟨c9.1, fun g i k h h2 => (if_neg h2).trans (c9.2 g i k h h2)⟩ (fun f hf1 hf2 => ?_) (fun q hq => ?_))
  · have hc : f = 2 ∨ f = 3 ∨ f = 4 ∨ f = 5 ∨ f = 6 ∨ f = 7 ∨ f = 8 ∨ f = 9 := by omega
    rcases hc with rfl | rfl | rfl | rfl | rfl | rfl | rfl | rfl
    · exact s2
    · exact s3
    · exact s4
    · exact s5
    · exact s6
    · exact s7
    · exact s8
    · exact s9
  · show (if 10 = 10 ∧ rr = rr then va_cpy (w9.1 10 20) (w9.1 10 rr) 0 0 72 q else w9.1 10 rr q) = _
    rw [if_pos ⟨rfl, rfl⟩]
    show (if 0 ≤ q ∧ q < 0 + 72 then w9.1 10 20 (0 + (q - 0)) else w9.1 10 rr q) = _
    rw [if_pos ⟨Nat.zero_le _, by omega⟩, Nat.zero_add, Nat.sub_zero]
    exact c9.2 10 20 q (by omega) (by omega)
end AD
