/-! what a reply tells of a job -/
abbrev lSta : List Nat := [19, 20, 1, 20, 5]
abbrev lPag : List Nat := [16, 1, 7, 5, 19]
abbrev lSen : List Nat := [19, 5, 14, 20]
def tellS (a : Nat → Nat) : List Int32 := [2] ++ intL lJob (iN (a 1)) ++ intL lSta (iN (a 2))
def tellB (a : Nat → Nat) : List Int32 := tellS a ++ intL lPag (iN (a 8)) ++ intL lCop (iN (a 3)) ++ intL lPri (iN (a 4)) ++ intL lSen (iN (a 9))
theorem tellS_len (a : Nat → Nat) : (tellS a).length = 27 := by
  unfold tellS
  rw [List.length_append, List.length_append, intL_len, intL_len]
  rfl
theorem tellB_len (a : Nat → Nat) : (tellB a).length = 86 := by
  unfold tellB
  rw [List.length_append, List.length_append, List.length_append, List.length_append, intL_len, intL_len, intL_len, intL_len, tellS_len]
  rfl
theorem tellS_byte (a : Nat → Nat) : ∀ y ∈ tellS a, y &&& 255 = y := by
  intro y hy
  unfold tellS at hy
  rcases List.mem_append.mp hy with hy | hy
  · rcases List.mem_append.mp hy with hy | hy
    · rw [List.mem_singleton.mp hy]
      decide
    · exact intL_byte (by decide) y hy
  · exact intL_byte (by decide) y hy
theorem tellB_byte (a : Nat → Nat) : ∀ y ∈ tellB a, y &&& 255 = y := by
  intro y hy
  unfold tellB at hy
  rcases List.mem_append.mp hy with hy | hy
  · rcases List.mem_append.mp hy with hy | hy
    · rcases List.mem_append.mp hy with hy | hy
      · rcases List.mem_append.mp hy with hy | hy
        · exact tellS_byte a y hy
        · exact intL_byte (by decide) y hy
      · exact intL_byte (by decide) y hy
    · exact intL_byte (by decide) y hy
  · exact intL_byte (by decide) y hy
theorem bA1 {l : List Int32} {w : z_W} {g i k : Nat} (h1 : ¬ g = 1) (h2 : ¬ g = 2) : (bApp 1 l w).1 g i k = w.1 g i k := (bApp_fr l w).2 g i k (fun h => by rcases h.2 with h | h; exact h1 h.1; exact h2 h)
theorem mA5 {l : List Int32} {v : z_W} {g i k : Nat} (h1 : ¬ g = 5) (h2 : ¬ (g = 0 ∧ i = 0 ∧ k = 23)) : (mApp 5 23 l v).1 g i k = v.1 g i k := (mApp_fr l v).2 g i k h2 (fun h => h1 h.1)
section TC
variable {r L : Nat} {a : Nat → Nat} {w : z_W} {Q : z_W → Option z_V → Prop}
theorem okY_lJob : okY 6975330 lJob = true := by decide +kernel
theorem okY_lSta : okY 495873782885 lSta = true := by decide +kernel
theorem okY_lPag : okY 482670503283 lPag = true := by decide +kernel
theorem okY_lCop : okY 109330278475123 lCop = true := by decide +kernel
theorem okY_lPri : okY 8102654606974743673 lPri = true := by decide +kernel
theorem okY_lSen : okY 1936027252 lSen = true := by decide +kernel
/-- the short answer of the class: pc 41 -/
theorem e_tell0 (hf : ∀ f, 1 ≤ f → f ≤ 9 → w.1 9 r f = iN (a f)) (hL : w.1 1 1 1 = iN L) (hc : L + 27 ≤ 512) (K : ∀ w', w' = bApp 1 (tellS a) w → cRun kP_tellOf (41, [some (zR 0 0), some (zR 9 r)], [], w') Q) : cRun kP_tellOf (0, [some (zR 0 0), some (zR 9 r)], [], w) Q := by
  refine z_C.go 5 rfl ?_
  refine z_C.call rfl rfl (e_add (b := 1) (x := 2) (Q := fun w1 r => r = none ∧ w1 = bApp 1 [2] w) hL (by omega) ⟨rfl, rfl⟩) (fun w1 r' h => ?_)
  obtain ⟨rfl, q0⟩ := h
  have l0 : w1.1 1 1 1 = iN (L + 1) := by rw [q0]; exact bApp_len (b := 1) [2] L w hL (show L + 1 ≤ 512 by omega)
  refine z_C.go 4 rfl ?_
  refine z_C.ld rfl rfl (y := iN (a 1)) (by rw [q0]; exact (bA1 (by decide) (by decide)).trans (hf 1 (by decide) (by decide))) ?_
  refine z_C.call rfl rfl (e_addI (l := lJob) (Q := fun w' r => r = none ∧ w' = bApp 1 (intL lJob (iN (a 1))) w1) okY_lJob l0 (by show _ + (3 + 9) ≤ 512; omega) ⟨rfl, rfl⟩) (fun w2 r' h => ?_)
  obtain ⟨rfl, q1⟩ := h
  rw [q0, ← bApp_app] at q1
  have l1 : w2.1 1 1 1 = iN (L + 13) := by
    have e : ([2] ++ intL lJob (iN (a 1))).length = 13 := by rw [List.length_append, intL_len]; rfl
    have k9 := bApp_len (b := 1) ([2] ++ intL lJob (iN (a 1))) L w hL (by rw [e]; show _ ≤ 512; omega)
    rw [e, ← q1] at k9
    exact k9
  refine z_C.go 4 rfl ?_
  refine z_C.ld rfl rfl (y := iN (a 2)) (by rw [q1]; exact (bA1 (by decide) (by decide)).trans (hf 2 (by decide) (by decide))) ?_
  refine z_C.call rfl rfl (e_addI (l := lSta) (Q := fun w' r => r = none ∧ w' = bApp 1 (intL lSta (iN (a 2))) w2) okY_lSta l1 (by show _ + (5 + 9) ≤ 512; omega) ⟨rfl, rfl⟩) (fun w3 r' h => ?_)
  obtain ⟨rfl, q2⟩ := h
  rw [q1, ← bApp_app] at q2
  exact K w3 q2
theorem e_tellS (hf : ∀ f, 1 ≤ f → f ≤ 9 → w.1 9 r f = iN (a f)) (hL : w.1 1 1 1 = iN L) (hc : L + 27 ≤ 512) {op : Nat} (h8 : w.1 3 0 8 = iN op) (hop : op < 65536) (h9 : ¬ op = 9) (hq : Q (bApp 1 (tellS a) w) none) : cRun kP_tellOf (0, [some (zR 0 0), some (zR 9 r)], [], w) Q := by
  refine e_tell0 hf hL hc (fun w1 q => ?_)
  refine z_C.go 2 rfl ?_
  refine z_C.ld rfl rfl (y := iN op) (by rw [q]; exact (bA1 (by decide) (by decide)).trans h8) ?_
  refine z_C.go 2 rfl ?_
  refine z_C.if (fun h => absurd ((iN_inj (b := 9) (by omega) (by decide)).mp h) h9) (fun _ => ?_)
  have hq : Q w1 none := by rw [q]; exact hq
  exact z_C.ret rfl rfl hq
theorem e_tellB (hf : ∀ f, 1 ≤ f → f ≤ 9 → w.1 9 r f = iN (a f)) (hL : w.1 1 1 1 = iN L) (hc : L + 86 ≤ 512) (h8 : w.1 3 0 8 = iN 9) (hq : Q (bApp 1 (tellB a) w) none) : cRun kP_tellOf (0, [some (zR 0 0), some (zR 9 r)], [], w) Q := by
  refine e_tell0 hf hL (by omega) (fun w3 q2 => ?_)
  refine z_C.go 2 rfl ?_
  refine z_C.ld rfl rfl (y := iN 9) (by rw [q2]; exact (bA1 (by decide) (by decide)).trans h8) ?_
  refine z_C.go 2 rfl ?_
  refine z_C.if (fun _ => ?_) (fun h => absurd (by decide) h)
  have l2 : w3.1 1 1 1 = iN (L + 27) := by
    have k9 := bApp_len (b := 1) (tellS a) L w hL (by rw [tellS_len]; show _ ≤ 512; omega)
    rw [tellS_len, ← q2] at k9
    exact k9
  refine z_C.go 4 rfl ?_
  refine z_C.ld rfl rfl (y := iN (a 8)) (by rw [q2]; exact (bA1 (by decide) (by decide)).trans (hf 8 (by decide) (by decide))) ?_
  refine z_C.call rfl rfl (e_addI (l := lPag) (Q := fun w' r => r = none ∧ w' = bApp 1 (intL lPag (iN (a 8))) w3) okY_lPag l2 (by show _ + (5 + 9) ≤ 512; omega) ⟨rfl, rfl⟩) (fun w4 r' h => ?_)
  obtain ⟨rfl, q3⟩ := h
  rw [q2, ← bApp_app] at q3
  have e3 : (tellS a ++ intL lPag (iN (a 8))).length = 41 := by rw [List.length_append, intL_len, tellS_len]; rfl
  have l3 : w4.1 1 1 1 = iN (L + 41) := by
    have k9 := bApp_len (b := 1) (tellS a ++ intL lPag (iN (a 8))) L w hL (by rw [e3]; show _ ≤ 512; omega)
    rw [e3, ← q3] at k9
    exact k9
  refine z_C.go 4 rfl ?_
  refine z_C.ld rfl rfl (y := iN (a 3)) (by rw [q3]; exact (bA1 (by decide) (by decide)).trans (hf 3 (by decide) (by decide))) ?_
  refine z_C.call rfl rfl (e_addI (l := lCop) (Q := fun w' r => r = none ∧ w' = bApp 1 (intL lCop (iN (a 3))) w4) okY_lCop l3 (by show _ + (6 + 9) ≤ 512; omega) ⟨rfl, rfl⟩) (fun w5 r' h => ?_)
  obtain ⟨rfl, q4⟩ := h
  rw [q3, ← bApp_app] at q4
  have e4 : (tellS a ++ intL lPag (iN (a 8)) ++ intL lCop (iN (a 3))).length = 56 := by rw [List.length_append, intL_len, e3]; rfl
  have l4 : w5.1 1 1 1 = iN (L + 56) := by
    have k9 := bApp_len (b := 1) (tellS a ++ intL lPag (iN (a 8)) ++ intL lCop (iN (a 3))) L w hL (by rw [e4]; show _ ≤ 512; omega)
    rw [e4, ← q4] at k9
    exact k9
  refine z_C.go 4 rfl ?_
  refine z_C.ld rfl rfl (y := iN (a 4)) (by rw [q4]; exact (bA1 (by decide) (by decide)).trans (hf 4 (by decide) (by decide))) ?_
  refine z_C.call rfl rfl (e_addI (l := lPri) (Q := fun w' r => r = none ∧ w' = bApp 1 (intL lPri (iN (a 4))) w5) okY_lPri l4 (by show _ + (8 + 9) ≤ 512; omega) ⟨rfl, rfl⟩) (fun w6 r' h => ?_)
  obtain ⟨rfl, q5⟩ := h
  rw [q4, ← bApp_app] at q5
  have e5 : (tellS a ++ intL lPag (iN (a 8)) ++ intL lCop (iN (a 3)) ++ intL lPri (iN (a 4))).length = 73 := by rw [List.length_append, intL_len, e4]; rfl
  have l5 : w6.1 1 1 1 = iN (L + 73) := by
    have k9 := bApp_len (b := 1) (tellS a ++ intL lPag (iN (a 8)) ++ intL lCop (iN (a 3)) ++ intL lPri (iN (a 4))) L w hL (by rw [e5]; show _ ≤ 512; omega)
    rw [e5, ← q5] at k9
    exact k9
  refine z_C.go 4 rfl ?_
  refine z_C.ld rfl rfl (y := iN (a 9)) (by rw [q5]; exact (bA1 (by decide) (by decide)).trans (hf 9 (by decide) (by decide))) ?_
  refine z_C.call rfl rfl (e_addI (l := lSen) (Q := fun w' r => r = none ∧ w' = bApp 1 (intL lSen (iN (a 9))) w6) okY_lSen l5 (by show _ + (4 + 9) ≤ 512; omega) ⟨rfl, rfl⟩) (fun w7 r' h => ?_)
  obtain ⟨rfl, q6⟩ := h
  rw [q5, ← bApp_app] at q6
  have hq : Q w7 none := by rw [q6]; exact hq
  exact z_C.ret rfl rfl hq
end TC
/-! the reference -/
section TM
variable {k L : Nat} {a : Nat → Nat} {v : z_W} {Q : z_W → Option z_V → Prop}
theorem okW_lJob : okW 2538 lJob = true := by decide +kernel
theorem okW_lSta : okW 5899923 lSta = true := by decide +kernel
theorem okW_lPag : okW 20094000 lPag = true := by decide +kernel
theorem okW_lCop : okW 643088867 lCop = true := by decide +kernel
theorem okW_lPri : okW 880789661264 lPri = true := by decide +kernel
theorem okW_lSen : okW 669875 lSen = true := by decide +kernel
theorem m_tell0 {all : Int32} (hk : k ≤ 24) (hf : ∀ f, 1 ≤ f → f ≤ 9 → v.1 2 0 (10 * k + (f - 1)) = iN (a f)) (hL : v.1 0 0 23 = iN L) (hc : L + 27 ≤ 800) (K : ∀ v', v' = mApp 5 23 (tellS a) v → mRun kX_tell (41, [some (zR 0 0), some (zI (iN k)), some (zI all), some (zI (10 * iN k))], [], v') Q) : mRun kX_tell (0, [some (zR 0 0), some (zI (iN k)), some (zI all), none], [], v) Q := by
  have e10 : 10 * iN k = iN (10 * k) := iN_mul 10 k
  have i0 : z_in (10 * iN k) 260 = true := by rw [e10]; exact iN_in (by omega) (by omega)
  have n0 : (10 * iN k).toNatClampNeg = 10 * k := by rw [e10]; exact iN_nat (by omega)
  obtain ⟨-, i1, n1⟩ := j_ix (k := k) (f := 1) (by omega) (by decide)
  have hf0 := hf 1 (by decide) (by decide)
  have hf1 := hf 2 (by decide) (by decide)
  refine z_C.go 7 rfl ?_
  refine z_C.call rfl rfl (m_say (x := iN 2) (k := 1) (Q := fun v1 r => r = none ∧ v1 = mApp 5 23 [2] v) (by decide) hL (by omega) ⟨rfl, by rw [say1 (by decide)]; rfl⟩) (fun v1 r' h => ?_)
  obtain ⟨rfl, q0⟩ := h
  have l0 : v1.1 0 0 23 = iN (L + 1) := by rw [q0]; exact mApp_len (g := 5) (f := 23) [2] L v hL
  show mRun kX_tell (11, [some (zR 0 0), some (zI (iN k)), some (zI all), some (zI (10 * iN k))], [], v1) Q
  refine z_C.go 6 rfl ?_
  have b0 : v1.1 2 0 (10 * iN k).toNatClampNeg = iN (a 1) := by rw [n0, q0]; exact (mA5 (by decide) (fun h => absurd h.1 (by decide))).trans hf0
  refine z_C.ld rfl (if_pos ⟨rfl, i0⟩) b0 ?_
  refine z_C.call rfl rfl (m_int (v := v1) (l := lJob) (Q := fun v' r => r = none ∧ v' = mApp 5 23 (intL lJob (iN (a 1))) v1) okW_lJob l0 (by show _ + (3 + 9) ≤ 800; omega) ⟨rfl, rfl⟩) (fun v2 r' h => ?_)
  obtain ⟨rfl, q1⟩ := h
  rw [q0, ← mApp_app] at q1
  have l1 : v2.1 0 0 23 = iN (L + 13) := by
    have e : ([2] ++ intL lJob (iN (a 1))).length = 13 := by rw [List.length_append, intL_len]; rfl
    have k9 := mApp_len (g := 5) (f := 23) ([2] ++ intL lJob (iN (a 1))) L v hL
    rw [e, ← q1] at k9
    exact k9
  refine z_C.go 8 rfl ?_
  have b1 : v2.1 2 0 (10 * iN k + iN 1).toNatClampNeg = iN (a 2) := by rw [n1, q1]; exact (mA5 (by decide) (fun h => absurd h.1 (by decide))).trans hf1
  refine z_C.ld rfl (if_pos ⟨rfl, i1⟩) b1 ?_
  refine z_C.call rfl rfl (m_int (v := v2) (l := lSta) (Q := fun v' r => r = none ∧ v' = mApp 5 23 (intL lSta (iN (a 2))) v2) okW_lSta l1 (by show _ + (5 + 9) ≤ 800; omega) ⟨rfl, rfl⟩) (fun v3 r' h => ?_)
  obtain ⟨rfl, q2⟩ := h
  rw [q1, ← mApp_app] at q2
  exact K v3 q2
theorem m_tellS (hk : k ≤ 24) (hf : ∀ f, 1 ≤ f → f ≤ 9 → v.1 2 0 (10 * k + (f - 1)) = iN (a f)) (hL : v.1 0 0 23 = iN L) (hc : L + 27 ≤ 800) (hq : Q (mApp 5 23 (tellS a) v) none) : mRun kX_tell (0, [some (zR 0 0), some (zI (iN k)), some (zI 0), none], [], v) Q := by
  refine m_tell0 hk hf hL hc (fun v1 q => ?_)
  refine z_C.go 2 rfl ?_
  refine z_C.if (fun _ => ?_) (fun h => absurd rfl h)
  have hq : Q v1 none := by rw [q]; exact hq
  exact z_C.ret rfl rfl hq
theorem m_tellB (hk : k ≤ 24) (hf : ∀ f, 1 ≤ f → f ≤ 9 → v.1 2 0 (10 * k + (f - 1)) = iN (a f)) (hL : v.1 0 0 23 = iN L) (hc : L + 86 ≤ 800) (hq : Q (mApp 5 23 (tellB a) v) none) : mRun kX_tell (0, [some (zR 0 0), some (zI (iN k)), some (zI 1), none], [], v) Q := by
  obtain ⟨-, i7, n7⟩ := j_ix (k := k) (f := 7) (by omega) (by decide)
  obtain ⟨-, i2, n2⟩ := j_ix (k := k) (f := 2) (by omega) (by decide)
  obtain ⟨-, i3, n3⟩ := j_ix (k := k) (f := 3) (by omega) (by decide)
  obtain ⟨-, i8, n8⟩ := j_ix (k := k) (f := 8) (by omega) (by decide)
  have hf7 := hf 8 (by decide) (by decide)
  have hf2 := hf 3 (by decide) (by decide)
  have hf3 := hf 4 (by decide) (by decide)
  have hf8 := hf 9 (by decide) (by decide)
  refine m_tell0 hk hf hL (by omega) (fun v3 q2 => ?_)
  refine z_C.go 2 rfl ?_
  refine z_C.if (fun h => absurd h (by decide)) (fun _ => ?_)
  have l2 : v3.1 0 0 23 = iN (L + 27) := by
    have k9 := mApp_len (g := 5) (f := 23) (tellS a) L v hL
    rw [tellS_len, ← q2] at k9
    exact k9
  refine z_C.go 8 rfl ?_
  have b2 : v3.1 2 0 (10 * iN k + iN 7).toNatClampNeg = iN (a 8) := by rw [n7, q2]; exact (mA5 (by decide) (fun h => absurd h.1 (by decide))).trans hf7
  refine z_C.ld rfl (if_pos ⟨rfl, i7⟩) b2 ?_
  refine z_C.call rfl rfl (m_int (v := v3) (l := lPag) (Q := fun v' r => r = none ∧ v' = mApp 5 23 (intL lPag (iN (a 8))) v3) okW_lPag l2 (by show _ + (5 + 9) ≤ 800; omega) ⟨rfl, rfl⟩) (fun v4 r' h => ?_)
  obtain ⟨rfl, q3⟩ := h
  rw [q2, ← mApp_app] at q3
  have e3 : (tellS a ++ intL lPag (iN (a 8))).length = 41 := by rw [List.length_append, intL_len, tellS_len]; rfl
  have l3 : v4.1 0 0 23 = iN (L + 41) := by
    have k9 := mApp_len (g := 5) (f := 23) (tellS a ++ intL lPag (iN (a 8))) L v hL
    rw [e3, ← q3] at k9
    exact k9
  refine z_C.go 8 rfl ?_
  have b3 : v4.1 2 0 (10 * iN k + iN 2).toNatClampNeg = iN (a 3) := by rw [n2, q3]; exact (mA5 (by decide) (fun h => absurd h.1 (by decide))).trans hf2
  refine z_C.ld rfl (if_pos ⟨rfl, i2⟩) b3 ?_
  refine z_C.call rfl rfl (m_int (v := v4) (l := lCop) (Q := fun v' r => r = none ∧ v' = mApp 5 23 (intL lCop (iN (a 3))) v4) okW_lCop l3 (by show _ + (6 + 9) ≤ 800; omega) ⟨rfl, rfl⟩) (fun v5 r' h => ?_)
  obtain ⟨rfl, q4⟩ := h
  rw [q3, ← mApp_app] at q4
  have e4 : (tellS a ++ intL lPag (iN (a 8)) ++ intL lCop (iN (a 3))).length = 56 := by rw [List.length_append, intL_len, e3]; rfl
  have l4 : v5.1 0 0 23 = iN (L + 56) := by
    have k9 := mApp_len (g := 5) (f := 23) (tellS a ++ intL lPag (iN (a 8)) ++ intL lCop (iN (a 3))) L v hL
    rw [e4, ← q4] at k9
    exact k9
  refine z_C.go 8 rfl ?_
  have b4 : v5.1 2 0 (10 * iN k + iN 3).toNatClampNeg = iN (a 4) := by rw [n3, q4]; exact (mA5 (by decide) (fun h => absurd h.1 (by decide))).trans hf3
  refine z_C.ld rfl (if_pos ⟨rfl, i3⟩) b4 ?_
  refine z_C.call rfl rfl (m_int (v := v5) (l := lPri) (Q := fun v' r => r = none ∧ v' = mApp 5 23 (intL lPri (iN (a 4))) v5) okW_lPri l4 (by show _ + (8 + 9) ≤ 800; omega) ⟨rfl, rfl⟩) (fun v6 r' h => ?_)
  obtain ⟨rfl, q5⟩ := h
  rw [q4, ← mApp_app] at q5
  have e5 : (tellS a ++ intL lPag (iN (a 8)) ++ intL lCop (iN (a 3)) ++ intL lPri (iN (a 4))).length = 73 := by rw [List.length_append, intL_len, e4]; rfl
  have l5 : v6.1 0 0 23 = iN (L + 73) := by
    have k9 := mApp_len (g := 5) (f := 23) (tellS a ++ intL lPag (iN (a 8)) ++ intL lCop (iN (a 3)) ++ intL lPri (iN (a 4))) L v hL
    rw [e5, ← q5] at k9
    exact k9
  refine z_C.go 8 rfl ?_
  have b5 : v6.1 2 0 (10 * iN k + iN 8).toNatClampNeg = iN (a 9) := by rw [n8, q5]; exact (mA5 (by decide) (fun h => absurd h.1 (by decide))).trans hf8
  refine z_C.ld rfl (if_pos ⟨rfl, i8⟩) b5 ?_
  refine z_C.call rfl rfl (m_int (v := v6) (l := lSen) (Q := fun v' r => r = none ∧ v' = mApp 5 23 (intL lSen (iN (a 9))) v6) okW_lSen l5 (by show _ + (4 + 9) ≤ 800; omega) ⟨rfl, rfl⟩) (fun v7 r' h => ?_)
  obtain ⟨rfl, q6⟩ := h
  rw [q5, ← mApp_app] at q6
  have hq : Q v7 none := by rw [q6]; exact hq
  exact z_C.ret rfl rfl hq
end TM
