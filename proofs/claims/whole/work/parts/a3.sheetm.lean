/-! the reference sends a sheet -/
theorem rem_n : ∀ t, t < 19 → ∀ N, N < 7 → ¬ N = 0 → iN t - iN t / iN N * iN N = iN (t % N) := by decide
def hdrL (a : Nat → Nat) (two : Nat) : List Int32 := [83, iN (nW a), iN (nH a), iN two]
section SS
variable {k s nx : Nat} {a : Nat → Nat} {P : Nat → Int32} {v : z_W} {Q : z_W → Option z_V → Prop} {x3 x4 : Option z_V}
theorem mK.app {l : List Int32} (hk : mK k a P v) : mK k a P (mApp 6 25 l v) := hk.fr (fun g i k hg => (mApp_fr l v).2 g i k (fun h => by omega) (fun h => by omega))
theorem mK.f7 {v' : z_W} (hk : mK k a P v) (h : fr7 v v') : mK k a P v' := hk.fr (fun g i k hg => h.2 g i k (by omega))
theorem ss_hdr {L : Nat} (h0 : v.1 0 0 25 = iN L) (hL : L < 290) {x : Int32} {st : List z_V} {pc : Nat} {LL : z_L} {I : z_I} {rest : List z_V} (hC : zC kX_sendSheet pc = some I) (hs : z_step sR zM I pc LL st v = some (.inr (.inr (kX_send, [zR 0 0, zI x], rest))))
    (K : mRun kX_sendSheet (pc + 3, LL, rest, mAp1 6 25 x v) Q) : mRun kX_sendSheet (pc, LL, st, v) Q := by
  refine z_C.call hC hs (m_send (L := L) (Q := fun w' r' => w' = mAp1 6 25 x v ∧ r' = none) h0 (by omega) ⟨rfl, rfl⟩) (fun w' r' h => ?_)
  obtain ⟨rfl, rfl⟩ := h
  exact K
theorem ss3_1 (hj : aJob a nx) (hk : mK k a P v) (hs : s < nC a)
    (K : ∀ v2, fr7 (mApp 6 25 (hdrL a 1) (z_si v 0 0 25 0)) v2 → Q (z_si (mApp 6 25 (faceE a P s 0) v2) 0 0 10 ((mApp 6 25 (faceE a P s 0) v2).1 0 0 10 + 1)) none) :
    mRun kX_sendSheet (136, [some (zR 0 0), some (zI (iN k)), some (zI (iN s)), x3, x4, some (zI 0), some (zI (iN (nW a))), some (zI (iN (nH a)))], [], v) Q := by
  have l0 : (z_si v 0 0 25 0).1 0 0 25 = iN 0 := rfl
  have l1 := mAp1_len (g := 6) (x := 83) l0
  have l2 := mAp1_len (g := 6) (x := iN (nW a)) l1
  have l3 := mAp1_len (g := 6) (x := iN (nH a)) l2
  have l4 : (mApp 6 25 (hdrL a 1) (z_si v 0 0 25 0)).1 0 0 25 = iN 4 := mAp1_len (g := 6) (x := iN 1) l3
  refine z_C.go 5 rfl ?_
  refine ss_hdr l0 (by decide) rfl rfl ?_
  refine z_C.go 2 rfl ?_
  refine ss_hdr l1 (by decide) rfl rfl ?_
  refine z_C.go 2 rfl ?_
  refine ss_hdr l2 (by decide) rfl rfl ?_
  refine z_C.go 4 rfl ?_
  refine ss_hdr l3 (by decide) rfl rfl ?_
  have hk0 : mK k a P (z_si v 0 0 25 0) := hk.fr (fun g i k hg => if_neg (fun h => by omega))
  show mRun kX_sendSheet (173, [some (zR 0 0), some (zI (iN k)), some (zI (iN s)), x3, x4, some (zI 0), some (zI (iN (nW a))), some (zI (iN (nH a)))], [], mApp 6 25 (hdrL a 1) (z_si v 0 0 25 0)) Q
  refine z_C.go 6 rfl ?_
  refine z_C.call rfl rfl (m_face (k := k) (s := s) (bk := 0) (L := 4) (Q := fun v' r' => r' = none ∧ ∃ v2, fr7 (mApp 6 25 (hdrL a 1) (z_si v 0 0 25 0)) v2 ∧ v' = mApp 6 25 (faceE a P s 0) v2) hj hk0.app hs (Or.inl rfl) (fun _ _ => rfl) l4 (by decide) (fun v2 h => ⟨rfl, v2, h, rfl⟩)) (fun w' r' h => ?_)
  obtain ⟨rfl, v2, h2, rfl⟩ := h
  refine z_C.go 8 rfl ?_
  exact z_C.ret rfl rfl (K v2 h2)
theorem ss3_2 (hj : aJob a nx) (hk : mK k a P v) (hs : s < nC a) (h2s : a 6 = 0 → a 7 = 0 → False)
    (K : ∀ v2 v3, fr7 (mApp 6 25 (hdrL a 2) (z_si v 0 0 25 0)) v2 → fr7 (mApp 6 25 (faceE a P s 0) v2) v3 → Q (z_si (mApp 6 25 (faceE a P s 1) v3) 0 0 10 ((mApp 6 25 (faceE a P s 1) v3).1 0 0 10 + 1)) none) :
    mRun kX_sendSheet (136, [some (zR 0 0), some (zI (iN k)), some (zI (iN s)), x3, x4, some (zI 1), some (zI (iN (nW a))), some (zI (iN (nH a)))], [], v) Q := by
  have l0 : (z_si v 0 0 25 0).1 0 0 25 = iN 0 := rfl
  have l1 := mAp1_len (g := 6) (x := 83) l0
  have l2 := mAp1_len (g := 6) (x := iN (nW a)) l1
  have l3 := mAp1_len (g := 6) (x := iN (nH a)) l2
  have l4 : (mApp 6 25 (hdrL a 2) (z_si v 0 0 25 0)).1 0 0 25 = iN 4 := mAp1_len (g := 6) (x := iN 2) l3
  refine z_C.go 5 rfl ?_
  refine ss_hdr l0 (by decide) rfl rfl ?_
  refine z_C.go 2 rfl ?_
  refine ss_hdr l1 (by decide) rfl rfl ?_
  refine z_C.go 2 rfl ?_
  refine ss_hdr l2 (by decide) rfl rfl ?_
  refine z_C.go 5 rfl ?_
  refine ss_hdr l3 (by decide) rfl rfl ?_
  have hk0 : mK k a P (z_si v 0 0 25 0) := hk.fr (fun g i k hg => if_neg (fun h => by omega))
  show mRun kX_sendSheet (173, [some (zR 0 0), some (zI (iN k)), some (zI (iN s)), x3, x4, some (zI 1), some (zI (iN (nW a))), some (zI (iN (nH a)))], [], mApp 6 25 (hdrL a 2) (z_si v 0 0 25 0)) Q
  refine z_C.go 6 rfl ?_
  refine z_C.call rfl rfl (m_face (k := k) (s := s) (bk := 0) (L := 4) (Q := fun v' r' => r' = none ∧ ∃ v2, fr7 (mApp 6 25 (hdrL a 2) (z_si v 0 0 25 0)) v2 ∧ v' = mApp 6 25 (faceE a P s 0) v2) hj hk0.app hs (Or.inl rfl) (fun _ _ => rfl) l4 (by decide) (fun v2 h => ⟨rfl, v2, h, rfl⟩)) (fun w' r' h => ?_)
  obtain ⟨rfl, v2, h2, rfl⟩ := h
  have hl0 := faceE_len (P := P) (s := s) (bk := 0) hj
  have l5 : (mApp 6 25 (faceE a P s 0) v2).1 0 0 25 = iN (4 + (faceE a P s 0).length) := mApp_len _ 4 v2 ((h2.2 0 0 25 (by decide)).trans l4)
  refine z_C.go 2 rfl ?_
  refine z_C.if (fun h => absurd h (by decide)) (fun _ => ?_)
  refine z_C.go 6 rfl ?_
  refine z_C.call rfl rfl (m_face (k := k) (s := s) (bk := 1) (L := 4 + (faceE a P s 0).length) (Q := fun v' r' => r' = none ∧ ∃ v3, fr7 (mApp 6 25 (faceE a P s 0) v2) v3 ∧ v' = mApp 6 25 (faceE a P s 1) v3) hj (hk0.app.f7 h2).app hs (Or.inr rfl) (fun h6 h7 => (h2s h6 h7).elim) l5 (by omega) (fun v3 h => ⟨rfl, v3, h, rfl⟩)) (fun w' r' h => ?_)
  obtain ⟨rfl, v3, h3, rfl⟩ := h
  refine z_C.go 6 rfl ?_
  exact z_C.ret rfl rfl (K v2 v3 h2 h3)
/-- how wide and how high -/
theorem ss2 {up : Nat} {two : Int32} (hu : (up = 1 ∧ nW a = 4 ∧ nH a = 3) ∨ (up = 2 ∧ nW a = 6 ∧ nH a = 4) ∨ (up = 4 ∧ nW a = 8 ∧ nH a = 6))
    (K : mRun kX_sendSheet (136, [some (zR 0 0), some (zI (iN k)), some (zI (iN s)), x3, some (zI (iN up)), some (zI two), some (zI (iN (nW a))), some (zI (iN (nH a)))], [], v) Q) :
    mRun kX_sendSheet (87, [some (zR 0 0), some (zI (iN k)), some (zI (iN s)), x3, some (zI (iN up)), some (zI two), none, none], [], v) Q := by
  rcases hu with ⟨rfl, hW, hH⟩ | ⟨rfl, hW, hH⟩ | ⟨rfl, hW, hH⟩
  · rw [hW, hH] at K
    refine z_C.go 3 rfl ?_
    refine z_C.if (fun _ => ?_) (fun h => absurd (by decide) h)
    refine z_C.go 6 rfl ?_
    refine z_C.if (fun _ => ?_) (fun h => absurd (by decide) h)
    refine z_C.go 3 rfl ?_
    exact K
  · rw [hW, hH] at K
    refine z_C.go 3 rfl ?_
    refine z_C.if (fun h => absurd h (by decide)) (fun _ => ?_)
    refine z_C.go 3 rfl ?_
    refine z_C.if (fun _ => ?_) (fun h => absurd (by decide) h)
    refine z_C.go 6 rfl ?_
    refine z_C.if (fun h => absurd h (by decide)) (fun _ => ?_)
    refine z_C.go 3 rfl ?_
    refine z_C.if (fun _ => ?_) (fun h => absurd (by decide) h)
    refine z_C.go 3 rfl ?_
    exact K
  · rw [hW, hH] at K
    refine z_C.go 3 rfl ?_
    refine z_C.if (fun h => absurd h (by decide)) (fun _ => ?_)
    refine z_C.go 3 rfl ?_
    refine z_C.if (fun h => absurd h (by decide)) (fun _ => ?_)
    refine z_C.go 5 rfl ?_
    refine z_C.if (fun h => absurd h (by decide)) (fun _ => ?_)
    refine z_C.go 3 rfl ?_
    refine z_C.if (fun h => absurd h (by decide)) (fun _ => ?_)
    refine z_C.go 2 rfl ?_
    exact K
theorem m_sendSheet {t : Nat} (hj : aJob a nx) (hk : mK k a P v) (ht : v.1 2 0 (10 * k + 8) = iN t) (ht18 : t ≤ 18)
    (K1 : a 6 = 0 ∧ a 7 = 0 → ∀ v2, fr7 (mApp 6 25 (hdrL a 1) (z_si v 0 0 25 0)) v2 → Q (z_si (mApp 6 25 (faceE a P (t % nC a) 0) v2) 0 0 10 ((mApp 6 25 (faceE a P (t % nC a) 0) v2).1 0 0 10 + 1)) none)
    (K2 : ¬ (a 6 = 0 ∧ a 7 = 0) → ∀ v2 v3, fr7 (mApp 6 25 (hdrL a 2) (z_si v 0 0 25 0)) v2 → fr7 (mApp 6 25 (faceE a P (t % nC a) 0) v2) v3 → Q (z_si (mApp 6 25 (faceE a P (t % nC a) 1) v3) 0 0 10 ((mApp 6 25 (faceE a P (t % nC a) 1) v3).1 0 0 10 + 1)) none) :
    mRun kX_sendSheet (0, [some (zR 0 0), some (zI (iN k)), none, none, none, none, none, none], [], v) Q := by
  have hk' := hk
  obtain ⟨hk1, hk2, hk3⟩ := hk'
  obtain ⟨-, i8, n8⟩ := j_ix (k := k) (f := 8) (by omega) (by decide)
  obtain ⟨-, i6, n6⟩ := j_ix (k := k) (f := 6) (by omega) (by decide)
  obtain ⟨-, i5, n5⟩ := j_ix (k := k) (f := 5) (by omega) (by decide)
  obtain ⟨-, i4, n4⟩ := j_ix (k := k) (f := 4) (by omega) (by decide)
  have v8 : v.1 2 0 (10 * iN k + iN 8).toNatClampNeg = iN t := by rw [n8]; exact ht
  have v6 : v.1 2 0 (10 * iN k + iN 6).toNatClampNeg = iN (a 7) := by rw [n6]; exact hk2 7 (by decide) (by decide)
  have v5 : v.1 2 0 (10 * iN k + iN 5).toNatClampNeg = iN (a 6) := by rw [n5]; exact hk2 6 (by decide) (by decide)
  have v4 : v.1 2 0 (10 * iN k + iN 4).toNatClampNeg = iN (a 5) := by rw [n4]; exact hk2 5 (by decide) (by decide)
  have hN1 : 1 ≤ nC a := hj.copy.2.2.1
  have hN6 : nC a ≤ 6 := hj.copy.2.2.2
  have hs : t % nC a < nC a := Nat.mod_lt _ (by omega)
  have h6 := hj.2.2.2.2.2.1
  have hN0 : ¬ iN (nC a) = 0 := fun h => by have := (iN_inj (b := 0) (by omega) (by decide)).mp h; omega
  refine z_C.go 7 rfl ?_
  refine z_C.ld rfl (if_pos ⟨rfl, i8⟩) v8 ?_
  refine z_C.go 2 rfl ?_
  refine z_C.call rfl rfl (m_shs (Q := fun w' r => w' = v ∧ r = some (zI (iN (nC a)))) hj hk ⟨rfl, rfl⟩) (fun w' r h => ?_)
  obtain ⟨rfl, rfl⟩ := h
  refine z_C.ld rfl (if_neg hN0) (rem_n t (by omega) (nC a) (by omega) (by omega)) ?_
  generalize hsv : t % nC a = s' at hs K1 K2
  refine z_C.go 8 rfl ?_
  refine z_C.ld rfl (if_pos ⟨rfl, i6⟩) v6 ?_
  rcases nWH hj with ⟨c7, c5, cW, cH⟩ | c | c | c
  · rw [c7]
    refine z_C.go 2 rfl ?_
    refine z_C.if (fun _ => ?_) (fun h => absurd (by decide) h)
    refine z_C.go 5 rfl ?_
    refine z_C.if (fun h => absurd h (by decide)) (fun _ => ?_)
    show mRun kX_sendSheet (45, [some (zR 0 0), some (zI (iN k)), some (zI (iN s')), some (zI 1), none, none, none, none], [], w') Q
    refine z_C.go 5 rfl ?_
    refine z_C.if (fun h => absurd h (by decide)) (fun _ => ?_)
    refine z_C.go 3 rfl ?_
    show mRun kX_sendSheet (87, [some (zR 0 0), some (zI (iN k)), some (zI (iN s')), some (zI 1), some (zI (iN 2)), some (zI 1), none, none], [], w') Q
    exact ss2 (Or.inr (Or.inl ⟨rfl, cW, cH⟩)) (ss3_2 hj hk hs (fun _ h => by omega) (K2 (by omega)))
  all_goals
    have c7 : a 7 = 0 := c.1
    have hu : (a 5 = 1 ∧ nW a = 4 ∧ nH a = 3) ∨ (a 5 = 2 ∧ nW a = 6 ∧ nH a = 4) ∨ (a 5 = 4 ∧ nW a = 8 ∧ nH a = 6) := by
      obtain ⟨-, c2, c3, c4⟩ := c
      omega
    clear c
    rw [c7]
    refine z_C.go 2 rfl ?_
    refine z_C.if (fun h => absurd h (by decide)) (fun _ => ?_)
    refine z_C.go 4 rfl ?_
    refine z_C.if (fun _ => ?_) (fun h => absurd (by decide) h)
    show mRun kX_sendSheet (49, [some (zR 0 0), some (zI (iN k)), some (zI (iN s')), some (zI 0), none, none, none, none], [], w') Q
    refine z_C.go 7 rfl ?_
    refine z_C.ld rfl (if_pos ⟨rfl, i4⟩) v4 ?_
    refine z_C.go 3 rfl ?_
    refine z_C.if (fun _ => ?_) (fun h => absurd (by decide) h)
    show mRun kX_sendSheet (66, [some (zR 0 0), some (zI (iN k)), some (zI (iN s')), some (zI 0), some (zI (iN (a 5))), none, none, none], [], w') Q
    refine z_C.go 7 rfl ?_
    refine z_C.ld rfl (if_pos ⟨rfl, i5⟩) v5 ?_
    refine z_C.go 1 rfl ?_
    refine z_C.if (fun h => ?_) (fun h => ?_)
    · have h0 : a 6 = 0 := by
        have := (iN_le (b := 0) (by omega) (by decide)).mp h
        omega
      refine z_C.go 2 rfl ?_
      show mRun kX_sendSheet (87, [some (zR 0 0), some (zI (iN k)), some (zI (iN s')), some (zI 0), some (zI (iN (a 5))), some (zI 0), none, none], [], w') Q
      exact ss2 hu (ss3_1 hj hk hs (K1 ⟨h0, c7⟩))
    · have h0 : ¬ a 6 = 0 := fun h9 => h (by rw [h9]; decide)
      refine z_C.go 3 rfl ?_
      show mRun kX_sendSheet (87, [some (zR 0 0), some (zI (iN k)), some (zI (iN s')), some (zI 0), some (zI (iN (a 5))), some (zI 1), none, none], [], w') Q
      exact ss2 hu (ss3_2 hj hk hs (fun h _ => h0 h) (K2 (fun h => h0 h.1)))
end SS
