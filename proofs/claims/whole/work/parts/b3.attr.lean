/-! an attribute of the draft -/
theorem iL_inj {a b : Nat} (ha : a < 9223372036854775808) (hb : b < 9223372036854775808) : iL a = iL b ↔ a = b := by
  constructor
  · intro h
    have h1 := congrArg Int64.toInt h
    rw [Int64.toInt_ofNat_of_lt (by omega), Int64.toInt_ofNat_of_lt (by omega)] at h1
    omega
  · intro h
    rw [h]
theorem iL_int (x : Nat) : (iL x).toInt32 = iN x := Int64.toInt32_ofNat'
theorem lg_eq {x y : Int64} : lg_cmp x y = 0 ↔ x = y := by
  unfold lg_cmp
  constructor
  · intro h
    split at h
    · exact absurd h (by decide)
    · split at h
      · assumption
      · exact absurd h (by decide)
  · intro h
    subst h
    rw [if_neg (fun h => Int64.lt_irrefl h), if_pos rfl]
theorem lg_gt {x y : Int64} : 0 < lg_cmp x y ↔ y < x := by
  unfold lg_cmp
  constructor
  · intro h
    split at h
    · assumption
    · split at h
      · exact absurd h (by decide)
      · exact absurd h (by decide)
  · intro h
    rw [if_pos h]
    decide
theorem iL_lt {a b : Nat} (ha : a < 9223372036854775808) (hb : b < 9223372036854775808) : iL a < iL b ↔ a < b := by
  rw [Int64.lt_iff_toInt_lt, Int64.toInt_ofNat_of_lt (by omega), Int64.toInt_ofNat_of_lt (by omega)]
  omega
def lenOK (t z : Nat) : Prop := (t = 33 ∧ z = 4) ∨ (t = 34 ∧ z = 1) ∨ (t = 68 ∧ 1 ≤ z ∧ z ≤ 8)
def isTg (t : Nat) : Prop := t = 33 ∨ t = 34 ∨ t = 68
theorem k_lenOf {t z : Nat} {w : z_W} {Q : z_W → Option z_V → Prop} (ht : isTg t) (hz : z < 100000) (h1 : lenOK t z → Q w (some (zI 1))) (h0 : ¬ lenOK t z → Q w (some (zI 0))) : z_C sC zM zCr kM_isLengthOf (0, [some (zI (iN t)), some (zI (iN z))], [], w) Q := by
  rcases ht with rfl | rfl | rfl
  · refine z_C.go 5 rfl ?_
    refine z_C.if (fun h => ?_) (fun h => ?_)
    · have h : z = 4 := (iN_inj (b := 4) (by omega) (by decide)).mp h
      refine z_C.go 2 rfl ?_
      exact z_C.ret rfl rfl (h1 (Or.inl ⟨rfl, h⟩))
    · have h : ¬ z = 4 := fun h9 => h ((iN_inj (b := 4) (by omega) (by decide)).mpr h9)
      refine z_C.go 1 rfl ?_
      exact z_C.ret rfl rfl (h0 (fun h9 => by rcases h9 with h9 | h9 | h9 <;> omega))
  · refine z_C.go 5 rfl ?_
    refine z_C.if (fun h => ?_) (fun h => ?_)
    · have h : z = 1 := (iN_inj (b := 1) (by omega) (by decide)).mp h
      refine z_C.go 2 rfl ?_
      exact z_C.ret rfl rfl (h1 (Or.inr (Or.inl ⟨rfl, h⟩)))
    · have h : ¬ z = 1 := fun h9 => h ((iN_inj (b := 1) (by omega) (by decide)).mpr h9)
      refine z_C.go 1 rfl ?_
      exact z_C.ret rfl rfl (h0 (fun h9 => by rcases h9 with h9 | h9 | h9 <;> omega))
  · refine z_C.go 5 rfl ?_
    refine z_C.if (fun h => ?_) (fun h => ?_)
    · have h := (iN_lt (b := 1) (by omega) (by decide)).mp h
      refine z_C.go 1 rfl ?_
      exact z_C.ret rfl rfl (h0 (fun h9 => by rcases h9 with h9 | h9 | h9 <;> omega))
    · have h' : ¬ z < 1 := fun h9 => h ((iN_lt (b := 1) (by omega) (by decide)).mpr h9)
      refine z_C.go 3 rfl ?_
      refine z_C.if (fun h => ?_) (fun h => ?_)
      · have h := (iN_lt (a := 8) (by decide) (by omega)).mp h
        refine z_C.go 1 rfl ?_
        exact z_C.ret rfl rfl (h0 (fun h9 => by rcases h9 with h9 | h9 | h9 <;> omega))
      · have h : ¬ 8 < z := fun h9 => h ((iN_lt (a := 8) (by decide) (by omega)).mpr h9)
        refine z_C.go 2 rfl ?_
        exact z_C.ret rfl rfl (h1 (Or.inr (Or.inr ⟨rfl, by omega, by omega⟩)))
theorem k_lenOfN {t : Nat} {w : z_W} {Q : z_W → Option z_V → Prop} (ht : isTg t) (h0 : Q w (some (zI 0))) : z_C sC zM zCr kM_isLengthOf (0, [some (zI (iN t)), some (zI (-1))], [], w) Q := by
  rcases ht with rfl | rfl | rfl
  · refine z_C.go 5 rfl ?_
    refine z_C.if (fun h => absurd h (by decide)) (fun _ => ?_)
    refine z_C.go 1 rfl ?_
    exact z_C.ret rfl rfl h0
  · refine z_C.go 5 rfl ?_
    refine z_C.if (fun h => absurd h (by decide)) (fun _ => ?_)
    refine z_C.go 1 rfl ?_
    exact z_C.ret rfl rfl h0
  · refine z_C.go 5 rfl ?_
    refine z_C.if (fun _ => ?_) (fun h => absurd (by decide) h)
    refine z_C.go 1 rfl ?_
    exact z_C.ret rfl rfl h0
theorem numF_pos {D : Nat → Nat} {p k : Nat} (hk : 1 ≤ k) (h : Lt D p k) : 1 ≤ numF D p k := by
  obtain ⟨i, rfl⟩ : ∃ i, k = i + 1 := ⟨k - 1, by omega⟩
  have := (h i (by omega)).1
  show 1 ≤ numF D p i * 256 + D (p + i)
  omega
theorem Lt_b {D : Nat → Nat} {p k : Nat} (h : Lt D p k) : ∀ i, i < k → D (p + i) < 128 := fun i hi => by have := (h i hi).2; omega
/-- words of letters stay below the sign -/
theorem numF_w {D : Nat → Nat} {p : Nat} : ∀ k, (∀ i, i < k → D (p + i) < 128) → 2 * numF D p k < 256 ^ k ∨ k = 0 := by
  intro k
  induction k with
  | zero => intro _; exact Or.inr rfl
  | succ k ih =>
    intro h
    left
    have h2 := h k (by omega)
    show 2 * (numF D p k * 256 + D (p + k)) < 256 ^ k * 256
    rcases ih (fun i hi => h i (by omega)) with h1 | rfl
    · have h3 : (2 * numF D p k + 1) * 256 ≤ 256 ^ k * 256 := Nat.mul_le_mul_right _ h1
      omega
    · show 2 * (0 * 256 + D (p + 0)) < 1 * 256
      omega
theorem numF_63 {D : Nat → Nat} {p k : Nat} (hk : k ≤ 8) (h : Lt D p k) : numF D p k < 9223372036854775808 := by
  rcases numF_w k (Lt_b h) with h1 | rfl
  · have : 256 ^ k ≤ 256 ^ 8 := Nat.pow_le_pow_right (by decide) hk
    omega
  · exact Nat.zero_lt_succ _
def valOK (D : Nat → Nat) (t v z : Nat) : Prop := (t = 34 → D v ≤ 1) ∧ (t = 68 → Lt D v z)
def sN (D : Nat → Nat) (p : Nat) : Nat := numF D (p + 1) 2
def sV (D : Nat → Nat) (p : Nat) : Nat := p + 5 + sN D p
def sZ (D : Nat → Nat) (p : Nat) : Nat := numF D (p + 3 + sN D p) 2
def sE (D : Nat → Nat) (p : Nat) : Nat := sV D p + sZ D p
def aGood (D : Nat → Nat) (len p : Nat) : Prop := p + 3 ≤ len ∧ (1 ≤ sN D p ∧ sN D p ≤ 8) ∧ (p + 3 + sN D p ≤ len ∧ Lt D (p + 3) (sN D p)) ∧ sV D p ≤ len ∧ lenOK (D p) (sZ D p) ∧ sE D p ≤ len ∧ valOK D (D p) (sV D p) (sZ D p)
def aName (D : Nat → Nat) (p : Nat) : Nat := numF D (p + 3) (sN D p)
def aVal (D : Nat → Nat) (p : Nat) : Int64 := if D p = 68 then iL (numF D (sV D p) (sZ D p)) else (iN (numF D (sV D p) (sZ D p))).toInt64
def atF (D : Nat → Nat) (m p : Nat) (w w' : z_W) : Prop :=
  (∀ g i k, ¬ (g = 1 ∧ i = 0 ∧ k = 2) → ¬ (g = 4 ∧ i = 0 ∧ k = m) → ¬ (g = 3 ∧ i = 0 ∧ k = 4) → w'.1 g i k = w.1 g i k) ∧ w'.1 1 0 2 = iN (sE D p) ∧ w'.1 4 0 m = iN (D p) ∧ w'.1 3 0 4 = iN (m + 1) ∧ w'.2.2 = w.2.2 ∧
  w'.2.1 5 0 m = iL (aName D p) ∧ w'.2.1 6 0 m = aVal D p ∧ ∀ g i k, ¬ (g = 5 ∧ i = 0 ∧ k = m) → ¬ (g = 6 ∧ i = 0 ∧ k = m) → w'.2.1 g i k = w.2.1 g i k
theorem numF_1 {D : Nat → Nat} {q : Nat} : numF D q 1 = D q := by
  show 0 * 256 + D (q + 0) = D q
  rw [Nat.zero_mul, Nat.zero_add, Nat.add_zero]
theorem two_b {D : Nat → Nat} {q : Nat} (h1 : D q < 256) (h2 : D (q + 1) < 256) : numF D q 2 < 65536 := by
  show (0 * 256 + D (q + 0)) * 256 + D (q + 1) < 65536
  rw [Nat.add_zero]
  omega
/-- what is kept of it -/
theorem e_keep {m p : Nat} {D : Nat → Nat} {x : Int32} {y z : Int64} {w0 w : z_W} {b : Option z_V} {Q : z_W → Option z_V → Prop} (hm : m < 34) (h4 : w.1 3 0 4 = iN m) (hf : cuF w0 w) (hp : w.1 1 0 2 = iN (sE D p)) (hx : x = iN (D p)) (hy : y = iL (aName D p)) (hz : z = aVal D p) (hq : ∀ w', atF D m p w0 w' → Q w' (some (zI 1))) :
    cRun kM_readAttribute (120, [some (zR 3 0), some (zI x), some (zL y), none, b, some (zL z), none], [], w) Q := by
  have i1 : z_in (iN m) 34 = true := iN_in hm (by omega)
  have n1 : (iN m).toNatClampNeg = m := iN_nat (by omega)
  subst hx
  subst hy
  subst hz
  refine z_C.go 3 rfl ?_
  refine z_C.ld rfl rfl h4 ?_
  refine z_C.go 1 rfl ?_
  refine z_C.go1 rfl (if_pos ⟨rfl, i1⟩) ?_
  have e1 : z_si w 4 0 (iN m).toNatClampNeg (iN (D p)) = z_si w 4 0 m (iN (D p)) := by rw [n1]
  show cRun kM_readAttribute (130, [some (zR 3 0), some (zI (iN (D p))), some (zL (iL (aName D p))), none, b, some (zL (aVal D p)), none], [], z_si w 4 0 (iN m).toNatClampNeg (iN (D p))) Q
  rw [e1]
  refine z_C.go 3 rfl ?_
  refine z_C.ld rfl rfl (show (z_si w 4 0 m (iN (D p))).1 3 0 4 = iN m from h4) ?_
  refine z_C.go 1 rfl ?_
  refine z_C.go1 rfl (if_pos ⟨rfl, i1⟩) ?_
  have e2 : z_sl (z_si w 4 0 m (iN (D p))) 5 0 (iN m).toNatClampNeg (iL (aName D p)) = z_sl (z_si w 4 0 m (iN (D p))) 5 0 m (iL (aName D p)) := by rw [n1]
  show cRun kM_readAttribute (140, [some (zR 3 0), some (zI (iN (D p))), some (zL (iL (aName D p))), none, b, some (zL (aVal D p)), none], [], z_sl (z_si w 4 0 m (iN (D p))) 5 0 (iN m).toNatClampNeg (iL (aName D p))) Q
  rw [e2]
  refine z_C.go 3 rfl ?_
  refine z_C.ld rfl rfl (show (z_sl (z_si w 4 0 m (iN (D p))) 5 0 m (iL (aName D p))).1 3 0 4 = iN m from h4) ?_
  refine z_C.go 1 rfl ?_
  refine z_C.go1 rfl (if_pos ⟨rfl, i1⟩) ?_
  have e3 : z_sl (z_sl (z_si w 4 0 m (iN (D p))) 5 0 m (iL (aName D p))) 6 0 (iN m).toNatClampNeg (aVal D p) = z_sl (z_sl (z_si w 4 0 m (iN (D p))) 5 0 m (iL (aName D p))) 6 0 m (aVal D p) := by rw [n1]
  show cRun kM_readAttribute (151, [some (zR 3 0), some (zI (iN (D p))), some (zL (iL (aName D p))), none, b, some (zL (aVal D p)), none], [], z_sl (z_sl (z_si w 4 0 m (iN (D p))) 5 0 m (iL (aName D p))) 6 0 (iN m).toNatClampNeg (aVal D p)) Q
  rw [e3]
  refine z_C.go 2 rfl ?_
  refine z_C.ld rfl rfl (show (z_sl (z_sl (z_si w 4 0 m (iN (D p))) 5 0 m (iL (aName D p))) 6 0 m (aVal D p)).1 3 0 4 = iN m from h4) ?_
  refine z_C.go 4 rfl ?_
  refine z_C.ret rfl rfl (hq _ ⟨fun g i k a b c => ?_, ?_, ?_, ?_, ?_, ?_, ?_, fun g i k a b => ?_⟩)
  · exact (if_neg c).trans ((if_neg b).trans (hf.2 g i k a))
  · exact hp
  · show (if 4 = 4 ∧ 0 = 0 ∧ m = m then iN (D p) else w.1 4 0 m) = _
    rw [if_pos ⟨rfl, rfl, rfl⟩]
  · exact iN_add m 1
  · show w.2.2 = w0.2.2
    rw [hf.1]
  · show (if 5 = 5 ∧ 0 = 0 ∧ m = m then iL (aName D p) else w.2.1 5 0 m) = _
    rw [if_pos ⟨rfl, rfl, rfl⟩]
  · show (if 6 = 6 ∧ 0 = 0 ∧ m = m then aVal D p else w.2.1 6 0 m) = _
    rw [if_pos ⟨rfl, rfl, rfl⟩]
  · refine (if_neg b).trans ((if_neg a).trans ?_)
    show w.2.1 g i k = w0.2.1 g i k
    rw [hf.1]
theorem e_attr {len m p : Nat} {D : Nat → Nat} {w : z_W} {Q : z_W → Option z_V → Prop} (hd : cD len D w) (hp : w.1 1 0 2 = iN p) (hpl : p < len) (ht : isTg (D p)) (h4 : w.1 3 0 4 = iN m) (hm : m < 34) (h1 : aGood D len p → ∀ w', atF D m p w w' → Q w' (some (zI 1))) (h0 : ¬ aGood D len p → ∀ w', cuF w w' → Q w' (some (zI 0))) :
    cRun kM_readAttribute (0, [some (zR 3 0), none, none, none, none, none, none], [], w) Q := by
  have hlen := hd.1
  have hb : ∀ q, q < len → D q < 256 := fun q hq => (hd.2.2 q hq).2
  refine z_C.go 1 rfl ?_
  refine z_C.ld rfl rfl h4 ?_
  refine z_C.go 2 rfl ?_
  refine z_C.if (fun _ => ?_) (fun h => absurd ((iN_lt (b := 34) (by omega) (by decide)).mpr hm) h)
  refine z_C.go 2 rfl ?_
  refine z_C.call rfl rfl (e_next (Q := fun w' r => cuF w w' ∧ w'.1 1 0 2 = iN (p + 1) ∧ r = some (zI (iN (D p)))) hd hp (by omega) (fun _ w' a b => ⟨a, b, rfl⟩) (fun h => absurd hpl h)) (fun w1 r h => ?_)
  obtain ⟨f1, p1, rfl⟩ := h
  refine z_C.go 6 rfl ?_
  by_cases c3 : p + 1 + 2 ≤ len
  · refine z_C.call rfl rfl (e_num (k := 2) (Q := fun w' r => cuF w1 w' ∧ w'.1 1 0 2 = iN (p + 1 + 2) ∧ r = some (zL (iL (sN D p)))) (hd.cu f1) p1 (by omega) (by decide) (fun _ w' a b => ⟨a, b, rfl⟩) (fun h => absurd c3 h)) (fun w2 r h => ?_)
    obtain ⟨f2, p2, rfl⟩ := h
    have p2 : w2.1 1 0 2 = iN (p + 3) := p2
    have hn : sN D p < 65536 := two_b (hb _ (by omega)) (hb _ (by omega))
    refine z_C.go 1 rfl ?_
    rw [iL_int]
    have f12 := f1.tr f2
    by_cases cw : 1 ≤ sN D p ∧ sN D p ≤ 8 ∧ p + 3 + sN D p ≤ len ∧ Lt D (p + 3) (sN D p)
    · refine z_C.call rfl rfl (e_word (k := sN D p) (Q := fun w' r => cuF w2 w' ∧ w'.1 1 0 2 = iN (p + 3 + sN D p) ∧ r = some (zL (iL (aName D p)))) (hd.cu f12) p2 (by omega) (by omega) (fun _ _ _ _ w' a b => ⟨a, b, rfl⟩) (fun h => absurd cw h)) (fun w3 r h => ?_)
      obtain ⟨f3, p3, rfl⟩ := h
      have f13 := f12.tr f3
      have hne : ¬ lg_cmp (iL (aName D p)) 0 = 0 := by
        rw [lg_eq]
        intro h9
        have h8 : iL (numF D (p + 3) (sN D p)) = iL 0 := h9
        rw [iL_inj (numF_63 cw.2.1 cw.2.2.2) (by omega)] at h8
        have h7 := numF_pos cw.1 cw.2.2.2
        omega
      refine z_C.go 5 rfl ?_
      refine z_C.if (fun h => absurd h hne) (fun _ => ?_)
      refine z_C.go 3 rfl ?_
      by_cases c5 : p + 3 + sN D p + 2 ≤ len
      · refine z_C.call rfl rfl (e_num (k := 2) (Q := fun w' r => cuF w3 w' ∧ w'.1 1 0 2 = iN (p + 3 + sN D p + 2) ∧ r = some (zL (iL (sZ D p)))) (hd.cu f13) p3 (by omega) (by decide) (fun _ w' a b => ⟨a, b, rfl⟩) (fun h => absurd c5 h)) (fun w4 r h => ?_)
        obtain ⟨f4, p4, rfl⟩ := h
        have ev : p + 3 + sN D p + 2 = sV D p := by unfold sV; omega
        rw [ev] at p4 c5
        have f14 := f13.tr f4
        have hz : sZ D p < 65536 := two_b (hb _ (by unfold sV at c5; omega)) (hb _ (by unfold sV at c5; omega))
        refine z_C.go 4 rfl ?_
        rw [iL_int]
        by_cases cl : lenOK (D p) (sZ D p)
        · refine z_C.call rfl rfl (zC_up (C' := zC) (k_lenOf (t := D p) (z := sZ D p) (Q := fun w' r => w' = w4 ∧ r = some (zI 1)) ht (by omega) (fun _ => ⟨rfl, rfl⟩) (fun h => absurd cl h))) (fun w' r h => ?_)
          obtain ⟨rfl, rfl⟩ := h
          refine z_C.go 1 rfl ?_
          refine z_C.if (fun h => absurd h (by decide)) (fun _ => ?_)
          refine z_C.go 3 rfl ?_
          by_cases ce : sE D p ≤ len
          · refine z_C.call rfl rfl (zC_up (C' := zC) (k_has (k := sZ D p) (Q := fun w2 r => w2 = w' ∧ r = some (zI 1)) (hd.cu f14) p4 c5 (by omega) ⟨rfl, by rw [if_pos (show sV D p + sZ D p ≤ len from ce)]⟩)) (fun w2 r h => ?_)
            obtain ⟨rfl, rfl⟩ := h
            refine z_C.go 1 rfl ?_
            refine z_C.if (fun h => absurd h (by decide)) (fun _ => ?_)
            refine z_C.go 3 rfl ?_
            have hz8 : sZ D p ≤ 8 := by rcases cl with h | h | h <;> omega
            have hz1 : 1 ≤ sZ D p := by rcases cl with h | h | h <;> omega
            have gd : valOK D (D p) (sV D p) (sZ D p) → aGood D len p := fun hv => ⟨by omega, ⟨cw.1, cw.2.1⟩, ⟨cw.2.2.1, cw.2.2.2⟩, c5, cl, ce, hv⟩
            have m4 : w2.1 3 0 4 = iN m := (f14.2 3 0 4 (by decide)).trans h4
            refine z_C.if (fun h68 => ?_) (fun h68 => ?_)
            · have h68 : D p = 68 := (iN_inj (b := 68) (by have := hb p hpl; omega) (by decide)).mp h68
              refine z_C.go 3 rfl ?_
              by_cases cL : Lt D (sV D p) (sZ D p)
              · refine z_C.call rfl rfl (e_word (k := sZ D p) (Q := fun w' r => cuF w2 w' ∧ w'.1 1 0 2 = iN (sV D p + sZ D p) ∧ r = some (zL (iL (numF D (sV D p) (sZ D p))))) (hd.cu f14) p4 c5 (by omega) (fun _ _ _ _ w' a b => ⟨a, b, rfl⟩) (fun h => absurd ⟨hz1, hz8, ce, cL⟩ h)) (fun w5 r h => ?_)
                obtain ⟨f5, p5, rfl⟩ := h
                have hne : ¬ lg_cmp (iL (numF D (sV D p) (sZ D p))) 0 = 0 := by
                  rw [lg_eq]
                  intro h9
                  have h8 : iL (numF D (sV D p) (sZ D p)) = iL 0 := h9
                  rw [iL_inj (numF_63 hz8 cL) (by omega)] at h8
                  have h7 := numF_pos hz1 cL
                  omega
                refine z_C.go 4 rfl ?_
                refine z_C.call (Q' := fun w' r => w' = w5 ∧ r = some (zI 1)) rfl rfl ?_ (fun w' r h => ?_)
                · rw [h68]
                  refine z_C.go 6 rfl ?_
                  refine z_C.if (fun h => absurd h hne) (fun _ => ?_)
                  refine z_C.go 2 rfl ?_
                  exact z_C.ret rfl rfl ⟨rfl, rfl⟩
                obtain ⟨rfl, rfl⟩ := h
                refine z_C.go 1 rfl ?_
                refine z_C.if (fun h => absurd h (by decide)) (fun _ => ?_)
                exact e_keep hm ((f5.2 3 0 4 (by decide)).trans m4) (f14.tr f5) p5 rfl rfl (by unfold aVal; rw [if_pos h68]) (h1 (gd ⟨fun h => by omega, fun _ => cL⟩))
              · refine z_C.call rfl rfl (e_word (k := sZ D p) (Q := fun w' r => cuF w2 w' ∧ r = some (zL 0)) (hd.cu f14) p4 c5 (by omega) (fun _ _ _ h => absurd h cL) (fun _ w' a _ => ⟨a, rfl⟩)) (fun w5 r h => ?_)
                obtain ⟨f5, rfl⟩ := h
                refine z_C.go 4 rfl ?_
                refine z_C.call (Q' := fun w' r => w' = w5 ∧ r = some (zI 0)) rfl rfl ?_ (fun w' r h => ?_)
                · rw [h68]
                  refine z_C.go 6 rfl ?_
                  refine z_C.if (fun _ => ?_) (fun h => absurd (by decide) h)
                  refine z_C.go 1 rfl ?_
                  exact z_C.ret rfl rfl ⟨rfl, rfl⟩
                obtain ⟨rfl, rfl⟩ := h
                refine z_C.go 1 rfl ?_
                refine z_C.if (fun _ => ?_) (fun h => absurd (by decide) h)
                refine z_C.go 1 rfl ?_
                exact z_C.ret rfl rfl (h0 (fun h => cL (h.2.2.2.2.2.2.2 h68)) w' (f14.tr f5))
            · have h68 : ¬ D p = 68 := fun h9 => h68 (by rw [h9]; rfl)
              have hz7 : sZ D p ≤ 7 := by rcases cl with h | h | h <;> omega
              refine z_C.go 3 rfl ?_
              refine z_C.call rfl rfl (e_num (k := sZ D p) (Q := fun w' r => cuF w2 w' ∧ w'.1 1 0 2 = iN (sV D p + sZ D p) ∧ r = some (zL (iL (numF D (sV D p) (sZ D p))))) (hd.cu f14) p4 c5 hz7 (fun _ w' a b => ⟨a, b, rfl⟩) (fun h => absurd ce h)) (fun w5 r h => ?_)
              obtain ⟨f5, p5, rfl⟩ := h
              refine z_C.go 1 rfl ?_
              rw [iL_int]
              refine z_C.go 4 rfl ?_
              have hvl : (iN (numF D (sV D p) (sZ D p))).toInt64 = aVal D p := by unfold aVal; rw [if_neg h68]
              rcases ht with t33 | t34 | t68
              · refine z_C.call (Q' := fun w' r => w' = w5 ∧ r = some (zI 1)) rfl rfl ?_ (fun w' r h => ?_)
                · rw [t33]
                  refine z_C.go 2 rfl ?_
                  refine z_C.go 1 rfl ?_
                  exact z_C.ret rfl rfl ⟨rfl, rfl⟩
                obtain ⟨rfl, rfl⟩ := h
                refine z_C.go 1 rfl ?_
                refine z_C.if (fun h => absurd h (by decide)) (fun _ => ?_)
                exact e_keep hm ((f5.2 3 0 4 (by decide)).trans m4) (f14.tr f5) p5 rfl rfl hvl (h1 (gd ⟨fun h => by omega, fun h => by omega⟩))
              · have z1 : sZ D p = 1 := by rcases cl with h | h | h <;> omega
                have en : numF D (sV D p) (sZ D p) = D (sV D p) := by rw [z1]; exact numF_1
                have hDv := hb (sV D p) (by unfold sE at ce; omega)
                have el : (iN (numF D (sV D p) (sZ D p))).toInt64 = iL (D (sV D p)) := by rw [en]; exact iN_long (by omega)
                by_cases cv : D (sV D p) ≤ 1
                · refine z_C.call (Q' := fun w' r => w' = w5 ∧ r = some (zI 1)) rfl rfl ?_ (fun w' r h => ?_)
                  · rw [t34, el]
                    refine z_C.go 6 rfl ?_
                    refine z_C.if (fun h => ?_) (fun _ => ?_)
                    · have h : 0 < lg_cmp (iL (D (sV D p))) (iL 1) := h
                      rw [lg_gt, iL_lt (by omega) (by omega)] at h
                      omega
                    refine z_C.go 2 rfl ?_
                    exact z_C.ret rfl rfl ⟨rfl, rfl⟩
                  obtain ⟨rfl, rfl⟩ := h
                  refine z_C.go 1 rfl ?_
                  refine z_C.if (fun h => absurd h (by decide)) (fun _ => ?_)
                  exact e_keep hm ((f5.2 3 0 4 (by decide)).trans m4) (f14.tr f5) p5 rfl rfl hvl (h1 (gd ⟨fun _ => cv, fun h => by omega⟩))
                · refine z_C.call (Q' := fun w' r => w' = w5 ∧ r = some (zI 0)) rfl rfl ?_ (fun w' r h => ?_)
                  · rw [t34, el]
                    refine z_C.go 6 rfl ?_
                    refine z_C.if (fun _ => ?_) (fun h => absurd (lg_gt.mpr ((iL_lt (a := 1) (by omega) (by omega)).mpr (by omega))) h)
                    refine z_C.go 1 rfl ?_
                    exact z_C.ret rfl rfl ⟨rfl, rfl⟩
                  obtain ⟨rfl, rfl⟩ := h
                  refine z_C.go 1 rfl ?_
                  refine z_C.if (fun _ => ?_) (fun h => absurd (by decide) h)
                  refine z_C.go 1 rfl ?_
                  exact z_C.ret rfl rfl (h0 (fun h => cv (h.2.2.2.2.2.2.1 t34)) w' (f14.tr f5))
              · exact absurd t68 h68
          · refine z_C.call rfl rfl (zC_up (C' := zC) (k_has (k := sZ D p) (Q := fun w2 r => w2 = w' ∧ r = some (zI 0)) (hd.cu f14) p4 c5 (by omega) ⟨rfl, by rw [if_neg (show ¬ sV D p + sZ D p ≤ len from ce)]⟩)) (fun w2 r h => ?_)
            obtain ⟨rfl, rfl⟩ := h
            refine z_C.go 1 rfl ?_
            refine z_C.if (fun _ => ?_) (fun h => absurd (by decide) h)
            refine z_C.go 1 rfl ?_
            exact z_C.ret rfl rfl (h0 (fun h => ce h.2.2.2.2.2.1) w2 f14)
        · refine z_C.call rfl rfl (zC_up (C' := zC) (k_lenOf (t := D p) (z := sZ D p) (Q := fun w' r => w' = w4 ∧ r = some (zI 0)) ht (by omega) (fun h => absurd h cl) (fun _ => ⟨rfl, rfl⟩))) (fun w' r h => ?_)
          obtain ⟨rfl, rfl⟩ := h
          refine z_C.go 1 rfl ?_
          refine z_C.if (fun _ => ?_) (fun h => absurd (by decide) h)
          refine z_C.go 1 rfl ?_
          exact z_C.ret rfl rfl (h0 (fun h => cl h.2.2.2.2.1) w' f14)
      · refine z_C.call rfl rfl (e_num (k := 2) (Q := fun w' r => w' = w3 ∧ r = some (zL (-1))) (hd.cu f13) p3 (by omega) (by decide) (fun h => absurd h c5) (fun _ => ⟨rfl, rfl⟩)) (fun w' r h => ?_)
        obtain ⟨rfl, rfl⟩ := h
        refine z_C.go 4 rfl ?_
        refine z_C.call rfl rfl (zC_up (C' := zC) (k_lenOfN (t := D p) (Q := fun w2 r => w2 = w' ∧ r = some (zI 0)) ht ⟨rfl, rfl⟩)) (fun w2 r h => ?_)
        obtain ⟨rfl, rfl⟩ := h
        refine z_C.go 1 rfl ?_
        refine z_C.if (fun _ => ?_) (fun h => absurd (by decide) h)
        refine z_C.go 1 rfl ?_
        exact z_C.ret rfl rfl (h0 (fun h => c5 (by have := h.2.2.2.1; unfold sV at this; omega)) w2 f13)
    · refine z_C.call rfl rfl (e_word (k := sN D p) (Q := fun w' r => cuF w2 w' ∧ r = some (zL 0)) (hd.cu f12) p2 (by omega) (by omega) (fun a b c d => absurd ⟨a, b, c, d⟩ cw) (fun _ w' a _ => ⟨a, rfl⟩)) (fun w3 r h => ?_)
      obtain ⟨f3, rfl⟩ := h
      refine z_C.go 5 rfl ?_
      refine z_C.if (fun _ => ?_) (fun h => absurd (by decide) h)
      refine z_C.go 1 rfl ?_
      exact z_C.ret rfl rfl (h0 (fun h => cw ⟨h.2.1.1, h.2.1.2, h.2.2.1.1, h.2.2.1.2⟩) w3 (f12.tr f3))
  · refine z_C.call rfl rfl (e_num (k := 2) (Q := fun w' r => w' = w1 ∧ r = some (zL (-1))) (hd.cu f1) p1 (by omega) (by decide) (fun h => absurd h c3) (fun _ => ⟨rfl, rfl⟩)) (fun w' r h => ?_)
    obtain ⟨rfl, rfl⟩ := h
    refine z_C.go 1 rfl ?_
    refine z_C.call rfl rfl (e_wordN (Q := fun w2 r => w2 = w' ∧ r = some (zL 0)) ⟨rfl, rfl⟩) (fun w2 r h => ?_)
    obtain ⟨rfl, rfl⟩ := h
    refine z_C.go 5 rfl ?_
    refine z_C.if (fun _ => ?_) (fun h => absurd (by decide) h)
    refine z_C.go 1 rfl ?_
    exact z_C.ret rfl rfl (h0 (fun h => c3 (by have := h.1; omega)) w2 f1)
