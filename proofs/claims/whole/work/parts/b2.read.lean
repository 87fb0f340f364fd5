/-! the class reads bytes of the draft -/
abbrev iL (n : Nat) : Int64 := Int64.ofNat n
def numF (D : Nat → Nat) (p : Nat) : Nat → Nat
  | 0 => 0
  | k + 1 => numF D p k * 256 + D (p + k)
theorem numF_lt {D : Nat → Nat} {p : Nat} : ∀ k, (∀ i, i < k → D (p + i) < 256) → numF D p k < 256 ^ k := by
  intro k
  induction k with
  | zero => intro _; exact Nat.one_pos
  | succ k ih =>
    intro h
    have h1 := ih (fun i hi => h i (by omega))
    have h2 := h k (by omega)
    show numF D p k * 256 + D (p + k) < 256 ^ k * 256
    have h3 : (numF D p k + 1) * 256 ≤ 256 ^ k * 256 := Nat.mul_le_mul_right _ h1
    omega
theorem shl_or0 {a b : Nat} (ha : a < 2 ^ 56) (hb : b < 256) : (Int64.ofNat a <<< (8 : Int64)) ||| Int64.ofNat b = Int64.ofNat (a * 256 + b) := by
  apply Int64.toBitVec_inj.mp
  rw [Int64.toBitVec_or, Int64.toBitVec_shiftLeft, Int64.toBitVec_ofNat', Int64.toBitVec_ofNat', Int64.toBitVec_ofNat']
  have e : (Int64.toBitVec 8).smod 64 = 8#64 := by decide
  rw [e]
  show BitVec.ofNat 64 a <<< (8#64).toNat ||| BitVec.ofNat 64 b = _
  apply BitVec.eq_of_toNat_eq
  rw [BitVec.toNat_or, BitVec.toNat_shiftLeft, BitVec.toNat_ofNat, BitVec.toNat_ofNat, BitVec.toNat_ofNat]
  rw [Nat.mod_eq_of_lt (show a < 2 ^ 64 by omega), Nat.mod_eq_of_lt (show b < 2 ^ 64 by omega)]
  show a <<< 8 % 2 ^ 64 ||| b = (a * 256 + b) % 2 ^ 64
  rw [Nat.mod_eq_of_lt (show a * 256 + b < 2 ^ 64 by omega), Nat.shiftLeft_eq, Nat.mod_eq_of_lt (show a * 2 ^ 8 < 2 ^ 64 by omega), ← Nat.shiftLeft_eq, ← Nat.shiftLeft_add_eq_or_of_lt (show b < 2 ^ 8 by omega), Nat.shiftLeft_eq]
theorem iN_long {b : Nat} (hb : b < 2147483648) : (iN b).toInt64 = iL b := by
  apply Int64.toInt_inj.mp
  rw [Int32.toInt_toInt64, iN_toInt hb]
  exact (Int64.toInt_ofNat_of_lt (by omega)).symm
theorem shl_or {a b : Nat} (ha : a < 2 ^ 56) (hb : b < 256) : (iL a <<< ((8 : Int32).toInt64 &&& 63)) ||| (iN b).toInt64 = iL (a * 256 + b) := by
  have e8 : ((8 : Int32).toInt64 &&& 63 : Int64) = 8 := by decide
  rw [e8, iN_long (by omega)]
  exact shl_or0 ha hb
/-- the draft, on the class's side -/
def cD (len : Nat) (D : Nat → Nat) (w : z_W) : Prop := len ≤ 240 ∧ w.1 1 0 1 = iN len ∧ ∀ k, k < len → w.1 2 0 k = iN (D k) ∧ D k < 256
def cuF (w w' : z_W) : Prop := w'.2 = w.2 ∧ ∀ g i k, ¬ (g = 1 ∧ i = 0 ∧ k = 2) → w'.1 g i k = w.1 g i k
theorem cuF.rf (w : z_W) : cuF w w := ⟨rfl, fun _ _ _ _ => rfl⟩
theorem cuF.tr {w w' w'' : z_W} (h1 : cuF w w') (h2 : cuF w' w'') : cuF w w'' := ⟨h2.1.trans h1.1, fun g i k hg => (h2.2 g i k hg).trans (h1.2 g i k hg)⟩
theorem cuF.si {w : z_W} {x : Int32} : cuF w (z_si w 1 0 2 x) := ⟨rfl, fun _ _ _ hg => if_neg hg⟩
theorem cD.cu {len : Nat} {D : Nat → Nat} {w w' : z_W} (h : cD len D w) (hf : cuF w w') : cD len D w' :=
  ⟨h.1, (hf.2 1 0 1 (by decide)).trans h.2.1, fun k hk => ⟨(hf.2 2 0 k (fun h => absurd h.1 (by decide))).trans (h.2.2 k hk).1, (h.2.2 k hk).2⟩⟩
section RD
variable {len p k : Nat} {D : Nat → Nat} {w : z_W} {Q : z_W → Option z_V → Prop}
theorem e_next (hd : cD len D w) (hp : w.1 1 0 2 = iN p) (hp2 : p ≤ 300) (h1 : p < len → ∀ w', cuF w w' → w'.1 1 0 2 = iN (p + 1) → Q w' (some (zI (iN (D p))))) (h0 : ¬ p < len → Q w (some (zI (-1)))) : cRun kB_next (0, [some (zR 1 0), none], [], w) Q := by
  obtain ⟨d1, d2, d3⟩ := hd
  refine z_C.go 1 rfl ?_
  refine z_C.ld rfl rfl hp ?_
  refine z_C.go 1 rfl ?_
  refine z_C.if (fun h => absurd h (idx_ng (by omega))) (fun _ => ?_)
  refine z_C.go 1 rfl ?_
  refine z_C.ld rfl rfl hp ?_
  refine z_C.go 1 rfl ?_
  refine z_C.ld rfl rfl d2 ?_
  refine z_C.go 1 rfl ?_
  refine z_C.if (fun h => ?_) (fun h => ?_)
  · have h := (iN_lt (by omega) (by omega)).mp h
    have i1 : z_in (iN p) 240 = true := iN_in (by omega) (by omega)
    have n1 : w.1 2 0 (iN p).toNatClampNeg = iN (D p) := by rw [iN_nat (by omega)]; exact (d3 p h).1
    refine z_C.go 3 rfl ?_
    refine z_C.ld rfl rfl hp ?_
    refine z_C.ld rfl (if_pos ⟨rfl, i1⟩) n1 ?_
    refine z_C.go 3 rfl ?_
    refine z_C.ld rfl rfl hp ?_
    refine z_C.go 4 rfl ?_
    have k9 := h1 h (z_si w 1 0 2 (iN p + 1)) cuF.si (by
      show iN p + 1 = iN (p + 1)
      exact iN_add p 1)
    exact z_C.ret rfl rfl k9
  · have h : ¬ p < len := fun h9 => h ((iN_lt (by omega) (by omega)).mpr h9)
    refine z_C.go 1 rfl ?_
    exact z_C.ret rfl rfl (h0 h)
theorem k_has (hd : cD len D w) (hp : w.1 1 0 2 = iN p) (hpl : p ≤ len) (hk : k < 1000000) (hq : Q w (some (zI (if p + k ≤ len then 1 else 0)))) : z_C sC zM zCr kB_has (0, [some (zR 1 0), some (zI (iN k))], [], w) Q := by
  obtain ⟨d1, d2, d3⟩ := hd
  have e : iN len - iN p = iN (len - p) := iN_sub hpl
  refine z_C.go 2 rfl ?_
  refine z_C.ld rfl rfl d2 ?_
  refine z_C.go 1 rfl ?_
  refine z_C.ld rfl rfl hp ?_
  refine z_C.go 2 rfl ?_
  refine z_C.if (fun h => ?_) (fun h => ?_)
  · have h : iN len - iN p < iN k := h
    rw [e, iN_lt (by omega) (by omega)] at h
    rw [if_neg (by omega)] at hq
    refine z_C.go 1 rfl ?_
    exact z_C.ret rfl rfl hq
  · have h : ¬ iN len - iN p < iN k := h
    rw [e, iN_lt (by omega) (by omega)] at h
    rw [if_pos (by omega)] at hq
    refine z_C.go 2 rfl ?_
    exact z_C.ret rfl rfl hq
theorem e_num_loop {W0 : z_W} (hpk : p + k ≤ len) (hk : k ≤ 7) (K : ∀ w', cuF W0 w' → w'.1 1 0 2 = iN (p + k) → Q w' (some (zL (iL (numF D p k))))) : ∀ (d i : Nat) (w : z_W), i + d = k → cD len D w → cuF W0 w → w.1 1 0 2 = iN (p + i) →
    cRun kB_nextNumber (17, [some (zR 1 0), some (zI (iN k)), some (zL (iL (numF D p i))), none, some (zI (iN i))], [], w) Q := by
  intro d
  induction d with
  | zero =>
    intro i w hi hd hf hp
    have e : i = k := by omega
    subst e
    refine z_C.go 3 rfl ?_
    refine z_C.if (fun _ => ?_) (fun h => absurd ((iN_le (by omega) (by omega)).mpr (by omega)) h)
    refine z_C.go 1 rfl ?_
    exact z_C.ret rfl rfl (K w hf hp)
  | succ d ih =>
    intro i w hi hd hf hp
    have hlen := hd.1
    have hb : ∀ q, q < i → D (p + q) < 256 := fun q hq => (hd.2.2 (p + q) (by omega)).2
    have hn := numF_lt i hb
    have hp56 : 256 ^ i ≤ 256 ^ 6 := Nat.pow_le_pow_right (by decide) (by omega)
    have hDi := (hd.2.2 (p + i) (by omega)).2
    refine z_C.go 3 rfl ?_
    refine z_C.if (fun h => absurd ((iN_le (by omega) (by omega)).mp h) (by omega)) (fun _ => ?_)
    refine z_C.go 4 rfl ?_
    refine z_C.call rfl rfl (e_next (Q := fun w' r => cuF w w' ∧ w'.1 1 0 2 = iN (p + i + 1) ∧ r = some (zI (iN (D (p + i))))) hd hp (by omega) (fun _ w' a b => ⟨a, b, rfl⟩) (fun h => absurd (show p + i < len by omega) h)) (fun w' r h => ?_)
    obtain ⟨f1, p1, rfl⟩ := h
    refine z_C.go 5 rfl ?_
    have k9 := ih (i + 1) w' (by omega) (hd.cu f1) (hf.tr f1) (by rw [p1, Nat.add_assoc])
    have e1 : iL (numF D p (i + 1)) = (iL (numF D p i) <<< ((8 : Int32).toInt64 &&& 63)) ||| (iN (D (p + i))).toInt64 := (shl_or (Nat.lt_of_lt_of_le hn (Nat.le_trans hp56 (by decide))) hDi).symm
    rw [e1, ← iN_add i 1] at k9
    exact k9
theorem e_num (hd : cD len D w) (hp : w.1 1 0 2 = iN p) (hpl : p ≤ len) (hk : k ≤ 7) (h1 : p + k ≤ len → ∀ w', cuF w w' → w'.1 1 0 2 = iN (p + k) → Q w' (some (zL (iL (numF D p k))))) (h0 : ¬ p + k ≤ len → Q w (some (zL (-1)))) : cRun kB_nextNumber (0, [some (zR 1 0), some (zI (iN k)), none, none, none], [], w) Q := by
  refine z_C.go 2 rfl ?_
  refine z_C.call rfl rfl (zC_up (C' := zC) (k_has (k := k) (Q := fun w' r => w' = w ∧ r = some (zI (if p + k ≤ len then 1 else 0))) hd hp hpl (by omega) ⟨rfl, rfl⟩)) (fun w' r h => ?_)
  obtain ⟨rfl, rfl⟩ := h
  by_cases h : p + k ≤ len
  · rw [if_pos h]
    refine z_C.go 1 rfl ?_
    refine z_C.if (fun h => absurd h (by decide)) (fun _ => ?_)
    refine z_C.go 4 rfl ?_
    exact e_num_loop (W0 := w') h hk (h1 h) k 0 w' (by omega) hd (cuF.rf _) hp
  · rw [if_neg h]
    refine z_C.go 1 rfl ?_
    refine z_C.if (fun _ => ?_) (fun h => absurd (by decide) h)
    refine z_C.go 1 rfl ?_
    exact z_C.ret rfl rfl (h0 h)
def Lt (D : Nat → Nat) (p k : Nat) : Prop := ∀ i, i < k → 97 ≤ D (p + i) ∧ D (p + i) ≤ 122
theorem e_word_loop {W0 : z_W} (hk : k ≤ 8) (hlen : len ≤ 240) (hpl : p ≤ len) (h1 : p + k ≤ len → Lt D p k → ∀ w', cuF W0 w' → w'.1 1 0 2 = iN (p + k) → Q w' (some (zL (iL (numF D p k))))) (h0 : ¬ (p + k ≤ len ∧ Lt D p k) → ∀ w', cuF W0 w' → (∃ q, q ≤ len ∧ w'.1 1 0 2 = iN q) → Q w' (some (zL 0))) : ∀ (d i : Nat) (w : z_W) (x : Option z_V), i + d = k → p + i ≤ len → Lt D p i → cD len D w → cuF W0 w → w.1 1 0 2 = iN (p + i) →
    cRun kB_nextWord (18, [some (zR 1 0), some (zI (iN k)), some (zL (iL (numF D p i))), none, some (zI (iN i)), x], [], w) Q := by
  intro d
  induction d with
  | zero =>
    intro i w x hi hpi hL hd hf hp
    have e : i = k := by omega
    subst e
    refine z_C.go 3 rfl ?_
    refine z_C.if (fun _ => ?_) (fun h => absurd ((iN_le (by omega) (by omega)).mpr (by omega)) h)
    refine z_C.go 1 rfl ?_
    exact z_C.ret rfl rfl (h1 hpi hL w hf hp)
  | succ d ih =>
    intro i w x hi hpi hL hd hf hp
    have hb : ∀ q, q < i → D (p + q) < 256 := fun q hq => (hd.2.2 (p + q) (by omega)).2
    have hn := numF_lt i hb
    have hp56 : 256 ^ i ≤ 256 ^ 7 := Nat.pow_le_pow_right (by decide) (by omega)
    refine z_C.go 3 rfl ?_
    refine z_C.if (fun h => absurd ((iN_le (by omega) (by omega)).mp h) (by omega)) (fun _ => ?_)
    refine z_C.go 1 rfl ?_
    by_cases hl : p + i < len
    · have hDi := (hd.2.2 (p + i) (by omega)).2
      refine z_C.call rfl rfl (e_next (Q := fun w' r => cuF w w' ∧ w'.1 1 0 2 = iN (p + i + 1) ∧ r = some (zI (iN (D (p + i))))) hd hp (by omega) (fun _ w' a b => ⟨a, b, rfl⟩) (fun h => absurd hl h)) (fun w' r h => ?_)
      obtain ⟨f1, p1, rfl⟩ := h
      refine z_C.go 4 rfl ?_
      refine z_C.if (fun h => ?_) (fun h => ?_)
      · have h := (iN_lt (b := 97) (by omega) (by decide)).mp h
        refine z_C.go 1 rfl ?_
        exact z_C.ret rfl rfl (h0 (fun h9 => by have := h9.2 i (by omega); omega) w' (hf.tr f1) ⟨p + i + 1, by omega, p1⟩)
      · have h97 : 97 ≤ D (p + i) := Nat.le_of_not_lt (fun h9 => h ((iN_lt (b := 97) (by omega) (by decide)).mpr h9))
        refine z_C.go 3 rfl ?_
        refine z_C.if (fun h => ?_) (fun h => ?_)
        · have h122 := (iN_le (b := 122) (by omega) (by decide)).mp h
          refine z_C.go 9 rfl ?_
          have k9 := ih (i + 1) w' (some (zI (iN (D (p + i))))) (by omega) (by omega) (fun q hq => by
            by_cases e : q = i
            · rw [e]
              exact ⟨h97, h122⟩
            · exact hL q (by omega)) (hd.cu f1) (hf.tr f1) (by rw [p1, Nat.add_assoc])
          have e1 : iL (numF D p (i + 1)) = (iL (numF D p i) <<< ((8 : Int32).toInt64 &&& 63)) ||| (iN (D (p + i))).toInt64 := (shl_or (Nat.lt_of_lt_of_le hn (Nat.le_trans hp56 (by decide))) hDi).symm
          rw [e1, ← iN_add i 1] at k9
          exact k9
        · have h122 : ¬ D (p + i) ≤ 122 := fun h9 => h ((iN_le (b := 122) (by omega) (by decide)).mpr h9)
          refine z_C.go 1 rfl ?_
          exact z_C.ret rfl rfl (h0 (fun h9 => h122 (h9.2 i (by omega)).2) w' (hf.tr f1) ⟨p + i + 1, by omega, p1⟩)
    · refine z_C.call rfl rfl (e_next (Q := fun w' r => w' = w ∧ r = some (zI (-1))) hd hp (by omega) (fun h => absurd h hl) (fun _ => ⟨rfl, rfl⟩)) (fun w' r h => ?_)
      obtain ⟨rfl, rfl⟩ := h
      refine z_C.go 4 rfl ?_
      refine z_C.if (fun _ => ?_) (fun h => absurd (by decide) h)
      refine z_C.go 1 rfl ?_
      exact z_C.ret rfl rfl (h0 (fun h9 => by omega) w' hf ⟨p + i, hpi, hp⟩)
theorem e_word (hd : cD len D w) (hp : w.1 1 0 2 = iN p) (hpl : p ≤ len) (hk : k < 1000000) (h1 : 1 ≤ k → k ≤ 8 → p + k ≤ len → Lt D p k → ∀ w', cuF w w' → w'.1 1 0 2 = iN (p + k) → Q w' (some (zL (iL (numF D p k))))) (h0 : ¬ (1 ≤ k ∧ k ≤ 8 ∧ p + k ≤ len ∧ Lt D p k) → ∀ w', cuF w w' → (∃ q, q ≤ len ∧ w'.1 1 0 2 = iN q) → Q w' (some (zL 0))) : cRun kB_nextWord (0, [some (zR 1 0), some (zI (iN k)), none, none, none, none], [], w) Q := by
  refine z_C.go 3 rfl ?_
  refine z_C.if (fun h => ?_) (fun h => ?_)
  · have h := (iN_lt (b := 1) (by omega) (by decide)).mp h
    refine z_C.go 1 rfl ?_
    exact z_C.ret rfl rfl (h0 (fun h9 => by omega) w (cuF.rf w) ⟨p, hpl, hp⟩)
  · have hk1 : 1 ≤ k := Nat.le_of_not_lt (fun h9 => h ((iN_lt (b := 1) (by omega) (by decide)).mpr h9))
    refine z_C.go 3 rfl ?_
    refine z_C.if (fun h => ?_) (fun h => ?_)
    · have hk8 := (iN_le (b := 8) (by omega) (by decide)).mp h
      refine z_C.go 4 rfl ?_
      exact e_word_loop (W0 := w) hk8 hd.1 hpl (fun a b => h1 hk1 hk8 a b) (fun a => h0 (fun h9 => a h9.2.2)) k 0 w none (by omega) (by omega) (fun q hq => by omega) hd (cuF.rf w) hp
    · have hk8 : ¬ k ≤ 8 := fun h9 => h ((iN_le (b := 8) (by omega) (by decide)).mpr h9)
      refine z_C.go 1 rfl ?_
      exact z_C.ret rfl rfl (h0 (fun h9 => hk8 h9.2.1) w (cuF.rf w) ⟨p, hpl, hp⟩)
theorem e_wordN (hq : Q w (some (zL 0))) : cRun kB_nextWord (0, [some (zR 1 0), some (zI (-1)), none, none, none, none], [], w) Q := by
  refine z_C.go 3 rfl ?_
  refine z_C.if (fun _ => ?_) (fun h => absurd (by decide) h)
  refine z_C.go 1 rfl ?_
  exact z_C.ret rfl rfl hq
end RD
