/-! small whole numbers as ints; runs of the class side and of the reference side -/
abbrev cRun (mi : Nat) (f : z_F) (Q : z_W → Option z_V → Prop) : Prop := z_C sC zM zC mi f Q
abbrev mRun (mi : Nat) (f : z_F) (Q : z_W → Option z_V → Prop) : Prop := z_C sR zM zC mi f Q
abbrev iN (n : Nat) : Int32 := Int32.ofNat n
theorem iN_toInt {n : Nat} (h : n < 2147483648) : (iN n).toInt = (n : Int) := i_ofNat h
theorem iN_nat {n : Nat} (h : n < 2147483648) : (iN n).toNatClampNeg = n := by
  have h1 : (iN n).toNatClampNeg = (iN n).toInt.toNat := rfl
  rw [h1, iN_toInt h]
  rfl
theorem iN_lt {a b : Nat} (ha : a < 2147483648) (hb : b < 2147483648) : iN a < iN b ↔ a < b := by
  rw [Int32.lt_iff_toInt_lt, iN_toInt ha, iN_toInt hb]
  omega
theorem iN_le {a b : Nat} (ha : a < 2147483648) (hb : b < 2147483648) : iN a ≤ iN b ↔ a ≤ b := by
  rw [Int32.le_iff_toInt_le, iN_toInt ha, iN_toInt hb]
  omega
theorem iN_inj {a b : Nat} (ha : a < 2147483648) (hb : b < 2147483648) : iN a = iN b ↔ a = b := by
  constructor
  · intro h
    have h1 := congrArg Int32.toInt h
    rw [iN_toInt ha, iN_toInt hb] at h1
    omega
  · intro h
    rw [h]
theorem iN_add (a b : Nat) : iN a + iN b = iN (a + b) := (Int32.ofNat_add a b).symm
theorem iN_mul (a b : Nat) : iN a * iN b = iN (a * b) := (Int32.ofNat_mul a b).symm
theorem iN_sub {a b : Nat} (h : b ≤ a) : iN a - iN b = iN (a - b) := by
  have h1 : iN a = iN (a - b) + iN b := by rw [iN_add, Nat.sub_add_cancel h]
  rw [h1]
  exact Int32.add_sub_cancel _ _
theorem iN_of {x : Int32} (h : 0 ≤ x) : x = iN x.toInt.toNat ∧ x.toInt.toNat < 2147483648 := by
  have h0 : 0 ≤ x.toInt := by
    have := Int32.le_iff_toInt_le.mp h
    simpa using this
  have h1 : x.toInt < 2147483648 := Int32.toInt_lt x
  have h2 : x.toInt.toNat < 2147483648 := by omega
  refine ⟨?_, h2⟩
  apply Int32.toInt_inj.mp
  rw [iN_toInt h2]
  omega
theorem iN_in {a n : Nat} (ha : a < n) (hn : n < 2147483648) : z_in (iN a) n = true := by
  unfold z_in
  rw [iN_toInt (by omega)]
  simp
  omega
theorem iN_dec {a : Nat} : iN (a + 1) + (-1) = iN a := by
  have h : iN (a + 1) = iN a + iN 1 := (iN_add a 1).symm
  rw [h]
  show iN a + 1 + (-1) = iN a
  rw [Int32.add_assoc]
  show iN a + 0 = iN a
  exact Int32.add_zero _
/-! Bytes.add and addNumber -/
def bAdd (b : Nat) (x : Int32) (w : z_W) : z_W := if w.1 1 b 1 < iN (sCl 2 b) then z_si (z_si w 2 b (w.1 1 b 1).toNatClampNeg (x &&& 255)) 1 b 1 (w.1 1 b 1 + 1) else w
theorem sCl_2 (b : Nat) : sCl 2 b ≤ 512 := by
  match b with
  | 0 => decide
  | 1 => decide
  | b + 2 => exact (by decide : 256 ≤ 512)
theorem e_add {b n : Nat} {x : Int32} {w : z_W} {Q : z_W → Option z_V → Prop} (hn : w.1 1 b 1 = iN n) (hn2 : n ≤ 512) (hq : Q (bAdd b x w) none) : cRun kB_add (0, [some (zR 1 b), some (zI x)], [], w) Q := by
  have hc := sCl_2 b
  refine z_C.go 6 rfl ?_
  refine z_C.if (fun h => ?_) (fun h => ?_)
  · have h : iN (sCl 2 b) ≤ w.1 1 b 1 := h
    refine z_C.ret rfl rfl ?_
    unfold bAdd at hq
    rw [if_neg (Int32.not_lt.mpr h)] at hq
    exact hq
  · have h1 : w.1 1 b 1 < iN (sCl 2 b) := Int32.not_le.mp h
    have h2 : n < sCl 2 b := by
      rw [hn] at h1
      exact (iN_lt (by omega) (by omega)).mp h1
    have h3 : z_in (w.1 1 b 1) (sCl 2 b) = true := by
      rw [hn]
      exact iN_in h2 (by omega)
    refine z_C.go 7 rfl ?_
    refine z_C.go1 rfl (if_pos ⟨rfl, h3⟩) ?_
    refine z_C.go 6 rfl ?_
    refine z_C.ret rfl rfl ?_
    unfold bAdd at hq
    rw [if_pos h1] at hq
    exact hq
theorem bAdd_len {b n : Nat} {x : Int32} {w : z_W} (hn : w.1 1 b 1 = iN n) (hn2 : n ≤ 512) : ∃ n', (bAdd b x w).1 1 b 1 = iN n' ∧ n' ≤ 512 ∧ n ≤ n' ∧ n' ≤ n + 1 := by
  have hc := sCl_2 b
  unfold bAdd
  split
  · rename_i h
    rw [hn] at h
    have h2 := (iN_lt (by omega) (by omega)).mp h
    refine ⟨n + 1, ?_, by omega, by omega, by omega⟩
    show (if 1 = 1 ∧ b = b ∧ 1 = 1 then _ else _) = _
    rw [if_pos ⟨rfl, rfl, rfl⟩, hn]
    exact iN_add n 1
  · exact ⟨n, hn, hn2, by omega, by omega⟩
def byteAt (y : Int64) (k : Nat) : Int32 := (y >>> ((8 * iN k).toInt64 &&& 63)).toInt32
def bNum (b : Nat) (y : Int64) : Nat → z_W → z_W
  | 0, w => w
  | k + 1, w => bNum b y k (bAdd b (byteAt y k) w)
theorem iN_pred (k : Nat) : iN (k + 1) - 1 = iN k := iN_sub (b := 1) (by omega)
theorem e_addN_loop {b : Nat} {y : Int64} {nn : Int32} {Q : z_W → Option z_V → Prop} : ∀ (k : Nat) (i : Int32) (w : z_W) (n : Nat), k ≤ 8 → i = iN k - 1 → w.1 1 b 1 = iN n → n ≤ 512 → Q (bNum b y k w) none →
    cRun kB_addNumber (5, [some (zR 1 b), some (zL y), none, some (zI nn), some (zI i)], [], w) Q := by
  intro k
  induction k with
  | zero =>
    intro i w n hk hi hn hn2 hq
    refine z_C.go 2 rfl ?_
    refine z_C.if (fun h => ?_) (fun h => absurd (by rw [hi]; decide) h)
    exact z_C.ret rfl rfl hq
  | succ k ih =>
    intro i w n hk hi hn hn2 hq
    rw [iN_pred] at hi
    refine z_C.go 2 rfl ?_
    refine z_C.if (fun h => ?_) (fun h => ?_)
    · rw [hi] at h
      exact absurd ((iN_lt (a := k) (b := 0) (by omega) (by omega)).mp h) (Nat.not_lt_zero k)
    · refine z_C.go 7 rfl ?_
      refine z_C.call rfl rfl (e_add (Q := fun w' r => w' = bAdd b (byteAt y k) w ∧ r = none) hn hn2 ⟨by rw [hi]; rfl, rfl⟩) (fun w' r h => ?_)
      obtain ⟨rfl, rfl⟩ := h
      refine z_C.go 2 rfl ?_
      obtain ⟨n', h1, h2, -⟩ := bAdd_len (x := byteAt y k) hn hn2
      exact ih _ _ n' (by omega) (by rw [hi]; exact (Int32.sub_eq_add_neg _ _).symm) h1 h2 hq
theorem e_addN {b n k : Nat} {y : Int64} {w : z_W} {Q : z_W → Option z_V → Prop} (hk : k ≤ 8) (hn : w.1 1 b 1 = iN n) (hn2 : n ≤ 512) (hq : Q (bNum b y k w) none) : cRun kB_addNumber (0, [some (zR 1 b), some (zL y), none, some (zI (iN k)), none], [], w) Q := by
  refine z_C.go 4 rfl ?_
  exact e_addN_loop k _ w n hk rfl hn hn2 hq
theorem e_length {b : Nat} {w : z_W} {Q : z_W → Option z_V → Prop} (hq : Q w (some (zI (w.1 1 b 1)))) : cRun kB_length (0, [some (zR 1 b)], [], w) Q := by
  refine z_C.go 2 rfl ?_
  exact z_C.ret rfl rfl hq
/-- what 'put' takes -/
def putOK (n : Nat) (i : Int32) : Prop := 1 ≤ i ∧ i ≤ 8 ∧ iN n + i ≤ 240
theorem e_put {n : Nat} {y : Int64} {i : Int32} {w : z_W} {Q : z_W → Option z_V → Prop} (hn : w.1 1 0 1 = iN n) (hn2 : n ≤ 240) (h0 : ¬ putOK n i → Q w (some (zI 0))) (h1 : ∀ k, i = iN k → k ≤ 8 → 1 ≤ k → putOK n i → Q (bNum 0 y k w) (some (zI 1))) :
    cRun kP_put (0, [some (zR 0 0), some (zL y), none, some (zI i)], [], w) Q := by
  refine z_C.go 3 rfl ?_
  refine z_C.if (fun h => ?_) (fun h => ?_)
  · refine z_C.go 1 rfl ?_
    exact z_C.ret rfl rfl (h0 (fun h9 => absurd h (Int32.not_lt.mpr h9.1)))
  have g1 : 1 ≤ i := Int32.not_lt.mp h
  refine z_C.go 3 rfl ?_
  refine z_C.if (fun h => ?_) (fun h => ?_)
  · refine z_C.go 1 rfl ?_
    exact z_C.ret rfl rfl (h0 (fun h9 => absurd h (Int32.not_lt.mpr h9.2.1)))
  have g2 : i ≤ 8 := Int32.not_lt.mp h
  refine z_C.go 2 rfl ?_
  refine z_C.call rfl rfl (e_length (Q := fun w' r => w' = w ∧ r = some (zI (iN n))) ⟨rfl, by show some (zI (w.1 1 0 1)) = _; rw [hn]⟩) (fun w' r h => ?_)
  obtain ⟨rfl, rfl⟩ := h
  refine z_C.go 4 rfl ?_
  refine z_C.if (fun h => ?_) (fun h => ?_)
  · have hp : putOK n i := ⟨g1, g2, h⟩
    have g0 : (0 : Int32) ≤ i := Int32.le_trans (by decide) g1
    obtain ⟨e1, e2⟩ := iN_of g0
    generalize i.toInt.toNat = k at e1 e2
    subst e1
    have k8 : k ≤ 8 := (iN_le (b := 8) e2 (by decide)).mp g2
    have k1 : 1 ≤ k := (iN_le (a := 1) (by decide) e2).mp g1
    refine z_C.go 4 rfl ?_
    refine z_C.call rfl rfl (e_addN (Q := fun w'' r => w'' = bNum 0 y k w' ∧ r = none) k8 hn (by omega) ⟨rfl, rfl⟩) (fun w'' r h => ?_)
    obtain ⟨rfl, rfl⟩ := h
    refine z_C.go 1 rfl ?_
    exact z_C.ret rfl rfl (h1 k rfl k8 k1 hp)
  · refine z_C.go 1 rfl ?_
    exact z_C.ret rfl rfl (h0 (fun h9 => absurd h9.2.2 h))
