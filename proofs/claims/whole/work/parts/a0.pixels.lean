/-! which pixel is where on a side -/
def nPix (P : Nat → Int32) (pg p r c : Nat) : Int32 := if p < pg then P (12 * p + 4 * r + c) else 0
def nPair (P : Nat → Int32) (pg a b y x : Nat) : Int32 := nPix P pg (if x < 3 then a else b) (2 - x % 3) y
def nPlain (P : Nat → Int32) (pg up s y x : Nat) : Int32 := if up = 1 then nPix P pg s y x else if up = 2 then nPair P pg (2 * s) (2 * s + 1) y x else nPix P pg (4 * s + 2 * (y / 3) + x / 4) (y % 3) (x % 4)
def nBook (P : Nat → Int32) (pg N s bk y x : Nat) : Int32 := if bk = 0 then nPair P pg (4 * N - 2 * s - 1) (2 * s) y x else nPair P pg (2 * s + 1) (4 * N - 2 * s - 2) y x
def nC (a : Nat → Nat) : Nat := nCopy (a 5) (a 6) (a 7) (a 8)
def nF0 (a : Nat → Nat) (P : Nat → Int32) (s bk y x : Nat) : Int32 := if a 7 = 1 then nBook P (a 8) (nC a) s bk y x else nPlain P (a 8) (a 5) (if a 6 = 0 then s else 2 * s + bk) y x
def nW (a : Nat → Nat) : Nat := if a 7 = 1 then 6 else if a 5 = 1 then 4 else if a 5 = 2 then 6 else 8
def nH (a : Nat → Nat) : Nat := if a 7 = 1 then 4 else if a 5 = 1 then 3 else if a 5 = 2 then 4 else 6
/-- the two shapes that a job's sides can have, and the third -/
theorem nWH {a : Nat → Nat} {nx : Nat} (h : aJob a nx) : (a 7 = 1 ∧ a 5 = 1 ∧ nW a = 6 ∧ nH a = 4) ∨ (a 7 = 0 ∧ a 5 = 1 ∧ nW a = 4 ∧ nH a = 3) ∨ (a 7 = 0 ∧ a 5 = 2 ∧ nW a = 6 ∧ nH a = 4) ∨ (a 7 = 0 ∧ a 5 = 4 ∧ nW a = 8 ∧ nH a = 6) := by
  obtain ⟨-, -, -, -, h5, -, h7, h75, -⟩ := h
  unfold nW nH
  by_cases e : a 7 = 1
  · rw [if_pos e, if_pos e]
    exact Or.inl ⟨e, h75 e, rfl, rfl⟩
  · have e0 : a 7 = 0 := by omega
    rw [if_neg e, if_neg e]
    rcases h5 with h5 | h5 | h5
    · exact Or.inr (Or.inl ⟨e0, h5, by rw [if_pos h5], by rw [if_pos h5]⟩)
    · exact Or.inr (Or.inr (Or.inl ⟨e0, h5, by rw [if_neg (by omega), if_pos h5], by rw [if_neg (by omega), if_pos h5]⟩))
    · exact Or.inr (Or.inr (Or.inr ⟨e0, h5, by rw [if_neg (by omega), if_neg (by omega)], by rw [if_neg (by omega), if_neg (by omega)]⟩))
/-- the k-th job of the reference -/
def mK (k : Nat) (a : Nat → Nat) (P : Nat → Int32) (v : z_W) : Prop := k ≤ 24 ∧ (∀ f, 1 ≤ f → f ≤ 8 → v.1 2 0 (10 * k + (f - 1)) = iN (a f)) ∧ ∀ q, q < 12 * a 8 → v.1 3 0 (72 * k + q) = P q
theorem rem3 : ∀ x, x < 8 → iN x - iN x / 3 * 3 = iN (x % 3) ∧ iN x / 3 = iN (x / 3) ∧ iN x / 4 = iN (x / 4) ∧ iN x - iN x / 4 * 4 = iN (x % 4) := by decide
theorem m_pixelOf {k p y x nx : Nat} {a : Nat → Nat} {P : Nat → Int32} {v : z_W} {Q : z_W → Option z_V → Prop} (hj : aJob a nx) (hk : mK k a P v) (hp : p < 1000) (hy : y ≤ 2) (hx : x ≤ 3) (hq : Q v (some (zI (nPix P (a 8) p y x)))) :
    mRun kX_pixelOf (0, [some (zR 0 0), some (zI (iN k)), some (zI (iN p)), some (zI (iN y)), some (zI (iN x))], [], v) Q := by
  obtain ⟨hk1, hk2, hk3⟩ := hk
  have h8 := hj.2.2.2.2.2.2.2.2
  obtain ⟨-, i7, n7⟩ := j_ix (k := k) (f := 7) (by omega) (by decide)
  have v7 : v.1 2 0 (10 * iN k + iN 7).toNatClampNeg = iN (a 8) := by rw [n7]; exact hk2 8 (by decide) (by decide)
  unfold nPix at hq
  refine z_C.go 2 rfl ?_
  refine z_C.if (fun h => absurd h (idx_ng (by omega))) (fun _ => ?_)
  refine z_C.go 8 rfl ?_
  refine z_C.go1 rfl (if_pos ⟨rfl, i7⟩) ?_
  refine z_C.go 1 rfl ?_
  refine z_C.if (fun h => ?_) (fun h => ?_)
  · have h : iN p < v.1 2 0 (10 * iN k + iN 7).toNatClampNeg := h
    rw [v7, iN_lt (by omega) (by omega)] at h
    rw [if_pos h] at hq
    have e : 72 * iN k + 12 * iN p + 4 * iN y + iN x = iN (72 * k + (12 * p + 4 * y + x)) := by
      have e1 : 72 * iN k = iN (72 * k) := iN_mul 72 k
      have e2 : 12 * iN p = iN (12 * p) := iN_mul 12 p
      have e3 : 4 * iN y = iN (4 * y) := iN_mul 4 y
      rw [e1, e2, e3, iN_add, iN_add, iN_add]
      congr 1
      omega
    have i1 : z_in (72 * iN k + 12 * iN p + 4 * iN y + iN x) 1872 = true := by rw [e]; exact iN_in (by omega) (by omega)
    have n1 : v.1 3 0 (72 * iN k + 12 * iN p + 4 * iN y + iN x).toNatClampNeg = P (12 * p + 4 * y + x) := by rw [e, iN_nat (by omega)]; exact hk3 _ (by omega)
    rw [← n1] at hq
    refine z_C.go 15 rfl ?_
    refine z_C.go1 rfl (if_pos ⟨rfl, i1⟩) ?_
    exact z_C.ret rfl rfl hq
  · have h : ¬ iN p < v.1 2 0 (10 * iN k + iN 7).toNatClampNeg := h
    rw [v7, iN_lt (by omega) (by omega)] at h
    rw [if_neg h] at hq
    refine z_C.go 2 rfl ?_
    exact z_C.ret rfl rfl hq
theorem m_pair {k p q y x nx : Nat} {a : Nat → Nat} {P : Nat → Int32} {v : z_W} {Q : z_W → Option z_V → Prop} (hj : aJob a nx) (hk : mK k a P v) (hp : p < 1000) (hq1 : q < 1000) (hy : y ≤ 3) (hx : x < 6) (hq : Q v (some (zI (nPair P (a 8) p q y x)))) :
    mRun kX_pair (0, [some (zR 0 0), some (zI (iN k)), some (zI (iN p)), some (zI (iN q)), some (zI (iN y)), some (zI (iN x)), none], [], v) Q := by
  unfold nPair at hq
  have e1 := (rem3 x (by omega)).1
  have hx3 : x % 3 < 3 := Nat.mod_lt _ (by decide)
  have e2 : 2 - (iN x - iN x / 3 * 3) = iN (2 - x % 3) := by rw [e1]; exact iN_sub (a := 2) (by omega)
  refine z_C.go 9 rfl ?_
  refine z_C.if (fun h => ?_) (fun h => ?_)
  · have h : 3 ≤ x := (iN_le (a := 3) (by decide) (by omega)).mp h
    rw [if_neg (show ¬ x < 3 by omega)] at hq
    refine z_C.go 5 rfl ?_
    rw [e2]
    refine z_C.call rfl rfl (m_pixelOf (p := q) (y := 2 - x % 3) (x := y) (Q := fun w' r => w' = v ∧ r = some (zI (nPix P (a 8) q (2 - x % 3) y))) hj hk hq1 (by omega) hy ⟨rfl, rfl⟩) (fun w' r h => ?_)
    obtain ⟨rfl, rfl⟩ := h
    exact z_C.ret rfl rfl hq
  · have h : x < 3 := Nat.lt_of_not_le (fun h9 => h ((iN_le (a := 3) (by decide) (by omega)).mpr h9))
    rw [if_pos h] at hq
    refine z_C.go 6 rfl ?_
    rw [e2]
    refine z_C.call rfl rfl (m_pixelOf (p := p) (y := 2 - x % 3) (x := y) (Q := fun w' r => w' = v ∧ r = some (zI (nPix P (a 8) p (2 - x % 3) y))) hj hk hp (by omega) hy ⟨rfl, rfl⟩) (fun w' r h => ?_)
    obtain ⟨rfl, rfl⟩ := h
    exact z_C.ret rfl rfl hq
theorem m_plain {k s y x nx : Nat} {a : Nat → Nat} {P : Nat → Int32} {v : z_W} {Q : z_W → Option z_V → Prop} (hj : aJob a nx) (hk : mK k a P v) (h7 : a 7 = 0) (hs : s < 100) (hy : y < nH a) (hx : x < nW a) (hq : Q v (some (zI (nPlain P (a 8) (a 5) s y x)))) :
    mRun kX_plain (0, [some (zR 0 0), some (zI (iN k)), some (zI (iN s)), some (zI (iN y)), some (zI (iN x)), none], [], v) Q := by
  have hk' := hk
  obtain ⟨hk1, hk2, hk3⟩ := hk'
  obtain ⟨-, i4, n4⟩ := j_ix (k := k) (f := 4) (by omega) (by decide)
  have v4 : v.1 2 0 (10 * iN k + iN 4).toNatClampNeg = iN (a 5) := by rw [n4]; exact hk2 5 (by decide) (by decide)
  have e2 : 2 * iN s = iN (2 * s) := iN_mul 2 s
  have e2' : 2 * iN s + 1 = iN (2 * s + 1) := by rw [e2]; exact iN_add (2 * s) 1
  unfold nPlain at hq
  refine z_C.go 7 rfl ?_
  refine z_C.go1 rfl (if_pos ⟨rfl, i4⟩) ?_
  refine z_C.go 4 rfl ?_
  refine z_C.if (fun h => ?_) (fun h => ?_)
  · have h : v.1 2 0 (10 * iN k + iN 4).toNatClampNeg = 1 := h
    rcases nWH hj with ⟨c1, -⟩ | ⟨-, c2, c3, c4⟩ | ⟨-, c2, c3, c4⟩ | ⟨-, c2, c3, c4⟩
    · omega
    · rw [if_pos c2] at hq
      refine z_C.go 5 rfl ?_
      refine z_C.call rfl rfl (m_pixelOf (p := s) (y := y) (x := x) (Q := fun w' r => w' = v ∧ r = some (zI (nPix P (a 8) s y x))) hj hk (by omega) (by omega) (by omega) ⟨rfl, rfl⟩) (fun w' r h => ?_)
      obtain ⟨rfl, rfl⟩ := h
      exact z_C.ret rfl rfl hq
    · rw [v4, c2] at h
      exact absurd h (by decide)
    · rw [v4, c2] at h
      exact absurd h (by decide)
  · have h : ¬ v.1 2 0 (10 * iN k + iN 4).toNatClampNeg = 1 := h
    refine z_C.go 3 rfl ?_
    refine z_C.if (fun h2 => ?_) (fun h2 => ?_)
    · have h2 : v.1 2 0 (10 * iN k + iN 4).toNatClampNeg = 2 := h2
      rcases nWH hj with ⟨c1, -⟩ | ⟨-, c2, c3, c4⟩ | ⟨-, c2, c3, c4⟩ | ⟨-, c2, c3, c4⟩
      · omega
      · rw [v4, c2] at h2
        exact absurd h2 (by decide)
      · rw [if_neg (by omega), if_pos c2] at hq
        refine z_C.go 12 rfl ?_
        rw [e2', e2]
        refine z_C.call rfl rfl (m_pair (p := 2 * s) (q := 2 * s + 1) (y := y) (x := x) (Q := fun w' r => w' = v ∧ r = some (zI (nPair P (a 8) (2 * s) (2 * s + 1) y x))) hj hk (by omega) (by omega) (by omega) (by omega) ⟨rfl, rfl⟩) (fun w' r h => ?_)
        obtain ⟨rfl, rfl⟩ := h
        refine z_C.go 1 rfl ?_
        exact z_C.ret rfl rfl hq
      · rw [v4, c2] at h2
        exact absurd h2 (by decide)
    · have h2 : ¬ v.1 2 0 (10 * iN k + iN 4).toNatClampNeg = 2 := h2
      rcases nWH hj with ⟨c1, -⟩ | ⟨-, c2, c3, c4⟩ | ⟨-, c2, c3, c4⟩ | ⟨-, c2, c3, c4⟩
      · omega
      · exact absurd (by rw [v4, c2]; rfl) h
      · exact absurd (by rw [v4, c2]; rfl) h2
      · rw [if_neg (by omega), if_neg (by omega)] at hq
        obtain ⟨y1, y2, -, -⟩ := rem3 y (by omega)
        obtain ⟨-, -, x3, x4⟩ := rem3 x (by omega)
        have e4 : 4 * iN s + 2 * (iN y / 3) + iN x / 4 = iN (4 * s + 2 * (y / 3) + x / 4) := by
          have a1 : 4 * iN s = iN (4 * s) := iN_mul 4 s
          have a2 : 2 * iN (y / 3) = iN (2 * (y / 3)) := iN_mul 2 (y / 3)
          rw [y2, x3, a1, a2, iN_add, iN_add]
        refine z_C.go 21 rfl ?_
        rw [e4, y1, x4]
        refine z_C.call rfl rfl (m_pixelOf (p := 4 * s + 2 * (y / 3) + x / 4) (y := y % 3) (x := x % 4) (Q := fun w' r => w' = v ∧ r = some (zI (nPix P (a 8) (4 * s + 2 * (y / 3) + x / 4) (y % 3) (x % 4)))) hj hk (by omega) (by omega) (by omega) ⟨rfl, rfl⟩) (fun w' r h => ?_)
        obtain ⟨rfl, rfl⟩ := h
        exact z_C.ret rfl rfl hq
theorem m_shs {k nx : Nat} {a : Nat → Nat} {P : Nat → Int32} {v : z_W} {Q : z_W → Option z_V → Prop} (hj : aJob a nx) (hk : mK k a P v) (hq : Q v (some (zI (iN (nC a))))) : mRun kX_sheetsOf (0, [some (zR 0 0), some (zI (iN k))], [], v) Q := by
  obtain ⟨hk1, hk2, hk3⟩ := hk
  have f5 : v.1 2 0 (10 * k + 4) = iN (a 5) := hk2 5 (by decide) (by decide)
  have f6 : v.1 2 0 (10 * k + 5) = iN (a 6) := hk2 6 (by decide) (by decide)
  have f7 : v.1 2 0 (10 * k + 6) = iN (a 7) := hk2 7 (by decide) (by decide)
  have f8 : v.1 2 0 (10 * k + 7) = iN (a 8) := hk2 8 (by decide) (by decide)
  have h5 := hj.2.2.2.2.1
  refine m_sheetsOf (by omega) (by rw [f5]; exact fun h => by have := (iN_inj (b := 0) (by omega) (by decide)).mp h; omega) ?_
  rw [f5, f6, f7, f8, hj.copy.2.1]
  exact hq
theorem m_book {k s bk y x nx : Nat} {a : Nat → Nat} {P : Nat → Int32} {v : z_W} {Q : z_W → Option z_V → Prop} (hj : aJob a nx) (hk : mK k a P v) (hs : s < nC a) (hbk : bk = 0 ∨ bk = 1) (hy : y ≤ 3) (hx : x < 6) (hq : Q v (some (zI (nBook P (a 8) (nC a) s bk y x)))) :
    mRun kX_booklet (0, [some (zR 0 0), some (zI (iN k)), some (zI (iN s)), some (zI (iN bk)), some (zI (iN y)), some (zI (iN x)), none], [], v) Q := by
  have hN : nC a ≤ 6 := hj.copy.2.2.2
  have e2 : 2 * iN s = iN (2 * s) := iN_mul 2 s
  have e4 : 4 * iN (nC a) = iN (4 * nC a) := iN_mul 4 (nC a)
  unfold nBook at hq
  refine z_C.go 3 rfl ?_
  refine z_C.call rfl rfl (m_shs (Q := fun w' r => w' = v ∧ r = some (zI (iN (nC a)))) hj hk ⟨rfl, rfl⟩) (fun w' r h => ?_)
  obtain ⟨rfl, rfl⟩ := h
  rcases hbk with rfl | rfl
  · rw [if_pos rfl] at hq
    have e1 : 4 * iN (nC a) - 2 * iN s - 1 = iN (4 * nC a - 2 * s - 1) := by rw [e4, e2, iN_sub (by omega)]; exact iN_sub (b := 1) (by omega)
    refine z_C.go 18 rfl ?_
    rw [e1, e2]
    refine z_C.call rfl rfl (m_pair (p := 4 * nC a - 2 * s - 1) (q := 2 * s) (y := y) (x := x) (Q := fun w2 r => w2 = w' ∧ r = some (zI (nPair P (a 8) (4 * nC a - 2 * s - 1) (2 * s) y x))) hj hk (by omega) (by omega) hy hx ⟨rfl, rfl⟩) (fun w2 r h => ?_)
    obtain ⟨rfl, rfl⟩ := h
    exact z_C.ret rfl rfl hq
  · rw [if_neg (by decide)] at hq
    have e1 : 4 * iN (nC a) - 2 * iN s - 2 = iN (4 * nC a - 2 * s - 2) := by rw [e4, e2, iN_sub (by omega)]; exact iN_sub (b := 2) (by omega)
    have e3 : 2 * iN s + 1 = iN (2 * s + 1) := by rw [e2]; exact iN_add (2 * s) 1
    refine z_C.go 20 rfl ?_
    rw [e1, e3]
    refine z_C.call rfl rfl (m_pair (p := 2 * s + 1) (q := 4 * nC a - 2 * s - 2) (y := y) (x := x) (Q := fun w2 r => w2 = w' ∧ r = some (zI (nPair P (a 8) (2 * s + 1) (4 * nC a - 2 * s - 2) y x))) hj hk (by omega) (by omega) hy hx ⟨rfl, rfl⟩) (fun w2 r h => ?_)
    obtain ⟨rfl, rfl⟩ := h
    refine z_C.go 1 rfl ?_
    exact z_C.ret rfl rfl hq
