/-! the reference fills a side: pixel by pixel -/
theorem m_px {k s bk r c nx sort book : Nat} {a : Nat → Nat} {P : Nat → Int32} {v : z_W} {Q : z_W → Option z_V → Prop} {y0 y1 y2 y3 : Option z_V} (hj : aJob a nx) (hk : mK k a P v) (hs : s < nC a) (hbk : bk = 0 ∨ bk = 1) (hb0 : a 6 = 0 → a 7 = 0 → bk = 0) (hr : r < nH a) (hc : c < nW a) (hso : a 6 = sort) (hbo : a 7 = book)
    (K : ∀ x0 x1 x2 x3, mRun kX_face (49, [some (zR 0 0), some (zI (iN k)), some (zI (iN s)), some (zI (iN bk)), some (zI (iN (nW a))), some (zI (iN (nH a))), some (zI (iN book)), some (zI (iN sort)), some (zI (iN r)), some (zI (iN (c + 1))), x0, x1, x2, x3], [], z_si v 7 0 (nW a * r + c) (nFv a P s bk r c)) Q) :
    mRun kX_face (49, [some (zR 0 0), some (zI (iN k)), some (zI (iN s)), some (zI (iN bk)), some (zI (iN (nW a))), some (zI (iN (nH a))), some (zI (iN book)), some (zI (iN sort)), some (zI (iN r)), some (zI (iN c)), y0, y1, y2, y3], [], v) Q := by
  have hN : nC a ≤ 6 := hj.copy.2.2.2
  have hWH : nW a ≤ 8 ∧ nH a ≤ 6 := by rcases nWH hj with h | h | h | h <;> omega
  have h6 := hj.2.2.2.2.2.1
  have h7 := hj.2.2.2.2.2.2.1
  have hbook : a 7 = 1 → nW a = 6 ∧ nH a = 4 := fun h => by rcases nWH hj with h9 | h9 | h9 | h9 <;> omega
  have pos : nW a * r + c < 48 := by
    have := ix48 (y := r) (W := nW a) (x := c) (by omega) hWH.1 hc
    rw [Nat.mul_comm]
    exact this
  have ep : iN (nW a) * iN r + iN c = iN (nW a * r + c) := by rw [iN_mul, iN_add]
  have ip : z_in (iN (nW a) * iN r + iN c) 48 = true := by rw [ep]; exact iN_in pos (by omega)
  have np : (iN (nW a) * iN r + iN c).toNatClampNeg = nW a * r + c := by rw [ep]; exact iN_nat (by omega)
  have e2 : 2 * iN s = iN (2 * s) := iN_mul 2 s
  have e20 : 2 * iN s + 0 = iN (2 * s + 0) := by rw [e2]; exact iN_add (2 * s) 0
  have e21 : 2 * iN s + 1 = iN (2 * s + 1) := by rw [e2]; exact iN_add (2 * s) 1
  have ei : iN (nH a) - 1 - iN r = iN (nH a - 1 - r) := by rw [show iN (nH a) - 1 = iN (nH a - 1) from iN_sub (b := 1) (by omega)]; exact iN_sub (by omega)
  have ej : iN (nW a) - 1 - iN c = iN (nW a - 1 - c) := by rw [show iN (nW a) - 1 = iN (nW a - 1) from iN_sub (b := 1) (by omega)]; exact iN_sub (by omega)
  rw [← iN_add c 1, ← np] at K
  have hwc : ¬ iN (nW a) ≤ iN c := fun h => by have := (iN_le (by omega) (by omega)).mp h; omega
  have hso2 : sort = 0 ∨ sort = 1 ∨ sort = 2 := by omega
  have hbo2 : book = 0 ∨ book = 1 := by omega
  unfold nFv nF0 at K
  rcases hbo2 with rfl | rfl
  · rcases hso2 with rfl | rfl | rfl
    · rcases hbk with rfl | rfl
      · rw [if_neg (show ¬ (0 = 1 ∧ a 6 = 2 ∧ a 7 = 0) by omega)] at K
        rw [if_neg (show ¬ a 7 = 1 by omega)] at K
        rw [if_pos hso] at K
        exact px_000 hwc ip (by exact m_plain (s := s) (y := r) (x := c) hj hk hbo (by omega) hr hc ⟨rfl, rfl⟩) K
      · exact absurd (hb0 hso hbo) (by decide)
    · rcases hbk with rfl | rfl
      · rw [if_neg (show ¬ (0 = 1 ∧ a 6 = 2 ∧ a 7 = 0) by omega)] at K
        rw [if_neg (show ¬ a 7 = 1 by omega)] at K
        rw [if_neg (show ¬ a 6 = 0 by omega)] at K
        exact px_010 hwc ip (by rw [e20]; exact m_plain (s := (2 * s + 0)) (y := r) (x := c) hj hk hbo (by omega) hr hc ⟨rfl, rfl⟩) K
      · rw [if_neg (show ¬ (1 = 1 ∧ a 6 = 2 ∧ a 7 = 0) by omega)] at K
        rw [if_neg (show ¬ a 7 = 1 by omega)] at K
        rw [if_neg (show ¬ a 6 = 0 by omega)] at K
        exact px_110 hwc ip (by rw [e21]; exact m_plain (s := (2 * s + 1)) (y := r) (x := c) hj hk hbo (by omega) hr hc ⟨rfl, rfl⟩) K
    · rcases hbk with rfl | rfl
      · rw [if_neg (show ¬ (0 = 1 ∧ a 6 = 2 ∧ a 7 = 0) by omega)] at K
        rw [if_neg (show ¬ a 7 = 1 by omega)] at K
        rw [if_neg (show ¬ a 6 = 0 by omega)] at K
        exact px_020 hwc ip (by rw [e20]; exact m_plain (s := (2 * s + 0)) (y := r) (x := c) hj hk hbo (by omega) hr hc ⟨rfl, rfl⟩) K
      · rw [if_pos (show 1 = 1 ∧ a 6 = 2 ∧ a 7 = 0 from ⟨rfl, hso, hbo⟩)] at K
        rw [if_neg (show ¬ a 7 = 1 by omega)] at K
        rw [if_neg (show ¬ a 6 = 0 by omega)] at K
        exact px_120 hwc ip (by rw [e21, ei, ej]; exact m_plain (s := (2 * s + 1)) (y := (nH a - 1 - r)) (x := (nW a - 1 - c)) hj hk hbo (by omega) (by omega) (by omega) ⟨rfl, rfl⟩) K
  · rcases hso2 with rfl | rfl | rfl
    · rcases hbk with rfl | rfl
      · rw [if_neg (show ¬ (0 = 1 ∧ a 6 = 2 ∧ a 7 = 0) by omega)] at K
        rw [if_pos hbo] at K
        exact px_001 hwc ip (m_book (s := s) (bk := 0) (y := r) (x := c) hj hk hs (by omega) (by have := hbook hbo; omega) (by have := hbook hbo; omega) ⟨rfl, rfl⟩) K
      · rw [if_neg (show ¬ (1 = 1 ∧ a 6 = 2 ∧ a 7 = 0) by omega)] at K
        rw [if_pos hbo] at K
        exact px_101 hwc ip (m_book (s := s) (bk := 1) (y := r) (x := c) hj hk hs (by omega) (by have := hbook hbo; omega) (by have := hbook hbo; omega) ⟨rfl, rfl⟩) K
    · rcases hbk with rfl | rfl
      · rw [if_neg (show ¬ (0 = 1 ∧ a 6 = 2 ∧ a 7 = 0) by omega)] at K
        rw [if_pos hbo] at K
        exact px_011 hwc ip (m_book (s := s) (bk := 0) (y := r) (x := c) hj hk hs (by omega) (by have := hbook hbo; omega) (by have := hbook hbo; omega) ⟨rfl, rfl⟩) K
      · rw [if_neg (show ¬ (1 = 1 ∧ a 6 = 2 ∧ a 7 = 0) by omega)] at K
        rw [if_pos hbo] at K
        exact px_111 hwc ip (m_book (s := s) (bk := 1) (y := r) (x := c) hj hk hs (by omega) (by have := hbook hbo; omega) (by have := hbook hbo; omega) ⟨rfl, rfl⟩) K
    · rcases hbk with rfl | rfl
      · rw [if_neg (show ¬ (0 = 1 ∧ a 6 = 2 ∧ a 7 = 0) by omega)] at K
        rw [if_pos hbo] at K
        exact px_021 hwc ip (m_book (s := s) (bk := 0) (y := r) (x := c) hj hk hs (by omega) (by have := hbook hbo; omega) (by have := hbook hbo; omega) ⟨rfl, rfl⟩) K
      · rw [if_neg (show ¬ (1 = 1 ∧ a 6 = 2 ∧ a 7 = 0) by omega)] at K
        rw [if_pos hbo] at K
        exact px_121 hwc ip (m_book (s := s) (bk := 1) (y := r) (x := c) hj hk hs (by omega) (by have := hbook hbo; omega) (by have := hbook hbo; omega) ⟨rfl, rfl⟩) K
/-- one row of pixels, and all rows -/
theorem m_f49 {k s bk r nx : Nat} {a : Nat → Nat} {P : Nat → Int32} {v0 : z_W} {Q : z_W → Option z_V → Prop} (hj : aJob a nx) (hk : mK k a P v0) (hs : s < nC a) (hbk : bk = 0 ∨ bk = 1) (hb0 : a 6 = 0 → a 7 = 0 → bk = 0) (hr : r < nH a)
    (K : ∀ v x0 x1 x2 x3 x4, fr7 v0 v → (∀ q, q < nW a * (r + 1) → v.1 7 0 q = nFace a P s bk q) → mRun kX_face (39, [some (zR 0 0), some (zI (iN k)), some (zI (iN s)), some (zI (iN bk)), some (zI (iN (nW a))), some (zI (iN (nH a))), some (zI (iN (a 7))), some (zI (iN (a 6))), some (zI (iN (r + 1))), x0, x1, x2, x3, x4], [], v) Q) :
    ∀ (d c : Nat) (v : z_W) (y0 y1 y2 y3 : Option z_V), c + d = nW a → fr7 v0 v → (∀ q, q < nW a * r + c → v.1 7 0 q = nFace a P s bk q) → mRun kX_face (49, [some (zR 0 0), some (zI (iN k)), some (zI (iN s)), some (zI (iN bk)), some (zI (iN (nW a))), some (zI (iN (nH a))), some (zI (iN (a 7))), some (zI (iN (a 6))), some (zI (iN r)), some (zI (iN c)), y0, y1, y2, y3], [], v) Q := by
  have hWH : nW a ≤ 8 ∧ nH a ≤ 6 ∧ 1 ≤ nW a := by rcases nWH hj with h | h | h | h <;> omega
  intro d
  induction d with
  | zero =>
    intro c v y0 y1 y2 y3 hc hf hv
    refine z_C.go 3 rfl ?_
    refine z_C.if (fun h => ?_) (fun h => absurd ((iN_le (by omega) (by omega)).mpr (by omega)) h)
    refine z_C.go 2 rfl ?_
    have k9 := K v (some (zI (iN c))) y0 y1 y2 y3 hf (by rw [Nat.mul_add, Nat.mul_one]; intro q hq; exact hv q (by omega))
    rw [← iN_add r 1] at k9
    exact k9
  | succ d ih =>
    intro c v y0 y1 y2 y3 hc hf hv
    have hk' : mK k a P v := hk.fr (fun g i k hg => hf.2 g i k (by omega))
    refine m_px hj hk' hs hbk hb0 hr (by omega) rfl rfl (fun x0 x1 x2 x3 => ?_)
    refine ih (c + 1) _ x0 x1 x2 x3 (by omega) ⟨hf.1, fun g i k hg => (if_neg (fun h => hg h.1)).trans (hf.2 g i k hg)⟩ (fun q hq => ?_)
    show (if 7 = 7 ∧ 0 = 0 ∧ q = nW a * r + c then nFv a P s bk r c else v.1 7 0 q) = _
    by_cases e : q = nW a * r + c
    · rw [if_pos ⟨rfl, rfl, e⟩, e]
      unfold nFace
      rw [Nat.mul_add_div (by omega), Nat.mul_add_mod, Nat.div_eq_of_lt (show c < nW a by omega), Nat.mod_eq_of_lt (show c < nW a by omega), Nat.add_zero]
    · rw [if_neg (fun h => e h.2.2)]
      exact hv q (by omega)
theorem m_f39 {k s bk nx : Nat} {a : Nat → Nat} {P : Nat → Int32} {v0 : z_W} {Q : z_W → Option z_V → Prop} (hj : aJob a nx) (hk : mK k a P v0) (hs : s < nC a) (hbk : bk = 0 ∨ bk = 1) (hb0 : a 6 = 0 → a 7 = 0 → bk = 0)
    (K : ∀ v x0 x1 x2 x3 x4, fr7 v0 v → (∀ q, q < nW a * nH a → v.1 7 0 q = nFace a P s bk q) → mRun kX_face (198, [some (zR 0 0), some (zI (iN k)), some (zI (iN s)), some (zI (iN bk)), some (zI (iN (nW a))), some (zI (iN (nH a))), some (zI (iN (a 7))), some (zI (iN (a 6))), some (zI (iN 0)), x0, x1, x2, x3, x4], [], v) Q) :
    ∀ (d r : Nat) (v : z_W) (y0 y1 y2 y3 y4 : Option z_V), r + d = nH a → fr7 v0 v → (∀ q, q < nW a * r → v.1 7 0 q = nFace a P s bk q) → mRun kX_face (39, [some (zR 0 0), some (zI (iN k)), some (zI (iN s)), some (zI (iN bk)), some (zI (iN (nW a))), some (zI (iN (nH a))), some (zI (iN (a 7))), some (zI (iN (a 6))), some (zI (iN r)), y0, y1, y2, y3, y4], [], v) Q := by
  have hWH : nW a ≤ 8 ∧ nH a ≤ 6 := by rcases nWH hj with h | h | h | h <;> omega
  intro d
  induction d with
  | zero =>
    intro r v y0 y1 y2 y3 y4 hr hf hv
    refine z_C.go 3 rfl ?_
    refine z_C.if (fun h => ?_) (fun h => absurd ((iN_le (by omega) (by omega)).mpr (by omega)) h)
    refine z_C.go 2 rfl ?_
    exact K v y0 y1 y2 y3 y4 hf (by rw [← show r = nH a by omega]; exact hv)
  | succ d ih =>
    intro r v y0 y1 y2 y3 y4 hr hf hv
    have hk' : mK k a P v := hk.fr (fun g i k hg => hf.2 g i k (by omega))
    refine z_C.go 3 rfl ?_
    refine z_C.if (fun h => absurd ((iN_le (by omega) (by omega)).mp h) (by omega)) (fun _ => ?_)
    refine z_C.go 2 rfl ?_
    exact m_f49 (v0 := v) hj hk' hs hbk hb0 (by omega) (fun v' x0 x1 x2 x3 x4 hf' hv' => ih (r + 1) v' x0 x1 x2 x3 x4 (by omega) ⟨hf'.1.trans hf.1, fun g i k hg => (hf'.2 g i k hg).trans (hf.2 g i k hg)⟩ hv') (nW a) 0 v y1 y2 y3 y4 (by omega) ⟨rfl, fun _ _ _ _ => rfl⟩ (fun q hq => hv q (by omega))
/-! what is written depends on the side's own pixels alone -/
theorem eqN_cg {f g : Nat → Int32} {a B : Nat} (h : ∀ q, q < B → f q = g q) : ∀ d n, a + n + d ≤ B → a < B → eqN f a d n = eqN g a d n := by
  intro d
  induction d with
  | zero => intro n _ _; rfl
  | succ d ih =>
    intro n h1 h2
    unfold eqN
    rw [h (a + n) (by omega), h a h2, ih (n + 1) (by omega) h2]
theorem unN_cg {f g : Nat → Int32} {a B : Nat} (h : ∀ q, q < B → f q = g q) : ∀ d n, a + n + d ≤ B → unN f a d n = unN g a d n := by
  intro d
  induction d with
  | zero => intro n _; rfl
  | succ d ih =>
    intro n h1
    match d, ih, h1 with
    | 0, _, _ => rfl
    | d + 1, ih, h1 =>
      unfold unN
      rw [h (a + n) (by omega), h (a + n + 1) (by omega), ih (n + 1) (by omega)]
theorem rngL_cg {f g : Nat → Int32} {B : Nat} (h : ∀ q, q < B → f q = g q) : ∀ n a, a + n ≤ B → rngL f a n = rngL g a n := by
  intro n
  induction n with
  | zero => intro a _; rfl
  | succ n ih =>
    intro a h1
    unfold rngL
    rw [h a (by omega), ih (a + 1) (by omega)]
theorem rowE_cg {f g : Nat → Int32} {B : Nat} (h : ∀ q, q < B → f q = g q) : ∀ u m a, a + m ≤ B → rowE f u m a = rowE g u m a := by
  intro u
  induction u with
  | zero => intro m a _; rfl
  | succ u ih =>
    intro m a h1
    unfold rowE
    by_cases h0 : m = 0
    · rw [if_pos h0, if_pos h0]
    · rw [if_neg h0, if_neg h0]
      have e1 := eqN_b g a (m - 1) 1
      have e2 := unN_b g a (m - 1) 1
      rw [eqN_cg h (m - 1) 1 (by omega) (by omega), unN_cg h (m - 1) 1 (by omega), h a (by omega), ih _ (a + eqN g a (m - 1) 1) (by omega), ih _ (a + unN g a (m - 1) 1) (by omega), rngL_cg h _ a (by omega)]
theorem alkF_cg {f g : Nat → Int32} {a b B : Nat} (h : ∀ q, q < B → f q = g q) : ∀ d x, a + x + d ≤ B → b + x + d ≤ B → alkF f a b d x = alkF g a b d x := by
  intro d
  induction d with
  | zero => intro x _ _; rfl
  | succ d ih =>
    intro x h1 h2
    unfold alkF
    rw [h (a + x) (by omega), h (b + x) (by omega), ih (x + 1) (by omega) (by omega)]
theorem rowB {W H y : Nat} (h : y < H) : y * W + W ≤ H * W := by
  have h1 : (y + 1) * W ≤ H * W := Nat.mul_le_mul_right _ h
  rw [Nat.add_mul, Nat.one_mul] at h1
  exact h1
theorem eqRN_cg {f g : Nat → Int32} {W H y : Nat} (h : ∀ q, q < H * W → f q = g q) : ∀ d n, y + n + d ≤ H → y < H → eqRN f W y d n = eqRN g W y d n := by
  intro d
  induction d with
  | zero => intro n _ _; rfl
  | succ d ih =>
    intro n h1 h2
    unfold eqRN
    have b1 := rowB (W := W) h2
    have b2 := rowB (W := W) (show y + n < H by omega)
    rw [alkF_cg h W 0 (by omega) (by omega), ih (n + 1) (by omega) h2]
theorem sideE_cg {f g : Nat → Int32} {W H : Nat} (h : ∀ q, q < H * W → f q = g q) : ∀ u m y, y + m ≤ H → sideE f W u m y = sideE g W u m y := by
  intro u
  induction u with
  | zero => intro m y _; rfl
  | succ u ih =>
    intro m y h1
    unfold sideE
    by_cases h0 : m = 0
    · rw [if_pos h0, if_pos h0]
    · rw [if_neg h0, if_neg h0]
      have e1 := eqRN_b g W y (m - 1) 1
      rw [eqRN_cg h (m - 1) 1 (by omega) (by omega), rowE_cg h W W (y * W) (rowB (by omega)), ih _ (y + eqRN g W y (m - 1) 1) (by omega)]
/-- the bytes of one side -/
def faceE (a : Nat → Nat) (P : Nat → Int32) (s bk : Nat) : List Int32 := sideE (nFace a P s bk) (nW a) (nH a) (nH a) 0
theorem faceE_of {a : Nat → Nat} {P f : Nat → Int32} {s bk : Nat} (h : ∀ q, q < nW a * nH a → f q = nFace a P s bk q) : sideE f (nW a) (nH a) (nH a) 0 = faceE a P s bk :=
  sideE_cg (H := nH a) (by rw [Nat.mul_comm]; exact h) _ _ _ (by omega)
theorem faceE_len {a : Nat → Nat} {P : Nat → Int32} {s bk nx : Nat} (hj : aJob a nx) : (faceE a P s bk).length ≤ 102 := by
  have := sideE_len (nFace a P s bk) (nW a) (nH a) (nH a) 0
  refine Nat.le_trans this ?_
  rcases nWH hj with ⟨-, -, h1, h2⟩ | ⟨-, -, h1, h2⟩ | ⟨-, -, h1, h2⟩ | ⟨-, -, h1, h2⟩ <;> rw [h1, h2] <;> decide
theorem m_face {k s bk nx L : Nat} {a : Nat → Nat} {P : Nat → Int32} {v : z_W} {Q : z_W → Option z_V → Prop} (hj : aJob a nx) (hk : mK k a P v) (hs : s < nC a) (hbk : bk = 0 ∨ bk = 1) (hb0 : a 6 = 0 → a 7 = 0 → bk = 0) (hL : v.1 0 0 25 = iN L) (hc : L + 102 ≤ 300)
    (K : ∀ v', fr7 v v' → Q (mApp 6 25 (faceE a P s bk) v') none) : mRun kX_face (0, [some (zR 0 0), some (zI (iN k)), some (zI (iN s)), some (zI (iN bk)), some (zI (iN (nW a))), some (zI (iN (nH a))), none, none, none, none, none, none, none, none], [], v) Q := by
  have hk' := hk
  obtain ⟨hk1, hk2, hk3⟩ := hk'
  obtain ⟨-, i6, n6⟩ := j_ix (k := k) (f := 6) (by omega) (by decide)
  obtain ⟨-, i5, n5⟩ := j_ix (k := k) (f := 5) (by omega) (by decide)
  have v6 : v.1 2 0 (10 * iN k + iN 6).toNatClampNeg = iN (a 7) := by rw [n6]; exact hk2 7 (by decide) (by decide)
  have v5 : v.1 2 0 (10 * iN k + iN 5).toNatClampNeg = iN (a 6) := by rw [n5]; exact hk2 6 (by decide) (by decide)
  have hWH : nW a ≤ 8 ∧ nH a ≤ 6 ∧ nH a * (2 * nW a + 1) ≤ 102 := by
    rcases nWH hj with ⟨-, -, h1, h2⟩ | ⟨-, -, h1, h2⟩ | ⟨-, -, h1, h2⟩ | ⟨-, -, h1, h2⟩ <;> rw [h1, h2] <;> decide
  have h7 := hj.2.2.2.2.2.2.1
  have fin : mRun kX_face (39, [some (zR 0 0), some (zI (iN k)), some (zI (iN s)), some (zI (iN bk)), some (zI (iN (nW a))), some (zI (iN (nH a))), some (zI (iN (a 7))), some (zI (iN (a 6))), some (zI (iN 0)), none, none, none, none, none], [], v) Q := by
    refine m_f39 hj hk hs hbk hb0 (fun v' x0 x1 x2 x3 x4 hf hv => ?_) (nH a) 0 v none none none none none (by omega) ⟨rfl, fun _ _ _ _ => rfl⟩ (fun q hq => absurd hq (by omega))
    refine m_f198 (f := v'.1 7 0) hWH.1 hWH.2.1 (nH a) (nH a) 0 L v' x0 (by omega) (Nat.le_refl _) (fun q hq => rfl) ((hf.2 0 0 25 (by decide)).trans hL) (by omega) ?_
    rw [faceE_of hv]
    exact K v' hf
  refine z_C.go 7 rfl ?_
  refine z_C.ld rfl (if_pos ⟨rfl, i6⟩) v6 ?_
  refine z_C.go 2 rfl ?_
  refine z_C.if (fun h => ?_) (fun h => ?_)
  · have h1 : a 7 = 1 := (iN_inj (b := 1) (by omega) (by decide)).mp h
    rw [h1] at fin
    refine z_C.go 10 rfl ?_
    refine z_C.ld rfl (if_pos ⟨rfl, i5⟩) v5 ?_
    refine z_C.go 3 rfl ?_
    exact fin
  · have h1 : a 7 = 0 := by
      have : ¬ a 7 = 1 := fun h9 => h (by rw [h9]; rfl)
      omega
    rw [h1] at fin
    refine z_C.go 9 rfl ?_
    refine z_C.ld rfl (if_pos ⟨rfl, i5⟩) v5 ?_
    refine z_C.go 3 rfl ?_
    exact fin
