/-! bytes that are appended; how a side is written down -/
def bApp (b : Nat) : List Int32 → z_W → z_W
  | [], w => w
  | x :: l, w => bApp b l (bAdd b x w)
def mAp1 (g f : Nat) (x : Int32) (v : z_W) : z_W := z_si (z_si v g 0 (v.1 0 0 f).toNatClampNeg x) 0 0 f (v.1 0 0 f + 1)
def mApp (g f : Nat) : List Int32 → z_W → z_W
  | [], v => v
  | x :: l, v => mApp g f l (mAp1 g f x v)
theorem bApp_app (b : Nat) : ∀ (l l' : List Int32) (w : z_W), bApp b (l ++ l') w = bApp b l' (bApp b l w) := by
  intro l
  induction l with
  | nil => intro l' w; rfl
  | cons x l ih => intro l' w; exact ih l' (bAdd b x w)
theorem mApp_app (g f : Nat) : ∀ (l l' : List Int32) (v : z_W), mApp g f (l ++ l') v = mApp g f l' (mApp g f l v) := by
  intro l
  induction l with
  | nil => intro l' v; rfl
  | cons x l ih => intro l' v; exact ih l' (mAp1 g f x v)
theorem bAdd_fr {b : Nat} {x : Int32} {w : z_W} : (bAdd b x w).2 = w.2 ∧ ∀ g i k, ¬ (i = b ∧ ((g = 1 ∧ k = 1) ∨ g = 2)) → (bAdd b x w).1 g i k = w.1 g i k := by
  unfold bAdd
  split
  · exact ⟨rfl, fun g i k hg => (if_neg (fun h => hg ⟨h.2.1, Or.inl ⟨h.1, h.2.2⟩⟩)).trans (if_neg (fun h => hg ⟨h.2.1, Or.inr h.1⟩))⟩
  · exact ⟨rfl, fun _ _ _ _ => rfl⟩
theorem bApp_fr {b : Nat} : ∀ (l : List Int32) (w : z_W), (bApp b l w).2 = w.2 ∧ ∀ g i k, ¬ (i = b ∧ ((g = 1 ∧ k = 1) ∨ g = 2)) → (bApp b l w).1 g i k = w.1 g i k := by
  intro l
  induction l with
  | nil => intro w; exact ⟨rfl, fun _ _ _ _ => rfl⟩
  | cons x l ih =>
    intro w
    obtain ⟨h1, h2⟩ := ih (bAdd b x w)
    obtain ⟨h3, h4⟩ := bAdd_fr (b := b) (x := x) (w := w)
    exact ⟨h1.trans h3, fun g i k hg => (h2 g i k hg).trans (h4 g i k hg)⟩
theorem mApp_fr {g f : Nat} : ∀ (l : List Int32) (v : z_W), (mApp g f l v).2 = v.2 ∧ ∀ g' i k, ¬ (g' = 0 ∧ i = 0 ∧ k = f) → ¬ (g' = g ∧ i = 0) → (mApp g f l v).1 g' i k = v.1 g' i k := by
  intro l
  induction l with
  | nil => intro v; exact ⟨rfl, fun _ _ _ _ _ => rfl⟩
  | cons x l ih =>
    intro v
    obtain ⟨h1, h2⟩ := ih (mAp1 g f x v)
    refine ⟨h1, fun g' i k hg hg2 => (h2 g' i k hg hg2).trans ?_⟩
    exact (if_neg hg).trans (if_neg (fun h => hg2 ⟨h.1, h.2.1⟩))
theorem bAdd_in {b n : Nat} {x : Int32} {w : z_W} (hn : w.1 1 b 1 = iN n) (hc : n < sCl 2 b) : bAdd b x w = z_si (z_si w 2 b n (x &&& 255)) 1 b 1 (iN (n + 1)) := by
  have h5 := sCl_2 b
  unfold bAdd
  rw [if_pos (by rw [hn]; exact (iN_lt (by omega) (by omega)).mpr hc), hn, iN_nat (by omega)]
  rw [← iN_add n 1]
  rfl
theorem bAdd_lenI {b n : Nat} {x : Int32} {w : z_W} (hn : w.1 1 b 1 = iN n) (hc : n < sCl 2 b) : (bAdd b x w).1 1 b 1 = iN (n + 1) := by
  rw [bAdd_in hn hc]
  exact if_pos ⟨rfl, rfl, rfl⟩
theorem bApp_len {b : Nat} : ∀ (l : List Int32) (n : Nat) (w : z_W), w.1 1 b 1 = iN n → n + l.length ≤ sCl 2 b → (bApp b l w).1 1 b 1 = iN (n + l.length) := by
  intro l
  induction l with
  | nil => intro n w h _; exact h
  | cons x l ih =>
    intro n w h hc
    have hl : (x :: l).length = l.length + 1 := rfl
    rw [hl] at hc ⊢
    have := ih (n + 1) (bAdd b x w) (bAdd_lenI h (by omega)) (by omega)
    rw [show n + (l.length + 1) = n + 1 + l.length by omega]
    exact this
theorem mAp1_len {g f n : Nat} {x : Int32} {v : z_W} (h : v.1 0 0 f = iN n) : (mAp1 g f x v).1 0 0 f = iN (n + 1) := by
  refine (if_pos ⟨rfl, rfl, rfl⟩).trans ?_
  rw [h]
  exact iN_add n 1
theorem mApp_len {g f : Nat} : ∀ (l : List Int32) (n : Nat) (v : z_W), v.1 0 0 f = iN n → (mApp g f l v).1 0 0 f = iN (n + l.length) := by
  intro l
  induction l with
  | nil => intro n v h; exact h
  | cons x l ih =>
    intro n v h
    have := ih (n + 1) (mAp1 g f x v) (mAp1_len h)
    have hl : n + (x :: l).length = n + 1 + l.length := by show n + (l.length + 1) = _; omega
    rw [hl]
    exact this
/-- a row that grows on both sides -/
def rB (b g f a : Nat) (w v : z_W) : Prop := w.1 1 b 1 = iN a ∧ v.1 0 0 f = iN a ∧ ∀ k, k < a → w.1 2 b k = v.1 g 0 k
theorem app_rel {b g f : Nat} (hg : ¬ g = 0) : ∀ (l : List Int32) (a : Nat) (w v : z_W), rB b g f a w v → a + l.length ≤ sCl 2 b → (∀ x ∈ l, x &&& 255 = x) → rB b g f (a + l.length) (bApp b l w) (mApp g f l v) := by
  intro l
  induction l with
  | nil => intro a w v h _ _; exact h
  | cons x l ih =>
    intro a w v h hc hx
    have h5 := sCl_2 b
    have hl : a + (x :: l).length = a + 1 + l.length := by show a + (l.length + 1) = _; omega
    rw [hl] at hc ⊢
    refine ih (a + 1) (bAdd b x w) (mAp1 g f x v) ?_ hc (fun y hy => hx y (List.mem_cons_of_mem _ hy))
    obtain ⟨h1, h2, h3⟩ := h
    refine ⟨bAdd_lenI h1 (by omega), mAp1_len h2, fun k hk => ?_⟩
    rw [bAdd_in h1 (by omega)]
    have e1 : (z_si (z_si w 2 b a (x &&& 255)) 1 b 1 (iN (a + 1))).1 2 b k = if k = a then x &&& 255 else w.1 2 b k := by
      show (if 2 = 2 ∧ b = b ∧ k = a then x &&& 255 else w.1 2 b k) = _
      simp only [true_and]
    have e2 : (mAp1 g f x v).1 g 0 k = if k = a then x else v.1 g 0 k := by
      refine (if_neg (fun h => absurd h.1 hg)).trans ?_
      rw [h2, iN_nat (by omega)]
      show (if g = g ∧ 0 = 0 ∧ k = a then _ else _) = _
      simp only [true_and]
    rw [e1, e2]
    by_cases e : k = a
    · rw [if_pos e, if_pos e]
      exact hx x List.mem_cons_self
    · rw [if_neg e, if_neg e]
      exact h3 k (by omega)
theorem rB.buf {b g f a cap : Nat} {w v : z_W} (h : rB b g f a w v) (hc : a ≤ cap) : rBuf b g f cap w v := ⟨a, hc, h.1, Or.inl h.2.1, h.2.2⟩
/-! runs of pixels and of rows -/
def eqN (f : Nat → Int32) (a : Nat) : Nat → Nat → Nat
  | 0, n => n
  | d + 1, n => if f (a + n) = f a then eqN f a d (n + 1) else n
def unN (f : Nat → Int32) (a : Nat) : Nat → Nat → Nat
  | 0, n => n
  | 1, n => n + 1
  | d + 2, n => if f (a + n) = f (a + n + 1) then n else unN f a (d + 1) (n + 1)
def rngL (f : Nat → Int32) : Nat → Nat → List Int32
  | _, 0 => []
  | a, n + 1 => f a :: rngL f (a + 1) n
def rowE (f : Nat → Int32) : Nat → Nat → Nat → List Int32
  | 0, _, _ => []
  | u + 1, m, a => if m = 0 then [] else if 1 < eqN f a (m - 1) 1 then iN (eqN f a (m - 1) 1 - 1) :: f a :: rowE f u (m - eqN f a (m - 1) 1) (a + eqN f a (m - 1) 1)
    else (if unN f a (m - 1) 1 = 1 then 0 else iN (257 - unN f a (m - 1) 1)) :: (rngL f a (unN f a (m - 1) 1) ++ rowE f u (m - unN f a (m - 1) 1) (a + unN f a (m - 1) 1))
def alkF (f : Nat → Int32) (a b : Nat) : Nat → Nat → Bool
  | 0, _ => true
  | d + 1, x => if f (a + x) = f (b + x) then alkF f a b d (x + 1) else false
def eqRN (f : Nat → Int32) (W y : Nat) : Nat → Nat → Nat
  | 0, n => n
  | d + 1, n => if alkF f (y * W) ((y + n) * W) W 0 = true then eqRN f W y d (n + 1) else n
def sideE (f : Nat → Int32) (W : Nat) : Nat → Nat → Nat → List Int32
  | 0, _, _ => []
  | u + 1, m, y => if m = 0 then [] else iN (eqRN f W y (m - 1) 1 - 1) :: (rowE f W W (y * W) ++ sideE f W u (m - eqRN f W y (m - 1) 1) (y + eqRN f W y (m - 1) 1))
theorem eqN_b (f : Nat → Int32) (a : Nat) : ∀ d n, n ≤ eqN f a d n ∧ eqN f a d n ≤ n + d := by
  intro d
  induction d with
  | zero => intro n; exact ⟨Nat.le_refl _, Nat.le_refl _⟩
  | succ d ih =>
    intro n
    unfold eqN
    split
    · have := ih (n + 1)
      omega
    · omega
theorem unN_b (f : Nat → Int32) (a : Nat) : ∀ d n, n ≤ unN f a d n ∧ unN f a d n ≤ n + d := by
  intro d
  induction d with
  | zero => intro n; exact ⟨Nat.le_refl _, Nat.le_refl _⟩
  | succ d ih =>
    intro n
    match d, ih with
    | 0, _ => exact ⟨Nat.le_succ _, Nat.le_refl _⟩
    | d + 1, ih =>
      unfold unN
      split
      · omega
      · have := ih (n + 1)
        omega
theorem eqRN_b (f : Nat → Int32) (W y : Nat) : ∀ d n, n ≤ eqRN f W y d n ∧ eqRN f W y d n ≤ n + d := by
  intro d
  induction d with
  | zero => intro n; exact ⟨Nat.le_refl _, Nat.le_refl _⟩
  | succ d ih =>
    intro n
    unfold eqRN
    split
    · have := ih (n + 1)
      omega
    · omega
theorem rngL_len (f : Nat → Int32) : ∀ n a, (rngL f a n).length = n := by
  intro n
  induction n with
  | zero => intro a; rfl
  | succ n ih => intro a; show (rngL f (a + 1) n).length + 1 = _; rw [ih]
theorem rowE_len (f : Nat → Int32) : ∀ u m a, (rowE f u m a).length ≤ 2 * m := by
  intro u
  induction u with
  | zero => intro m a; exact Nat.zero_le _
  | succ u ih =>
    intro m a
    unfold rowE
    have e1 := eqN_b f a (m - 1) 1
    have e2 := unN_b f a (m - 1) 1
    split
    · exact Nat.zero_le _
    · split
      · have := ih (m - eqN f a (m - 1) 1) (a + eqN f a (m - 1) 1)
        show (rowE f u _ _).length + 1 + 1 ≤ _
        omega
      · have := ih (m - unN f a (m - 1) 1) (a + unN f a (m - 1) 1)
        show (rngL f a _ ++ rowE f u _ _).length + 1 ≤ _
        rw [List.length_append, rngL_len]
        omega
theorem sideE_len (f : Nat → Int32) (W : Nat) : ∀ u m y, (sideE f W u m y).length ≤ m * (2 * W + 1) := by
  intro u
  induction u with
  | zero => intro m y; exact Nat.zero_le _
  | succ u ih =>
    intro m y
    unfold sideE
    have e1 := eqRN_b f W y (m - 1) 1
    split
    · exact Nat.zero_le _
    · have h1 := ih (m - eqRN f W y (m - 1) 1) (y + eqRN f W y (m - 1) 1)
      have h2 := rowE_len f W W (y * W)
      show (rowE f W W (y * W) ++ sideE f W u _ _).length + 1 ≤ _
      rw [List.length_append]
      have h3 : (m - eqRN f W y (m - 1) 1) * (2 * W + 1) ≤ (m - 1) * (2 * W + 1) := Nat.mul_le_mul_right _ (by omega)
      have h4 : m * (2 * W + 1) = (m - 1) * (2 * W + 1) + (2 * W + 1) := by
        obtain ⟨k, rfl⟩ : ∃ k, m = k + 1 := ⟨m - 1, by omega⟩
        rw [Nat.add_sub_cancel, Nat.add_mul, Nat.one_mul]
      omega
/-- every byte that is written is one -/
theorem byte_n {n : Nat} (h : n < 256) : iN n &&& 255 = iN n := by
  apply Int32.toBitVec_inj.mp
  show BitVec.ofNat 32 n &&& 255#32 = BitVec.ofNat 32 n
  apply BitVec.eq_of_toNat_eq
  rw [BitVec.toNat_and, BitVec.toNat_ofNat, Nat.mod_eq_of_lt (by omega)]
  show n &&& 255 = n
  rw [show (255 : Nat) = 2 ^ 8 - 1 by decide, Nat.and_two_pow_sub_one_eq_mod, Nat.mod_eq_of_lt (by omega)]
theorem rngL_byte {f : Nat → Int32} (hf : ∀ q, f q &&& 255 = f q) : ∀ n a, ∀ x ∈ rngL f a n, x &&& 255 = x := by
  intro n
  induction n with
  | zero => intro a x hx; cases hx
  | succ n ih =>
    intro a x hx
    rcases List.mem_cons.mp hx with rfl | hx
    · exact hf a
    · exact ih (a + 1) x hx
theorem rowE_byte {f : Nat → Int32} (hf : ∀ q, f q &&& 255 = f q) : ∀ u m a, m ≤ 8 → ∀ x ∈ rowE f u m a, x &&& 255 = x := by
  intro u
  induction u with
  | zero => intro m a _ x hx; cases hx
  | succ u ih =>
    intro m a hm x hx
    unfold rowE at hx
    have e1 := eqN_b f a (m - 1) 1
    have e2 := unN_b f a (m - 1) 1
    split at hx
    · cases hx
    · split at hx
      · rcases List.mem_cons.mp hx with rfl | hx
        · exact byte_n (by omega)
        · rcases List.mem_cons.mp hx with rfl | hx
          · exact hf a
          · exact ih _ _ (by omega) x hx
      · rcases List.mem_cons.mp hx with rfl | hx
        · split
          · decide
          · exact byte_n (by omega)
        · rcases List.mem_append.mp hx with hx | hx
          · exact rngL_byte hf _ _ x hx
          · exact ih _ _ (by omega) x hx
theorem sideE_byte {f : Nat → Int32} {W : Nat} (hf : ∀ q, f q &&& 255 = f q) (hW : W ≤ 8) : ∀ u m y, m ≤ 8 → ∀ x ∈ sideE f W u m y, x &&& 255 = x := by
  intro u
  induction u with
  | zero => intro m y _ x hx; cases hx
  | succ u ih =>
    intro m y hm x hx
    unfold sideE at hx
    have e1 := eqRN_b f W y (m - 1) 1
    split at hx
    · cases hx
    · rcases List.mem_cons.mp hx with rfl | hx
      · exact byte_n (by omega)
      · rcases List.mem_append.mp hx with hx | hx
        · exact rowE_byte hf _ _ _ hW x hx
        · exact ih _ _ (by omega) x hx
