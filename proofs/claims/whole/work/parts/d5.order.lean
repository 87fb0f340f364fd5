/-! the order of LIST -/
def cn (P : Nat → Bool) : Nat → Nat
  | 0 => 0
  | n + 1 => cn P n + (if P n = true then 1 else 0)
theorem cn_le (P : Nat → Bool) : ∀ n, cn P n ≤ n := by
  intro n
  induction n with
  | zero => exact Nat.le_refl _
  | succ n ih =>
    show cn P n + (if P n = true then 1 else 0) ≤ n + 1
    split <;> omega
theorem cn_mono {P R : Nat → Bool} : ∀ n, (∀ j, j < n → P j = true → R j = true) → cn P n ≤ cn R n := by
  intro n
  induction n with
  | zero => intro _; exact Nat.le_refl _
  | succ n ih =>
    intro h
    have h1 := ih (fun j hj => h j (by omega))
    show cn P n + (if P n = true then 1 else 0) ≤ cn R n + (if R n = true then 1 else 0)
    by_cases hp : P n = true
    · rw [if_pos hp, if_pos (h n (by omega) hp)]
      omega
    · rw [if_neg hp]
      omega
theorem cn_congr {P R : Nat → Bool} (n : Nat) (h : ∀ j, j < n → (P j = true ↔ R j = true)) : cn P n = cn R n :=
  Nat.le_antisymm (cn_mono n (fun j hj => (h j hj).mp)) (cn_mono n (fun j hj => (h j hj).mpr))
theorem cn_add {P R : Nat → Bool} {k : Nat} (hk : ¬ R k = true) : ∀ n, (∀ j, j < n → (P j = true ↔ (R j = true ∨ j = k))) → cn P n = cn R n + (if k < n then 1 else 0) := by
  intro n
  induction n with
  | zero => intro _; rfl
  | succ n ih =>
    intro h
    have h1 := ih (fun j hj => h j (by omega))
    have h2 := h n (by omega)
    show cn P n + (if P n = true then 1 else 0) = cn R n + (if R n = true then 1 else 0) + (if k < n + 1 then 1 else 0)
    rw [h1]
    by_cases e : n = k
    · subst e
      rw [if_pos (h2.mpr (Or.inr rfl)), if_neg hk, if_neg (Nat.lt_irrefl _), if_pos (Nat.lt_succ_self _)]
    · by_cases hr : R n = true
      · rw [if_pos (h2.mpr (Or.inl hr)), if_pos hr]
        by_cases hkn : k < n
        · rw [if_pos hkn, if_pos (by omega)]
        · rw [if_neg hkn, if_neg (by omega)]
      · rw [if_neg (show ¬ P n = true from fun hp => by rcases h2.mp hp with h | h; exact hr h; exact e h), if_neg hr]
        by_cases hkn : k < n
        · rw [if_pos hkn, if_pos (by omega)]
        · rw [if_neg hkn, if_neg (by omega)]
theorem cn_zero {P : Nat → Bool} : ∀ n, (∀ j, j < n → ¬ P j = true) → cn P n = 0 := by
  intro n
  induction n with
  | zero => intro _; rfl
  | succ n ih =>
    intro h
    show cn P n + (if P n = true then 1 else 0) = 0
    rw [if_neg (h n (by omega)), ih (fun j hj => h j (by omega))]
theorem nBef_iff (a b : Nat → Nat) : nBef a b = true ↔ (a 2 = 5 ∧ ¬ b 2 = 5) ∨ ((a 2 = 5 ↔ b 2 = 5) ∧ (b 4 < a 4 ∨ (a 4 = b 4 ∧ a 1 < b 1))) := by
  unfold nBef nLt
  by_cases h1 : a 2 = 5
  · by_cases h2 : b 2 = 5
    · rw [if_pos h1, if_pos h2]
      by_cases h3 : a 4 = b 4
      · rw [if_pos h3, decide_eq_true_eq]
        omega
      · rw [if_neg h3, decide_eq_true_eq]
        omega
    · rw [if_pos h1, if_neg h2]
      exact ⟨fun _ => Or.inl ⟨h1, h2⟩, fun _ => rfl⟩
  · by_cases h2 : b 2 = 5
    · rw [if_neg h1, if_pos h2]
      exact ⟨fun h => (by cases h), fun h => by omega⟩
    · rw [if_neg h1, if_neg h2]
      by_cases h3 : a 4 = b 4
      · rw [if_pos h3, decide_eq_true_eq]
        omega
      · rw [if_neg h3, decide_eq_true_eq]
        omega
theorem nBef_tr {a b c : Nat → Nat} (h1 : nBef a b = true) (h2 : nBef b c = true) : nBef a c = true := by
  rw [nBef_iff] at *
  omega
theorem nBef_as {a b : Nat → Nat} (h1 : nBef a b = true) : ¬ nBef b a = true := by
  rw [nBef_iff] at *
  omega
theorem nBef_to {a b : Nat → Nat} (h : ¬ a 1 = b 1) : nBef a b = true ∨ nBef b a = true := by
  rw [nBef_iff, nBef_iff]
  omega
def lv (A : Nat → Nat → Nat) (j : Nat) : Bool := decide (¬ (A j 2 = 7 ∨ A j 2 = 9))
def bf (A : Nat → Nat → Nat) (k j : Nat) : Bool := decide (¬ j = k) && lv A j && nBef (A j) (A k)
theorem bf_iff {A : Nat → Nat → Nat} {k j : Nat} : bf A k j = true ↔ ¬ j = k ∧ lv A j = true ∧ nBef (A j) (A k) = true := by
  unfold bf
  rw [Bool.and_eq_true, Bool.and_eq_true, decide_eq_true_eq, and_assoc]
/-- numbers rise -/
def ris (A : Nat → Nat → Nat) (n : Nat) : Prop := ∀ k l, k < l → l < n → A k 1 < A l 1
theorem ris.ne {A : Nat → Nat → Nat} {n j k : Nat} (h : ris A n) (hj : j < n) (hk : k < n) (e : ¬ j = k) : ¬ A j 1 = A k 1 := by
  rcases Nat.lt_trichotomy j k with h1 | h1 | h1
  · have := h j k h1 hk; omega
  · exact absurd h1 e
  · have := h k j h1 hj; omega
theorem chF_nil {m : Nat → Bool} {A : Nat → Nat → Nat} : ∀ n, chF m A n = none → ∀ j, j < n → ¬ m j = true := by
  intro n
  induction n with
  | zero => intro _ j h; omega
  | succ n ih =>
    intro h j hj hm
    cases hp : chF m A n with
    | none =>
      by_cases hn : m n = true
      · rw [chF_new hp hn] at h
        cases h
      · by_cases e : j = n
        · subst e
          exact hn hm
        · exact ih hp j (by omega) hm
    | some f =>
      by_cases hb : m n = true ∧ nBef (A n) (A f) = true
      · rw [chF_bef hp hb.1 hb.2] at h
        cases h
      · rw [chF_old hp hb] at h
        cases h
theorem chF_min {m : Nat → Bool} {A : Nat → Nat → Nat} : ∀ n, ris A n → ∀ f, chF m A n = some f → ∀ j, j < n → m j = true → j = f ∨ nBef (A f) (A j) = true := by
  intro n
  induction n with
  | zero => intro _ f _ j h; omega
  | succ n ih =>
    intro hr f h j hj hm
    have hr' : ris A n := fun k l h1 h2 => hr k l h1 (by omega)
    cases hp : chF m A n with
    | none =>
      have hno := chF_nil n hp
      have e : j = n := by
        rcases Nat.lt_or_ge j n with h1 | h1
        · exact absurd hm (hno j h1)
        · omega
      subst e
      rw [chF_new hp hm] at h
      cases h
      exact Or.inl rfl
    | some g =>
      have hg := (chF_lt n g hp).1
      by_cases hb : m n = true ∧ nBef (A n) (A g) = true
      · rw [chF_bef hp hb.1 hb.2] at h
        cases h
        by_cases e : j = n
        · exact Or.inl e
        · rcases ih hr' g hp j (by omega) hm with h1 | h1
          · rw [h1]
            exact Or.inr hb.2
          · exact Or.inr (nBef_tr hb.2 h1)
      · rw [chF_old hp hb] at h
        cases h
        by_cases e : j = n
        · subst e
          rcases nBef_to (hr.ne (j := j) (k := f) (by omega) (by omega) (by omega)) with h1 | h1
          · exact absurd ⟨hm, h1⟩ hb
          · exact Or.inr h1
        · exact ih hr' f hp j (by omega) hm
/-- how many live jobs are before k -/
def rnk (A : Nat → Nat → Nat) (n k : Nat) : Nat := cn (bf A k) n
theorem rnk_lt {A : Nat → Nat → Nat} {n k : Nat} (hk : k < n) (hl : lv A k = true) : rnk A n k + 1 ≤ cn (lv A) n := by
  have h1 := cn_add (P := fun j => bf A k j || decide (j = k)) (R := bf A k) (k := k) (fun h => (bf_iff.mp h).1 rfl) n (fun j _ => by rw [Bool.or_eq_true, decide_eq_true_eq])
  rw [if_pos hk] at h1
  have h2 := cn_mono (P := fun j => bf A k j || decide (j = k)) (R := lv A) n (fun j _ h => by
    rw [Bool.or_eq_true, decide_eq_true_eq] at h
    rcases h with h | h
    · exact (bf_iff.mp h).2.1
    · rw [h]; exact hl)
  unfold rnk
  omega
theorem rnk_bef {A : Nat → Nat → Nat} {n k l : Nat} (hk : k < n) (hl : lv A k = true) (hb : nBef (A k) (A l) = true) : rnk A n k + 1 ≤ rnk A n l := by
  have h1 := cn_add (P := fun j => bf A k j || decide (j = k)) (R := bf A k) (k := k) (fun h => (bf_iff.mp h).1 rfl) n (fun j _ => by rw [Bool.or_eq_true, decide_eq_true_eq])
  rw [if_pos hk] at h1
  have h2 := cn_mono (P := fun j => bf A k j || decide (j = k)) (R := bf A l) n (fun j _ h => by
    rw [Bool.or_eq_true, decide_eq_true_eq] at h
    rcases h with h | h
    · obtain ⟨a, b, c⟩ := bf_iff.mp h
      have c2 := nBef_tr c hb
      exact bf_iff.mpr ⟨fun e => by rw [e] at c2; exact nBef_as c2 c2, b, c2⟩
    · rw [h]
      exact bf_iff.mpr ⟨fun e => by rw [e] at hb; exact nBef_as hb hb, hl, hb⟩)
  unfold rnk
  omega
theorem rnk_inj {A : Nat → Nat → Nat} {n k l : Nat} (hr : ris A n) (hk : k < n) (hl : l < n) (vk : lv A k = true) (vl : lv A l = true) (e : rnk A n k = rnk A n l) : k = l := by
  by_cases h : k = l
  · exact h
  · rcases nBef_to (hr.ne hk hl h) with h1 | h1
    · have := rnk_bef hk vk h1; omega
    · have := rnk_bef hl vl h1; omega
/-- the job that LIST has behind another one, or the first -/
def folM (A : Nat → Nat → Nat) (lo : Option Nat) (i : Nat) : Bool := lv A i && (match lo with | none => true | some l => nBef (A l) (A i))
def fol (A : Nat → Nat → Nat) (n : Nat) (lo : Option Nat) : Option Nat := chF (folM A lo) A n
/-- the r-th place of LIST comes behind lo -/
def posL (A : Nat → Nat → Nat) (n : Nat) (lo : Option Nat) (r : Nat) : Prop := match lo with
  | none => r = 0
  | some k => k < n ∧ lv A k = true ∧ rnk A n k + 1 = r
theorem fol_some {A : Nat → Nat → Nat} {n r m : Nat} {lo : Option Nat} (hr : ris A n) (hp : posL A n lo r) (h : fol A n lo = some m) : posL A n (some m) (r + 1) := by
  obtain ⟨hm, hmm⟩ := chF_lt n m h
  have hmin := chF_min n hr m h
  unfold folM at hmm
  rw [Bool.and_eq_true] at hmm
  refine ⟨hm, hmm.1, ?_⟩
  cases lo with
  | none =>
    have hp : r = 0 := hp
    rw [hp]
    have e : rnk A n m = 0 := cn_zero n (fun j hj hb => by
      obtain ⟨a, b, c⟩ := bf_iff.mp hb
      rcases hmin j hj (by unfold folM; rw [b]; rfl) with h1 | h1
      · exact a h1
      · exact nBef_as h1 c)
    omega
  | some k =>
    obtain ⟨hk, vk, er⟩ := hp
    have hkm : nBef (A k) (A m) = true := hmm.2
    have e : rnk A n m = rnk A n k + 1 := by
      have h1 := cn_add (P := bf A m) (R := bf A k) (k := k) (fun h => (bf_iff.mp h).1 rfl) n (fun j hj => by
        constructor
        · intro hb
          obtain ⟨a, b, c⟩ := bf_iff.mp hb
          by_cases ej : j = k
          · exact Or.inr ej
          · rcases nBef_to (hr.ne hj hk ej) with h1 | h1
            · exact Or.inl (bf_iff.mpr ⟨ej, b, h1⟩)
            · rcases hmin j hj (by unfold folM; rw [b]; exact h1) with h2 | h2
              · exact absurd h2 a
              · exact absurd c (nBef_as h2)
        · intro hb
          rcases hb with hb | hb
          · obtain ⟨a, b, c⟩ := bf_iff.mp hb
            have c2 := nBef_tr c hkm
            exact bf_iff.mpr ⟨fun e => by rw [e] at c2; exact nBef_as c2 c2, b, c2⟩
          · rw [hb]
            exact bf_iff.mpr ⟨fun e => by rw [e] at hkm; exact nBef_as hkm hkm, vk, hkm⟩)
      rw [if_pos hk] at h1
      exact h1
    omega
theorem fol_none {A : Nat → Nat → Nat} {n r : Nat} {lo : Option Nat} (hr : ris A n) (hp : posL A n lo r) (h : fol A n lo = none) : ∀ j, j < n → lv A j = true → rnk A n j < r := by
  intro j hj hv
  have hn := chF_nil n h j hj
  cases lo with
  | none => exact absurd (by unfold folM; rw [hv]; rfl) hn
  | some k =>
    obtain ⟨hk, vk, er⟩ := hp
    by_cases e : j = k
    · rw [e]
      omega
    · rcases nBef_to (hr.ne hj hk e) with h1 | h1
      · have := rnk_bef hj hv h1
        omega
      · exact absurd (by unfold folM; rw [hv]; exact h1) hn
/-- what LIST tells: the jobs of rank r, and all -/
def rowO (A : Nat → Nat → Nat) (n r : Nat) : Nat → List Int32
  | 0 => []
  | k + 1 => rowO A n r k ++ (if lv A k = true ∧ rnk A n k = r then tellS (A k) else [])
def lstO (A : Nat → Nat → Nat) (n : Nat) : Nat → List Int32
  | 0 => []
  | r + 1 => lstO A n r ++ rowO A n r n
theorem rowO_nil {A : Nat → Nat → Nat} {n r : Nat} : ∀ k, (∀ j, j < k → ¬ (lv A j = true ∧ rnk A n j = r)) → rowO A n r k = [] := by
  intro k
  induction k with
  | zero => intro _; rfl
  | succ k ih =>
    intro h
    show rowO A n r k ++ (if lv A k = true ∧ rnk A n k = r then tellS (A k) else []) = []
    rw [if_neg (h k (by omega)), ih (fun j hj => h j (by omega))]
    rfl
theorem rowO_one {A : Nat → Nat → Nat} {n r m : Nat} (hr : ris A n) (hm : m < n) (hv : lv A m = true) (e : rnk A n m = r) : ∀ k, k ≤ n → rowO A n r k = if m < k then tellS (A m) else [] := by
  intro k
  induction k with
  | zero => intro _; rfl
  | succ k ih =>
    intro hk
    show rowO A n r k ++ (if lv A k = true ∧ rnk A n k = r then tellS (A k) else []) = _
    rw [ih (by omega)]
    by_cases ek : k = m
    · subst ek
      rw [if_neg (Nat.lt_irrefl _), if_pos (show lv A k = true ∧ rnk A n k = r from ⟨hv, e⟩), if_pos (Nat.lt_succ_self _)]
      rfl
    · rw [if_neg (show ¬ (lv A k = true ∧ rnk A n k = r) from fun h => ek (rnk_inj hr (by omega) hm h.1 hv (h.2.trans e.symm)))]
      by_cases hl : m < k
      · rw [if_pos hl, if_pos (by omega), List.append_nil]
      · rw [if_neg hl, if_neg (by omega)]
        rfl
theorem lstO_step {A : Nat → Nat → Nat} {n r m : Nat} (hr : ris A n) (hp : posL A n (some m) (r + 1)) : lstO A n (r + 1) = lstO A n r ++ tellS (A m) := by
  obtain ⟨hm, hv, e⟩ := hp
  show lstO A n r ++ rowO A n r n = _
  rw [rowO_one hr hm hv (by omega) n (Nat.le_refl _), if_pos hm]
theorem lstO_end {A : Nat → Nat → Nat} {n r : Nat} (h : ∀ j, j < n → lv A j = true → rnk A n j < r) : ∀ d, lstO A n (r + d) = lstO A n r := by
  intro d
  induction d with
  | zero => rfl
  | succ d ih =>
    show lstO A n (r + d) ++ rowO A n (r + d) n = _
    rw [rowO_nil n (fun j hj h9 => by have := h j hj h9.1; omega), ih, List.append_nil]
theorem rowO_len {A : Nat → Nat → Nat} {n r : Nat} (hr : ris A n) : ∀ k, k ≤ n → (rowO A n r k).length ≤ 27 ∧ (cn (lv A) n ≤ r → rowO A n r k = []) := by
  intro k hk
  refine ⟨?_, fun hc => rowO_nil k (fun j hj h => by have := rnk_lt (n := n) (show j < n by omega) h.1; omega)⟩
  by_cases hx : ∃ m, m < n ∧ lv A m = true ∧ rnk A n m = r
  · obtain ⟨m, a, b, c⟩ := hx
    rw [rowO_one hr a b c k hk]
    split
    · rw [tellS_len]
      exact Nat.le_refl _
    · exact Nat.zero_le _
  · rw [rowO_nil k (fun j hj h => hx ⟨j, by omega, h.1, h.2⟩)]
    exact Nat.zero_le _
theorem lstO_len {A : Nat → Nat → Nat} {n : Nat} (hr : ris A n) : ∀ r, (lstO A n r).length ≤ 27 * r ∧ (lstO A n r).length ≤ 27 * cn (lv A) n := by
  intro r
  induction r with
  | zero => exact ⟨Nat.zero_le _, Nat.zero_le _⟩
  | succ r ih =>
    have e : lstO A n (r + 1) = lstO A n r ++ rowO A n r n := rfl
    obtain ⟨h1, h2⟩ := rowO_len (r := r) hr n (Nat.le_refl _)
    rw [e, List.length_append]
    by_cases hc : cn (lv A) n ≤ r
    · rw [h2 hc]
      exact ⟨by show _ + 0 ≤ _; omega, by show _ + 0 ≤ _; omega⟩
    · exact ⟨by omega, by omega⟩
theorem lv_18 {A : Nat → Nat → Nat} : ∀ n, (∀ k, k < n → 1 ≤ A k 8) → 2 * cn (lv A) n ≤ nLive A n := by
  intro n
  induction n with
  | zero => intro _; exact Nat.le_refl _
  | succ n ih =>
    intro h
    have h1 := ih (fun k hk => h k (by omega))
    have h8 := h n (by omega)
    show 2 * (cn (lv A) n + (if lv A n = true then 1 else 0)) ≤ nLive A n + (if A n 2 = 7 ∨ A n 2 = 9 then 0 else 1 + A n 8)
    by_cases hv : A n 2 = 7 ∨ A n 2 = 9
    · rw [if_neg (show ¬ lv A n = true from fun h => by unfold lv at h; rw [decide_eq_true_eq] at h; exact h hv), if_pos hv]
      omega
    · rw [if_neg hv]
      split <;> omega
theorem rowO_byte {A : Nat → Nat → Nat} {n r : Nat} : ∀ k, ∀ y ∈ rowO A n r k, y &&& 255 = y := by
  intro k
  induction k with
  | zero => intro y hy; cases hy
  | succ k ih =>
    intro y hy
    rcases List.mem_append.mp hy with hy | hy
    · exact ih y hy
    · by_cases h : lv A k = true ∧ rnk A n k = r
      · rw [if_pos h] at hy
        exact tellS_byte _ y hy
      · rw [if_neg h] at hy
        cases hy
theorem lstO_byte {A : Nat → Nat → Nat} {n : Nat} : ∀ r, ∀ y ∈ lstO A n r, y &&& 255 = y := by
  intro r
  induction r with
  | zero => intro y hy; cases hy
  | succ r ih =>
    intro y hy
    rcases List.mem_append.mp hy with hy | hy
    · exact ih y hy
    · exact rowO_byte n y hy
