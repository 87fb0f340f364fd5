/-! the relation that the calls keep -/
def rDraft (len : Nat) (w v : z_W) : Prop := len ≤ 240 ∧ w.1 1 0 1 = iN len ∧ v.1 0 0 2 = iN len ∧ ∀ k, k < len → ∃ b : Nat, b < 256 ∧ w.1 2 0 k = iN b ∧ v.1 1 0 k = iN b
def rDisk (lg up : Nat) (w v : z_W) : Prop := w.1 11 0 0 = v.1 0 0 8 ∧ (lg ≤ 40 ∧ w.1 11 0 1 = iN lg ∧ v.1 0 0 9 = iN lg) ∧ (up ≤ 1 ∧ w.1 11 0 2 = iN up ∧ v.1 0 0 1 = iN (1 - up)) ∧ ((v.1 0 0 11 = 0 ∧ w.1 11 0 3 = -1) ∨ ∃ k : Nat, k < 2147483648 ∧ v.1 0 0 11 = 1 ∧ v.1 0 0 12 = iN k ∧ w.1 11 0 3 = iN k)
def rPress (w v : z_W) : Prop := w.1 14 0 2 = v.1 0 0 10
/-- a row of bytes that went out: (1, 5, 23, 512) the reply, (2, 6, 25, 256) the sheet -/
def rBuf (b g f cap : Nat) (w v : z_W) : Prop := ∃ a : Nat, a ≤ cap ∧ w.1 1 b 1 = iN a ∧ (v.1 0 0 f = iN a ∨ (a = 0 ∧ v.1 0 0 f = -1)) ∧ ∀ k, k < a → w.1 2 b k = v.1 g 0 k
def rJobs (n nx up : Nat) (A : Nat → Nat → Nat) (w v : z_W) : Prop :=
  (n ≤ 20 ∧ w.1 12 0 2 = iN n ∧ v.1 0 0 4 = iN n) ∧ (w.1 12 0 3 = iN nx ∧ v.1 0 0 7 = iN nx) ∧
  ((∀ k, k < 20 → w.2.2 13 0 k < 20) ∧ ∀ k l, k < 20 → l < 20 → w.2.2 13 0 k = w.2.2 13 0 l → k = l) ∧
  (∀ k, k < n → ∀ f, 1 ≤ f → f ≤ 8 → w.1 9 (w.2.2 13 0 k) f = iN (A k f) ∧ v.1 2 0 (10 * k + (f - 1)) = iN (A k f)) ∧
  (∀ k, k < n → w.1 9 (w.2.2 13 0 k) 9 = iN (A k 9) ∧ v.1 2 0 (10 * k + 8) = iN (if up = 1 ∨ A k 2 = 9 then A k 9 else 0)) ∧
  (∀ k, k < n → ∀ q, q < 12 * A k 8 → ∃ b : Nat, b < 256 ∧ w.1 10 (w.2.2 13 0 k) q = iN b ∧ v.1 3 0 (72 * k + q) = iN b)
def nTot (a : Nat → Nat) : Nat := a 3 * nCopy (a 5) (a 6) (a 7) (a 8)
/-- blocks of all known jobs, of those that live -/
def nBlk (A : Nat → Nat → Nat) : Nat → Nat
  | 0 => 0
  | n + 1 => nBlk A n + (1 + A n 8)
def nLive (A : Nat → Nat → Nat) : Nat → Nat
  | 0 => 0
  | n + 1 => nLive A n + (if A n 2 = 7 ∨ A n 2 = 9 then 0 else 1 + A n 8)
def vJobs (n nx lg up : Nat) (A : Nat → Nat → Nat) : Prop :=
  (∀ k, k < n → aJob (A k) nx) ∧ (∀ k l, k < l → l < n → A k 1 < A l 1) ∧ (∀ k l, k < n → l < n → A k 2 = 5 → A l 2 = 5 → k = l) ∧
  (∀ k, k < n → A k 9 ≤ nTot (A k) ∧ (A k 2 = 3 ∨ A k 2 = 4 → A k 9 = 0) ∧ (A k 2 = 5 → up = 1 → A k 9 < nTot (A k))) ∧ nBlk A n ≤ lg ∧ nLive A n ≤ 36
def Rel (j : Nat) (w v : z_W) : Prop := ∃ (len lg up n nx : Nat) (A : Nat → Nat → Nat), rDraft len w v ∧ rDisk lg up w v ∧ rPress w v ∧ rBuf 1 5 23 512 w v ∧ rBuf 2 6 25 256 w v ∧ rJobs n nx up A w v ∧ vJobs n nx lg up A ∧ 1 ≤ nx ∧ nx ≤ j + 1 ∧ j ≤ 512
theorem Rel_start : Rel 0 w0 v0 := by
  refine ⟨0, 0, 1, 0, 1, fun _ _ => 0, ⟨by decide, rfl, rfl, fun k h => by omega⟩, ⟨rfl, ⟨by decide, rfl, rfl⟩, ⟨by decide, rfl, rfl⟩, Or.inl ⟨rfl, rfl⟩⟩, rfl, ⟨0, by decide, rfl, Or.inr ⟨rfl, rfl⟩, fun k h => by omega⟩, ⟨0, by decide, rfl, Or.inr ⟨rfl, rfl⟩, fun k h => by omega⟩,
    ⟨⟨by decide, rfl, rfl⟩, ⟨rfl, rfl⟩, ⟨fun k hk => ?_, fun k l hk hl h => ?_⟩, fun k h => by omega, fun k h => by omega, fun k h => by omega⟩,
    ⟨fun k h => by omega, fun k l h1 h2 => by omega, fun k l h1 => by omega, fun k h => by omega, by decide, by decide⟩, by decide, by decide, by decide⟩
  · show (if k < 20 then k else 0) < 20
    rw [if_pos hk]
    exact hk
  · have h : (if k < 20 then k else 0) = (if l < 20 then l else 0) := h
    rw [if_pos hk, if_pos hl] at h
    exact h
theorem Rel.thr {j : Nat} {w v : z_W} {x : Int32} (h : Rel j w v) : Rel j w (m_thr x v) := h
theorem Rel.idle {j : Nat} {w v : z_W} (hj : 4 * j + 4 ≤ 2048) (h : Rel j w v) : Rel (j + 1) w v := by
  obtain ⟨len, lg, up, n, nx, A, h1, h2, h3, h4, h5, h6, h7, h8, h9, h10⟩ := h
  exact ⟨len, lg, up, n, nx, A, h1, h2, h3, h4, h5, h6, h7, h8, by omega, by omega⟩
/-! put keeps it -/
theorem and255 (x : Int32) : ∃ b : Nat, b < 256 ∧ x &&& 255 = iN b := by
  refine ⟨(x.toBitVec &&& 255#32).toNat, ?_, ?_⟩
  · rw [BitVec.toNat_and]
    exact Nat.lt_of_le_of_lt Nat.and_le_right (by decide)
  · apply Int32.toBitVec_inj.mp
    show x.toBitVec &&& 255#32 = BitVec.ofNat 32 _
    rw [BitVec.ofNat_toNat, BitVec.setWidth_eq]
theorem byte_eq (y : Int64) (k : Nat) : byteAt y k &&& 255 = mByte y k := by
  unfold byteAt mByte
  rw [Int64.toInt32_and]
  rfl
theorem iN_lt240 {n : Nat} (h : n < 240) : iN n < iN (sCl 2 0) := (iN_lt (by omega) (by decide)).mpr h
theorem put_rel {y : Int64} : ∀ (k len : Nat) (w v : z_W), len + k ≤ 240 → rDraft len w v → rDraft (len + k) (bNum 0 y k w) (mPutN y k v) := by
  intro k
  induction k with
  | zero => intro len w v _ h; exact h
  | succ k ih =>
    intro len w v hl h
    obtain ⟨h1, h2, h3, h4⟩ := h
    have e : len + (k + 1) = len + 1 + k := by omega
    rw [e]
    refine ih (len + 1) _ _ (by omega) ⟨by omega, ?_, ?_, fun q hq => ?_⟩
    · unfold bAdd
      rw [h2, if_pos (iN_lt240 (by omega))]
      exact iN_add len 1
    · show v.1 0 0 2 + 1 = iN (len + 1)
      rw [h3]
      exact iN_add len 1
    · unfold bAdd mPut1
      rw [h2, if_pos (iN_lt240 (by omega)), h3, iN_nat (by omega)]
      show ∃ b : Nat, b < 256 ∧ (if 2 = 2 ∧ 0 = 0 ∧ q = len then byteAt y k &&& 255 else w.1 2 0 q) = iN b ∧ (if 1 = 1 ∧ 0 = 0 ∧ q = len then mByte y k else v.1 1 0 q) = iN b
      by_cases hz : q = len
      · rw [if_pos ⟨rfl, rfl, hz⟩, if_pos ⟨rfl, rfl, hz⟩, byte_eq]
        obtain ⟨b, hb, eb⟩ := and255 (byteAt y k)
        exact ⟨b, hb, by rw [← byte_eq]; exact eb, by rw [← byte_eq]; exact eb⟩
      · rw [if_neg (fun h9 => hz h9.2.2), if_neg (fun h9 => hz h9.2.2)]
        exact h4 q (by omega)
/-- the class's world but for the draft -/
def sameD (w w' : z_W) : Prop := (∀ g i k, ¬ (i = 0 ∧ (g = 1 ∨ g = 2)) → w'.1 g i k = w.1 g i k) ∧ w'.2 = w.2
theorem sameD_bNum {y : Int64} : ∀ (k : Nat) (w : z_W), sameD w (bNum 0 y k w) := by
  intro k
  induction k with
  | zero => intro w; exact ⟨fun _ _ _ _ => rfl, rfl⟩
  | succ k ih =>
    intro w
    have h := ih (bAdd 0 (byteAt y k) w)
    refine ⟨fun g i q hg => ?_, ?_⟩
    · have h1 := h.1 g i q hg
      show (bNum 0 y k (bAdd 0 (byteAt y k) w)).1 g i q = _
      rw [h1]
      unfold bAdd
      split
      · show (if g = 1 ∧ i = 0 ∧ q = 1 then _ else if g = 2 ∧ i = 0 ∧ q = _ then _ else _) = _
        rw [if_neg (fun h9 => hg ⟨h9.2.1, Or.inl h9.1⟩), if_neg (fun h9 => hg ⟨h9.2.1, Or.inr h9.1⟩)]
      · rfl
    · have h2 := h.2
      show (bNum 0 y k (bAdd 0 (byteAt y k) w)).2 = _
      rw [h2]
      unfold bAdd
      split <;> rfl
def sameM (v v' : z_W) : Prop := (∀ g i k, ¬ (g = 1) → ¬ (g = 0 ∧ k = 2) → v'.1 g i k = v.1 g i k) ∧ v'.2 = v.2
theorem sameM_mPutN {y : Int64} : ∀ (k : Nat) (v : z_W), sameM v (mPutN y k v) := by
  intro k
  induction k with
  | zero => intro v; exact ⟨fun _ _ _ _ _ => rfl, rfl⟩
  | succ k ih =>
    intro v
    have h := ih (mPut1 (mByte y k) v)
    refine ⟨fun g i q hg hg2 => ?_, h.2⟩
    have h1 := h.1 g i q hg hg2
    show (mPutN y k (mPut1 (mByte y k) v)).1 g i q = _
    rw [h1]
    show (if g = 0 ∧ i = 0 ∧ q = 2 then _ else if g = 1 ∧ i = 0 ∧ q = _ then _ else _) = _
    rw [if_neg (fun h9 => hg2 ⟨h9.1, h9.2.2⟩), if_neg (fun h9 => hg h9.1)]
theorem Rel.draft {j len' : Nat} {w v w' v' : z_W} (h : Rel j w v) (hw : sameD w w') (hv : sameM v v') (hd : rDraft len' w' v') : Rel j w' v' := by
  obtain ⟨len, lg, up, n, nx, A, h1, h2, h3, h4, h5, h6, h7, h8⟩ := h
  obtain ⟨hw1, hw2⟩ := hw
  obtain ⟨hv1, hv2⟩ := hv
  have a : ∀ g i k, ¬ (i = 0 ∧ (g = 1 ∨ g = 2)) → w'.1 g i k = w.1 g i k := hw1
  have c : ∀ k, ¬ k = 2 → v'.1 0 0 k = v.1 0 0 k := fun k hk => hv1 0 0 k (by decide) (fun h => hk h.2)
  have d : ∀ g i k, ¬ g = 1 → ¬ g = 0 → v'.1 g i k = v.1 g i k := fun g i k h0 h9 => hv1 g i k h0 (fun h => h9 h.1)
  have e2 : w'.2.2 = w.2.2 := by rw [hw2]
  refine ⟨len', lg, up, n, nx, A, hd, ?_, ?_, ?_, ?_, ?_, h7, h8⟩
  · unfold rDisk at h2 ⊢
    rw [a 11 0 0 (by decide), a 11 0 1 (by decide), a 11 0 2 (by decide), a 11 0 3 (by decide), c 8 (by decide), c 9 (by decide), c 1 (by decide), c 11 (by decide), c 12 (by decide)]
    exact h2
  · unfold rPress at h3 ⊢
    rw [a 14 0 2 (by decide), c 10 (by decide)]
    exact h3
  · obtain ⟨q, q1, q2, q3, q4⟩ := h4
    refine ⟨q, q1, by rw [a 1 1 1 (by decide)]; exact q2, by rw [c 23 (by decide)]; exact q3, fun k hk => by rw [a 2 1 k (by decide), d 5 0 k (by decide) (by decide)]; exact q4 k hk⟩
  · obtain ⟨q, q1, q2, q3, q4⟩ := h5
    refine ⟨q, q1, by rw [a 1 2 1 (by decide)]; exact q2, by rw [c 25 (by decide)]; exact q3, fun k hk => by rw [a 2 2 k (by decide), d 6 0 k (by decide) (by decide)]; exact q4 k hk⟩
  · obtain ⟨q1, q2, q3, q4, q5, q6⟩ := h6
    refine ⟨by rw [a 12 0 2 (by decide), c 4 (by decide)]; exact q1, by rw [a 12 0 3 (by decide), c 7 (by decide)]; exact q2, by rw [e2]; exact q3, fun k hk f hf1 hf2 => ?_, fun k hk => ?_, fun k hk q hq => ?_⟩
    · rw [e2, a 9 _ f (fun h => by omega), d 2 0 _ (by decide) (by decide)]
      exact q4 k hk f hf1 hf2
    · rw [e2, a 9 _ 9 (fun h => by omega), d 2 0 _ (by decide) (by decide)]
      exact q5 k hk
    · rw [e2, a 10 _ q (fun h => by omega), d 3 0 _ (by decide) (by decide)]
      exact q6 k hk q hq
theorem t_put {j : Nat} {w v : z_W} (hj : 4 * j + 4 ≤ 2048) (h : Rel j w v) (y : Int64) (i : Int32) : pS kP_put kX_put [zL y, zI i] (Rel (j + 1)) w v := by
  have h' := h
  obtain ⟨len, lg, up, n, nx, A, ⟨h1, h2, h3, h4⟩, -⟩ := h'
  refine pS.of (P := fun w' r => (¬ putOK len i → r = 0 ∧ w' = w) ∧ (putOK len i → r = 1 ∧ ∃ k, i = iN k ∧ k ≤ 8 ∧ w' = bNum 0 y k w)) (P' := fun v' r => (¬ putOK len i → r = 0 ∧ v' = m_thr 0 v) ∧ (putOK len i → r = 1 ∧ ∃ k, i = iN k ∧ k ≤ 8 ∧ v' = mPutN y k (m_thr 0 v))) ?_ ?_ (fun w' r v' r' g1 g2 => ?_)
  · exact e_put h2 h1 (fun h => ⟨0, rfl, fun _ => ⟨rfl, rfl⟩, fun h9 => absurd h9 h⟩) (fun k e k8 _ h => ⟨1, rfl, fun h9 => absurd h h9, fun _ => ⟨rfl, k, e, k8, rfl⟩⟩)
  · exact m_put h3 h1 (fun h => ⟨0, rfl, fun _ => ⟨rfl, rfl⟩, fun h9 => absurd h9 h⟩) (fun k e k8 _ h => ⟨1, rfl, fun h9 => absurd h h9, fun _ => ⟨rfl, k, e, k8, rfl⟩⟩)
  · by_cases hp : putOK len i
    · obtain ⟨rfl, k, e1, k8, rfl⟩ := g1.2 hp
      obtain ⟨rfl, k', e2, k8', rfl⟩ := g2.2 hp
      have ek : k = k' := (iN_inj (by omega) (by omega)).mp (e1.symm.trans e2)
      subst ek
      have hs : len + k ≤ 240 := by
        have h9 := hp.2.2
        rw [e1, iN_add] at h9
        exact (iN_le (b := 240) (by omega) (by decide)).mp h9
      exact ⟨rfl, Rel.idle hj (Rel.draft (h.thr (x := 0)) (sameD_bNum k w) (sameM_mPutN k (m_thr 0 v)) (put_rel k len w (m_thr 0 v) hs ⟨h1, h2, h3, h4⟩))⟩
    · obtain ⟨rfl, rfl⟩ := g1.1 hp
      obtain ⟨rfl, rfl⟩ := g2.1 hp
      exact ⟨rfl, Rel.idle hj h.thr⟩
