/-! what went out, on each side alone -/
def bOut (b : Nat) (l : List Int32) (w : z_W) : Prop := w.1 1 b 1 = iN l.length ∧ ∀ q x, l[q]? = some x → w.1 2 b q = x &&& 255
def mOut (g f : Nat) (l : List Int32) (v : z_W) : Prop := v.1 0 0 f = iN l.length ∧ ∀ q x, l[q]? = some x → v.1 g 0 q = x
theorem get_snoc {l : List Int32} {x y : Int32} {q : Nat} (h : (l ++ [x])[q]? = some y) : (q < l.length ∧ l[q]? = some y) ∨ (q = l.length ∧ y = x) := by
  rw [List.getElem?_append] at h
  split at h
  · exact Or.inl ⟨‹_›, h⟩
  · rename_i h1
    have h2 : q - l.length < [x].length := by
      rcases Nat.lt_or_ge (q - l.length) [x].length with h9 | h9
      · exact h9
      · rw [List.getElem?_eq_none h9] at h
        cases h
    have h3 : q = l.length := by
      have : [x].length = 1 := rfl
      omega
    subst h3
    rw [Nat.sub_self] at h
    exact Or.inr ⟨rfl, (Option.some.inj h).symm⟩
theorem bOut.add {b : Nat} {l : List Int32} {x : Int32} {w : z_W} (h : bOut b l w) (hc : l.length < sCl 2 b) : bOut b (l ++ [x]) (bAdd b x w) := by
  obtain ⟨h1, h2⟩ := h
  refine ⟨?_, fun q y hq => ?_⟩
  · rw [bAdd_lenI h1 hc, List.length_append]
    rfl
  · rw [bAdd_in h1 hc]
    have e1 : (z_si (z_si w 2 b l.length (x &&& 255)) 1 b 1 (iN (l.length + 1))).1 2 b q = if q = l.length then x &&& 255 else w.1 2 b q := by
      show (if 2 = 2 ∧ b = b ∧ q = l.length then x &&& 255 else w.1 2 b q) = _
      simp only [true_and]
    rw [e1]
    rcases get_snoc hq with ⟨g1, g2⟩ | ⟨g1, g2⟩
    · rw [if_neg (by omega)]
      exact h2 q y g2
    · rw [if_pos g1, g2]
theorem bOut.app {b : Nat} : ∀ (l' l : List Int32) (w : z_W), bOut b l w → l.length + l'.length ≤ sCl 2 b → bOut b (l ++ l') (bApp b l' w) := by
  intro l'
  induction l' with
  | nil => intro l w h _; rw [List.append_nil]; exact h
  | cons x l' ih =>
    intro l w h hc
    have hl : (x :: l').length = l'.length + 1 := rfl
    rw [hl] at hc
    have h9 := ih (l ++ [x]) (bAdd b x w) (h.add (by omega)) (by rw [List.length_append]; show l.length + 1 + l'.length ≤ _; omega)
    rw [List.append_assoc] at h9
    exact h9
theorem mOut.ap1 {g f : Nat} {l : List Int32} {x : Int32} {v : z_W} (hg : ¬ g = 0) (h : mOut g f l v) (hc : l.length < 1000) : mOut g f (l ++ [x]) (mAp1 g f x v) := by
  obtain ⟨h1, h2⟩ := h
  refine ⟨?_, fun q y hq => ?_⟩
  · rw [mAp1_len h1, List.length_append]
    rfl
  · have e2 : (mAp1 g f x v).1 g 0 q = if q = l.length then x else v.1 g 0 q := by
      refine (if_neg (fun h => absurd h.1 hg)).trans ?_
      rw [h1, iN_nat (by omega)]
      show (if g = g ∧ 0 = 0 ∧ q = l.length then _ else _) = _
      simp only [true_and]
    rw [e2]
    rcases get_snoc hq with ⟨g1, g2⟩ | ⟨g1, g2⟩
    · rw [if_neg (by omega)]
      exact h2 q y g2
    · rw [if_pos g1, g2]
theorem mOut.app {g f : Nat} (hg : ¬ g = 0) : ∀ (l' l : List Int32) (v : z_W), mOut g f l v → l.length + l'.length ≤ 1000 → mOut g f (l ++ l') (mApp g f l' v) := by
  intro l'
  induction l' with
  | nil => intro l v h _; rw [List.append_nil]; exact h
  | cons x l' ih =>
    intro l v h hc
    have hl : (x :: l').length = l'.length + 1 := rfl
    rw [hl] at hc
    have h9 := ih (l ++ [x]) (mAp1 g f x v) (h.ap1 hg (by omega)) (by rw [List.length_append]; show l.length + 1 + l'.length ≤ _; omega)
    rw [List.append_assoc] at h9
    exact h9
theorem out_rel {b g f cap : Nat} {l : List Int32} {w v : z_W} (h1 : bOut b l w) (h2 : mOut g f l v) (hb : ∀ x ∈ l, x &&& 255 = x) (hc : l.length ≤ cap) : rBuf b g f cap w v := by
  refine ⟨l.length, hc, h1.1, Or.inl h2.1, fun k hk => ?_⟩
  have e := List.getElem?_eq_getElem hk
  rw [h1.2 k _ e, h2.2 k _ e]
  exact hb _ (List.getElem_mem hk)
theorem bOut.fr {b : Nat} {l : List Int32} {w w' : z_W} (h : bOut b l w) (hf : ∀ g k, g = 1 ∨ g = 2 → w'.1 g b k = w.1 g b k) : bOut b l w' := ⟨(hf 1 1 (Or.inl rfl)).trans h.1, fun q x hq => (hf 2 q (Or.inr rfl)).trans (h.2 q x hq)⟩
theorem mOut.fr {g f : Nat} {l : List Int32} {v v' : z_W} (h : mOut g f l v) (h0 : v'.1 0 0 f = v.1 0 0 f) (hf : ∀ k, v'.1 g 0 k = v.1 g 0 k) : mOut g f l v' := ⟨h0.trans h.1, fun q x hq => (hf q).trans (h.2 q x hq)⟩
/-! a sheet that is sent -/
def sheetL (a : Nat → Nat) (P : Nat → Int32) (s : Nat) : List Int32 := hdrL a (nSd a) ++ (faceE a P s 0 ++ if nSd a = 2 then faceE a P s 1 else [])
theorem sheetL_len {a : Nat → Nat} {P : Nat → Int32} {s nx : Nat} (hj : aJob a nx) : (sheetL a P s).length ≤ 208 := by
  unfold sheetL
  have h0 := faceE_len (P := P) (s := s) (bk := 0) hj
  have h1 := faceE_len (P := P) (s := s) (bk := 1) hj
  rw [List.length_append, List.length_append]
  have : (hdrL a (nSd a)).length = 4 := rfl
  split
  · omega
  · have : ([] : List Int32).length = 0 := rfl
    omega
theorem nPix_byte {P : Nat → Int32} {pg p r c : Nat} (hP : ∀ q, P q &&& 255 = P q) : nPix P pg p r c &&& 255 = nPix P pg p r c := by
  unfold nPix
  split
  · exact hP _
  · decide
theorem nFace_byte {a : Nat → Nat} {P : Nat → Int32} {s bk : Nat} (hP : ∀ q, P q &&& 255 = P q) : ∀ q, nFace a P s bk q &&& 255 = nFace a P s bk q := by
  have h0 : ∀ y x, nF0 a P s bk y x &&& 255 = nF0 a P s bk y x := by
    intro y x
    unfold nF0 nBook nPlain nPair
    repeat' split
    all_goals exact nPix_byte hP
  intro q
  unfold nFace nFv
  split
  · exact h0 _ _
  · exact h0 _ _
theorem sheetL_byte {a : Nat → Nat} {P : Nat → Int32} {s nx : Nat} (hj : aJob a nx) (hP : ∀ q, P q &&& 255 = P q) : ∀ x ∈ sheetL a P s, x &&& 255 = x := by
  have hWH : nW a ≤ 8 ∧ nH a ≤ 8 := by rcases nWH hj with h | h | h | h <;> omega
  have hf : ∀ bk, ∀ x ∈ faceE a P s bk, x &&& 255 = x := fun bk => sideE_byte (nFace_byte hP) hWH.1 _ _ _ hWH.2
  have hsd := nSd_b a
  intro x hx
  unfold sheetL at hx
  rcases List.mem_append.mp hx with hx | hx
  · unfold hdrL at hx
    rcases List.mem_cons.mp hx with rfl | hx
    · decide
    · rcases List.mem_cons.mp hx with rfl | hx
      · exact byte_n (by omega)
      · rcases List.mem_cons.mp hx with rfl | hx
        · exact byte_n (by omega)
        · rcases List.mem_cons.mp hx with rfl | hx
          · exact byte_n (by omega)
          · cases hx
  · rcases List.mem_append.mp hx with hx | hx
    · exact hf 0 x hx
    · split at hx
      · exact hf 1 x hx
      · cases hx
def sF (j : Nat) (w w' : z_W) : Prop := w'.2 = w.2 ∧ (∀ g i k, ¬ (i = 2 ∧ (g = 1 ∨ g = 2)) → ¬ g = 14 → ¬ g = 15 → ¬ (g = 9 ∧ i = j ∧ k = 9) → w'.1 g i k = w.1 g i k) ∧ w'.1 14 0 2 = w.1 14 0 2 + 1 ∧ w'.1 9 j 9 = w.1 9 j 9 + 1
def sM (v v' : z_W) : Prop := v'.2 = v.2 ∧ (∀ g i k, ¬ g = 6 → ¬ g = 7 → ¬ (g = 0 ∧ i = 0 ∧ (k = 25 ∨ k = 10)) → v'.1 g i k = v.1 g i k) ∧ v'.1 0 0 10 = v.1 0 0 10 + 1
/-- the class before its last two steps -/
def sF0 (w w' : z_W) : Prop := w'.2 = w.2 ∧ ∀ g i k, ¬ (i = 2 ∧ (g = 1 ∨ g = 2)) → ¬ (g = 14 ∧ 3 ≤ k) → ¬ g = 15 → w'.1 g i k = w.1 g i k
theorem sF0.tr {w w' w'' : z_W} (h1 : sF0 w w') (h2 : sF0 w' w'') : sF0 w w'' := ⟨h2.1.trans h1.1, fun g i k a b c => (h2.2 g i k a b c).trans (h1.2 g i k a b c)⟩
theorem sF0.L {w w' : z_W} (h : frL w w') : sF0 w w' := ⟨h.1, fun g i k _ b _ => h.2 g i k b⟩
theorem sF0.f15 {w w' : z_W} (h : fr15 w w') : sF0 w w' := ⟨h.1, fun g i k _ _ c => h.2 g i k c⟩
theorem sF0.app {l : List Int32} {w : z_W} : sF0 w (bApp 2 l w) := ⟨(bApp_fr l w).1, fun g i k a _ _ => (bApp_fr l w).2 g i k (fun h => a ⟨h.1, by rcases h.2 with h9 | h9; exact Or.inl h9.1; exact Or.inr h9⟩)⟩
theorem sF0.clr {w : z_W} : sF0 w (bClr 2 w) := ⟨rfl, fun g i k a _ _ => (if_neg (fun h => a ⟨h.2.1, Or.inl h.1⟩)).trans (if_neg (fun h => a ⟨h.2.1, Or.inl h.1⟩))⟩
theorem sF0.fin {j : Nat} {w w' : z_W} (h : sF0 w w') : sF j w (cFin j w') := by
  refine ⟨h.1, fun g i k a b c d => ?_, ?_, ?_⟩
  · exact (if_neg (fun h9 => b h9.1)).trans ((if_neg (fun h9 => d ⟨h9.1, h9.2.1, h9.2.2⟩)).trans (h.2 g i k a (fun h9 => b h9.1) c))
  · show w'.1 14 0 2 + 1 = _
    rw [h.2 14 0 2 (by decide) (by decide) (by decide)]
  · have e : (cFin j w').1 9 j 9 = w'.1 9 j 9 + 1 := by
      show (if 9 = 9 ∧ j = j ∧ 9 = 9 then w'.1 9 j 9 + 1 else _) = _
      rw [if_pos ⟨rfl, rfl, rfl⟩]
    rw [e, h.2 9 j 9 (fun h9 => by omega) (fun h9 => absurd h9.1 (by decide)) (by decide)]
theorem bOut.fin {j : Nat} {l : List Int32} {w : z_W} (h : bOut 2 l w) : bOut 2 l (cFin j w) := h.fr (fun g k hg => (if_neg (fun h9 => by omega)).trans (if_neg (fun h9 => by omega)))
theorem e_sent {j nx t : Nat} {a : Nat → Nat} {P : Nat → Int32} {w : z_W} {Q : z_W → Option z_V → Prop} (hj : aJob a nx) (hk : cK j a P w) (ht : w.1 9 j 9 = iN t) (ht18 : t ≤ 18)
    (K : ∀ w', sF j w w' → bOut 2 (sheetL a P (t % nC a)) w' → Q w' none) : cRun kT_send (0, [some (zR 14 0), some (zR 9 j), none], [], w) Q := by
  have h0 := faceE_len (P := P) (s := t % nC a) (bk := 0) hj
  have h1 := faceE_len (P := P) (s := t % nC a) (bk := 1) hj
  have o0 : ∀ w1 : z_W, bOut 2 [] (bClr 2 w1) := fun w1 => ⟨rfl, fun q x hq => by cases hq⟩
  have o1 : ∀ (w1 : z_W) (k : Nat), bOut 2 (hdrL a k) (bApp 2 (hdrL a k) (bClr 2 w1)) := fun w1 k => bOut.app (hdrL a k) [] (bClr 2 w1) (o0 w1) (show 0 + 4 ≤ 256 by decide)
  refine e_send hj hk ht ht18 (fun hsd w1 w2 f1 f2 => ?_) (fun hsd w1 w2 w3 f1 f2 f3 => ?_)
  · refine K _ ((((sF0.L f1).tr sF0.clr).tr sF0.app).tr ((sF0.f15 f2).tr sF0.app)).fin ?_
    have o2 : bOut 2 (hdrL a 1) w2 := (o1 w1 1).fr (fun g k hg => f2.2 g 2 k (by omega))
    have o3 := bOut.app (faceE a P (t % nC a) 0) (hdrL a 1) w2 o2 (show 4 + _ ≤ 256 by omega)
    have e : sheetL a P (t % nC a) = hdrL a 1 ++ faceE a P (t % nC a) 0 := by
      unfold sheetL
      rw [hsd, if_neg (by decide), List.append_nil]
    rw [e]
    exact o3.fin
  · refine K _ ((((((sF0.L f1).tr sF0.clr).tr sF0.app).tr ((sF0.f15 f2).tr sF0.app))).tr ((sF0.f15 f3).tr sF0.app)).fin ?_
    have o2 : bOut 2 (hdrL a 2) w2 := (o1 w1 2).fr (fun g k hg => f2.2 g 2 k (by omega))
    have o3 := bOut.app (faceE a P (t % nC a) 0) (hdrL a 2) w2 o2 (show 4 + _ ≤ 256 by omega)
    have o4 : bOut 2 (hdrL a 2 ++ faceE a P (t % nC a) 0) w3 := o3.fr (fun g k hg => f3.2 g 2 k (by omega))
    have o5 := bOut.app (faceE a P (t % nC a) 1) _ w3 o4 (by rw [List.length_append]; show 4 + _ + _ ≤ 256; omega)
    have e : sheetL a P (t % nC a) = hdrL a 2 ++ faceE a P (t % nC a) 0 ++ faceE a P (t % nC a) 1 := by
      unfold sheetL
      rw [hsd, if_pos rfl, List.append_assoc]
    rw [e]
    exact o5.fin
def sM0 (v v' : z_W) : Prop := v'.2 = v.2 ∧ ∀ g i k, ¬ g = 6 → ¬ g = 7 → ¬ (g = 0 ∧ i = 0 ∧ k = 25) → v'.1 g i k = v.1 g i k
theorem sM0.tr {v v' v'' : z_W} (h1 : sM0 v v') (h2 : sM0 v' v'') : sM0 v v'' := ⟨h2.1.trans h1.1, fun g i k a b c => (h2.2 g i k a b c).trans (h1.2 g i k a b c)⟩
theorem sM0.f7 {v v' : z_W} (h : fr7 v v') : sM0 v v' := ⟨h.1, fun g i k _ b _ => h.2 g i k b⟩
theorem sM0.app {l : List Int32} {v : z_W} : sM0 v (mApp 6 25 l v) := ⟨(mApp_fr l v).1, fun g i k a _ c => (mApp_fr l v).2 g i k c (fun h => a h.1)⟩
theorem sM0.z {v : z_W} : sM0 v (z_si v 0 0 25 0) := ⟨rfl, fun g i k _ _ c => if_neg c⟩
theorem sM0.fin {v v' : z_W} (h : sM0 v v') : sM v (z_si v' 0 0 10 (v'.1 0 0 10 + 1)) := by
  refine ⟨h.1, fun g i k a b c => (if_neg (fun h9 => c ⟨h9.1, h9.2.1, Or.inr h9.2.2⟩)).trans (h.2 g i k a b (fun h9 => c ⟨h9.1, h9.2.1, Or.inl h9.2.2⟩)), ?_⟩
  show v'.1 0 0 10 + 1 = _
  rw [h.2 0 0 10 (by decide) (by decide) (by decide)]
theorem m_sent {k nx t : Nat} {a : Nat → Nat} {P : Nat → Int32} {v : z_W} {Q : z_W → Option z_V → Prop} (hj : aJob a nx) (hk : mK k a P v) (ht : v.1 2 0 (10 * k + 8) = iN t) (ht18 : t ≤ 18)
    (K : ∀ v', sM v v' → mOut 6 25 (sheetL a P (t % nC a)) v' → Q v' none) : mRun kX_sendSheet (0, [some (zR 0 0), some (zI (iN k)), none, none, none, none, none, none], [], v) Q := by
  have h0 := faceE_len (P := P) (s := t % nC a) (bk := 0) hj
  have h1 := faceE_len (P := P) (s := t % nC a) (bk := 1) hj
  have h7 := hj.2.2.2.2.2.2.1
  have o0 : mOut 6 25 [] (z_si v 0 0 25 0) := ⟨rfl, fun q x hq => by cases hq⟩
  have o1 : ∀ k : Nat, mOut 6 25 (hdrL a k) (mApp 6 25 (hdrL a k) (z_si v 0 0 25 0)) := fun k => mOut.app (by decide) (hdrL a k) [] _ o0 (show 0 + 4 ≤ 1000 by decide)
  refine m_sendSheet hj hk ht ht18 (fun hsd v2 f2 => ?_) (fun hsd v2 v3 f2 f3 => ?_)
  · refine K _ ((sM0.z.tr sM0.app).tr ((sM0.f7 f2).tr sM0.app)).fin ?_
    have o2 : mOut 6 25 (hdrL a 1) v2 := (o1 1).fr (f2.2 0 0 25 (by decide)) (fun k => f2.2 6 0 k (by decide))
    have o3 := mOut.app (by decide) (faceE a P (t % nC a) 0) (hdrL a 1) v2 o2 (show 4 + _ ≤ 1000 by omega)
    have e9 : nSd a = 1 := by
      unfold nSd
      rw [if_neg (by omega), if_pos hsd.1]
    have e : sheetL a P (t % nC a) = hdrL a 1 ++ faceE a P (t % nC a) 0 := by
      unfold sheetL
      rw [e9, if_neg (by decide), List.append_nil]
    rw [e]
    exact o3
  · refine K _ (((sM0.z.tr sM0.app).tr ((sM0.f7 f2).tr sM0.app)).tr ((sM0.f7 f3).tr sM0.app)).fin ?_
    have o2 : mOut 6 25 (hdrL a 2) v2 := (o1 2).fr (f2.2 0 0 25 (by decide)) (fun k => f2.2 6 0 k (by decide))
    have o3 := mOut.app (by decide) (faceE a P (t % nC a) 0) (hdrL a 2) v2 o2 (show 4 + _ ≤ 1000 by omega)
    have o4 : mOut 6 25 (hdrL a 2 ++ faceE a P (t % nC a) 0) v3 := o3.fr (f3.2 0 0 25 (by decide)) (fun k => f3.2 6 0 k (by decide))
    have o5 := mOut.app (by decide) (faceE a P (t % nC a) 1) _ v3 o4 (by rw [List.length_append]; show 4 + _ + _ ≤ 1000; omega)
    have e9 : nSd a = 2 := by
      unfold nSd
      split
      · rfl
      · rw [if_neg (by omega)]
    have e : sheetL a P (t % nC a) = hdrL a 2 ++ faceE a P (t % nC a) 0 ++ faceE a P (t % nC a) 1 := by
      unfold sheetL
      rw [e9, if_pos rfl, List.append_assoc]
    rw [e]
    exact o5
