/-! both sides while a request is carried out: the draft is seen as cleared -/
theorem clr_si {w : z_W} {g i k : Nat} {x : Int32} (h : ¬ g = 1) : bClr 0 (z_si w g i k x) = z_si (bClr 0 w) g i k x := by
  refine Prod.ext (funext fun a => funext fun b => funext fun c => ?_) rfl
  show (if a = 1 ∧ b = 0 ∧ c = 2 then 0 else if a = 1 ∧ b = 0 ∧ c = 1 then 0 else if a = g ∧ b = i ∧ c = k then x else w.1 a b c) = (if a = g ∧ b = i ∧ c = k then x else if a = 1 ∧ b = 0 ∧ c = 2 then 0 else if a = 1 ∧ b = 0 ∧ c = 1 then 0 else w.1 a b c)
  by_cases e : a = 1
  · have e2 : ¬ (a = g ∧ b = i ∧ c = k) := fun h9 => h (h9.1.symm.trans e)
    rw [if_neg e2, if_neg e2]
  · rw [if_neg (fun h9 => e h9.1), if_neg (fun h9 => e h9.1)]
    by_cases e2 : a = g ∧ b = i ∧ c = k
    · rw [if_pos e2, if_pos e2]
    · rw [if_neg e2, if_neg e2, if_neg (fun h9 => e h9.1), if_neg (fun h9 => e h9.1)]
theorem clr_eq {w w' : z_W} {g i k : Nat} (h : w'.1 g i k = w.1 g i k) : (bClr 0 w').1 g i k = (bClr 0 w).1 g i k := by
  show (if g = 1 ∧ i = 0 ∧ k = 2 then 0 else if g = 1 ∧ i = 0 ∧ k = 1 then 0 else w'.1 g i k) = (if g = 1 ∧ i = 0 ∧ k = 2 then 0 else if g = 1 ∧ i = 0 ∧ k = 1 then 0 else w.1 g i k)
  rw [h]
theorem cT.clr {t : Bool × Nat × Option Nat × Nat × Bool} {n : Nat} {A : Nat → Nat → Nat} {w w' : z_W} (h : cT t n A w w') : cT t n A (bClr 0 w) (bClr 0 w') :=
  ⟨fun g i k a b => clr_eq (h.1 g i k a b), h.2.1, h.2.2.1, h.2.2.2.1, h.2.2.2.2.1, h.2.2.2.2.2.1, h.2.2.2.2.2.2.1, h.2.2.2.2.2.2.2⟩
theorem cpW.clr {rr : Nat} {w w' : z_W} (h : cpW rr w w') : cpW rr (bClr 0 w) (bClr 0 w') := ⟨h.1, fun g i k a b => clr_eq (h.2 g i k a b)⟩
theorem admC.clr {n nx rr : Nat} {w : z_W} : bClr 0 (admC n nx rr w) = admC n nx rr (bClr 0 w) := by
  unfold admC
  rw [clr_si (by decide), clr_si (by decide), clr_si (by decide)]
/-- what reading a request and asking for its status leave alone, the class -/
def rqF (w w' : z_W) : Prop := w'.2.2 = w.2.2 ∧ ∀ g i k, ¬ (g = 1 ∧ i = 0 ∧ k = 2) → ¬ g = 3 → ¬ g = 4 → ¬ g = 8 → ¬ (g = 10 ∧ i = 20) → ¬ (g = 9 ∧ i = 20) → w'.1 g i k = w.1 g i k
theorem rqF.of {w w1 w2 : z_W} (h1 : mG w w1) (h2 : stF w1 w2) : rqF w w2 := ⟨by rw [h2.1]; exact h1.1, fun g i k a b c d e f => (h2.2 g i k a d e f).trans (h1.2 g i k a c b)⟩
theorem Core.req {len lg n nx : Nat} {A : Nat → Nat → Nat} {w v w2 v1 : z_W} (h : Core len lg n nx A w v) (h8 : ∀ k, k < n → A k 8 ≤ 6) (hw : rqF w w2) (hv : qF (m_thr 0 v) v1) : Core 0 lg n nx A (bClr 0 w2) (z_si v1 0 0 2 0) := by
  obtain ⟨c1, c2, c3, c4, c5, ⟨j1, j2, j3⟩, ⟨j4, j4'⟩, ⟨j5, j6⟩, j7, j8, j9⟩ := h
  have wf : ∀ g i k, ¬ (g = 1 ∧ i = 0) → ¬ g = 3 → ¬ g = 4 → ¬ g = 8 → ¬ (g = 10 ∧ i = 20) → ¬ (g = 9 ∧ i = 20) → (bClr 0 w2).1 g i k = w.1 g i k := fun g i k a b c d e f => (rd_g (by omega)).trans ((rd_g (by omega)).trans (hw.2 g i k (by omega) b c d e f))
  have vf : ∀ g i k, ¬ (g = 0 ∧ (k = 0 ∨ k = 2 ∨ 13 ≤ k ∧ k ≤ 21)) → ¬ g = 4 → ¬ (g = 2 ∧ 250 ≤ k) → ¬ (g = 3 ∧ 1800 ≤ k) → (z_si v1 0 0 2 0).1 g i k = v.1 g i k := fun g i k a b c d => (rd_g (by omega)).trans ((hv.2 g i k (by omega) b c d).trans (rd_g (by omega)))
  have er : (bClr 0 w2).2.2 = w.2.2 := hw.1
  refine ⟨⟨by decide, rfl, rfl, fun k hk => by omega⟩, c2.fr (fun q => wf 11 0 q (by omega) (by omega) (by omega) (by omega) (by omega) (by omega)) (fun q hq => vf 0 0 q (by omega) (by omega) (by omega) (by omega)), ?_,
    c4.fr (wf 1 1 1 (by omega) (by omega) (by omega) (by omega) (by omega) (by omega)) (fun q => wf 2 1 q (by omega) (by omega) (by omega) (by omega) (by omega) (by omega)) (vf 0 0 23 (by omega) (by omega) (by omega) (by omega)) (fun q => vf 5 0 q (by omega) (by omega) (by omega) (by omega)),
    c5.fr (wf 1 2 1 (by omega) (by omega) (by omega) (by omega) (by omega) (by omega)) (fun q => wf 2 2 q (by omega) (by omega) (by omega) (by omega) (by omega) (by omega)) (vf 0 0 25 (by omega) (by omega) (by omega) (by omega)) (fun q => vf 6 0 q (by omega) (by omega) (by omega) (by omega)),
    ⟨j1, (wf 12 0 2 (by omega) (by omega) (by omega) (by omega) (by omega) (by omega)).trans j2, (vf 0 0 4 (by omega) (by omega) (by omega) (by omega)).trans j3⟩, ⟨(wf 12 0 3 (by omega) (by omega) (by omega) (by omega) (by omega) (by omega)).trans j4, (vf 0 0 7 (by omega) (by omega) (by omega) (by omega)).trans j4'⟩, ⟨by rw [er]; exact j5, by rw [er]; exact j6⟩, fun k hk f h1 h2 => ?_, fun k hk => ?_, fun k hk q hq => ?_⟩
  · show (bClr 0 w2).1 14 0 2 = (z_si v1 0 0 2 0).1 0 0 10
    rw [wf 14 0 2 (by omega) (by omega) (by omega) (by omega) (by omega) (by omega), vf 0 0 10 (by omega) (by omega) (by omega) (by omega)]
    exact c3
  · have hr := j5 k (by omega)
    rw [er, wf 9 _ f (by omega) (by omega) (by omega) (by omega) (by omega) (by omega), vf 2 0 _ (by omega) (by omega) (by omega) (by omega)]
    exact j7 k hk f h1 h2
  · have hr := j5 k (by omega)
    rw [er, wf 9 _ 9 (by omega) (by omega) (by omega) (by omega) (by omega) (by omega), vf 2 0 _ (by omega) (by omega) (by omega) (by omega)]
    exact j8 k hk
  · have hr := j5 k (by omega)
    have h6 := h8 k hk
    rw [er, wf 10 _ q (by omega) (by omega) (by omega) (by omega) (by omega) (by omega), vf 3 0 _ (by omega) (by omega) (by omega) (by omega)]
    exact j9 k hk q hq
/-- the reply -/
theorem Core.out {lg n nx : Nat} {A : Nat → Nat → Nat} {w v : z_W} {L : List Int32} (h : Core 0 lg n nx A (bClr 0 w) v) (hb : ∀ x ∈ L, x &&& 255 = x) (hL : L.length ≤ 512) : Core 0 lg n nx A (bClr 0 (bApp 1 L (bClr 1 w))) (mApp 5 23 L (z_si v 0 0 23 0)) := by
  obtain ⟨c1, c2, c3, c4, c5, ⟨j1, j2, j3⟩, ⟨j4, j4'⟩, ⟨j5, j6⟩, j7, j8, j9⟩ := h
  have wf : ∀ g i k, ¬ (i = 1 ∧ (g = 1 ∨ g = 2)) → (bClr 0 (bApp 1 L (bClr 1 w))).1 g i k = (bClr 0 w).1 g i k := fun g i k a => clr_eq (((bApp_fr L (bClr 1 w)).2 g i k (by omega)).trans ((rd_g (by omega)).trans (rd_g (by omega))))
  have vf : ∀ g i k, ¬ (g = 0 ∧ k = 23) → ¬ g = 5 → (mApp 5 23 L (z_si v 0 0 23 0)).1 g i k = v.1 g i k := fun g i k a b => (mA5 b (by omega)).trans (rd_g (by omega))
  have er : (bClr 0 (bApp 1 L (bClr 1 w))).2.2 = (bClr 0 w).2.2 := by
    show (bApp 1 L (bClr 1 w)).2.2 = _
    rw [(bApp_fr (b := 1) L (bClr 1 w)).1]
    rfl
  have o1 : bOut 1 L (bApp 1 L (bClr 1 w)) := by
    have k9 := bOut.app (b := 1) L [] (bClr 1 w) ⟨rfl, fun q x hq => by cases hq⟩ (by show 0 + L.length ≤ 512; omega)
    rw [List.nil_append] at k9
    exact k9
  have o2 : mOut 5 23 L (mApp 5 23 L (z_si v 0 0 23 0)) := by
    have k9 := mOut.app (g := 5) (f := 23) (by decide) L [] (z_si v 0 0 23 0) ⟨rfl, fun q x hq => by cases hq⟩ (by show 0 + L.length ≤ 1000; omega)
    rw [List.nil_append] at k9
    exact k9
  have o3 : bOut 1 L (bClr 0 (bApp 1 L (bClr 1 w))) := o1.fr (fun g k hg => (rd_g (by omega)).trans (rd_g (by omega)))
  refine ⟨c1.fr (wf 1 0 1 (by omega)) (fun q => wf 2 0 q (by omega)) (vf 0 0 2 (by omega) (by omega)) (fun q => vf 1 0 q (by omega) (by omega)), c2.fr (fun q => wf 11 0 q (by omega)) (fun q hq => vf 0 0 q (by omega) (by omega)), ?_, out_rel o3 o2 hb hL,
    c5.fr (wf 1 2 1 (by omega)) (fun q => wf 2 2 q (by omega)) (vf 0 0 25 (by omega) (by omega)) (fun q => vf 6 0 q (by omega) (by omega)),
    ⟨j1, (wf 12 0 2 (by omega)).trans j2, (vf 0 0 4 (by omega) (by omega)).trans j3⟩, ⟨(wf 12 0 3 (by omega)).trans j4, (vf 0 0 7 (by omega) (by omega)).trans j4'⟩, ⟨by rw [er]; exact j5, by rw [er]; exact j6⟩, fun k hk f h1 h2 => ?_, fun k hk => ?_, fun k hk q hq => ?_⟩
  · show (bClr 0 (bApp 1 L (bClr 1 w))).1 14 0 2 = (mApp 5 23 L (z_si v 0 0 23 0)).1 0 0 10
    rw [wf 14 0 2 (by omega), vf 0 0 10 (by omega) (by omega)]
    exact c3
  · rw [er, wf 9 _ f (by omega), vf 2 0 _ (by omega) (by omega)]
    exact j7 k hk f h1 h2
  · rw [er, wf 9 _ 9 (by omega), vf 2 0 _ (by omega) (by omega)]
    exact j8 k hk
  · rw [er, wf 10 _ q (by omega), vf 3 0 _ (by omega) (by omega)]
    exact j9 k hk q hq
theorem Core.rel {j len lg n nx : Nat} {A : Nat → Nat → Nat} {w v : z_W} (h : Core len lg n nx A w v) (hv : vJobs n nx lg 1 A) (h1 : 1 ≤ nx) (h2 : nx ≤ j + 1) (h3 : j ≤ 512) : Rel j w v :=
  ⟨len, lg, 1, n, nx, A, h.1, h.2.1, h.2.2.1, h.2.2.2.1, h.2.2.2.2.1, h.2.2.2.2.2, hv, h1, h2, h3⟩
/-- all that is told of the jobs -/
theorem Core.cAll {len lg n nx : Nat} {A : Nat → Nat → Nat} {w v : z_W} (h : Core len lg n nx A w v) (hw : wJobs n nx lg A) (hx : nx ≤ 1000) : cAll n A w := by
  refine ⟨h.cRows hw hx, fun k hk f h1 h2 => ?_⟩
  by_cases e : f = 9
  · subst e
    exact (h.2.2.2.2.2.2.2.2.2.1 k hk).1
  · exact (h.2.2.2.2.2.2.2.2.1 k hk f h1 (by omega)).1
theorem Core.mAll {len lg n nx : Nat} {A : Nat → Nat → Nat} {w v : z_W} (h : Core len lg n nx A w v) (hw : wJobs n nx lg A) (hx : nx ≤ 1000) : mAll n A v := by
  refine ⟨h.mRowsN hw hx, fun k hk f h1 h2 => ?_⟩
  by_cases e : f = 9
  · subst e
    have a := (h.2.2.2.2.2.2.2.2.2.1 k hk).2
    rw [if_pos (Or.inl rfl)] at a
    exact a
  · exact (h.2.2.2.2.2.2.2.2.1 k hk f h1 (by omega)).2
theorem z_swap {S S' : z_S} {M M' : Nat → z_M} {C C' : Nat → Nat → Option z_I} {m m' : Nat} {f f' : z_F} {P : z_W → Option z_V → z_W → Option z_V → Prop} (h : z_C S M C m f (fun w r => z_C S' M' C' m' f' (fun v r' => P w r v r'))) : z_C S' M' C' m' f' (fun v r' => z_C S M C m f (fun w r => P w r v r')) := by
  obtain ⟨n, w, r, h1, n', v, r', h2, h3⟩ := h
  exact ⟨n', v, r', h2, n, w, r, h1, h3⟩
