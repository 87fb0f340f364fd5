/-! LIST: the class -/
theorem lv_iff {A : Nat → Nat → Nat} {j : Nat} : lv A j = true ↔ ¬ nEnd (A j 2) := by
  unfold lv nEnd
  rw [decide_eq_true_eq]
section LC
variable {n : Nat} {A : Nat → Nat → Nat} {w : z_W} {Q : z_W → Option z_V → Prop}
theorem k_fol_loop {lo : Option Nat} (hr : cRows n A w) (hst : ∀ k, k < n → nSt (A k 2)) (hlo : ∀ l, lo = some l → l < n) (hq : Q w (some (refJ w (fol A n lo)))) : ∀ (d i : Nat) (x4 x5 : Option z_V), i + d = n →
    z_C sC zM zCr kS_following (4, [some (zR 12 0), some (refJ w lo), some (refJ w (chF (folM A lo) A i)), some (zI (iN i)), x4, x5], [], w) Q := by
  obtain ⟨⟨hn2, hn⟩, hJ⟩ := hr
  intro d
  induction d with
  | zero =>
    intro i x4 x5 hi
    have e : i = n := by omega
    subst e
    refine z_C.go 2 rfl ?_
    refine z_C.ld rfl rfl hn ?_
    refine z_C.go 1 rfl ?_
    refine z_C.if (fun _ => ?_) (fun h => absurd (Int32.le_refl _) h)
    refine z_C.go 1 rfl ?_
    exact z_C.ret rfl rfl hq
  | succ d ih =>
    intro i x4 x5 hi
    have e : iN i + 1 = iN (i + 1) := iN_add i 1
    have hin : z_in (iN i) 20 = true := iN_in (by omega) (by omega)
    have hnat : (iN i).toNatClampNeg = i := iN_nat (by omega)
    have k9 := fun x4 x5 => ih (i + 1) x4 x5 (by omega)
    obtain ⟨⟨a1, a2, a4⟩, as⟩ := hJ i (by omega)
    have yes : folM A lo i = true → ∀ x5, z_C sC zM zCr kS_following (41, [some (zR 12 0), some (refJ w lo), some (refJ w (chF (folM A lo) A i)), some (zI (iN i)), some (zR 9 (w.2.2 13 0 i)), x5], [], w) Q := fun hm x5 => by
      refine z_C.go 5 rfl ?_
      refine z_C.if (fun h => absurd h (by decide)) (fun _ => ?_)
      cases hc : chF (folM A lo) A i with
      | none =>
        have k8 := k9 (some (zR 9 (w.2.2 13 0 i))) (some (zI 1))
        rw [chF_new hc hm, ← e] at k8
        refine z_C.go 6 rfl ?_
        exact k8
      | some f =>
        have hf := (chF_lt i f hc).1
        refine z_C.go 4 rfl ?_
        refine z_C.call rfl rfl (k_bef (i := i) (f := f) (Q := fun w' r => w' = w ∧ r = some (zI (if nBef (A i) (A f) = true then 1 else 0))) ⟨⟨hn2, hn⟩, hJ⟩ (by omega) (by omega) ⟨rfl, rfl⟩) (fun w' r h => ?_)
        obtain ⟨rfl, rfl⟩ := h
        by_cases hb : nBef (A i) (A f) = true
        · have k8 := k9 (some (zR 9 (w'.2.2 13 0 i))) (some (zI 1))
          rw [chF_bef hc hm hb, ← e] at k8
          rw [if_pos hb]
          refine z_C.go 1 rfl ?_
          refine z_C.if (fun h => absurd h (by decide)) (fun _ => ?_)
          refine z_C.go 4 rfl ?_
          exact k8
        · have k8 := k9 (some (zR 9 (w'.2.2 13 0 i))) (some (zI 1))
          rw [chF_old hc (fun h => hb h.2), ← e] at k8
          rw [if_neg hb]
          refine z_C.go 1 rfl ?_
          refine z_C.if (fun _ => ?_) (fun h => absurd rfl h)
          refine z_C.go 2 rfl ?_
          exact k8
    have no : ¬ folM A lo i = true → ∀ x5, z_C sC zM zCr kS_following (45, [some (zR 12 0), some (refJ w lo), some (refJ w (chF (folM A lo) A i)), some (zI (iN i)), some (zR 9 (w.2.2 13 0 i)), x5], [], w) Q := fun hm x5 => by
      refine z_C.go 4 rfl ?_
      refine z_C.if (fun _ => ?_) (fun h => absurd rfl h)
      refine z_C.go 2 rfl ?_
      have k8 := k9 (some (zR 9 (w.2.2 13 0 i))) (some (zI 0))
      cases hc : chF (folM A lo) A i with
      | none =>
        rw [chF_none hc hm, ← e] at k8
        exact k8
      | some f =>
        rw [chF_old hc (fun h => hm h.1), ← e] at k8
        exact k8
    refine z_C.go 2 rfl ?_
    refine z_C.ld rfl rfl hn ?_
    refine z_C.go 1 rfl ?_
    refine z_C.if (fun h => absurd ((iN_le (by omega) (by omega)).mp h) (by omega)) (fun _ => ?_)
    refine z_C.go 3 rfl ?_
    refine z_C.go1 rfl (if_pos ⟨rfl, hin⟩) ?_
    rw [hnat]
    refine z_C.go 2 rfl ?_
    by_cases hv : nEnd (A i 2)
    · refine z_C.call rfl rfl (k_hasEnded (Q := fun w' r => w' = w ∧ r = some (zI 1)) a2 (hst i (by omega)) (fun _ => ⟨rfl, rfl⟩) (fun h => absurd hv h)) (fun w' r h => ?_)
      obtain ⟨rfl, rfl⟩ := h
      refine z_C.go 1 rfl ?_
      refine z_C.if (fun h => absurd h (by decide)) (fun _ => ?_)
      exact no (fun h => by unfold folM at h; rw [Bool.and_eq_true] at h; exact (lv_iff.mp h.1) hv) _
    · have hlv := lv_iff.mpr hv
      refine z_C.call rfl rfl (k_hasEnded (Q := fun w' r => w' = w ∧ r = some (zI 0)) a2 (hst i (by omega)) (fun h => absurd h hv) (fun _ => ⟨rfl, rfl⟩)) (fun w' r h => ?_)
      obtain ⟨rfl, rfl⟩ := h
      refine z_C.go 1 rfl ?_
      refine z_C.if (fun _ => ?_) (fun h => absurd rfl h)
      cases lo with
      | none =>
        refine z_C.go 2 rfl ?_
        exact yes (by unfold folM; rw [hlv]; rfl) _
      | some l =>
        have hl := hlo l rfl
        refine z_C.go 4 rfl ?_
        refine z_C.call rfl rfl (k_bef (i := l) (f := i) (Q := fun w2 r => w2 = w' ∧ r = some (zI (if nBef (A l) (A i) = true then 1 else 0))) ⟨⟨hn2, hn⟩, hJ⟩ hl (by omega) ⟨rfl, rfl⟩) (fun w2 r h => ?_)
        obtain ⟨rfl, rfl⟩ := h
        by_cases hb : nBef (A l) (A i) = true
        · rw [if_pos hb]
          refine z_C.go 1 rfl ?_
          refine z_C.if (fun h => absurd h (by decide)) (fun _ => ?_)
          exact yes (by unfold folM; rw [hlv]; exact hb) _
        · rw [if_neg hb]
          refine z_C.go 1 rfl ?_
          refine z_C.if (fun _ => ?_) (fun h => absurd rfl h)
          exact no (fun h => by unfold folM at h; rw [Bool.and_eq_true] at h; exact hb h.2) _
theorem k_fol {lo : Option Nat} (hr : cRows n A w) (hst : ∀ k, k < n → nSt (A k 2)) (hlo : ∀ l, lo = some l → l < n) (hq : Q w (some (refJ w (fol A n lo)))) : z_C sC zM zCr kS_following (0, [some (zR 12 0), some (refJ w lo), none, none, none, none], [], w) Q := by
  refine z_C.go 4 rfl ?_
  exact k_fol_loop hr hst hlo hq n 0 none none (by omega)
/-- the class's jobs, all that is told of them -/
def cAll (n : Nat) (A : Nat → Nat → Nat) (w : z_W) : Prop := cRows n A w ∧ ∀ k, k < n → ∀ f, 1 ≤ f → f ≤ 9 → w.1 9 (w.2.2 13 0 k) f = iN (A k f)
theorem cAll.app {l : List Int32} (h : cAll n A w) : cAll n A (bApp 1 l w) := by
  obtain ⟨⟨⟨a, b⟩, c⟩, d⟩ := h
  have e2 : (bApp 1 l w).2 = w.2 := (bApp_fr l w).1
  refine ⟨⟨⟨a, (bA1 (by decide) (by decide)).trans b⟩, fun k hk => ?_⟩, fun k hk f h1 h2 => ?_⟩
  · rw [e2, bA1 (by decide) (by decide), bA1 (by decide) (by decide), bA1 (by decide) (by decide)]
    exact c k hk
  · rw [e2, bA1 (by decide) (by decide)]
    exact d k hk f h1 h2
theorem e_all_loop {L : Nat} (hr : cAll n A w) (hst : ∀ k, k < n → nSt (A k 2)) (hri : ris A n) (hc18 : cn (lv A) n ≤ 18) (h8 : w.1 3 0 8 = iN 10) (hL : w.1 1 1 1 = iN L) (hc : L + 27 * 18 ≤ 512) (hq : Q (bApp 1 (lstO A n n) w) none) :
    ∀ (d i : Nat) (lo : Option Nat) (w1 : z_W), i + d = 20 → posL A n lo i → w1 = bApp 1 (lstO A n i) w → cRun kP_tellOfAll (4, [some (zR 0 0), some (refJ w1 lo), some (zI (iN i))], [], w1) Q := by
  intro d
  induction d with
  | zero =>
    intro i lo w1 hi hp he
    cases lo with
    | none =>
      have hp : i = 0 := hp
      omega
    | some k =>
      obtain ⟨hk, vk, er⟩ := hp
      have := rnk_lt hk vk
      omega
  | succ d ih =>
    intro i lo w1 hi hp he
    have hr1 : cAll n A w1 := by rw [he]; exact hr.app
    have hlo : ∀ l, lo = some l → l < n := fun l h => by subst h; exact hp.1
    refine z_C.go 3 rfl ?_
    refine z_C.if (fun h => absurd ((iN_le (a := 20) (by decide) (by omega)).mp h) (by omega)) (fun _ => ?_)
    refine z_C.go 3 rfl ?_
    refine z_C.call rfl rfl (zC_up (C' := zC) (k_fol (w := w1) (Q := fun w' r => w' = w1 ∧ r = some (refJ w1 (fol A n lo))) hr1.1 hst hlo ⟨rfl, rfl⟩)) (fun w' r h => ?_)
    obtain ⟨rfl, rfl⟩ := h
    cases hf : fol A n lo with
    | none =>
      have hno := fol_none hri hp hf
      have hin : i ≤ n := by
        cases lo with
        | none =>
          have hp : i = 0 := hp
          omega
        | some k =>
          obtain ⟨hk, vk, er⟩ := hp
          have h1 := rnk_lt hk vk
          have h2 := cn_le (lv A) n
          omega
      have ee : lstO A n n = lstO A n i := by
        have k9 := lstO_end hno (n - i)
        rw [show i + (n - i) = n by omega] at k9
        exact k9
      refine z_C.go 3 rfl ?_
      have hq : Q w' none := by rw [he, ← ee]; exact hq
      exact z_C.ret rfl rfl hq
    | some m =>
      have hp1 := fol_some hri hp hf
      have hm : m < n := hp1.1
      have hi18 : i + 1 ≤ 18 := by
        have := rnk_lt hm hp1.2.1
        have := hp1.2.2
        omega
      have hLi : ∃ L1, w'.1 1 1 1 = iN L1 ∧ L1 + 27 ≤ 512 := by
        have h1 := (lstO_len hri i).1
        refine ⟨L + (lstO A n i).length, ?_, by omega⟩
        rw [he]
        exact bApp_len (b := 1) (lstO A n i) L w hL (by show _ ≤ 512; omega)
      obtain ⟨L1, hL1, hc1⟩ := hLi
      have h81 : w'.1 3 0 8 = iN 10 := by rw [he]; exact (bA1 (by decide) (by decide)).trans h8
      refine z_C.go 5 rfl ?_
      refine z_C.call rfl rfl (e_tellS (r := w'.2.2 13 0 m) (a := A m) (op := 10) (Q := fun w2 r => r = none ∧ w2 = bApp 1 (tellS (A m)) w') (hr1.2 m hm) hL1 hc1 h81 (by decide) (by decide) ⟨rfl, rfl⟩) (fun w2 r h => ?_)
      obtain ⟨rfl, q2⟩ := h
      have er : w2.2.2 13 0 m = w'.2.2 13 0 m := by rw [q2, (bApp_fr (b := 1) (tellS (A m)) w').1]
      refine z_C.go 2 rfl ?_
      have k9 := ih (i + 1) (some m) w2 (by omega) hp1 (by rw [q2, he, ← bApp_app, lstO_step hri hp1])
      have e3 : refJ w2 (some m) = zR 9 (w'.2.2 13 0 m) := by
        show (.inr (.inr (some (9, w2.2.2 13 0 m))) : z_V) = _
        rw [er]
      rw [e3, ← iN_add i 1] at k9
      exact k9
theorem e_all {L : Nat} (hr : cAll n A w) (hst : ∀ k, k < n → nSt (A k 2)) (hri : ris A n) (hc18 : cn (lv A) n ≤ 18) (h8 : w.1 3 0 8 = iN 10) (hL : w.1 1 1 1 = iN L) (hc : L + 27 * 18 ≤ 512) (hq : Q (bApp 1 (lstO A n n) w) none) : cRun kP_tellOfAll (0, [some (zR 0 0), none, none], [], w) Q := by
  refine z_C.go 4 rfl ?_
  exact e_all_loop hr hst hri hc18 h8 hL hc hq 20 0 none w rfl rfl rfl
end LC
/-! LIST: the reference -/
section LM
variable {n : Nat} {A : Nat → Nat → Nat} {v : z_W} {Q : z_W → Option z_V → Prop}
theorem m_rank {k : Nat} (hr : mRowsN n A v) (hst : ∀ k, k < n → nSt (A k 2)) (hk : k < n) (hq : Q v (some (zI (iN (rnk A n k))))) : mRun kX_rank (0, [some (zR 0 0), some (zI (iN k)), none, none], [], v) Q := by
  have hn24 := hr.1.1
  have loop : ∀ (d j : Nat), j + d = n → mRun kX_rank (4, [some (zR 0 0), some (zI (iN k)), some (zI (iN (cn (bf A k) j))), some (zI (iN j))], [], v) Q := by
    intro d
    induction d with
    | zero =>
      intro j hj
      have e : j = n := by omega
      subst e
      refine z_C.go 2 rfl ?_
      refine z_C.ld rfl rfl hr.1.2 ?_
      refine z_C.go 1 rfl ?_
      refine z_C.if (fun _ => ?_) (fun h => absurd (Int32.le_refl _) h)
      refine z_C.go 1 rfl ?_
      exact z_C.ret rfl rfl hq
    | succ d ih =>
      intro j hj
      have k9 := ih (j + 1) (by omega)
      have es : cn (bf A k) (j + 1) = cn (bf A k) j + (if bf A k j = true then 1 else 0) := rfl
      have no : ¬ bf A k j = true → mRun kX_rank (4, [some (zR 0 0), some (zI (iN k)), some (zI (iN (cn (bf A k) j) + 0)), some (zI (iN j + 1))], [], v) Q := fun hb => by
        rw [es, if_neg hb, ← iN_add j 1, Nat.add_zero] at k9
        rw [Int32.add_zero]
        exact k9
      have yes : bf A k j = true → mRun kX_rank (4, [some (zR 0 0), some (zI (iN k)), some (zI (iN (cn (bf A k) j) + 1)), some (zI (iN j + 1))], [], v) Q := fun hb => by
        rw [es, if_pos hb, ← iN_add j 1, ← iN_add _ 1] at k9
        exact k9
      obtain ⟨⟨a1, a2, a4⟩, as⟩ := hr.2 j (by omega)
      refine z_C.go 2 rfl ?_
      refine z_C.ld rfl rfl hr.1.2 ?_
      refine z_C.go 1 rfl ?_
      refine z_C.if (fun h => absurd ((iN_le (by omega) (by omega)).mp h) (by omega)) (fun _ => ?_)
      refine z_C.go 4 rfl ?_
      refine z_C.if (fun h => ?_) (fun h => ?_)
      · have h : j = k := (iN_inj (by omega) (by omega)).mp h
        refine z_C.go 5 rfl ?_
        exact no (fun hb => (bf_iff.mp hb).1 h)
      · have hjk : ¬ j = k := fun h9 => h (by rw [h9])
        refine z_C.go 2 rfl ?_
        by_cases hv : nEnd (A j 2)
        · refine z_C.call rfl rfl (m_hasEnded (Q := fun v' r => v' = v ∧ r = some (zI 1)) (by omega) a2 (hst j (by omega)) (fun _ => ⟨rfl, rfl⟩) (fun h => absurd hv h)) (fun v' r h => ?_)
          obtain ⟨rfl, rfl⟩ := h
          refine z_C.go 1 rfl ?_
          refine z_C.if (fun h => absurd h (by decide)) (fun _ => ?_)
          refine z_C.go 5 rfl ?_
          exact no (fun hb => (lv_iff.mp (bf_iff.mp hb).2.1) hv)
        · refine z_C.call rfl rfl (m_hasEnded (Q := fun v' r => v' = v ∧ r = some (zI 0)) (by omega) a2 (hst j (by omega)) (fun h => absurd h hv) (fun _ => ⟨rfl, rfl⟩)) (fun v' r h => ?_)
          obtain ⟨rfl, rfl⟩ := h
          refine z_C.go 1 rfl ?_
          refine z_C.if (fun _ => ?_) (fun h => absurd rfl h)
          refine z_C.go 3 rfl ?_
          refine z_C.call rfl rfl (m_bef (i := j) (f := k) (Q := fun v2 r => v2 = v' ∧ r = some (zI (if nBef (A j) (A k) = true then 1 else 0))) hr (by omega) hk ⟨rfl, rfl⟩) (fun v2 r h => ?_)
          obtain ⟨rfl, rfl⟩ := h
          by_cases hb : nBef (A j) (A k) = true
          · rw [if_pos hb]
            refine z_C.go 1 rfl ?_
            refine z_C.if (fun h => absurd h (by decide)) (fun _ => ?_)
            refine z_C.go 6 rfl ?_
            exact yes (bf_iff.mpr ⟨hjk, lv_iff.mpr hv, hb⟩)
          · rw [if_neg hb]
            refine z_C.go 1 rfl ?_
            refine z_C.if (fun _ => ?_) (fun h => absurd rfl h)
            refine z_C.go 5 rfl ?_
            exact no (fun h => hb (bf_iff.mp h).2.2)
  refine z_C.go 4 rfl ?_
  exact loop n 0 (by omega)
def mAll (n : Nat) (A : Nat → Nat → Nat) (v : z_W) : Prop := mRowsN n A v ∧ ∀ k, k < n → ∀ f, 1 ≤ f → f ≤ 9 → v.1 2 0 (10 * k + (f - 1)) = iN (A k f)
theorem mAll.app {l : List Int32} (h : mAll n A v) : mAll n A (mApp 5 23 l v) := by
  obtain ⟨⟨⟨a, b⟩, c⟩, d⟩ := h
  refine ⟨⟨⟨a, (mA5 (by decide) (by decide)).trans b⟩, fun k hk => ?_⟩, fun k hk f h1 h2 => ?_⟩
  · rw [mA5 (by decide) (fun h => absurd h.1 (by decide)), mA5 (by decide) (fun h => absurd h.1 (by decide)), mA5 (by decide) (fun h => absurd h.1 (by decide))]
    exact c k hk
  · rw [mA5 (by decide) (fun h => absurd h.1 (by decide))]
    exact d k hk f h1 h2
theorem m_lrow_loop {L r : Nat} (hr : mAll n A v) (hst : ∀ k, k < n → nSt (A k 2)) (hri : ris A n) (hrn : r < 100) (hL : v.1 0 0 23 = iN L) (hc : L + (lstO A n r).length + 27 ≤ 800) (K : ∀ v' x2, v' = mApp 5 23 (lstO A n (r + 1)) v → mRun kX_list (2, [some (zR 0 0), some (zI (iN (r + 1))), x2], [], v') Q) :
    ∀ (d k : Nat) (v1 : z_W), k + d = n → v1 = mApp 5 23 (lstO A n r ++ rowO A n r k) v → mRun kX_list (12, [some (zR 0 0), some (zI (iN r)), some (zI (iN k))], [], v1) Q := by
  have hn24 := hr.1.1.1
  intro d
  induction d with
  | zero =>
    intro k v1 hk he
    have e : k = n := by omega
    subst e
    have hr1 : mAll k A v1 := by rw [he]; exact hr.app
    refine z_C.go 2 rfl ?_
    refine z_C.ld rfl rfl hr1.1.1.2 ?_
    refine z_C.go 1 rfl ?_
    refine z_C.if (fun _ => ?_) (fun h => absurd (Int32.le_refl _) h)
    refine z_C.go 2 rfl ?_
    have k9 := K v1 (some (zI (iN k))) he
    rw [← iN_add r 1] at k9
    exact k9
  | succ d ih =>
    intro k v1 hk he
    have hr1 : mAll n A v1 := by rw [he]; exact hr.app
    obtain ⟨⟨a1, a2, a4⟩, as⟩ := hr1.1.2 k (by omega)
    have es : rowO A n r (k + 1) = rowO A n r k ++ (if lv A k = true ∧ rnk A n k = r then tellS (A k) else []) := rfl
    have no : ¬ (lv A k = true ∧ rnk A n k = r) → mRun kX_list (43, [some (zR 0 0), some (zI (iN r)), some (zI (iN k))], [], v1) Q := fun hb => by
      have k9 := ih (k + 1) v1 (by omega) (by rw [es, if_neg hb, List.append_nil]; exact he)
      rw [← iN_add k 1] at k9
      refine z_C.go 2 rfl ?_
      exact k9
    refine z_C.go 2 rfl ?_
    refine z_C.ld rfl rfl hr1.1.1.2 ?_
    refine z_C.go 1 rfl ?_
    refine z_C.if (fun h => absurd ((iN_le (by omega) (by omega)).mp h) (by omega)) (fun _ => ?_)
    refine z_C.go 2 rfl ?_
    by_cases hv : nEnd (A k 2)
    · refine z_C.call rfl rfl (m_hasEnded (Q := fun v' r => v' = v1 ∧ r = some (zI 1)) (by omega) a2 (hst k (by omega)) (fun _ => ⟨rfl, rfl⟩) (fun h => absurd hv h)) (fun v' r h => ?_)
      obtain ⟨rfl, rfl⟩ := h
      refine z_C.go 1 rfl ?_
      refine z_C.if (fun h => absurd h (by decide)) (fun _ => ?_)
      exact no (fun hb => (lv_iff.mp hb.1) hv)
    · refine z_C.call rfl rfl (m_hasEnded (Q := fun v' r => v' = v1 ∧ r = some (zI 0)) (by omega) a2 (hst k (by omega)) (fun h => absurd h hv) (fun _ => ⟨rfl, rfl⟩)) (fun v' r' h => ?_)
      obtain ⟨rfl, rfl⟩ := h
      refine z_C.go 1 rfl ?_
      refine z_C.if (fun _ => ?_) (fun h => absurd rfl h)
      refine z_C.go 2 rfl ?_
      refine z_C.call rfl rfl (m_rank (k := k) (Q := fun v2 r' => v2 = v' ∧ r' = some (zI (iN (rnk A n k)))) hr1.1 hst (by omega) ⟨rfl, rfl⟩) (fun v2 r' h => ?_)
      obtain ⟨rfl, rfl⟩ := h
      have hrk : rnk A n k ≤ n := cn_le _ n
      refine z_C.go 2 rfl ?_
      refine z_C.if (fun h => ?_) (fun h => ?_)
      · have er : rnk A n k = r := (iN_inj (by omega) (by omega)).mp h
        have hb : lv A k = true ∧ rnk A n k = r := ⟨lv_iff.mpr hv, er⟩
        have h0 : rowO A n r k = [] := rowO_nil k (fun j hj h => by
          have := rnk_inj hri (show j < n by omega) (show k < n by omega) h.1 hb.1 (h.2.trans hb.2.symm)
          omega)
        rw [h0, List.append_nil] at he
        have hL2 : v2.1 0 0 23 = iN (L + (lstO A n r).length) := by rw [he]; exact mApp_len (g := 5) (f := 23) (lstO A n r) L v hL
        refine z_C.go 3 rfl ?_
        refine z_C.call rfl rfl (m_tellS (v := v2) (a := A k) (Q := fun v3 r' => r' = none ∧ v3 = mApp 5 23 (tellS (A k)) v2) (by omega) (hr1.2 k (by omega)) hL2 hc ⟨rfl, rfl⟩) (fun v3 r' h => ?_)
        obtain ⟨rfl, q3⟩ := h
        have k9 := ih (k + 1) v3 (by omega) (by rw [es, if_pos hb, h0, List.nil_append, q3, he, ← mApp_app])
        rw [← iN_add k 1] at k9
        refine z_C.go 2 rfl ?_
        exact k9
      · exact no (fun hb => h (by rw [hb.2]))
theorem m_list_loop {L : Nat} (hr : mAll n A v) (hst : ∀ k, k < n → nSt (A k 2)) (hri : ris A n) (hc18 : cn (lv A) n ≤ 18) (hL : v.1 0 0 23 = iN L) (hc : L + 27 * 19 ≤ 800) (hq : Q (mApp 5 23 (lstO A n n) v) none) :
    ∀ (d r : Nat) (v1 : z_W) (x2 : Option z_V), r + d = n → v1 = mApp 5 23 (lstO A n r) v → mRun kX_list (2, [some (zR 0 0), some (zI (iN r)), x2], [], v1) Q := by
  have hn24 := hr.1.1.1
  intro d
  induction d with
  | zero =>
    intro r v1 x2 hrn he
    have e : r = n := by omega
    subst e
    have hr1 : mAll r A v1 := by rw [he]; exact hr.app
    refine z_C.go 2 rfl ?_
    refine z_C.ld rfl rfl hr1.1.1.2 ?_
    refine z_C.go 1 rfl ?_
    refine z_C.if (fun _ => ?_) (fun h => absurd (Int32.le_refl _) h)
    have hq : Q v1 none := by rw [he]; exact hq
    exact z_C.ret rfl rfl hq
  | succ d ih =>
    intro r v1 x2 hrn he
    have hr1 : mAll n A v1 := by rw [he]; exact hr.app
    refine z_C.go 2 rfl ?_
    refine z_C.ld rfl rfl hr1.1.1.2 ?_
    refine z_C.go 1 rfl ?_
    refine z_C.if (fun h => absurd ((iN_le (by omega) (by omega)).mp h) (by omega)) (fun _ => ?_)
    refine z_C.go 2 rfl ?_
    have hlen := (lstO_len hri r).2
    exact m_lrow_loop (v := v) (L := L) (r := r) hr hst hri (by omega) hL (by omega) (fun v' x2 he' => ih (r + 1) v' x2 (by omega) he') n 0 v1 (by omega) (by rw [he]; show _ = mApp 5 23 (lstO A n r ++ []) v; rw [List.append_nil])
theorem m_list {L : Nat} (hr : mAll n A v) (hst : ∀ k, k < n → nSt (A k 2)) (hri : ris A n) (hc18 : cn (lv A) n ≤ 18) (hL : v.1 0 0 23 = iN L) (hc : L + 27 * 19 ≤ 800) (hq : Q (mApp 5 23 (lstO A n n) v) none) : mRun kX_list (0, [some (zR 0 0), none, none], [], v) Q := by
  refine z_C.go 2 rfl ?_
  exact m_list_loop hr hst hri hc18 hL hc hq n 0 v none (by omega) rfl
end LM
