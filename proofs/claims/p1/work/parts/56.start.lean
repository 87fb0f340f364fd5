/-! the worlds at the start -/
def posC (o : z_N) : Nat := match o.1 with
  | 0 => 0
  | 1 => (match o.2 with
    | 0 => 1
    | 1 => 54
    | _ => 57)
  | 2 => (match o.2 with
    | 0 => 2
    | 1 => 55
    | _ => 58)
  | 3 => 3
  | 4 => 4
  | 5 => 5
  | 6 => 6
  | 7 => 7
  | 8 => 8
  | 9 => (if o.2 = 20 then 9 else 14 + 2 * o.2)
  | 10 => (if o.2 = 20 then 10 else 15 + 2 * o.2)
  | 11 => 11
  | 12 => 12
  | 13 => 13
  | 14 => 56
  | _ => 59
def adC (b : Nat) (o : z_N) : Nat := b + posC o
def adR (b : Nat) (o : z_N) : Nat := b + o.1
def w0i (g _i : Nat) : Nat → Int32 := match g with
  | 9 => fun k => (match k with
    | 5 => 1
    | _ => 0)
  | 11 => fun k => (match k with
    | 2 => 1
    | 3 => -1
    | _ => 0)
  | 12 => fun k => (match k with
    | 3 => 1
    | _ => 0)
  | _ => fun _ => 0
def w0 : z_W := (w0i, fun _ _ _ => 0, fun _ _ j => if j < 20 then j else 0)
def v0i (g _i : Nat) : Nat → Int32 := match g with
  | 0 => fun k => (match k with
    | 7 => 1
    | 23 => -1
    | 25 => -1
    | _ => 0)
  | _ => fun _ => 0
def v0 : z_W := (v0i, fun _ _ _ => 0, fun _ _ _ => 0)
theorem posC_nm : ∀ k, k < 60 → (sCn[k]?).map posC = some k := by decide +kernel
theorem sCn_len : sCn.length = 60 := by decide +kernel
theorem c_at {b : Nat} {cA : Nat → ClassId} {w : z_W} {k : Nat} {q : Nat × va_E} (h : (z_ws sC zfk (adC b) cA w)[k]? = some q) : k < 60 ∧ q.1 = b + k := by
  unfold z_ws at h
  rw [List.getElem?_map] at h
  cases ho : sC.2.2.2.2[k]? with
  | none => rw [ho] at h; cases h
  | some o =>
    rw [ho] at h
    cases h
    have hk : k < 60 := by
      have := (List.getElem?_eq_some_iff.mp ho).1
      rwa [show sC.2.2.2.2.length = 60 from sCn_len] at this
    refine ⟨hk, ?_⟩
    have h2 := posC_nm k hk
    rw [show sCn[k]? = some o from ho] at h2
    show b + posC o = b + k
    rw [Option.some.inj h2]
theorem c_D {b : Nat} {cA : Nat → ClassId} {A : Nat → Prop} (hA : ∀ q, b ≤ q → q < b + 60 → A q) (w : z_W) : va_D A (z_ws sC zfk (adC b) cA w) := by
  refine ⟨fun i j p q hp hq hpq => ?_, fun k q hq => ?_⟩
  · have := (c_at hp).2
    have := (c_at hq).2
    omega
  · have h := c_at hq
    exact hA _ (by omega) (by omega)
theorem r_at {b : Nat} {cA : Nat → ClassId} {w : z_W} {k : Nat} {q : Nat × va_E} (h : (z_ws sR zfk (adR b) cA w)[k]? = some q) : k < 8 ∧ q.1 = b + k := by
  have hn : ∀ k, k < 8 → (sRn[k]?).map (fun o => o.1) = some k := by decide +kernel
  unfold z_ws at h
  rw [List.getElem?_map] at h
  cases ho : sR.2.2.2.2[k]? with
  | none => rw [ho] at h; cases h
  | some o =>
    rw [ho] at h
    cases h
    have hk : k < 8 := (List.getElem?_eq_some_iff.mp ho).1
    refine ⟨hk, ?_⟩
    have h2 := hn k hk
    rw [show sRn[k]? = some o from ho] at h2
    have h3 : o.1 = k := Option.some.inj h2
    show b + o.1 = b + k
    rw [h3]
theorem r_D {b : Nat} {cA : Nat → ClassId} {A : Nat → Prop} (hA : ∀ q, b ≤ q → q < b + 8 → A q) (w : z_W) : va_D A (z_ws sR zfk (adR b) cA w) := by
  refine ⟨fun i j p q hp hq hpq => ?_, fun k q hq => ?_⟩
  · have := (r_at hp).2
    have := (r_at hq).2
    omega
  · have h := r_at hq
    exact hA _ (by omega) (by omega)
set_option maxRecDepth 100000 in
set_option maxHeartbeats 4000000 in
theorem r_start {b : Nat} {cA : Nat → ClassId} {D : va_G} {H : Heap} (hP : va_P D zcl (y_ws b cA hR) H) : va_P D zcl (z_ws sR zfk (adR b) cA v0) H := by
  have e : y_ws b cA hR = z_ws sR zfk (adR b) cA v0 := rfl
  rw [← e]
  exact hP
theorem arrV_cg (cI : ClassId) (N : Nat) (f g : Nat → Value) (h : ∀ j, j < N → f j = g j) : arrV cI N f = arrV cI N g := by
  unfold arrV
  have : (fun j : Fin N => f j.val) = fun j : Fin N => g j.val := funext fun j => h j.val j.isLt
  rw [this]
set_option maxRecDepth 100000 in
set_option maxHeartbeats 4000000 in
theorem c_start {b : Nat} {cA : Nat → ClassId} {D : va_G} {H : Heap} (hP : va_P D zcl (y_ws b cA hC) H) : va_P D zcl (z_ws sC zfk (adC b) cA w0) H := by
  have e1 : (y_ws b cA hC).take 13 = (z_ws sC zfk (adC b) cA w0).take 13 := rfl
  have e2 : (y_ws b cA hC).drop 14 = (z_ws sC zfk (adC b) cA w0).drop 14 := rfl
  intro k q hq
  by_cases h1 : k < 13
  · have h2 : ((z_ws sC zfk (adC b) cA w0).take 13)[k]? = some q := by rw [List.getElem?_take_of_lt h1]; exact hq
    rw [← e1, List.getElem?_take_of_lt h1] at h2
    exact hP k q h2
  · by_cases h3 : k = 13
    · subst h3
      have h4 : q = (b + 13, .inl (cA 2, 20, .inr (.inr (.inr (.inr (fun j => some (adC b (9, w0.2.2 13 0 j)))))))) := by
        have : (z_ws sC zfk (adC b) cA w0)[13]? = some (b + 13, .inl (cA 2, 20, .inr (.inr (.inr (.inr (fun j => some (adC b (9, w0.2.2 13 0 j)))))))) := rfl
        exact (Option.some.inj (this.symm.trans hq)).symm
      subst h4
      have h5 := hP 13 _ (y_ws_at (b := b) (cA := cA) (h := hC) (o := 13) rfl)
      have h6 : H[b + 13]? = some (vp_cell (cA 2) (20, .inr (.inr (.inr (.inr (fun j => (([some 14, some 16, some 18, some 20, some 22, some 24, some 26, some 28, some 30, some 32, some 34, some 36, some 38, some 40, some 42, some 44, some 46, some 48, some 50, some 52] : List (Option Nat)).getD j none).map (fun o => b + o))))))) := h5
      show H[b + 13]? = some (vp_cell (cA 2) (20, .inr (.inr (.inr (.inr (fun j => some (adC b (9, w0.2.2 13 0 j)))))))) 
      rw [h6, vp_cell_q, vp_cell_q]
      congr 1
    · have h4 : k = 14 + (k - 14) := by omega
      have h2 : ((z_ws sC zfk (adC b) cA w0).drop 14)[k - 14]? = some q := by rw [List.getElem?_drop, ← h4]; exact hq
      rw [← e2, List.getElem?_drop, ← h4] at h2
      exact hP k q h2
theorem w0_v : z_vw sC w0 := by
  intro g i j
  show (9, if j < 20 then j else 0) ∈ sCn
  have h : ∀ j, j < 20 → (9, j) ∈ sCn := by decide +kernel
  split
  · exact h j ‹_›
  · exact h 0 (by decide)
theorem v0_v (v : z_W) (h : v.2.2 = v0.2.2) : z_vw sR v := by
  intro g i j
  rw [h]
  show ((0, 0) : z_N) ∈ sRn
  decide +kernel
