/-! how the abstract machine's values stand for the JVM's -/
def z_v (ad : z_N → Nat) : z_V → Value
  | .inl x => .int x
  | .inr (.inl x) => .long x
  | .inr (.inr none) => .null
  | .inr (.inr (some o)) => .ref (ad o)
theorem z_v_cat (ad : z_N → Nat) (v : z_V) : (z_v ad v).category = z_ct v := by
  rcases v with x | x | _ | o <;> rfl
theorem z_cat_map (ad : z_N → Nat) (st : List z_V) : ((st.map (z_v ad)).map fun v => v.category).sum = z_cat st := by
  unfold z_cat
  rw [List.map_map]
  congr 1
  exact List.map_congr_left (fun v _ => z_v_cat ad v)
def z_hl (ad : z_N → Nat) (ls : Array Slot) (nL : Nat) (L : z_L) : Prop :=
  ls.size = nL ∧ lv_wf ls ∧ L.length = nL ∧ ∀ (i : Nat) (v : z_V), L[i]? = some (some v) → ls[i]? = some (.val (z_v ad v))
def z_as (ad : z_N → Nat) (L : z_L) : List (Nat × Value) := (List.range L.length).filterMap (fun j => match L[j]? with
  | some (some u) => some (j, z_v ad u)
  | _ => none)
theorem z_as_mem {ad : z_N → Nat} {L : z_L} {j : Nat} {v : z_V} (h : L[j]? = some (some v)) : (j, z_v ad v) ∈ z_as ad L := by
  refine List.mem_filterMap.mpr ⟨j, List.mem_range.mpr (List.getElem?_eq_some_iff.mp h).1, ?_⟩
  rw [h]
theorem z_as_of {ad : z_N → Nat} {L : z_L} {q : Nat × Value} (h : q ∈ z_as ad L) : ∃ v, L[q.1]? = some (some v) ∧ q.2 = z_v ad v := by
  obtain ⟨j, -, hj⟩ := List.mem_filterMap.mp h
  split at hj
  · rename_i u hu
    cases hj
    exact ⟨u, hu, rfl⟩
  · cases hj
theorem z_hl.has {ad : z_N → Nat} {ls : Array Slot} {nL : Nat} {L : z_L} (h : z_hl ad ls nL L) : lv_has ls nL (z_as ad L) := by
  refine ⟨h.1, h.2.1, fun q hq => ?_⟩
  obtain ⟨v, h1, h2⟩ := z_as_of hq
  rw [h2]
  exact h.2.2.2 _ _ h1
theorem z_un_len (L : z_L) (i : Nat) : (z_un L i).length = L.length := by
  unfold z_un
  cases i with
  | zero => rfl
  | succ j =>
    dsimp only
    split <;> simp
theorem z_un_at {L : z_L} {i j : Nat} {u : z_V} (h : (z_un L i)[j]? = some (some u)) : L[j]? = some (some u) ∧ ¬ (j + 1 = i ∧ z_ct u = 2) := by
  cases i with
  | zero => exact ⟨h, fun q => by omega⟩
  | succ k =>
    unfold z_un at h
    dsimp only at h
    split at h
    · by_cases hjk : j = k
      · subst hjk
        rename_i hx
        rw [List.getElem?_set_self (List.getElem?_eq_some_iff.mp hx).1] at h
        cases h
      · rw [List.getElem?_set_ne (Ne.symm hjk)] at h
        exact ⟨h, fun q => hjk (by omega)⟩
    · refine ⟨h, fun q => ?_⟩
      have hjk : j = k := by omega
      subst hjk
      rename_i h1
      rcases u with x | x | x
      · simp [z_ct] at q
      · exact h1 x h
      · simp [z_ct] at q
theorem z_hl.st1 {ad : z_N → Nat} {ls ls' : Array Slot} {nL i : Nat} {L : z_L} {v : z_V} (h : z_hl ad ls nL L)
    (h' : lv_has ls' nL ((i, z_v ad v) :: (z_as ad L).filter (fun q => !(q.1 == i) && !(q.1 + 1 == i && q.2.category == 2)))) : z_hl ad ls' nL (z_st1 L i v) := by
  refine ⟨h'.1, h'.2.1, by unfold z_st1; rw [List.length_set, z_un_len]; exact h.2.2.1, fun j u hj => ?_⟩
  unfold z_st1 at hj
  by_cases hji : j = i
  · subst hji
    have hl : j < (z_un L j).length := by
      have := (List.getElem?_eq_some_iff.mp hj).1
      rwa [List.length_set] at this
    rw [List.getElem?_set_self hl] at hj
    cases hj
    exact h'.2.2 _ List.mem_cons_self
  · rw [List.getElem?_set_ne (Ne.symm hji)] at hj
    obtain ⟨h1, h2⟩ := z_un_at hj
    refine h'.2.2 (j, z_v ad u) (List.mem_cons_of_mem _ (List.mem_filter.mpr ⟨z_as_mem h1, ?_⟩))
    have h3 : ¬ (j + 1 = i ∧ (z_v ad u).category = 2) := by rw [z_v_cat]; exact h2
    simp only [Bool.and_eq_true, Bool.not_eq_true', beq_eq_false_iff_ne, ne_eq, Bool.and_eq_false_iff]
    refine ⟨hji, ?_⟩
    by_cases h4 : j + 1 = i
    · exact Or.inr (fun q => h3 ⟨h4, q⟩)
    · exact Or.inl h4
theorem z_hl.st2 {ad : z_N → Nat} {ls ls' : Array Slot} {nL i : Nat} {L : z_L} {v : z_V} (h : z_hl ad ls nL L)
    (h' : lv_has ls' nL ((i, z_v ad v) :: (z_as ad L).filter (fun q => !(q.1 == i) && (!(q.1 == i + 1) && !(q.1 + 1 == i && q.2.category == 2))))) : z_hl ad ls' nL (z_st2 L i v) := by
  refine ⟨h'.1, h'.2.1, by unfold z_st2; rw [List.length_set, List.length_set, z_un_len]; exact h.2.2.1, fun j u hj => ?_⟩
  unfold z_st2 at hj
  by_cases hj1 : j = i + 1
  · subst hj1
    have hl : i + 1 < ((z_un L i).set i (some v)).length := by
      have := (List.getElem?_eq_some_iff.mp hj).1
      rwa [List.length_set] at this
    rw [List.getElem?_set_self hl] at hj
    cases hj
  · rw [List.getElem?_set_ne (Ne.symm hj1)] at hj
    by_cases hji : j = i
    · subst hji
      have hl : j < (z_un L j).length := by
        have := (List.getElem?_eq_some_iff.mp hj).1
        rwa [List.length_set] at this
      rw [List.getElem?_set_self hl] at hj
      cases hj
      exact h'.2.2 _ List.mem_cons_self
    · rw [List.getElem?_set_ne (Ne.symm hji)] at hj
      obtain ⟨h1, h2⟩ := z_un_at hj
      refine h'.2.2 (j, z_v ad u) (List.mem_cons_of_mem _ (List.mem_filter.mpr ⟨z_as_mem h1, ?_⟩))
      have h3 : ¬ (j + 1 = i ∧ (z_v ad u).category = 2) := by rw [z_v_cat]; exact h2
      simp only [Bool.and_eq_true, Bool.not_eq_true', beq_eq_false_iff_ne, ne_eq, Bool.and_eq_false_iff]
      refine ⟨hji, hj1, ?_⟩
      by_cases h4 : j + 1 = i
      · exact Or.inr (fun q => h3 ⟨h4, q⟩)
      · exact Or.inl h4
theorem z_ld_at {ad : z_N → Nat} {ls : Array Slot} {nL i : Nat} {L : z_L} {v : z_V} (h : z_hl ad ls nL L) (hv : z_ld L i = some v) : ls[i]? = some (.val (z_v ad v)) := by
  unfold z_ld at hv
  split at hv
  · rename_i u hu
    cases hv
    exact h.2.2.2 _ _ hu
  · cases hv
theorem z_ld_as {ad : z_N → Nat} {i : Nat} {L : z_L} {v : z_V} (hv : z_ld L i = some v) : ∃ k : Nat, (z_as ad L)[k]? = some (i, z_v ad v) := by
  unfold z_ld at hv
  split at hv
  · rename_i u hu
    cases hv
    exact List.getElem?_of_mem (z_as_mem hu)
  · cases hv
/-! the arguments at a method's entry -/
theorem z_args_as (ad : z_N → Nat) : ∀ (as : List z_V) (k : Nat) (pre : z_L), pre.length = k → ∀ (j : Nat) (u : z_V), k ≤ j → (pre ++ z_args as)[j]? = some (some u) → (j, z_v ad u) ∈ lv_args k (as.map (z_v ad)) := by
  intro as
  induction as with
  | nil =>
    intro k pre hk j u hj h
    simp only [z_args, List.append_nil] at h
    have := (List.getElem?_eq_some_iff.mp h).1
    omega
  | cons v r ih =>
    intro k pre hk j u hj h
    simp only [List.map_cons, lv_args]
    rw [z_v_cat]
    by_cases hjk : j = k
    · subst hjk
      rw [List.getElem?_append_right (by omega)] at h
      rw [hk, Nat.sub_self] at h
      simp only [z_args, List.getElem?_cons_zero] at h
      cases h
      exact List.mem_cons_self
    · refine List.mem_cons_of_mem _ ?_
      by_cases hc : z_ct v = 2
      · rw [if_pos hc]
        simp only [z_args, if_pos hc] at h
        by_cases hj2 : j = k + 1
        · subst hj2
          rw [List.getElem?_append_right (by omega), hk] at h
          have : k + 1 - k = 1 := by omega
          rw [this] at h
          simp at h
        · refine ih (k + 2) (pre ++ [some v, none]) (by simp [hk]) j u (by omega) ?_
          rw [List.append_assoc]
          exact h
      · rw [if_neg hc]
        simp only [z_args, if_neg hc] at h
        refine ih (k + 1) (pre ++ [some v]) (by simp [hk]) j u (by omega) ?_
        rw [List.append_assoc]
        exact h
theorem z_args_len (ad : z_N → Nat) (as : List z_V) : (lg_sl (as.map (z_v ad))).length = (z_args as).length := by
  induction as with
  | nil => rfl
  | cons v r ih =>
    simp only [lg_sl, List.map_cons, List.flatMap_cons, List.length_append, z_args, List.length_cons] at ih ⊢
    rw [ih, z_v_cat]
    by_cases hc : z_ct v = 2
    · simp [hc]; omega
    · simp [hc]; omega
theorem z_entry_hl (ad : z_N → Nat) (as : List z_V) {n : Nat} (h : (z_args as).length ≤ n) : z_hl ad ((lg_sl (as.map (z_v ad)) ++ List.replicate (n - (lg_sl (as.map (z_v ad))).length) Slot.unset).toArray) n (z_entry n as) := by
  obtain ⟨h1, h2, h3⟩ := lv_entry (as.map (z_v ad)) (n := n) (by rw [z_args_len]; exact h)
  refine ⟨h1, h2, by unfold z_entry; simp; omega, fun i v hv => ?_⟩
  have hi : i < (z_args as).length := by
    refine Nat.lt_of_not_le (fun q => ?_)
    unfold z_entry at hv
    rw [List.getElem?_append_right q] at hv
    have h4 := List.mem_of_getElem? hv
    have h5 := List.eq_of_mem_replicate h4
    cases h5
  unfold z_entry at hv
  rw [List.getElem?_append_left hi] at hv
  exact h3 (i, z_v ad v) (z_args_as ad as 0 [] rfl i v (Nat.zero_le _) (by simpa using hv))
/-! the cells of a world -/
def z_fv (S : z_S) (ad : z_N → Nat) (w : z_W) (ks : List Nat) (o : z_N) (j : Nat) : Value := if ks.getD j 0 = 2 then .ref (ad (S.2.2.1 o.1 o.2 j)) else .int (w.1 o.1 o.2 j)
def z_cell (S : z_S) (fk : Nat → List Nat) (ad : z_N → Nat) (cA : Nat → ClassId) (w : z_W) (o : z_N) : va_E := match S.1 o.1 with
  | 1 => .inl (cA 0, S.2.1 o.1 o.2, .inl (w.1 o.1 o.2))
  | 2 => .inl (cA 1, S.2.1 o.1 o.2, .inr (.inl (w.2.1 o.1 o.2)))
  | 3 => .inl (cA 2, S.2.1 o.1 o.2, .inr (.inr (.inr (.inr (fun j => some (ad (S.2.2.2.1, w.2.2 o.1 o.2 j)))))))
  | k => .inr (k - 4, (List.range (fk (k - 4)).length).map (z_fv S ad w (fk (k - 4)) o))
def z_ws (S : z_S) (fk : Nat → List Nat) (ad : z_N → Nat) (cA : Nat → ClassId) (w : z_W) : va_W := S.2.2.2.2.map (fun o => (ad o, z_cell S fk ad cA w o))
section ZCELL
variable {S : z_S} {fk : Nat → List Nat} {ad : z_N → Nat} {cA : Nat → ClassId} {w w' : z_W} {o q : z_N} {a b k j : Nat}
theorem z_ws_at (h : S.2.2.2.2[j]? = some o) : (z_ws S fk ad cA w)[j]? = some (ad o, z_cell S fk ad cA w o) := by simp [z_ws, h]
theorem z_ws_set {e : va_E} (hn : S.2.2.2.2.Nodup) (h : S.2.2.2.2[j]? = some o) (he : z_cell S fk ad cA w' o = e) (hq : ∀ q, q ≠ o → z_cell S fk ad cA w' q = z_cell S fk ad cA w q) : (z_ws S fk ad cA w).set j (ad o, e) = z_ws S fk ad cA w' := by
  have hj := (List.getElem?_eq_some_iff.mp h).1
  apply List.ext_getElem?
  intro k
  by_cases hk : k = j
  · subst hk
    rw [List.getElem?_set_self (by simp [z_ws, hj]), z_ws_at h, he]
  · rw [List.getElem?_set_ne (Ne.symm hk)]
    cases hkN : S.2.2.2.2[k]? with
    | none => simp [z_ws, hkN]
    | some o' =>
      have hne : o' ≠ o := by
        intro h2
        subst h2
        have hk2 := (List.getElem?_eq_some_iff.mp hkN).1
        exact hk ((List.getElem?_inj hk2 hn).mp (hkN.trans h.symm))
      rw [z_ws_at hkN, z_ws_at hkN, hq o' hne]
theorem z_cell_congr (h1 : w'.1 o.1 o.2 = w.1 o.1 o.2) (h2 : w'.2.1 o.1 o.2 = w.2.1 o.1 o.2) (h3 : w'.2.2 o.1 o.2 = w.2.2 o.1 o.2) : z_cell S fk ad cA w' o = z_cell S fk ad cA w o := by
  have hf : ∀ ks j, z_fv S ad w' ks o j = z_fv S ad w ks o j := fun ks j => by unfold z_fv; rw [h1]
  have hg : ∀ ks, z_fv S ad w' ks o = z_fv S ad w ks o := fun ks => funext (hf ks)
  unfold z_cell
  rw [h1, h2, h3]
  simp only [hg]
theorem z_cell_1 (h : S.1 o.1 = 1) : z_cell S fk ad cA w o = .inl (cA 0, S.2.1 o.1 o.2, .inl (w.1 o.1 o.2)) := by unfold z_cell; rw [h]; rfl
theorem z_cell_2 (h : S.1 o.1 = 2) : z_cell S fk ad cA w o = .inl (cA 1, S.2.1 o.1 o.2, .inr (.inl (w.2.1 o.1 o.2))) := by unfold z_cell; rw [h]; rfl
theorem z_cell_3 (h : S.1 o.1 = 3) : z_cell S fk ad cA w o = .inl (cA 2, S.2.1 o.1 o.2, .inr (.inr (.inr (.inr (fun j => some (ad (S.2.2.2.1, w.2.2 o.1 o.2 j))))))) := by unfold z_cell; rw [h]; rfl
theorem z_cell_o (h : S.1 o.1 = a + 4) : z_cell S fk ad cA w o = .inr (a, (List.range (fk a).length).map (z_fv S ad w (fk a) o)) := by unfold z_cell; rw [h]; rfl
theorem z_ne {g i : Nat} (h : q ≠ (g, i)) (c : Prop) : ¬ (q.1 = g ∧ q.2 = i ∧ c) := fun h2 => h (Prod.ext h2.1 h2.2.1)
theorem z_si_ne {x : Int32} (h : q ≠ o) : z_cell S fk ad cA (z_si w o.1 o.2 k x) q = z_cell S fk ad cA w q := z_cell_congr (funext fun j => by show (if _ then _ else _) = _; rw [if_neg (z_ne h _)]) rfl rfl
theorem z_sl_ne {x : Int64} (h : q ≠ o) : z_cell S fk ad cA (z_sl w o.1 o.2 k x) q = z_cell S fk ad cA w q := z_cell_congr rfl (funext fun j => by show (if _ then _ else _) = _; rw [if_neg (z_ne h _)]) rfl
theorem z_sr_ne {x : Nat} (h : q ≠ o) : z_cell S fk ad cA (z_sr w o.1 o.2 k x) q = z_cell S fk ad cA w q := z_cell_congr rfl rfl (funext fun j => by show (if _ then _ else _) = _; rw [if_neg (z_ne h _)])
theorem z_cp_ne {g' i' sp dp n : Nat} (h : q ≠ o) : z_cell S fk ad cA (z_cp w g' i' sp o.1 o.2 dp n) q = z_cell S fk ad cA w q := z_cell_congr (funext fun j => by show (if _ then _ else _) = _; rw [if_neg (fun h2 => h (Prod.ext h2.1 h2.2))]) rfl rfl
theorem z_si_1 {x : Int32} (h : S.1 o.1 = 1) : z_cell S fk ad cA (z_si w o.1 o.2 k x) o = .inl (cA 0, S.2.1 o.1 o.2, .inl (upd (w.1 o.1 o.2) k x)) := by
  rw [z_cell_1 h]
  have : (z_si w o.1 o.2 k x).1 o.1 o.2 = upd (w.1 o.1 o.2) k x := funext fun j => by simp [z_si, upd]
  rw [this]
theorem z_sl_2 {x : Int64} (h : S.1 o.1 = 2) : z_cell S fk ad cA (z_sl w o.1 o.2 k x) o = .inl (cA 1, S.2.1 o.1 o.2, .inr (.inl (vp_updL (w.2.1 o.1 o.2) k x))) := by
  rw [z_cell_2 h]
  have : (z_sl w o.1 o.2 k x).2.1 o.1 o.2 = vp_updL (w.2.1 o.1 o.2) k x := funext fun j => by simp [z_sl, vp_updL]
  rw [this]
theorem z_sr_3 {x : Nat} (h : S.1 o.1 = 3) : z_cell S fk ad cA (z_sr w o.1 o.2 k x) o = .inl (cA 2, S.2.1 o.1 o.2, .inr (.inr (.inr (.inr (va_up (fun j => some (ad (S.2.2.2.1, w.2.2 o.1 o.2 j))) k (some (ad (S.2.2.2.1, x)))))))) := by
  rw [z_cell_3 h]
  have : (fun j => some (ad (S.2.2.2.1, (z_sr w o.1 o.2 k x).2.2 o.1 o.2 j))) = va_up (fun j => some (ad (S.2.2.2.1, w.2.2 o.1 o.2 j))) k (some (ad (S.2.2.2.1, x))) := funext fun j => by
    by_cases hj : j = k <;> simp [z_sr, va_up, hj]
  rw [this]
theorem z_cp_1 {g' i' sp dp n : Nat} (h : S.1 o.1 = 1) : z_cell S fk ad cA (z_cp w g' i' sp o.1 o.2 dp n) o = .inl (cA 0, S.2.1 o.1 o.2, .inl (va_cpy (w.1 g' i') (w.1 o.1 o.2) sp dp n)) := by
  rw [z_cell_1 h]
  have : (z_cp w g' i' sp o.1 o.2 dp n).1 o.1 o.2 = va_cpy (w.1 g' i') (w.1 o.1 o.2) sp dp n := funext fun j => by simp [z_cp]
  rw [this]
theorem z_fs_at {ks : List Nat} (hb : b < ks.length) : ((List.range ks.length).map (z_fv S ad w ks o))[b]? = some (z_fv S ad w ks o b) := by simp [hb]
theorem z_si_o {x : Int32} (h : S.1 o.1 = a + 4) (hb : b < (fk a).length) (hk : (fk a).getD b 0 ≠ 2) : z_cell S fk ad cA (z_si w o.1 o.2 b x) o = .inr (a, ((List.range (fk a).length).map (z_fv S ad w (fk a) o)).set b (.int x)) := by
  rw [z_cell_o h]
  congr 2
  apply List.ext_getElem?
  intro j
  by_cases hj : j = b
  · subst hj
    rw [z_fs_at hb, List.getElem?_set_self (by simpa using hb)]
    unfold z_fv
    rw [if_neg hk]
    simp [z_si]
  · rw [List.getElem?_set_ne (Ne.symm hj)]
    by_cases hl : j < (fk a).length
    · rw [z_fs_at hl, z_fs_at hl]
      unfold z_fv
      simp [z_si, hj]
    · simp [hl]
end ZCELL
theorem z_in_vp {i : Int32} {n : Nat} (h : z_in i n = true) : vp_in i n := by
  unfold z_in at h
  simp only [Bool.and_eq_true, decide_eq_true_eq] at h
  exact vp_in_iff.mpr h
/-! every reference is a name of the side -/
def z_vv (S : z_S) (v : z_V) : Prop := match v with
  | .inr (.inr (some o)) => o ∈ S.2.2.2.2
  | _ => True
def z_vs (S : z_S) (st : List z_V) : Prop := ∀ v ∈ st, z_vv S v
def z_vL (S : z_S) (L : z_L) : Prop := ∀ (j : Nat) (v : z_V), L[j]? = some (some v) → z_vv S v
def z_vw (S : z_S) (w : z_W) : Prop := ∀ g i j, (S.2.2.2.1, w.2.2 g i j) ∈ S.2.2.2.2
section ZV
variable {S : z_S} {st : List z_V} {L : z_L} {w : z_W} {v : z_V} {k : Nat}
theorem z_vs.c (hv : z_vv S v) (h : z_vs S st) : z_vs S (v :: st) := fun u hu => by
  rcases List.mem_cons.mp hu with rfl | hu
  · exact hv
  · exact h u hu
theorem z_vs.t (h : z_vs S (v :: st)) : z_vs S st := fun u hu => h u (List.mem_cons_of_mem _ hu)
theorem z_vs.h (h : z_vs S (v :: st)) : z_vv S v := h v List.mem_cons_self
theorem z_vL.ld (h : z_vL S L) (hv : z_ld L k = some v) : z_vv S v := by
  unfold z_ld at hv
  split at hv
  · rename_i u hu
    cases hv
    exact h _ _ hu
  · cases hv
theorem z_vL.st1 (h : z_vL S L) (hv : z_vv S v) : z_vL S (z_st1 L k v) := by
  intro j u hj
  unfold z_st1 at hj
  by_cases hjk : j = k
  · subst hjk
    have hl : j < (z_un L j).length := by
      have := (List.getElem?_eq_some_iff.mp hj).1
      rwa [List.length_set] at this
    rw [List.getElem?_set_self hl] at hj
    cases hj
    exact hv
  · rw [List.getElem?_set_ne (Ne.symm hjk)] at hj
    exact h j u (z_un_at hj).1
theorem z_vL.st2 (h : z_vL S L) (hv : z_vv S v) : z_vL S (z_st2 L k v) := by
  intro j u hj
  unfold z_st2 at hj
  by_cases hj1 : j = k + 1
  · subst hj1
    have hl : k + 1 < ((z_un L k).set k (some v)).length := by
      have := (List.getElem?_eq_some_iff.mp hj).1
      rwa [List.length_set] at this
    rw [List.getElem?_set_self hl] at hj
    cases hj
  · rw [List.getElem?_set_ne (Ne.symm hj1)] at hj
    exact (h.st1 hv) j u hj
theorem z_vL.entry {as : List z_V} {n : Nat} (h : z_vs S as) : z_vL S (z_entry n as) := by
  have key : ∀ as : List z_V, z_vs S as → ∀ v : z_V, some v ∈ z_args as → z_vv S v := by
    intro as
    induction as with
    | nil => intro _ v hv; cases hv
    | cons u r ih =>
      intro hs v hv
      simp only [z_args] at hv
      rcases List.mem_cons.mp hv with hv | hv
      · cases hv
        exact hs.h
      · split at hv
        · rcases List.mem_cons.mp hv with hv | hv
          · cases hv
          · exact ih hs.t v hv
        · exact ih hs.t v hv
  intro j v hj
  have hm := List.mem_of_getElem? hj
  unfold z_entry at hm
  rcases List.mem_append.mp hm with hm | hm
  · exact key as h v hm
  · have := List.eq_of_mem_replicate hm
    cases this
end ZV
