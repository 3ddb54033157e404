/-! the answers as functions of the leaves met so far -/
def te_L (P : te_P) (r : List Nat) : List (Nat × Nat) := te_st P (te_s0 P) r
theorem te_L_snoc (P : te_P) (r : List Nat) (t : Nat) : te_L P (r ++ [t]) = te_L P r ++ [(t, te_dn (te_q P r) t)] := te_st_app r [t] _
theorem te_L_len (P : te_P) (r : List Nat) : (te_L P r).length = r.length := te_st_len r _
theorem te_L_nd (P : te_P) (r : List Nat) : (te_L P r).Pairwise (fun x y => x ≠ y) := te_st_nd r _
theorem te_L_mem {P : te_P} {r : List Nat} {x : Nat × Nat} : x ∈ te_L P r ↔ x.2 < te_dn (te_q P r) x.1 := by
  unfold te_L te_q
  rw [te_st_mem]
  exact ⟨fun h => h.2, fun h => ⟨Nat.zero_le _, h⟩⟩
theorem te_L_rng {P : te_P} (hW : te_W P) {r : List Nat} (ho : te_o P r) {x : Nat × Nat} (h : x ∈ te_L P r) : x.1 < 3 ∧ x.2 < 3 := by
  have h1 : x.1 < 3 := te_ok_thr _ _ ho x.1 (te_st_thr h)
  have h2 := te_dn_le hW ho h1
  rw [te_L_mem] at h
  exact ⟨h1, by omega⟩
theorem te_bf_ix : ∀ (L : List (Nat × Nat)) (x y : Nat × Nat), te_bf L x y ↔ ∃ j i : Nat, j < i ∧ L[j]? = some x ∧ L[i]? = some y := by
  intro L
  induction L with
  | nil =>
    intro x y
    refine ⟨fun h => absurd h id, fun ⟨j, i, _, h, _⟩ => ?_⟩
    rw [List.getElem?_nil] at h
    exact absurd h (by simp)
  | cons z L ih =>
    intro x y
    show ((z = x ∧ y ∈ L) ∨ te_bf L x y) ↔ _
    rw [ih]
    constructor
    · intro h
      rcases h with ⟨e, h⟩ | ⟨j, i, h1, h2, h3⟩
      · obtain ⟨i, hi⟩ := List.mem_iff_getElem?.mp h
        exact ⟨0, i + 1, by omega, by rw [List.getElem?_cons_zero, e], by rw [List.getElem?_cons_succ]; exact hi⟩
      · exact ⟨j + 1, i + 1, by omega, by rw [List.getElem?_cons_succ]; exact h2, by rw [List.getElem?_cons_succ]; exact h3⟩
    · intro ⟨j, i, h1, h2, h3⟩
      obtain ⟨i', rfl⟩ : ∃ i', i = i' + 1 := ⟨i - 1, by omega⟩
      rw [List.getElem?_cons_succ] at h3
      cases j with
      | zero =>
        rw [List.getElem?_cons_zero] at h2
        exact Or.inl ⟨Option.some.inj h2, List.mem_iff_getElem?.mpr ⟨i', h3⟩⟩
      | succ j =>
        rw [List.getElem?_cons_succ] at h2
        exact Or.inr ⟨j, i', by omega, h2, h3⟩
theorem te_nf_ix {P : te_P} {L : List (Nat × Nat)} : te_nf P L ↔ ∃ (at' back : Nat) (a b : Nat × Nat), back < at' ∧ L[at']? = some a ∧ L[back]? = some b ∧ 4 * a.1 + a.2 < 4 * b.1 + b.2 ∧ ∀ j z, back ≤ j → j < at' → L[j]? = some z → te_ti P z a = false := by
  constructor
  · intro ⟨A, b, M, a, C, e, h1, h2⟩
    have e' : L = A ++ ((b :: M) ++ a :: C) := e
    refine ⟨A.length + (b :: M).length, A.length, a, b, ?_, ?_, ?_, h2, ?_⟩
    · show A.length < A.length + (M.length + 1); omega
    · rw [e', List.getElem?_append_right (by omega), List.getElem?_append_right (by omega)]
      have : A.length + (b :: M).length - A.length - (b :: M).length = 0 := by omega
      rw [this]; rfl
    · rw [e', List.getElem?_append_right (by omega), Nat.sub_self]; rfl
    · intro j z hj1 hj2 hz
      rw [e', List.getElem?_append_right (by omega), List.getElem?_append_left (by omega)] at hz
      exact h1 z (List.mem_iff_getElem?.mpr ⟨_, hz⟩)
  · intro ⟨n, k, a, b, hk, ha, hb, hlt, hu⟩
    have hnl : n < L.length := (List.getElem?_eq_some_iff.mp ha).1
    have d1 : L.drop k = b :: L.drop (k + 1) := by
      have hkl : k < L.length := by omega
      rw [List.drop_eq_getElem_cons hkl]
      have := (List.getElem?_eq_some_iff.mp hb).2
      rw [this]
    have d2 : L.drop n = a :: L.drop (n + 1) := by
      rw [List.drop_eq_getElem_cons hnl]
      have := (List.getElem?_eq_some_iff.mp ha).2
      rw [this]
    have d3 : L.drop (k + 1) = (L.drop (k + 1)).take (n - (k + 1)) ++ L.drop n := by
      have h := List.take_append_drop (n - (k + 1)) (L.drop (k + 1))
      rw [List.drop_drop] at h
      have e : k + 1 + (n - (k + 1)) = n := by omega
      rw [e] at h
      exact h.symm
    refine ⟨L.take k, b, (L.drop (k + 1)).take (n - (k + 1)), a, L.drop (n + 1), ?_, ?_, hlt⟩
    · rw [← d2, ← d3, ← d1, List.take_append_drop]
    · intro z hz
      rw [List.mem_cons] at hz
      rcases hz with hz | hz
      · rw [hz]; exact hu k b (Nat.le_refl _) hk hb
      · obtain ⟨i, hi⟩ := List.mem_iff_getElem?.mp hz
        have hi2 := hi
        rw [List.getElem?_take] at hi2
        by_cases c : i < n - (k + 1)
        · rw [if_pos c, List.getElem?_drop] at hi2
          exact hu (k + 1 + i) z (by omega) (by omega) hi2
        · rw [if_neg c] at hi2
          exact absurd hi2 (by simp)
/-- the greatest values -/
theorem te_vl_max {P : te_P} {D : List (List Nat)} {r : List Nat} {g : Nat → Nat} (h : te_pk P (D ++ [r]) g) (t : Nat) (ho : te_o P (r ++ [t])) {g' : Nat → Nat} (hg : ∀ v, v < 3 → g' v = if g v < te_vl (te_q P (r ++ [t])) v then te_vl (te_q P (r ++ [t])) v else g v) : te_pk P (D ++ [r ++ [t]]) g' := by
  intro v hv
  obtain ⟨h1, h2⟩ := h v hv
  rw [hg v hv]
  constructor
  · by_cases c : g v < te_vl (te_q P (r ++ [t])) v
    · rw [if_pos c]; exact Or.inr ⟨r ++ [t], ho, rfl⟩
    · rw [if_neg c]; exact h1
  · intro q hq p m e
    have hle : ∀ x, x ≤ g v → x ≤ if g v < te_vl (te_q P (r ++ [t])) v then te_vl (te_q P (r ++ [t])) v else g v := by
      intro x hx
      by_cases c : g v < te_vl (te_q P (r ++ [t])) v
      · rw [if_pos c]; omega
      · rw [if_neg c]; exact hx
    rw [List.mem_append, List.mem_singleton] at hq
    rcases hq with hq | hq
    · exact hle _ (h2 q (List.mem_append_left _ hq) p m e)
    · rw [hq] at e
      rcases List.eq_nil_or_concat m with rfl | ⟨m', z, rfl⟩
      · rw [List.append_nil] at e
        rw [← e]
        by_cases c : g v < te_vl (te_q P (r ++ [t])) v
        · rw [if_pos c]; exact Nat.le_refl _
        · rw [if_neg c]; omega
      · rw [List.concat_eq_append, ← List.append_assoc] at e
        have e2 := (List.append_inj' e rfl).1
        exact hle _ (h2 r (List.mem_append_right _ (List.mem_singleton.mpr rfl)) p m' e2)
theorem te_pk_nil {P : te_P} {D : List (List Nat)} {r : List Nat} {g : Nat → Nat} (h : te_pk P (D ++ [r]) g) : te_pk P (D ++ [r] ++ [[]]) g := by
  intro v hv
  obtain ⟨h1, h2⟩ := h v hv
  refine ⟨h1, fun q hq p m e => ?_⟩
  rw [List.mem_append, List.mem_singleton] at hq
  rcases hq with hq | hq
  · exact h2 q hq p m e
  · rw [hq] at e
    have e2 := (List.append_eq_nil_iff.mp e.symm).1
    rw [e2]
    exact h2 r (List.mem_append_right _ (List.mem_singleton.mpr rfl)) [] r rfl
theorem te_pk_sub {P : te_P} {D : List (List Nat)} {r : List Nat} {g : Nat → Nat} (h : te_pk P (D ++ [r]) g) : te_pk P D g := by
  intro v hv
  obtain ⟨h1, h2⟩ := h v hv
  exact ⟨h1, fun q hq => h2 q (List.mem_append_left _ hq)⟩
theorem te_pk_pre {P : te_P} {D : List (List Nat)} {r m : List Nat} {g : Nat → Nat} (h : te_pk P (D ++ [r ++ m]) g) : te_pk P (D ++ [r]) g := by
  intro v hv
  obtain ⟨h1, h2⟩ := h v hv
  refine ⟨h1, fun q hq p k e => ?_⟩
  rw [List.mem_append, List.mem_singleton] at hq
  rcases hq with hq | hq
  · exact h2 q (List.mem_append_left _ hq) p k e
  · refine h2 (r ++ m) (List.mem_append_right _ (List.mem_singleton.mpr rfl)) p (k ++ m) ?_
    rw [← List.append_assoc, ← e, hq]
theorem te_pk_ini (P : te_P) : te_pk P ([] ++ [[]]) (te_ini P) := by
  intro v _
  refine ⟨Or.inr ⟨[], te_o_nil P, rfl⟩, fun q hq p m e => ?_⟩
  have hq' : q = [] := List.mem_singleton.mp hq
  rw [hq'] at e
  rw [(List.append_eq_nil_iff.mp e.symm).1]
  exact Nat.le_refl _
def te_tot (P : te_P) : Nat := te_sz P 0 + te_sz P 1 + te_sz P 2
def te_cm (P : te_P) (q : List Nat) : Bool := decide (q.length = te_tot P)
def te_rs (P : te_P) (q : List Nat) : Nat := 64 * te_vl (te_q P q) 0 + 8 * te_vl (te_q P q) 1 + te_vl (te_q P q) 2
def te_sh1 (P : te_P) (s : Nat) (q : List Nat) : Nat := if te_cm P q = true then s else if s = 0 ∨ q.length < s then q.length else s
def te_sh (P : te_P) (D : List (List Nat)) : Nat := D.foldl (te_sh1 P) 0
def te_e1 (P : te_P) (t : Nat) (e : Int32) (q : List Nat) : Int32 := if te_cm P q = true then e ||| ((1 : Int32) <<< (nI (te_hn (te_q P q) t) &&& 31)) else e
def te_es (P : te_P) (D : List (List Nat)) (t : Nat) : Int32 := D.foldl (te_e1 P t) 0
theorem te_sh_snoc (P : te_P) (D : List (List Nat)) (q : List Nat) : te_sh P (D ++ [q]) = te_sh1 P (te_sh P D) q := by
  unfold te_sh
  rw [List.foldl_append]; rfl
theorem te_es_snoc (P : te_P) (D : List (List Nat)) (q : List Nat) (t : Nat) : te_es P (D ++ [q]) t = te_e1 P t (te_es P D t) q := by
  unfold te_es
  rw [List.foldl_append]; rfl
/-- one step before another in some whole run -/
def te_ea (P : te_P) (D : List (List Nat)) (x y : Nat × Nat) : Prop := ∃ q, q ∈ D ∧ te_cm P q = true ∧ te_bf (te_L P q) x y
theorem te_ea_snoc (P : te_P) (D : List (List Nat)) (q : List Nat) (x y : Nat × Nat) : te_ea P (D ++ [q]) x y ↔ te_ea P D x y ∨ (te_cm P q = true ∧ te_bf (te_L P q) x y) := by
  unfold te_ea
  constructor
  · intro ⟨p, hp, h⟩
    rw [List.mem_append, List.mem_singleton] at hp
    rcases hp with hp | hp
    · exact Or.inl ⟨p, hp, h⟩
    · rw [hp] at h; exact Or.inr h
  · intro h
    rcases h with ⟨p, hp, h⟩ | h
    · exact ⟨p, List.mem_append_left _ hp, h⟩
    · exact ⟨q, List.mem_append_right _ (List.mem_singleton.mpr rfl), h⟩
noncomputable def te_ct (P : te_P) (D : List (List Nat)) (f : List Nat → Bool) : Nat := ((te_E P D).filter f).length
theorem te_ct_snoc (P : te_P) (D : List (List Nat)) (q : List Nat) (f : List Nat → Bool) : te_ct P (D ++ [q]) f = te_ct P D f + (if te_fs P q = true ∧ f q = true then 1 else 0) := by
  unfold te_ct
  rw [te_E_snoc]
  by_cases c : te_fs P q = true
  · rw [if_pos c, List.filter_append, List.length_append]
    by_cases d : f q = true
    · rw [if_pos ⟨c, d⟩, List.filter_cons_of_pos d]; rfl
    · rw [if_neg (fun z => d z.2), List.filter_cons_of_neg d]; rfl
  · rw [if_neg c, if_neg (fun z => c z.1)]; rfl
theorem te_E_len_snoc (P : te_P) (D : List (List Nat)) (q : List Nat) : (te_E P (D ++ [q])).length = (te_E P D).length + (if te_fs P q = true then 1 else 0) := by
  rw [te_E_snoc]
  by_cases c : te_fs P q = true
  · rw [if_pos c, if_pos c, List.length_append]; rfl
  · rw [if_neg c, if_neg c]; rfl
theorem te_E_len_le (P : te_P) (D : List (List Nat)) : (te_E P D).length ≤ D.length := List.length_filter_le _ _
theorem te_ct_le (P : te_P) (D : List (List Nat)) (f : List Nat → Bool) : te_ct P D f ≤ D.length := Nat.le_trans (List.length_filter_le _ _) (te_E_len_le P D)
