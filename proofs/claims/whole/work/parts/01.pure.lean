/-! the pure picture: a program, a state, a step, the leaves of the tree of runs -/
abbrev te_P : Type := (Nat → Nat) × (Nat → Nat → Nat) × (Nat → Nat → Nat) × (Nat → Nat → Nat) × (Nat → Nat)
def te_sz (P : te_P) : Nat → Nat := P.1
def te_op (P : te_P) : Nat → Nat → Nat := P.2.1
def te_pl (P : te_P) : Nat → Nat → Nat := P.2.2.1
def te_am (P : te_P) : Nat → Nat → Nat := P.2.2.2.1
def te_ini (P : te_P) : Nat → Nat := P.2.2.2.2
abbrev te_S : Type := (Nat → Nat) × (Nat → Nat) × (Nat → Nat) × (Nat → Nat)
def te_dn (s : te_S) : Nat → Nat := s.1
def te_vl (s : te_S) : Nat → Nat := s.2.1
def te_hd (s : te_S) : Nat → Nat := s.2.2.1
def te_hn (s : te_S) : Nat → Nat := s.2.2.2
def te_u (f : Nat → Nat) (k x : Nat) : Nat → Nat := fun j => if j = k then x else f j
def te_nv (o a h x : Nat) : Nat := if o = 1 then a else if o = 2 then (h + a) % 8 else (x + a) % 8
def te_wv (o p a h : Nat) (f : Nat → Nat) : Nat → Nat := if 1 ≤ o ∧ o ≤ 3 then te_u f p (te_nv o a h (f p)) else f
def te_nh (o t x : Nat) : Nat := if o = 4 then t + 1 else if x = t + 1 then 0 else x
def te_wh (o p t : Nat) (f : Nat → Nat) : Nat → Nat := if 4 ≤ o then te_u f p (te_nh o t (f p)) else f
def te_wn (o t x : Nat) (f : Nat → Nat) : Nat → Nat := if o = 0 then te_u f t x else f
def te_act (P : te_P) (s : te_S) (t : Nat) : te_S :=
  (te_u (te_dn s) t (te_dn s t + 1),
   te_wv (te_op P t (te_dn s t)) (te_pl P t (te_dn s t)) (te_am P t (te_dn s t)) (te_hn s t) (te_vl s),
   te_wh (te_op P t (te_dn s t)) (te_pl P t (te_dn s t)) t (te_hd s),
   te_wn (te_op P t (te_dn s t)) t (te_vl s (te_pl P t (te_dn s t))) (te_hn s))
def te_can (P : te_P) (s : te_S) (t : Nat) : Bool :=
  decide (te_dn s t < te_sz P t) && (decide (te_op P t (te_dn s t) ≠ 4) || decide (te_hd s (te_pl P t (te_dn s t)) = 0))
def te_ti (P : te_P) (x y : Nat × Nat) : Bool :=
  decide (x.1 = y.1) || (decide (4 ≤ te_op P x.1 x.2 ↔ 4 ≤ te_op P y.1 y.2) && (decide (te_pl P x.1 x.2 = te_pl P y.1 y.2) && !(decide (te_op P x.1 x.2 = 0) && decide (te_op P y.1 y.2 = 0))))
def te_W (P : te_P) : Prop :=
  (∀ t, t < 3 → te_sz P t ≤ 3) ∧ (∀ t, t < 3 → ∀ i, i < 3 → te_op P t i ≤ 5 ∧ te_pl P t i < 3 ∧ (4 ≤ te_op P t i → te_pl P t i < 2) ∧ te_am P t i < 8) ∧ ∀ v, v < 3 → te_ini P v < 8
def te_s0 (P : te_P) : te_S := (fun _ => 0, te_ini P, fun _ => 0, fun _ => 0)

theorem te_dn_act (P : te_P) (s : te_S) (t : Nat) : te_dn (te_act P s t) = te_u (te_dn s) t (te_dn s t + 1) := rfl
theorem te_vl_act (P : te_P) (s : te_S) (t : Nat) : te_vl (te_act P s t) = te_wv (te_op P t (te_dn s t)) (te_pl P t (te_dn s t)) (te_am P t (te_dn s t)) (te_hn s t) (te_vl s) := rfl
theorem te_hd_act (P : te_P) (s : te_S) (t : Nat) : te_hd (te_act P s t) = te_wh (te_op P t (te_dn s t)) (te_pl P t (te_dn s t)) t (te_hd s) := rfl
theorem te_hn_act (P : te_P) (s : te_S) (t : Nat) : te_hn (te_act P s t) = te_wn (te_op P t (te_dn s t)) t (te_vl s (te_pl P t (te_dn s t))) (te_hn s) := rfl
theorem te_ext {s s' : te_S} (h1 : te_dn s = te_dn s') (h2 : te_vl s = te_vl s') (h3 : te_hd s = te_hd s') (h4 : te_hn s = te_hn s') : s = s' := by
  obtain ⟨a, b, c, d⟩ := s
  obtain ⟨a', b', c', d'⟩ := s'
  have h1' : a = a' := h1
  have h2' : b = b' := h2
  have h3' : c = c' := h3
  have h4' : d = d' := h4
  subst h1'; subst h2'; subst h3'; subst h4'
  rfl
theorem te_u_eq (f : Nat → Nat) (k x : Nat) : te_u f k x k = x := if_pos rfl
theorem te_u_ne (f : Nat → Nat) {k j : Nat} (x : Nat) (h : j ≠ k) : te_u f k x j = f j := if_neg h
theorem te_u_comm (f : Nat → Nat) {k k' : Nat} (x x' : Nat) (h : k ≠ k') : te_u (te_u f k x) k' x' = te_u (te_u f k' x') k x := by
  funext j
  unfold te_u
  by_cases a : j = k
  · by_cases b : j = k'
    · exact absurd (a.symm.trans b) h
    · rw [if_neg b, if_pos a, if_pos a]
  · by_cases b : j = k'
    · rw [if_pos b, if_neg a, if_pos b]
    · rw [if_neg b, if_neg a, if_neg a, if_neg b]
theorem te_wv_ne {o p a h j : Nat} {f : Nat → Nat} (hj : (1 ≤ o ∧ o ≤ 3) → j ≠ p) : te_wv o p a h f j = f j := by
  unfold te_wv
  by_cases c : 1 ≤ o ∧ o ≤ 3
  · rw [if_pos c]; exact te_u_ne _ _ (hj c)
  · rw [if_neg c]
theorem te_wh_ne {o p t j : Nat} {f : Nat → Nat} (hj : 4 ≤ o → j ≠ p) : te_wh o p t f j = f j := by
  unfold te_wh
  by_cases c : 4 ≤ o
  · rw [if_pos c]; exact te_u_ne _ _ (hj c)
  · rw [if_neg c]
theorem te_wn_ne {o t x j : Nat} {f : Nat → Nat} (hj : j ≠ t) : te_wn o t x f j = f j := by
  unfold te_wn
  by_cases c : o = 0
  · rw [if_pos c]; exact te_u_ne _ _ hj
  · rw [if_neg c]
theorem te_wv_comm {o p a h o' p' a' h' : Nat} (f : Nat → Nat) (hj : (1 ≤ o ∧ o ≤ 3) → (1 ≤ o' ∧ o' ≤ 3) → p ≠ p') : te_wv o' p' a' h' (te_wv o p a h f) = te_wv o p a h (te_wv o' p' a' h' f) := by
  by_cases c : 1 ≤ o ∧ o ≤ 3
  · by_cases c' : 1 ≤ o' ∧ o' ≤ 3
    · have hp := hj c c'
      simp only [te_wv, if_pos c, if_pos c']
      rw [te_u_ne f _ (Ne.symm hp), te_u_ne f _ hp]
      exact te_u_comm f _ _ hp
    · simp only [te_wv, if_neg c']
  · simp only [te_wv, if_neg c]
theorem te_wh_comm {o p t o' p' t' : Nat} (f : Nat → Nat) (hj : 4 ≤ o → 4 ≤ o' → p ≠ p') : te_wh o' p' t' (te_wh o p t f) = te_wh o p t (te_wh o' p' t' f) := by
  by_cases c : 4 ≤ o
  · by_cases c' : 4 ≤ o'
    · have hp := hj c c'
      simp only [te_wh, if_pos c, if_pos c']
      rw [te_u_ne f _ (Ne.symm hp), te_u_ne f _ hp]
      exact te_u_comm f _ _ hp
    · simp only [te_wh, if_neg c']
  · simp only [te_wh, if_neg c]
theorem te_wn_comm {o t x o' t' x' : Nat} (f : Nat → Nat) (h : t ≠ t') : te_wn o' t' x' (te_wn o t x f) = te_wn o t x (te_wn o' t' x' f) := by
  by_cases c : o = 0
  · by_cases c' : o' = 0
    · simp only [te_wn, if_pos c, if_pos c']
      exact te_u_comm f _ _ h
    · simp only [te_wn, if_neg c']
  · simp only [te_wn, if_neg c]
/-- what it means that two steps of two threads are not tied -/
theorem te_un {P : te_P} {x y : Nat × Nat} (hu : te_ti P x y = false) :
    x.1 ≠ y.1 ∧ (4 ≤ te_op P x.1 x.2 → 4 ≤ te_op P y.1 y.2 → te_pl P x.1 x.2 ≠ te_pl P y.1 y.2) ∧ (te_op P x.1 x.2 < 4 → te_op P y.1 y.2 < 4 → (te_op P x.1 x.2 ≠ 0 ∨ te_op P y.1 y.2 ≠ 0) → te_pl P x.1 x.2 ≠ te_pl P y.1 y.2) := by
  unfold te_ti at hu
  simp only [Bool.or_eq_false_iff, decide_eq_false_iff_not, Bool.and_eq_false_iff, Bool.not_eq_false', Bool.and_eq_true, decide_eq_true_eq] at hu
  obtain ⟨h1, h2⟩ := hu
  refine ⟨h1, fun a b e => ?_, fun a b c e => ?_⟩
  · rcases h2 with h | h | h
    · exact h ⟨fun _ => b, fun _ => a⟩
    · exact h e
    · omega
  · rcases h2 with h | h | h
    · exact h ⟨fun z => by omega, fun z => by omega⟩
    · exact h e
    · rcases c with c | c
      · exact c h.1
      · exact c h.2
theorem te_ti_symm (P : te_P) (x y : Nat × Nat) : te_ti P x y = te_ti P y x := by
  unfold te_ti
  have e1 : decide (x.1 = y.1) = decide (y.1 = x.1) := decide_eq_decide.mpr eq_comm
  have e2 : decide (4 ≤ te_op P x.1 x.2 ↔ 4 ≤ te_op P y.1 y.2) = decide (4 ≤ te_op P y.1 y.2 ↔ 4 ≤ te_op P x.1 x.2) := decide_eq_decide.mpr ⟨Iff.symm, Iff.symm⟩
  have e3 : decide (te_pl P x.1 x.2 = te_pl P y.1 y.2) = decide (te_pl P y.1 y.2 = te_pl P x.1 x.2) := decide_eq_decide.mpr eq_comm
  rw [e1, e2, e3, Bool.and_comm (decide (te_op P x.1 x.2 = 0))]
theorem te_comm {P : te_P} {s : te_S} {t t' : Nat} (hu : te_ti P (t, te_dn s t) (t', te_dn s t') = false) : te_act P (te_act P s t) t' = te_act P (te_act P s t') t := by
  obtain ⟨ht, hl, hv⟩ := te_un hu
  simp only at ht hl hv
  have e1 : te_dn (te_act P s t) t' = te_dn s t' := te_u_ne _ _ (Ne.symm ht)
  have e2 : te_dn (te_act P s t') t = te_dn s t := te_u_ne _ _ ht
  have e3 : te_hn (te_act P s t) t' = te_hn s t' := te_wn_ne (Ne.symm ht)
  have e4 : te_hn (te_act P s t') t = te_hn s t := te_wn_ne ht
  refine te_ext ?_ ?_ ?_ ?_
  · rw [te_dn_act P (te_act P s t) t', te_dn_act P (te_act P s t') t, e1, e2, te_dn_act, te_dn_act]
    exact te_u_comm _ _ _ ht
  · rw [te_vl_act P (te_act P s t) t', te_vl_act P (te_act P s t') t, e1, e2, e3, e4, te_vl_act, te_vl_act]
    exact te_wv_comm _ (fun a b => hv (by omega) (by omega) (Or.inl (by omega)))
  · rw [te_hd_act P (te_act P s t) t', te_hd_act P (te_act P s t') t, e1, e2, te_hd_act, te_hd_act]
    exact te_wh_comm _ hl
  · rw [te_hn_act P (te_act P s t) t', te_hn_act P (te_act P s t') t, e1, e2, te_hn_act, te_hn_act, te_vl_act, te_vl_act]
    by_cases c : te_op P t (te_dn s t) = 0
    · by_cases c' : te_op P t' (te_dn s t') = 0
      · rw [te_wv_ne (fun z => absurd z (by omega)), te_wv_ne (fun z => absurd z (by omega))]
        exact te_wn_comm _ ht
      · have r : te_wv (te_op P t' (te_dn s t')) (te_pl P t' (te_dn s t')) (te_am P t' (te_dn s t')) (te_hn s t') (te_vl s) (te_pl P t (te_dn s t)) = te_vl s (te_pl P t (te_dn s t)) :=
          te_wv_ne (fun z => hv (by omega) (by omega) (Or.inr (by omega)))
        rw [r]
        simp only [te_wn, if_neg c']
    · have r : ∀ x f, te_wn (te_op P t (te_dn s t)) t x f = f := fun x f => if_neg c
      rw [r, r]
      by_cases c' : te_op P t' (te_dn s t') = 0
      · rw [te_wv_ne (fun z => Ne.symm (hv (by omega) (by omega) (Or.inl c)))]
      · simp only [te_wn, if_neg c']
theorem te_can_act {P : te_P} {s : te_S} {t t' : Nat} (hu : te_ti P (t, te_dn s t) (t', te_dn s t') = false) : te_can P (te_act P s t') t = te_can P s t := by
  obtain ⟨ht, hl, hv⟩ := te_un hu
  simp only at ht hl hv
  have e2 : te_dn (te_act P s t') t = te_dn s t := te_u_ne _ _ ht
  unfold te_can
  rw [e2]
  by_cases c : te_op P t (te_dn s t) = 4
  · have r : te_hd (te_act P s t') (te_pl P t (te_dn s t)) = te_hd s (te_pl P t (te_dn s t)) := te_wh_ne (fun z => hl (by omega) z)
    rw [r]
  · simp only [ne_eq, c, not_false_eq_true, decide_true, Bool.true_or, Bool.and_true]
