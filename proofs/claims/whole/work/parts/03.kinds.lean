/-! which of two steps comes first; alike rows; the least of alike rows -/
def te_bf : List (Nat × Nat) → Nat × Nat → Nat × Nat → Prop
  | [], _, _ => False
  | z :: L, x, y => (z = x ∧ y ∈ L) ∨ te_bf L x y
theorem te_bf_mem : ∀ {L : List (Nat × Nat)} {x y : Nat × Nat}, te_bf L x y → x ∈ L ∧ y ∈ L := by
  intro L
  induction L with
  | nil => intro x y h; exact absurd h id
  | cons z L ih =>
    intro x y h
    rcases h with h | h
    · exact ⟨by rw [h.1]; exact List.mem_cons_self, List.mem_cons_of_mem _ h.2⟩
    · exact ⟨List.mem_cons_of_mem _ (ih h).1, List.mem_cons_of_mem _ (ih h).2⟩
theorem te_bf_asym : ∀ {L : List (Nat × Nat)} {x y : Nat × Nat}, L.Pairwise (fun x y => x ≠ y) → te_bf L x y → te_bf L y x → False := by
  intro L
  induction L with
  | nil => intro x y _ h; exact absurd h id
  | cons z L ih =>
    intro x y hp h h'
    rw [List.pairwise_cons] at hp
    rcases h with h | h
    · rcases h' with h' | h'
      · exact hp.1 y h.2 h'.1
      · exact hp.1 x (te_bf_mem h').2 h.1
    · rcases h' with h' | h'
      · exact hp.1 y (te_bf_mem h).2 h'.1
      · exact ih hp.2 h h'
theorem te_bf_mid : ∀ (A C : List (Nat × Nat)) (x y : Nat × Nat), x ∈ A → te_bf (A ++ y :: C) x y := by
  intro A
  induction A with
  | nil => intro C x y h; exact absurd h List.not_mem_nil
  | cons z A ih =>
    intro C x y h
    rw [List.mem_cons] at h
    rcases h with h | h
    · exact Or.inl ⟨h.symm, List.mem_append_right _ List.mem_cons_self⟩
    · exact Or.inr (ih C x y h)
theorem te_bf_mid2 : ∀ (A C : List (Nat × Nat)) (x y : Nat × Nat), y ∈ C → te_bf (A ++ x :: C) x y := by
  intro A
  induction A with
  | nil => intro C x y h; exact Or.inl ⟨rfl, h⟩
  | cons z A ih => intro C x y h; exact Or.inr (ih C x y h)
theorem te_bf_swap {z a x y : Nat × Nat} {Y : List (Nat × Nat)} (h1 : ¬ (x = z ∧ y = a)) (h2 : ¬ (x = a ∧ y = z)) : te_bf (z :: a :: Y) x y ↔ te_bf (a :: z :: Y) x y := by
  show ((z = x ∧ y ∈ a :: Y) ∨ ((a = x ∧ y ∈ Y) ∨ te_bf Y x y)) ↔ ((a = x ∧ y ∈ z :: Y) ∨ ((z = x ∧ y ∈ Y) ∨ te_bf Y x y))
  rw [List.mem_cons, List.mem_cons]
  constructor
  · intro h
    rcases h with ⟨e, h | h⟩ | h | h
    · exact absurd ⟨e.symm, h⟩ h1
    · exact Or.inr (Or.inl ⟨e, h⟩)
    · exact Or.inl ⟨h.1, Or.inr h.2⟩
    · exact Or.inr (Or.inr h)
  · intro h
    rcases h with ⟨e, h | h⟩ | h | h
    · exact absurd ⟨e.symm, h⟩ h2
    · exact Or.inr (Or.inl ⟨e, h⟩)
    · exact Or.inl ⟨h.1, Or.inr h.2⟩
    · exact Or.inr (Or.inr h)
theorem te_bf_app : ∀ (A : List (Nat × Nat)) {L M : List (Nat × Nat)} {x y : Nat × Nat}, (∀ w, w ∈ L ↔ w ∈ M) → (te_bf L x y ↔ te_bf M x y) → (te_bf (A ++ L) x y ↔ te_bf (A ++ M) x y) := by
  intro A
  induction A with
  | nil => intro L M x y _ h; exact h
  | cons z A ih =>
    intro L M x y hm h
    show ((z = x ∧ y ∈ A ++ L) ∨ te_bf (A ++ L) x y) ↔ ((z = x ∧ y ∈ A ++ M) ∨ te_bf (A ++ M) x y)
    rw [ih hm h, List.mem_append, List.mem_append, hm]
theorem te_mv {P : te_P} : ∀ (n : List Nat) (s : te_S) (a : Nat) (c : List Nat), (∀ z, z ∈ te_st P s n → te_ti P z (a, te_dn s a) = false) → te_ok P s (n ++ a :: c) →
    te_ok P s (a :: (n ++ c)) ∧ te_run P s (n ++ [a]) = te_run P s (a :: n) ∧ (∀ x, x ∈ te_st P s (n ++ a :: c) ↔ x ∈ te_st P s (a :: (n ++ c))) ∧ ∀ x y, te_ti P x y = true → (te_bf (te_st P s (n ++ a :: c)) x y ↔ te_bf (te_st P s (a :: (n ++ c))) x y) := by
  intro n
  induction n with
  | nil => intro s a c _ h; exact ⟨h, rfl, fun x => Iff.rfl, fun x y _ => Iff.rfl⟩
  | cons z n ih =>
    intro s a c hu h
    have hz : te_ti P (z, te_dn s z) (a, te_dn s a) = false := hu _ List.mem_cons_self
    have hz' : te_ti P (a, te_dn s a) (z, te_dn s z) = false := by rw [te_ti_symm]; exact hz
    have hza : z ≠ a := (te_un hz).1
    have d1 : te_dn (te_act P s z) a = te_dn s a := te_u_ne _ _ (Ne.symm hza)
    have d2 : te_dn (te_act P s a) z = te_dn s z := te_u_ne _ _ hza
    have hc := te_comm hz
    have k1 := te_can_act hz'
    have k2 := te_can_act hz
    obtain ⟨o1, o2, o3, o4⟩ := ih (te_act P s z) a c (fun w hw => by rw [d1]; exact hu w (List.mem_cons_of_mem _ hw)) h.2.2
    have e1 : te_st P s (z :: n ++ a :: c) = (z, te_dn s z) :: te_st P (te_act P s z) (n ++ a :: c) := rfl
    have e2 : te_st P (te_act P s z) (a :: (n ++ c)) = (a, te_dn s a) :: te_st P (te_act P (te_act P s z) a) (n ++ c) := by
      rw [← d1]; rfl
    have e3 : te_st P s (a :: (z :: n ++ c)) = (a, te_dn s a) :: (z, te_dn s z) :: te_st P (te_act P (te_act P s z) a) (n ++ c) := by
      rw [hc, ← d2]; rfl
    refine ⟨⟨o1.1, by rw [← k1]; exact o1.2.1, h.1, by rw [k2]; exact h.2.1, ?_⟩, ?_, ?_, ?_⟩
    · rw [← hc]; exact o1.2.2
    · show te_run P (te_act P s z) (n ++ [a]) = te_run P (te_act P (te_act P s a) z) n
      rw [o2, ← hc]; rfl
    · intro x
      rw [e1, e3, List.mem_cons, o3, e2, List.mem_cons, List.mem_cons, List.mem_cons]
      constructor
      · intro h; rcases h with h | h | h
        · exact Or.inr (Or.inl h)
        · exact Or.inl h
        · exact Or.inr (Or.inr h)
      · intro h; rcases h with h | h | h
        · exact Or.inr (Or.inl h)
        · exact Or.inl h
        · exact Or.inr (Or.inr h)
    · intro x y hxy
      rw [e1, e3]
      have hs : te_bf ((z, te_dn s z) :: te_st P (te_act P s z) (n ++ a :: c)) x y ↔ te_bf ((z, te_dn s z) :: (a, te_dn s a) :: te_st P (te_act P (te_act P s z) a) (n ++ c)) x y := by
        rw [← e2]
        exact te_bf_app [(z, te_dn s z)] o3 (o4 x y hxy)
      rw [hs]
      refine te_bf_swap ?_ ?_
      · intro ⟨p, q⟩; subst p; subst q; rw [hz] at hxy; exact absurd hxy (by decide)
      · intro ⟨p, q⟩; subst p; subst q; rw [hz'] at hxy; exact absurd hxy (by decide)
theorem te_split {P : te_P} : ∀ (A B : List (Nat × Nat)) (l : List Nat) (s : te_S), te_st P s l = A ++ B → ∃ l1 l2, l = l1 ++ l2 ∧ te_st P s l1 = A ∧ te_st P (te_run P s l1) l2 = B := by
  intro A
  induction A with
  | nil => intro B l s h; exact ⟨[], l, rfl, rfl, h⟩
  | cons z A ih =>
    intro B l s h
    cases l with
    | nil => exact absurd h.symm (List.cons_ne_nil z (A ++ B))
    | cons t l =>
      have h1 : (t, te_dn s t) = z := (List.cons.inj h).1
      have h2 : te_st P (te_act P s t) l = A ++ B := (List.cons.inj h).2
      obtain ⟨l1, l2, e1, e2, e3⟩ := ih B l _ h2
      refine ⟨t :: l1, l2, ?_, ?_, e3⟩
      · rw [e1]; rfl
      · show (t, te_dn s t) :: te_st P (te_act P s t) l1 = z :: A
        rw [e2, h1]
def te_like (P : te_P) (l l' : List Nat) : Prop :=
  (∀ t, t < 3 → te_dn (te_run P (te_s0 P) l) t = te_dn (te_run P (te_s0 P) l') t) ∧ ∀ x y : Nat × Nat, x.1 < 3 → x.2 < 3 → y.1 < 3 → y.2 < 3 → 3 * y.1 + y.2 < 3 * x.1 + x.2 → te_ti P x y = true → (te_bf (te_st P (te_s0 P) l) x y ↔ te_bf (te_st P (te_s0 P) l') x y)
def te_nf (P : te_P) (L : List (Nat × Nat)) : Prop :=
  ∃ A b M a C, L = A ++ b :: (M ++ a :: C) ∧ (∀ z, z ∈ b :: M → te_ti P z a = false) ∧ 4 * a.1 + a.2 < 4 * b.1 + b.2
theorem te_st_thr {P : te_P} {s : te_S} {l : List Nat} {z : Nat × Nat} (h : z ∈ te_st P s l) : z.1 ∈ l := by
  rw [te_st_mem, te_dn_run] at h
  have : 0 < l.count z.1 := by omega
  exact List.count_pos_iff.mp this
theorem te_ok_thr {P : te_P} : ∀ (l : List Nat) (s : te_S), te_ok P s l → ∀ t, t ∈ l → t < 3 := by
  intro l
  induction l with
  | nil => intro s _ t h; exact absurd h List.not_mem_nil
  | cons a l ih =>
    intro s h t ht
    rw [List.mem_cons] at ht
    rcases ht with e | e
    · rw [e]; exact h.1
    · exact ih _ h.2.2 t e
theorem te_ok_dn {P : te_P} : ∀ (l : List Nat) (s : te_S), te_ok P s l → ∀ t, te_dn s t ≤ te_sz P t → te_dn (te_run P s l) t ≤ te_sz P t := by
  intro l
  induction l with
  | nil => intro s _ t h; exact h
  | cons a l ih =>
    intro s h t ht
    refine ih _ h.2.2 t ?_
    rw [te_dn_a]
    by_cases c : t = a
    · rw [if_pos c]; have := te_can_lt h.2.1; rw [c]; omega
    · rw [if_neg c]; exact ht
/-- a row that is not the least of its kind has an alike lesser one -/
theorem te_A {P : te_P} (hW : te_W P) {l : List Nat} (hl : te_ok P (te_s0 P) l) (hk : te_stk P (te_run P (te_s0 P) l)) (hn : te_nf P (te_st P (te_s0 P) l)) :
    ∃ l', te_ok P (te_s0 P) l' ∧ te_stk P (te_run P (te_s0 P) l') ∧ te_lt l' l ∧ te_like P l' l := by
  obtain ⟨A, b, M, a, C, e, hu, hlt⟩ := hn
  obtain ⟨l1, l2, e1, e2, e3⟩ := te_split A _ l _ e
  obtain ⟨n, r, f1, f2, f3⟩ := te_split (b :: M) (a :: C) l2 (te_run P (te_s0 P) l1) e3
  cases r with
  | nil => exact absurd f3.symm (List.cons_ne_nil a C)
  | cons t c =>
    cases n with
    | nil => exact absurd f2.symm (List.cons_ne_nil b M)
    | cons w m =>
      have g1 := (List.cons.inj f3).1
      have g2 : (w, te_dn (te_run P (te_s0 P) l1) w) = b := (List.cons.inj f2).1
      subst g2
      subst g1
      have hnt : t ∉ w :: m := by
        intro hin
        have hc : 0 < (w :: m).count t := List.count_pos_iff.mpr hin
        have hd := te_dn_run (P := P) (w :: m) (te_run P (te_s0 P) l1) t
        have hx : (t, te_dn (te_run P (te_s0 P) l1) t) ∈ te_st P (te_run P (te_s0 P) l1) (w :: m) := by
          rw [te_st_mem]; exact ⟨Nat.le_refl _, by simp only; omega⟩
        rw [f2] at hx
        exact (te_un (hu _ hx)).1 rfl
      have hd : te_dn (te_run P (te_run P (te_s0 P) l1) (w :: m)) t = te_dn (te_run P (te_s0 P) l1) t := by
        rw [te_dn_run, List.count_eq_zero.mpr hnt]; rfl
      have hu' : ∀ z, z ∈ te_st P (te_run P (te_s0 P) l1) (w :: m) → te_ti P z (t, te_dn (te_run P (te_s0 P) l1) t) = false := by
        intro z hz
        rw [f2] at hz
        have := hu z hz
        rw [hd] at this
        exact this
      have hl' := hl
      rw [e1, f1, te_ok_app] at hl'
      obtain ⟨q1, q2, q3, q4⟩ := te_mv (w :: m) _ t c hu' hl'.2
      have hrun : te_run P (te_s0 P) (l1 ++ (t :: (w :: m ++ c))) = te_run P (te_s0 P) l := by
        rw [e1, f1, te_run_app, te_run_app]
        have r1 : te_run P (te_run P (te_s0 P) l1) (t :: (w :: m ++ c)) = te_run P (te_run P (te_run P (te_s0 P) l1) (t :: (w :: m))) c := te_run_app (t :: (w :: m)) c _
        have r2 : te_run P (te_run P (te_s0 P) l1) (w :: m ++ t :: c) = te_run P (te_run P (te_run P (te_s0 P) l1) (w :: m ++ [t])) c := by
          have r3 := te_run_app (P := P) (w :: m ++ [t]) c (te_run P (te_s0 P) l1)
          rw [List.append_assoc] at r3
          exact r3
        rw [r1, r2, q2]
      refine ⟨l1 ++ (t :: (w :: m ++ c)), (te_ok_app _ _ _).mpr ⟨hl'.1, q1⟩, ?_, ?_, ?_⟩
      · rw [hrun]; exact hk
      · rw [e1, f1]
        refine te_lt_app l1 _ _ (Or.inl ?_)
        have hw3 : w < 3 := hl'.2.1
        have hb := hW.1 w hw3
        have hb2 := te_can_lt hl'.2.2.1
        have hne : w ≠ t := fun z => hnt (by rw [z]; exact List.mem_cons_self)
        rw [hd] at hlt
        simp only at hlt
        omega
      · refine ⟨fun t _ => by rw [hrun], fun x y _ _ _ _ _ hxy => ?_⟩
        rw [e1, f1, te_st_app, te_st_app]
        exact te_bf_app _ (fun w => (q3 w).symm) (q4 x y hxy).symm
/-- of two alike rows the greater is not the least of its kind -/
theorem te_B {P : te_P} (hW : te_W P) {l l' : List Nat} (hl : te_ok P (te_s0 P) l) (hl' : te_ok P (te_s0 P) l') (hlt : te_lt l' l) (hk : te_like P l' l) : te_nf P (te_st P (te_s0 P) l) := by
  obtain ⟨D, a, R', b, R, e1, e2, hab⟩ := te_lt_pre _ _ hlt
  obtain ⟨hk1, hk2⟩ := hk
  have ha3 : a < 3 := te_ok_thr _ _ hl' a (by rw [e1]; exact List.mem_append_right _ List.mem_cons_self)
  have hq := hk1 a ha3
  rw [e1, e2, te_run_app, te_run_app, te_dn_run, te_dn_run (b :: R), List.count_cons_self, List.count_cons_of_ne (by omega)] at hq
  have haR : a ∈ R := List.count_pos_iff.mp (by omega)
  obtain ⟨M, C, e3, hM⟩ := List.eq_append_cons_of_mem haR
  subst e3
  have hbM : a ∉ b :: M := by
    intro h
    rw [List.mem_cons] at h
    rcases h with h | h
    · omega
    · exact hM h
  have hda : te_dn (te_run P (te_run P (te_s0 P) D) (b :: M)) a = te_dn (te_run P (te_s0 P) D) a := by
    rw [te_dn_run, List.count_eq_zero.mpr hbM]; rfl
  have hL : te_st P (te_s0 P) l = te_st P (te_s0 P) D ++ (b, te_dn (te_run P (te_s0 P) D) b) :: (te_st P (te_act P (te_run P (te_s0 P) D) b) M ++ (a, te_dn (te_run P (te_s0 P) D) a) :: te_st P (te_act P (te_run P (te_run P (te_s0 P) D) (b :: M)) a) C) := by
    have r : te_st P (te_run P (te_s0 P) D) (b :: (M ++ a :: C)) = te_st P (te_run P (te_s0 P) D) (b :: M) ++ te_st P (te_run P (te_run P (te_s0 P) D) (b :: M)) (a :: C) := by
      rw [← te_st_app]; rfl
    rw [e2, te_st_app, r, ← hda]
    rfl
  have hL' : te_st P (te_s0 P) l' = te_st P (te_s0 P) D ++ (a, te_dn (te_run P (te_s0 P) D) a) :: te_st P (te_act P (te_run P (te_s0 P) D) a) R' := by
    rw [e1, te_st_app]; rfl
  have ho := hl
  rw [e2, te_ok_app] at ho
  have ho' := hl'
  rw [e1, te_ok_app] at ho'
  have hia : te_dn (te_run P (te_s0 P) D) a < 3 := by
    have := te_can_lt ho'.2.2.1
    have := hW.1 a ha3
    omega
  refine ⟨_, _, _, _, _, hL, ?_, ?_⟩
  · intro z hz
    cases ht : te_ti P z (a, te_dn (te_run P (te_s0 P) D) a) with
    | false => rfl
    | true =>
      exfalso
      have hz' : z ∈ te_st P (te_run P (te_s0 P) D) (b :: M) := hz
      have hz1 : z.1 ∈ b :: M := te_st_thr hz'
      have hza : z.1 ≠ a := fun h => hbM (h ▸ hz1)
      have hz3 : z.1 < 3 := by
        refine te_ok_thr _ _ ho.2 z.1 ?_
        rw [List.mem_cons] at hz1 ⊢
        rcases hz1 with h | h
        · exact Or.inl h
        · exact Or.inr (List.mem_append_left _ h)
      have hzm := te_st_mem (P := P) (b :: M) (te_run P (te_s0 P) D) z
      have hzr := hzm.mp hz'
      have hfin : z.2 < te_dn (te_run P (te_s0 P) l) z.1 := by
        have r : te_run P (te_s0 P) l = te_run P (te_run P (te_run P (te_s0 P) D) (b :: M)) (a :: C) := by
          rw [e2, te_run_app, ← te_run_app (b :: M)]; rfl
        rw [r, te_dn_run]
        omega
      have hz2 : z.2 < 3 := by
        have := te_ok_dn l _ hl z.1 (Nat.zero_le _)
        have := hW.1 z.1 hz3
        omega
      have hbL : te_bf (te_st P (te_s0 P) l) z (a, te_dn (te_run P (te_s0 P) D) a) := by
        rw [hL]
        have := te_bf_mid (te_st P (te_s0 P) D ++ te_st P (te_run P (te_s0 P) D) (b :: M)) (te_st P (te_act P (te_run P (te_run P (te_s0 P) D) (b :: M)) a) C) z (a, te_dn (te_run P (te_s0 P) D) a) (List.mem_append_right _ hz')
        rw [List.append_assoc] at this
        exact this
      have hbL' : te_bf (te_st P (te_s0 P) l') (a, te_dn (te_run P (te_s0 P) D) a) z := by
        rw [hL']
        refine te_bf_mid2 _ _ _ _ ?_
        rw [te_st_mem]
        constructor
        · rw [te_dn_a, if_neg hza]; exact hzr.1
        · have r : te_run P (te_act P (te_run P (te_s0 P) D) a) R' = te_run P (te_s0 P) l' := by
            rw [e1, te_run_app]; rfl
          rw [r, hk1 z.1 hz3]; exact hfin
      have hne : 3 * z.1 + z.2 ≠ 3 * a + te_dn (te_run P (te_s0 P) D) a := by omega
      rcases Nat.lt_or_gt_of_ne hne with h | h
      · have := (hk2 (a, te_dn (te_run P (te_s0 P) D) a) z ha3 hia hz3 hz2 h (by rw [te_ti_symm]; exact ht)).mp hbL'
        exact te_bf_asym (te_st_nd l _) this hbL
      · have := (hk2 z (a, te_dn (te_run P (te_s0 P) D) a) hz3 hz2 ha3 hia h ht).mpr hbL
        exact te_bf_asym (te_st_nd l' _) this hbL'
  · simp only
    omega
/-- at each leaf: not the least of its kind if and only if an alike one stands before it -/
theorem te_first {P : te_P} (hW : te_W P) {D B : List (List Nat)} {l : List Nat} (h : te_all P = D ++ l :: B) : te_nf P (te_st P (te_s0 P) l) ↔ ∃ l', l' ∈ D ∧ te_like P l' l := by
  have hp : (te_all P).Pairwise te_lt := te_lv_pw 9 _
  have hl := (te_all_mem hW l).mp (by rw [h]; exact List.mem_append_right _ List.mem_cons_self)
  have hp2 := hp
  rw [h, List.pairwise_append] at hp2
  constructor
  · intro hn
    obtain ⟨l', h1, h2, h3, h4⟩ := te_A hW hl.1 hl.2 hn
    refine ⟨l', ?_, h4⟩
    have hm := (te_all_mem hW l').mpr ⟨h1, h2⟩
    rw [h, List.mem_append, List.mem_cons] at hm
    rcases hm with hm | hm | hm
    · exact hm
    · rw [hm] at h3; exact absurd h3 (te_lt_irr _)
    · have := (List.pairwise_cons.mp hp2.2.1).1 l' hm
      exact absurd h3 (fun z => te_lt_asym _ _ z this)
  · intro ⟨l', hm, hk⟩
    have hl' := (te_all_mem hW l').mp (by rw [h]; exact List.mem_append_left _ hm)
    exact te_B hW hl.1 hl'.1 (hp2.2.2 l' hm l List.mem_cons_self) hk
