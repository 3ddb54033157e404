/-! rows of threads, their steps, the list of all maximal rows -/
def te_ok (P : te_P) : te_S → List Nat → Prop
  | _, [] => True
  | s, t :: l => t < 3 ∧ te_can P s t = true ∧ te_ok P (te_act P s t) l
def te_run (P : te_P) : te_S → List Nat → te_S
  | s, [] => s
  | s, t :: l => te_run P (te_act P s t) l
def te_st (P : te_P) : te_S → List Nat → List (Nat × Nat)
  | _, [] => []
  | s, t :: l => (t, te_dn s t) :: te_st P (te_act P s t) l
theorem te_ok_app {P : te_P} : ∀ (l m : List Nat) (s : te_S), te_ok P s (l ++ m) ↔ te_ok P s l ∧ te_ok P (te_run P s l) m := by
  intro l
  induction l with
  | nil => intro m s; exact ⟨fun h => ⟨trivial, h⟩, fun h => h.2⟩
  | cons t l ih =>
    intro m s
    constructor
    · intro h
      have h2 := (ih m _).mp h.2.2
      exact ⟨⟨h.1, h.2.1, h2.1⟩, h2.2⟩
    · intro h
      exact ⟨h.1.1, h.1.2.1, (ih m _).mpr ⟨h.1.2.2, h.2⟩⟩
theorem te_run_app {P : te_P} : ∀ (l m : List Nat) (s : te_S), te_run P s (l ++ m) = te_run P (te_run P s l) m := by
  intro l
  induction l with
  | nil => intro m s; rfl
  | cons t l ih => intro m s; exact ih m _
theorem te_st_app {P : te_P} : ∀ (l m : List Nat) (s : te_S), te_st P s (l ++ m) = te_st P s l ++ te_st P (te_run P s l) m := by
  intro l
  induction l with
  | nil => intro m s; rfl
  | cons t l ih => intro m s; exact congrArg (fun z => (t, te_dn s t) :: z) (ih m _)
theorem te_st_len {P : te_P} : ∀ (l : List Nat) (s : te_S), (te_st P s l).length = l.length := by
  intro l
  induction l with
  | nil => intro s; rfl
  | cons t l ih => intro s; exact congrArg (· + 1) (ih _)
theorem te_dn_a (P : te_P) (s : te_S) (t t' : Nat) : te_dn (te_act P s t) t' = if t' = t then te_dn s t + 1 else te_dn s t' := rfl
theorem te_dn_run {P : te_P} : ∀ (l : List Nat) (s : te_S) (t : Nat), te_dn (te_run P s l) t = te_dn s t + l.count t := by
  intro l
  induction l with
  | nil => intro s t; rfl
  | cons a l ih =>
    intro s t
    show te_dn (te_run P (te_act P s a) l) t = _
    rw [ih, te_dn_a, List.count_cons]
    by_cases c : t = a
    · subst c; simp; omega
    · have c' : ¬ a = t := fun z => c z.symm
      simp [c, c']
theorem te_st_mem {P : te_P} : ∀ (l : List Nat) (s : te_S) (x : Nat × Nat), x ∈ te_st P s l ↔ te_dn s x.1 ≤ x.2 ∧ x.2 < te_dn (te_run P s l) x.1 := by
  intro l
  induction l with
  | nil => intro s x; simp only [te_st, te_run, List.not_mem_nil, false_iff]; omega
  | cons a l ih =>
    intro s x
    show x ∈ (a, te_dn s a) :: te_st P (te_act P s a) l ↔ te_dn s x.1 ≤ x.2 ∧ x.2 < te_dn (te_run P (te_act P s a) l) x.1
    rw [List.mem_cons, ih]
    have hd := te_dn_run (P := P) l (te_act P s a) x.1
    have ha := te_dn_a P s a x.1
    obtain ⟨x1, x2⟩ := x
    simp only [Prod.mk.injEq] at *
    by_cases c : x1 = a
    · subst c
      rw [if_pos rfl] at ha
      omega
    · rw [if_neg c] at ha
      omega
theorem te_st_nd {P : te_P} : ∀ (l : List Nat) (s : te_S), (te_st P s l).Pairwise (fun x y => x ≠ y) := by
  intro l
  induction l with
  | nil => intro s; exact List.Pairwise.nil
  | cons a l ih =>
    intro s
    refine List.Pairwise.cons ?_ (ih _)
    intro y hy e
    rw [← e, te_st_mem] at hy
    have ha := te_dn_a P s a a
    rw [if_pos rfl] at ha
    simp only at hy
    omega
def te_lt : List Nat → List Nat → Prop
  | [], _ => False
  | _ :: _, [] => False
  | a :: l, b :: m => a < b ∨ (a = b ∧ te_lt l m)
theorem te_lt_irr : ∀ l : List Nat, ¬ te_lt l l := by
  intro l
  induction l with
  | nil => exact id
  | cons a l ih =>
    intro h
    rcases h with h | h
    · omega
    · exact ih h.2
theorem te_lt_asym : ∀ l m : List Nat, te_lt l m → te_lt m l → False := by
  intro l
  induction l with
  | nil => intro m h _; exact h
  | cons a l ih =>
    intro m h h'
    cases m with
    | nil => exact h
    | cons b m =>
      rcases h with h | h
      · rcases h' with h' | h'
        · omega
        · omega
      · rcases h' with h' | h'
        · omega
        · exact ih m h.2 h'.2
theorem te_lt_pre : ∀ (l m : List Nat), te_lt l m → ∃ D a R b T, l = D ++ a :: R ∧ m = D ++ b :: T ∧ a < b := by
  intro l
  induction l with
  | nil => intro m h; exact absurd h id
  | cons a l ih =>
    intro m h
    cases m with
    | nil => exact absurd h id
    | cons b m =>
      rcases h with h | h
      · exact ⟨[], a, l, b, m, rfl, rfl, h⟩
      · obtain ⟨D, x, R, y, T, e1, e2, e3⟩ := ih m h.2
        refine ⟨a :: D, x, R, y, T, ?_, ?_, e3⟩
        · rw [e1]; rfl
        · rw [e2, ← h.1]; rfl
theorem te_lt_app : ∀ (D l m : List Nat), te_lt l m → te_lt (D ++ l) (D ++ m) := by
  intro D
  induction D with
  | nil => intro l m h; exact h
  | cons a D ih => intro l m h; exact Or.inr ⟨rfl, ih l m h⟩
def te_stk (P : te_P) (s : te_S) : Prop := ∀ t, t < 3 → te_can P s t = false
def te_stb (P : te_P) (s : te_S) : Bool := !te_can P s 0 && (!te_can P s 1 && !te_can P s 2)
theorem te_stb_t {P : te_P} {s : te_S} : te_stb P s = true ↔ te_stk P s := by
  unfold te_stb
  constructor
  · intro h t ht
    simp only [Bool.and_eq_true, Bool.not_eq_true'] at h
    have : t = 0 ∨ t = 1 ∨ t = 2 := by omega
    rcases this with rfl | rfl | rfl
    · exact h.1
    · exact h.2.1
    · exact h.2.2
  · intro h
    rw [h 0 (by omega), h 1 (by omega), h 2 (by omega)]
    rfl
theorem te_not_stk {P : te_P} {s : te_S} : te_stb P s = false ↔ ∃ t, t < 3 ∧ te_can P s t = true := by
  constructor
  · intro h
    cases h0 : te_can P s 0 with
    | true => exact ⟨0, by omega, h0⟩
    | false =>
      cases h1 : te_can P s 1 with
      | true => exact ⟨1, by omega, h1⟩
      | false =>
        cases h2 : te_can P s 2 with
        | true => exact ⟨2, by omega, h2⟩
        | false => unfold te_stb at h; rw [h0, h1, h2] at h; exact absurd h (by decide)
  · intro ⟨t, ht, hc⟩
    cases hb : te_stb P s with
    | false => rfl
    | true => rw [te_stb_t.mp hb t ht] at hc; exact absurd hc (by decide)
def te_br (P : te_P) (s : te_S) (t : Nat) (L : List (List Nat)) : List (List Nat) := if te_can P s t = true then L.map (fun l => t :: l) else []
def te_lv (P : te_P) : Nat → te_S → List (List Nat)
  | 0, _ => [[]]
  | n + 1, s => if te_stb P s = true then [[]] else te_br P s 0 (te_lv P n (te_act P s 0)) ++ (te_br P s 1 (te_lv P n (te_act P s 1)) ++ te_br P s 2 (te_lv P n (te_act P s 2)))
theorem te_br_mem {P : te_P} {s : te_S} {t : Nat} {L : List (List Nat)} {l : List Nat} : l ∈ te_br P s t L ↔ te_can P s t = true ∧ ∃ m, m ∈ L ∧ l = t :: m := by
  unfold te_br
  by_cases c : te_can P s t = true
  · rw [if_pos c, List.mem_map]
    exact ⟨fun ⟨m, hm, e⟩ => ⟨c, m, hm, e.symm⟩, fun ⟨_, m, hm, e⟩ => ⟨m, hm, e.symm⟩⟩
  · rw [if_neg c]
    exact ⟨fun h => absurd h List.not_mem_nil, fun h => absurd h.1 c⟩
def te_rm (P : te_P) (s : te_S) : Nat := (te_sz P 0 - te_dn s 0) + (te_sz P 1 - te_dn s 1) + (te_sz P 2 - te_dn s 2)
theorem te_can_lt {P : te_P} {s : te_S} {t : Nat} (h : te_can P s t = true) : te_dn s t < te_sz P t := by
  unfold te_can at h
  rw [Bool.and_eq_true, decide_eq_true_eq] at h
  exact h.1
theorem te_rm_act {P : te_P} {s : te_S} {t : Nat} (ht : t < 3) (h : te_can P s t = true) : te_rm P (te_act P s t) + 1 = te_rm P s := by
  have hl := te_can_lt h
  unfold te_rm
  rw [te_dn_a, te_dn_a, te_dn_a]
  have : t = 0 ∨ t = 1 ∨ t = 2 := by omega
  rcases this with rfl | rfl | rfl
  · rw [if_pos rfl, if_neg (by omega), if_neg (by omega)]; omega
  · rw [if_neg (by omega), if_pos rfl, if_neg (by omega)]; omega
  · rw [if_neg (by omega), if_neg (by omega), if_pos rfl]; omega
theorem te_rm_run {P : te_P} : ∀ (l : List Nat) (s : te_S), te_ok P s l → te_rm P (te_run P s l) + l.length = te_rm P s := by
  intro l
  induction l with
  | nil => intro s _; rfl
  | cons t l ih =>
    intro s h
    have a := ih _ h.2.2
    have b := te_rm_act h.1 h.2.1
    show te_rm P (te_run P (te_act P s t) l) + (l.length + 1) = _
    omega
theorem te_rm_stk {P : te_P} {s : te_S} (h : te_rm P s = 0) : te_stk P s := by
  intro t ht
  cases hc : te_can P s t with
  | false => rfl
  | true => have := te_rm_act ht hc; omega
theorem te_lv_mem {P : te_P} : ∀ (n : Nat) (s : te_S) (l : List Nat), te_rm P s ≤ n → (l ∈ te_lv P n s ↔ te_ok P s l ∧ te_stk P (te_run P s l)) := by
  intro n
  induction n with
  | zero =>
    intro s l h
    have hs := te_rm_stk (P := P) (s := s) (by omega)
    show l ∈ [[]] ↔ _
    rw [List.mem_singleton]
    constructor
    · intro e; subst e; exact ⟨trivial, hs⟩
    · intro ⟨h1, _⟩
      cases l with
      | nil => rfl
      | cons t l => have h2 := h1.2.1; rw [hs t h1.1] at h2; exact absurd h2 (by decide)
  | succ n ih =>
    intro s l h
    show l ∈ (if te_stb P s = true then [[]] else _) ↔ _
    by_cases c : te_stb P s = true
    · rw [if_pos c, List.mem_singleton]
      have hs := te_stb_t.mp c
      constructor
      · intro e; subst e; exact ⟨trivial, hs⟩
      · intro ⟨h1, _⟩
        cases l with
        | nil => rfl
        | cons t l => have h2 := h1.2.1; rw [hs t h1.1] at h2; exact absurd h2 (by decide)
    · rw [if_neg c, List.mem_append, List.mem_append, te_br_mem, te_br_mem, te_br_mem]
      have key : ∀ t, t < 3 → ((te_can P s t = true ∧ ∃ m, m ∈ te_lv P n (te_act P s t) ∧ l = t :: m) ↔ (te_ok P s l ∧ te_stk P (te_run P s l)) ∧ ∃ m, l = t :: m) := by
        intro t ht
        constructor
        · intro ⟨h1, m, hm, e⟩
          have hr := te_rm_act ht h1
          rw [ih _ _ (by omega)] at hm
          subst e
          exact ⟨⟨⟨ht, h1, hm.1⟩, hm.2⟩, m, rfl⟩
        · intro ⟨⟨h1, h2⟩, m, e⟩
          subst e
          have hr := te_rm_act ht h1.2.1
          exact ⟨h1.2.1, m, (ih _ _ (by omega)).mpr ⟨h1.2.2, h2⟩, rfl⟩
      rw [key 0 (by omega), key 1 (by omega), key 2 (by omega)]
      constructor
      · intro hh; rcases hh with hh | hh | hh <;> exact hh.1
      · intro hh
        cases l with
        | nil =>
          have := te_stb_t.mpr hh.2
          exact absurd this c
        | cons t m =>
          have ht := hh.1.1
          have : t = 0 ∨ t = 1 ∨ t = 2 := by omega
          rcases this with rfl | rfl | rfl
          · exact Or.inl ⟨hh, m, rfl⟩
          · exact Or.inr (Or.inl ⟨hh, m, rfl⟩)
          · exact Or.inr (Or.inr ⟨hh, m, rfl⟩)
theorem te_br_pw {P : te_P} {s : te_S} {t : Nat} {L : List (List Nat)} (h : L.Pairwise te_lt) : (te_br P s t L).Pairwise te_lt := by
  unfold te_br
  by_cases c : te_can P s t = true
  · rw [if_pos c, List.pairwise_map]
    exact h.imp (fun h => Or.inr ⟨rfl, h⟩)
  · rw [if_neg c]; exact List.Pairwise.nil
theorem te_br_cr {P : te_P} {s : te_S} {t t' : Nat} {L L' : List (List Nat)} (h : t < t') : ∀ a, a ∈ te_br P s t L → ∀ b, b ∈ te_br P s t' L' → te_lt a b := by
  intro a ha b hb
  obtain ⟨_, m, _, rfl⟩ := te_br_mem.mp ha
  obtain ⟨_, m', _, rfl⟩ := te_br_mem.mp hb
  exact Or.inl h
theorem te_lv_pw {P : te_P} : ∀ (n : Nat) (s : te_S), (te_lv P n s).Pairwise te_lt := by
  intro n
  induction n with
  | zero => intro s; exact List.pairwise_cons.mpr ⟨fun a h => absurd h List.not_mem_nil, List.Pairwise.nil⟩
  | succ n ih =>
    intro s
    show (if te_stb P s = true then [[]] else _).Pairwise te_lt
    by_cases c : te_stb P s = true
    · rw [if_pos c]
      exact List.pairwise_cons.mpr ⟨fun a h => absurd h List.not_mem_nil, List.Pairwise.nil⟩
    · rw [if_neg c, List.pairwise_append, List.pairwise_append]
      refine ⟨te_br_pw (ih _), ⟨te_br_pw (ih _), te_br_pw (ih _), te_br_cr (by omega)⟩, ?_⟩
      intro a ha b hb
      rw [List.mem_append] at hb
      rcases hb with hb | hb
      · exact te_br_cr (by omega) a ha b hb
      · exact te_br_cr (by omega) a ha b hb
/-- how many leaves at most -/
def te_bd : Nat → Nat → Nat → Nat → Nat
  | 0, _, _, _ => 1
  | n + 1, a, b, c => if a = 0 ∧ b = 0 ∧ c = 0 then 1 else (if a = 0 then 0 else te_bd n (a - 1) b c) + ((if b = 0 then 0 else te_bd n a (b - 1) c) + (if c = 0 then 0 else te_bd n a b (c - 1)))
theorem te_bd_pos : ∀ n a b c, 1 ≤ te_bd n a b c := by
  intro n
  induction n with
  | zero => intro a b c; exact Nat.le_refl 1
  | succ n ih =>
    intro a b c
    show 1 ≤ if a = 0 ∧ b = 0 ∧ c = 0 then 1 else _
    by_cases h : a = 0 ∧ b = 0 ∧ c = 0
    · rw [if_pos h]; exact Nat.le_refl 1
    · rw [if_neg h]
      have h1 := ih (a - 1) b c
      have h2 := ih a (b - 1) c
      have h3 := ih a b (c - 1)
      by_cases ha : a = 0
      · by_cases hb : b = 0
        · by_cases hc : c = 0
          · exact absurd ⟨ha, hb, hc⟩ h
          · rw [if_neg hc]; omega
        · rw [if_neg hb]; omega
      · rw [if_neg ha]; omega
theorem te_bd_le : ∀ a, a < 4 → ∀ b, b < 4 → ∀ c, c < 4 → te_bd 9 a b c ≤ 1680 := by decide +kernel
theorem te_br_len {P : te_P} {s : te_S} {t : Nat} {L : List (List Nat)} : (te_br P s t L).length = if te_can P s t = true then L.length else 0 := by
  unfold te_br
  by_cases c : te_can P s t = true
  · rw [if_pos c, if_pos c, List.length_map]
  · rw [if_neg c, if_neg c]; rfl
theorem te_lv_len {P : te_P} : ∀ (n : Nat) (s : te_S), (te_lv P n s).length ≤ te_bd n (te_sz P 0 - te_dn s 0) (te_sz P 1 - te_dn s 1) (te_sz P 2 - te_dn s 2) := by
  intro n
  induction n with
  | zero => intro s; exact Nat.le_refl 1
  | succ n ih =>
    intro s
    show (if te_stb P s = true then [[]] else _).length ≤ _
    by_cases c : te_stb P s = true
    · rw [if_pos c]; exact te_bd_pos _ _ _ _
    · rw [if_neg c, List.length_append, List.length_append, te_br_len, te_br_len, te_br_len]
      have i0 := ih (te_act P s 0)
      have i1 := ih (te_act P s 1)
      have i2 := ih (te_act P s 2)
      simp only [te_dn_a, if_pos, if_neg, Nat.reduceEqDiff, ↓reduceIte, Nat.zero_ne_one, Nat.one_ne_zero, Nat.succ_ne_zero, Nat.ne_of_lt] at i0 i1 i2
      obtain ⟨t, ht, hc⟩ := te_not_stk.mp (Bool.eq_false_iff.mpr c)
      have hnz : ¬ (te_sz P 0 - te_dn s 0 = 0 ∧ te_sz P 1 - te_dn s 1 = 0 ∧ te_sz P 2 - te_dn s 2 = 0) := by
        have hl := te_can_lt hc
        have : t = 0 ∨ t = 1 ∨ t = 2 := by omega
        rcases this with rfl | rfl | rfl <;> omega
      show _ ≤ if _ then 1 else _
      rw [if_neg hnz]
      have f : ∀ t, t < 3 → ∀ A B : Nat, A ≤ B → (if te_can P s t = true then A else 0) ≤ (if te_sz P t - te_dn s t = 0 then 0 else B) := by
        intro t _ A B h
        by_cases hc : te_can P s t = true
        · have hl := te_can_lt hc
          rw [if_pos hc, if_neg (by omega)]; exact h
        · rw [if_neg hc]; exact Nat.zero_le _
      refine Nat.add_le_add (f 0 (by omega) _ _ ?_) (Nat.add_le_add (f 1 (by omega) _ _ ?_) (f 2 (by omega) _ _ ?_))
      · exact (show te_sz P 0 - te_dn s 0 - 1 = te_sz P 0 - (te_dn s 0 + 1) by omega) ▸ i0
      · exact (show te_sz P 1 - te_dn s 1 - 1 = te_sz P 1 - (te_dn s 1 + 1) by omega) ▸ i1
      · exact (show te_sz P 2 - te_dn s 2 - 1 = te_sz P 2 - (te_dn s 2 + 1) by omega) ▸ i2
def te_all (P : te_P) : List (List Nat) := te_lv P 9 (te_s0 P)
theorem te_rm0 {P : te_P} (hW : te_W P) : te_rm P (te_s0 P) ≤ 9 := by
  have h0 := hW.1 0 (by omega)
  have h1 := hW.1 1 (by omega)
  have h2 := hW.1 2 (by omega)
  unfold te_rm
  omega
theorem te_all_mem {P : te_P} (hW : te_W P) (l : List Nat) : l ∈ te_all P ↔ te_ok P (te_s0 P) l ∧ te_stk P (te_run P (te_s0 P) l) := te_lv_mem 9 _ l (te_rm0 hW)
theorem te_all_len {P : te_P} (hW : te_W P) : (te_all P).length ≤ 1680 := by
  have h0 := hW.1 0 (by omega)
  have h1 := hW.1 1 (by omega)
  have h2 := hW.1 2 (by omega)
  exact Nat.le_trans (te_lv_len 9 _) (te_bd_le _ (by omega) _ (by omega) _ (by omega))
