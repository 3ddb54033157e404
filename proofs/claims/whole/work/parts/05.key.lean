/-! the number that tells a kind -/
noncomputable def te_b01 (p : Prop) : Nat := @ite Nat p (Classical.propDecidable p) 1 0
theorem te_b01_t {p : Prop} (h : p) : te_b01 p = 1 := by unfold te_b01; rw [if_pos h]
theorem te_b01_f {p : Prop} (h : ¬ p) : te_b01 p = 0 := by unfold te_b01; rw [if_neg h]
theorem te_b01_lt (p : Prop) : te_b01 p < 2 := by
  by_cases h : p
  · rw [te_b01_t h]; decide
  · rw [te_b01_f h]; decide
theorem te_b01_eq {p q : Prop} : te_b01 p = te_b01 q ↔ (p ↔ q) := by
  by_cases h : p
  · by_cases h' : q
    · rw [te_b01_t h, te_b01_t h']; exact ⟨fun _ => ⟨fun _ => h', fun _ => h⟩, fun _ => rfl⟩
    · rw [te_b01_t h, te_b01_f h']; exact ⟨fun z => absurd z (by decide), fun z => absurd (z.mp h) h'⟩
  · by_cases h' : q
    · rw [te_b01_f h, te_b01_t h']; exact ⟨fun z => absurd z (by decide), fun z => absurd (z.mpr h') h⟩
    · rw [te_b01_f h, te_b01_f h']; exact ⟨fun _ => ⟨fun z => absurd z h, fun z => absurd z h'⟩, fun _ => rfl⟩
def te_x (s : Nat) : Nat × Nat := (s / 3, s % 3)
noncomputable def te_bit (P : te_P) (L : List (Nat × Nat)) (s u : Nat) : Nat := te_b01 (te_bf L (te_x s) (te_x u) ∧ te_ti P (te_x s) (te_x u) = true)
noncomputable def te_kin (P : te_P) (L : List (Nat × Nat)) (s : Nat) : Nat → Nat → Nat
  | 0, k => k
  | u + 1, k => te_kin P L s u k * 2 + te_bit P L s u
noncomputable def te_kout (P : te_P) (L : List (Nat × Nat)) : Nat → Nat → Nat
  | 0, k => k
  | s + 1, k => te_kin P L s s (te_kout P L s k)
theorem te_kin_eq {P : te_P} {L L' : List (Nat × Nat)} {s : Nat} : ∀ (n k k' : Nat), te_kin P L s n k = te_kin P L' s n k' ↔ k = k' ∧ ∀ u, u < n → te_bit P L s u = te_bit P L' s u := by
  intro n
  induction n with
  | zero => intro k k'; exact ⟨fun h => ⟨h, fun u hu => absurd hu (Nat.not_lt_zero u)⟩, fun h => h.1⟩
  | succ n ih =>
    intro k k'
    show te_kin P L s n k * 2 + te_bit P L s n = te_kin P L' s n k' * 2 + te_bit P L' s n ↔ _
    have b1 : te_bit P L s n < 2 := te_b01_lt _
    have b2 : te_bit P L' s n < 2 := te_b01_lt _
    constructor
    · intro h
      have e1 : te_kin P L s n k = te_kin P L' s n k' := by omega
      have e2 : te_bit P L s n = te_bit P L' s n := by omega
      have e3 := (ih k k').mp e1
      refine ⟨e3.1, fun u hu => ?_⟩
      by_cases c : u = n
      · rw [c]; exact e2
      · exact e3.2 u (by omega)
    · intro ⟨h1, h2⟩
      rw [(ih k k').mpr ⟨h1, fun u hu => h2 u (by omega)⟩, h2 n (by omega)]
theorem te_kout_eq {P : te_P} {L L' : List (Nat × Nat)} : ∀ (n k k' : Nat), te_kout P L n k = te_kout P L' n k' ↔ k = k' ∧ ∀ s, s < n → ∀ u, u < s → te_bit P L s u = te_bit P L' s u := by
  intro n
  induction n with
  | zero => intro k k'; exact ⟨fun h => ⟨h, fun u hu => absurd hu (Nat.not_lt_zero u)⟩, fun h => h.1⟩
  | succ n ih =>
    intro k k'
    show te_kin P L n n (te_kout P L n k) = te_kin P L' n n (te_kout P L' n k') ↔ _
    rw [te_kin_eq, ih]
    constructor
    · intro ⟨⟨h1, h2⟩, h3⟩
      refine ⟨h1, fun s hs => ?_⟩
      by_cases c : s = n
      · rw [c]; exact h3
      · exact h2 s (by omega)
    · intro ⟨h1, h2⟩
      exact ⟨⟨h1, fun s hs => h2 s (by omega)⟩, h2 n (by omega)⟩
def te_tri : Nat → Nat
  | 0 => 0
  | n + 1 => te_tri n + n
theorem te_kin_lt {P : te_P} {L : List (Nat × Nat)} {s : Nat} : ∀ (n k : Nat), te_kin P L s n k + 1 ≤ (k + 1) * 2 ^ n := by
  intro n
  induction n with
  | zero => intro k; show k + 1 ≤ (k + 1) * 1; omega
  | succ n ih =>
    intro k
    show te_kin P L s n k * 2 + te_bit P L s n + 1 ≤ _
    have b1 : te_bit P L s n < 2 := te_b01_lt _
    have := ih k
    rw [Nat.pow_succ, ← Nat.mul_assoc]
    omega
theorem te_kout_lt {P : te_P} {L : List (Nat × Nat)} : ∀ (n k : Nat), te_kout P L n k + 1 ≤ (k + 1) * 2 ^ te_tri n := by
  intro n
  induction n with
  | zero => intro k; show k + 1 ≤ (k + 1) * 1; omega
  | succ n ih =>
    intro k
    show te_kin P L n n (te_kout P L n k) + 1 ≤ (k + 1) * 2 ^ (te_tri n + n)
    refine Nat.le_trans (te_kin_lt n _) ?_
    rw [Nat.pow_add, ← Nat.mul_assoc]
    exact Nat.mul_le_mul_right _ (ih k)
theorem te_pw : ∀ s, s < 9 → ∀ n, n ≤ s → 2 ^ te_tri s * 2 ^ n ≤ 68719476736 := by decide +kernel
theorem te_pw9 : 2 ^ te_tri 9 = 68719476736 := by decide +kernel
theorem te_k_lt {P : te_P} {L : List (Nat × Nat)} {k s n : Nat} (hk : k < 64) (hs : s < 9) (hn : n ≤ s) : te_kin P L s n (te_kout P L s k) < 4398046511104 := by
  have h1 := te_kin_lt (P := P) (L := L) (s := s) n (te_kout P L s k)
  have h2 := te_kout_lt (P := P) (L := L) s k
  have h3 : (te_kout P L s k + 1) * 2 ^ n ≤ (k + 1) * 2 ^ te_tri s * 2 ^ n := Nat.mul_le_mul_right _ h2
  rw [Nat.mul_assoc] at h3
  have h4 : (k + 1) * (2 ^ te_tri s * 2 ^ n) ≤ 64 * 68719476736 := Nat.mul_le_mul (by omega) (te_pw s hs n hn)
  omega
theorem te_ko_lt {P : te_P} {L : List (Nat × Nat)} {k s : Nat} (hk : k < 64) (hs : s ≤ 9) : te_kout P L s k < 4398046511104 := by
  by_cases c : s = 9
  · have h2 := te_kout_lt (P := P) (L := L) s k
    rw [c, te_pw9] at h2
    rw [c]
    omega
  · exact te_k_lt (n := 0) hk (by omega) (Nat.zero_le _)
noncomputable def te_k0 (P : te_P) (l : List Nat) : Nat := te_dn (te_q P l) 0 + 4 * te_dn (te_q P l) 1 + 16 * te_dn (te_q P l) 2
noncomputable def te_key (P : te_P) (l : List Nat) : Nat := te_kout P (te_st P (te_s0 P) l) 9 (te_k0 P l)
theorem te_dn_le {P : te_P} (hW : te_W P) {l : List Nat} (h : te_o P l) {t : Nat} (ht : t < 3) : te_dn (te_q P l) t ≤ te_sz P t ∧ te_sz P t ≤ 3 := ⟨te_ok_dn l _ h t (Nat.zero_le _), hW.1 t ht⟩
theorem te_k0_lt {P : te_P} (hW : te_W P) {l : List Nat} (h : te_o P l) : te_k0 P l < 64 := by
  have h0 := te_dn_le hW h (t := 0) (by omega)
  have h1 := te_dn_le hW h (t := 1) (by omega)
  have h2 := te_dn_le hW h (t := 2) (by omega)
  unfold te_k0
  omega
theorem te_key_lt {P : te_P} (hW : te_W P) {l : List Nat} (h : te_o P l) : te_key P l < 4398046511104 := te_ko_lt (te_k0_lt hW h) (Nat.le_refl _)
theorem te_x_of {x : Nat × Nat} (h : x.2 < 3) : te_x (3 * x.1 + x.2) = x := by
  obtain ⟨a, b⟩ := x
  simp only at h
  show ((3 * a + b) / 3, (3 * a + b) % 3) = (a, b)
  have e1 : (3 * a + b) / 3 = a := by omega
  have e2 : (3 * a + b) % 3 = b := by omega
  rw [e1, e2]
theorem te_key_like {P : te_P} (hW : te_W P) {l l' : List Nat} (h : te_o P l) (h' : te_o P l') : te_key P l = te_key P l' ↔ te_like P l l' := by
  unfold te_key
  rw [te_kout_eq]
  have d0 := te_dn_le hW h (t := 0) (by omega)
  have d1 := te_dn_le hW h (t := 1) (by omega)
  have d2 := te_dn_le hW h (t := 2) (by omega)
  have d0' := te_dn_le hW h' (t := 0) (by omega)
  have d1' := te_dn_le hW h' (t := 1) (by omega)
  have d2' := te_dn_le hW h' (t := 2) (by omega)
  constructor
  · intro ⟨h1, h2⟩
    unfold te_k0 at h1
    constructor
    · intro t ht
      show te_dn (te_q P l) t = te_dn (te_q P l') t
      have : t = 0 ∨ t = 1 ∨ t = 2 := by omega
      rcases this with rfl | rfl | rfl <;> omega
    · intro x y hx1 hx2 hy1 hy2 hlt ht
      have e := h2 (3 * x.1 + x.2) (by omega) (3 * y.1 + y.2) hlt
      unfold te_bit at e
      rw [te_b01_eq, te_x_of hx2, te_x_of hy2] at e
      exact ⟨fun z => (e.mp ⟨z, ht⟩).1, fun z => (e.mpr ⟨z, ht⟩).1⟩
  · intro ⟨h1, h2⟩
    constructor
    · unfold te_k0
      have a0 : te_dn (te_q P l) 0 = te_dn (te_q P l') 0 := h1 0 (by omega)
      have a1 : te_dn (te_q P l) 1 = te_dn (te_q P l') 1 := h1 1 (by omega)
      have a2 : te_dn (te_q P l) 2 = te_dn (te_q P l') 2 := h1 2 (by omega)
      rw [a0, a1, a2]
    · intro s hs u hu
      unfold te_bit
      rw [te_b01_eq]
      have hx : te_ti P (te_x s) (te_x u) = true → (te_bf (te_st P (te_s0 P) l) (te_x s) (te_x u) ↔ te_bf (te_st P (te_s0 P) l') (te_x s) (te_x u)) := by
        intro ht
        refine h2 _ _ ?_ ?_ ?_ ?_ ?_ ht
        · show s / 3 < 3; omega
        · show s % 3 < 3; omega
        · show u / 3 < 3; omega
        · show u % 3 < 3; omega
        · show 3 * (u / 3) + u % 3 < 3 * (s / 3) + s % 3; omega
      exact ⟨fun z => ⟨(hx z.2).mp z.1, z.2⟩, fun z => ⟨(hx z.2).mpr z.1, z.2⟩⟩
/-- the leaves that stand for their kinds -/
noncomputable def te_fs (P : te_P) (l : List Nat) : Bool := @decide (¬ te_nf P (te_st P (te_s0 P) l)) (Classical.propDecidable _)
theorem te_fs_t {P : te_P} {l : List Nat} : te_fs P l = true ↔ ¬ te_nf P (te_st P (te_s0 P) l) := by
  unfold te_fs
  exact @decide_eq_true_iff _ (Classical.propDecidable _)
noncomputable def te_E (P : te_P) (D : List (List Nat)) : List (List Nat) := D.filter (te_fs P)
theorem te_E_snoc (P : te_P) (D : List (List Nat)) (l : List Nat) : te_E P (D ++ [l]) = if te_fs P l = true then te_E P D ++ [l] else te_E P D := by
  unfold te_E
  rw [List.filter_append]
  by_cases c : te_fs P l = true
  · rw [if_pos c, List.filter_cons_of_pos c]; rfl
  · rw [if_neg c, List.filter_cons_of_neg c]
    show _ ++ [] = _
    rw [List.append_nil]
theorem te_keys {P : te_P} (hW : te_W P) : ∀ (D B : List (List Nat)), te_all P = D ++ B → ∀ l, l ∈ D → ∃ m, m ∈ te_E P D ∧ te_key P m = te_key P l := by
  intro D
  have main : ∀ (n : Nat) (D B : List (List Nat)), D.length = n → te_all P = D ++ B → ∀ l, l ∈ D → ∃ m, m ∈ te_E P D ∧ te_key P m = te_key P l := by
    intro n
    induction n with
    | zero =>
      intro D B hn _ l hl
      rw [List.length_eq_zero_iff.mp hn] at hl
      exact absurd hl List.not_mem_nil
    | succ n ih =>
      intro D B hn hD l hl
      obtain ⟨D', a, rfl⟩ : ∃ D' a, D = D' ++ [a] := by
        have hne : D ≠ [] := by intro z; rw [z] at hn; exact absurd hn (by simp)
        exact ⟨D.dropLast, D.getLast hne, (List.dropLast_concat_getLast hne).symm⟩
      have hD' : te_all P = D' ++ a :: B := by rw [hD, List.append_assoc]; rfl
      have hn' : D'.length = n := by rw [List.length_append] at hn; exact Nat.succ.inj hn
      have hsub : ∀ m, m ∈ te_E P D' → m ∈ te_E P (D' ++ [a]) := by
        intro m hm
        unfold te_E at *
        rw [List.filter_append]
        exact List.mem_append_left _ hm
      have hrec : ∀ l, l ∈ D' → ∃ m, m ∈ te_E P (D' ++ [a]) ∧ te_key P m = te_key P l := by
        intro l hl
        obtain ⟨m, hm, e⟩ := ih D' (a :: B) hn' hD' l hl
        exact ⟨m, hsub m hm, e⟩
      rw [List.mem_append, List.mem_singleton] at hl
      rcases hl with hl | hl
      · exact hrec l hl
      · subst hl
        by_cases c : te_fs P l = true
        · refine ⟨l, ?_, rfl⟩
          rw [te_E_snoc, if_pos c]
          exact List.mem_append_right _ (List.mem_singleton.mpr rfl)
        · have hn : te_nf P (te_st P (te_s0 P) l) := by
            refine Classical.byContradiction fun z => c (te_fs_t.mpr z)
          obtain ⟨l', hl', hk⟩ := (te_first hW hD').mp hn
          have o1 := ((te_all_mem hW l').mp (by rw [hD']; exact List.mem_append_left _ hl')).1
          have o2 := ((te_all_mem hW l).mp (by rw [hD']; exact List.mem_append_right _ List.mem_cons_self)).1
          obtain ⟨m, hm, e⟩ := hrec l' hl'
          exact ⟨m, hm, e.trans ((te_key_like hW o1 o2).mpr hk)⟩
  exact fun B => main D.length D B rfl
/-- fresh for the second machine if and only if first for the first -/
theorem te_fresh {P : te_P} (hW : te_W P) {D B : List (List Nat)} {l : List Nat} (h : te_all P = D ++ l :: B) : te_fs P l = true ↔ ∀ m, m ∈ te_E P D → te_key P m ≠ te_key P l := by
  have o2 := ((te_all_mem hW l).mp (by rw [h]; exact List.mem_append_right _ List.mem_cons_self)).1
  have o1 : ∀ l', l' ∈ D → te_o P l' := fun l' hl' => ((te_all_mem hW l').mp (by rw [h]; exact List.mem_append_left _ hl')).1
  rw [te_fs_t, te_first hW h]
  constructor
  · intro hn m hm e
    have hm' : m ∈ D := (List.mem_filter.mp hm).1
    exact hn ⟨m, hm', (te_key_like hW (o1 m hm') o2).mp e⟩
  · intro hn ⟨l', hl', hk⟩
    obtain ⟨m, hm, e⟩ := te_keys hW D (l :: B) h l' hl'
    exact hn m hm (e.trans ((te_key_like hW (o1 l' hl') o2).mpr hk))
