/-! the leaves below a row, the leaves to its right, and how the two machines go on -/
def te_q (P : te_P) (p : List Nat) : te_S := te_run P (te_s0 P) p
theorem te_q_snoc (P : te_P) (p : List Nat) (t : Nat) : te_q P (p ++ [t]) = te_act P (te_q P p) t := by
  unfold te_q
  rw [te_run_app]; rfl
def te_o (P : te_P) (p : List Nat) : Prop := te_ok P (te_s0 P) p
theorem te_o_snoc (P : te_P) (p : List Nat) (t : Nat) : te_o P (p ++ [t]) ↔ te_o P p ∧ t < 3 ∧ te_can P (te_q P p) t = true := by
  unfold te_o te_q
  rw [te_ok_app]
  exact ⟨fun h => ⟨h.1, h.2.1, h.2.2.1⟩, fun h => ⟨h.1, h.2.1, h.2.2, trivial⟩⟩
theorem te_o_nil (P : te_P) : te_o P [] := trivial
theorem te_o_len {P : te_P} (hW : te_W P) {p : List Nat} (h : te_o P p) : te_rm P (te_q P p) + p.length ≤ 9 := by
  have h1 := te_rm_run p _ h
  have h2 := te_rm0 hW
  unfold te_q
  omega
theorem te_o_lt {P : te_P} (hW : te_W P) {p : List Nat} (h : te_o P p) {t : Nat} (ht : t < 3) (hc : te_can P (te_q P p) t = true) : p.length < 9 := by
  have h1 := te_o_len hW h
  have h2 := te_rm_act ht hc
  omega
theorem te_o_take {P : te_P} {p : List Nat} (h : te_o P p) (k : Nat) : te_o P (p.take k) := by
  unfold te_o at *
  rw [← List.take_append_drop k p, te_ok_app] at h
  exact h.1
def te_Lv (P : te_P) (p : List Nat) : List (List Nat) := (te_lv P (9 - p.length) (te_q P p)).map (fun l => p ++ l)
def te_KB (P : te_P) (p : List Nat) (f t : Nat) : List (List Nat) := if f ≤ t ∧ te_can P (te_q P p) t = true then te_Lv P (p ++ [t]) else []
def te_Kd (P : te_P) (p : List Nat) (f : Nat) : List (List Nat) := te_KB P p f 0 ++ (te_KB P p f 1 ++ te_KB P p f 2)
def te_RR (P : te_P) : List Nat → List (List Nat)
  | [] => []
  | t :: r => te_Kd P r.reverse (t + 1) ++ te_RR P r
def te_Rs (P : te_P) (p : List Nat) : List (List Nat) := te_RR P p.reverse
theorem te_Rs_nil (P : te_P) : te_Rs P [] = [] := rfl
theorem te_Rs_snoc (P : te_P) (p : List Nat) (t : Nat) : te_Rs P (p ++ [t]) = te_Kd P p (t + 1) ++ te_Rs P p := by
  unfold te_Rs
  rw [List.reverse_append]
  show te_Kd P p.reverse.reverse (t + 1) ++ te_RR P p.reverse = _
  rw [List.reverse_reverse]
theorem te_all_Lv (P : te_P) : te_all P = te_Lv P [] := by
  unfold te_all te_Lv
  have e : (fun l : List Nat => [] ++ l) = id := rfl
  rw [e, List.map_id]
  rfl
theorem te_Lv_stk {P : te_P} {p : List Nat} (h : te_stb P (te_q P p) = true) : te_Lv P p = [p] := by
  unfold te_Lv
  have e : te_lv P (9 - p.length) (te_q P p) = [[]] := by
    cases 9 - p.length with
    | zero => rfl
    | succ n => exact if_pos h
  rw [e]
  show [p ++ []] = [p]
  rw [List.append_nil]
theorem te_br_KB {P : te_P} {p : List Nat} {n t : Nat} (hn : 9 - p.length = n + 1) : (te_br P (te_q P p) t (te_lv P n (te_act P (te_q P p) t))).map (fun l => p ++ l) = te_KB P p 0 t := by
  unfold te_br te_KB te_Lv
  by_cases c : te_can P (te_q P p) t = true
  · rw [if_pos c, if_pos ⟨Nat.zero_le _, c⟩, List.map_map, te_q_snoc]
    have e : 9 - (p ++ [t]).length = n := by rw [List.length_append]; show 9 - (p.length + 1) = n; omega
    rw [e]
    refine List.map_congr_left ?_
    intro l _
    show p ++ t :: l = p ++ [t] ++ l
    rw [List.append_assoc]; rfl
  · rw [if_neg c, if_neg (fun h => c h.2)]; rfl
theorem te_Lv_kd {P : te_P} (hW : te_W P) {p : List Nat} (ho : te_o P p) (h : te_stb P (te_q P p) = false) : te_Lv P p = te_Kd P p 0 := by
  obtain ⟨t, ht, hc⟩ := te_not_stk.mp h
  have hl := te_o_lt hW ho ht hc
  obtain ⟨n, hn⟩ : ∃ n, 9 - p.length = n + 1 := ⟨8 - p.length, by omega⟩
  unfold te_Lv te_Kd
  rw [hn]
  show (if te_stb P (te_q P p) = true then [[]] else _).map _ = _
  rw [if_neg (by rw [h]; decide), List.map_append, List.map_append, te_br_KB hn, te_br_KB hn, te_br_KB hn]
theorem te_KB_no {P : te_P} {p : List Nat} {f t : Nat} (h : f ≤ t → te_can P (te_q P p) t = false) : te_KB P p f t = [] := by
  unfold te_KB
  rw [if_neg]
  intro ⟨a, b⟩
  rw [h a] at b
  exact absurd b (by decide)
theorem te_KB_yes {P : te_P} {p : List Nat} {f t : Nat} (h : f ≤ t) (hc : te_can P (te_q P p) t = true) : te_KB P p f t = te_Lv P (p ++ [t]) := by
  unfold te_KB
  rw [if_pos ⟨h, hc⟩]
theorem te_KB_same {P : te_P} {p : List Nat} {f g t : Nat} (h : f ≤ t) (hg : g ≤ t) : te_KB P p f t = te_KB P p g t := by
  unfold te_KB
  by_cases c : te_can P (te_q P p) t = true
  · rw [if_pos ⟨h, c⟩, if_pos ⟨hg, c⟩]
  · rw [if_neg (fun z => c z.2), if_neg (fun z => c z.2)]
theorem te_Kd_none {P : te_P} {p : List Nat} {f : Nat} (h : ∀ t, f ≤ t → t < 3 → te_can P (te_q P p) t = false) : te_Kd P p f = [] := by
  unfold te_Kd
  rw [te_KB_no (fun a => h 0 a (by omega)), te_KB_no (fun a => h 1 a (by omega)), te_KB_no (fun a => h 2 a (by omega))]
  rfl
theorem te_Kd_next {P : te_P} {p : List Nat} {f t : Nat} (hf : f ≤ t) (ht : t < 3) (hc : te_can P (te_q P p) t = true) (h : ∀ j, f ≤ j → j < t → te_can P (te_q P p) j = false) : te_Kd P p f = te_Lv P (p ++ [t]) ++ te_Kd P p (t + 1) := by
  unfold te_Kd
  have : t = 0 ∨ t = 1 ∨ t = 2 := by omega
  rcases this with rfl | rfl | rfl
  · rw [te_KB_yes hf hc, te_KB_no (t := 0) (fun a => absurd a (by omega)), te_KB_same (f := f) (g := 0 + 1) (t := 1) (by omega) (by omega), te_KB_same (f := f) (g := 0 + 1) (t := 2) (by omega) (by omega)]
    rfl
  · rw [te_KB_no (f := f) (t := 0) (fun a => h 0 a (by omega)), te_KB_yes hf hc, te_KB_no (f := 1 + 1) (t := 0) (fun a => absurd a (by omega)), te_KB_no (f := 1 + 1) (t := 1) (fun a => absurd a (by omega)), te_KB_same (f := f) (g := 1 + 1) (t := 2) (by omega) (by omega)]
    rfl
  · rw [te_KB_no (f := f) (t := 0) (fun a => h 0 a (by omega)), te_KB_no (f := f) (t := 1) (fun a => h 1 a (by omega)), te_KB_yes hf hc, te_KB_no (f := 2 + 1) (t := 0) (fun a => absurd a (by omega)), te_KB_no (f := 2 + 1) (t := 1) (fun a => absurd a (by omega)), te_KB_no (f := 2 + 1) (t := 2) (fun a => absurd a (by omega))]
    simp
/-- what the first machine needs: on to the least able thread -/
theorem te_x2 {P : te_P} (hW : te_W P) {p : List Nat} (ho : te_o P p) {t : Nat} (ht : t < 3) (hc : te_can P (te_q P p) t = true) (h : ∀ j, j < t → te_can P (te_q P p) j = false) : te_Lv P p ++ te_Rs P p = te_Lv P (p ++ [t]) ++ te_Rs P (p ++ [t]) := by
  rw [te_Lv_kd hW ho (te_not_stk.mpr ⟨t, ht, hc⟩), te_Kd_next (Nat.zero_le _) ht hc (fun j _ hj => h j hj), te_Rs_snoc, List.append_assoc]
theorem te_x4 {P : te_P} {p : List Nat} {t : Nat} (h : ∀ j, t < j → j < 3 → te_can P (te_q P p) j = false) : te_Rs P (p ++ [t]) = te_Rs P p := by
  rw [te_Rs_snoc, te_Kd_none (fun j a b => h j a b)]; rfl
theorem te_x5 {P : te_P} {p : List Nat} {t t' : Nat} (hlt : t < t') (ht : t' < 3) (hc : te_can P (te_q P p) t' = true) (h : ∀ j, t < j → j < t' → te_can P (te_q P p) j = false) : te_Rs P (p ++ [t]) = te_Lv P (p ++ [t']) ++ te_Rs P (p ++ [t']) := by
  rw [te_Rs_snoc, te_Rs_snoc, te_Kd_next hlt ht hc (fun j a b => h j a b), List.append_assoc]
/-- where the next run first differs: none, or a place and a thread -/
def te_Bn (P : te_P) (r : List Nat) : Option (Nat × Nat) → Prop
  | none => te_Rs P r = []
  | some (k, t) => k < r.length ∧ t < 3 ∧ te_can P (te_q P (r.take k)) t = true ∧ te_Rs P r = te_Lv P (r.take k ++ [t]) ++ te_Rs P (r.take k ++ [t])
theorem te_Bn_nil (P : te_P) : te_Bn P [] none := rfl
theorem te_Bn_keep {P : te_P} {r : List Nat} {b : Option (Nat × Nat)} (h : te_Bn P r b) {t : Nat} (hn : ∀ j, t < j → j < 3 → te_can P (te_q P r) j = false) : te_Bn P (r ++ [t]) b := by
  cases b with
  | none => exact (te_x4 hn).trans h
  | some kt =>
    obtain ⟨k, t'⟩ := kt
    obtain ⟨h1, h2, h3, h4⟩ := h
    have e : (r ++ [t]).take k = r.take k := List.take_append_of_le_length (by omega)
    show k < (r ++ [t]).length ∧ t' < 3 ∧ te_can P (te_q P ((r ++ [t]).take k)) t' = true ∧ te_Rs P (r ++ [t]) = te_Lv P ((r ++ [t]).take k ++ [t']) ++ te_Rs P ((r ++ [t]).take k ++ [t'])
    rw [e, te_x4 hn]
    refine ⟨?_, h2, h3, h4⟩
    rw [List.length_append]; show k < r.length + 1; omega
theorem te_Bn_new {P : te_P} {r : List Nat} {t t' : Nat} (hlt : t < t') (ht : t' < 3) (hc : te_can P (te_q P r) t' = true) (h : ∀ j, t < j → j < t' → te_can P (te_q P r) j = false) : te_Bn P (r ++ [t]) (some (r.length, t')) := by
  have e : (r ++ [t]).take r.length = r := by
    rw [List.take_append_of_le_length (Nat.le_refl _), List.take_length]
  show r.length < (r ++ [t]).length ∧ t' < 3 ∧ te_can P (te_q P ((r ++ [t]).take r.length)) t' = true ∧ te_Rs P (r ++ [t]) = te_Lv P ((r ++ [t]).take r.length ++ [t']) ++ te_Rs P ((r ++ [t]).take r.length ++ [t'])
  rw [e]
  refine ⟨?_, ht, hc, te_x5 hlt ht hc h⟩
  rw [List.length_append]; show r.length < r.length + 1; omega
/-- the turns of the second machine -/
def te_tk (P : te_P) : Nat → te_S → Nat
  | 0, _ => 1
  | n + 1, s => 1 + ((if te_can P s 0 = true then 1 + te_tk P n (te_act P s 0) else 0) + ((if te_can P s 1 = true then 1 + te_tk P n (te_act P s 1) else 0) + (if te_can P s 2 = true then 1 + te_tk P n (te_act P s 2) else 0)))
def te_Tk (P : te_P) (p : List Nat) : Nat := te_tk P (9 - p.length) (te_q P p)
def te_TB (P : te_P) (p : List Nat) (f t : Nat) : Nat := if f ≤ t ∧ te_can P (te_q P p) t = true then 1 + te_Tk P (p ++ [t]) else 0
def te_TK (P : te_P) (p : List Nat) (f : Nat) : Nat := 1 + (te_TB P p f 0 + (te_TB P p f 1 + te_TB P p f 2))
def te_TR (P : te_P) : List Nat → Nat
  | [] => 0
  | t :: r => te_TK P r.reverse (t + 1) + te_TR P r
def te_Ts (P : te_P) (p : List Nat) : Nat := te_TR P p.reverse
theorem te_Ts_snoc (P : te_P) (p : List Nat) (t : Nat) : te_Ts P (p ++ [t]) = te_TK P p (t + 1) + te_Ts P p := by
  unfold te_Ts
  rw [List.reverse_append]
  show te_TK P p.reverse.reverse (t + 1) + te_TR P p.reverse = _
  rw [List.reverse_reverse]
theorem te_TB_no {P : te_P} {p : List Nat} {f t : Nat} (h : f ≤ t → te_can P (te_q P p) t = false) : te_TB P p f t = 0 := by
  unfold te_TB
  rw [if_neg]
  intro ⟨a, b⟩
  rw [h a] at b
  exact absurd b (by decide)
theorem te_TB_yes {P : te_P} {p : List Nat} {f t : Nat} (h : f ≤ t) (hc : te_can P (te_q P p) t = true) : te_TB P p f t = 1 + te_Tk P (p ++ [t]) := by
  unfold te_TB
  rw [if_pos ⟨h, hc⟩]
theorem te_TB_same {P : te_P} {p : List Nat} {f g t : Nat} (h : f ≤ t) (hg : g ≤ t) : te_TB P p f t = te_TB P p g t := by
  unfold te_TB
  by_cases c : te_can P (te_q P p) t = true
  · rw [if_pos ⟨h, c⟩, if_pos ⟨hg, c⟩]
  · rw [if_neg (fun z => c z.2), if_neg (fun z => c z.2)]
theorem te_Tk_TK {P : te_P} (hW : te_W P) {p : List Nat} (ho : te_o P p) : te_Tk P p = te_TK P p 0 := by
  cases hb : te_stb P (te_q P p) with
  | true =>
    have hs := te_stb_t.mp hb
    have e : te_TK P p 0 = 1 := by
      unfold te_TK
      rw [te_TB_no (fun _ => hs 0 (by omega)), te_TB_no (fun _ => hs 1 (by omega)), te_TB_no (fun _ => hs 2 (by omega))]
    rw [e]
    unfold te_Tk
    cases 9 - p.length with
    | zero => rfl
    | succ n =>
      show 1 + _ = 1
      rw [hs 0 (by omega), hs 1 (by omega), hs 2 (by omega)]
      rfl
  | false =>
    obtain ⟨t, ht, hc⟩ := te_not_stk.mp hb
    have hl := te_o_lt hW ho ht hc
    obtain ⟨n, hn⟩ : ∃ n, 9 - p.length = n + 1 := ⟨8 - p.length, by omega⟩
    have f : ∀ t, (if te_can P (te_q P p) t = true then 1 + te_tk P n (te_act P (te_q P p) t) else 0) = te_TB P p 0 t := by
      intro t
      unfold te_TB te_Tk
      have e : 9 - (p ++ [t]).length = n := by rw [List.length_append]; show 9 - (p.length + 1) = n; omega
      rw [e, te_q_snoc]
      by_cases c : te_can P (te_q P p) t = true
      · rw [if_pos c, if_pos ⟨Nat.zero_le _, c⟩]
      · rw [if_neg c, if_neg (fun z => c z.2)]
    unfold te_Tk te_TK
    rw [hn, ← f 0, ← f 1, ← f 2]
    rfl
theorem te_TK_none {P : te_P} {p : List Nat} {f : Nat} (h : ∀ t, f ≤ t → t < 3 → te_can P (te_q P p) t = false) : te_TK P p f = 1 := by
  unfold te_TK
  rw [te_TB_no (fun a => h 0 a (by omega)), te_TB_no (fun a => h 1 a (by omega)), te_TB_no (fun a => h 2 a (by omega))]
theorem te_TK_next {P : te_P} {p : List Nat} {f t : Nat} (hf : f ≤ t) (ht : t < 3) (hc : te_can P (te_q P p) t = true) (h : ∀ j, f ≤ j → j < t → te_can P (te_q P p) j = false) : te_TK P p f = 1 + (te_Tk P (p ++ [t]) + te_TK P p (t + 1)) := by
  unfold te_TK
  have : t = 0 ∨ t = 1 ∨ t = 2 := by omega
  rcases this with rfl | rfl | rfl
  · rw [te_TB_yes hf hc, te_TB_no (f := 0 + 1) (t := 0) (fun a => absurd a (by omega)), te_TB_same (f := f) (g := 0 + 1) (t := 1) (by omega) (by omega), te_TB_same (f := f) (g := 0 + 1) (t := 2) (by omega) (by omega)]
    omega
  · rw [te_TB_no (f := f) (t := 0) (fun a => h 0 a (by omega)), te_TB_yes hf hc, te_TB_no (f := 1 + 1) (t := 0) (fun a => absurd a (by omega)), te_TB_no (f := 1 + 1) (t := 1) (fun a => absurd a (by omega)), te_TB_same (f := f) (g := 1 + 1) (t := 2) (by omega) (by omega)]
    omega
  · rw [te_TB_no (f := f) (t := 0) (fun a => h 0 a (by omega)), te_TB_no (f := f) (t := 1) (fun a => h 1 a (by omega)), te_TB_yes hf hc, te_TB_no (f := 2 + 1) (t := 0) (fun a => absurd a (by omega)), te_TB_no (f := 2 + 1) (t := 1) (fun a => absurd a (by omega)), te_TB_no (f := 2 + 1) (t := 2) (fun a => absurd a (by omega))]
    omega
/-- the second machine goes down, and up -/
theorem te_y_down {P : te_P} (hW : te_W P) {p : List Nat} (ho : te_o P p) {f t : Nat} (hf : f ≤ t) (ht : t < 3) (hc : te_can P (te_q P p) t = true) (h : ∀ j, f ≤ j → j < t → te_can P (te_q P p) j = false) : te_TK P p f + te_Ts P p = 1 + (te_TK P (p ++ [t]) 0 + te_Ts P (p ++ [t])) := by
  have ho' : te_o P (p ++ [t]) := (te_o_snoc P p t).mpr ⟨ho, ht, hc⟩
  rw [te_TK_next hf ht hc h, te_Ts_snoc, te_Tk_TK hW ho']
  omega
theorem te_y_up {P : te_P} {p : List Nat} {t f : Nat} (h : ∀ j, f ≤ j → j < 3 → te_can P (te_q P (p ++ [t])) j = false) : te_TK P (p ++ [t]) f + te_Ts P (p ++ [t]) = 1 + (te_TK P p (t + 1) + te_Ts P p) := by
  rw [te_TK_none h, te_Ts_snoc]
def te_bt : Nat → Nat → Nat → Nat → Nat
  | 0, _, _, _ => 1
  | n + 1, a, b, c => 1 + ((if a = 0 then 0 else 1 + te_bt n (a - 1) b c) + ((if b = 0 then 0 else 1 + te_bt n a (b - 1) c) + (if c = 0 then 0 else 1 + te_bt n a b (c - 1))))
theorem te_bt_le : ∀ a, a < 4 → ∀ b, b < 4 → ∀ c, c < 4 → te_bt 9 a b c < 100000 := by decide +kernel
theorem te_tk_le {P : te_P} : ∀ (n : Nat) (s : te_S), te_tk P n s ≤ te_bt n (te_sz P 0 - te_dn s 0) (te_sz P 1 - te_dn s 1) (te_sz P 2 - te_dn s 2) := by
  intro n
  induction n with
  | zero => intro s; exact Nat.le_refl 1
  | succ n ih =>
    intro s
    have i0 := ih (te_act P s 0)
    have i1 := ih (te_act P s 1)
    have i2 := ih (te_act P s 2)
    simp only [te_dn_a, Nat.reduceEqDiff, ↓reduceIte] at i0 i1 i2
    have f : ∀ t, ∀ A B : Nat, A ≤ B → (if te_can P s t = true then 1 + A else 0) ≤ (if te_sz P t - te_dn s t = 0 then 0 else 1 + B) := by
      intro t A B h
      by_cases hc : te_can P s t = true
      · have hl := te_can_lt hc
        rw [if_pos hc, if_neg (by omega)]; omega
      · rw [if_neg hc]; exact Nat.zero_le _
    refine Nat.add_le_add_left (Nat.add_le_add (f 0 _ _ ?_) (Nat.add_le_add (f 1 _ _ ?_) (f 2 _ _ ?_))) 1
    · exact (show te_sz P 0 - te_dn s 0 - 1 = te_sz P 0 - (te_dn s 0 + 1) by omega) ▸ i0
    · exact (show te_sz P 1 - te_dn s 1 - 1 = te_sz P 1 - (te_dn s 1 + 1) by omega) ▸ i1
    · exact (show te_sz P 2 - te_dn s 2 - 1 = te_sz P 2 - (te_dn s 2 + 1) by omega) ▸ i2
theorem te_TK_le {P : te_P} (hW : te_W P) : te_TK P [] 0 + te_Ts P [] < 100000 := by
  have h0 := hW.1 0 (by omega)
  have h1 := hW.1 1 (by omega)
  have h2 := hW.1 2 (by omega)
  have h := Nat.lt_of_le_of_lt (te_tk_le (P := P) 9 (te_s0 P)) (te_bt_le _ (by omega) _ (by omega) _ (by omega))
  rw [← te_Tk_TK hW (te_o_nil P)]
  exact h
/-- every row goes on to a leaf -/
theorem te_lv_ne {P : te_P} : ∀ (n : Nat) (s : te_S), ∃ m, m ∈ te_lv P n s := by
  intro n
  induction n with
  | zero => intro s; exact ⟨[], List.mem_singleton.mpr rfl⟩
  | succ n ih =>
    intro s
    show ∃ m, m ∈ if te_stb P s = true then [[]] else _
    cases hb : te_stb P s with
    | true => exact ⟨[], List.mem_singleton.mpr rfl⟩
    | false =>
      rw [if_neg (by decide)]
      obtain ⟨t, ht, hc⟩ := te_not_stk.mp hb
      obtain ⟨m, hm⟩ := ih (te_act P s t)
      refine ⟨t :: m, ?_⟩
      rw [List.mem_append, List.mem_append]
      have hx : ∀ t, te_can P s t = true → ∀ m, m ∈ te_lv P n (te_act P s t) → (t :: m) ∈ te_br P s t (te_lv P n (te_act P s t)) := fun t hc m hm => te_br_mem.mpr ⟨hc, m, hm, rfl⟩
      have : t = 0 ∨ t = 1 ∨ t = 2 := by omega
      rcases this with rfl | rfl | rfl
      · exact Or.inl (hx 0 hc m hm)
      · exact Or.inr (Or.inl (hx 1 hc m hm))
      · exact Or.inr (Or.inr (hx 2 hc m hm))
theorem te_leaf {P : te_P} (hW : te_W P) {p : List Nat} (ho : te_o P p) : ∃ m, p ++ m ∈ te_all P := by
  obtain ⟨m, hm⟩ := te_lv_ne (P := P) (te_rm P (te_q P p)) (te_q P p)
  rw [te_lv_mem _ _ _ (Nat.le_refl _)] at hm
  refine ⟨m, (te_all_mem hW _).mpr ⟨(te_ok_app _ _ _).mpr ⟨ho, hm.1⟩, ?_⟩⟩
  rw [te_run_app]; exact hm.2
/-- the greatest value of a variable over the rows met so far -/
def te_pk (P : te_P) (D : List (List Nat)) (g : Nat → Nat) : Prop :=
  ∀ v, v < 3 → (g v = 0 ∨ ∃ p, te_o P p ∧ te_vl (te_q P p) v = g v) ∧ ∀ q, q ∈ D → ∀ p m, q = p ++ m → te_vl (te_q P p) v ≤ g v
theorem te_pk_le {P : te_P} (hW : te_W P) {g g' : Nat → Nat} (h : te_pk P (te_all P) g) (h' : te_pk P (te_all P) g') : ∀ v, v < 3 → g v ≤ g' v := by
  intro v hv
  rcases (h v hv).1 with e | ⟨p, ho, e⟩
  · omega
  · obtain ⟨m, hm⟩ := te_leaf hW ho
    rw [← e]
    exact (h' v hv).2 _ hm p m rfl
theorem te_pk_eq {P : te_P} (hW : te_W P) {g g' : Nat → Nat} (h : te_pk P (te_all P) g) (h' : te_pk P (te_all P) g') : ∀ v, v < 3 → g v = g' v := fun v hv => Nat.le_antisymm (te_pk_le hW h h' v hv) (te_pk_le hW h' h v hv)
