/-! bounds of the reachable states, and the numbers of the two machines -/
def te_Bd (s : te_S) : Prop := (∀ v, v < 3 → te_vl s v < 8) ∧ (∀ l, te_hd s l < 4) ∧ ∀ t, te_hn s t < 8
theorem te_Bd_act {P : te_P} (hW : te_W P) {s : te_S} {t : Nat} (ht : t < 3) (hc : te_can P s t = true) (h : te_Bd s) : te_Bd (te_act P s t) := by
  have hd := te_can_lt hc
  have hs := hW.1 t ht
  obtain ⟨o1, o2, o3, o4⟩ := hW.2.1 t ht (te_dn s t) (by omega)
  obtain ⟨h1, h2, h3⟩ := h
  refine ⟨fun v hv => ?_, fun l => ?_, fun t' => ?_⟩
  · rw [te_vl_act]
    unfold te_wv
    by_cases c : 1 ≤ te_op P t (te_dn s t) ∧ te_op P t (te_dn s t) ≤ 3
    · rw [if_pos c]
      unfold te_u
      by_cases e : v = te_pl P t (te_dn s t)
      · rw [if_pos e]
        unfold te_nv
        by_cases c1 : te_op P t (te_dn s t) = 1
        · rw [if_pos c1]; exact o4
        · rw [if_neg c1]
          by_cases c2 : te_op P t (te_dn s t) = 2
          · rw [if_pos c2]; exact Nat.mod_lt _ (by decide)
          · rw [if_neg c2]; exact Nat.mod_lt _ (by decide)
      · rw [if_neg e]; exact h1 v hv
    · rw [if_neg c]; exact h1 v hv
  · rw [te_hd_act]
    unfold te_wh
    by_cases c : 4 ≤ te_op P t (te_dn s t)
    · rw [if_pos c]
      unfold te_u
      by_cases e : l = te_pl P t (te_dn s t)
      · rw [if_pos e]
        unfold te_nh
        have := h2 (te_pl P t (te_dn s t))
        by_cases c1 : te_op P t (te_dn s t) = 4
        · rw [if_pos c1]; omega
        · rw [if_neg c1]
          by_cases c2 : te_hd s (te_pl P t (te_dn s t)) = t + 1
          · rw [if_pos c2]; decide
          · rw [if_neg c2]; exact this
      · rw [if_neg e]; exact h2 l
    · rw [if_neg c]; exact h2 l
  · rw [te_hn_act]
    unfold te_wn
    by_cases c : te_op P t (te_dn s t) = 0
    · rw [if_pos c]
      unfold te_u
      by_cases e : t' = t
      · rw [if_pos e]; exact h1 _ o2
      · rw [if_neg e]; exact h3 t'
    · rw [if_neg c]; exact h3 t'
theorem te_Bd_run {P : te_P} (hW : te_W P) : ∀ (l : List Nat) (s : te_S), te_ok P s l → te_Bd s → te_Bd (te_run P s l) := by
  intro l
  induction l with
  | nil => intro s _ h; exact h
  | cons t l ih => intro s ho h; exact ih _ ho.2.2 (te_Bd_act hW ho.1 ho.2.1 h)
theorem te_Bd_q {P : te_P} (hW : te_W P) {r : List Nat} (ho : te_o P r) : te_Bd (te_q P r) :=
  te_Bd_run hW r _ ho ⟨fun v hv => hW.2.2 v hv, fun _ => (by decide : (0 : Nat) < 4), fun _ => (by decide : (0 : Nat) < 8)⟩
/-- a step that can be taken: where it stands in the program -/
theorem te_at {P : te_P} (hW : te_W P) {s : te_S} {t : Nat} (ht : t < 3) (hc : te_dn s t < te_sz P t) : te_dn s t < 3 ∧ te_op P t (te_dn s t) ≤ 5 ∧ te_pl P t (te_dn s t) < 3 ∧ (4 ≤ te_op P t (te_dn s t) → te_pl P t (te_dn s t) < 2) ∧ te_am P t (te_dn s t) < 8 := by
  have hs := hW.1 t ht
  have h : te_dn s t < 3 := by omega
  exact ⟨h, hW.2.1 t ht _ h⟩
theorem te_rs_lt {P : te_P} (hW : te_W P) {r : List Nat} (ho : te_o P r) : te_rs P r < 512 := by
  have h := (te_Bd_q hW ho).1
  have h0 := h 0 (by omega)
  have h1 := h 1 (by omega)
  have h2 := h 2 (by omega)
  unfold te_rs
  omega
theorem te_cm_dn {P : te_P} {r : List Nat} (ho : te_o P r) : te_dn (te_q P r) 0 + te_dn (te_q P r) 1 + te_dn (te_q P r) 2 = r.length ∧ te_dn (te_q P r) 0 ≤ te_sz P 0 ∧ te_dn (te_q P r) 1 ≤ te_sz P 1 ∧ te_dn (te_q P r) 2 ≤ te_sz P 2 := by
  have h := te_rm_run r _ ho
  have h0 := te_ok_dn r _ ho 0 (Nat.zero_le _)
  have h1 := te_ok_dn r _ ho 1 (Nat.zero_le _)
  have h2 := te_ok_dn r _ ho 2 (Nat.zero_le _)
  have e : te_rm P (te_s0 P) = te_sz P 0 + te_sz P 1 + te_sz P 2 := rfl
  have e2 : te_rm P (te_run P (te_s0 P) r) = (te_sz P 0 - te_dn (te_run P (te_s0 P) r) 0) + (te_sz P 1 - te_dn (te_run P (te_s0 P) r) 1) + (te_sz P 2 - te_dn (te_run P (te_s0 P) r) 2) := rfl
  rw [e2, e] at h
  show te_dn (te_run P (te_s0 P) r) 0 + te_dn (te_run P (te_s0 P) r) 1 + te_dn (te_run P (te_s0 P) r) 2 = r.length ∧ te_dn (te_run P (te_s0 P) r) 0 ≤ te_sz P 0 ∧ te_dn (te_run P (te_s0 P) r) 1 ≤ te_sz P 1 ∧ te_dn (te_run P (te_s0 P) r) 2 ≤ te_sz P 2
  omega
def te_hI (n : Nat) : Int32 := if n = 0 then -1 else nI (n - 1)
theorem te_hI_m1 : ∀ n, n < 4 → (te_hI n = -1 ↔ n = 0) := by decide +kernel
theorem te_hI_lt : ∀ n, n < 4 → (te_hI n < 0 ↔ n = 0) := by decide +kernel
theorem te_hI_eq : ∀ n, n < 4 → ∀ t, t < 3 → (te_hI n = nI t ↔ n = t + 1) := by decide +kernel
theorem te_hI_0 : te_hI 0 = -1 := rfl
theorem te_hI_s (t : Nat) : te_hI (t + 1) = nI t := if_neg (Nat.succ_ne_zero t)
/-- an array of ints that holds naturals -/
def te_AR (n : Nat) (a : Nat → Int32) (f : Nat → Nat) : Prop := ∀ i, i < n → a i = nI (f i)
theorem te_A_upd {n : Nat} {a : Nat → Int32} {f : Nat → Nat} (h : te_AR n a f) (k x : Nat) : te_AR n (upd a k (nI x)) (te_u f k x) := by
  intro i hi
  unfold upd te_u
  by_cases c : i = k
  · rw [if_pos c, if_pos c]
  · rw [if_neg c, if_neg c]; exact h i hi
