/-! the first machine: tied, first of its kind -/
section
variable {xle xbr xbt xrc xkc xsk xsh : Int32} {xsc xop xpl xod xiv xcu xac xho xta xro xtu xck xgr xes xls : Nat → Int32}
theorem te_ti_iff {P : te_P} {x y : Nat × Nat} : te_ti P x y = true ↔ x.1 = y.1 ∨ ((4 ≤ te_op P x.1 x.2 ↔ 4 ≤ te_op P y.1 y.2) ∧ te_pl P x.1 x.2 = te_pl P y.1 y.2 ∧ ¬ (te_op P x.1 x.2 = 0 ∧ te_op P y.1 y.2 = 0)) := by
  unfold te_ti
  simp only [Bool.or_eq_true, Bool.and_eq_true, Bool.not_eq_true', Bool.and_eq_false_iff, decide_eq_true_eq, decide_eq_false_iff_not]
  constructor
  · intro h
    rcases h with h | ⟨h1, h2, h3⟩
    · exact Or.inl h
    · refine Or.inr ⟨h1, h2, fun k => ?_⟩
      rcases h3 with h3 | h3
      · exact h3 k.1
      · exact h3 k.2
  · intro h
    rcases h with h | ⟨h1, h2, h3⟩
    · exact Or.inl h
    · refine Or.inr ⟨h1, h2, ?_⟩
      by_cases c : te_op P x.1 x.2 = 0
      · exact Or.inr (fun k => h3 ⟨c, k⟩)
      · exact Or.inl c
theorem tx_42 {P : te_P} (hW : te_W P) (hp : te_XP P xsc xop xpl xod xiv) {x y : Nat × Nat} (hx1 : x.1 < 3) (hx2 : x.2 < 3) (hy1 : y.1 < 3) (hy2 : y.2 < 3) {z z' : Int32} (hz : z = z' ↔ (4 ≤ te_op P x.1 x.2 ↔ 4 ≤ te_op P y.1 y.2)) {post : Int32 → Prop} (h1 : ((4 ≤ te_op P x.1 x.2 ↔ 4 ≤ te_op P y.1 y.2) ∧ te_pl P x.1 x.2 = te_pl P y.1 y.2 ∧ ¬ (te_op P x.1 x.2 = 0 ∧ te_op P y.1 y.2 = 0)) → post 1) (h2 : ¬ ((4 ≤ te_op P x.1 x.2 ↔ 4 ≤ te_op P y.1 y.2) ∧ te_pl P x.1 x.2 = te_pl P y.1 y.2 ∧ ¬ (te_op P x.1 x.2 = 0 ∧ te_op P y.1 y.2 = 0)) → post 0) : wX_areTied_42 post (nI (4 * x.1 + x.2)) (nI (4 * y.1 + y.2)) z z' xle xbr xbt xrc xkc xsk xsh xsc xop xpl xod xiv xcu xac xho xta xro xtu xck xgr xes xls := by
  obtain ⟨a1, a2, a3⟩ := hp.2.1 x.1 hx1 x.2 hx2
  obtain ⟨b1, b2, b3⟩ := hp.2.1 y.1 hy1 y.2 hy2
  obtain ⟨w1, w2, w3, w4⟩ := hW.2.1 x.1 hx1 x.2 hx2
  obtain ⟨v1, v2, v3, v4⟩ := hW.2.1 y.1 hy1 y.2 hy2
  have cx : (nI (4 * x.1 + x.2)).toNatClampNeg = 4 * x.1 + x.2 := nI_clamp (by omega)
  have cy : (nI (4 * y.1 + y.2)).toNatClampNeg = 4 * y.1 + y.2 := nI_clamp (by omega)
  have ix : vp_in (nI (4 * x.1 + x.2)) 12 := vp_in_nI (by omega) (by decide)
  have iy : vp_in (nI (4 * y.1 + y.2)) 12 := vp_in_nI (by omega) (by decide)
  unfold wX_areTied_42
  rw [cx, cy, a1, a2, b1, b2]
  exact br_c (fun e => ⟨ix, iy, pk_eq _ _ (fun e2 => ⟨ix, pk_eq _ 0 (fun e3 => ⟨iy, pk_eq _ 0 (fun e4 => h2 (fun k => k.2.2 ⟨e3, e4⟩)) (fun e4 => h1 ⟨hz.mp e, e2, fun k => e4 k.2⟩) rfl rfl (by omega) (by omega)⟩) (fun e3 => h1 ⟨hz.mp e, e2, fun k => e3 k.1⟩) rfl rfl (by omega) (by omega)⟩) (fun e2 => h2 (fun k => e2 k.2.1)) rfl rfl (by omega) (by omega)⟩) (fun e => h2 (fun k => e (hz.mpr k.1)))
theorem tx_areTied {P : te_P} (hW : te_W P) (hp : te_XP P xsc xop xpl xod xiv) {x y : Nat × Nat} (hx1 : x.1 < 3) (hx2 : x.2 < 3) (hy1 : y.1 < 3) (hy2 : y.2 < 3) {post : Int32 → Prop} (h : post (if te_ti P x y = true then 1 else 0)) : wpX_areTied post (xle, xbr, xbt, xrc, xkc, xsk, xsh, xsc, xop, xpl, xod, xiv, xcu, xac, xho, xta, xro, xtu, xck, xgr, xes, xls) (nI (4 * x.1 + x.2)) (nI (4 * y.1 + y.2)) := by
  obtain ⟨a1, a2, a3⟩ := hp.2.1 x.1 hx1 x.2 hx2
  obtain ⟨b1, b2, b3⟩ := hp.2.1 y.1 hy1 y.2 hy2
  obtain ⟨w1, w2, w3, w4⟩ := hW.2.1 x.1 hx1 x.2 hx2
  obtain ⟨v1, v2, v3, v4⟩ := hW.2.1 y.1 hy1 y.2 hy2
  have cx : (nI (4 * x.1 + x.2)).toNatClampNeg = 4 * x.1 + x.2 := nI_clamp (by omega)
  have cy : (nI (4 * y.1 + y.2)).toNatClampNeg = 4 * y.1 + y.2 := nI_clamp (by omega)
  have ix : vp_in (nI (4 * x.1 + x.2)) 12 := vp_in_nI (by omega) (by decide)
  have iy : vp_in (nI (4 * y.1 + y.2)) 12 := vp_in_nI (by omega) (by decide)
  have dx : nI (4 * x.1 + x.2) / 4 = nI x.1 := by
    have := pk_div (a := 4 * x.1 + x.2) (d := 4) (by omega) (by decide) (by decide)
    rw [show (4 * x.1 + x.2) / 4 = x.1 by omega] at this
    exact this
  have dy : nI (4 * y.1 + y.2) / 4 = nI y.1 := by
    have := pk_div (a := 4 * y.1 + y.2) (d := 4) (by omega) (by decide) (by decide)
    rw [show (4 * y.1 + y.2) / 4 = y.1 by omega] at this
    exact this
  unfold wpX_areTied
  dsimp only
  rw [dx, dy, cx, a1]
  refine ⟨by decide, by decide, pk_eq _ _ (fun e => ?_) (fun e => ⟨ix, ?_⟩) rfl rfl (by omega) (by omega)⟩
  · rw [if_pos (te_ti_iff.mpr (Or.inl e))] at h
    exact h
  · have h1 : ((4 ≤ te_op P x.1 x.2 ↔ 4 ≤ te_op P y.1 y.2) ∧ te_pl P x.1 x.2 = te_pl P y.1 y.2 ∧ ¬ (te_op P x.1 x.2 = 0 ∧ te_op P y.1 y.2 = 0)) → post 1 := by
      intro k
      rw [if_pos (te_ti_iff.mpr (Or.inr k))] at h
      exact h
    have h2 : ¬ ((4 ≤ te_op P x.1 x.2 ↔ 4 ≤ te_op P y.1 y.2) ∧ te_pl P x.1 x.2 = te_pl P y.1 y.2 ∧ ¬ (te_op P x.1 x.2 = 0 ∧ te_op P y.1 y.2 = 0)) → post 0 := by
      intro k
      rw [if_neg (fun z => (te_ti_iff.mp z).elim e k)] at h
      exact h
    refine pk_lt _ 4 (fun c => ?_) (fun c => ?_) rfl rfl (by omega) (by omega)
    · unfold wX_areTied_26
      rw [cy, b1]
      refine ⟨iy, pk_lt _ 4 (fun c' => tx_42 hW hp hx1 hx2 hy1 hy2 ?_ h1 h2) (fun c' => tx_42 hW hp hx1 hx2 hy1 hy2 ?_ h1 h2) rfl rfl (by omega) (by omega)⟩
      · exact ⟨fun _ => ⟨fun a => by omega, fun a => by omega⟩, fun _ => rfl⟩
      · exact ⟨fun a => absurd a (by decide), fun a => absurd (a.mpr c') (by omega)⟩
    · unfold wX_areTied_26
      rw [cy, b1]
      refine ⟨iy, pk_lt _ 4 (fun c' => tx_42 hW hp hx1 hx2 hy1 hy2 ?_ h1 h2) (fun c' => tx_42 hW hp hx1 hx2 hy1 hy2 ?_ h1 h2) rfl rfl (by omega) (by omega)⟩
      · exact ⟨fun a => absurd a (by decide), fun a => absurd (a.mp c) (by omega)⟩
      · exact ⟨fun _ => ⟨fun _ => c', fun _ => c⟩, fun _ => rfl⟩
def te_nfa (P : te_P) (L : List (Nat × Nat)) (n : Nat) : Prop := ∃ (back : Nat) (a b : Nat × Nat), back < n ∧ L[n]? = some a ∧ L[back]? = some b ∧ 4 * a.1 + a.2 < 4 * b.1 + b.2 ∧ ∀ j z, back ≤ j → j < n → L[j]? = some z → te_ti P z a = false
theorem te_nf_nfa {P : te_P} {L : List (Nat × Nat)} : te_nf P L ↔ ∃ n, te_nfa P L n := te_nf_ix
theorem te_m1 (m : Nat) : nI m + (-1) = te_hI m := by
  cases m with
  | zero => decide
  | succ m => rw [pk_m1, te_hI_s]
theorem tx_14 {P : te_P} (hW : te_W P) {r : List Nat} (hr : te_o P r) (hp : te_XP P xsc xop xpl xod xiv) (hq : te_XQ P r xcu xac xho xta xro xle) {post : Int32 → Prop} {J : Int32 → Prop} {n : Nat} {a : Nat × Nat} (ha : (te_L P r)[n]? = some a) (h1 : ¬ te_nfa P (te_L P r) n → J (nI (n + 1))) (h2 : te_nfa P (te_L P r) n → post 0) : ∀ m, m ≤ n → (∀ j z, m ≤ j → j < n → (te_L P r)[j]? = some z → te_ti P z a = false ∧ 4 * z.1 + z.2 ≤ 4 * a.1 + a.2) → wX_isFirstOfKind_14 post J (nI n) xle xbr xbt xrc xkc xsk xsh xsc xop xpl xod xiv xcu xac xho xta xro xtu xck xgr xes xls (m + 1) (te_hI m) := by
  have hnl : n < r.length := by
    have := (List.getElem?_eq_some_iff.mp ha).1
    rw [te_L_len] at this
    exact this
  have hl9 := te_o_len hW hr
  have hra := te_L_rng hW hr (List.mem_iff_getElem?.mpr ⟨n, ha⟩)
  have cn : (nI n).toNatClampNeg = n := nI_clamp (by omega)
  have hn : vp_in (nI n) 9 := vp_in_nI (by omega) (by decide)
  have hroa := hq.2.2.2.2.1 n a ha
  intro m
  induction m with
  | zero =>
    intro _ hi
    rw [wX_isFirstOfKind_14]
    refine br_t (by decide) (nm_r (nI_1 n) (h1 ?_))
    intro ⟨back, a', b, k1, k2, k3, k4, k5⟩
    have ea : a = a' := Option.some.inj (ha.symm.trans k2)
    subst ea
    have := (hi back b (Nat.zero_le _) k1 k3).2
    omega
  | succ m ih =>
    intro hm hi
    have hml : m < (te_L P r).length := by rw [te_L_len]; omega
    obtain ⟨z, hz⟩ : ∃ z, (te_L P r)[m]? = some z := ⟨_, List.getElem?_eq_getElem hml⟩
    have hrz := te_L_rng hW hr (List.mem_iff_getElem?.mpr ⟨m, hz⟩)
    have cm : (nI m).toNatClampNeg = m := nI_clamp (by omega)
    have him : vp_in (nI m) 9 := vp_in_nI (by omega) (by decide)
    have hroz := hq.2.2.2.2.1 m z hz
    rw [wX_isFirstOfKind_14]
    dsimp only
    rw [te_hI_s, cm, cn, hroa, hroz]
    refine br_f (nI_pos (by omega)) ⟨him, hn, tx_areTied hW hp hrz.1 hrz.2 hra.1 hra.2 ?_⟩
    cases ht : te_ti P z a with
    | true =>
      rw [if_pos rfl]
      refine br_f (by decide) (nm_r (nI_1 n) (h1 ?_))
      intro ⟨back, a', b, k1, k2, k3, k4, k5⟩
      have ea : a = a' := Option.some.inj (ha.symm.trans k2)
      subst ea
      by_cases c : back ≤ m
      · rw [k5 m z c (by omega) hz] at ht
        exact absurd ht (by decide)
      · have := (hi back b (by omega) k1 k3).2
        omega
    | false =>
      rw [if_neg (by decide)]
      refine br_t rfl ⟨him, hn, pk_le _ _ (fun c => ?_) (fun c => ?_) rfl rfl (by omega) (by omega)⟩
      · refine nm_r (te_m1 m) (ih (by omega) (fun j w x1 x2 x3 => ?_))
        by_cases e : j = m
        · rw [e, hz] at x3
          rw [← Option.some.inj x3]
          exact ⟨ht, c⟩
        · exact hi j w (by omega) x2 x3
      · refine h2 ⟨m, a, z, by omega, ha, hz, c, fun j w x1 x2 x3 => ?_⟩
        by_cases e : j = m
        · rw [e, hz] at x3
          rw [← Option.some.inj x3]
          exact ht
        · exact (hi j w (by omega) x2 x3).1
theorem tx_first2 {P : te_P} (hW : te_W P) {r : List Nat} (hr : te_o P r) (hp : te_XP P xsc xop xpl xod xiv) (hq : te_XQ P r xcu xac xho xta xro xle) {post : Int32 → Prop} (h1 : te_fs P r = true → post 1) (h2 : ¬ te_fs P r = true → post 0) : ∀ d n, 1 ≤ n → n ≤ 10 → r.length ≤ n + d → (∀ i, i < n → ¬ te_nfa P (te_L P r) i) → wX_isFirstOfKind_2 post xle xbr xbt xrc xkc xsk xsh xsc xop xpl xod xiv xcu xac xho xta xro xtu xck xgr xes xls (d + 1) (nI n) := by
  have hl9 := te_o_len hW hr
  have hle := hq.2.2.2.2.2
  have hend : ∀ n, r.length ≤ n → (∀ i, i < n → ¬ te_nfa P (te_L P r) i) → post 1 := by
    intro n hn hi
    refine h1 (te_fs_t.mpr (fun z => ?_))
    obtain ⟨i, hi'⟩ : ∃ n, te_nfa P (te_L P r) n := te_nf_nfa.mp z
    by_cases c : i < n
    · exact hi i c hi'
    · obtain ⟨back, a, b, k1, k2, _⟩ := hi'
      have := (List.getElem?_eq_some_iff.mp k2).1
      have e : (te_L P r).length = r.length := te_L_len P r
      omega
  intro d
  induction d with
  | zero =>
    intro n n1 n10 hn hi
    rw [wX_isFirstOfKind_2, hle]
    exact pk_le _ _ (fun _ => hend n (by omega) hi) (fun c => absurd c (by omega)) rfl rfl (by omega) (by omega)
  | succ d ih =>
    intro n n1 n10 hn hi
    rw [wX_isFirstOfKind_2, hle]
    refine pk_le _ _ (fun c => hend n (by omega) hi) (fun c => ?_) rfl rfl (by omega) (by omega)
    have hnl : n < (te_L P r).length := by rw [te_L_len]; omega
    obtain ⟨a, ha⟩ : ∃ a, (te_L P r)[n]? = some a := ⟨_, List.getElem?_eq_getElem hnl⟩
    obtain ⟨m, rfl⟩ : ∃ m, n = m + 1 := ⟨n - 1, by omega⟩
    refine nm_r (nI_pred m) ⟨m + 1 + 1, ?_⟩
    have hm := tx_14 (xle := nI r.length) (xbr := xbr) (xbt := xbt) (xrc := xrc) (xkc := xkc) (xsk := xsk) (xsh := xsh) (xtu := xtu) (xck := xck) (xgr := xgr) (xes := xes) (xls := xls) hW hr hp (by rw [hle] at hq; exact hq) (post := post) (J := wX_isFirstOfKind_2 post (nI r.length) xbr xbt xrc xkc xsk xsh xsc xop xpl xod xiv xcu xac xho xta xro xtu xck xgr xes xls (d + 1)) ha ?_ ?_ (m + 1) (Nat.le_refl _) (fun j z x1 x2 _ => absurd x2 (by omega))
    · rw [te_hI_s] at hm
      exact hm
    · intro k
      have := ih (m + 1 + 1) (by omega) (by omega) (by omega) (fun i hi2 => ?_)
      · rw [hle] at this; exact this
      · by_cases e : i = m + 1
        · rw [e]; exact k
        · exact hi i (by omega)
    · intro k
      refine h2 (fun z => te_fs_t.mp z (te_nf_nfa.mpr ⟨_, k⟩))
theorem tx_isFirst {P : te_P} (hW : te_W P) {r : List Nat} (hr : te_o P r) (hp : te_XP P xsc xop xpl xod xiv) (hq : te_XQ P r xcu xac xho xta xro xle) {post : Int32 → Prop} (h1 : te_fs P r = true → post 1) (h2 : ¬ te_fs P r = true → post 0) : wpX_isFirstOfKind post (xle, xbr, xbt, xrc, xkc, xsk, xsh, xsc, xop, xpl, xod, xiv, xcu, xac, xho, xta, xro, xtu, xck, xgr, xes, xls) := by
  have hl9 := te_o_len hW hr
  unfold wpX_isFirstOfKind
  dsimp only
  refine ⟨9 + 1, tx_first2 hW hr hp hq h1 h2 9 1 (by omega) (by omega) (by omega) (fun i hi => ?_)⟩
  intro ⟨back, a, b, k1, _⟩
  omega
end
