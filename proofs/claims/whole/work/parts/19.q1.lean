/-! the relation; the questions -/
def i_Rel (k : Nat) (u : SX) (v : SY) : Prop := match u, v with
  | (xle, xbr, xbt, xrc, xkc, xsk, xsh, xsc, xop, xpl, xod, xiv, xcu, xac, xho, xta, xro, xtu, xck, xgr, xes, xls), (yde, yru, yki, yso, ysz, ywh, yam, yfi, yro, ydo, yva, yhe, yhn, ypl, yke, ywl, you, ypk, yen, yea) => ∃ P : te_P, te_W P ∧ te_XP P xsc xop xpl xod xiv ∧ te_YP P ysz ywh yam yfi ∧ te_XA P (te_all P) xrc xkc xsk xsh xck xes xls ∧ ∃ g : Nat → Nat, te_AR 3 xgr g ∧ te_pk P (te_all P) g
theorem i_up {k : Nat} {u : SX} {v : SY} (h : i_Rel k u v) : i_Rel (k + 4) u v := h
theorem tz_thr_b {x : Int32} (hb : x < 0 ∨ nI 3 ≤ x) {post : Int32 → Prop} (h : post 0) : wpX_isThread post x := by
  unfold wpX_isThread
  by_cases c : x < 0
  · exact br_t c h
  · exact br_f c (br_t (hb.resolve_left c) h)
theorem tz_thr_g {j : Nat} (hj : j < 3) {post : Int32 → Prop} (h : post 1) : wpX_isThread post (nI j) := by
  unfold wpX_isThread
  exact br_f (nI_pos (by omega)) (br_f (nI_ge (b := 3) hj (by decide)) h)
theorem tz_var_b {x : Int32} (hb : x < 0 ∨ nI 3 ≤ x) {post : Int32 → Prop} (h : post 0) : wpX_isVariable post x := by
  unfold wpX_isVariable
  by_cases c : x < 0
  · exact br_t c h
  · exact br_f c (br_t (hb.resolve_left c) h)
theorem tz_var_g {j : Nat} (hj : j < 3) {post : Int32 → Prop} (h : post 1) : wpX_isVariable post (nI j) := by
  unfold wpX_isVariable
  exact br_f (nI_pos (by omega)) (br_f (nI_ge (b := 3) hj (by decide)) h)
theorem tz_val_b {x : Int32} (hb : x < 0 ∨ nI 8 ≤ x) {post : Int32 → Prop} (h : post 0) : wpX_isValue post x := by
  unfold wpX_isValue
  by_cases c : x < 0
  · exact br_t c h
  · exact br_f c (br_t (hb.resolve_left c) h)
theorem tz_val_g {j : Nat} (hj : j < 8) {post : Int32 → Prop} (h : post 1) : wpX_isValue post (nI j) := by
  unfold wpX_isValue
  exact br_f (nI_pos (by omega)) (br_f (nI_ge (b := 8) hj (by decide)) h)
theorem tz_num_b {x : Int32} (hb : x < 0 ∨ nI 12 ≤ x) {post : Int32 → Prop} (h : post 0) : wpX_isNumber post x := by
  unfold wpX_isNumber
  by_cases c : x < 0
  · exact br_t c h
  · exact br_f c (br_t (hb.resolve_left c) h)
theorem tz_num_g {j : Nat} (hj : j < 12) {post : Int32 → Prop} (h : post 1) : wpX_isNumber post (nI j) := by
  unfold wpX_isNumber
  exact br_f (nI_pos (by omega)) (br_f (nI_ge (b := 12) hj (by decide)) h)
theorem tz_gt {x : Int32} {a b : Int32} (hab : a < b) (hb : b ≤ x) : ¬ x ≤ a := Int32.not_le.mpr (Int32.lt_of_lt_of_le hab hb)
theorem tz_ix (x : Int32) {n : Nat} (hn : n < 2 ^ 31) : (x < 0 ∨ nI n ≤ x) ∨ ∃ j : Nat, j < n ∧ x = nI j := by
  rcases pk_ix x hn with h | h | h
  · exact Or.inl (Or.inl h)
  · exact Or.inl (Or.inr h)
  · exact Or.inr h
section
variable {xle xbr xbt xrc xkc xsk xsh : Int32} {xsc xop xpl xod xiv xcu xac xho xta xro xtu xck xgr xes xls : Nat → Int32}
variable {yde yru yki yso : Int32} {ysz ywh yam yfi yro ydo yva yhe yhn ypl ywl you ypk yen yea : Nat → Int32} {yke : Nat → Int64}
theorem tz_bad_b {x : Int32} (hb : x < 0 ∨ nI 3 ≤ x) {post : Int32 → Prop} (h : post 1) : wpY_bad post (yde, yru, yki, yso, ysz, ywh, yam, yfi, yro, ydo, yva, yhe, yhn, ypl, yke, ywl, you, ypk, yen, yea) x := by
  unfold wpY_bad
  dsimp only
  by_cases c : x < 0
  · exact br_t c h
  · exact br_f c (br_f (tz_gt (b := nI 3) (by decide) (hb.resolve_left c)) h)
theorem tz_bad_g {j : Nat} (hj : j < 3) {post : Int32 → Prop} (h : post 0) : wpY_bad post (yde, yru, yki, yso, ysz, ywh, yam, yfi, yro, ydo, yva, yhe, yhn, ypl, yke, ywl, you, ypk, yen, yea) (nI j) := by
  unfold wpY_bad
  dsimp only
  exact br_f (nI_pos (by omega)) (br_t (nI_le (b := 2) (by omega) (by decide)) h)
theorem tz_steps {P : te_P} (hx : te_XP P xsc xop xpl xod xiv) (hy : te_YP P ysz ywh yam yfi) (v1 : Int32) {Q : Prop} (hQ : Q) : wpX_steps (fun r => wpY_steps (fun r' => r' = r ∧ Q) (yde, yru, yki, yso, ysz, ywh, yam, yfi, yro, ydo, yva, yhe, yhn, ypl, yke, ywl, you, ypk, yen, yea) v1) (xle, xbr, xbt, xrc, xkc, xsk, xsh, xsc, xop, xpl, xod, xiv, xcu, xac, xho, xta, xro, xtu, xck, xgr, xes, xls) v1 := by
  unfold wpX_steps wpY_steps
  dsimp only
  rcases tz_ix v1 (n := 3) (by decide) with hb | ⟨j, hj, rfl⟩
  · exact tz_thr_b hb (br_t rfl (tz_bad_b hb (br_f (by decide) ⟨rfl, hQ⟩)))
  · have hi : vp_in (nI j) 3 := vp_in_nI hj (by decide)
    have cj : (nI j).toNatClampNeg = j := nI_clamp (by omega)
    refine tz_thr_g hj (br_f (by decide) ⟨hi, tz_bad_g hj (br_t rfl ⟨hi, ?_, hQ⟩)⟩)
    rw [cj, hx.1 j hj, hy.1 j hj]
/-- counting the entries -/
def te_cn (E : List (List Nat)) (f : List Nat → Bool) (i : Nat) : Nat := ((E.take i).filter f).length
theorem te_cn_succ {E : List (List Nat)} {f : List Nat → Bool} {i : Nat} {q : List Nat} (h : E[i]? = some q) : te_cn E f (i + 1) = te_cn E f i + (if f q = true then 1 else 0) := by
  unfold te_cn
  rw [List.take_add_one, h, List.filter_append, List.length_append]
  show _ + (List.filter f [q]).length = _
  by_cases c : f q = true
  · rw [if_pos c, List.filter_cons_of_pos c]; rfl
  · rw [if_neg c, List.filter_cons_of_neg c]; rfl
theorem te_cn_end (E : List (List Nat)) (f : List Nat → Bool) : te_cn E f E.length = (E.filter f).length := by
  unfold te_cn
  rw [List.take_length]
theorem te_cn_le (E : List (List Nat)) (f : List Nat → Bool) (i : Nat) : te_cn E f i ≤ E.length := by
  unfold te_cn
  refine Nat.le_trans (List.length_filter_le _ _) ?_
  rw [List.length_take]
  omega
theorem ty_sk8 {P : te_P} {E : List (List Nat)} (hE : E.length ≤ 1680) (hki : yki = nI E.length) (hwl : ∀ i q, E[i]? = some q → ywl i = (if te_cm P q = true then 1 else 0)) {post : Int32 → SY → Prop} (h : post (nI (E.filter (te_fn P)).length) (yde, yru, yki, yso, ysz, ywh, yam, yfi, yro, ydo, yva, yhe, yhn, ypl, yke, ywl, you, ypk, yen, yea)) : ∀ d i, i + d = E.length → wY_stuckKinds_8 post yde yru yki yso ysz ywh yam yfi yro ydo yva yhe yhn ypl yke ywl you ypk yen yea (d + 1) (nI (te_cn E (te_fn P) i)) (nI i) := by
  intro d
  induction d with
  | zero =>
    intro i hi
    have e : i = E.length := by omega
    rw [wY_stuckKinds_8]
    refine pk_le _ _ (fun _ => ?_) (fun c => absurd c (by omega)) hki rfl (by omega) (by omega)
    rw [e, te_cn_end]; exact h
  | succ d ih =>
    intro i hi
    have ci : (nI i).toNatClampNeg = i := nI_clamp (by omega)
    obtain ⟨q, hq⟩ : ∃ q, E[i]? = some q := ⟨_, List.getElem?_eq_getElem (show i < E.length by omega)⟩
    have hn := ih (i + 1) (by omega)
    rw [te_cn_succ hq] at hn
    rw [wY_stuckKinds_8]
    dsimp only
    rw [ci, hwl i q hq]
    refine pk_le _ _ (fun c => absurd c (by omega)) (fun _ => ⟨vp_in_nI (by omega) (by decide), ?_⟩) hki rfl (by omega) (by omega)
    by_cases c : te_cm P q = true
    · have f : ¬ te_fn P q = true := by unfold te_fn; rw [c]; decide
      rw [if_neg f] at hn
      rw [if_pos c]
      exact br_f (by decide) (nm_r (nI_1 i) hn)
    · have f : te_fn P q = true := by unfold te_fn; rw [Bool.eq_false_iff.mpr c]; rfl
      rw [if_pos f] at hn
      rw [if_neg c]
      exact br_t rfl (nm_r (nI_1 _) (nm_r (nI_1 i) hn))
theorem ty_many4 {P : te_P} {E : List (List Nat)} (hE : E.length ≤ 1680) (hki : yki = nI E.length) (hwl : ∀ i q, E[i]? = some q → ywl i = (if te_cm P q = true then 1 else 0) ∧ you i = nI (te_rs P q) ∧ te_rs P q < 512) {r0 : Nat} (hr0 : r0 < 512) {post : Int32 → Prop} (h : post (nI (E.filter (te_fr P r0)).length)) : ∀ d i, i + d = E.length → wY_many_4 post (nI r0) yde yru yki yso ysz ywh yam yfi yro ydo yva yhe yhn ypl yke ywl you ypk yen yea (d + 1) (nI (te_cn E (te_fr P r0) i)) (nI i) := by
  intro d
  induction d with
  | zero =>
    intro i hi
    have e : i = E.length := by omega
    rw [wY_many_4]
    refine pk_le _ _ (fun _ => ?_) (fun c => absurd c (by omega)) hki rfl (by omega) (by omega)
    rw [e, te_cn_end]; exact h
  | succ d ih =>
    intro i hi
    have ci : (nI i).toNatClampNeg = i := nI_clamp (by omega)
    obtain ⟨q, hq⟩ : ∃ q, E[i]? = some q := ⟨_, List.getElem?_eq_getElem (show i < E.length by omega)⟩
    obtain ⟨w1, w2, w3⟩ := hwl i q hq
    have hi17 : vp_in (nI i) 1700 := vp_in_nI (by omega) (by decide)
    have hn := ih (i + 1) (by omega)
    rw [te_cn_succ hq] at hn
    rw [wY_many_4]
    dsimp only
    rw [ci, w1, w2]
    refine pk_le _ _ (fun c => absurd c (by omega)) (fun _ => pk_le 1700 i (fun c => absurd c (by omega)) (fun _ => ⟨hi17, ?_⟩) rfl rfl (by omega) (by omega)) hki rfl (by omega) (by omega)
    by_cases c : te_cm P q = true
    · rw [if_pos c]
      refine br_f (by decide) ⟨hi17, pk_eq _ _ (fun c2 => ?_) (fun c2 => ?_) rfl rfl (by omega) (by omega)⟩
      · have f : te_fr P r0 q = true := by unfold te_fr; rw [c, decide_eq_true c2]; rfl
        rw [if_pos f] at hn
        exact nm_r (nI_1 _) (nm_r (nI_1 i) hn)
      · have f : ¬ te_fr P r0 q = true := by unfold te_fr; rw [c, decide_eq_false c2]; decide
        rw [if_neg f] at hn
        exact nm_r (nI_1 i) hn
    · have f : ¬ te_fr P r0 q = true := by unfold te_fr; rw [Bool.eq_false_iff.mpr c]; exact Bool.false_ne_true
      rw [if_neg f] at hn
      rw [if_neg c]
      exact br_t rfl (nm_r (nI_1 i) hn)
theorem ty_many {P : te_P} (hW : te_W P) (hA : te_YA P (te_all P) yru yki yso yke ywl you yen yea) {r0 : Nat} (hr0 : r0 < 512) {post : Int32 → Prop} (h : post (nI (te_ct P (te_all P) (te_fr P r0)))) : wpY_many post (yde, yru, yki, yso, ysz, ywh, yam, yfi, yro, ydo, yva, yhe, yhn, ypl, yke, ywl, you, ypk, yen, yea) (nI r0) := by
  obtain ⟨A1, A2, A3, A4, A5, A6⟩ := hA
  have hl := te_all_len hW
  have hE := te_E_len_le P (te_all P)
  unfold wpY_many
  dsimp only
  refine ⟨(te_E P (te_all P)).length + 1, ?_⟩
  refine ty_many4 (P := P) (E := te_E P (te_all P)) (by omega) A2 (fun i q hq => ⟨(A4 i q hq).2.1, (A4 i q hq).2.2, ?_⟩) hr0 h (te_E P (te_all P)).length 0 (by omega)
  have hm := (List.mem_filter.mp (List.mem_iff_getElem?.mpr ⟨i, hq⟩)).1
  exact te_rs_lt hW ((te_all_mem hW q).mp hm).1
noncomputable def te_rc (P : te_P) : Nat → Nat
  | 0 => 0
  | n + 1 => te_rc P n + (if te_ct P (te_all P) (te_fr P n) = 0 then 0 else 1)
theorem te_le0 {n : Nat} (hn : n < 2 ^ 31) : nI n ≤ 0 ↔ n = 0 := by
  have := nI_leI (a := n) (b := 0) hn (by decide)
  rw [nI_0] at this
  rw [this]; omega
theorem tx_res4 {P : te_P} (hW : te_W P) (hck : ∀ i, i < 512 → xck i = nI (te_ct P (te_all P) (te_fr P i))) {post : Int32 → Prop} (h : post (nI (te_rc P 512))) : ∀ d i, i + d = 512 → wX_results_4 post xle xbr xbt xrc xkc xsk xsh xsc xop xpl xod xiv xcu xac xho xta xro xtu xck xgr xes xls (d + 1) (nI (te_rc P i)) (nI i) := by
  have hl := te_all_len hW
  intro d
  induction d with
  | zero =>
    intro i hi
    have e : i = 512 := by omega
    subst e
    rw [wX_results_4]
    exact pk_le 512 512 (fun _ => h) (fun c => absurd c (by omega)) rfl rfl (by omega) (by omega)
  | succ d ih =>
    intro i hi
    have ci : (nI i).toNatClampNeg = i := nI_clamp (by omega)
    have hn := ih (i + 1) (by omega)
    have hc := te_ct_le P (te_all P) (te_fr P i)
    have hrc : te_rc P (i + 1) = te_rc P i + (if te_ct P (te_all P) (te_fr P i) = 0 then 0 else 1) := rfl
    rw [hrc] at hn
    rw [wX_results_4]
    dsimp only
    rw [ci, hck i (by omega)]
    refine pk_le 512 i (fun c => absurd c (by omega)) (fun _ => ⟨vp_in_nI (by omega) (by decide), ?_⟩) rfl rfl (by omega) (by omega)
    by_cases c : te_ct P (te_all P) (te_fr P i) = 0
    · rw [if_pos c] at hn
      exact br_t ((te_le0 (by omega)).mpr c) (nm_r (nI_1 i) hn)
    · rw [if_neg c] at hn
      exact br_f (fun z => c ((te_le0 (by omega)).mp z)) (nm_r (nI_1 _) (nm_r (nI_1 i) hn))
theorem ty_res8 {P : te_P} (hW : te_W P) (hA : te_YA P (te_all P) yru yki yso yke ywl you yen yea) {post : Int32 → SY → Prop} (h : post (nI (te_rc P 512)) (yde, yru, yki, yso, ysz, ywh, yam, yfi, yro, ydo, yva, yhe, yhn, ypl, yke, ywl, you, ypk, yen, yea)) : ∀ d i, i + d = 512 → wY_results_8 post yde yru yki yso ysz ywh yam yfi yro ydo yva yhe yhn ypl yke ywl you ypk yen yea (d + 1) (nI (te_rc P i)) (nI i) := by
  have hl := te_all_len hW
  intro d
  induction d with
  | zero =>
    intro i hi
    have e : i = 512 := by omega
    subst e
    rw [wY_results_8]
    exact pk_le 512 512 (fun _ => h) (fun c => absurd c (by omega)) rfl rfl (by omega) (by omega)
  | succ d ih =>
    intro i hi
    have hn := ih (i + 1) (by omega)
    have hc := te_ct_le P (te_all P) (te_fr P i)
    have hrc : te_rc P (i + 1) = te_rc P i + (if te_ct P (te_all P) (te_fr P i) = 0 then 0 else 1) := rfl
    rw [hrc] at hn
    rw [wY_results_8]
    refine pk_le 512 i (fun c => absurd c (by omega)) (fun _ => ty_many hW hA (by omega) ?_) rfl rfl (by omega) (by omega)
    by_cases c : te_ct P (te_all P) (te_fr P i) = 0
    · rw [if_pos c] at hn
      exact br_t ((te_le0 (by omega)).mpr c) (nm_r (nI_1 i) hn)
    · rw [if_neg c] at hn
      exact br_f (fun z => c ((te_le0 (by omega)).mp z)) (nm_r (nI_1 _) (nm_r (nI_1 i) hn))
noncomputable def te_nr (P : te_P) (a : Int32) : Nat → Nat → Int32
  | 0, _ => -1
  | d + 1, i => if nI i ≤ a then te_nr P a d (i + 1) else if te_ct P (te_all P) (te_fr P i) = 0 then te_nr P a d (i + 1) else nI i
theorem tx_nr2 {P : te_P} (hW : te_W P) (hck : ∀ i, i < 512 → xck i = nI (te_ct P (te_all P) (te_fr P i))) {a : Int32} {post : Int32 → Prop} : ∀ d i, i + d = 512 → post (te_nr P a d i) → wX_nextResult_2 post a xle xbr xbt xrc xkc xsk xsh xsc xop xpl xod xiv xcu xac xho xta xro xtu xck xgr xes xls (d + 1) (nI i) := by
  have hl := te_all_len hW
  intro d
  induction d with
  | zero =>
    intro i hi h
    rw [wX_nextResult_2]
    exact pk_le 512 i (fun _ => h) (fun c => absurd c (by omega)) rfl rfl (by omega) (by omega)
  | succ d ih =>
    intro i hi h
    have ci : (nI i).toNatClampNeg = i := nI_clamp (by omega)
    have hc := te_ct_le P (te_all P) (te_fr P i)
    rw [te_nr] at h
    rw [wX_nextResult_2]
    dsimp only
    rw [ci, hck i (by omega)]
    refine pk_le 512 i (fun c => absurd c (by omega)) (fun _ => ?_) rfl rfl (by omega) (by omega)
    by_cases c : nI i ≤ a
    · rw [if_pos c] at h
      exact br_t c (nm_r (nI_1 i) (ih (i + 1) (by omega) h))
    · rw [if_neg c] at h
      refine br_f c ⟨vp_in_nI (by omega) (by decide), ?_⟩
      by_cases c2 : te_ct P (te_all P) (te_fr P i) = 0
      · rw [if_pos c2] at h
        exact br_t ((te_le0 (by omega)).mpr c2) (nm_r (nI_1 i) (ih (i + 1) (by omega) h))
      · rw [if_neg c2] at h
        exact br_f (fun z => c2 ((te_le0 (by omega)).mp z)) h
theorem ty_nr6 {P : te_P} (hW : te_W P) (hA : te_YA P (te_all P) yru yki yso yke ywl you yen yea) {a : Int32} {post : Int32 → SY → Prop} : ∀ d i, i + d = 512 → post (te_nr P a d i) (yde, yru, yki, yso, ysz, ywh, yam, yfi, yro, ydo, yva, yhe, yhn, ypl, yke, ywl, you, ypk, yen, yea) → wY_nextResult_6 post a yde yru yki yso ysz ywh yam yfi yro ydo yva yhe yhn ypl yke ywl you ypk yen yea (d + 1) (nI i) := by
  have hl := te_all_len hW
  intro d
  induction d with
  | zero =>
    intro i hi h
    rw [wY_nextResult_6]
    exact pk_le 512 i (fun _ => h) (fun c => absurd c (by omega)) rfl rfl (by omega) (by omega)
  | succ d ih =>
    intro i hi h
    have hc := te_ct_le P (te_all P) (te_fr P i)
    rw [te_nr] at h
    rw [wY_nextResult_6]
    refine pk_le 512 i (fun c => absurd c (by omega)) (fun _ => ?_) rfl rfl (by omega) (by omega)
    by_cases c : nI i ≤ a
    · rw [if_pos c] at h
      exact br_t c (nm_r (nI_1 i) (ih (i + 1) (by omega) h))
    · rw [if_neg c] at h
      refine br_f c (ty_many hW hA (by omega) ?_)
      by_cases c2 : te_ct P (te_all P) (te_fr P i) = 0
      · rw [if_pos c2] at h
        exact br_t ((te_le0 (by omega)).mpr c2) (nm_r (nI_1 i) (ih (i + 1) (by omega) h))
      · rw [if_neg c2] at h
        exact br_f (fun z => c2 ((te_le0 (by omega)).mp z)) h
end
