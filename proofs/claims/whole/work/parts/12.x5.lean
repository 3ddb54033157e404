/-! the first machine: what is kept of a run -/
section
variable {xle xbr xbt xrc xkc xsk xsh : Int32} {xsc xop xpl xod xiv xcu xac xho xta xro xtu xck xgr xes xls : Nat → Int32}
noncomputable def te_fr (P : te_P) (i : Nat) (q : List Nat) : Bool := te_cm P q && decide (te_rs P q = i)
noncomputable def te_fn (P : te_P) (q : List Nat) : Bool := !te_cm P q
def te_XA (P : te_P) (D : List (List Nat)) (xrc xkc xsk xsh : Int32) (xck xes xls : Nat → Int32) : Prop :=
  xrc = nI D.length ∧ xkc = nI (te_E P D).length ∧ xsk = nI (te_ct P D (te_fn P)) ∧ xsh = nI (te_sh P D) ∧ (∀ i, i < 512 → xck i = nI (te_ct P D (te_fr P i))) ∧ (∀ t, t < 3 → xes t = te_es P D t) ∧ ∀ x y : Nat × Nat, x.1 < 3 → x.2 < 3 → y.1 < 3 → y.2 < 3 → (bt (xls (4 * x.1 + x.2)) (4 * y.1 + y.2) = true ↔ te_ea P D x y)
theorem te_one : ∀ n, n < 12 → ∀ i, i < 12 → bt ((1 : Int32) <<< (nI n &&& 31)) i = decide (i = n) := by decide +kernel
theorem te_numinj {x w : Nat × Nat} (hx : x.2 < 3) (hw : w.2 < 3) (e : 4 * x.1 + x.2 = 4 * w.1 + w.2) : x = w := by
  obtain ⟨a, b⟩ := x
  obtain ⟨c, d⟩ := w
  simp only at hx hw e
  have h1 : a = c := by omega
  have h2 : b = d := by omega
  rw [h1, h2]
theorem tx_rc74 {P : te_P} (hW : te_W P) {r : List Nat} (hr : te_o P r) (hro : ∀ k x, (te_L P r)[k]? = some x → xro k = nI (4 * x.1 + x.2)) {E : Nat × Nat → Nat × Nat → Prop} {post : SX → Prop} (h : ∀ ls, (∀ x y : Nat × Nat, x.1 < 3 → x.2 < 3 → y.1 < 3 → y.2 < 3 → (bt (ls (4 * x.1 + x.2)) (4 * y.1 + y.2) = true ↔ E x y ∨ te_bf (te_L P r) x y)) → post (xle, xbr, xbt, xrc, xkc, xsk, xsh, xsc, xop, xpl, xod, xiv, xcu, xac, xho, xta, xro, xtu, xck, xgr, xes, ls)) :
    ∀ m, m ≤ r.length → ∀ (la : Int32) (xls : Nat → Int32), (∀ y : Nat × Nat, y.1 < 3 → y.2 < 3 → (bt la (4 * y.1 + y.2) = true ↔ ∃ i, m ≤ i ∧ (te_L P r)[i]? = some y)) → (∀ x y : Nat × Nat, x.1 < 3 → x.2 < 3 → y.1 < 3 → y.2 < 3 → (bt (xls (4 * x.1 + x.2)) (4 * y.1 + y.2) = true ↔ E x y ∨ ∃ j i, m ≤ j ∧ j < i ∧ (te_L P r)[j]? = some x ∧ (te_L P r)[i]? = some y)) → wX_recordComplete_74 post xle xbr xbt xrc xkc xsk xsh (m + 1) la (te_hI m) xsc xop xpl xod xiv xcu xac xho xta xro xtu xck xgr xes xls := by
  have hl9 := te_o_len hW hr
  intro m
  induction m with
  | zero =>
    intro hm la xls h1 h2
    rw [wX_recordComplete_74]
    refine br_t (by decide) (h xls (fun x y x1 x2 y1 y2 => ?_))
    rw [h2 x y x1 x2 y1 y2, te_bf_ix]
    constructor
    · intro k
      rcases k with k | ⟨j, i, _, k2, k3, k4⟩
      · exact Or.inl k
      · exact Or.inr ⟨j, i, k2, k3, k4⟩
    · intro k
      rcases k with k | ⟨j, i, k2, k3, k4⟩
      · exact Or.inl k
      · exact Or.inr ⟨j, i, Nat.zero_le _, k2, k3, k4⟩
  | succ m ih =>
    intro hm la xls h1 h2
    have hml : m < (te_L P r).length := by rw [te_L_len]; omega
    obtain ⟨w, hw⟩ : ∃ w, (te_L P r)[m]? = some w := ⟨_, List.getElem?_eq_getElem hml⟩
    have hrw := te_L_rng hW hr (List.mem_iff_getElem?.mpr ⟨m, hw⟩)
    have cm : (nI m).toNatClampNeg = m := nI_clamp (by omega)
    have him : vp_in (nI m) 9 := vp_in_nI (by omega) (by decide)
    have hrow := hro m w hw
    have cw : (nI (4 * w.1 + w.2)).toNatClampNeg = 4 * w.1 + w.2 := nI_clamp (by omega)
    have hiw : vp_in (nI (4 * w.1 + w.2)) 12 := vp_in_nI (by omega) (by decide)
    rw [wX_recordComplete_74]
    dsimp only
    rw [te_hI_s, cm, hrow, cw]
    refine br_f (nI_pos (by omega)) ⟨him, hiw, hiw, nm_e ⟨him, nm_e (nm_r (te_m1 m) (ih (by omega) _ _ (fun y y1 y2 => ?_) (fun x y x1 x2 y1 y2 => ?_)))⟩⟩
    · rw [b_or, te_one _ (by omega) _ (by omega), Bool.or_eq_true, h1 y y1 y2, decide_eq_true_eq]
      constructor
      · intro k
        rcases k with ⟨i, k1, k2⟩ | k
        · exact ⟨i, by omega, k2⟩
        · exact ⟨m, Nat.le_refl _, by rw [hw, te_numinj hrw.2 y2 k.symm]⟩
      · intro ⟨i, k1, k2⟩
        by_cases e : i = m
        · rw [e, hw] at k2
          exact Or.inr (by rw [Option.some.inj k2])
        · exact Or.inl ⟨i, by omega, k2⟩
    · by_cases e : x = w
      · subst e
        rw [pk_us, b_or, Bool.or_eq_true, h1 y y1 y2, h2 x y x1 x2 y1 y2]
        constructor
        · intro k
          rcases k with (k | ⟨j, i, k1, k2, k3, k4⟩) | ⟨i, k1, k2⟩
          · exact Or.inl k
          · exact Or.inr ⟨j, i, by omega, k2, k3, k4⟩
          · exact Or.inr ⟨m, i, Nat.le_refl _, by omega, hw, k2⟩
        · intro k
          rcases k with k | ⟨j, i, k1, k2, k3, k4⟩
          · exact Or.inl (Or.inl k)
          · exact Or.inr ⟨i, by omega, k4⟩
      · have hne : 4 * x.1 + x.2 ≠ 4 * w.1 + w.2 := fun z => e (te_numinj x2 hrw.2 z)
        rw [pk_un hne, h2 x y x1 x2 y1 y2]
        constructor
        · intro k
          rcases k with k | ⟨j, i, k1, k2, k3, k4⟩
          · exact Or.inl k
          · exact Or.inr ⟨j, i, by omega, k2, k3, k4⟩
        · intro k
          rcases k with k | ⟨j, i, k1, k2, k3, k4⟩
          · exact Or.inl k
          · refine Or.inr ⟨j, i, ?_, k2, k3, k4⟩
            by_cases e2 : j = m
            · rw [e2, hw] at k3
              exact absurd (Option.some.inj k3).symm e
            · omega
theorem tx_rc37 {P : te_P} (hW : te_W P) {r : List Nat} (hr : te_o P r) (hq : te_XQ P r xcu xac xho xta xro xle) {f : Nat → Int32} {E : Nat × Nat → Nat × Nat → Prop} (hls : ∀ x y : Nat × Nat, x.1 < 3 → x.2 < 3 → y.1 < 3 → y.2 < 3 → (bt (xls (4 * x.1 + x.2)) (4 * y.1 + y.2) = true ↔ E x y)) {post : SX → Prop} (h : ∀ es ls, (∀ t, t < 3 → es t = f t ||| ((1 : Int32) <<< (nI (te_hn (te_q P r) t) &&& 31))) → (∀ x y : Nat × Nat, x.1 < 3 → x.2 < 3 → y.1 < 3 → y.2 < 3 → (bt (ls (4 * x.1 + x.2)) (4 * y.1 + y.2) = true ↔ E x y ∨ te_bf (te_L P r) x y)) → post (xle, xbr, xbt, xrc, xkc, xsk, xsh, xsc, xop, xpl, xod, xiv, xcu, xac, xho, xta, xro, xtu, xck, xgr, es, ls)) :
    ∀ d i, i + d = 3 → ∀ xes : Nat → Int32, (∀ t, t < i → xes t = f t ||| ((1 : Int32) <<< (nI (te_hn (te_q P r) t) &&& 31))) → (∀ t, i ≤ t → t < 3 → xes t = f t) → wX_recordComplete_37 post xle xbr xbt xrc xkc xsk xsh (d + 1) (nI i) xsc xop xpl xod xiv xcu xac xho xta xro xtu xck xgr xes xls := by
  have hl9 := te_o_len hW hr
  intro d
  induction d with
  | zero =>
    intro i hi xes h1 h2
    rw [wX_recordComplete_37]
    refine pk_le 3 i (fun _ => nm_r (e' := te_hI r.length) ?_ ⟨r.length + 1, ?_⟩) (fun c => absurd c (by omega)) rfl rfl (by omega) (by omega)
    · rw [hq.2.2.2.2.2]
      cases r with
      | nil => decide
      | cons a l => rw [List.length_cons, te_hI_s]; exact nI_pred _
    · refine tx_rc74 hW hr hq.2.2.2.2.1 (E := E) (fun ls k => h xes ls (fun t ht => h1 t (by omega)) k) r.length (Nat.le_refl _) 0 xls (fun y y1 y2 => ?_) (fun x y x1 x2 y1 y2 => ?_)
      · rw [b_0]
        constructor
        · intro k; exact absurd k (by decide)
        · intro ⟨j, k1, k2⟩
          have := (List.getElem?_eq_some_iff.mp k2).1
          rw [te_L_len] at this
          omega
      · rw [hls x y x1 x2 y1 y2]
        constructor
        · intro k; exact Or.inl k
        · intro k
          rcases k with k | ⟨j, i, k1, k2, k3, k4⟩
          · exact k
          · have := (List.getElem?_eq_some_iff.mp k3).1
            rw [te_L_len] at this
            omega
  | succ d ih =>
    intro i hi xes h1 h2
    have ci : (nI i).toNatClampNeg = i := nI_clamp (by omega)
    have hii : vp_in (nI i) 3 := vp_in_nI (by omega) (by decide)
    rw [wX_recordComplete_37]
    refine pk_le 3 i (fun c => absurd c (by omega)) (fun c => ⟨hii, hii, hii, nm_e (nm_r (nI_1 i) (ih (i + 1) (by omega) _ (te_ul (Q := fun t x => x = f t ||| ((1 : Int32) <<< (nI (te_hn (te_q P r) t) &&& 31))) (by omega) h1 ?_) (fun t x1 x2 => ?_)))⟩) rfl rfl (by omega) (by omega)
    · rw [ci, h2 i (Nat.le_refl _) (by omega), hq.2.1 i (by omega)]
    · rw [ci, pk_un (by omega)]
      exact h2 t (by omega) x2
theorem tx_recordComplete {P : te_P} (hW : te_W P) {r : List Nat} (hr : te_o P r) (hq : te_XQ P r xcu xac xho xta xro xle) {f : Nat → Int32} (hes : ∀ t, t < 3 → xes t = f t) {E : Nat × Nat → Nat × Nat → Prop} (hls : ∀ x y : Nat × Nat, x.1 < 3 → x.2 < 3 → y.1 < 3 → y.2 < 3 → (bt (xls (4 * x.1 + x.2)) (4 * y.1 + y.2) = true ↔ E x y)) {z : Int32} {post : SX → Prop} (h : ∀ es ls, (∀ t, t < 3 → es t = f t ||| ((1 : Int32) <<< (nI (te_hn (te_q P r) t) &&& 31))) → (∀ x y : Nat × Nat, x.1 < 3 → x.2 < 3 → y.1 < 3 → y.2 < 3 → (bt (ls (4 * x.1 + x.2)) (4 * y.1 + y.2) = true ↔ E x y ∨ te_bf (te_L P r) x y)) → post (xle, xbr, xbt, xrc, xkc, xsk, xsh, xsc, xop, xpl, xod, xiv, xcu, xac, xho, xta, xro, xtu, upd xck (te_rs P r) (xck (te_rs P r) + z), xgr, es, ls)) : wpX_recordComplete post (xle, xbr, xbt, xrc, xkc, xsk, xsh, xsc, xop, xpl, xod, xiv, xcu, xac, xho, xta, xro, xtu, xck, xgr, xes, xls) z := by
  have hrs := te_rs_lt hW hr
  have e : 64 * xcu 0 + 8 * xcu 1 + xcu 2 = nI (te_rs P r) := by
    rw [hq.1 0 (by omega), hq.1 1 (by omega), hq.1 2 (by omega)]
    show nI 64 * _ + nI 8 * _ + _ = _
    rw [pk_mul, pk_mul, nI_add, nI_add]
    rfl
  have ce : (nI (te_rs P r)).toNatClampNeg = te_rs P r := nI_clamp (by omega)
  have hi : vp_in (nI (te_rs P r)) 512 := vp_in_nI hrs (by decide)
  unfold wpX_recordComplete
  dsimp only
  rw [e, ce]
  exact ⟨hi, hi, nm_e ⟨3 + 1, tx_rc37 hW hr hq hls h 3 0 rfl xes (fun t ht => absurd ht (by omega)) (fun t _ ht => hes t ht)⟩⟩
theorem tx_recordStuck {P : te_P} {r : List Nat} (hl : r.length < 100) {s : Nat} (hs : s < 100) (hsh : xsh = nI s) (hle : xle = nI r.length) {z : Int32} {post : SX → Prop} (h : post (xle, xbr, xbt, xrc, xkc, xsk + z, nI (if s = 0 ∨ r.length < s then r.length else s), xsc, xop, xpl, xod, xiv, xcu, xac, xho, xta, xro, xtu, xck, xgr, xes, xls)) : wpX_recordStuck post (xle, xbr, xbt, xrc, xkc, xsk, xsh, xsc, xop, xpl, xod, xiv, xcu, xac, xho, xta, xro, xtu, xck, xgr, xes, xls) z := by
  unfold wpX_recordStuck
  dsimp only
  refine nm_e ?_
  rw [hsh, hle]
  refine pk_eq s 0 (fun c => ?_) (fun c => pk_le _ _ (fun c2 => ?_) (fun c2 => ?_) rfl rfl (by omega) (by omega)) rfl rfl (by omega) (by omega)
  · rw [if_pos (Or.inl c), hle] at h
    exact h
  · rw [if_neg (fun k => k.elim c (by omega)), hle] at h
    exact h
  · rw [if_pos (Or.inr c2), hle] at h
    exact h
theorem te_sh_le (P : te_P) : ∀ (D : List (List Nat)) (s : Nat), s ≤ 9 → (∀ q, q ∈ D → q.length ≤ 9) → D.foldl (te_sh1 P) s ≤ 9 := by
  intro D
  induction D with
  | nil => intro s hs _; exact hs
  | cons q D ih =>
    intro s hs h
    refine ih _ ?_ (fun p hp => h p (List.mem_cons_of_mem _ hp))
    have := h q List.mem_cons_self
    unfold te_sh1
    by_cases c : te_cm P q = true
    · rw [if_pos c]; exact hs
    · rw [if_neg c]
      by_cases d : s = 0 ∨ q.length < s
      · rw [if_pos d]; exact this
      · rw [if_neg d]; exact hs
theorem tx_recordRun {P : te_P} (hW : te_W P) {r : List Nat} (hr : te_o P r) (hp : te_XP P xsc xop xpl xod xiv) (hq : te_XQ P r xcu xac xho xta xro xle) {D : List (List Nat)} (hD : ∀ q, q ∈ D → q.length ≤ 9) (hA : te_XA P D xrc xkc xsk xsh xck xes xls) {post : SX → Prop} (h : ∀ rc kc sk sh ck es ls, te_XA P (D ++ [r]) rc kc sk sh ck es ls → post (xle, xbr, xbt, rc, kc, sk, sh, xsc, xop, xpl, xod, xiv, xcu, xac, xho, xta, xro, xtu, ck, xgr, es, ls)) : wpX_recordRun post (xle, xbr, xbt, xrc, xkc, xsk, xsh, xsc, xop, xpl, xod, xiv, xcu, xac, xho, xta, xro, xtu, xck, xgr, xes, xls) := by
  have hl9 := te_o_len hW hr
  obtain ⟨A1, A2, A3, A4, A5, A6, A7⟩ := hA
  have hrs := te_rs_lt hW hr
  have hsh9 : te_sh P D ≤ 9 := te_sh_le P D 0 (by omega) hD
  have htot : te_tot P ≤ 9 := te_rm0 hW
  have etot : xsc 0 + xsc 1 + xsc 2 = nI (te_tot P) := by
    rw [hp.1 0 (by omega), hp.1 1 (by omega), hp.1 2 (by omega), nI_add, nI_add]
    rfl
  have h12 : ∀ k, k = (if te_fs P r = true then 1 else 0) → wX_recordRun_12 post (nI k) xle xbr xbt xrc xkc xsk xsh xsc xop xpl xod xiv xcu xac xho xta xro xtu xck xgr xes xls := by
    intro k hk
    unfold wX_recordRun_12
    rw [etot, hq.2.2.2.2.2]
    have e1 : xrc + 1 = nI (D ++ [r]).length := by
      rw [A1, nI_1, List.length_append]; rfl
    have e2 : xkc + nI k = nI (te_E P (D ++ [r])).length := by
      rw [A2, nI_add, te_E_len_snoc, hk]
    have hq' : te_XQ P r xcu xac xho xta xro (nI r.length) := by
      rw [← hq.2.2.2.2.2]; exact hq
    refine nm_r e1 (nm_r e2 (pk_eq _ _ (fun c => ?_) (fun c => ?_) rfl rfl (by omega) (by omega)))
    · have hc : te_cm P r = true := decide_eq_true_eq.mpr c
      refine tx_recordComplete hW hr hq' (f := te_es P D) A6 (E := te_ea P D) A7 (fun es ls i1 i2 => ?_)
      have := h (nI (D ++ [r]).length) (nI (te_E P (D ++ [r])).length) xsk xsh (upd xck (te_rs P r) (xck (te_rs P r) + nI k)) es ls ⟨rfl, rfl, ?_, ?_, ?_, ?_, ?_⟩
      · rw [hq.2.2.2.2.2] at this; exact this
      · rw [A3, te_ct_snoc, if_neg]
        · rfl
        · intro ⟨_, z⟩
          unfold te_fn at z
          rw [hc] at z
          exact absurd z (by decide)
      · rw [A4, te_sh_snoc]
        unfold te_sh1
        rw [if_pos hc]
      · intro i hi
        rw [te_ct_snoc]
        by_cases e : i = te_rs P r
        · rw [e, pk_us, A5 _ hrs, nI_add, hk]
          have : te_fr P (te_rs P r) r = true := by unfold te_fr; rw [hc, decide_eq_true rfl]; rfl
          rw [this]
          by_cases f : te_fs P r = true
          · rw [if_pos f, if_pos ⟨f, rfl⟩]
          · rw [if_neg f, if_neg (fun z => f z.1)]
        · rw [pk_un e, A5 i hi, if_neg]
          · rfl
          · intro ⟨_, z⟩
            unfold te_fr at z
            rw [Bool.and_eq_true, decide_eq_true_eq] at z
            exact e z.2.symm
      · intro t ht
        rw [i1 t ht, te_es_snoc]
        unfold te_e1
        rw [if_pos hc]
      · intro x y x1 x2 y1 y2
        rw [i2 x y x1 x2 y1 y2, te_ea_snoc]
        exact ⟨fun z => z.elim Or.inl (fun z => Or.inr ⟨hc, z⟩), fun z => z.elim Or.inl (fun z => Or.inr z.2)⟩
    · have hc : ¬ te_cm P r = true := fun z => c (decide_eq_true_eq.mp z)
      refine tx_recordStuck (P := P) (r := r) (by omega) (s := te_sh P D) (by omega) A4 rfl ?_
      have := h (nI (D ++ [r]).length) (nI (te_E P (D ++ [r])).length) (xsk + nI k) (nI (if te_sh P D = 0 ∨ r.length < te_sh P D then r.length else te_sh P D)) xck xes xls ⟨rfl, rfl, ?_, ?_, ?_, ?_, ?_⟩
      · rw [hq.2.2.2.2.2] at this; exact this
      · rw [A3, te_ct_snoc, nI_add, hk]
        have : te_fn P r = true := by unfold te_fn; rw [Bool.eq_false_iff.mpr hc]; rfl
        rw [this]
        by_cases f : te_fs P r = true
        · rw [if_pos f, if_pos ⟨f, rfl⟩]
        · rw [if_neg f, if_neg (fun z => f z.1)]
      · rw [te_sh_snoc]
        unfold te_sh1
        rw [if_neg hc]
      · intro i hi
        rw [A5 i hi, te_ct_snoc, if_neg]
        · rfl
        · intro ⟨_, z⟩
          unfold te_fr at z
          rw [Bool.and_eq_true] at z
          exact hc z.1
      · intro t ht
        rw [A6 t ht, te_es_snoc]
        unfold te_e1
        rw [if_neg hc]
      · intro x y x1 x2 y1 y2
        rw [A7 x y x1 x2 y1 y2, te_ea_snoc]
        exact ⟨Or.inl, fun z => z.elim id (fun z => absurd z.1 hc)⟩
  unfold wpX_recordRun
  dsimp only
  refine tx_isFirst hW hr hp hq (fun f => br_f (by decide) ?_) (fun f => br_t rfl ?_)
  · exact h12 1 (if_pos f).symm
  · exact h12 0 (if_neg f).symm
end
