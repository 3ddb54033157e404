/-! the first machine: a whole run -/
section
variable {xle xbr xbt xrc xkc xsk xsh : Int32} {xsc xop xpl xod xiv xcu xac xho xta xro xtu xck xgr xes xls : Nat → Int32}
def te_BI : Option (Nat × Nat) → Int32 → Int32 → Prop
  | none, br, _ => br = -1
  | some (k, t), br, bt => br = nI k ∧ bt = nI t
theorem tx_67 {P : te_P} (hW : te_W P) {r : List Nat} (hr : te_o P r) (hp : te_XP P xsc xop xpl xod xiv) (hq : te_XQ P r xcu xac xho xta xro xle) {D : List (List Nat)} {g : Nat → Nat} (hg : te_AR 3 xgr g) (hk : te_pk P (D ++ [r]) g) {t : Nat} (ht : t < 3) (hc : te_can P (te_q P r) t = true) (htu : xtu r.length = nI t) {post : SX → Prop} {J : Int32 → Int32 → Int32 → Int32 → Int32 → Int32 → Int32 → Int32 → (Nat → Int32) → (Nat → Int32) → (Nat → Int32) → (Nat → Int32) → (Nat → Int32) → (Nat → Int32) → (Nat → Int32) → (Nat → Int32) → (Nat → Int32) → (Nat → Int32) → (Nat → Int32) → (Nat → Int32) → (Nat → Int32) → (Nat → Int32) → (Nat → Int32) → Prop} {x1 : Int32}
    (h : ∀ cu ac ho ta ro gr g', te_XQ P (r ++ [t]) cu ac ho ta ro (nI (r.length + 1)) → te_AR 3 gr g' → te_pk P (D ++ [r ++ [t]]) g' → J (nI (r.length + 1)) (nI (r.length + 1)) xbr xbt xrc xkc xsk xsh xsc xop xpl xod xiv cu ac ho ta ro xtu xck gr xes xls) : wX_takeRun_67 post J x1 (nI r.length) xle xbr xbt xrc xkc xsk xsh xsc xop xpl xod xiv xcu xac xho xta xro xtu xck xgr xes xls := by
  have hl := te_o_lt hW hr ht hc
  have cl : (nI r.length).toNatClampNeg = r.length := nI_clamp (by omega)
  unfold wX_takeRun_67
  rw [cl, htu]
  exact ⟨vp_in_nI hl (by decide), tx_takeStep hW hr hp hq hg hk ht hc (fun cu ac ho ta ro gr g' i1 i2 i3 => nm_r (nI_1 _) (h cu ac ho ta ro gr g' i1 i2 i3))⟩
theorem tx_28 {P : te_P} (hW : te_W P) {r : List Nat} (hr : te_o P r) (hp : te_XP P xsc xop xpl xod xiv) (hq : te_XQ P r xcu xac xho xta xro xle) {D : List (List Nat)} {g : Nat → Nat} (hg : te_AR 3 xgr g) (hk : te_pk P (D ++ [r]) g) {t : Nat} (ht : t < 3) (hc : te_can P (te_q P r) t = true) (htu : xtu r.length = nI t) {b : Option (Nat × Nat)} (hb : te_Bn P r b) (hbi : te_BI b xbr xbt) {post : SX → Prop} {J : Int32 → Int32 → Int32 → Int32 → Int32 → Int32 → Int32 → Int32 → (Nat → Int32) → (Nat → Int32) → (Nat → Int32) → (Nat → Int32) → (Nat → Int32) → (Nat → Int32) → (Nat → Int32) → (Nat → Int32) → (Nat → Int32) → (Nat → Int32) → (Nat → Int32) → (Nat → Int32) → (Nat → Int32) → (Nat → Int32) → (Nat → Int32) → Prop} {x1 : Int32}
    (h : ∀ br bt b' cu ac ho ta ro gr g', te_XQ P (r ++ [t]) cu ac ho ta ro (nI (r.length + 1)) → te_AR 3 gr g' → te_pk P (D ++ [r ++ [t]]) g' → te_Bn P (r ++ [t]) b' → te_BI b' br bt → J (nI (r.length + 1)) (nI (r.length + 1)) br bt xrc xkc xsk xsh xsc xop xpl xod xiv cu ac ho ta ro xtu xck gr xes xls) : wX_takeRun_28 post J x1 (nI r.length) xle xbr xbt xrc xkc xsk xsh xsc xop xpl xod xiv xcu xac xho xta xro xtu xck xgr xes xls := by
  have hl := te_o_lt hW hr ht hc
  have cl : (nI r.length).toNatClampNeg = r.length := nI_clamp (by omega)
  have hi : vp_in (nI r.length) 9 := vp_in_nI hl (by decide)
  have hm : ∀ t, t < 3 → ¬ nI t = -1 := by decide +kernel
  unfold wX_takeRun_28
  rw [cl, htu]
  refine ⟨hi, br_f (hm t ht) ⟨hi, tx_nextAble hW hr hp hq (t + 1) (by omega) (nI_1 t) (fun t' a1 a2 a3 a4 => ?_) (fun a => ?_)⟩⟩
  · refine br_f (hm t' a2) ?_
    exact tx_67 hW hr hp hq hg hk ht hc htu (fun cu ac ho ta ro gr g' i1 i2 i3 => h (nI r.length) (nI t') (some (r.length, t')) cu ac ho ta ro gr g' i1 i2 i3 (te_Bn_new a1 a2 a3 (fun j x y => a4 j x y)) ⟨rfl, rfl⟩)
  · refine br_t rfl ?_
    exact tx_67 hW hr hp hq hg hk ht hc htu (fun cu ac ho ta ro gr g' i1 i2 i3 => h xbr xbt b cu ac ho ta ro gr g' i1 i2 i3 (te_Bn_keep hb (fun j x y => a j x y)) hbi)
/-- the place of a run that is being taken -/
def te_At (P : te_P) (p r : List Nat) : Prop := (r.length < p.length ∧ r = p.take r.length) ∨ (p.length ≤ r.length ∧ te_Lv P p ++ te_Rs P p = te_Lv P r ++ te_Rs P r)
theorem te_snoc_get {r : List Nat} {t : Nat} {f : Nat → Int32} (h : ∀ k x, r[k]? = some x → f k = nI x) (ht : f r.length = nI t) : ∀ k x, (r ++ [t])[k]? = some x → f k = nI x := by
  intro k x hx
  by_cases z : k < r.length
  · rw [List.getElem?_append_left z] at hx
    exact h k x hx
  · rw [List.getElem?_append_right (by omega)] at hx
    by_cases y : k = r.length
    · rw [y, Nat.sub_self, List.getElem?_cons_zero] at hx
      rw [y, ht, Option.some.inj hx]
    · rw [List.getElem?_eq_none (by show 1 ≤ _; omega)] at hx
      exact absurd hx (by simp)
theorem te_upd_get {r : List Nat} {y : Int32} {f : Nat → Int32} {n : Nat} (hn : r.length ≤ n) (h : ∀ k x, r[k]? = some x → f k = nI x) : ∀ k x, r[k]? = some x → upd f n y k = nI x := by
  intro k x hx
  have hk : k < r.length := (List.getElem?_eq_some_iff.mp hx).1
  rw [pk_un (by omega)]
  exact h k x hx
theorem tx_take6 {P : te_P} (hW : te_W P) {p : List Nat} (hpo : te_o P p) (hp : te_XP P xsc xop xpl xod xiv) {D : List (List Nat)} {post : SX → Prop}
    (h : ∀ q le br bt cu ac ho ta ro tu gr g b, te_o P q → te_stb P (te_q P q) = true → te_Lv P p ++ te_Rs P p = q :: te_Rs P q → te_XQ P q cu ac ho ta ro le → (∀ k x, q[k]? = some x → tu k = nI x) → te_Bn P q b → te_BI b br bt → te_AR 3 gr g → te_pk P (D ++ [q]) g → post (le, br, bt, xrc, xkc, xsk, xsh, xsc, xop, xpl, xod, xiv, cu, ac, ho, ta, ro, tu, xck, gr, xes, xls)) :
    ∀ d (r : List Nat), r.length + d = 9 → ∀ (xle xbr xbt : Int32) (xcu xac xho xta xro xtu xgr : Nat → Int32) (g : Nat → Nat) (b : Option (Nat × Nat)), te_o P r → te_At P p r → te_XQ P r xcu xac xho xta xro xle → (∀ k x, p[k]? = some x → r.length ≤ k → xtu k = nI x) → (∀ k x, r[k]? = some x → xtu k = nI x) → te_Bn P r b → te_BI b xbr xbt → te_AR 3 xgr g → te_pk P (D ++ [r]) g → wX_takeRun_6 post (nI p.length) (d + 1) (nI r.length) xle xbr xbt xrc xkc xsk xsh xsc xop xpl xod xiv xcu xac xho xta xro xtu xck xgr xes xls := by
  have hpl := te_o_len hW hpo
  intro d
  induction d with
  | zero =>
    intro r hd xle xbr xbt xcu xac xho xta xro xtu xgr g b hr hA hq htp htr hb hbi hg hk
    have hrl := te_o_len hW hr
    have hs : te_stb P (te_q P r) = true := te_stb_t.mpr (te_rm_stk (by omega))
    rw [wX_takeRun_6]
    refine pk_le 9 r.length (fun _ => ?_) (fun c => absurd c (by omega)) rfl rfl (by omega) (by omega)
    refine h r _ _ _ _ _ _ _ _ _ _ g b hr hs ?_ hq htr hb hbi hg hk
    rcases hA with ⟨a1, a2⟩ | ⟨a1, a2⟩
    · omega
    · rw [a2, te_Lv_stk hs]; rfl
  | succ d ih =>
    intro r hd xle xbr xbt xcu xac xho xta xro xtu xgr g b hr hA hq htp htr hb hbi hg hk
    have cl : (nI r.length).toNatClampNeg = r.length := nI_clamp (by omega)
    have hi : vp_in (nI r.length) 9 := vp_in_nI (by omega) (by decide)
    rw [wX_takeRun_6]
    refine pk_le 9 r.length (fun c => absurd c (by omega)) (fun _ => pk_lt r.length p.length (fun c => ?_) (fun c => ?_) rfl rfl (by omega) (by omega)) rfl rfl (by omega) (by omega)
    · have hrp : r = p.take r.length := by
        rcases hA with ⟨a1, a2⟩ | ⟨a1, a2⟩
        · exact a2
        · omega
      have hg1 : p[r.length]? = some p[r.length] := List.getElem?_eq_getElem c
      have htk : p.take (r.length + 1) = r ++ [p[r.length]] := by
        rw [List.take_add_one, ← hrp, hg1]; rfl
      have ho' : te_o P (r ++ [p[r.length]]) := by rw [← htk]; exact te_o_take hpo _
      have hs := (te_o_snoc P r _).mp ho'
      have htu := htp r.length _ hg1 (Nat.le_refl _)
      refine tx_28 hW hr hp hq hg hk hs.2.1 hs.2.2 htu hb hbi (fun br bt b' cu ac ho ta ro gr g' i1 i2 i3 i4 i5 => ?_)
      have hln : (r ++ [p[r.length]]).length = r.length + 1 := by rw [List.length_append]; rfl
      have := ih (r ++ [p[r.length]]) (by omega) (nI (r.length + 1)) br bt cu ac ho ta ro xtu gr g' b' ho' ?_ i1 (fun k x a1 a2 => htp k x a1 (by omega)) (te_snoc_get htr htu) i4 i5 i2 i3
      · rw [hln] at this; exact this
      · by_cases y : r.length + 1 < p.length
        · exact Or.inl ⟨by omega, by rw [hln, htk]⟩
        · refine Or.inr ⟨by omega, ?_⟩
          have e : p.take (r.length + 1) = p := List.take_of_length_le (by omega)
          rw [← htk, e]
    · have hLv : te_Lv P p ++ te_Rs P p = te_Lv P r ++ te_Rs P r := by
        rcases hA with ⟨a1, a2⟩ | ⟨a1, a2⟩
        · omega
        · exact a2
      refine tx_nextAble hW hr hp hq 0 (by omega) rfl (fun t a1 a2 a3 a4 => ⟨hi, nm_e ?_⟩) (fun a => ⟨hi, nm_e ?_⟩)
      · have ho' : te_o P (r ++ [t]) := (te_o_snoc P r t).mpr ⟨hr, a2, a3⟩
        have htu : upd xtu (nI r.length).toNatClampNeg (nI t) r.length = nI t := by rw [cl]; exact pk_us
        have htr' : ∀ k x, r[k]? = some x → upd xtu (nI r.length).toNatClampNeg (nI t) k = nI x := by rw [cl]; exact te_upd_get (Nat.le_refl _) htr
        have hln : (r ++ [t]).length = r.length + 1 := by rw [List.length_append]; rfl
        refine tx_28 hW hr hp hq hg hk a2 a3 htu hb hbi (fun br bt b' cu ac ho ta ro gr g' i1 i2 i3 i4 i5 => ?_)
        have := ih (r ++ [t]) (by omega) (nI (r.length + 1)) br bt cu ac ho ta ro (upd xtu (nI r.length).toNatClampNeg (nI t)) gr g' b' ho' ?_ i1 (fun k x a1 a2 => ?_) (te_snoc_get htr' htu) i4 i5 i2 i3
        · rw [hln] at this; exact this
        · exact Or.inr ⟨by omega, by rw [hLv]; exact te_x2 hW hr a2 a3 (fun j hj => a4 j (Nat.zero_le _) hj)⟩
        · have := (List.getElem?_eq_some_iff.mp a1).1
          omega
      · have hs : te_stb P (te_q P r) = true := te_stb_t.mpr (fun t ht => a t (Nat.zero_le _) ht)
        unfold wX_takeRun_28
        rw [cl]
        refine ⟨hi, br_t pk_us ?_⟩
        refine h r _ _ _ _ _ _ _ _ _ _ g b hr hs ?_ hq (te_upd_get (Nat.le_refl _) htr) hb hbi hg hk
        rw [hLv, te_Lv_stk hs]; rfl
theorem tx_takeRun {P : te_P} (hW : te_W P) {p : List Nat} (hpo : te_o P p) (hp : te_XP P xsc xop xpl xod xiv) {D : List (List Nat)} {g : Nat → Nat} (htp : ∀ k x, p[k]? = some x → xtu k = nI x) (hg : te_AR 3 xgr g) (hk : te_pk P (D ++ [[]]) g) {post : SX → Prop}
    (h : ∀ q le br bt cu ac ho ta ro tu gr g b, te_o P q → te_stb P (te_q P q) = true → te_Lv P p ++ te_Rs P p = q :: te_Rs P q → te_XQ P q cu ac ho ta ro le → (∀ k x, q[k]? = some x → tu k = nI x) → te_Bn P q b → te_BI b br bt → te_AR 3 gr g → te_pk P (D ++ [q]) g → post (le, br, bt, xrc, xkc, xsk, xsh, xsc, xop, xpl, xod, xiv, cu, ac, ho, ta, ro, tu, xck, gr, xes, xls)) : wpX_takeRun post (xle, xbr, xbt, xrc, xkc, xsk, xsh, xsc, xop, xpl, xod, xiv, xcu, xac, xho, xta, xro, xtu, xck, xgr, xes, xls) (nI p.length) := by
  unfold wpX_takeRun
  dsimp only
  refine tx_beginRun hp (fun ho ac ta cu hq => ⟨9 + 1, ?_⟩)
  refine tx_take6 hW hpo hp h 9 [] rfl 0 (-1) xbt cu ac ho ta xro xtu xgr g none (te_o_nil P) ?_ hq (fun k x a _ => htp k x a) (fun k x a => absurd a (by simp)) (te_Bn_nil P) rfl hg hk
  by_cases c : p.length = 0
  · have : p = [] := List.length_eq_zero_iff.mp c
    rw [this]
    exact Or.inr ⟨Nat.le_refl _, rfl⟩
  · exact Or.inl ⟨by show 0 < _; omega, rfl⟩
end
