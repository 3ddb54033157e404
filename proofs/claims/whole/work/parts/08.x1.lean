/-! the first machine: able, next able, one step -/
section
variable {xle xbr xbt xrc xkc xsk xsh : Int32} {xsc xop xpl xod xiv xcu xac xho xta xro xtu xck xgr xes xls : Nat → Int32}
def te_XP (P : te_P) (xsc xop xpl xod xiv : Nat → Int32) : Prop :=
  (∀ t, t < 3 → xsc t = nI (te_sz P t)) ∧ (∀ t, t < 3 → ∀ i, i < 3 → xop (4 * t + i) = nI (te_op P t i) ∧ xpl (4 * t + i) = nI (te_pl P t i) ∧ xod (4 * t + i) = nI (te_am P t i)) ∧ ∀ v, v < 3 → xiv v = nI (te_ini P v)
def te_XQ (P : te_P) (r : List Nat) (xcu xac xho xta xro : Nat → Int32) (xle : Int32) : Prop :=
  (∀ v, v < 3 → xcu v = nI (te_vl (te_q P r) v)) ∧ (∀ t, t < 3 → xac t = nI (te_hn (te_q P r) t)) ∧ (∀ l, l < 2 → xho l = te_hI (te_hd (te_q P r) l)) ∧ (∀ t, t < 3 → xta t = nI (te_dn (te_q P r) t)) ∧ (∀ k x, (te_L P r)[k]? = some x → xro k = nI (4 * x.1 + x.2)) ∧ xle = nI r.length
theorem te_can_iff {P : te_P} {s : te_S} {t : Nat} : te_can P s t = true ↔ te_dn s t < te_sz P t ∧ (te_op P t (te_dn s t) = 4 → te_hd s (te_pl P t (te_dn s t)) = 0) := by
  unfold te_can
  simp only [Bool.and_eq_true, Bool.or_eq_true, decide_eq_true_eq, ne_eq]
  constructor
  · intro ⟨a, b⟩
    exact ⟨a, fun c => b.resolve_left (fun z => z c)⟩
  · intro ⟨a, b⟩
    refine ⟨a, ?_⟩
    by_cases c : te_op P t (te_dn s t) = 4
    · exact Or.inr (b c)
    · exact Or.inl c
theorem te_num4 (t d : Nat) : nI t * 4 + nI d = nI (4 * t + d) := by
  show nI t * nI 4 + nI d = _
  rw [pk_mul, nI_add]
  exact congrArg nI (by omega)
theorem tx_isAble {P : te_P} (hW : te_W P) {r : List Nat} (hr : te_o P r) (hp : te_XP P xsc xop xpl xod xiv) (hq : te_XQ P r xcu xac xho xta xro xle) {t : Nat} (ht : t < 3) {post : Int32 → Prop} (h : post (if te_can P (te_q P r) t = true then 1 else 0)) : wpX_isAble post (xle, xbr, xbt, xrc, xkc, xsk, xsh, xsc, xop, xpl, xod, xiv, xcu, xac, xho, xta, xro, xtu, xck, xgr, xes, xls) (nI t) := by
  obtain ⟨p1, p2, p3⟩ := hp
  obtain ⟨q1, q2, q3, q4, q5, q6⟩ := hq
  have hd := te_dn_le hW hr ht
  have hB := te_Bd_q hW hr
  have ct : (nI t).toNatClampNeg = t := nI_clamp (by omega)
  have hi : vp_in (nI t) 3 := vp_in_nI ht (by decide)
  unfold wpX_isAble
  dsimp only
  rw [ct, q4 t ht, p1 t ht]
  refine ⟨hi, hi, pk_lt _ _ (fun c => ⟨hi, nm_r (te_num4 t _) ?_⟩) (fun c => ?_) rfl rfl (by omega) (by omega)⟩
  · have ca := te_at hW ht c
    have cx : (nI (4 * t + te_dn (te_q P r) t)).toNatClampNeg = 4 * t + te_dn (te_q P r) t := nI_clamp (by omega)
    obtain ⟨a1, a2, a3⟩ := p2 t ht _ ca.1
    rw [cx, a1, a2]
    refine ⟨vp_in_nI (by omega) (by decide), pk_eq _ 4 (fun c4 => ⟨vp_in_nI (by omega) (by decide), vp_in_nI (ca.2.2.2.1 (by omega)) (by decide), ?_⟩) (fun c4 => ?_) rfl rfl (by omega) (by omega)⟩
    · have hl := ca.2.2.2.1 (by omega)
      have cp : (nI (te_pl P t (te_dn (te_q P r) t))).toNatClampNeg = te_pl P t (te_dn (te_q P r) t) := nI_clamp (by omega)
      rw [cp, q3 _ hl]
      by_cases z : te_hd (te_q P r) (te_pl P t (te_dn (te_q P r) t)) = 0
      · rw [if_pos (te_can_iff.mpr ⟨c, fun _ => z⟩)] at h
        exact br_t ((te_hI_m1 _ (hB.2.1 _)).mpr z) h
      · rw [if_neg (fun y => z ((te_can_iff.mp y).2 c4))] at h
        exact br_f (fun y => z ((te_hI_m1 _ (hB.2.1 _)).mp y)) h
    · rw [if_pos (te_can_iff.mpr ⟨c, fun y => absurd y c4⟩)] at h
      exact h
  · rw [if_neg (fun y => absurd (te_can_iff.mp y).1 (by omega))] at h
    exact h
theorem tx_na {P : te_P} (hW : te_W P) {r : List Nat} (hr : te_o P r) (hp : te_XP P xsc xop xpl xod xiv) (hq : te_XQ P r xcu xac xho xta xro xle) {post : Int32 → Prop} : ∀ d f, f + d = 3 → (∀ t, f ≤ t → t < 3 → te_can P (te_q P r) t = true → (∀ j, f ≤ j → j < t → te_can P (te_q P r) j = false) → post (nI t)) → ((∀ j, f ≤ j → j < 3 → te_can P (te_q P r) j = false) → post (-1)) → wX_nextAble_4 post xle xbr xbt xrc xkc xsk xsh xsc xop xpl xod xiv xcu xac xho xta xro xtu xck xgr xes xls (d + 1) (nI f) := by
  intro d
  induction d with
  | zero =>
    intro f hf h1 h2
    rw [wX_nextAble_4]
    exact pk_le 3 f (fun _ => h2 (fun j a b => absurd b (by omega))) (fun c => absurd c (by omega)) rfl rfl (by omega) (by omega)
  | succ d ih =>
    intro f hf h1 h2
    rw [wX_nextAble_4]
    refine pk_le 3 f (fun c => absurd c (by omega)) (fun c => tx_isAble hW hr hp hq (by omega) ?_) rfl rfl (by omega) (by omega)
    cases hc : te_can P (te_q P r) f with
    | true =>
      rw [if_pos rfl]
      exact br_f (by decide) (h1 f (Nat.le_refl _) (by omega) hc (fun j a b => absurd b (by omega)))
    | false =>
      rw [if_neg (by decide)]
      refine br_t rfl (nm_r (nI_1 f) (ih (f + 1) (by omega) ?_ ?_))
      · intro t a b c e
        refine h1 t (by omega) b c (fun j x y => ?_)
        by_cases z : j = f
        · rw [z]; exact hc
        · exact e j (by omega) y
      · intro e
        refine h2 (fun j x y => ?_)
        by_cases z : j = f
        · rw [z]; exact hc
        · exact e j (by omega) y
theorem tx_nextAble {P : te_P} (hW : te_W P) {r : List Nat} (hr : te_o P r) (hp : te_XP P xsc xop xpl xod xiv) (hq : te_XQ P r xcu xac xho xta xro xle) {post : Int32 → Prop} {a : Int32} (f : Nat) (hf : f ≤ 3) (ha : a + 1 = nI f) (h1 : ∀ t, f ≤ t → t < 3 → te_can P (te_q P r) t = true → (∀ j, f ≤ j → j < t → te_can P (te_q P r) j = false) → post (nI t)) (h2 : (∀ j, f ≤ j → j < 3 → te_can P (te_q P r) j = false) → post (-1)) : wpX_nextAble post (xle, xbr, xbt, xrc, xkc, xsk, xsh, xsc, xop, xpl, xod, xiv, xcu, xac, xho, xta, xro, xtu, xck, xgr, xes, xls) a := by
  unfold wpX_nextAble
  dsimp only
  exact nm_r ha ⟨3 - f + 1, tx_na hW hr hp hq (3 - f) f (by omega) h1 h2⟩
theorem te_pk_lt {P : te_P} (hW : te_W P) {D : List (List Nat)} {g : Nat → Nat} (h : te_pk P D g) {v : Nat} (hv : v < 3) : g v < 8 := by
  rcases (h v hv).1 with e | ⟨p, ho, e⟩
  · omega
  · rw [← e]; exact (te_Bd_q hW ho).1 v hv
theorem te_pk_congr {P : te_P} {D : List (List Nat)} {g g' : Nat → Nat} (h : te_pk P D g) (e : ∀ v, v < 3 → g' v = g v) : te_pk P D g' := by
  intro v hv
  rw [e v hv]
  exact h v hv
theorem te_pk_same {P : te_P} {D : List (List Nat)} {r : List Nat} {g : Nat → Nat} (h : te_pk P (D ++ [r]) g) (t : Nat) (ho : te_o P (r ++ [t])) (hv : ∀ v, v < 3 → te_vl (te_q P (r ++ [t])) v = te_vl (te_q P r) v) : te_pk P (D ++ [r ++ [t]]) g := by
  refine te_vl_max h t ho (fun v hv3 => ?_)
  have := (h v hv3).2 r (List.mem_append_right _ (List.mem_singleton.mpr rfl)) r [] (List.append_nil r).symm
  rw [hv v hv3, if_neg (by omega)]
theorem tx_setValue {g : Nat → Nat} (hg : te_AR 3 xgr g) (hg8 : ∀ v, v < 3 → g v < 8) {p w : Nat} (hp : p < 3) (hw : w < 100) {post : SX → Prop} (h : ∀ gr g', te_AR 3 gr g' → (∀ v, v < 3 → g' v = if v = p ∧ g v < w % 8 then w % 8 else g v) → post (xle, xbr, xbt, xrc, xkc, xsk, xsh, xsc, xop, xpl, xod, xiv, upd xcu p (nI (w % 8)), xac, xho, xta, xro, xtu, xck, gr, xes, xls)) : wpX_setValue post (xle, xbr, xbt, xrc, xkc, xsk, xsh, xsc, xop, xpl, xod, xiv, xcu, xac, xho, xta, xro, xtu, xck, xgr, xes, xls) (nI p) (nI w) := by
  have cp : (nI p).toNatClampNeg = p := nI_clamp (by omega)
  have hi : vp_in (nI p) 3 := vp_in_nI hp (by decide)
  have hm : nI w - nI w / 8 * 8 = nI (w % 8) := pk_rem (d := 8) (by omega) (by decide) (by decide)
  have hgp := hg8 p hp
  unfold wpX_setValue
  dsimp only
  rw [cp, hm]
  refine ⟨by decide, hi, nm_e ⟨hi, hi, ?_⟩⟩
  rw [pk_us, hg p hp]
  refine pk_le _ _ (fun c => ?_) (fun c => ⟨hi, hi, nm_e ?_⟩) rfl rfl (by omega) (by omega)
  · refine h xgr g hg (fun v hv => ?_)
    rw [if_neg]
    intro ⟨z, y⟩
    rw [z] at y
    omega
  · refine h _ (te_u g p (w % 8)) (te_A_upd hg p (w % 8)) (fun v hv => ?_)
    unfold te_u
    by_cases z : v = p
    · rw [if_pos z, if_pos ⟨z, by rw [z]; omega⟩]
    · rw [if_neg z, if_neg (fun y => z y.1)]
theorem tx_giveBack {p t n : Nat} (hp : p < 2) (ht : t < 3) (hn : n < 4) (hh : xho p = te_hI n) {post : SX → Prop} (h : ∀ ho, (∀ l, ho l = if l = p then te_hI (if n = t + 1 then 0 else n) else xho l) → post (xle, xbr, xbt, xrc, xkc, xsk, xsh, xsc, xop, xpl, xod, xiv, xcu, xac, ho, xta, xro, xtu, xck, xgr, xes, xls)) : wpX_giveBack post (xle, xbr, xbt, xrc, xkc, xsk, xsh, xsc, xop, xpl, xod, xiv, xcu, xac, xho, xta, xro, xtu, xck, xgr, xes, xls) (nI p) (nI t) := by
  have cp : (nI p).toNatClampNeg = p := nI_clamp (by omega)
  have hi : vp_in (nI p) 2 := vp_in_nI hp (by decide)
  unfold wpX_giveBack
  dsimp only
  rw [cp, hh]
  refine ⟨hi, ?_⟩
  by_cases c : n = t + 1
  · refine br_t ((te_hI_eq n hn t ht).mpr c) ⟨hi, nm_e (h _ (fun l => ?_))⟩
    rw [if_pos c]
    rfl
  · refine br_f (fun z => c ((te_hI_eq n hn t ht).mp z)) (h xho (fun l => ?_))
    rw [if_neg c]
    by_cases z : l = p
    · rw [if_pos z, z]; exact hh
    · rw [if_neg z]
theorem tx_147 {P : te_P} (hW : te_W P) {r : List Nat} {t : Nat} (hr : te_o P (r ++ [t])) (hr0 : te_o P r) (hcu : ∀ v, v < 3 → xcu v = nI (te_vl (te_q P (r ++ [t])) v)) (hac : ∀ t', t' < 3 → xac t' = nI (te_hn (te_q P (r ++ [t])) t')) (hho : ∀ l, l < 2 → xho l = te_hI (te_hd (te_q P (r ++ [t])) l)) (hta : ∀ t', t' < 3 → xta t' = nI (te_dn (te_q P r) t')) (hro : ∀ k x, (te_L P r)[k]? = some x → xro k = nI (4 * x.1 + x.2)) (hle : xle = nI r.length) {post : SX → Prop} (h : ∀ ta ro, te_XQ P (r ++ [t]) xcu xac xho ta ro (nI (r.length + 1)) → post (nI (r.length + 1), xbr, xbt, xrc, xkc, xsk, xsh, xsc, xop, xpl, xod, xiv, xcu, xac, xho, ta, ro, xtu, xck, xgr, xes, xls)) : wX_takeStep_147 post (nI t) (nI (4 * t + te_dn (te_q P r) t)) xle xbr xbt xrc xkc xsk xsh xsc xop xpl xod xiv xcu xac xho xta xro xtu xck xgr xes xls := by
  have hs := (te_o_snoc P r t).mp hr
  have hl := te_o_lt hW hr0 hs.2.1 hs.2.2
  have ht := hs.2.1
  have ct : (nI t).toNatClampNeg = t := nI_clamp (by omega)
  have cl : (nI r.length).toNatClampNeg = r.length := nI_clamp (by omega)
  have hi : vp_in (nI t) 3 := vp_in_nI ht (by decide)
  unfold wX_takeStep_147
  rw [hle, ct, cl, hta t ht]
  refine ⟨vp_in_nI hl (by decide), nm_e (nm_r (nI_1 _) ⟨hi, hi, nm_r (congrArg (upd xta t) (nI_1 _)) (h _ _ ⟨hcu, hac, hho, ?_, ?_, ?_⟩)⟩)⟩
  · intro t' ht'
    rw [te_q_snoc, te_dn_a]
    unfold upd
    by_cases z : t' = t
    · rw [if_pos z, if_pos z]
    · rw [if_neg z, if_neg z]; exact hta t' ht'
  · intro k x hx
    rw [te_L_snoc] at hx
    have hlen := te_L_len P r
    unfold upd
    by_cases z : k = r.length
    · rw [if_pos z]
      rw [List.getElem?_append_right (by omega), show k - (te_L P r).length = 0 by omega, List.getElem?_cons_zero] at hx
      rw [← Option.some.inj hx]
    · rw [if_neg z]
      by_cases y : k < r.length
      · rw [List.getElem?_append_left (by omega)] at hx
        exact hro k x hx
      · rw [List.getElem?_eq_none (by rw [List.length_append]; show _ + 1 ≤ k; omega)] at hx
        exact absurd hx (by simp)
  · rw [List.length_append]; rfl
end
