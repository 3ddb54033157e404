/-! the first machine: one step, the start of a run, a run -/
section
variable {xle xbr xbt xrc xkc xsk xsh : Int32} {xsc xop xpl xod xiv xcu xac xho xta xro xtu xck xgr xes xls : Nat → Int32}
theorem tx_wr {P : te_P} (hW : te_W P) {r : List Nat} (hr : te_o P r) {D : List (List Nat)} {g : Nat → Nat} (hg : te_AR 3 xgr g) (hk : te_pk P (D ++ [r]) g) {t o p a n w : Nat} (hr' : te_o P (r ++ [t])) (ev : te_vl (te_q P (r ++ [t])) = te_wv o p a n (te_vl (te_q P r))) (ho : 1 ≤ o ∧ o ≤ 3) (hp : p < 3) (hw : w < 100) (e : te_nv o a n (te_vl (te_q P r) p) = w % 8) (q1 : ∀ v, v < 3 → xcu v = nI (te_vl (te_q P r) v)) {Q : SX → Prop} (h : ∀ gr g', te_AR 3 gr g' → te_pk P (D ++ [r ++ [t]]) g' → (∀ v, v < 3 → upd xcu p (nI (w % 8)) v = nI (te_vl (te_q P (r ++ [t])) v)) → Q (xle, xbr, xbt, xrc, xkc, xsk, xsh, xsc, xop, xpl, xod, xiv, upd xcu p (nI (w % 8)), xac, xho, xta, xro, xtu, xck, gr, xes, xls)) : wpX_setValue Q (xle, xbr, xbt, xrc, xkc, xsk, xsh, xsc, xop, xpl, xod, xiv, xcu, xac, xho, xta, xro, xtu, xck, xgr, xes, xls) (nI p) (nI w) := by
  have ev' : te_vl (te_q P (r ++ [t])) = te_u (te_vl (te_q P r)) p (w % 8) := by
    rw [ev]; unfold te_wv; rw [if_pos ho, e]
  refine tx_setValue hg (fun v hv => te_pk_lt hW hk hv) hp hw (fun gr g' hgr hg' => h gr g' hgr (te_vl_max hk t hr' (fun v hv => ?_)) (fun v hv => ?_))
  · rw [hg' v hv, ev']
    have hle := (hk v hv).2 r (List.mem_append_right _ (List.mem_singleton.mpr rfl)) r [] (List.append_nil r).symm
    unfold te_u
    by_cases z : v = p
    · rw [if_pos z]
      by_cases y : g v < w % 8
      · rw [if_pos ⟨z, y⟩, if_pos y]
      · rw [if_neg (fun x => y x.2), if_neg y]
    · rw [if_neg z, if_neg (fun x => z x.1), if_neg (by omega)]
  · rw [ev']
    unfold te_u upd
    by_cases z : v = p
    · rw [if_pos z, if_pos z]
    · rw [if_neg z, if_neg z]; exact q1 v hv
theorem tx_takeStep {P : te_P} (hW : te_W P) {r : List Nat} (hr : te_o P r) (hp : te_XP P xsc xop xpl xod xiv) (hq : te_XQ P r xcu xac xho xta xro xle) {D : List (List Nat)} {g : Nat → Nat} (hg : te_AR 3 xgr g) (hk : te_pk P (D ++ [r]) g) {t : Nat} (ht : t < 3) (hc : te_can P (te_q P r) t = true) {post : SX → Prop} (h : ∀ cu ac ho ta ro gr g', te_XQ P (r ++ [t]) cu ac ho ta ro (nI (r.length + 1)) → te_AR 3 gr g' → te_pk P (D ++ [r ++ [t]]) g' → post (nI (r.length + 1), xbr, xbt, xrc, xkc, xsk, xsh, xsc, xop, xpl, xod, xiv, cu, ac, ho, ta, ro, xtu, xck, gr, xes, xls)) : wpX_takeStep post (xle, xbr, xbt, xrc, xkc, xsk, xsh, xsc, xop, xpl, xod, xiv, xcu, xac, xho, xta, xro, xtu, xck, xgr, xes, xls) (nI t) := by
  have hr' := (te_o_snoc P r t).mpr ⟨hr, ht, hc⟩
  have c := te_can_lt hc
  have ca := te_at hW ht c
  have hB := te_Bd_q hW hr
  obtain ⟨p1, p2, p3⟩ := hp
  obtain ⟨q1, q2, q3, q4, q5, q6⟩ := hq
  obtain ⟨a1, a2, a3⟩ := p2 t ht _ ca.1
  have ev : te_vl (te_q P (r ++ [t])) = te_wv (te_op P t (te_dn (te_q P r) t)) (te_pl P t (te_dn (te_q P r) t)) (te_am P t (te_dn (te_q P r) t)) (te_hn (te_q P r) t) (te_vl (te_q P r)) := by rw [te_q_snoc]; rfl
  have eh : te_hd (te_q P (r ++ [t])) = te_wh (te_op P t (te_dn (te_q P r) t)) (te_pl P t (te_dn (te_q P r) t)) t (te_hd (te_q P r)) := by rw [te_q_snoc]; rfl
  have en : te_hn (te_q P (r ++ [t])) = te_wn (te_op P t (te_dn (te_q P r) t)) t (te_vl (te_q P r) (te_pl P t (te_dn (te_q P r) t))) (te_hn (te_q P r)) := by rw [te_q_snoc]; rfl
  have ct : (nI t).toNatClampNeg = t := nI_clamp (by omega)
  have hi : vp_in (nI t) 3 := vp_in_nI ht (by decide)
  have cx : (nI (4 * t + te_dn (te_q P r) t)).toNatClampNeg = 4 * t + te_dn (te_q P r) t := nI_clamp (by omega)
  have hx : vp_in (nI (4 * t + te_dn (te_q P r) t)) 12 := vp_in_nI (by omega) (by decide)
  obtain ⟨d, hd⟩ : ∃ d, te_dn (te_q P r) t = d := ⟨_, rfl⟩
  obtain ⟨o, eo⟩ : ∃ o, te_op P t d = o := ⟨_, rfl⟩
  obtain ⟨p, ep⟩ : ∃ p, te_pl P t d = p := ⟨_, rfl⟩
  obtain ⟨a, ea⟩ : ∃ a, te_am P t d = a := ⟨_, rfl⟩
  have q4t := q4 t ht
  have h147 : ∀ {xcu xac xho xgr : Nat → Int32} {g' : Nat → Nat}, (∀ v, v < 3 → xcu v = nI (te_vl (te_q P (r ++ [t])) v)) → (∀ t', t' < 3 → xac t' = nI (te_hn (te_q P (r ++ [t])) t')) → (∀ l, l < 2 → xho l = te_hI (te_hd (te_q P (r ++ [t])) l)) → te_AR 3 xgr g' → te_pk P (D ++ [r ++ [t]]) g' → wX_takeStep_147 post (nI t) (nI (4 * t + te_dn (te_q P r) t)) xle xbr xbt xrc xkc xsk xsh xsc xop xpl xod xiv xcu xac xho xta xro xtu xck xgr xes xls := by
    intro xcu xac xho xgr g' i1 i2 i3 i4 i5
    exact tx_147 hW hr' hr i1 i2 i3 q4 q5 q6 (fun ta ro hQ => h _ _ _ _ _ _ g' hQ i4 i5)
  rw [hd] at ca a1 a2 a3 ev eh en cx hx q4t h147
  rw [eo] at ca a1 ev eh en
  rw [ep] at ca a2 ev eh en
  rw [ea] at ca a3 ev
  obtain ⟨ca1, ca2, ca3, ca4, ca5⟩ := ca
  have cp : (nI p).toNatClampNeg = p := nI_clamp (by omega)
  have hip : vp_in (nI p) 3 := vp_in_nI ca3 (by decide)
  have hn8 := hB.2.2 t
  have hv8 := hB.1 p ca3
  unfold wpX_takeStep
  dsimp only
  rw [ct, q4t]
  refine ⟨hi, nm_r (te_num4 t _) ?_⟩
  rw [cx, a1, a2, a3]
  refine ⟨hx, nm_e ⟨hx, nm_e ?_⟩⟩
  rw [cp]
  have vsame : ¬ (1 ≤ o ∧ o ≤ 3) → ∀ v, te_vl (te_q P (r ++ [t])) v = te_vl (te_q P r) v := by
    intro z v; rw [ev]; unfold te_wv; rw [if_neg z]
  have hsame : ¬ 4 ≤ o → ∀ l, l < 2 → xho l = te_hI (te_hd (te_q P (r ++ [t])) l) := by
    intro z l hl; rw [eh]; unfold te_wh; rw [if_neg z]; exact q3 l hl
  have nsame : ¬ o = 0 → ∀ t', t' < 3 → xac t' = nI (te_hn (te_q P (r ++ [t])) t') := by
    intro z t' ht'; rw [en]; unfold te_wn; rw [if_neg z]; exact q2 t' ht'
  have cusame : ¬ (1 ≤ o ∧ o ≤ 3) → ∀ v, v < 3 → xcu v = nI (te_vl (te_q P (r ++ [t])) v) := by
    intro z v hv; rw [vsame z v]; exact q1 v hv
  have pksame : ¬ (1 ≤ o ∧ o ≤ 3) → te_pk P (D ++ [r ++ [t]]) g := fun z => te_pk_same hk t hr' (fun v _ => vsame z v)
  refine br_f (nI_pos (by omega)) (pk_lt 4 o (fun c5 => ?_) (fun c5 => ?_) rfl rfl (by omega) (by omega))
  · have o5 : o = 5 := by omega
    refine tx_giveBack (ca4 (by omega)) ht (hB.2.1 p) (q3 p (ca4 (by omega))) (fun ho' hho' => ?_)
    refine h147 (cusame (by omega)) (nsame (by omega)) ?_ hg (pksame (by omega))
    intro l hl
    show ho' l = te_hI (te_hd (te_q P (r ++ [t])) l)
    have o4 : 4 ≤ o := by omega
    have o4' : ¬ o = 4 := by omega
    rw [hho' l, eh]
    unfold te_wh
    rw [if_pos o4]
    unfold te_u te_nh
    by_cases z : l = p
    · rw [if_pos z, if_pos z, if_neg o4']
    · rw [if_neg z, if_neg z]; exact q3 l hl
  · refine pk_eq o 0 (fun c0 => ⟨hip, hi, nm_e ?_⟩) (fun c0 => pk_eq o 1 (fun c1 => ⟨hx, ?_⟩) (fun c1 => pk_eq o 2 (fun c2 => ⟨hi, hx, ?_⟩) (fun c2 => pk_eq o 3 (fun c3 => ⟨hip, hx, ?_⟩) (fun c3 => pk_eq o 4 (fun c4 => ⟨vp_in_nI (ca4 (by omega)) (by decide), nm_e ?_⟩) (fun c4 => trivial) rfl rfl (by omega) (by omega)) rfl rfl (by omega) (by omega)) rfl rfl (by omega) (by omega)) rfl rfl (by omega) (by omega)) rfl rfl (by omega) (by omega)
    · refine h147 (cusame (by omega)) ?_ (hsame (by omega)) hg (pksame (by omega))
      intro t' ht'
      rw [en]
      unfold te_wn
      rw [if_pos c0]
      unfold upd te_u
      by_cases z : t' = t
      · rw [if_pos z, if_pos z]; exact q1 p ca3
      · rw [if_neg z, if_neg z]; exact q2 t' ht'
    · refine tx_wr hW hr hg hk hr' ev (by omega) ca3 (by omega) ?_ q1 (fun gr g' i1 i2 i3 => h147 i3 (nsame c0) (hsame (by omega)) i1 i2)
      unfold te_nv
      rw [if_pos c1]
      omega
    · rw [q2 t ht, nI_add]
      refine tx_wr hW hr hg hk hr' ev (by omega) ca3 (by omega) ?_ q1 (fun gr g' i1 i2 i3 => h147 i3 (nsame c0) (hsame (by omega)) i1 i2)
      unfold te_nv
      rw [if_neg c1, if_pos c2]
    · rw [q1 p ca3, nI_add]
      refine tx_wr hW hr hg hk hr' ev (by omega) ca3 (by omega) ?_ q1 (fun gr g' i1 i2 i3 => h147 i3 (nsame c0) (hsame (by omega)) i1 i2)
      unfold te_nv
      rw [if_neg c1, if_neg c2]
    · refine h147 (cusame (by omega)) (nsame c0) ?_ hg (pksame (by omega))
      intro l hl
      have o4 : 4 ≤ o := by omega
      rw [eh]
      unfold te_wh
      rw [if_pos o4]
      unfold upd te_u te_nh
      by_cases z : l = p
      · rw [if_pos z, if_pos z, if_pos c4]; exact (te_hI_s t).symm
      · rw [if_neg z, if_neg z]; exact q3 l hl
theorem te_ul {Q : Nat → Int32 → Prop} {a : Nat → Int32} {i : Nat} {x : Int32} (hi : i < 100000) (h : ∀ l, l < i → Q l (a l)) (hx : Q i x) : ∀ l, l < i + 1 → Q l (upd a (nI i).toNatClampNeg x l) := by
  intro l hl
  rw [nI_clamp (by omega)]
  unfold upd
  by_cases z : l = i
  · rw [if_pos z, z]; exact hx
  · rw [if_neg z]; exact h l (by omega)
theorem tx_begin54 {post : SX → Prop} (h : ∀ ho, (∀ l, l < 2 → ho l = -1) → post (0, -1, xbt, xrc, xkc, xsk, xsh, xsc, xop, xpl, xod, xiv, xcu, xac, ho, xta, xro, xtu, xck, xgr, xes, xls)) : ∀ d i, i + d = 2 → ∀ xho : Nat → Int32, (∀ l, l < i → xho l = -1) → wX_beginRun_54 post xle xbr xbt xrc xkc xsk xsh (d + 1) (nI i) xsc xop xpl xod xiv xcu xac xho xta xro xtu xck xgr xes xls := by
  intro d
  induction d with
  | zero =>
    intro i hi xho hh
    rw [wX_beginRun_54]
    exact pk_le 2 i (fun _ => h xho (fun l hl => hh l (by omega))) (fun c => absurd c (by omega)) rfl rfl (by omega) (by omega)
  | succ d ih =>
    intro i hi xho hh
    rw [wX_beginRun_54]
    exact pk_le 2 i (fun c => absurd c (by omega)) (fun c => ⟨vp_in_nI c (by decide), nm_e (nm_r (nI_1 i) (ih (i + 1) (by omega) _ (te_ul (Q := fun l x => x = -1) (by omega) hh rfl)))⟩) rfl rfl (by omega) (by omega)
theorem tx_begin27 {post : SX → Prop} (h : ∀ ho ac ta, (∀ l, l < 2 → ho l = -1) → (∀ l, l < 3 → ac l = 0) → (∀ l, l < 3 → ta l = 0) → post (0, -1, xbt, xrc, xkc, xsk, xsh, xsc, xop, xpl, xod, xiv, xcu, ac, ho, ta, xro, xtu, xck, xgr, xes, xls)) : ∀ d i, i + d = 3 → ∀ xac xta : Nat → Int32, (∀ l, l < i → xac l = 0) → (∀ l, l < i → xta l = 0) → wX_beginRun_27 post xle xbr xbt xrc xkc xsk xsh (d + 1) (nI i) xsc xop xpl xod xiv xcu xac xho xta xro xtu xck xgr xes xls := by
  intro d
  induction d with
  | zero =>
    intro i hi xac xta hh hh'
    rw [wX_beginRun_27]
    exact pk_le 3 i (fun _ => ⟨_, tx_begin54 (fun ho e => h ho xac xta e (fun l hl => hh l (by omega)) (fun l hl => hh' l (by omega))) 2 0 rfl xho (fun l hl => absurd hl (by omega))⟩) (fun c => absurd c (by omega)) rfl rfl (by omega) (by omega)
  | succ d ih =>
    intro i hi xac xta hh hh'
    rw [wX_beginRun_27]
    exact pk_le 3 i (fun c => absurd c (by omega)) (fun c => ⟨vp_in_nI c (by decide), nm_e ⟨vp_in_nI c (by decide), nm_e (nm_r (nI_1 i) (ih (i + 1) (by omega) _ _ (te_ul (Q := fun l x => x = 0) (by omega) hh rfl) (te_ul (Q := fun l x => x = 0) (by omega) hh' rfl)))⟩⟩) rfl rfl (by omega) (by omega)
theorem tx_begin2 {post : SX → Prop} (h : ∀ ho ac ta cu, (∀ l, l < 2 → ho l = -1) → (∀ l, l < 3 → ac l = 0) → (∀ l, l < 3 → ta l = 0) → (∀ l, l < 3 → cu l = xiv l) → post (0, -1, xbt, xrc, xkc, xsk, xsh, xsc, xop, xpl, xod, xiv, cu, ac, ho, ta, xro, xtu, xck, xgr, xes, xls)) : ∀ d i, i + d = 3 → ∀ xcu : Nat → Int32, (∀ l, l < i → xcu l = xiv l) → wX_beginRun_2 post xle xbr xbt xrc xkc xsk xsh (d + 1) (nI i) xsc xop xpl xod xiv xcu xac xho xta xro xtu xck xgr xes xls := by
  intro d
  induction d with
  | zero =>
    intro i hi xcu hh
    rw [wX_beginRun_2]
    exact pk_le 3 i (fun _ => ⟨_, tx_begin27 (fun ho ac ta e1 e2 e3 => h ho ac ta xcu e1 e2 e3 (fun l hl => hh l (by omega))) 3 0 rfl xac xta (fun l hl => absurd hl (by omega)) (fun l hl => absurd hl (by omega))⟩) (fun c => absurd c (by omega)) rfl rfl (by omega) (by omega)
  | succ d ih =>
    intro i hi xcu hh
    rw [wX_beginRun_2]
    exact pk_le 3 i (fun c => absurd c (by omega)) (fun c => ⟨vp_in_nI c (by decide), vp_in_nI c (by decide), nm_e (nm_r (nI_1 i) (ih (i + 1) (by omega) _ (te_ul (Q := fun l x => x = xiv l) (by omega) hh (by rw [nI_clamp (by omega)]))))⟩) rfl rfl (by omega) (by omega)
theorem tx_beginRun {P : te_P} (hp : te_XP P xsc xop xpl xod xiv) {post : SX → Prop} (h : ∀ ho ac ta cu, te_XQ P [] cu ac ho ta xro 0 → post (0, -1, xbt, xrc, xkc, xsk, xsh, xsc, xop, xpl, xod, xiv, cu, ac, ho, ta, xro, xtu, xck, xgr, xes, xls)) : wpX_beginRun post (xle, xbr, xbt, xrc, xkc, xsk, xsh, xsc, xop, xpl, xod, xiv, xcu, xac, xho, xta, xro, xtu, xck, xgr, xes, xls) := by
  unfold wpX_beginRun
  dsimp only
  refine ⟨_, tx_begin2 (fun ho ac ta cu e1 e2 e3 e4 => h ho ac ta cu ⟨fun v hv => ?_, fun t ht => e2 t ht, fun l hl => e1 l hl, fun t ht => e3 t ht, fun k x hx => ?_, rfl⟩) 3 0 rfl xcu (fun l hl => absurd hl (by omega))⟩
  · rw [e4 v hv, hp.2.2 v hv]; rfl
  · exact absurd hx (by simp [te_L, te_st])
end
