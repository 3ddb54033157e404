/-! the first machine: all runs -/
section
variable {xle xbr xbt xrc xkc xsk xsh : Int32} {xsc xop xpl xod xiv xcu xac xho xta xro xtu xck xgr xes xls : Nat → Int32}
theorem tx_fg69 {post : SX → Prop} (h : ∀ ls, (∀ n, n < 12 → ls n = 0) → post (xle, xbr, xbt, 0, 0, 0, 0, xsc, xop, xpl, xod, xiv, xcu, xac, xho, xta, xro, xtu, xck, xgr, xes, ls)) : ∀ d i, i + d = 12 → ∀ xls : Nat → Int32, (∀ l, l < i → xls l = 0) → wX_forgetRuns_69 post xle xbr xbt xrc xkc xsk xsh (d + 1) (nI i) xsc xop xpl xod xiv xcu xac xho xta xro xtu xck xgr xes xls := by
  intro d
  induction d with
  | zero =>
    intro i hi xls hh
    rw [wX_forgetRuns_69]
    exact pk_le 12 i (fun _ => h xls (fun l hl => hh l (by omega))) (fun c => absurd c (by omega)) rfl rfl (by omega) (by omega)
  | succ d ih =>
    intro i hi xls hh
    rw [wX_forgetRuns_69]
    exact pk_le 12 i (fun c => absurd c (by omega)) (fun c => ⟨vp_in_nI c (by decide), nm_e (nm_r (nI_1 i) (ih (i + 1) (by omega) _ (te_ul (Q := fun l x => x = 0) (by omega) hh rfl)))⟩) rfl rfl (by omega) (by omega)
theorem tx_fg49 {post : SX → Prop} (h : ∀ es ls, (∀ t, t < 3 → es t = 0) → (∀ n, n < 12 → ls n = 0) → post (xle, xbr, xbt, 0, 0, 0, 0, xsc, xop, xpl, xod, xiv, xcu, xac, xho, xta, xro, xtu, xck, xgr, es, ls)) : ∀ d i, i + d = 3 → ∀ xes : Nat → Int32, (∀ l, l < i → xes l = 0) → wX_forgetRuns_49 post xle xbr xbt xrc xkc xsk xsh (d + 1) (nI i) xsc xop xpl xod xiv xcu xac xho xta xro xtu xck xgr xes xls := by
  intro d
  induction d with
  | zero =>
    intro i hi xes hh
    rw [wX_forgetRuns_49]
    exact pk_le 3 i (fun _ => ⟨12 + 1, tx_fg69 (fun ls k => h xes ls (fun l hl => hh l (by omega)) k) 12 0 rfl xls (fun l hl => absurd hl (by omega))⟩) (fun c => absurd c (by omega)) rfl rfl (by omega) (by omega)
  | succ d ih =>
    intro i hi xes hh
    rw [wX_forgetRuns_49]
    exact pk_le 3 i (fun c => absurd c (by omega)) (fun c => ⟨vp_in_nI c (by decide), nm_e (nm_r (nI_1 i) (ih (i + 1) (by omega) _ (te_ul (Q := fun l x => x = 0) (by omega) hh rfl)))⟩) rfl rfl (by omega) (by omega)
theorem tx_fg24 {post : SX → Prop} (h : ∀ gr es ls, (∀ v, v < 3 → gr v = xiv v) → (∀ t, t < 3 → es t = 0) → (∀ n, n < 12 → ls n = 0) → post (xle, xbr, xbt, 0, 0, 0, 0, xsc, xop, xpl, xod, xiv, xcu, xac, xho, xta, xro, xtu, xck, gr, es, ls)) : ∀ d i, i + d = 3 → ∀ xgr : Nat → Int32, (∀ l, l < i → xgr l = xiv l) → wX_forgetRuns_24 post xle xbr xbt xrc xkc xsk xsh (d + 1) (nI i) xsc xop xpl xod xiv xcu xac xho xta xro xtu xck xgr xes xls := by
  intro d
  induction d with
  | zero =>
    intro i hi xgr hh
    rw [wX_forgetRuns_24]
    exact pk_le 3 i (fun _ => ⟨3 + 1, tx_fg49 (fun es ls k1 k2 => h xgr es ls (fun l hl => hh l (by omega)) k1 k2) 3 0 rfl xes (fun l hl => absurd hl (by omega))⟩) (fun c => absurd c (by omega)) rfl rfl (by omega) (by omega)
  | succ d ih =>
    intro i hi xgr hh
    rw [wX_forgetRuns_24]
    exact pk_le 3 i (fun c => absurd c (by omega)) (fun c => ⟨vp_in_nI c (by decide), vp_in_nI c (by decide), nm_e (nm_r (nI_1 i) (ih (i + 1) (by omega) _ (te_ul (Q := fun l x => x = xiv l) (by omega) hh (by rw [nI_clamp (by omega)]))))⟩) rfl rfl (by omega) (by omega)
theorem tx_fg2 {post : SX → Prop} (h : ∀ ck gr es ls, (∀ i, i < 512 → ck i = 0) → (∀ v, v < 3 → gr v = xiv v) → (∀ t, t < 3 → es t = 0) → (∀ n, n < 12 → ls n = 0) → post (xle, xbr, xbt, 0, 0, 0, 0, xsc, xop, xpl, xod, xiv, xcu, xac, xho, xta, xro, xtu, ck, gr, es, ls)) : ∀ d i, i + d = 512 → ∀ xck : Nat → Int32, (∀ l, l < i → xck l = 0) → wX_forgetRuns_2 post xle xbr xbt xrc xkc xsk xsh (d + 1) (nI i) xsc xop xpl xod xiv xcu xac xho xta xro xtu xck xgr xes xls := by
  intro d
  induction d with
  | zero =>
    intro i hi xck hh
    rw [wX_forgetRuns_2]
    exact pk_le 512 i (fun _ => ⟨3 + 1, tx_fg24 (fun gr es ls k0 k1 k2 => h xck gr es ls (fun l hl => hh l (by omega)) k0 k1 k2) 3 0 rfl xgr (fun l hl => absurd hl (by omega))⟩) (fun c => absurd c (by omega)) rfl rfl (by omega) (by omega)
  | succ d ih =>
    intro i hi xck hh
    rw [wX_forgetRuns_2]
    exact pk_le 512 i (fun c => absurd c (by omega)) (fun c => ⟨vp_in_nI c (by decide), nm_e (nm_r (nI_1 i) (ih (i + 1) (by omega) _ (te_ul (Q := fun l x => x = 0) (by omega) hh rfl)))⟩) rfl rfl (by omega) (by omega)
theorem tx_forgetRuns {post : SX → Prop} (h : ∀ ck gr es ls, (∀ i, i < 512 → ck i = 0) → (∀ v, v < 3 → gr v = xiv v) → (∀ t, t < 3 → es t = 0) → (∀ n, n < 12 → ls n = 0) → post (xle, xbr, xbt, 0, 0, 0, 0, xsc, xop, xpl, xod, xiv, xcu, xac, xho, xta, xro, xtu, ck, gr, es, ls)) : wpX_forgetRuns post (xle, xbr, xbt, xrc, xkc, xsk, xsh, xsc, xop, xpl, xod, xiv, xcu, xac, xho, xta, xro, xtu, xck, xgr, xes, xls) := by
  unfold wpX_forgetRuns
  dsimp only
  exact ⟨512 + 1, tx_fg2 h 512 0 rfl xck (fun l hl => absurd hl (by omega))⟩
theorem tx_turnToNext {P : te_P} (hW : te_W P) {q : List Nat} (hq : te_o P q) (htu : ∀ k x, q[k]? = some x → xtu k = nI x) {b : Option (Nat × Nat)} (hb : te_Bn P q b) (hbi : te_BI b xbr xbt) {post : Int32 → SX → Prop} (h1 : te_Rs P q = [] → post (-1) (xle, xbr, xbt, xrc, xkc, xsk, xsh, xsc, xop, xpl, xod, xiv, xcu, xac, xho, xta, xro, xtu, xck, xgr, xes, xls)) (h2 : ∀ p tu, te_o P p → te_Rs P q = te_Lv P p ++ te_Rs P p → (∀ k x, p[k]? = some x → tu k = nI x) → post (nI p.length) (xle, xbr, xbt, xrc, xkc, xsk, xsh, xsc, xop, xpl, xod, xiv, xcu, xac, xho, xta, xro, tu, xck, xgr, xes, xls)) : wpX_turnToNextRun post (xle, xbr, xbt, xrc, xkc, xsk, xsh, xsc, xop, xpl, xod, xiv, xcu, xac, xho, xta, xro, xtu, xck, xgr, xes, xls) := by
  have hl9 := te_o_len hW hq
  unfold wpX_turnToNextRun
  dsimp only
  cases b with
  | none =>
    have e : xbr = -1 := hbi
    rw [e] at h1 ⊢
    exact br_t rfl (h1 hb)
  | some kt =>
    obtain ⟨k, t⟩ := kt
    obtain ⟨e1, e2⟩ := hbi
    obtain ⟨k1, k2, k3, k4⟩ := hb
    have ck : (nI k).toNatClampNeg = k := nI_clamp (by omega)
    have hm : ∀ n, n < 9 → ¬ nI n = -1 := by decide +kernel
    have hlen : (q.take k).length = k := by rw [List.length_take]; omega
    have hlen2 : (q.take k ++ [t]).length = k + 1 := by rw [List.length_append, hlen]; rfl
    have := h2 (q.take k ++ [t]) (upd xtu k (nI t)) ((te_o_snoc P _ t).mpr ⟨te_o_take hq k, k2, k3⟩) k4 (te_snoc_get (fun j x hj => ?_) (by rw [hlen]; exact pk_us))
    · rw [hlen2] at this
      rw [e1, e2, ck]
      refine br_f (hm k (by omega)) ⟨vp_in_nI (by omega) (by decide), nm_e ?_⟩
      rw [e1, e2] at this
      rw [nI_1]
      exact this
    · have hjk : j < k := by
        have := (List.getElem?_eq_some_iff.mp hj).1
        omega
      rw [pk_un (by omega)]
      rw [List.getElem?_take, if_pos hjk] at hj
      exact htu j x hj
theorem te_Lv_pos (P : te_P) (p : List Nat) : 0 < (te_Lv P p).length := by
  obtain ⟨m, hm⟩ := te_lv_ne (P := P) (9 - p.length) (te_q P p)
  unfold te_Lv
  rw [List.length_map]
  exact List.length_pos_of_mem hm
theorem tx_expl8 {P : te_P} (hW : te_W P) (hp : te_XP P xsc xop xpl xod xiv) {post : SX → Prop} (h : ∀ le br bt rc kc sk sh cu ac ho ta ro tu ck gr es ls g, te_XA P (te_all P) rc kc sk sh ck es ls → te_AR 3 gr g → te_pk P (te_all P) g → post (le, br, bt, rc, kc, sk, sh, xsc, xop, xpl, xod, xiv, cu, ac, ho, ta, ro, tu, ck, gr, es, ls)) :
    ∀ d (D : List (List Nat)) (p : List Nat), te_o P p → te_all P = D ++ (te_Lv P p ++ te_Rs P p) → (te_all P).length ≤ D.length + d → ∀ (xle xbr xbt xrc xkc xsk xsh : Int32) (xcu xac xho xta xro xtu xck xgr xes xls : Nat → Int32) (g : Nat → Nat), (∀ k x, p[k]? = some x → xtu k = nI x) → te_AR 3 xgr g → te_pk P (D ++ [[]]) g → te_XA P D xrc xkc xsk xsh xck xes xls → wX_explore_8 post (d + 1) (nI p.length) (nI D.length) xle xbr xbt xrc xkc xsk xsh xsc xop xpl xod xiv xcu xac xho xta xro xtu xck xgr xes xls := by
  have hlen := te_all_len hW
  intro d
  induction d with
  | zero =>
    intro D p hpo hall hd
    have h1 := te_Lv_pos P p
    rw [hall, List.length_append, List.length_append] at hd
    omega
  | succ d ih =>
    intro D p hpo hall hd xle xbr xbt xrc xkc xsk xsh xcu xac xho xta xro xtu xck xgr xes xls g htu hg hk hA
    have hl9 := te_o_len hW hpo
    have hDl : D.length < (te_all P).length := by
      have h1 := te_Lv_pos P p
      rw [hall, List.length_append, List.length_append]
      omega
    have hm : ∀ n, n < 10 → ¬ nI n = -1 := by decide +kernel
    rw [wX_explore_8]
    refine pk_le 1680 _ (fun c => absurd c (by omega)) (fun c => br_f (hm _ (by omega)) ?_) rfl rfl (by omega) (by omega)
    refine tx_takeRun hW hpo hp htu hg hk (fun q le br bt cu ac ho ta ro tu gr g' b j1 j2 j3 j4 j5 j6 j7 j8 j9 => ?_)
    have hD9 : ∀ q, q ∈ D → q.length ≤ 9 := by
      intro q hq
      have ho := ((te_all_mem hW q).mp (by rw [hall]; exact List.mem_append_left _ hq)).1
      have := te_o_len hW (p := q) ho
      omega
    refine tx_recordRun hW j1 hp j4 hD9 hA (fun rc kc sk sh ck es ls hA' => ?_)
    rw [j3] at hall
    have hln : (D ++ [q]).length = D.length + 1 := by rw [List.length_append]; rfl
    refine tx_turnToNext hW j1 j5 j6 j7 (fun e => ?_) (fun p' tu' k1 k2 k3 => ?_)
    · refine nm_r (nI_1 _) ?_
      have e2 : te_all P = D ++ [q] := by rw [hall, e]
      have hfin := h le br bt rc kc sk sh cu ac ho ta ro tu ck gr es ls g' (by rw [e2]; exact hA') j8 (by rw [e2]; exact j9)
      rw [wX_explore_8]
      exact br_c (fun _ => hfin) (fun _ => br_t rfl hfin)
    · refine nm_r (nI_1 _) ?_
      have e2 : te_all P = (D ++ [q]) ++ (te_Lv P p' ++ te_Rs P p') := by rw [hall, ← k2, List.append_assoc]; rfl
      have := ih (D ++ [q]) p' k1 e2 (by rw [hln]; omega) le br bt rc kc sk sh cu ac ho ta ro tu' ck gr es ls g' k3 j8 (te_pk_nil j9) hA'
      rw [hln] at this
      exact this
theorem te_XA_nil (P : te_P) {ck es ls : Nat → Int32} (h1 : ∀ i, i < 512 → ck i = 0) (h2 : ∀ t, t < 3 → es t = 0) (h3 : ∀ n, n < 12 → ls n = 0) : te_XA P [] 0 0 0 0 ck es ls := by
  refine ⟨rfl, rfl, rfl, rfl, fun i hi => h1 i hi, fun t ht => h2 t ht, fun x y x1 x2 y1 y2 => ?_⟩
  rw [h3 _ (by omega), b_0]
  exact ⟨fun z => absurd z (by decide), fun ⟨q, hq, _⟩ => absurd hq List.not_mem_nil⟩
theorem tx_explore {P : te_P} (hW : te_W P) (hp : te_XP P xsc xop xpl xod xiv) {post : SX → Prop} (h : ∀ le br bt rc kc sk sh cu ac ho ta ro tu ck gr es ls g, te_XA P (te_all P) rc kc sk sh ck es ls → te_AR 3 gr g → te_pk P (te_all P) g → post (le, br, bt, rc, kc, sk, sh, xsc, xop, xpl, xod, xiv, cu, ac, ho, ta, ro, tu, ck, gr, es, ls)) : wpX_explore post (xle, xbr, xbt, xrc, xkc, xsk, xsh, xsc, xop, xpl, xod, xiv, xcu, xac, xho, xta, xro, xtu, xck, xgr, xes, xls) := by
  unfold wpX_explore
  dsimp only
  refine tx_forgetRuns (fun ck gr es ls k1 k2 k3 k4 => ⟨(te_all P).length + 1, ?_⟩)
  refine tx_expl8 hW hp h (te_all P).length [] [] (te_o_nil P) ?_ (by omega) xle xbr xbt 0 0 0 0 xcu xac xho xta xro xtu ck gr es ls (te_ini P) (fun k x hx => absurd hx (by simp)) (fun v hv => by rw [k2 v hv]; exact hp.2.2 v hv) (te_pk_ini P) (te_XA_nil P k1 k3 k4)
  rw [te_Rs_nil, List.append_nil, te_all_Lv]
  rfl
end
