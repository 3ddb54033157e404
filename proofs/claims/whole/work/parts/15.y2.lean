/-! the second machine: replay, tied, key -/
section
variable {yde yru yki yso : Int32} {ysz ywh yam yfi yro ydo yva yhe yhn ypl ywl you ypk yen yea : Nat → Int32} {yke : Nat → Int64}
theorem ty_note2 {g vl : Nat → Nat} (hva : ∀ v, v < 3 → yva v = nI (vl v)) (hv8 : ∀ v, v < 3 → vl v < 8) (hg8 : ∀ v, v < 3 → g v < 8) {post : SY → Prop} (h : ∀ pk g', te_AR 3 pk g' → (∀ v, v < 3 → g' v = if g v < vl v then vl v else g v) → post (yde, yru, yki, yso, ysz, ywh, yam, yfi, yro, ydo, yva, yhe, yhn, ypl, yke, ywl, you, pk, yen, yea)) : ∀ d i, i + d = 3 → ∀ (ypk : Nat → Int32) (g' : Nat → Nat), te_AR 3 ypk g' → (∀ v, v < i → g' v = if g v < vl v then vl v else g v) → (∀ v, i ≤ v → v < 3 → g' v = g v) → wY_noteValues_2 post yde yru yki yso (d + 1) (nI i) ysz ywh yam yfi yro ydo yva yhe yhn ypl yke ywl you ypk yen yea := by
  intro d
  induction d with
  | zero =>
    intro i hi ypk g' hA h1 h2
    rw [wY_noteValues_2]
    exact pk_le 3 i (fun _ => h ypk g' hA (fun v hv => h1 v (by omega))) (fun c => absurd c (by omega)) rfl rfl (by omega) (by omega)
  | succ d ih =>
    intro i hi ypk g' hA h1 h2
    have ci : (nI i).toNatClampNeg = i := nI_clamp (by omega)
    have hii : vp_in (nI i) 3 := vp_in_nI (by omega) (by decide)
    have e0 := h2 i (Nat.le_refl _) (by omega)
    have b1 := hv8 i (by omega)
    have b2 := hg8 i (by omega)
    rw [wY_noteValues_2]
    dsimp only
    rw [ci, hva i (by omega), hA i (by omega)]
    refine pk_le 3 i (fun c => absurd c (by omega)) (fun c => ⟨hii, hii, pk_le _ _ (fun c2 => nm_r (nI_1 i) (ih (i + 1) (by omega) ypk g' hA ?_ ?_)) (fun c2 => ⟨hii, hii, nm_e (nm_r (nI_1 i) (ih (i + 1) (by omega) _ (te_u g' i (vl i)) (te_A_upd hA i (vl i)) ?_ ?_))⟩) rfl rfl (by omega) (by omega)⟩) rfl rfl (by omega) (by omega)
    · intro v hv
      by_cases z : v = i
      · rw [z, e0, if_neg (by omega)]
      · exact h1 v (by omega)
    · intro v x1 x2; exact h2 v (by omega) x2
    · intro v hv
      unfold te_u
      by_cases z : v = i
      · rw [if_pos z, z, if_pos (by omega)]
      · rw [if_neg z]; exact h1 v (by omega)
    · intro v x1 x2
      rw [te_u_ne _ _ (by omega)]
      exact h2 v (by omega) x2
theorem ty_noteValues {g vl : Nat → Nat} (hva : ∀ v, v < 3 → yva v = nI (vl v)) (hv8 : ∀ v, v < 3 → vl v < 8) (hg8 : ∀ v, v < 3 → g v < 8) (hA : te_AR 3 ypk g) {post : SY → Prop} (h : ∀ pk g', te_AR 3 pk g' → (∀ v, v < 3 → g' v = if g v < vl v then vl v else g v) → post (yde, yru, yki, yso, ysz, ywh, yam, yfi, yro, ydo, yva, yhe, yhn, ypl, yke, ywl, you, pk, yen, yea)) : wpY_noteValues post (yde, yru, yki, yso, ysz, ywh, yam, yfi, yro, ydo, yva, yhe, yhn, ypl, yke, ywl, you, ypk, yen, yea) := by
  unfold wpY_noteValues
  dsimp only
  exact ⟨3 + 1, ty_note2 hva hv8 hg8 h 3 0 rfl ypk g hA (fun v hv => absurd hv (by omega)) (fun v _ _ => rfl)⟩
theorem ty_rp76 {P : te_P} (hW : te_W P) {p : List Nat} (hpo : te_o P p) (hp : te_YP P ysz ywh yam yfi) (hde : yde = nI p.length) (hro : ∀ k x, p[k]? = some x → yro k = nI x) {g : Nat → Nat} (hg8 : ∀ v, v < 3 → g v < 8) (hA : te_AR 3 ypk g) {post : SY → Prop} (h : ∀ dn va he hn pl pk g', te_YQ P p dn va he hn pl → te_AR 3 pk g' → (∀ v, v < 3 → g' v = if g v < te_vl (te_q P p) v then te_vl (te_q P p) v else g v) → post (yde, yru, yki, yso, ysz, ywh, yam, yfi, yro, dn, va, he, hn, pl, yke, ywl, you, pk, yen, yea)) :
    ∀ d k, k + d = p.length → ∀ ydo yva yhe yhn ypl : Nat → Int32, te_YQ P (p.take k) ydo yva yhe yhn ypl → wY_replay_76 post (d + 1) (nI k) yde yru yki yso ysz ywh yam yfi yro ydo yva yhe yhn ypl yke ywl you ypk yen yea := by
  have hl9 := te_o_len hW hpo
  intro d
  induction d with
  | zero =>
    intro k hk ydo yva yhe yhn ypl hq
    have e : p.take k = p := List.take_of_length_le (by omega)
    rw [e] at hq
    rw [wY_replay_76]
    dsimp only
    refine pk_le _ _ (fun _ => ?_) (fun c => absurd c (by omega)) hde rfl (by omega) (by omega)
    unfold wY_replay_107
    exact ty_noteValues (vl := te_vl (te_q P p)) (g := g) hq.2.1 (fun v hv => (te_Bd_q hW hpo).1 v hv) hg8 hA (fun pk g' k1 k2 => h _ _ _ _ _ pk g' hq k1 k2)
  | succ d ih =>
    intro k hk ydo yva yhe yhn ypl hq
    have hkl : k < p.length := by omega
    have ck : (nI k).toNatClampNeg = k := nI_clamp (by omega)
    have hg1 : p[k]? = some p[k] := List.getElem?_eq_getElem hkl
    have htk : p.take (k + 1) = p.take k ++ [p[k]] := by
      rw [List.take_add_one, hg1]; rfl
    have ho' : te_o P (p.take k ++ [p[k]]) := by rw [← htk]; exact te_o_take hpo _
    have hs := (te_o_snoc P _ _).mp ho'
    have hlen : (p.take k).length = k := by rw [List.length_take]; omega
    rw [wY_replay_76]
    dsimp only
    rw [ck, hro k _ hg1]
    refine pk_le _ _ (fun c => absurd c (by omega)) (fun _ => pk_le 9 k (fun c => absurd c (by omega)) (fun _ => ⟨vp_in_nI (by omega) (by decide), ?_⟩) rfl rfl (by omega) (by omega)) hde rfl (by omega) (by omega)
    have := ty_act (yde := yde) (yru := yru) (yki := yki) (yso := yso) (yro := yro) (yke := yke) (ywl := ywl) (you := you) (ypk := ypk) (yen := yen) (yea := yea) (post := (fun u => match u with | (yde, yru, yki, yso, ysz, ywh, yam, yfi, yro, ydo, yva, yhe, yhn, ypl, yke, ywl, you, ypk, yen, yea) => ∀ x1_52, x1_52 = nI k + 1 → wY_replay_76 post (d + 1) x1_52 yde yru yki yso ysz ywh yam yfi yro ydo yva yhe yhn ypl yke ywl you ypk yen yea)) hW hs.1 hp hq hs.2.1 hs.2.2 (fun dn va he hn pl hq' => nm_r (nI_1 k) (ih (k + 1) (by omega) dn va he hn pl (by rw [htk]; exact hq')))
    rw [hlen] at this
    exact this
theorem ty_rp55 {P : te_P} (hW : te_W P) {p : List Nat} (hpo : te_o P p) (hp : te_YP P ysz ywh yam yfi) (hde : yde = nI p.length) (hro : ∀ k x, p[k]? = some x → yro k = nI x) {g : Nat → Nat} (hg8 : ∀ v, v < 3 → g v < 8) (hA : te_AR 3 ypk g) (h1 : ∀ t, t < 3 → ydo t = 0) (h2 : ∀ t, t < 3 → yva t = yfi t) (h3 : ∀ l, l < 2 → yhe l = -1) (h4 : ∀ t, t < 3 → yhn t = 0) {post : SY → Prop} (h : ∀ dn va he hn pl pk g', te_YQ P p dn va he hn pl → te_AR 3 pk g' → (∀ v, v < 3 → g' v = if g v < te_vl (te_q P p) v then te_vl (te_q P p) v else g v) → post (yde, yru, yki, yso, ysz, ywh, yam, yfi, yro, dn, va, he, hn, pl, yke, ywl, you, pk, yen, yea)) :
    ∀ d i, i + d = 9 → ∀ ypl : Nat → Int32, (∀ l, l < i → ypl l = -1) → wY_replay_55 post yde yru yki yso (d + 1) (nI i) ysz ywh yam yfi yro ydo yva yhe yhn ypl yke ywl you ypk yen yea := by
  intro d
  induction d with
  | zero =>
    intro i hi ypl hh
    rw [wY_replay_55]
    refine pk_le 9 i (fun _ => ⟨p.length + 1, ?_⟩) (fun c => absurd c (by omega)) rfl rfl (by omega) (by omega)
    refine ty_rp76 hW hpo hp hde hro hg8 hA h p.length 0 (by omega) ydo yva yhe yhn ypl ⟨fun t ht => h1 t ht, fun v hv => ?_, fun l hl => h3 l hl, fun t ht => h4 t ht, fun x x1 x2 => ⟨fun k hk => ?_, fun _ => hh _ (by omega)⟩⟩
    · rw [h2 v hv, hp.2.2 v hv]; rfl
    · exact absurd hk (by simp [te_L, te_st])
  | succ d ih =>
    intro i hi ypl hh
    rw [wY_replay_55]
    exact pk_le 9 i (fun c => absurd c (by omega)) (fun c => ⟨vp_in_nI c (by decide), nm_e (nm_r (nI_1 i) (ih (i + 1) (by omega) _ (te_ul (Q := fun l x => x = -1) (by omega) hh rfl)))⟩) rfl rfl (by omega) (by omega)
theorem ty_rp2 {P : te_P} (hW : te_W P) {p : List Nat} (hpo : te_o P p) (hp : te_YP P ysz ywh yam yfi) (hde : yde = nI p.length) (hro : ∀ k x, p[k]? = some x → yro k = nI x) {g : Nat → Nat} (hg8 : ∀ v, v < 3 → g v < 8) (hA : te_AR 3 ypk g) {post : SY → Prop} (h : ∀ dn va he hn pl pk g', te_YQ P p dn va he hn pl → te_AR 3 pk g' → (∀ v, v < 3 → g' v = if g v < te_vl (te_q P p) v then te_vl (te_q P p) v else g v) → post (yde, yru, yki, yso, ysz, ywh, yam, yfi, yro, dn, va, he, hn, pl, yke, ywl, you, pk, yen, yea)) :
    ∀ d i, i + d = 3 → ∀ ydo yva yhn : Nat → Int32, (∀ l, l < i → ydo l = 0) → (∀ l, l < i → yva l = yfi l) → (∀ l, l < i → yhn l = 0) → wY_replay_2 post yde yru yki yso (d + 1) (nI i) ysz ywh yam yfi yro ydo yva yhe yhn ypl yke ywl you ypk yen yea := by
  intro d
  induction d with
  | zero =>
    intro i hi ydo yva yhn k1 k2 k3
    rw [wY_replay_2]
    refine pk_le 3 i (fun _ => nm_e (nm_e ⟨9 + 1, ?_⟩)) (fun c => absurd c (by omega)) rfl rfl (by omega) (by omega)
    refine ty_rp55 hW hpo hp hde hro hg8 hA (fun t ht => k1 t (by omega)) (fun t ht => k2 t (by omega)) (fun l hl => ?_) (fun t ht => k3 t (by omega)) h 9 0 rfl ypl (fun l hl => absurd hl (by omega))
    unfold upd
    by_cases z : l = 1
    · rw [if_pos z]
    · rw [if_neg z, if_pos (by omega)]
  | succ d ih =>
    intro i hi ydo yva yhn k1 k2 k3
    rw [wY_replay_2]
    have ii : i < 3 := by omega
    exact pk_le 3 i (fun c => absurd c (by omega)) (fun c => ⟨vp_in_nI ii (by decide), nm_e ⟨vp_in_nI ii (by decide), nm_e ⟨vp_in_nI ii (by decide), vp_in_nI ii (by decide), nm_e (nm_r (nI_1 i) (ih (i + 1) (by omega) _ _ _ (te_ul (Q := fun l x => x = 0) (by omega) k1 rfl) (te_ul (Q := fun l x => x = yfi l) (by omega) k2 (by rw [nI_clamp (by omega)])) (te_ul (Q := fun l x => x = 0) (by omega) k3 rfl)))⟩⟩⟩) rfl rfl (by omega) (by omega)
theorem ty_replay {P : te_P} (hW : te_W P) {p : List Nat} (hpo : te_o P p) (hp : te_YP P ysz ywh yam yfi) (hde : yde = nI p.length) (hro : ∀ k x, p[k]? = some x → yro k = nI x) {g : Nat → Nat} (hg8 : ∀ v, v < 3 → g v < 8) (hA : te_AR 3 ypk g) {post : SY → Prop} (h : ∀ dn va he hn pl pk g', te_YQ P p dn va he hn pl → te_AR 3 pk g' → (∀ v, v < 3 → g' v = if g v < te_vl (te_q P p) v then te_vl (te_q P p) v else g v) → post (yde, yru, yki, yso, ysz, ywh, yam, yfi, yro, dn, va, he, hn, pl, yke, ywl, you, pk, yen, yea)) : wpY_replay post (yde, yru, yki, yso, ysz, ywh, yam, yfi, yro, ydo, yva, yhe, yhn, ypl, yke, ywl, you, ypk, yen, yea) := by
  unfold wpY_replay
  dsimp only
  exact ⟨3 + 1, ty_rp2 hW hpo hp hde hro hg8 hA h 3 0 rfl ydo yva yhn (fun l hl => absurd hl (by omega)) (fun l hl => absurd hl (by omega)) (fun l hl => absurd hl (by omega))⟩
theorem ty_48 {P : te_P} (hW : te_W P) (hp : te_YP P ysz ywh yam yfi) {x y : Nat × Nat} (hx1 : x.1 < 3) (hx2 : x.2 < 3) (hy1 : y.1 < 3) (hy2 : y.2 < 3) {z z' : Int32} (hz : z = z' ↔ (4 ≤ te_op P x.1 x.2 ↔ 4 ≤ te_op P y.1 y.2)) (hz0 : z = 0 ↔ 4 ≤ te_op P x.1 x.2) {post : Int32 → Prop} (h1 : ((4 ≤ te_op P x.1 x.2 ↔ 4 ≤ te_op P y.1 y.2) ∧ te_pl P x.1 x.2 = te_pl P y.1 y.2 ∧ ¬ (te_op P x.1 x.2 = 0 ∧ te_op P y.1 y.2 = 0)) → post 1) (h2 : ¬ ((4 ≤ te_op P x.1 x.2 ↔ 4 ≤ te_op P y.1 y.2) ∧ te_pl P x.1 x.2 = te_pl P y.1 y.2 ∧ ¬ (te_op P x.1 x.2 = 0 ∧ te_op P y.1 y.2 = 0)) → post 0) : wY_areTied_48 post (nI (3 * x.1 + x.2)) (nI (3 * y.1 + y.2)) z z' yde yru yki yso ysz ywh yam yfi yro ydo yva yhe yhn ypl yke ywl you ypk yen yea := by
  obtain ⟨a1, a2⟩ := hp.2.1 x.1 hx1 x.2 hx2
  obtain ⟨b1, b2⟩ := hp.2.1 y.1 hy1 y.2 hy2
  obtain ⟨w1, w2, w3, w4⟩ := hW.2.1 x.1 hx1 x.2 hx2
  obtain ⟨v1, v2, v3, v4⟩ := hW.2.1 y.1 hy1 y.2 hy2
  have cx : (nI (3 * x.1 + x.2)).toNatClampNeg = 3 * x.1 + x.2 := nI_clamp (by omega)
  have cy : (nI (3 * y.1 + y.2)).toNatClampNeg = 3 * y.1 + y.2 := nI_clamp (by omega)
  have ix : vp_in (nI (3 * x.1 + x.2)) 9 := vp_in_nI (by omega) (by decide)
  have iy : vp_in (nI (3 * y.1 + y.2)) 9 := vp_in_nI (by omega) (by decide)
  unfold wY_areTied_48
  rw [cx, cy, a1, b1, te_wm w1 w2, te_wm v1 v2, te_w8 w1 w2, te_w8 v1 v2]
  exact br_c (fun e => ⟨ix, by decide, iy, by decide, pk_eq _ _ (fun e2 => br_c (fun e0 => h1 ⟨hz.mp e, e2, fun k => absurd (hz0.mp e0) (by omega)⟩) (fun _ => ⟨ix, by decide, pk_eq _ 0 (fun e3 => ⟨iy, by decide, pk_eq _ 0 (fun e4 => h2 (fun k => k.2.2 ⟨e3, e4⟩)) (fun e4 => h1 ⟨hz.mp e, e2, fun k => e4 k.2⟩) rfl rfl (by omega) (by omega)⟩) (fun e3 => h1 ⟨hz.mp e, e2, fun k => e3 k.1⟩) rfl rfl (by omega) (by omega)⟩)) (fun e2 => h2 (fun k => e2 k.2.1)) rfl rfl (by omega) (by omega)⟩) (fun e => h2 (fun k => e (hz.mpr k.1)))
theorem ty_areTied {P : te_P} (hW : te_W P) (hp : te_YP P ysz ywh yam yfi) {x y : Nat × Nat} (hx1 : x.1 < 3) (hx2 : x.2 < 3) (hy1 : y.1 < 3) (hy2 : y.2 < 3) {post : Int32 → Prop} (h : post (if te_ti P x y = true then 1 else 0)) : wpY_areTied post (yde, yru, yki, yso, ysz, ywh, yam, yfi, yro, ydo, yva, yhe, yhn, ypl, yke, ywl, you, ypk, yen, yea) (nI (3 * x.1 + x.2)) (nI (3 * y.1 + y.2)) := by
  obtain ⟨a1, a2⟩ := hp.2.1 x.1 hx1 x.2 hx2
  obtain ⟨b1, b2⟩ := hp.2.1 y.1 hy1 y.2 hy2
  obtain ⟨w1, w2, w3, w4⟩ := hW.2.1 x.1 hx1 x.2 hx2
  obtain ⟨v1, v2, v3, v4⟩ := hW.2.1 y.1 hy1 y.2 hy2
  have cx : (nI (3 * x.1 + x.2)).toNatClampNeg = 3 * x.1 + x.2 := nI_clamp (by omega)
  have cy : (nI (3 * y.1 + y.2)).toNatClampNeg = 3 * y.1 + y.2 := nI_clamp (by omega)
  have ix : vp_in (nI (3 * x.1 + x.2)) 9 := vp_in_nI (by omega) (by decide)
  have iy : vp_in (nI (3 * y.1 + y.2)) 9 := vp_in_nI (by omega) (by decide)
  have dx : nI (3 * x.1 + x.2) / 3 = nI x.1 := by
    have := pk_div (a := 3 * x.1 + x.2) (d := 3) (by omega) (by decide) (by decide)
    rw [show (3 * x.1 + x.2) / 3 = x.1 by omega] at this
    exact this
  have dy : nI (3 * y.1 + y.2) / 3 = nI y.1 := by
    have := pk_div (a := 3 * y.1 + y.2) (d := 3) (by omega) (by decide) (by decide)
    rw [show (3 * y.1 + y.2) / 3 = y.1 by omega] at this
    exact this
  unfold wpY_areTied
  dsimp only
  rw [dx, dy, cx, a1, te_w8 w1 w2]
  refine ⟨by decide, by decide, pk_eq _ _ (fun e => ?_) (fun e => ⟨ix, by decide, ?_⟩) rfl rfl (by omega) (by omega)⟩
  · rw [if_pos (te_ti_iff.mpr (Or.inl e))] at h
    exact h
  · have h1 : ((4 ≤ te_op P x.1 x.2 ↔ 4 ≤ te_op P y.1 y.2) ∧ te_pl P x.1 x.2 = te_pl P y.1 y.2 ∧ ¬ (te_op P x.1 x.2 = 0 ∧ te_op P y.1 y.2 = 0)) → post 1 := by
      intro k
      rw [if_pos (te_ti_iff.mpr (Or.inr k))] at h
      exact h
    have h2 : ¬ ((4 ≤ te_op P x.1 x.2 ↔ 4 ≤ te_op P y.1 y.2) ∧ te_pl P x.1 x.2 = te_pl P y.1 y.2 ∧ ¬ (te_op P x.1 x.2 = 0 ∧ te_op P y.1 y.2 = 0)) → post 0 := by
      intro k
      rw [if_neg (fun z => (te_ti_iff.mp z).elim e k)] at h
      exact h
    refine pk_le 4 _ (fun c => ?_) (fun c => ?_) rfl rfl (by omega) (by omega)
    · have hz0 : (0 : Int32) = 0 ↔ 4 ≤ te_op P x.1 x.2 := ⟨fun _ => c, fun _ => rfl⟩
      unfold wY_areTied_29
      rw [cy, b1, te_w8 v1 v2]
      refine ⟨iy, by decide, pk_le 4 _ (fun c' => ty_48 hW hp hx1 hx2 hy1 hy2 ?_ hz0 h1 h2) (fun c' => ty_48 hW hp hx1 hx2 hy1 hy2 ?_ hz0 h1 h2) rfl rfl (by omega) (by omega)⟩
      · exact ⟨fun _ => ⟨fun _ => c', fun _ => c⟩, fun _ => rfl⟩
      · exact ⟨fun a => absurd a (by decide), fun a => absurd (a.mp c) (by omega)⟩
    · have hz0 : (1 : Int32) = 0 ↔ 4 ≤ te_op P x.1 x.2 := ⟨fun a => absurd a (by decide), fun a => absurd a (by omega)⟩
      unfold wY_areTied_29
      rw [cy, b1, te_w8 v1 v2]
      refine ⟨iy, by decide, pk_le 4 _ (fun c' => ty_48 hW hp hx1 hx2 hy1 hy2 ?_ hz0 h1 h2) (fun c' => ty_48 hW hp hx1 hx2 hy1 hy2 ?_ hz0 h1 h2) rfl rfl (by omega) (by omega)⟩
      · exact ⟨fun a => absurd a (by decide), fun a => absurd (a.mpr c') (by omega)⟩
      · exact ⟨fun _ => ⟨fun a => by omega, fun a => by omega⟩, fun _ => rfl⟩
end
