/-! what is owed: the changes -/
section
variable {xle xbr xbt xrc xkc xsk xsh : Int32} {xsc xop xpl xod xiv xcu xac xho xta xro xtu xck xgr xes xls : Nat → Int32}
variable {yde yru yki yso : Int32} {ysz ywh yam yfi yro ydo yva yhe yhn ypl ywl you ypk yen yea : Nat → Int32} {yke : Nat → Int64}
def te_wok (n : Nat) : Prop := n / 8 ≤ 5 ∧ n % 8 < (if n / 8 < 4 then 3 else 2)
theorem te_n8 {n : Nat} (hn : n < 2147483648) : nI n / 8 = nI (n / 8) := pk_div (d := 8) (by omega) (by decide) (by decide)
theorem te_m8 {n : Nat} (hn : n < 2147483648) : nI n - nI n / 8 * 8 = nI (n % 8) := pk_rem (d := 8) (by omega) (by decide) (by decide)
theorem tx_isWhat {n : Nat} (hn : n < 2147483648) {post : Int32 → Prop} (h1 : te_wok n → post 1) (h0 : ¬ te_wok n → post 0) : wpX_isWhat post (nI n) := by
  unfold wpX_isWhat
  rw [te_n8 hn]
  refine br_f (nI_pos (by omega)) ⟨by decide, pk_le _ 5 (fun c => ⟨by decide, pk_lt _ 4 (fun c4 => ?_) (fun c4 => ?_) rfl rfl (by omega) (by omega)⟩) (fun c => h0 (fun z => absurd z.1 (by omega))) rfl rfl (by omega) (by omega)⟩
  · unfold wX_isWhat_27
    rw [te_m8 hn]
    refine ⟨by decide, pk_le 3 _ (fun d => h0 (fun z => ?_)) (fun d => h1 ⟨c, ?_⟩) rfl rfl (by omega) (by omega)⟩
    · have := z.2
      rw [if_pos c4] at this
      omega
    · rw [if_pos c4]; exact d
  · unfold wX_isWhat_27
    rw [te_m8 hn]
    refine ⟨by decide, pk_le 2 _ (fun d => h0 (fun z => ?_)) (fun d => h1 ⟨c, ?_⟩) rfl rfl (by omega) (by omega)⟩
    · have := z.2
      rw [if_neg (by omega)] at this
      omega
    · rw [if_neg (by omega)]; exact d
theorem ty_stepN {t n : Nat} (ht : t < 3) (hn : n < 2147483648) (hw : ¬ te_wok n) {v3 : Int32} {post : Int32 → SY → Prop} (h : post (-2) (yde, yru, yki, yso, ysz, ywh, yam, yfi, yro, ydo, yva, yhe, yhn, ypl, yke, ywl, you, ypk, yen, yea)) : wpY_step post (yde, yru, yki, yso, ysz, ywh, yam, yfi, yro, ydo, yva, yhe, yhn, ypl, yke, ywl, you, ypk, yen, yea) (nI t) (nI n) v3 := by
  unfold wpY_step
  dsimp only
  rw [te_m8 hn, te_n8 hn]
  refine tz_bad_g ht (br_t rfl (br_f (nI_pos (by omega)) (pk_le n 41 (fun c => ⟨by decide, nm_e ⟨by decide, pk_le 4 _ (fun c4 => ?_) (fun c4 => ?_) rfl rfl (by omega) (by omega)⟩⟩) (fun _ => h) rfl rfl (by omega) (by omega))))
  · unfold wY_step_44
    refine pk_le _ 1 (fun d => absurd ⟨by omega, ?_⟩ hw) (fun _ => h) rfl rfl (by omega) (by omega)
    rw [if_neg (by omega)]; omega
  · unfold wY_step_44
    refine pk_le _ 2 (fun d => absurd ⟨by omega, ?_⟩ hw) (fun _ => h) rfl rfl (by omega) (by omega)
    rw [if_pos c4]; omega
theorem ty_44 {P : te_P} (hW : te_W P) (hy : te_YP P ysz ywh yam yfi) {t n a b : Nat} (ht : t < 3) (hab : b ≤ a) (ha : a < 10) {v3 : Int32} {post : Int32 → SY → Prop} (h3 : (v3 < 0 ∨ nI 8 ≤ v3) → post (-3) (yde, yru, yki, yso, ysz, ywh, yam, yfi, yro, ydo, yva, yhe, yhn, ypl, yke, ywl, you, ypk, yen, yea)) (h4 : ∀ k, k < 8 → v3 = nI k → ¬ te_sz P t < 3 → post (-4) (yde, yru, yki, yso, ysz, ywh, yam, yfi, yro, ydo, yva, yhe, yhn, ypl, yke, ywl, you, ypk, yen, yea)) (h5 : ∀ k, k < 8 → v3 = nI k → te_sz P t < 3 → post (nI (te_sz P t + 1)) (yde, yru, yki, yso, upd ysz t (nI (te_sz P t + 1)), upd ywh (3 * t + te_sz P t) (nI n), upd yam (3 * t + te_sz P t) (nI k), yfi, yro, ydo, yva, yhe, yhn, ypl, yke, ywl, you, ypk, yen, yea)) : wY_step_44 post (nI t) (nI n) v3 (nI a) (nI b) yde yru yki yso ysz ywh yam yfi yro ydo yva yhe yhn ypl yke ywl you ypk yen yea := by
  have hs := hW.1 t ht
  have ct : (nI t).toNatClampNeg = t := nI_clamp (by omega)
  have hi : vp_in (nI t) 3 := vp_in_nI ht (by decide)
  unfold wY_step_44
  rw [ct, hy.1 t ht]
  refine pk_le b a (fun _ => ?_) (fun c => absurd c (by omega)) rfl rfl (by omega) (by omega)
  rcases tz_ix v3 (n := 8) (by decide) with hb | ⟨k, hk, rfl⟩
  · by_cases c : v3 < 0
    · exact br_t c (h3 hb)
    · exact br_f c (br_f (tz_gt (b := nI 8) (by decide) (hb.resolve_left c)) (h3 hb))
  · refine br_f (nI_pos (by omega)) (br_t (nI_le (b := 7) (by omega) (by decide)) ⟨hi, nm_e ?_⟩)
    rw [te_num3, nI_1]
    refine pk_le _ 2 (fun c => ?_) (fun c => h4 k hk rfl (by omega)) rfl rfl (by omega) (by omega)
    have cx : (nI (3 * t + te_sz P t)).toNatClampNeg = 3 * t + te_sz P t := nI_clamp (by omega)
    rw [cx]
    exact ⟨vp_in_nI (by omega) (by decide), nm_e ⟨vp_in_nI (by omega) (by decide), nm_e ⟨hi, nm_e (h5 k hk rfl (by omega))⟩⟩⟩
theorem ty_stepY {P : te_P} (hW : te_W P) (hy : te_YP P ysz ywh yam yfi) {t n : Nat} (ht : t < 3) (hn : n < 2147483648) (hw : te_wok n) {v3 : Int32} {post : Int32 → SY → Prop} (h3 : (v3 < 0 ∨ nI 8 ≤ v3) → post (-3) (yde, yru, yki, yso, ysz, ywh, yam, yfi, yro, ydo, yva, yhe, yhn, ypl, yke, ywl, you, ypk, yen, yea)) (h4 : ∀ k, k < 8 → v3 = nI k → ¬ te_sz P t < 3 → post (-4) (yde, yru, yki, yso, ysz, ywh, yam, yfi, yro, ydo, yva, yhe, yhn, ypl, yke, ywl, you, ypk, yen, yea)) (h5 : ∀ k, k < 8 → v3 = nI k → te_sz P t < 3 → post (nI (te_sz P t + 1)) (yde, yru, yki, yso, upd ysz t (nI (te_sz P t + 1)), upd ywh (3 * t + te_sz P t) (nI n), upd yam (3 * t + te_sz P t) (nI k), yfi, yro, ydo, yva, yhe, yhn, ypl, yke, ywl, you, ypk, yen, yea)) : wpY_step post (yde, yru, yki, yso, ysz, ywh, yam, yfi, yro, ydo, yva, yhe, yhn, ypl, yke, ywl, you, ypk, yen, yea) (nI t) (nI n) v3 := by
  obtain ⟨w1, w2⟩ := hw
  unfold wpY_step
  dsimp only
  rw [te_m8 hn, te_n8 hn]
  refine tz_bad_g ht (br_t rfl (br_f (nI_pos (by omega)) (pk_le n 41 (fun c => ⟨by decide, nm_e ⟨by decide, pk_le 4 _ (fun c4 => ?_) (fun c4 => ?_) rfl rfl (by omega) (by omega)⟩⟩) (fun c => ?_) rfl rfl (by omega) (by omega))))
  · rw [if_neg (by omega)] at w2
    exact ty_44 hW hy (a := 1) ht (by omega) (by decide) h3 h4 h5
  · rw [if_pos c4] at w2
    exact ty_44 hW hy (a := 2) ht (by omega) (by decide) h3 h4 h5
  · exfalso
    by_cases c4 : n / 8 < 4
    · omega
    · rw [if_neg c4] at w2; omega
def te_Ps (P : te_P) (t n k : Nat) : te_P := (te_u (te_sz P) t (te_sz P t + 1), fun t' i => if t' = t ∧ i = te_sz P t then n / 8 else te_op P t' i, fun t' i => if t' = t ∧ i = te_sz P t then n % 8 else te_pl P t' i, fun t' i => if t' = t ∧ i = te_sz P t then k else te_am P t' i, te_ini P)
theorem te_Ps_W {P : te_P} (hW : te_W P) {t n k : Nat} (hw : te_wok n) (hk : k < 8) (hs : te_sz P t < 3) : te_W (te_Ps P t n k) := by
  obtain ⟨w1, w2⟩ := hw
  refine ⟨fun t' ht' => ?_, fun t' ht' i hi => ?_, fun v hv => hW.2.2 v hv⟩
  · show te_u (te_sz P) t (te_sz P t + 1) t' ≤ 3
    unfold te_u
    by_cases c : t' = t
    · rw [if_pos c]; omega
    · rw [if_neg c]; exact hW.1 t' ht'
  · show (if t' = t ∧ i = te_sz P t then n / 8 else te_op P t' i) ≤ 5 ∧ (if t' = t ∧ i = te_sz P t then n % 8 else te_pl P t' i) < 3 ∧ (4 ≤ (if t' = t ∧ i = te_sz P t then n / 8 else te_op P t' i) → (if t' = t ∧ i = te_sz P t then n % 8 else te_pl P t' i) < 2) ∧ (if t' = t ∧ i = te_sz P t then k else te_am P t' i) < 8
    by_cases c : t' = t ∧ i = te_sz P t
    · rw [if_pos c, if_pos c, if_pos c]
      by_cases c4 : n / 8 < 4
      · rw [if_pos c4] at w2
        exact ⟨w1, by omega, fun z => absurd z (by omega), hk⟩
      · rw [if_neg c4] at w2
        exact ⟨w1, by omega, fun _ => w2, hk⟩
    · rw [if_neg c, if_neg c, if_neg c]
      exact hW.2.1 t' ht' i hi
theorem te_Ps_X {P : te_P} (hx : te_XP P xsc xop xpl xod xiv) {t n k : Nat} (ht : t < 3) (hs : te_sz P t < 3) : te_XP (te_Ps P t n k) (upd xsc t (nI (te_sz P t + 1))) (upd xop (4 * t + te_sz P t) (nI (n / 8))) (upd xpl (4 * t + te_sz P t) (nI (n % 8))) (upd xod (4 * t + te_sz P t) (nI k)) xiv := by
  refine ⟨te_A_upd (n := 3) (fun i hi => hx.1 i hi) t (te_sz P t + 1), fun t' ht' i hi => ?_, fun v hv => hx.2.2 v hv⟩
  show upd xop (4 * t + te_sz P t) (nI (n / 8)) (4 * t' + i) = nI (if t' = t ∧ i = te_sz P t then n / 8 else te_op P t' i) ∧ upd xpl (4 * t + te_sz P t) (nI (n % 8)) (4 * t' + i) = nI (if t' = t ∧ i = te_sz P t then n % 8 else te_pl P t' i) ∧ upd xod (4 * t + te_sz P t) (nI k) (4 * t' + i) = nI (if t' = t ∧ i = te_sz P t then k else te_am P t' i)
  by_cases c : t' = t ∧ i = te_sz P t
  · rw [if_pos c, if_pos c, if_pos c, c.1, c.2, pk_us, pk_us, pk_us]
    exact ⟨rfl, rfl, rfl⟩
  · have hne : 4 * t' + i ≠ 4 * t + te_sz P t := fun e => c ⟨by omega, by omega⟩
    rw [if_neg c, if_neg c, if_neg c, pk_un hne, pk_un hne, pk_un hne]
    exact hx.2.1 t' ht' i hi
theorem te_Ps_Y {P : te_P} (hy : te_YP P ysz ywh yam yfi) {t n k : Nat} (ht : t < 3) (hs : te_sz P t < 3) : te_YP (te_Ps P t n k) (upd ysz t (nI (te_sz P t + 1))) (upd ywh (3 * t + te_sz P t) (nI n)) (upd yam (3 * t + te_sz P t) (nI k)) yfi := by
  refine ⟨te_A_upd (n := 3) (fun i hi => hy.1 i hi) t (te_sz P t + 1), fun t' ht' i hi => ?_, fun v hv => hy.2.2 v hv⟩
  show upd ywh (3 * t + te_sz P t) (nI n) (3 * t' + i) = nI (8 * (if t' = t ∧ i = te_sz P t then n / 8 else te_op P t' i) + (if t' = t ∧ i = te_sz P t then n % 8 else te_pl P t' i)) ∧ upd yam (3 * t + te_sz P t) (nI k) (3 * t' + i) = nI (if t' = t ∧ i = te_sz P t then k else te_am P t' i)
  by_cases c : t' = t ∧ i = te_sz P t
  · rw [if_pos c, if_pos c, if_pos c, c.1, c.2, pk_us, pk_us]
    exact ⟨congrArg nI (by omega), rfl⟩
  · have hne : 3 * t' + i ≠ 3 * t + te_sz P t := fun e => c ⟨by omega, by omega⟩
    rw [if_neg c, if_neg c, if_neg c, pk_un hne, pk_un hne]
    exact hy.2.1 t' ht' i hi
end
theorem i_vc_step {k : Nat} {u : SX} {v : SY} (I : i_Rel k u v) (hk : k + 4 ≤ 2048) (v1 : Int32) (v2 : Int32) (v3 : Int32) : wpX_step (fun r u' => wpY_step (fun r' v' => r' = r ∧ i_Rel (k + 4) u' v') v v1 v2 v3) u v1 v2 v3 := by
  obtain ⟨xle, xbr, xbt, xrc, xkc, xsk, xsh, xsc, xop, xpl, xod, xiv, xcu, xac, xho, xta, xro, xtu, xck, xgr, xes, xls⟩ := u
  obtain ⟨yde, yru, yki, yso, ysz, ywh, yam, yfi, yro, ydo, yva, yhe, yhn, ypl, yke, ywl, you, ypk, yen, yea⟩ := v
  obtain ⟨P, hW, hx, hy, hA, g, hg, hk⟩ := I
  unfold wpX_step
  dsimp only
  rcases tz_ix v1 (n := 3) (by decide) with hb | ⟨t, ht, rfl⟩
  · refine tz_thr_b hb (br_t rfl ?_)
    unfold wpY_step
    dsimp only
    exact tz_bad_b hb (br_f (by decide) ⟨rfl, ⟨P, hW, hx, hy, hA, g, hg, hk⟩⟩)
  · refine tz_thr_g ht (br_f (by decide) ?_)
    by_cases c : v2 < 0
    · unfold wpX_isWhat
      refine br_t c (br_t rfl ?_)
      unfold wpY_step
      dsimp only
      exact tz_bad_g ht (br_t rfl (br_t c ⟨rfl, ⟨P, hW, hx, hy, hA, g, hg, hk⟩⟩))
    · obtain ⟨n, hn, rfl⟩ := nI_of c
      refine tx_isWhat (by omega) (fun hw => br_f (by decide) ?_) (fun hw => br_t rfl (ty_stepN ht (by omega) hw ⟨rfl, ⟨P, hW, hx, hy, hA, g, hg, hk⟩⟩))
      rcases tz_ix v3 (n := 8) (by decide) with hb | ⟨k', hk', rfl⟩
      · refine tz_val_b hb (br_t rfl (ty_stepY hW hy ht (by omega) hw (fun _ => ⟨rfl, ⟨P, hW, hx, hy, hA, g, hg, hk⟩⟩) (fun k h1 h2 _ => ?_) (fun k h1 h2 _ => ?_)))
        · rw [h2] at hb
          exact absurd hb (fun z => z.elim (nI_pos (by omega)) (nI_ge (b := 8) h1 (by decide)))
        · rw [h2] at hb
          exact absurd hb (fun z => z.elim (nI_pos (by omega)) (nI_ge (b := 8) h1 (by decide)))
      · have hi : vp_in (nI t) 3 := vp_in_nI ht (by decide)
        have ct : (nI t).toNatClampNeg = t := nI_clamp (by omega)
        have hs := hW.1 t ht
        have hkk : ∀ k, k < 8 → nI k' = nI k → k = k' := fun k h1 h2 => ((nI_eq (by omega) (by omega)).mp h2).symm
        have hv3 : ¬ (nI k' < 0 ∨ nI 8 ≤ nI k') := fun z => z.elim (nI_pos (by omega)) (nI_ge (b := 8) hk' (by decide))
        refine tz_val_g hk' (br_f (by decide) ⟨hi, ?_⟩)
        rw [ct, hx.1 t ht]
        refine pk_lt _ 3 (fun c3 => ⟨hi, nm_r (te_num4 t _) ?_⟩) (fun c3 => ?_) rfl rfl (by omega) (by omega)
        · have cx : (nI (4 * t + te_sz P t)).toNatClampNeg = 4 * t + te_sz P t := nI_clamp (by omega)
          have ix : vp_in (nI (4 * t + te_sz P t)) 12 := vp_in_nI (by omega) (by decide)
          rw [cx, te_m8 (by omega), te_n8 (by omega), nI_1]
          refine ⟨by decide, ix, nm_e ⟨by decide, ix, nm_e ⟨ix, nm_e ⟨hi, hi, nm_e ?_⟩⟩⟩⟩
          have hW' := te_Ps_W (t := t) (n := n) (k := k') hW hw hk' c3
          have hx' := te_Ps_X (n := n) (k := k') hx ht c3
          have hy' := te_Ps_Y (n := n) (k := k') hy ht c3
          refine tx_explore hW' hx' (fun le br bt rc kc sk sh cu ac ho ta ro tu ck gr es ls g' hA' hg' hk2 => ⟨hi, ?_⟩)
          refine ty_stepY hW hy ht (by omega) hw (fun z => absurd z hv3) (fun k _ _ z => absurd c3 z) (fun k h1 h2 _ => ?_)
          rw [hkk k h1 h2]
          exact ⟨(pk_us (f := xsc) (k := t)).symm, ⟨_, hW', hx', hy', hA', g', hg', hk2⟩⟩
        · refine ty_stepY hW hy ht (by omega) hw (fun z => absurd z hv3) (fun k _ _ z => ⟨rfl, ⟨P, hW, hx, hy, hA, g, hg, hk⟩⟩) (fun k h1 h2 z => absurd z (by omega))
def te_Pd (P : te_P) (t : Nat) : te_P := (te_u (te_sz P) t (te_sz P t - 1), te_op P, te_pl P, te_am P, te_ini P)
theorem i_vc_drop {k : Nat} {u : SX} {v : SY} (I : i_Rel k u v) (hk : k + 4 ≤ 2048) (v1 : Int32) : wpX_drop (fun r u' => wpY_drop (fun r' v' => r' = r ∧ i_Rel (k + 4) u' v') v v1) u v1 := by
  obtain ⟨xle, xbr, xbt, xrc, xkc, xsk, xsh, xsc, xop, xpl, xod, xiv, xcu, xac, xho, xta, xro, xtu, xck, xgr, xes, xls⟩ := u
  obtain ⟨yde, yru, yki, yso, ysz, ywh, yam, yfi, yro, ydo, yva, yhe, yhn, ypl, yke, ywl, you, ypk, yen, yea⟩ := v
  obtain ⟨P, hW, hx, hy, hA, g, hg, hk⟩ := I
  unfold wpX_drop wpY_drop
  dsimp only
  rcases tz_ix v1 (n := 3) (by decide) with hb | ⟨t, ht, rfl⟩
  · exact tz_thr_b hb (br_t rfl (tz_bad_b hb (br_f (by decide) ⟨rfl, ⟨P, hW, hx, hy, hA, g, hg, hk⟩⟩)))
  · have hi : vp_in (nI t) 3 := vp_in_nI ht (by decide)
    have ct : (nI t).toNatClampNeg = t := nI_clamp (by omega)
    have hs := hW.1 t ht
    rw [ct, hx.1 t ht, hy.1 t ht]
    refine tz_thr_g ht (br_f (by decide) ⟨hi, pk_eq _ 0 (fun c => ?_) (fun c => ⟨hi, hi, nm_r (e' := upd xsc t (nI (te_sz P t - 1))) ?_ ?_⟩) rfl rfl (by omega) (by omega)⟩)
    · exact tz_bad_g ht (br_t rfl ⟨hi, pk_eq _ 0 (fun _ => ⟨rfl, ⟨P, hW, hx, hy, hA, g, hg, hk⟩⟩) (fun z => absurd c z) rfl rfl (by omega) (by omega)⟩)
    · obtain ⟨m, hm⟩ : ∃ m, te_sz P t = m + 1 := ⟨te_sz P t - 1, by omega⟩
      rw [hm, nI_pred]; rfl
    · have hW' : te_W (te_Pd P t) := by
        refine ⟨fun t' ht' => ?_, fun t' ht' i hi => hW.2.1 t' ht' i hi, fun v hv => hW.2.2 v hv⟩
        show te_u (te_sz P) t (te_sz P t - 1) t' ≤ 3
        unfold te_u
        by_cases c : t' = t
        · rw [if_pos c]; omega
        · rw [if_neg c]; exact hW.1 t' ht'
      have hx' : te_XP (te_Pd P t) (upd xsc t (nI (te_sz P t - 1))) xop xpl xod xiv := ⟨te_A_upd (n := 3) (fun i hi => hx.1 i hi) t (te_sz P t - 1), fun t' ht' i hi => hx.2.1 t' ht' i hi, fun v hv => hx.2.2 v hv⟩
      have hy' : te_YP (te_Pd P t) (upd ysz t (nI (te_sz P t - 1))) ywh yam yfi := ⟨te_A_upd (n := 3) (fun i hi => hy.1 i hi) t (te_sz P t - 1), fun t' ht' i hi => hy.2.1 t' ht' i hi, fun v hv => hy.2.2 v hv⟩
      refine tx_explore hW' hx' (fun le br bt rc kc sk sh cu ac ho ta ro tu ck gr es ls g' hA' hg' hk2 => ⟨hi, ?_⟩)
      refine tz_bad_g ht (br_t rfl ⟨hi, pk_eq _ 0 (fun z => absurd z c) (fun _ => ⟨hi, hi, nm_r (e' := upd ysz t (nI (te_sz P t - 1))) ?_ ⟨hi, ?_, ⟨_, hW', hx', hy', hA', g', hg', hk2⟩⟩⟩) rfl rfl (by omega) (by omega)⟩)
      · obtain ⟨m, hm⟩ : ∃ m, te_sz P t = m + 1 := ⟨te_sz P t - 1, by omega⟩
        rw [hm, nI_pred]; rfl
      · exact (pk_us (f := ysz) (k := t)).trans (pk_us (f := xsc) (k := t)).symm
def te_Pi (P : te_P) (v x : Nat) : te_P := (te_sz P, te_op P, te_pl P, te_am P, te_u (te_ini P) v x)
theorem i_vc_initial {k : Nat} {u : SX} {v : SY} (I : i_Rel k u v) (hk : k + 4 ≤ 2048) (v1 : Int32) (v2 : Int32) : wpX_initial (fun r u' => wpY_initial (fun r' v' => r' = r ∧ i_Rel (k + 4) u' v') v v1 v2) u v1 v2 := by
  obtain ⟨xle, xbr, xbt, xrc, xkc, xsk, xsh, xsc, xop, xpl, xod, xiv, xcu, xac, xho, xta, xro, xtu, xck, xgr, xes, xls⟩ := u
  obtain ⟨yde, yru, yki, yso, ysz, ywh, yam, yfi, yro, ydo, yva, yhe, yhn, ypl, yke, ywl, you, ypk, yen, yea⟩ := v
  obtain ⟨P, hW, hx, hy, hA, g, hg, hk⟩ := I
  unfold wpX_initial wpY_initial
  dsimp only
  rcases tz_ix v1 (n := 3) (by decide) with hb | ⟨t, ht, rfl⟩
  · exact tz_var_b hb (br_t rfl (tz_bad_b hb (br_f (by decide) ⟨rfl, ⟨P, hW, hx, hy, hA, g, hg, hk⟩⟩)))
  · have hi : vp_in (nI t) 3 := vp_in_nI ht (by decide)
    have ct : (nI t).toNatClampNeg = t := nI_clamp (by omega)
    rw [ct, hx.2.2 t ht, hy.2.2 t ht]
    refine tz_var_g ht (br_f (by decide) ?_)
    rcases tz_ix v2 (n := 8) (by decide) with hb | ⟨x, hx8, rfl⟩
    · refine tz_val_b hb (br_t rfl (tz_bad_g ht (br_t rfl ?_)))
      by_cases c : v2 < 0
      · exact br_t c ⟨rfl, ⟨P, hW, hx, hy, hA, g, hg, hk⟩⟩
      · exact br_f c (br_f (tz_gt (b := nI 8) (by decide) (hb.resolve_left c)) ⟨rfl, ⟨P, hW, hx, hy, hA, g, hg, hk⟩⟩)
    · refine tz_val_g hx8 (br_f (by decide) ⟨hi, nm_e ⟨hi, nm_e ?_⟩⟩)
      have hW' : te_W (te_Pi P t x) := by
        refine ⟨fun t' ht' => hW.1 t' ht', fun t' ht' i hi => hW.2.1 t' ht' i hi, fun v hv => ?_⟩
        show te_u (te_ini P) t x v < 8
        unfold te_u
        by_cases c : v = t
        · rw [if_pos c]; exact hx8
        · rw [if_neg c]; exact hW.2.2 v hv
      have hx' : te_XP (te_Pi P t x) xsc xop xpl xod (upd xiv t (nI x)) := ⟨fun i hi => hx.1 i hi, fun t' ht' i hi => hx.2.1 t' ht' i hi, te_A_upd (n := 3) (fun i hi => hx.2.2 i hi) t x⟩
      have hy' : te_YP (te_Pi P t x) ysz ywh yam (upd yfi t (nI x)) := ⟨fun i hi => hy.1 i hi, fun t' ht' i hi => hy.2.1 t' ht' i hi, te_A_upd (n := 3) (fun i hi => hy.2.2 i hi) t x⟩
      refine tx_explore hW' hx' (fun le br bt rc kc sk sh cu ac ho ta ro tu ck gr es ls g' hA' hg' hk2 => ?_)
      exact tz_bad_g ht (br_t rfl (br_f (nI_pos (by omega)) (br_t (nI_le (b := 7) (by omega) (by decide)) ⟨hi, nm_e ⟨hi, nm_e ⟨rfl, ⟨_, hW', hx', hy', hA', g', hg', hk2⟩⟩⟩⟩)))
