/-! what is owed: the questions -/
theorem i_vc_steps {k : Nat} {u : SX} {v : SY} (I : i_Rel k u v) (hk : k + 4 ≤ 2048) (v1 : Int32) : wpX_steps (fun r => wpY_steps (fun r' => r' = r ∧ i_Rel (k + 4) u v) v v1) u v1 := by
  obtain ⟨xle, xbr, xbt, xrc, xkc, xsk, xsh, xsc, xop, xpl, xod, xiv, xcu, xac, xho, xta, xro, xtu, xck, xgr, xes, xls⟩ := u
  obtain ⟨yde, yru, yki, yso, ysz, ywh, yam, yfi, yro, ydo, yva, yhe, yhn, ypl, yke, ywl, you, ypk, yen, yea⟩ := v
  obtain ⟨P, hW, hx, hy, hA, g, hg, hk⟩ := I
  exact tz_steps hx hy v1 ⟨P, hW, hx, hy, hA, g, hg, hk⟩
theorem i_vc_runs {k : Nat} {u : SX} {v : SY} (I : i_Rel k u v) (hk : k + 4 ≤ 2048) : wpX_runs (fun r => wpY_runs (fun r' v' => r' = r ∧ i_Rel (k + 4) u v') v) u := by
  obtain ⟨xle, xbr, xbt, xrc, xkc, xsk, xsh, xsc, xop, xpl, xod, xiv, xcu, xac, xho, xta, xro, xtu, xck, xgr, xes, xls⟩ := u
  obtain ⟨yde, yru, yki, yso, ysz, ywh, yam, yfi, yro, ydo, yva, yhe, yhn, ypl, yke, ywl, you, ypk, yen, yea⟩ := v
  obtain ⟨P, hW, hx, hy, hA, g, hg, hk⟩ := I
  unfold wpX_runs wpY_runs
  dsimp only
  refine ty_explore hW hy (fun de ru ki so ro dn va he hn pl ke wl ou pk en ea g' hA' hg' hk' => ?_)
  exact ⟨(hA'.1).trans (hA.1).symm, ⟨P, hW, hx, hy, hA, g, hg, hk⟩⟩
theorem i_vc_kinds {k : Nat} {u : SX} {v : SY} (I : i_Rel k u v) (hk : k + 4 ≤ 2048) : wpX_kinds (fun r => wpY_kinds (fun r' v' => r' = r ∧ i_Rel (k + 4) u v') v) u := by
  obtain ⟨xle, xbr, xbt, xrc, xkc, xsk, xsh, xsc, xop, xpl, xod, xiv, xcu, xac, xho, xta, xro, xtu, xck, xgr, xes, xls⟩ := u
  obtain ⟨yde, yru, yki, yso, ysz, ywh, yam, yfi, yro, ydo, yva, yhe, yhn, ypl, yke, ywl, you, ypk, yen, yea⟩ := v
  obtain ⟨P, hW, hx, hy, hA, g, hg, hk⟩ := I
  unfold wpX_kinds wpY_kinds
  dsimp only
  refine ty_explore hW hy (fun de ru ki so ro dn va he hn pl ke wl ou pk en ea g' hA' hg' hk' => ?_)
  exact ⟨(hA'.2.1).trans (hA.2.1).symm, ⟨P, hW, hx, hy, hA, g, hg, hk⟩⟩
theorem i_vc_shortestStuck {k : Nat} {u : SX} {v : SY} (I : i_Rel k u v) (hk : k + 4 ≤ 2048) : wpX_shortestStuck (fun r => wpY_shortestStuck (fun r' v' => r' = r ∧ i_Rel (k + 4) u v') v) u := by
  obtain ⟨xle, xbr, xbt, xrc, xkc, xsk, xsh, xsc, xop, xpl, xod, xiv, xcu, xac, xho, xta, xro, xtu, xck, xgr, xes, xls⟩ := u
  obtain ⟨yde, yru, yki, yso, ysz, ywh, yam, yfi, yro, ydo, yva, yhe, yhn, ypl, yke, ywl, you, ypk, yen, yea⟩ := v
  obtain ⟨P, hW, hx, hy, hA, g, hg, hk⟩ := I
  unfold wpX_shortestStuck wpY_shortestStuck
  dsimp only
  refine ty_explore hW hy (fun de ru ki so ro dn va he hn pl ke wl ou pk en ea g' hA' hg' hk' => ?_)
  exact ⟨(hA'.2.2.1).trans (hA.2.2.2.1).symm, ⟨P, hW, hx, hy, hA, g, hg, hk⟩⟩
theorem i_vc_stuckKinds {k : Nat} {u : SX} {v : SY} (I : i_Rel k u v) (hk : k + 4 ≤ 2048) : wpX_stuckKinds (fun r => wpY_stuckKinds (fun r' v' => r' = r ∧ i_Rel (k + 4) u v') v) u := by
  obtain ⟨xle, xbr, xbt, xrc, xkc, xsk, xsh, xsc, xop, xpl, xod, xiv, xcu, xac, xho, xta, xro, xtu, xck, xgr, xes, xls⟩ := u
  obtain ⟨yde, yru, yki, yso, ysz, ywh, yam, yfi, yro, ydo, yva, yhe, yhn, ypl, yke, ywl, you, ypk, yen, yea⟩ := v
  obtain ⟨P, hW, hx, hy, hA, g, hg, hk⟩ := I
  have hl := te_all_len hW
  have hE := te_E_len_le P (te_all P)
  unfold wpX_stuckKinds wpY_stuckKinds
  dsimp only
  refine ty_explore hW hy (fun de ru ki so ro dn va he hn pl ke wl ou pk en ea g' hA' hg' hk' => ⟨(te_E P (te_all P)).length + 1, ?_⟩)
  refine ty_sk8 (P := P) (E := te_E P (te_all P)) (by omega) hA'.2.1 (fun i q hq => (hA'.2.2.2.1 i q hq).2.1) ?_ (te_E P (te_all P)).length 0 (by omega)
  exact ⟨hA.2.2.1.symm, ⟨P, hW, hx, hy, hA, g, hg, hk⟩⟩
theorem i_vc_results {k : Nat} {u : SX} {v : SY} (I : i_Rel k u v) (hk : k + 4 ≤ 2048) : wpX_results (fun r => wpY_results (fun r' v' => r' = r ∧ i_Rel (k + 4) u v') v) u := by
  obtain ⟨xle, xbr, xbt, xrc, xkc, xsk, xsh, xsc, xop, xpl, xod, xiv, xcu, xac, xho, xta, xro, xtu, xck, xgr, xes, xls⟩ := u
  obtain ⟨yde, yru, yki, yso, ysz, ywh, yam, yfi, yro, ydo, yva, yhe, yhn, ypl, yke, ywl, you, ypk, yen, yea⟩ := v
  obtain ⟨P, hW, hx, hy, hA, g, hg, hk⟩ := I
  unfold wpX_results wpY_results
  dsimp only
  refine ⟨512 + 1, tx_res4 hW hA.2.2.2.2.1 ?_ 512 0 rfl⟩
  refine ty_explore hW hy (fun de ru ki so ro dn va he hn pl ke wl ou pk en ea g' hA' hg' hk' => ⟨512 + 1, ?_⟩)
  exact ty_res8 hW hA' ⟨rfl, ⟨P, hW, hx, hy, hA, g, hg, hk⟩⟩ 512 0 rfl
theorem i_vc_nextResult {k : Nat} {u : SX} {v : SY} (I : i_Rel k u v) (hk : k + 4 ≤ 2048) (v1 : Int32) : wpX_nextResult (fun r => wpY_nextResult (fun r' v' => r' = r ∧ i_Rel (k + 4) u v') v v1) u v1 := by
  obtain ⟨xle, xbr, xbt, xrc, xkc, xsk, xsh, xsc, xop, xpl, xod, xiv, xcu, xac, xho, xta, xro, xtu, xck, xgr, xes, xls⟩ := u
  obtain ⟨yde, yru, yki, yso, ysz, ywh, yam, yfi, yro, ydo, yva, yhe, yhn, ypl, yke, ywl, you, ypk, yen, yea⟩ := v
  obtain ⟨P, hW, hx, hy, hA, g, hg, hk⟩ := I
  unfold wpX_nextResult wpY_nextResult
  dsimp only
  refine ⟨512 + 1, tx_nr2 hW hA.2.2.2.2.1 512 0 rfl ?_⟩
  refine ty_explore hW hy (fun de ru ki so ro dn va he hn pl ke wl ou pk en ea g' hA' hg' hk' => ⟨512 + 1, ?_⟩)
  exact ty_nr6 hW hA' 512 0 rfl ⟨rfl, ⟨P, hW, hx, hy, hA, g, hg, hk⟩⟩
theorem i_vc_kindsOf {k : Nat} {u : SX} {v : SY} (I : i_Rel k u v) (hk : k + 4 ≤ 2048) (v1 : Int32) : wpX_kindsOf (fun r => wpY_kindsOf (fun r' v' => r' = r ∧ i_Rel (k + 4) u v') v v1) u v1 := by
  obtain ⟨xle, xbr, xbt, xrc, xkc, xsk, xsh, xsc, xop, xpl, xod, xiv, xcu, xac, xho, xta, xro, xtu, xck, xgr, xes, xls⟩ := u
  obtain ⟨yde, yru, yki, yso, ysz, ywh, yam, yfi, yro, ydo, yva, yhe, yhn, ypl, yke, ywl, you, ypk, yen, yea⟩ := v
  obtain ⟨P, hW, hx, hy, hA, g, hg, hk⟩ := I
  unfold wpX_kindsOf wpY_kindsOf
  dsimp only
  by_cases c : v1 < 0
  · exact br_t c (br_t c ⟨rfl, ⟨P, hW, hx, hy, hA, g, hg, hk⟩⟩)
  · rcases tz_ix v1 (n := 512) (by decide) with hb | ⟨j, hj, rfl⟩
    · have hb' := hb.resolve_left c
      exact br_f c (br_t hb' (br_f c (br_f (tz_gt (b := nI 512) (by decide) hb') ⟨rfl, ⟨P, hW, hx, hy, hA, g, hg, hk⟩⟩)))
    · have cj : (nI j).toNatClampNeg = j := nI_clamp (by omega)
      refine br_f c (br_f (nI_ge (b := 512) hj (by decide)) ⟨vp_in_nI hj (by decide), br_f c (br_t (nI_le (b := 511) (by omega) (by decide)) ?_)⟩)
      refine ty_explore hW hy (fun de ru ki so ro dn va he hn pl ke wl ou pk en ea g' hA' hg' hk' => ?_)
      refine ty_many hW hA' hj ⟨?_, ⟨P, hW, hx, hy, hA, g, hg, hk⟩⟩
      rw [cj, hA.2.2.2.2.1 j hj]
theorem i_vc_peak {k : Nat} {u : SX} {v : SY} (I : i_Rel k u v) (hk : k + 4 ≤ 2048) (v1 : Int32) : wpX_peak (fun r => wpY_peak (fun r' v' => r' = r ∧ i_Rel (k + 4) u v') v v1) u v1 := by
  obtain ⟨xle, xbr, xbt, xrc, xkc, xsk, xsh, xsc, xop, xpl, xod, xiv, xcu, xac, xho, xta, xro, xtu, xck, xgr, xes, xls⟩ := u
  obtain ⟨yde, yru, yki, yso, ysz, ywh, yam, yfi, yro, ydo, yva, yhe, yhn, ypl, yke, ywl, you, ypk, yen, yea⟩ := v
  obtain ⟨P, hW, hx, hy, hA, g, hg, hk⟩ := I
  unfold wpX_peak wpY_peak
  dsimp only
  rcases tz_ix v1 (n := 3) (by decide) with hb | ⟨j, hj, rfl⟩
  · exact tz_var_b hb (br_t rfl (tz_bad_b hb (br_f (by decide) ⟨rfl, ⟨P, hW, hx, hy, hA, g, hg, hk⟩⟩)))
  · have hi : vp_in (nI j) 3 := vp_in_nI hj (by decide)
    have cj : (nI j).toNatClampNeg = j := nI_clamp (by omega)
    refine tz_var_g hj (br_f (by decide) ⟨hi, tz_bad_g hj (br_t rfl ?_)⟩)
    refine ty_explore hW hy (fun de ru ki so ro dn va he hn pl ke wl ou pk en ea g' hA' hg' hk' => ⟨hi, ?_, ⟨P, hW, hx, hy, hA, g, hg, hk⟩⟩)
    show pk (nI j).toNatClampNeg = xgr (nI j).toNatClampNeg
    rw [cj, hg j hj, hg' j hj, te_pk_eq hW hk' hk j hj]
theorem i_vc_endings {k : Nat} {u : SX} {v : SY} (I : i_Rel k u v) (hk : k + 4 ≤ 2048) (v1 : Int32) : wpX_endings (fun r => wpY_endings (fun r' v' => r' = r ∧ i_Rel (k + 4) u v') v v1) u v1 := by
  obtain ⟨xle, xbr, xbt, xrc, xkc, xsk, xsh, xsc, xop, xpl, xod, xiv, xcu, xac, xho, xta, xro, xtu, xck, xgr, xes, xls⟩ := u
  obtain ⟨yde, yru, yki, yso, ysz, ywh, yam, yfi, yro, ydo, yva, yhe, yhn, ypl, yke, ywl, you, ypk, yen, yea⟩ := v
  obtain ⟨P, hW, hx, hy, hA, g, hg, hk⟩ := I
  unfold wpX_endings wpY_endings
  dsimp only
  rcases tz_ix v1 (n := 3) (by decide) with hb | ⟨j, hj, rfl⟩
  · exact tz_thr_b hb (br_t rfl (tz_bad_b hb (br_f (by decide) ⟨rfl, ⟨P, hW, hx, hy, hA, g, hg, hk⟩⟩)))
  · have hi : vp_in (nI j) 3 := vp_in_nI hj (by decide)
    have cj : (nI j).toNatClampNeg = j := nI_clamp (by omega)
    refine tz_thr_g hj (br_f (by decide) ⟨hi, tz_bad_g hj (br_t rfl ?_)⟩)
    refine ty_explore hW hy (fun de ru ki so ro dn va he hn pl ke wl ou pk en ea g' hA' hg' hk' => ⟨hi, ?_, ⟨P, hW, hx, hy, hA, g, hg, hk⟩⟩)
    show en (nI j).toNatClampNeg = xes (nI j).toNatClampNeg
    rw [cj, hA.2.2.2.2.2.1 j hj, hA'.2.2.2.2.1 j hj]
theorem te_d4 {a : Nat} (h : a < 12) : nI a / 4 = nI (a / 4) := pk_div (d := 4) (by omega) (by decide) (by decide)
theorem te_r4 {a : Nat} (h : a < 12) : nI a - nI a / 4 * 4 = nI (a % 4) := pk_rem (d := 4) (by omega) (by decide) (by decide)
section
variable {xle xbr xbt xrc xkc xsk xsh : Int32} {xsc xop xpl xod xiv xcu xac xho xta xro xtu xck xgr xes xls : Nat → Int32}
variable {yde yru yki yso : Int32} {ysz ywh yam yfi yro ydo yva yhe yhn ypl ywl you ypk yen yea : Nat → Int32} {yke : Nat → Int64}
theorem tz_isStep {P : te_P} (hW : te_W P) (hx : te_XP P xsc xop xpl xod xiv) {a : Nat} (ha : a < 12) {post : Int32 → Prop} (h0 : te_sz P (a / 4) ≤ a % 4 → post 0) (h1 : a % 4 < te_sz P (a / 4) → post 1) : wpX_isStep post (xle, xbr, xbt, xrc, xkc, xsk, xsh, xsc, xop, xpl, xod, xiv, xcu, xac, xho, xta, xro, xtu, xck, xgr, xes, xls) (nI a) := by
  have hs := hW.1 (a / 4) (by omega)
  have ca : (nI (a / 4)).toNatClampNeg = a / 4 := nI_clamp (by omega)
  unfold wpX_isStep
  dsimp only
  rw [te_r4 ha, te_d4 ha, ca, hx.1 (a / 4) (by omega)]
  exact ⟨by decide, by decide, vp_in_nI (by omega) (by decide), pk_le _ _ h0 h1 rfl rfl (by omega) (by omega)⟩
theorem tz_refusal {P : te_P} (hW : te_W P) (hx : te_XP P xsc xop xpl xod xiv) (hy : te_YP P ysz ywh yam yfi) (p0 p1 : Int32) : (∃ r : Int32, ¬ 0 ≤ r ∧ (∀ post : Int32 → Prop, post r → wpX_refusalOfPair post (xle, xbr, xbt, xrc, xkc, xsk, xsh, xsc, xop, xpl, xod, xiv, xcu, xac, xho, xta, xro, xtu, xck, xgr, xes, xls) p0 p1) ∧ (∀ post : Int32 → Prop, post r → wpY_refusal post (yde, yru, yki, yso, ysz, ywh, yam, yfi, yro, ydo, yva, yhe, yhn, ypl, yke, ywl, you, ypk, yen, yea) p0 p1)) ∨ ∃ a b : Nat, a < 12 ∧ b < 12 ∧ p0 = nI a ∧ p1 = nI b ∧ a % 4 < te_sz P (a / 4) ∧ b % 4 < te_sz P (b / 4) ∧ (∀ post : Int32 → Prop, post 0 → wpX_refusalOfPair post (xle, xbr, xbt, xrc, xkc, xsk, xsh, xsc, xop, xpl, xod, xiv, xcu, xac, xho, xta, xro, xtu, xck, xgr, xes, xls) p0 p1) ∧ (∀ post : Int32 → Prop, post 0 → wpY_refusal post (yde, yru, yki, yso, ysz, ywh, yam, yfi, yro, ydo, yva, yhe, yhn, ypl, yke, ywl, you, ypk, yen, yea) p0 p1) := by
  rcases tz_ix p0 (n := 12) (by decide) with hb | ⟨a, ha, rfl⟩
  · refine Or.inl ⟨-1, by decide, fun post h => ?_, fun post h => ?_⟩
    · unfold wpX_refusalOfPair
      dsimp only
      exact tz_num_b hb (br_t rfl h)
    · unfold wpY_refusal
      dsimp only
      by_cases c : p0 < 0
      · exact br_t c h
      · exact br_f c (br_t (Int32.lt_of_lt_of_le (b := nI 12) (by decide) (hb.resolve_left c)) h)
  · have a1 : ¬ nI a < 0 := nI_pos (by omega)
    have a2 : ¬ 11 < nI a := Int32.not_lt.mpr (nI_le (b := 11) (by omega) (by decide))
    rcases tz_ix p1 (n := 12) (by decide) with hb | ⟨b, hb, rfl⟩
    · refine Or.inl ⟨-1, by decide, fun post h => ?_, fun post h => ?_⟩
      · unfold wpX_refusalOfPair
        dsimp only
        exact tz_num_g ha (br_f (by decide) (tz_num_b hb (br_t rfl h)))
      · unfold wpY_refusal
        dsimp only
        refine br_f a1 (br_f a2 ?_)
        by_cases c : p1 < 0
        · exact br_t c h
        · exact br_f c (br_f (tz_gt (b := nI 12) (by decide) (hb.resolve_left c)) h)
    · have b1 : ¬ nI b < 0 := nI_pos (by omega)
      have b2 : nI b ≤ 11 := nI_le (b := 11) (by omega) (by decide)
      have sa := hW.1 (a / 4) (by omega)
      have sb := hW.1 (b / 4) (by omega)
      have ca : (nI (a / 4)).toNatClampNeg = a / 4 := nI_clamp (by omega)
      have cb : (nI (b / 4)).toNatClampNeg = b / 4 := nI_clamp (by omega)
      have ia : vp_in (nI (a / 4)) 3 := vp_in_nI (by omega) (by decide)
      have ib : vp_in (nI (b / 4)) 3 := vp_in_nI (by omega) (by decide)
      by_cases c1 : a % 4 < te_sz P (a / 4)
      · by_cases c2 : b % 4 < te_sz P (b / 4)
        · have hX : ∀ r : Int32, r = (if a = b then -3 else 0) → ∀ post : Int32 → Prop, post r → wpX_refusalOfPair post (xle, xbr, xbt, xrc, xkc, xsk, xsh, xsc, xop, xpl, xod, xiv, xcu, xac, xho, xta, xro, xtu, xck, xgr, xes, xls) (nI a) (nI b) := by
            intro r hr post h
            unfold wpX_refusalOfPair
            dsimp only
            refine tz_num_g ha (br_f (by decide) (tz_num_g hb (br_f (by decide) (tz_isStep hW hx ha (fun z => absurd z (by omega)) (fun _ => br_f (by decide) (tz_isStep hW hx hb (fun z => absurd z (by omega)) (fun _ => br_f (by decide) (pk_eq a b (fun e => ?_) (fun e => ?_) rfl rfl (by omega) (by omega)))))))))
            · rw [hr, if_pos e] at h; exact h
            · rw [hr, if_neg e] at h; exact h
          have hY : ∀ r : Int32, r = (if a = b then -3 else 0) → ∀ post : Int32 → Prop, post r → wpY_refusal post (yde, yru, yki, yso, ysz, ywh, yam, yfi, yro, ydo, yva, yhe, yhn, ypl, yke, ywl, you, ypk, yen, yea) (nI a) (nI b) := by
            intro r hr post h
            unfold wpY_refusal
            dsimp only
            rw [te_r4 ha, te_d4 ha, te_r4 hb, te_d4 hb, ca, cb, hy.1 (a / 4) (by omega), hy.1 (b / 4) (by omega)]
            refine br_f a1 (br_f a2 (br_f b1 (br_t b2 ⟨by decide, by decide, ia, pk_le _ _ (fun z => absurd z (by omega)) (fun _ => ⟨by decide, by decide, ib, pk_lt _ _ (fun _ => pk_eq a b (fun e => ?_) (fun e => ?_) rfl rfl (by omega) (by omega)) (fun z => absurd z (by omega)) rfl rfl (by omega) (by omega)⟩) rfl rfl (by omega) (by omega)⟩)))
            · rw [hr, if_pos e] at h; exact h
            · rw [hr, if_neg e] at h; exact h
          by_cases e : a = b
          · exact Or.inl ⟨-3, by decide, hX _ (by rw [if_pos e]), hY _ (by rw [if_pos e])⟩
          · exact Or.inr ⟨a, b, ha, hb, rfl, rfl, c1, c2, hX 0 (by rw [if_neg e]), hY 0 (by rw [if_neg e])⟩
        · refine Or.inl ⟨-2, by decide, fun post h => ?_, fun post h => ?_⟩
          · unfold wpX_refusalOfPair
            dsimp only
            exact tz_num_g ha (br_f (by decide) (tz_num_g hb (br_f (by decide) (tz_isStep hW hx ha (fun z => absurd z (by omega)) (fun _ => br_f (by decide) (tz_isStep hW hx hb (fun _ => br_t rfl h) (fun z => absurd z c2)))))))
          · unfold wpY_refusal
            dsimp only
            rw [te_r4 ha, te_d4 ha, te_r4 hb, te_d4 hb, ca, cb, hy.1 (a / 4) (by omega), hy.1 (b / 4) (by omega)]
            exact br_f a1 (br_f a2 (br_f b1 (br_t b2 ⟨by decide, by decide, ia, pk_le _ _ (fun z => absurd z (by omega)) (fun _ => ⟨by decide, by decide, ib, pk_lt _ _ (fun z => absurd z c2) (fun _ => h) rfl rfl (by omega) (by omega)⟩) rfl rfl (by omega) (by omega)⟩)))
      · refine Or.inl ⟨-2, by decide, fun post h => ?_, fun post h => ?_⟩
        · unfold wpX_refusalOfPair
          dsimp only
          exact tz_num_g ha (br_f (by decide) (tz_num_g hb (br_f (by decide) (tz_isStep hW hx ha (fun _ => br_t rfl h) (fun z => absurd z c1)))))
        · unfold wpY_refusal
          dsimp only
          rw [te_r4 ha, te_d4 ha, te_r4 hb, te_d4 hb, ca, cb, hy.1 (a / 4) (by omega), hy.1 (b / 4) (by omega)]
          exact br_f a1 (br_f a2 (br_f b1 (br_t b2 ⟨by decide, by decide, ia, pk_le _ _ (fun _ => h) (fun z => absurd z c1) rfl rfl (by omega) (by omega)⟩)))
end
theorem te_bt1 : ∀ i, i < 32 → bt 1 i = decide (i = 0) := by decide +kernel
theorem te_bit0 (y : Int32) : y &&& 1 = if bt y 0 = true then 1 else 0 := by
  apply b_ext
  intro i hi
  rw [b_and, te_bt1 i hi]
  by_cases c : bt y 0 = true
  · rw [if_pos c, te_bt1 i hi]
    by_cases e : i = 0
    · rw [e, c]; rfl
    · rw [decide_eq_false e, Bool.and_false]
  · rw [if_neg c, b_0]
    by_cases e : i = 0
    · rw [e, Bool.eq_false_iff.mpr c]; rfl
    · rw [decide_eq_false e, Bool.and_false]
theorem te_bitx (w : Int32) {b : Nat} (hb : b < 12) : (w >>> (nI b &&& 31)) &&& 1 = if bt w b = true then 1 else 0 := by
  have e : bt (w >>> (nI b &&& 31)) 0 = bt w b := by
    rw [b_sshr b (by omega) w (by decide)]
    exact if_pos (show b + 0 < 32 by omega)
  rw [te_bit0, e]
theorem i_vc_tied {k : Nat} {u : SX} {v : SY} (I : i_Rel k u v) (hk : k + 4 ≤ 2048) (v1 : Int32) (v2 : Int32) : wpX_tied (fun r => wpY_tied (fun r' => r' = r ∧ i_Rel (k + 4) u v) v v1 v2) u v1 v2 := by
  obtain ⟨xle, xbr, xbt, xrc, xkc, xsk, xsh, xsc, xop, xpl, xod, xiv, xcu, xac, xho, xta, xro, xtu, xck, xgr, xes, xls⟩ := u
  obtain ⟨yde, yru, yki, yso, ysz, ywh, yam, yfi, yro, ydo, yva, yhe, yhn, ypl, yke, ywl, you, ypk, yen, yea⟩ := v
  obtain ⟨P, hW, hx, hy, hA, g, hg, hk⟩ := I
  unfold wpX_tied wpY_tied
  dsimp only
  rcases tz_refusal (xle := xle) (xbr := xbr) (xbt := xbt) (xrc := xrc) (xkc := xkc) (xsk := xsk) (xsh := xsh) (xcu := xcu) (xac := xac) (xho := xho) (xta := xta) (xro := xro) (xtu := xtu) (xck := xck) (xgr := xgr) (xes := xes) (xls := xls) (yde := yde) (yru := yru) (yki := yki) (yso := yso) (yro := yro) (ydo := ydo) (yva := yva) (yhe := yhe) (yhn := yhn) (ypl := ypl) (yke := yke) (ywl := ywl) (you := you) (ypk := ypk) (yen := yen) (yea := yea) hW hx hy v1 v2 with ⟨r, hr, hX, hY⟩ | ⟨a, b, ha, hb, rfl, rfl, c1, c2, hX, hY⟩
  · exact hX _ (br_f hr (hY _ (br_f hr ⟨rfl, ⟨P, hW, hx, hy, hA, g, hg, hk⟩⟩)))
  · have sa := hW.1 (a / 4) (by omega)
    have sb := hW.1 (b / 4) (by omega)
    have ea : 4 * (a / 4) + a % 4 = a := by omega
    have eb : 4 * (b / 4) + b % 4 = b := by omega
    refine hX _ (br_t (by decide) ?_)
    have hT := tx_areTied (xle := xle) (xbr := xbr) (xbt := xbt) (xrc := xrc) (xkc := xkc) (xsk := xsk) (xsh := xsh) (xcu := xcu) (xac := xac) (xho := xho) (xta := xta) (xro := xro) (xtu := xtu) (xck := xck) (xgr := xgr) (xes := xes) (xls := xls) (x := (a / 4, a % 4)) (y := (b / 4, b % 4)) (post := fun r_25 => (r_25 = 0 → (fun r => wpY_tied (fun r' => r' = r ∧ i_Rel (k + 4) (xle, xbr, xbt, xrc, xkc, xsk, xsh, xsc, xop, xpl, xod, xiv, xcu, xac, xho, xta, xro, xtu, xck, xgr, xes, xls) (yde, yru, yki, yso, ysz, ywh, yam, yfi, yro, ydo, yva, yhe, yhn, ypl, yke, ywl, you, ypk, yen, yea)) (yde, yru, yki, yso, ysz, ywh, yam, yfi, yro, ydo, yva, yhe, yhn, ypl, yke, ywl, you, ypk, yen, yea) (nI a) (nI b)) 0) ∧ (¬ r_25 = 0 → (fun r => wpY_tied (fun r' => r' = r ∧ i_Rel (k + 4) (xle, xbr, xbt, xrc, xkc, xsk, xsh, xsc, xop, xpl, xod, xiv, xcu, xac, xho, xta, xro, xtu, xck, xgr, xes, xls) (yde, yru, yki, yso, ysz, ywh, yam, yfi, yro, ydo, yva, yhe, yhn, ypl, yke, ywl, you, ypk, yen, yea)) (yde, yru, yki, yso, ysz, ywh, yam, yfi, yro, ydo, yva, yhe, yhn, ypl, yke, ywl, you, ypk, yen, yea) (nI a) (nI b)) 1)) hW hx (show a / 4 < 3 by omega) (show a % 4 < 3 by omega) (show b / 4 < 3 by omega) (show b % 4 < 3 by omega) ?_
    · rw [show 4 * ((a / 4, a % 4) : Nat × Nat).1 + ((a / 4, a % 4) : Nat × Nat).2 = a from ea, show 4 * ((b / 4, b % 4) : Nat × Nat).1 + ((b / 4, b % 4) : Nat × Nat).2 = b from eb] at hT
      exact hT
    · have hYr : ∀ r : Int32, r = (if te_ti P (a / 4, a % 4) (b / 4, b % 4) = true then 1 else 0) → wpY_tied (fun r' => r' = r ∧ i_Rel (k + 4) (xle, xbr, xbt, xrc, xkc, xsk, xsh, xsc, xop, xpl, xod, xiv, xcu, xac, xho, xta, xro, xtu, xck, xgr, xes, xls) (yde, yru, yki, yso, ysz, ywh, yam, yfi, yro, ydo, yva, yhe, yhn, ypl, yke, ywl, you, ypk, yen, yea)) (yde, yru, yki, yso, ysz, ywh, yam, yfi, yro, ydo, yva, yhe, yhn, ypl, yke, ywl, you, ypk, yen, yea) (nI a) (nI b) := by
        intro r hr
        unfold wpY_tied
        dsimp only
        refine hY _ (br_t (by decide) ⟨by decide, by decide, by decide, by decide, ?_⟩)
        rw [te_r4 ha, te_d4 ha, te_r4 hb, te_d4 hb, te_num3, te_num3]
        refine ty_areTied (x := (a / 4, a % 4)) (y := (b / 4, b % 4)) hW hy (show a / 4 < 3 by omega) (show a % 4 < 3 by omega) (show b / 4 < 3 by omega) (show b % 4 < 3 by omega) ?_
        rw [hr]
        cases te_ti P (a / 4, a % 4) (b / 4, b % 4) with
        | true => rw [if_pos rfl]; exact br_f (by decide) ⟨rfl, ⟨P, hW, hx, hy, hA, g, hg, hk⟩⟩
        | false => rw [if_neg (by decide)]; exact br_t rfl ⟨rfl, ⟨P, hW, hx, hy, hA, g, hg, hk⟩⟩
      cases ht : te_ti P (a / 4, a % 4) (b / 4, b % 4) with
      | true => rw [if_pos rfl]; exact br_f (by decide) (hYr 1 (by rw [ht]; rfl))
      | false => rw [if_neg (by decide)]; exact br_t rfl (hYr 0 (by rw [ht]; rfl))
theorem i_vc_before {k : Nat} {u : SX} {v : SY} (I : i_Rel k u v) (hk : k + 4 ≤ 2048) (v1 : Int32) (v2 : Int32) : wpX_before (fun r => wpY_before (fun r' v' => r' = r ∧ i_Rel (k + 4) u v') v v1 v2) u v1 v2 := by
  obtain ⟨xle, xbr, xbt, xrc, xkc, xsk, xsh, xsc, xop, xpl, xod, xiv, xcu, xac, xho, xta, xro, xtu, xck, xgr, xes, xls⟩ := u
  obtain ⟨yde, yru, yki, yso, ysz, ywh, yam, yfi, yro, ydo, yva, yhe, yhn, ypl, yke, ywl, you, ypk, yen, yea⟩ := v
  obtain ⟨P, hW, hx, hy, hA, g, hg, hk⟩ := I
  unfold wpX_before wpY_before
  dsimp only
  rcases tz_refusal (xle := xle) (xbr := xbr) (xbt := xbt) (xrc := xrc) (xkc := xkc) (xsk := xsk) (xsh := xsh) (xcu := xcu) (xac := xac) (xho := xho) (xta := xta) (xro := xro) (xtu := xtu) (xck := xck) (xgr := xgr) (xes := xes) (xls := xls) (yde := yde) (yru := yru) (yki := yki) (yso := yso) (yro := yro) (ydo := ydo) (yva := yva) (yhe := yhe) (yhn := yhn) (ypl := ypl) (yke := yke) (ywl := ywl) (you := you) (ypk := ypk) (yen := yen) (yea := yea) hW hx hy v1 v2 with ⟨r, hr, hX, hY⟩ | ⟨a, b, ha, hb, rfl, rfl, c1, c2, hX, hY⟩
  · exact hX _ (br_f hr (hY _ (br_f hr ⟨rfl, ⟨P, hW, hx, hy, hA, g, hg, hk⟩⟩)))
  · have sa := hW.1 (a / 4) (by omega)
    have sb := hW.1 (b / 4) (by omega)
    have ea' : 4 * (a / 4) + a % 4 = a := by omega
    have eb' : 4 * (b / 4) + b % 4 = b := by omega
    have ca : (nI a).toNatClampNeg = a := nI_clamp (by omega)
    have hbit := hA.2.2.2.2.2.2 (a / 4, a % 4) (b / 4, b % 4) (show a / 4 < 3 by omega) (show a % 4 < 3 by omega) (show b / 4 < 3 by omega) (show b % 4 < 3 by omega)
    simp only at hbit
    rw [ea', eb'] at hbit
    refine hX _ (br_t (by decide) ⟨vp_in_nI ha (by decide), hY _ (br_t (by decide) ?_)⟩)
    rw [ca, te_bitx _ hb]
    refine ty_explore hW hy (fun de ru ki so ro dn va he hn pl ke wl ou pk en ea g' hA' hg' hk' => ⟨by decide, by decide, by decide, by decide, ?_⟩)
    have eix : 9 * (3 * (nI a / 4) + (nI a - nI a / 4 * 4)) + 3 * (nI b / 4) + (nI b - nI b / 4 * 4) = nI (9 * (3 * (a / 4) + a % 4) + (3 * (b / 4) + b % 4)) := by
      rw [te_r4 ha, te_d4 ha, te_r4 hb, te_d4 hb, te_num3]
      show nI 9 * _ + nI 3 * _ + _ = _
      rw [pk_mul, pk_mul, nI_add, nI_add]
      exact congrArg nI (by omega)
    have cix : (nI (9 * (3 * (a / 4) + a % 4) + (3 * (b / 4) + b % 4))).toNatClampNeg = 9 * (3 * (a / 4) + a % 4) + (3 * (b / 4) + b % 4) := nI_clamp (by omega)
    have hE := hA'.2.2.2.2.2 (3 * (a / 4) + a % 4) (by omega) (3 * (b / 4) + b % 4) (by omega)
    have xa : te_x (3 * (a / 4) + a % 4) = (a / 4, a % 4) := te_x_of (x := (a / 4, a % 4)) (show a % 4 < 3 by omega)
    have xb : te_x (3 * (b / 4) + b % 4) = (b / 4, b % 4) := te_x_of (x := (b / 4, b % 4)) (show b % 4 < 3 by omega)
    dsimp only at hE
    rw [xa, xb] at hE
    dsimp only
    rw [eix, cix]
    refine ⟨vp_in_nI (by omega) (by decide), ?_⟩
    by_cases c : bt (xls a) b = true
    · rw [if_pos c, hE.1 (hbit.mp c)]
      exact br_f (by decide) ⟨rfl, ⟨P, hW, hx, hy, hA, g, hg, hk⟩⟩
    · rw [if_neg c, hE.2 (fun z => c (hbit.mpr z))]
      exact br_t rfl ⟨rfl, ⟨P, hW, hx, hy, hA, g, hg, hk⟩⟩
