/-! the second machine: all runs -/
section
variable {yde yru yki yso : Int32} {ysz ywh yam yfi yro ydo yva yhe yhn ypl ywl you ypk yen yea : Nat → Int32} {yke : Nat → Int64}
theorem te_M_down {P : te_P} (hW : te_W P) {p : List Nat} (ho : te_o P p) {f t : Nat} (hf : f ≤ t) (ht : t < 3) (hc : te_can P (te_q P p) t = true) (h : ∀ j, f ≤ j → j < t → te_can P (te_q P p) j = false) : te_M P p f ++ te_Rs P p = te_M P (p ++ [t]) 0 ++ te_Rs P (p ++ [t]) := by
  have e : te_M P (p ++ [t]) 0 = te_Lv P (p ++ [t]) := if_pos rfl
  rw [e]
  unfold te_M
  by_cases c : f = 0
  · rw [if_pos c]
    exact te_x2 hW ho ht hc (fun j hj => h j (by omega) hj)
  · rw [if_neg c, te_Kd_next hf ht hc h, te_Rs_snoc, List.append_assoc]
theorem ty_ex161 {P : te_P} {p : List Nat} (hl9 : p.length ≤ 9) (hde : yde = nI p.length) (hro : ∀ k x, p[k]? = some x → yro k = nI x) {x1 : Int32} {i : Nat} {post : SY → Prop} {J : Int32 → Int32 → Int32 → Int32 → Int32 → Int32 → Int32 → (Nat → Int32) → (Nat → Int32) → (Nat → Int32) → (Nat → Int32) → (Nat → Int32) → (Nat → Int32) → (Nat → Int32) → (Nat → Int32) → (Nat → Int32) → (Nat → Int32) → (Nat → Int64) → (Nat → Int32) → (Nat → Int32) → (Nat → Int32) → (Nat → Int32) → (Nat → Int32) → Prop}
    (h0 : p = [] → J x1 0 (nI (i + 1)) yde yru yki yso ysz ywh yam yfi yro ydo yva yhe yhn ypl yke ywl you ypk yen yea) (h1 : ∀ p' t, p = p' ++ [t] → J (nI (t + 1)) 1 (nI (i + 1)) (nI p'.length) yru yki yso ysz ywh yam yfi yro ydo yva yhe yhn ypl yke ywl you ypk yen yea) : wY_explore_149 post J x1 (nI i) yde yru yki yso ysz ywh yam yfi yro ydo yva yhe yhn ypl yke ywl you ypk yen yea := by
  unfold wY_explore_149
  refine pk_le p.length 0 (fun c => ?_) (fun c => ?_) hde rfl (by omega) (by omega)
  · unfold wY_explore_161
    exact br_t rfl (nm_r (nI_1 i) (h0 (List.length_eq_zero_iff.mp (by omega))))
  · have hne : p ≠ [] := by intro z; rw [z] at c; exact absurd c (by simp)
    obtain ⟨p', t, e⟩ : ∃ p' t, p = p' ++ [t] := ⟨p.dropLast, p.getLast hne, (List.dropLast_concat_getLast hne).symm⟩
    have hln : p.length = p'.length + 1 := by rw [e, List.length_append]; rfl
    have cp : (nI p'.length).toNatClampNeg = p'.length := nI_clamp (by omega)
    have hr : yro p'.length = nI t := by
      refine hro p'.length t ?_
      rw [e, List.getElem?_append_right (Nat.le_refl _), Nat.sub_self]; rfl
    unfold wY_explore_161
    refine br_f (by decide) (nm_r (e' := nI p'.length) ?_ ⟨vp_in_nI (by omega) (by decide), nm_r (e' := nI (t + 1)) ?_ (nm_r (nI_1 i) (h1 p' t e))⟩)
    · rw [hde, hln]; exact nI_pred _
    · rw [cp, hr, nI_1]
theorem ty_ex74 {P : te_P} (hW : te_W P) (hp : te_YP P ysz ywh yam yfi) {post : SY → Prop} (h : ∀ de ru ki so ro dn va he hn pl ke wl ou pk en ea g, te_YA P (te_all P) ru ki so ke wl ou en ea → te_AR 3 pk g → te_pk P (te_all P) g → post (de, ru, ki, so, ysz, ywh, yam, yfi, ro, dn, va, he, hn, pl, ke, wl, ou, pk, en, ea)) :
    ∀ d (D : List (List Nat)) (p : List Nat) (f i : Nat), te_o P p → f ≤ 3 → i + (te_TK P p f + te_Ts P p) < 100000 → te_TK P p f + te_Ts P p ≤ d → te_all P = D ++ (te_M P p f ++ te_Rs P p) → (f ≠ 0 → te_stb P (te_q P p) = false) → ∀ (yde yru yki yso : Int32) (yro ydo yva yhe yhn ypl ywl you ypk yen yea : Nat → Int32) (yke : Nat → Int64) (g : Nat → Nat), yde = nI p.length → (∀ k x, p[k]? = some x → yro k = nI x) → te_YA P D yru yki yso yke ywl you yen yea → te_AR 3 ypk g → (∀ v, v < 3 → g v < 8) → te_pk P (D ++ [p]) (te_mx P p g) → wY_explore_74 post (d + 1) (nI f) 1 (nI i) yde yru yki yso ysz ywh yam yfi yro ydo yva yhe yhn ypl yke ywl you ypk yen yea := by
  intro d
  induction d with
  | zero =>
    intro D p f i hpo hf hi hd
    have := te_TK_pos P p f
    omega
  | succ d ih =>
    intro D p f i hpo hf hi hd hall hst yde yru yki yso yro ydo yva yhe yhn ypl ywl you ypk yen yea yke g hde hro hA hg hg8 hk
    have hl9 := te_o_len hW hpo
    have hT := te_TK_pos P p f
    rw [wY_explore_74]
    refine pk_le 100000 i (fun c => absurd c (by omega)) (fun _ => br_f (by decide) ?_) rfl rfl (by omega) (by omega)
    refine ty_replay hW hpo hp hde hro hg8 hg (fun dn va he hn pl pk g' hq hg' hgv => ?_)
    have hk' : te_pk P (D ++ [p]) g' := te_pk_congr hk hgv
    have hg8' : ∀ v, v < 3 → g' v < 8 := fun v hv => te_pk_lt hW hk' hv
    refine ty_ready hW hpo hp hq f hf (fun t a1 a2 a3 a4 => ?_) (fun a => ?_)
    · have hl := te_o_lt hW hpo a2 a3
      have ho' : te_o P (p ++ [t]) := (te_o_snoc P p t).mpr ⟨hpo, a2, a3⟩
      have cl : (nI p.length).toNatClampNeg = p.length := nI_clamp (by omega)
      have hdn := te_y_down hW hpo a1 a2 a3 a4
      have hln : (p ++ [t]).length = p.length + 1 := by rw [List.length_append]; rfl
      rw [hde, cl]
      refine pk_le 3 t (fun c => absurd c (by omega)) (fun _ => pk_le 9 p.length (fun c => absurd c (by omega)) (fun _ => ⟨vp_in_nI (by omega) (by decide), nm_e (nm_r (nI_1 _) (nm_r (nI_1 i) ?_))⟩) rfl rfl (by omega) (by omega)) rfl rfl (by omega) (by omega)
      refine ih D (p ++ [t]) 0 (i + 1) ho' (by omega) (by omega) (by omega) ?_ (fun z => absurd rfl z) (nI (p.length + 1)) yru yki yso _ dn va he hn pl ywl you pk yen yea yke g' (by rw [hln]) ?_ hA hg' hg8' (te_vl_max hk' t ho' (fun v hv => rfl))
      · rw [hall, te_M_down hW hpo a1 a2 a3 a4]
      · refine te_snoc_get (te_upd_get (Nat.le_refl _) hro) pk_us
    · have hTK : te_TK P p f = 1 := te_TK_none a
      have h149 : ∀ (D' : List (List Nat)) (yru yki yso : Int32) (ywl you yen yea : Nat → Int32) (yke : Nat → Int64), te_all P = D' ++ te_Rs P p → te_YA P D' yru yki yso yke ywl you yen yea → te_pk P (D' ++ [p]) g' → wY_explore_149 post (wY_explore_74 post (d + 1)) (nI f) (nI i) yde yru yki yso ysz ywh yam yfi yro dn va he hn pl yke ywl you pk yen yea := by
        intro D' yru yki yso ywl you yen yea yke hall' hA' hk2
        refine ty_ex161 (P := P) (p := p) (by omega) hde hro (fun e => ?_) (fun p' t e => ?_)
        · subst e
          rw [te_Rs_nil, List.append_nil] at hall'
          rw [wY_explore_74]
          have hfin := h yde yru yki yso yro dn va he hn pl yke ywl you pk yen yea g' (by rw [hall']; exact hA') hg' (by rw [hall']; exact te_pk_sub hk2)
          exact br_c (fun _ => hfin) (fun _ => br_t rfl hfin)
        · subst e
          have ho2 := (te_o_snoc P p' t).mp hpo
          have hup := te_y_up (P := P) (p := p') (t := t) (f := f) a
          refine ih D' p' (t + 1) (i + 1) ho2.1 (by omega) (by omega) (by omega) ?_ (fun _ => te_not_stk.mpr ⟨t, ho2.2.1, ho2.2.2⟩) (nI p'.length) yru yki yso yro dn va he hn pl ywl you pk yen yea yke g' rfl (fun k x hx => ?_) hA' hg' hg8' (te_pk_mx (te_pk_pre hk2))
          · have e2 : te_M P p' (t + 1) = te_Kd P p' (t + 1) := if_neg (Nat.succ_ne_zero t)
            rw [hall', te_Rs_snoc, e2]
          · have hkl := (List.getElem?_eq_some_iff.mp hx).1
            refine hro k x ?_
            rw [List.getElem?_append_left hkl]; exact hx
      refine br_t (by decide) ?_
      unfold wY_explore_136
      refine ty_ready hW hpo hp hq 0 (by omega) (fun t a1 a2 a3 a4 => ?_) (fun a' => ?_)
      · have hne : ¬ nI t = 3 := fun z => by
          have := (nI_eq (a := t) (b := 3) (by omega) (by omega)).mp z
          omega
        refine br_f hne ?_
        have hf0 : f ≠ 0 := by
          intro z
          rw [a t (by omega) a2] at a3
          exact absurd a3 (by decide)
        have e : te_M P p f = [] := by
          have e2 : te_M P p f = te_Kd P p f := if_neg hf0
          rw [e2]; exact te_Kd_none a
        rw [e] at hall
        exact h149 D yru yki yso ywl you yen yea yke hall hA hk'
      · refine br_t rfl ?_
        have hs : te_stb P (te_q P p) = true := te_stb_t.mpr (fun t ht => a' t (Nat.zero_le _) ht)
        have hf0 : f = 0 := by
          by_cases z : f = 0
          · exact z
          · rw [hst z] at hs; exact absurd hs (by decide)
        have e : te_M P p f = [p] := by
          have e2 : te_M P p f = te_Lv P p := if_pos hf0
          rw [e2]; exact te_Lv_stk hs
        rw [e] at hall
        refine ty_notice hW hall hp hq hde hA (fun ru ki so ke wl ou en ea hA' => ?_)
        exact h149 (D ++ [p]) ru ki so wl ou en ea ke (by rw [hall, List.append_assoc]) hA' (te_pk_dup hk')
theorem ty_ex49 {P : te_P} (hW : te_W P) (hp : te_YP P ysz ywh yam yfi) (hpk : ∀ v, v < 3 → ypk v = 0) (hen : ∀ v, v < 3 → yen v = 0) {post : SY → Prop} (h : ∀ de ru ki so ro dn va he hn pl ke wl ou pk en ea g, te_YA P (te_all P) ru ki so ke wl ou en ea → te_AR 3 pk g → te_pk P (te_all P) g → post (de, ru, ki, so, ysz, ywh, yam, yfi, ro, dn, va, he, hn, pl, ke, wl, ou, pk, en, ea)) : ∀ d i, i + d = 81 → ∀ yea : Nat → Int32, (∀ l, l < i → yea l = 0) → wY_explore_49 post 0 0 0 0 (d + 1) (nI i) ysz ywh yam yfi yro ydo yva yhe yhn ypl yke ywl you ypk yen yea := by
  intro d
  induction d with
  | zero =>
    intro i hi yea hh
    rw [wY_explore_49]
    refine pk_le 81 i (fun _ => ⟨te_TK P [] 0 + te_Ts P [] + 1, ?_⟩) (fun c => absurd c (by omega)) rfl rfl (by omega) (by omega)
    have hT := te_TK_le hW
    refine ty_ex74 hW hp h _ [] [] 0 0 (te_o_nil P) (by omega) (by omega) (Nat.le_refl _) ?_ (fun z => absurd rfl z) 0 0 0 0 yro ydo yva yhe yhn ypl ywl you ypk yen yea yke (fun _ => 0) rfl (fun k x hx => absurd hx (by simp)) ⟨rfl, rfl, rfl, fun i q hq => absurd hq (by simp [te_E]), fun t ht => hen t ht, fun s hs u hu => ⟨fun ⟨q, hq, _⟩ => absurd hq List.not_mem_nil, fun _ => hh _ (by omega)⟩⟩ (fun v hv => hpk v hv) (fun v _ => by decide) ?_
    · have e : te_M P [] 0 = te_Lv P [] := if_pos rfl
      rw [te_Rs_nil, List.append_nil, e, te_all_Lv]; rfl
    · refine te_pk_congr (te_pk_ini P) (fun v hv => ?_)
      show (if 0 < te_ini P v then te_ini P v else 0) = te_ini P v
      by_cases c : 0 < te_ini P v
      · rw [if_pos c]
      · rw [if_neg c]; omega
  | succ d ih =>
    intro i hi yea hh
    rw [wY_explore_49]
    exact pk_le 81 i (fun c => absurd c (by omega)) (fun c => ⟨vp_in_nI c (by decide), nm_e (nm_r (nI_1 i) (ih (i + 1) (by omega) _ (te_ul (Q := fun l x => x = 0) (by omega) hh te_nb0)))⟩) rfl rfl (by omega) (by omega)
theorem ty_ex22 {P : te_P} (hW : te_W P) (hp : te_YP P ysz ywh yam yfi) {post : SY → Prop} (h : ∀ de ru ki so ro dn va he hn pl ke wl ou pk en ea g, te_YA P (te_all P) ru ki so ke wl ou en ea → te_AR 3 pk g → te_pk P (te_all P) g → post (de, ru, ki, so, ysz, ywh, yam, yfi, ro, dn, va, he, hn, pl, ke, wl, ou, pk, en, ea)) : ∀ d i, i + d = 3 → ∀ ypk yen : Nat → Int32, (∀ l, l < i → ypk l = 0) → (∀ l, l < i → yen l = 0) → wY_explore_22 post 0 0 0 0 (d + 1) (nI i) ysz ywh yam yfi yro ydo yva yhe yhn ypl yke ywl you ypk yen yea := by
  intro d
  induction d with
  | zero =>
    intro i hi ypk yen h1 h2
    rw [wY_explore_22]
    exact pk_le 3 i (fun _ => ⟨81 + 1, ty_ex49 hW hp (fun v hv => h1 v (by omega)) (fun v hv => h2 v (by omega)) h 81 0 rfl yea (fun l hl => absurd hl (by omega))⟩) (fun c => absurd c (by omega)) rfl rfl (by omega) (by omega)
  | succ d ih =>
    intro i hi ypk yen h1 h2
    rw [wY_explore_22]
    exact pk_le 3 i (fun c => absurd c (by omega)) (fun c => ⟨vp_in_nI c (by decide), nm_e ⟨vp_in_nI c (by decide), nm_e (nm_r (nI_1 i) (ih (i + 1) (by omega) _ _ (te_ul (Q := fun l x => x = 0) (by omega) h1 rfl) (te_ul (Q := fun l x => x = 0) (by omega) h2 rfl)))⟩⟩) rfl rfl (by omega) (by omega)
theorem ty_explore {P : te_P} (hW : te_W P) (hp : te_YP P ysz ywh yam yfi) {post : SY → Prop} (h : ∀ de ru ki so ro dn va he hn pl ke wl ou pk en ea g, te_YA P (te_all P) ru ki so ke wl ou en ea → te_AR 3 pk g → te_pk P (te_all P) g → post (de, ru, ki, so, ysz, ywh, yam, yfi, ro, dn, va, he, hn, pl, ke, wl, ou, pk, en, ea)) : wpY_explore post (yde, yru, yki, yso, ysz, ywh, yam, yfi, yro, ydo, yva, yhe, yhn, ypl, yke, ywl, you, ypk, yen, yea) := by
  unfold wpY_explore
  dsimp only
  exact ⟨3 + 1, ty_ex22 hW hp h 3 0 rfl ypk yen (fun l hl => absurd hl (by omega)) (fun l hl => absurd hl (by omega))⟩
end
