/-! the second machine: notice, all runs -/
section
variable {yde yru yki yso : Int32} {ysz ywh yam yfi yro ydo yva yhe yhn ypl ywl you ypk yen yea : Nat → Int32} {yke : Nat → Int64}
def te_YA (P : te_P) (D : List (List Nat)) (yru yki yso : Int32) (yke : Nat → Int64) (ywl you yen yea : Nat → Int32) : Prop :=
  yru = nI D.length ∧ yki = nI (te_E P D).length ∧ yso = nI (te_sh P D) ∧ (∀ i q, (te_E P D)[i]? = some q → yke i = lN (te_key P q) ∧ ywl i = (if te_cm P q = true then 1 else 0) ∧ you i = nI (te_rs P q)) ∧ (∀ t, t < 3 → yen t = te_es P D t) ∧ te_EA (fun s u => te_ea P D (te_x s) (te_x u)) yea
theorem ty_65 {x1 x2 : Int32} {E : List (List Nat)} {P : te_P} {k : Nat} (hk : k < 4398046511104) (hE : E.length ≤ 1680) (hki : yki = nI E.length) (hke : ∀ i q, E[i]? = some q → yke i = lN (te_key P q) ∧ te_key P q < 4398046511104) {post : SY → Prop} (h1 : (∀ m, m ∈ E → te_key P m ≠ k) → wY_notice_103 post x1 x2 (lN k) 1 yde yru yki yso ysz ywh yam yfi yro ydo yva yhe yhn ypl yke ywl you ypk yen yea) (h0 : (∃ m, m ∈ E ∧ te_key P m = k) → wY_notice_103 post x1 x2 (lN k) 0 yde yru yki yso ysz ywh yam yfi yro ydo yva yhe yhn ypl yke ywl you ypk yen yea) :
    ∀ d i, i + d = E.length → ∀ fl : Int32, ((fl = 1 ∧ ∀ j m, j < i → E[j]? = some m → te_key P m ≠ k) ∨ (fl = 0 ∧ ∃ m, m ∈ E ∧ te_key P m = k)) → wY_notice_65 post x1 x2 (lN k) yde yru yki yso ysz ywh yam yfi yro ydo yva yhe yhn ypl yke ywl you ypk yen yea (d + 1) fl (nI i) := by
  intro d
  induction d with
  | zero =>
    intro i hi fl hfl
    rw [wY_notice_65]
    dsimp only
    refine pk_le _ _ (fun _ => ?_) (fun c => absurd c (by omega)) hki rfl (by omega) (by omega)
    rcases hfl with ⟨e, hf⟩ | ⟨e, hf⟩
    · rw [e]
      refine h1 (fun m hm => ?_)
      obtain ⟨j, hj⟩ := List.mem_iff_getElem?.mp hm
      have := (List.getElem?_eq_some_iff.mp hj).1
      exact hf j m (by omega) hj
    · rw [e]; exact h0 hf
  | succ d ih =>
    intro i hi fl hfl
    have ci : (nI i).toNatClampNeg = i := nI_clamp (by omega)
    obtain ⟨q, hq⟩ : ∃ q, E[i]? = some q := ⟨_, List.getElem?_eq_getElem (show i < E.length by omega)⟩
    obtain ⟨e1, e2⟩ := hke i q hq
    rw [wY_notice_65]
    dsimp only
    rw [ci, e1]
    refine pk_le _ _ (fun c => absurd c (by omega)) (fun _ => pk_le 1700 i (fun c => absurd c (by omega)) (fun _ => ⟨vp_in_nI (by omega) (by decide), ?_⟩) rfl rfl (by omega) (by omega)) hki rfl (by omega) (by omega)
    by_cases c : te_key P q = k
    · exact br_t (by rw [c]) (nm_r (nI_1 i) (ih (i + 1) (by omega) 0 (Or.inr ⟨rfl, q, List.mem_iff_getElem?.mpr ⟨i, hq⟩, c⟩)))
    · refine br_f (fun z => c ((pk_lEQ (by omega) (by omega)).mp z)) (nm_r (nI_1 i) (ih (i + 1) (by omega) fl ?_))
      rcases hfl with ⟨e, hf⟩ | ⟨e, hf⟩
      · refine Or.inl ⟨e, fun j m hj hm => ?_⟩
        by_cases y : j = i
        · rw [y, hq] at hm
          rw [← Option.some.inj hm]
          exact c
        · exact hf j m (by omega) hm
      · exact Or.inr ⟨e, hf⟩
theorem ty_158c {P : te_P} (hW : te_W P) {D : List (List Nat)} {q : List Nat} (hr : te_o P q) (hq : te_YQ P q ydo yva yhe yhn ypl) (hc : te_cm P q = true) (hso : yso = nI (te_sh P D)) (hen : ∀ t, t < 3 → yen t = te_es P D t) (hea : te_EA (fun s u => te_ea P D (te_x s) (te_x u)) yea) {post : SY → Prop} (h : ∀ so en ea, so = nI (te_sh P (D ++ [q])) → (∀ t, t < 3 → en t = te_es P (D ++ [q]) t) → te_EA (fun s u => te_ea P (D ++ [q]) (te_x s) (te_x u)) ea → post (yde, yru, yki, so, ysz, ywh, yam, yfi, yro, ydo, yva, yhe, yhn, ypl, yke, ywl, you, ypk, en, ea)) : wY_notice_158 post 1 yde yru yki yso ysz ywh yam yfi yro ydo yva yhe yhn ypl yke ywl you ypk yen yea := by
  unfold wY_notice_158
  refine br_f (by decide) ?_
  unfold wY_notice_188
  refine br_f (by decide) (ty_finish hW hr hq (f := te_es P D) hen hea (fun en ea k1 k2 => h yso en ea ?_ ?_ ?_))
  · rw [hso, te_sh_snoc]
    unfold te_sh1
    rw [if_pos hc]
  · intro t ht
    rw [k1 t ht, te_es_snoc]
    unfold te_e1
    rw [if_pos hc]
  · refine te_EA_congr k2 (fun s _ u _ => ?_)
    rw [te_ea_snoc]
    exact ⟨fun z => z.elim Or.inl (fun y => Or.inr ⟨hc, y⟩), fun z => z.elim Or.inl (fun y => Or.inr y.2)⟩
theorem ty_158s {P : te_P} {D : List (List Nat)} {q : List Nat} (hde : yde = nI q.length) (hl : q.length ≤ 9) (hs : te_sh P D ≤ 9) (hc : ¬ te_cm P q = true) (hso : yso = nI (te_sh P D)) (hen : ∀ t, t < 3 → yen t = te_es P D t) (hea : te_EA (fun s u => te_ea P D (te_x s) (te_x u)) yea) {post : SY → Prop} (h : ∀ so en ea, so = nI (te_sh P (D ++ [q])) → (∀ t, t < 3 → en t = te_es P (D ++ [q]) t) → te_EA (fun s u => te_ea P (D ++ [q]) (te_x s) (te_x u)) ea → post (yde, yru, yki, so, ysz, ywh, yam, yfi, yro, ydo, yva, yhe, yhn, ypl, yke, ywl, you, ypk, en, ea)) : wY_notice_158 post 0 yde yru yki yso ysz ywh yam yfi yro ydo yva yhe yhn ypl yke ywl you ypk yen yea := by
  have hen' : ∀ t, t < 3 → yen t = te_es P (D ++ [q]) t := by
    intro t ht
    rw [hen t ht, te_es_snoc]
    unfold te_e1
    rw [if_neg hc]
  have hea' : te_EA (fun s u => te_ea P (D ++ [q]) (te_x s) (te_x u)) yea := by
    refine te_EA_congr hea (fun s _ u _ => ?_)
    rw [te_ea_snoc]
    exact ⟨Or.inl, fun z => z.elim id (fun y => absurd y.1 hc)⟩
  have esh : te_sh P (D ++ [q]) = if te_sh P D = 0 ∨ q.length < te_sh P D then q.length else te_sh P D := by
    rw [te_sh_snoc]
    unfold te_sh1
    rw [if_neg hc]
  unfold wY_notice_158
  refine br_t rfl (pk_eq (te_sh P D) 0 (fun c => ?_) (fun c => pk_le _ _ (fun c2 => ?_) (fun c2 => ?_) hso hde (by omega) (by omega)) hso rfl (by omega) (by omega))
  · unfold wY_notice_180 wY_notice_188
    refine br_t rfl (h yde yen yea ?_ hen' hea')
    rw [esh, if_pos (Or.inl c)]; exact hde
  · unfold wY_notice_188
    refine br_t rfl (h yso yen yea ?_ hen' hea')
    rw [esh, if_neg (fun k => k.elim c (by omega))]; exact hso
  · unfold wY_notice_180 wY_notice_188
    refine br_t rfl (h yde yen yea ?_ hen' hea')
    rw [esh, if_pos (Or.inr c2)]; exact hde
theorem ty_158 {P : te_P} (hW : te_W P) {D : List (List Nat)} {q : List Nat} (hr : te_o P q) (hq : te_YQ P q ydo yva yhe yhn ypl) (hde : yde = nI q.length) (hs : te_sh P D ≤ 9) {z : Int32} (hz : z = if te_cm P q = true then 1 else 0) (hso : yso = nI (te_sh P D)) (hen : ∀ t, t < 3 → yen t = te_es P D t) (hea : te_EA (fun s u => te_ea P D (te_x s) (te_x u)) yea) {post : SY → Prop} (h : ∀ so en ea, so = nI (te_sh P (D ++ [q])) → (∀ t, t < 3 → en t = te_es P (D ++ [q]) t) → te_EA (fun s u => te_ea P (D ++ [q]) (te_x s) (te_x u)) ea → post (yde, yru, yki, so, ysz, ywh, yam, yfi, yro, ydo, yva, yhe, yhn, ypl, yke, ywl, you, ypk, en, ea)) : wY_notice_158 post z yde yru yki yso ysz ywh yam yfi yro ydo yva yhe yhn ypl yke ywl you ypk yen yea := by
  have hl9 := te_o_len hW hr
  by_cases hc : te_cm P q = true
  · rw [hz, if_pos hc]
    exact ty_158c hW hr hq hc hso hen hea h
  · rw [hz, if_neg hc]
    exact ty_158s hde (by omega) hs hc hso hen hea h
theorem ty_notice {P : te_P} (hW : te_W P) {D R : List (List Nat)} {q : List Nat} (hall : te_all P = D ++ q :: R) (hp : te_YP P ysz ywh yam yfi) (hq : te_YQ P q ydo yva yhe yhn ypl) (hde : yde = nI q.length) (hA : te_YA P D yru yki yso yke ywl you yen yea) {post : SY → Prop} (h : ∀ ru ki so ke wl ou en ea, te_YA P (D ++ [q]) ru ki so ke wl ou en ea → post (yde, ru, ki, so, ysz, ywh, yam, yfi, yro, ydo, yva, yhe, yhn, ypl, ke, wl, ou, ypk, en, ea)) : wpY_notice post (yde, yru, yki, yso, ysz, ywh, yam, yfi, yro, ydo, yva, yhe, yhn, ypl, yke, ywl, you, ypk, yen, yea) := by
  have hlen := te_all_len hW
  have hDl : D.length < 1680 := by
    rw [hall, List.length_append, List.length_cons] at hlen
    omega
  have hEl := te_E_len_le P D
  have hr : te_o P q := ((te_all_mem hW q).mp (by rw [hall]; exact List.mem_append_right _ List.mem_cons_self)).1
  have hDo : ∀ m, m ∈ D → te_o P m := fun m hm => ((te_all_mem hW m).mp (by rw [hall]; exact List.mem_append_left _ hm)).1
  have hl9 := te_o_len hW hr
  have hs9 : te_sh P D ≤ 9 := te_sh_le P D 0 (by omega) (fun m hm => by have := te_o_len hW (hDo m hm); omega)
  have htot : te_tot P ≤ 9 := te_rm0 hW
  obtain ⟨A1, A2, A3, A4, A5, A6⟩ := hA
  have etot : ysz 0 + ysz 1 + ysz 2 = nI (te_tot P) := by
    rw [hp.1 0 (by omega), hp.1 1 (by omega), hp.1 2 (by omega), nI_add, nI_add]
    rfl
  have ers : 64 * yva 0 + 8 * yva 1 + yva 2 = nI (te_rs P q) := by
    rw [hq.2.1 0 (by omega), hq.2.1 1 (by omega), hq.2.1 2 (by omega)]
    show nI 64 * _ + nI 8 * _ + _ = _
    rw [pk_mul, pk_mul, nI_add, nI_add]
    rfl
  have e1 : yru + 1 = nI (D ++ [q]).length := by
    rw [A1, nI_1, List.length_append]; rfl
  have hfr := te_fresh hW hall
  have hkey := te_key_lt hW hr
  have h26 : ∀ z : Int32, z = (if te_cm P q = true then 1 else 0) → wY_notice_26 post z yde (nI (D ++ [q]).length) yki yso ysz ywh yam yfi yro ydo yva yhe yhn ypl yke ywl you ypk yen yea := by
    intro z hz
    unfold wY_notice_26
    refine nm_r ers (ty_key hW hr hp hq ⟨(te_E P D).length + 1, ?_⟩)
    refine ty_65 (P := P) (E := te_E P D) hkey (by omega) A2 (fun i m hm => ⟨(A4 i m hm).1, te_key_lt hW (hDo m (List.mem_filter.mp (List.mem_iff_getElem?.mpr ⟨i, hm⟩)).1)⟩) (fun k => ?_) (fun k => ?_) (te_E P D).length 0 (by omega) 1 (Or.inl ⟨rfl, fun j m hj _ => absurd hj (by omega)⟩)
    · have hf : te_fs P q = true := hfr.mpr k
      have ck : (nI (te_E P D).length).toNatClampNeg = (te_E P D).length := nI_clamp (by omega)
      have hik : vp_in (nI (te_E P D).length) 1700 := vp_in_nI (by omega) (by decide)
      have hsn : te_E P (D ++ [q]) = te_E P D ++ [q] := by rw [te_E_snoc, if_pos hf]
      have hnar : vp_nar .boolean z = z := by
        rw [hz]
        by_cases c : te_cm P q = true
        · rw [if_pos c]; rfl
        · rw [if_neg c]; rfl
      unfold wY_notice_103
      rw [A2, ck, hnar]
      refine br_f (by decide) (pk_le 1700 _ (fun c => absurd c (by omega)) (fun _ => ⟨hik, nm_e ⟨hik, nm_e ⟨hik, nm_e (nm_r (nI_1 _) ?_)⟩⟩⟩) rfl rfl (by omega) (by omega))
      refine ty_158 hW hr hq hde hs9 hz A3 A5 A6 (fun so en ea k1 k2 k3 => h _ _ so _ _ _ en ea ⟨rfl, ?_, k1, ?_, k2, k3⟩)
      · rw [hsn, List.length_append]; rfl
      · intro i m hm
        rw [hsn] at hm
        by_cases y : i < (te_E P D).length
        · rw [List.getElem?_append_left y] at hm
          rw [pk_uLn (by omega), pk_un (by omega), pk_un (by omega)]
          exact A4 i m hm
        · rw [List.getElem?_append_right (by omega)] at hm
          by_cases w : i = (te_E P D).length
          · rw [w, Nat.sub_self, List.getElem?_cons_zero] at hm
            rw [w, ← Option.some.inj hm, pk_uLs, pk_us, pk_us]
            exact ⟨rfl, hz, rfl⟩
          · rw [List.getElem?_eq_none (by show 1 ≤ _; omega)] at hm
            exact absurd hm (by simp)
    · have hf : ¬ te_fs P q = true := by
        intro z
        obtain ⟨m, hm, e⟩ := k
        exact hfr.mp z m hm e
      have hsn : te_E P (D ++ [q]) = te_E P D := by rw [te_E_snoc, if_neg hf]
      unfold wY_notice_103
      refine br_t rfl ?_
      refine ty_158 hW hr hq hde hs9 hz A3 A5 A6 (fun so en ea k1 k2 k3 => h _ _ so _ _ _ en ea ⟨rfl, ?_, k1, ?_, k2, k3⟩)
      · rw [hsn]; exact A2
      · rw [hsn]; exact A4
  unfold wpY_notice
  dsimp only
  refine nm_r e1 ?_
  unfold wpY_total
  dsimp only
  rw [etot]
  refine pk_eq _ _ (fun c => h26 1 ?_) (fun c => h26 0 ?_) hde rfl (by omega) (by omega)
  · have hc : te_cm P q = true := decide_eq_true_eq.mpr c
    rw [if_pos hc]
  · have hc : ¬ te_cm P q = true := fun z => c (decide_eq_true_eq.mp z)
    rw [if_neg hc]
/-- what is left to the second machine at a row -/
def te_M (P : te_P) (p : List Nat) (f : Nat) : List (List Nat) := if f = 0 then te_Lv P p else te_Kd P p f
def te_mx (P : te_P) (p : List Nat) (g : Nat → Nat) : Nat → Nat := fun v => if g v < te_vl (te_q P p) v then te_vl (te_q P p) v else g v
theorem te_pk_dup {P : te_P} {D : List (List Nat)} {p : List Nat} {g : Nat → Nat} (h : te_pk P (D ++ [p]) g) : te_pk P (D ++ [p] ++ [p]) g := by
  intro v hv
  obtain ⟨h1, h2⟩ := h v hv
  refine ⟨h1, fun q hq => h2 q ?_⟩
  rw [List.mem_append] at hq
  rcases hq with hq | hq
  · exact hq
  · exact List.mem_append_right _ hq
theorem te_pk_mx {P : te_P} {D : List (List Nat)} {p : List Nat} {g : Nat → Nat} (h : te_pk P (D ++ [p]) g) : te_pk P (D ++ [p]) (te_mx P p g) := by
  refine te_pk_congr h (fun v hv => ?_)
  have := (h v hv).2 p (List.mem_append_right _ (List.mem_singleton.mpr rfl)) p [] (List.append_nil p).symm
  unfold te_mx
  rw [if_neg (by omega)]
theorem te_TK_pos (P : te_P) (p : List Nat) (f : Nat) : 1 ≤ te_TK P p f := by unfold te_TK; omega
end
