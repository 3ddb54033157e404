/-! the second machine: key, finish, notice -/
section
variable {yde yru yki yso : Int32} {ysz ywh yam yfi yro ydo yva yhe yhn ypl ywl you ypk yen yea : Nat → Int32} {yke : Nat → Int64}
theorem te_plc {P : te_P} (hW : te_W P) {r : List Nat} (hr : te_o P r) (hq : te_YQ P r ydo yva yhe yhn ypl) {s u : Nat} (hs : s < 9) (hu : u < 9) :
    (ypl s < 0 ∧ ¬ te_bf (te_L P r) (te_x s) (te_x u)) ∨ (¬ ypl s < 0 ∧ ypl u < 0 ∧ ¬ te_bf (te_L P r) (te_x s) (te_x u)) ∨ (¬ ypl s < 0 ∧ ¬ ypl u < 0 ∧ ypl u ≤ ypl s ∧ ¬ te_bf (te_L P r) (te_x s) (te_x u)) ∨ (¬ ypl s < 0 ∧ ¬ ypl u < 0 ∧ ¬ ypl u ≤ ypl s ∧ te_bf (te_L P r) (te_x s) (te_x u)) := by
  have hl9 := te_o_len hW hr
  have hlen := te_L_len P r
  have q5 := hq.2.2.2.2
  have num : ∀ s, s < 9 → 3 * (te_x s).1 + (te_x s).2 = s := by intro s hs; show 3 * (s / 3) + s % 3 = s; omega
  have hx := q5 (te_x s) (by show s / 3 < 3; omega) (by show s % 3 < 3; omega)
  have hy := q5 (te_x u) (by show u / 3 < 3; omega) (by show u % 3 < 3; omega)
  rw [num s hs] at hx
  rw [num u hu] at hy
  by_cases m1 : te_x s ∈ te_L P r
  · obtain ⟨j, hj⟩ := List.mem_iff_getElem?.mp m1
    have hjl := (List.getElem?_eq_some_iff.mp hj).1
    have e1 := hx.1 j hj
    have n1 : ¬ ypl s < 0 := by rw [e1]; exact nI_pos (by omega)
    by_cases m2 : te_x u ∈ te_L P r
    · obtain ⟨i, hi⟩ := List.mem_iff_getElem?.mp m2
      have hil := (List.getElem?_eq_some_iff.mp hi).1
      have e2 := hy.1 i hi
      have n2 : ¬ ypl u < 0 := by rw [e2]; exact nI_pos (by omega)
      by_cases c : j < i
      · refine Or.inr (Or.inr (Or.inr ⟨n1, n2, ?_, (te_bf_ix _ _ _).mpr ⟨j, i, c, hj, hi⟩⟩))
        rw [e1, e2, nI_leI (by omega) (by omega)]
        omega
      · refine Or.inr (Or.inr (Or.inl ⟨n1, n2, ?_, ?_⟩))
        · rw [e1, e2, nI_leI (by omega) (by omega)]
          omega
        · intro z
          obtain ⟨j', i', c', hj', hi'⟩ := (te_bf_ix _ _ _).mp z
          have hjl' := (List.getElem?_eq_some_iff.mp hj').1
          have hil' := (List.getElem?_eq_some_iff.mp hi').1
          have f1 := hx.1 j' hj'
          have f2 := hy.1 i' hi'
          rw [e1, nI_eq (by omega) (by omega)] at f1
          rw [e2, nI_eq (by omega) (by omega)] at f2
          omega
    · exact Or.inr (Or.inl ⟨n1, by rw [hy.2 m2]; decide, fun z => m2 (te_bf_mem z).2⟩)
  · exact Or.inl ⟨by rw [hx.2 m1]; decide, fun z => m1 (te_bf_mem z).1⟩
theorem te_shl1 (k : Nat) : lN k <<< ((1 : Int32).toInt64 &&& 63) = lN (k * 2) := wb_shl k (k := 1) (by decide)
theorem te_or1 {k : Nat} (h : k < 4398046511104) : lN (k * 2) ||| 1 = lN (k * 2 + 1) := by
  have e : k * 2 ||| 1 = k * 2 + 1 := by
    have := Nat.shiftLeft_add_eq_or_of_lt (a := k) (b := 1) (i := 1) (by decide)
    rw [Nat.shiftLeft_eq] at this
    exact this.symm
  have := wb_or (a := k * 2) (b := 1) (by omega) (by decide)
  rw [e] at this
  exact this
theorem ty_72z {post : Int64 → Prop} {J J' : Int64 → Int32 → Prop} {x : Int64} {x3 : Int32} {u : Nat} (h : J' x (nI (u + 1))) : wY_key_72 post J J' x x3 (nI u) 0 yde yru yki yso ysz ywh yam yfi yro ydo yva yhe yhn ypl yke ywl you ypk yen yea := by
  unfold wY_key_72
  exact br_t rfl (nm_r (nI_1 u) h)
theorem ty_key38 {P : te_P} (hW : te_W P) {r : List Nat} (hr : te_o P r) (hp : te_YP P ysz ywh yam yfi) (hq : te_YQ P r ydo yva yhe yhn ypl) {post : Int64 → Prop} {J : Int64 → Int32 → Prop} {s k : Nat} (hs : s < 9) (hb : ∀ u, u ≤ s → te_kin P (te_L P r) s u k < 4398046511104) (h : J (lN (te_kin P (te_L P r) s s k)) (nI (s + 1))) :
    ∀ d u, u + d = s → wY_key_38 post J (nI s) yde yru yki yso ysz ywh yam yfi yro ydo yva yhe yhn ypl yke ywl you ypk yen yea (d + 1) (lN (te_kin P (te_L P r) s u k)) (nI u) := by
  intro d
  induction d with
  | zero =>
    intro u hu
    have e : u = s := by omega
    subst e
    rw [wY_key_38]
    exact pk_le u u (fun _ => nm_r (nI_1 u) h) (fun c => absurd c (by omega)) rfl rfl (by omega) (by omega)
  | succ d ih =>
    intro u hu
    have cs : (nI s).toNatClampNeg = s := nI_clamp (by omega)
    have cu : (nI u).toNatClampNeg = u := nI_clamp (by omega)
    have his : vp_in (nI s) 9 := vp_in_nI hs (by decide)
    have hiu : vp_in (nI u) 9 := vp_in_nI (by omega) (by decide)
    have hk := hb u (by omega)
    have hnext := ih (u + 1) (by omega)
    have hbit : te_kin P (te_L P r) s (u + 1) k = te_kin P (te_L P r) s u k * 2 + te_bit P (te_L P r) s u := rfl
    have b0 : ¬ (te_bf (te_L P r) (te_x s) (te_x u) ∧ te_ti P (te_x s) (te_x u) = true) → wY_key_38 post J (nI s) yde yru yki yso ysz ywh yam yfi yro ydo yva yhe yhn ypl yke ywl you ypk yen yea (d + 1) (lN (te_kin P (te_L P r) s u k * 2)) (nI (u + 1)) := by
      intro z
      have : te_bit P (te_L P r) s u = 0 := te_b01_f z
      rw [hbit, this] at hnext
      exact hnext
    have b1 : (te_bf (te_L P r) (te_x s) (te_x u) ∧ te_ti P (te_x s) (te_x u) = true) → wY_key_38 post J (nI s) yde yru yki yso ysz ywh yam yfi yro ydo yva yhe yhn ypl yke ywl you ypk yen yea (d + 1) (lN (te_kin P (te_L P r) s u k * 2 + 1)) (nI (u + 1)) := by
      intro z
      have : te_bit P (te_L P r) s u = 1 := te_b01_t z
      rw [hbit, this] at hnext
      exact hnext
    rw [wY_key_38]
    dsimp only
    refine pk_le s u (fun c => absurd c (by omega)) (fun _ => nm_r (te_shl1 _) ⟨his, ?_⟩) rfl rfl (by omega) (by omega)
    rw [cs, cu]
    rcases te_plc hW hr hq hs (show u < 9 by omega) with ⟨c1, c2⟩ | ⟨c1, c2, c3⟩ | ⟨c1, c2, c3, c4⟩ | ⟨c1, c2, c3, c4⟩
    · refine br_t c1 ?_
      unfold wY_key_71
      exact ty_72z (b0 (fun z => c2 z.1))
    · refine br_f c1 ⟨hiu, br_t c2 ?_⟩
      unfold wY_key_71
      exact ty_72z (b0 (fun z => c3 z.1))
    · refine br_f c1 ⟨hiu, br_f c2 ?_⟩
      unfold wY_key_72
      rw [cs, cu]
      exact br_f (by decide) ⟨his, hiu, br_t c3 (nm_r (nI_1 u) (b0 (fun z => c4 z.1)))⟩
    · refine br_f c1 ⟨hiu, br_f c2 ?_⟩
      unfold wY_key_72
      rw [cs, cu]
      refine br_f (by decide) ⟨his, hiu, br_f c3 ?_⟩
      have num : ∀ s, s < 9 → 3 * (te_x s).1 + (te_x s).2 = s := by intro s hs; show 3 * (s / 3) + s % 3 = s; omega
      have ht := ty_areTied (yde := yde) (yru := yru) (yki := yki) (yso := yso) (yro := yro) (ydo := ydo) (yva := yva) (yhe := yhe) (yhn := yhn) (ypl := ypl) (yke := yke) (ywl := ywl) (you := you) (ypk := ypk) (yen := yen) (yea := yea) (x := te_x s) (y := te_x u) hW hp (by show s / 3 < 3; omega) (by show s % 3 < 3; omega) (by show u / 3 < 3; omega) (by show u % 3 < 3; omega) (post := fun r_14 => (r_14 = 0 → ∀ x4_36, x4_36 = nI u + 1 → wY_key_38 post J (nI s) yde yru yki yso ysz ywh yam yfi yro ydo yva yhe yhn ypl yke ywl you ypk yen yea (d + 1) (lN (te_kin P (te_L P r) s u k * 2)) x4_36) ∧ (¬ r_14 = 0 → ∀ x1_37, x1_37 = lN (te_kin P (te_L P r) s u k * 2) ||| 1 → ∀ x4_38, x4_38 = nI u + 1 → wY_key_38 post J (nI s) yde yru yki yso ysz ywh yam yfi yro ydo yva yhe yhn ypl yke ywl you ypk yen yea (d + 1) x1_37 x4_38)) ?_
      · rw [num s hs, num u (by omega)] at ht
        exact ht
      · cases hti : te_ti P (te_x s) (te_x u) with
        | true =>
          rw [if_pos rfl]
          exact br_f (by decide) (nm_r (te_or1 hk) (nm_r (nI_1 u) (b1 ⟨c4, hti⟩)))
        | false =>
          rw [if_neg (by decide)]
          exact br_t rfl (nm_r (nI_1 u) (b0 (fun z => by rw [hti] at z; exact absurd z.2 (by decide))))
theorem ty_key29 {P : te_P} (hW : te_W P) {r : List Nat} (hr : te_o P r) (hp : te_YP P ysz ywh yam yfi) (hq : te_YQ P r ydo yva yhe yhn ypl) {post : Int64 → Prop} {k : Nat} (hk : k < 64) (h : post (lN (te_kout P (te_L P r) 9 k))) : ∀ d s, s + d = 9 → wY_key_29 post yde yru yki yso ysz ywh yam yfi yro ydo yva yhe yhn ypl yke ywl you ypk yen yea (d + 1) (lN (te_kout P (te_L P r) s k)) (nI s) := by
  intro d
  induction d with
  | zero =>
    intro s hs
    have e : s = 9 := by omega
    subst e
    rw [wY_key_29]
    exact pk_le 9 9 (fun _ => h) (fun c => absurd c (by omega)) rfl rfl (by omega) (by omega)
  | succ d ih =>
    intro s hs
    rw [wY_key_29]
    refine pk_le 9 s (fun c => absurd c (by omega)) (fun c => ⟨s + 1, ?_⟩) rfl rfl (by omega) (by omega)
    exact ty_key38 hW hr hp hq (k := te_kout P (te_L P r) s k) c (fun u hu => te_k_lt hk c hu) (ih (s + 1) (by omega)) s 0 (by omega)
theorem ty_key {P : te_P} (hW : te_W P) {r : List Nat} (hr : te_o P r) (hp : te_YP P ysz ywh yam yfi) (hq : te_YQ P r ydo yva yhe yhn ypl) {post : Int64 → Prop} (h : post (lN (te_key P r))) : wpY_key post (yde, yru, yki, yso, ysz, ywh, yam, yfi, yro, ydo, yva, yhe, yhn, ypl, yke, ywl, you, ypk, yen, yea) := by
  have hk := te_k0_lt hW hr
  have e : (ydo 0 + 4 * ydo 1 + 16 * ydo 2).toInt64 = lN (te_k0 P r) := by
    rw [hq.1 0 (by omega), hq.1 1 (by omega), hq.1 2 (by omega)]
    show (_ + nI 4 * _ + nI 16 * _).toInt64 = _
    rw [pk_mul, pk_mul, nI_add, nI_add]
    exact nI_l (n := te_k0 P r) (by omega)
  unfold wpY_key
  dsimp only
  exact nm_r e ⟨9 + 1, ty_key29 hW hr hp hq hk h 9 0 rfl⟩
/-- the table of pairs -/
def te_EA (Q : Nat → Nat → Prop) (ea : Nat → Int32) : Prop := ∀ s, s < 9 → ∀ u, u < 9 → (Q s u → ea (9 * s + u) = 1) ∧ (¬ Q s u → ea (9 * s + u) = 0)
theorem te_EA_congr {Q Q' : Nat → Nat → Prop} {ea : Nat → Int32} (h : te_EA Q ea) (e : ∀ s, s < 9 → ∀ u, u < 9 → (Q s u ↔ Q' s u)) : te_EA Q' ea := by
  intro s hs u hu
  obtain ⟨h1, h2⟩ := h s hs u hu
  exact ⟨fun z => h1 ((e s hs u hu).mpr z), fun z => h2 (fun y => z ((e s hs u hu).mp y))⟩
theorem te_EA_set {Q : Nat → Nat → Prop} {ea : Nat → Int32} (h : te_EA Q ea) {s u : Nat} (hs : s < 9) (hu : u < 9) : te_EA (fun s' u' => Q s' u' ∨ (s' = s ∧ u' = u)) (upd ea (9 * s + u) 1) := by
  intro s' hs' u' hu'
  obtain ⟨h1, h2⟩ := h s' hs' u' hu'
  by_cases c : s' = s ∧ u' = u
  · rw [c.1, c.2]
    exact ⟨fun _ => pk_us, fun z => absurd (Or.inr ⟨rfl, rfl⟩) z⟩
  · have hne : 9 * s' + u' ≠ 9 * s + u := by
      intro e
      exact c ⟨by omega, by omega⟩
    rw [pk_un hne]
    exact ⟨fun z => z.elim h1 (fun y => absurd y c), fun z => h2 (fun y => z (Or.inl y))⟩
theorem te_nb0 : vp_nar .boolean 0 = 0 := rfl
theorem te_nb1 : vp_nar .boolean 1 = 1 := rfl
theorem te_num9 (s u : Nat) : 9 * nI s + nI u = nI (9 * s + u) := by
  show nI 9 * nI s + nI u = _
  rw [pk_mul, nI_add]
theorem ty_fin40 {P : te_P} (hW : te_W P) {r : List Nat} (hr : te_o P r) (hq : te_YQ P r ydo yva yhe yhn ypl) {E : Nat → Nat → Prop} {post : SY → Prop} {J : Int32 → (Nat → Int32) → (Nat → Int32) → (Nat → Int32) → (Nat → Int32) → (Nat → Int32) → (Nat → Int32) → (Nat → Int32) → (Nat → Int32) → (Nat → Int32) → (Nat → Int32) → (Nat → Int64) → (Nat → Int32) → (Nat → Int32) → (Nat → Int32) → (Nat → Int32) → (Nat → Int32) → Prop} {s : Nat} (hs : s < 9)
    (h : ∀ ea, te_EA (fun s' u' => E s' u' ∨ (s' < s + 1 ∧ te_bf (te_L P r) (te_x s') (te_x u'))) ea → J (nI (s + 1)) ysz ywh yam yfi yro ydo yva yhe yhn ypl yke ywl you ypk yen ea) :
    ∀ d u, u + d = 9 → ∀ yea : Nat → Int32, te_EA (fun s' u' => E s' u' ∨ ((s' < s ∨ (s' = s ∧ u' < u)) ∧ te_bf (te_L P r) (te_x s') (te_x u'))) yea → wY_finish_40 post J (nI s) yde yru yki yso (d + 1) (nI u) ysz ywh yam yfi yro ydo yva yhe yhn ypl yke ywl you ypk yen yea := by
  intro d
  induction d with
  | zero =>
    intro u hu yea hE
    rw [wY_finish_40]
    refine pk_le 9 u (fun _ => nm_r (nI_1 s) (h yea (te_EA_congr hE (fun s' hs' u' hu' => ?_)))) (fun c => absurd c (by omega)) rfl rfl (by omega) (by omega)
    constructor
    · intro z
      rcases z with z | ⟨z1, z2⟩
      · exact Or.inl z
      · exact Or.inr ⟨by omega, z2⟩
    · intro z
      rcases z with z | ⟨z1, z2⟩
      · exact Or.inl z
      · exact Or.inr ⟨by omega, z2⟩
  | succ d ih =>
    intro u hu yea hE
    have cs : (nI s).toNatClampNeg = s := nI_clamp (by omega)
    have cu : (nI u).toNatClampNeg = u := nI_clamp (by omega)
    have csu : (nI (9 * s + u)).toNatClampNeg = 9 * s + u := nI_clamp (by omega)
    have his : vp_in (nI s) 9 := vp_in_nI hs (by decide)
    have hiu : vp_in (nI u) 9 := vp_in_nI (by omega) (by decide)
    have no : ¬ te_bf (te_L P r) (te_x s) (te_x u) → wY_finish_40 post J (nI s) yde yru yki yso (d + 1) (nI (u + 1)) ysz ywh yam yfi yro ydo yva yhe yhn ypl yke ywl you ypk yen yea := by
      intro z
      refine ih (u + 1) (by omega) yea (te_EA_congr hE (fun s' hs' u' hu' => ?_))
      constructor
      · intro y
        rcases y with y | ⟨y1, y2⟩
        · exact Or.inl y
        · exact Or.inr ⟨by omega, y2⟩
      · intro y
        rcases y with y | ⟨y1, y2⟩
        · exact Or.inl y
        · refine Or.inr ⟨?_, y2⟩
          by_cases e : s' = s ∧ u' = u
          · rw [e.1, e.2] at y2; exact absurd y2 z
          · omega
    rw [wY_finish_40]
    dsimp only
    rw [cs, cu, te_num9, csu, te_nb1]
    refine pk_le 9 u (fun c => absurd c (by omega)) (fun _ => ⟨his, ?_⟩) rfl rfl (by omega) (by omega)
    rcases te_plc hW hr hq hs (show u < 9 by omega) with ⟨c1, c2⟩ | ⟨c1, c2, c3⟩ | ⟨c1, c2, c3, c4⟩ | ⟨c1, c2, c3, c4⟩
    · exact br_t c1 (nm_r (nI_1 u) (no c2))
    · exact br_f c1 ⟨hiu, br_t c2 (nm_r (nI_1 u) (no c3))⟩
    · exact br_f c1 ⟨hiu, br_f c2 ⟨his, hiu, br_t c3 (nm_r (nI_1 u) (no c4))⟩⟩
    · refine br_f c1 ⟨hiu, br_f c2 ⟨his, hiu, br_f c3 ⟨vp_in_nI (by omega) (by decide), nm_e (nm_r (nI_1 u) (ih (u + 1) (by omega) _ (te_EA_congr (te_EA_set hE hs (show u < 9 by omega)) (fun s' hs' u' hu' => ?_))))⟩⟩⟩
      constructor
      · intro y
        rcases y with (y | ⟨y1, y2⟩) | y
        · exact Or.inl y
        · exact Or.inr ⟨by omega, y2⟩
        · rw [y.1, y.2]; exact Or.inr ⟨by omega, c4⟩
      · intro y
        rcases y with y | ⟨y1, y2⟩
        · exact Or.inl (Or.inl y)
        · by_cases e : s' = s ∧ u' = u
          · exact Or.inr e
          · exact Or.inl (Or.inr ⟨by omega, y2⟩)
theorem ty_fin32 {P : te_P} (hW : te_W P) {r : List Nat} (hr : te_o P r) (hq : te_YQ P r ydo yva yhe yhn ypl) {E : Nat → Nat → Prop} {post : SY → Prop} (h : ∀ ea, te_EA (fun s u => E s u ∨ te_bf (te_L P r) (te_x s) (te_x u)) ea → post (yde, yru, yki, yso, ysz, ywh, yam, yfi, yro, ydo, yva, yhe, yhn, ypl, yke, ywl, you, ypk, yen, ea)) :
    ∀ d s, s + d = 9 → ∀ yea : Nat → Int32, te_EA (fun s' u' => E s' u' ∨ (s' < s ∧ te_bf (te_L P r) (te_x s') (te_x u'))) yea → wY_finish_32 post yde yru yki yso (d + 1) (nI s) ysz ywh yam yfi yro ydo yva yhe yhn ypl yke ywl you ypk yen yea := by
  intro d
  induction d with
  | zero =>
    intro s hs yea hE
    rw [wY_finish_32]
    refine pk_le 9 s (fun _ => h yea (te_EA_congr hE (fun s' hs' u' hu' => ?_))) (fun c => absurd c (by omega)) rfl rfl (by omega) (by omega)
    exact ⟨fun z => z.elim Or.inl (fun y => Or.inr y.2), fun z => z.elim Or.inl (fun y => Or.inr ⟨by omega, y⟩)⟩
  | succ d ih =>
    intro s hs yea hE
    rw [wY_finish_32]
    refine pk_le 9 s (fun c => absurd c (by omega)) (fun c => ⟨9 + 1, ty_fin40 hW hr hq (E := E) c (fun ea hE' => ih (s + 1) (by omega) ea hE') 9 0 rfl yea (te_EA_congr hE (fun s' hs' u' hu' => ?_))⟩) rfl rfl (by omega) (by omega)
    exact ⟨fun z => z.elim Or.inl (fun y => Or.inr ⟨Or.inl y.1, y.2⟩), fun z => z.elim Or.inl (fun y => Or.inr ⟨by omega, y.2⟩)⟩
theorem ty_fin2 {P : te_P} (hW : te_W P) {r : List Nat} (hr : te_o P r) (hq : te_YQ P r ydo yva yhe yhn ypl) {f : Nat → Int32} {E : Nat → Nat → Prop} (hE : te_EA E yea) {post : SY → Prop} (h : ∀ en ea, (∀ t, t < 3 → en t = f t ||| ((1 : Int32) <<< (nI (te_hn (te_q P r) t) &&& 31))) → te_EA (fun s u => E s u ∨ te_bf (te_L P r) (te_x s) (te_x u)) ea → post (yde, yru, yki, yso, ysz, ywh, yam, yfi, yro, ydo, yva, yhe, yhn, ypl, yke, ywl, you, ypk, en, ea)) :
    ∀ d i, i + d = 3 → ∀ yen : Nat → Int32, (∀ t, t < i → yen t = f t ||| ((1 : Int32) <<< (nI (te_hn (te_q P r) t) &&& 31))) → (∀ t, i ≤ t → t < 3 → yen t = f t) → wY_finish_2 post yde yru yki yso (d + 1) (nI i) ysz ywh yam yfi yro ydo yva yhe yhn ypl yke ywl you ypk yen yea := by
  intro d
  induction d with
  | zero =>
    intro i hi yen h1 h2
    rw [wY_finish_2]
    refine pk_le 3 i (fun _ => ⟨9 + 1, ty_fin32 hW hr hq (E := E) (fun ea k => h yen ea (fun t ht => h1 t (by omega)) k) 9 0 rfl yea (te_EA_congr hE (fun s' hs' u' hu' => ?_))⟩) (fun c => absurd c (by omega)) rfl rfl (by omega) (by omega)
    exact ⟨Or.inl, fun z => z.elim id (fun y => absurd y.1 (by omega))⟩
  | succ d ih =>
    intro i hi yen h1 h2
    have ci : (nI i).toNatClampNeg = i := nI_clamp (by omega)
    have hii : vp_in (nI i) 3 := vp_in_nI (by omega) (by decide)
    rw [wY_finish_2]
    refine pk_le 3 i (fun c => absurd c (by omega)) (fun c => ⟨hii, hii, hii, nm_e (nm_r (nI_1 i) (ih (i + 1) (by omega) _ (te_ul (Q := fun t x => x = f t ||| ((1 : Int32) <<< (nI (te_hn (te_q P r) t) &&& 31))) (by omega) h1 ?_) (fun t x1 x2 => ?_)))⟩) rfl rfl (by omega) (by omega)
    · rw [ci, h2 i (Nat.le_refl _) (by omega), hq.2.2.2.1 i (by omega)]
    · rw [ci, pk_un (by omega)]
      exact h2 t (by omega) x2
theorem ty_finish {P : te_P} (hW : te_W P) {r : List Nat} (hr : te_o P r) (hq : te_YQ P r ydo yva yhe yhn ypl) {f : Nat → Int32} (hen : ∀ t, t < 3 → yen t = f t) {E : Nat → Nat → Prop} (hE : te_EA E yea) {post : SY → Prop} (h : ∀ en ea, (∀ t, t < 3 → en t = f t ||| ((1 : Int32) <<< (nI (te_hn (te_q P r) t) &&& 31))) → te_EA (fun s u => E s u ∨ te_bf (te_L P r) (te_x s) (te_x u)) ea → post (yde, yru, yki, yso, ysz, ywh, yam, yfi, yro, ydo, yva, yhe, yhn, ypl, yke, ywl, you, ypk, en, ea)) : wpY_finish post (yde, yru, yki, yso, ysz, ywh, yam, yfi, yro, ydo, yva, yhe, yhn, ypl, yke, ywl, you, ypk, yen, yea) := by
  unfold wpY_finish
  dsimp only
  exact ⟨3 + 1, ty_fin2 hW hr hq hE h 3 0 rfl yen (fun t ht => absurd ht (by omega)) (fun t _ ht => hen t ht)⟩
end
