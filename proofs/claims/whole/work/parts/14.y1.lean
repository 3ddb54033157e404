/-! the second machine: can, act, replay -/
section
variable {yde yru yki yso : Int32} {ysz ywh yam yfi yro ydo yva yhe yhn ypl ywl you ypk yen yea : Nat → Int32} {yke : Nat → Int64}
def te_YP (P : te_P) (ysz ywh yam yfi : Nat → Int32) : Prop :=
  (∀ t, t < 3 → ysz t = nI (te_sz P t)) ∧ (∀ t, t < 3 → ∀ i, i < 3 → ywh (3 * t + i) = nI (8 * te_op P t i + te_pl P t i) ∧ yam (3 * t + i) = nI (te_am P t i)) ∧ ∀ v, v < 3 → yfi v = nI (te_ini P v)
def te_YQ (P : te_P) (r : List Nat) (ydo yva yhe yhn ypl : Nat → Int32) : Prop :=
  (∀ t, t < 3 → ydo t = nI (te_dn (te_q P r) t)) ∧ (∀ v, v < 3 → yva v = nI (te_vl (te_q P r) v)) ∧ (∀ l, l < 2 → yhe l = te_hI (te_hd (te_q P r) l)) ∧ (∀ t, t < 3 → yhn t = nI (te_hn (te_q P r) t)) ∧ ∀ x : Nat × Nat, x.1 < 3 → x.2 < 3 → (∀ k, (te_L P r)[k]? = some x → ypl (3 * x.1 + x.2) = nI k) ∧ (x ∉ te_L P r → ypl (3 * x.1 + x.2) = -1)
theorem te_num3 (t d : Nat) : 3 * nI t + nI d = nI (3 * t + d) := by
  show nI 3 * nI t + nI d = _
  rw [pk_mul, nI_add]
theorem te_w8 {o p : Nat} (ho : o ≤ 5) (hp : p < 3) : nI (8 * o + p) / 8 = nI o := by
  have := pk_div (a := 8 * o + p) (d := 8) (by omega) (by decide) (by decide)
  rw [show (8 * o + p) / 8 = o by omega] at this
  exact this
theorem te_wm {o p : Nat} (ho : o ≤ 5) (hp : p < 3) : nI (8 * o + p) - nI (8 * o + p) / 8 * 8 = nI p := by
  have := pk_rem (a := 8 * o + p) (d := 8) (by omega) (by decide) (by decide)
  rw [show (8 * o + p) % 8 = p by omega] at this
  exact this
theorem ty_can {P : te_P} (hW : te_W P) {r : List Nat} (hr : te_o P r) (hp : te_YP P ysz ywh yam yfi) (hq : te_YQ P r ydo yva yhe yhn ypl) {t : Nat} (ht : t < 3) {post : Int32 → Prop} (h : post (if te_can P (te_q P r) t = true then 1 else 0)) : wpY_can post (yde, yru, yki, yso, ysz, ywh, yam, yfi, yro, ydo, yva, yhe, yhn, ypl, yke, ywl, you, ypk, yen, yea) (nI t) := by
  obtain ⟨p1, p2, p3⟩ := hp
  obtain ⟨q1, q2, q3, q4, q5⟩ := hq
  have hd := te_dn_le hW hr ht
  have hB := te_Bd_q hW hr
  have ct : (nI t).toNatClampNeg = t := nI_clamp (by omega)
  have hi : vp_in (nI t) 3 := vp_in_nI ht (by decide)
  unfold wpY_can
  dsimp only
  rw [ct, q1 t ht, p1 t ht]
  refine ⟨hi, hi, pk_lt _ _ (fun c => ⟨hi, nm_r (te_num3 t _) ?_⟩) (fun c => ?_) rfl rfl (by omega) (by omega)⟩
  · obtain ⟨ca1, ca2, ca3, ca4, ca5⟩ := te_at hW ht c
    have cx : (nI (3 * t + te_dn (te_q P r) t)).toNatClampNeg = 3 * t + te_dn (te_q P r) t := nI_clamp (by omega)
    obtain ⟨a1, a2⟩ := p2 t ht _ ca1
    have hx : vp_in (nI (3 * t + te_dn (te_q P r) t)) 9 := vp_in_nI (by omega) (by decide)
    rw [cx, a1, te_wm ca2 ca3, te_w8 ca2 ca3]
    refine ⟨hx, by decide, pk_eq _ 4 (fun c4 => ⟨hx, by decide, vp_in_nI (ca4 (by omega)) (by decide), ?_⟩) (fun c4 => ?_) rfl rfl (by omega) (by omega)⟩
    · have hl := ca4 (by omega)
      have cp : (nI (te_pl P t (te_dn (te_q P r) t))).toNatClampNeg = te_pl P t (te_dn (te_q P r) t) := nI_clamp (by omega)
      rw [cp, q3 _ hl]
      have hlt := te_hI_lt _ (hB.2.1 (te_pl P t (te_dn (te_q P r) t)))
      by_cases z : te_hd (te_q P r) (te_pl P t (te_dn (te_q P r) t)) = 0
      · rw [if_pos (te_can_iff.mpr ⟨c, fun _ => z⟩)] at h
        exact br_f (Int32.not_le.mpr (hlt.mpr z)) h
      · rw [if_neg (fun y => z ((te_can_iff.mp y).2 c4))] at h
        exact br_t (Int32.not_lt.mp (fun y => z (hlt.mp y))) h
    · rw [if_pos (te_can_iff.mpr ⟨c, fun y => absurd y c4⟩)] at h
      exact h
  · rw [if_neg (fun y => absurd (te_can_iff.mp y).1 (by omega))] at h
    exact h
theorem ty_rd {P : te_P} (hW : te_W P) {r : List Nat} (hr : te_o P r) (hp : te_YP P ysz ywh yam yfi) (hq : te_YQ P r ydo yva yhe yhn ypl) {post : Int32 → Prop} : ∀ d f, f + d = 3 → (∀ t, f ≤ t → t < 3 → te_can P (te_q P r) t = true → (∀ j, f ≤ j → j < t → te_can P (te_q P r) j = false) → post (nI t)) → ((∀ j, f ≤ j → j < 3 → te_can P (te_q P r) j = false) → post 3) → wY_ready_2 post yde yru yki yso ysz ywh yam yfi yro ydo yva yhe yhn ypl yke ywl you ypk yen yea (d + 1) (nI f) := by
  intro d
  induction d with
  | zero =>
    intro f hf h1 h2
    rw [wY_ready_2]
    exact pk_le 3 f (fun _ => h2 (fun j a b => absurd b (by omega))) (fun c => absurd c (by omega)) rfl rfl (by omega) (by omega)
  | succ d ih =>
    intro f hf h1 h2
    rw [wY_ready_2]
    refine pk_le 3 f (fun c => absurd c (by omega)) (fun c => ty_can hW hr hp hq (by omega) ?_) rfl rfl (by omega) (by omega)
    cases hc : te_can P (te_q P r) f with
    | true =>
      rw [if_pos rfl]
      exact br_f (by decide) (h1 f (Nat.le_refl _) (by omega) hc (fun j a b => absurd b (by omega)))
    | false =>
      rw [if_neg (by decide)]
      refine br_t rfl (nm_r (nI_1 f) (ih (f + 1) (by omega) ?_ ?_))
      · intro t a b c e
        refine h1 t (by omega) b c (fun j x y => ?_)
        by_cases z : j = f
        · rw [z]; exact hc
        · exact e j (by omega) y
      · intro e
        refine h2 (fun j x y => ?_)
        by_cases z : j = f
        · rw [z]; exact hc
        · exact e j (by omega) y
theorem ty_ready {P : te_P} (hW : te_W P) {r : List Nat} (hr : te_o P r) (hp : te_YP P ysz ywh yam yfi) (hq : te_YQ P r ydo yva yhe yhn ypl) {post : Int32 → Prop} (f : Nat) (hf : f ≤ 3) (h1 : ∀ t, f ≤ t → t < 3 → te_can P (te_q P r) t = true → (∀ j, f ≤ j → j < t → te_can P (te_q P r) j = false) → post (nI t)) (h2 : (∀ j, f ≤ j → j < 3 → te_can P (te_q P r) j = false) → post 3) : wpY_ready post (yde, yru, yki, yso, ysz, ywh, yam, yfi, yro, ydo, yva, yhe, yhn, ypl, yke, ywl, you, ypk, yen, yea) (nI f) := by
  unfold wpY_ready
  dsimp only
  exact ⟨3 - f + 1, ty_rd hW hr hp hq (3 - f) f (by omega) h1 h2⟩
theorem ty_160n {x1 x4 : Int32} {o : Nat} (ho : o ≤ 5) (h5 : o ≠ 5) {post : SY → Prop} (h : post (yde, yru, yki, yso, ysz, ywh, yam, yfi, yro, ydo, yva, yhe, yhn, ypl, yke, ywl, you, ypk, yen, yea)) : wY_act_160 post x1 x4 (nI o) yde yru yki yso ysz ywh yam yfi yro ydo yva yhe yhn ypl yke ywl you ypk yen yea := by
  unfold wY_act_160
  exact pk_eq o 5 (fun c => absurd c h5) (fun _ => h) rfl rfl (by omega) (by omega)
theorem ty_146n {x1 x4 : Int32} {o : Nat} (ho : o ≤ 5) (h5 : o ≠ 4) {post : SY → Prop} (h : wY_act_160 post x1 x4 (nI o) yde yru yki yso ysz ywh yam yfi yro ydo yva yhe yhn ypl yke ywl you ypk yen yea) : wY_act_146 post x1 x4 (nI o) yde yru yki yso ysz ywh yam yfi yro ydo yva yhe yhn ypl yke ywl you ypk yen yea := by
  unfold wY_act_146
  exact pk_eq o 4 (fun c => absurd c h5) (fun _ => h) rfl rfl (by omega) (by omega)
theorem ty_116n {x1 x3 x4 : Int32} {o : Nat} (ho : o ≤ 5) (h5 : o ≠ 3) {post : SY → Prop} (h : wY_act_146 post x1 x4 (nI o) yde yru yki yso ysz ywh yam yfi yro ydo yva yhe yhn ypl yke ywl you ypk yen yea) : wY_act_116 post x1 x3 x4 (nI o) yde yru yki yso ysz ywh yam yfi yro ydo yva yhe yhn ypl yke ywl you ypk yen yea := by
  unfold wY_act_116
  exact pk_eq o 3 (fun c => absurd c h5) (fun _ => h) rfl rfl (by omega) (by omega)
theorem ty_87n {x1 x3 x4 : Int32} {o : Nat} (ho : o ≤ 5) (h5 : o ≠ 2) {post : SY → Prop} (h : wY_act_116 post x1 x3 x4 (nI o) yde yru yki yso ysz ywh yam yfi yro ydo yva yhe yhn ypl yke ywl you ypk yen yea) : wY_act_87 post x1 x3 x4 (nI o) yde yru yki yso ysz ywh yam yfi yro ydo yva yhe yhn ypl yke ywl you ypk yen yea := by
  unfold wY_act_87
  exact pk_eq o 2 (fun c => absurd c h5) (fun _ => h) rfl rfl (by omega) (by omega)
theorem ty_68n {x1 x3 x4 : Int32} {o : Nat} (ho : o ≤ 5) (h5 : o ≠ 1) {post : SY → Prop} (h : wY_act_87 post x1 x3 x4 (nI o) yde yru yki yso ysz ywh yam yfi yro ydo yva yhe yhn ypl yke ywl you ypk yen yea) : wY_act_68 post x1 x3 x4 (nI o) yde yru yki yso ysz ywh yam yfi yro ydo yva yhe yhn ypl yke ywl you ypk yen yea := by
  unfold wY_act_68
  exact pk_eq o 1 (fun c => absurd c h5) (fun _ => h) rfl rfl (by omega) (by omega)
theorem te_and7 {n : Nat} (h : n < 1000) : nI n &&& 7 = nI (n % 8) := pk_andN (m := 7) (by omega) 3 (by decide)
/-- the tail of a step of the second machine, behind hand: value and held -/
theorem ty_68 {P : te_P} {t x3 o p a n : Nat} {vl hd : Nat → Nat} (ht : t < 3) (ho : o ≤ 5) (hp : p < 3) (hp2 : 4 ≤ o → p < 2) (ha : a < 8) (hn : n < 8) (hh : o = 2 → yhn t = nI n) (hx3 : x3 < 9) (ham : yam x3 = nI a) (hva : ∀ v, v < 3 → yva v = nI (vl v)) (hv8 : vl p < 8) (hhe : ∀ l, l < 2 → yhe l = te_hI (hd l)) (hh4 : hd p < 4) {post : SY → Prop} (h : ∀ va he, (∀ v, v < 3 → va v = nI (te_wv o p a n vl v)) → (∀ l, l < 2 → he l = te_hI (te_wh o p t hd l)) → post (yde, yru, yki, yso, ysz, ywh, yam, yfi, yro, ydo, va, he, yhn, ypl, yke, ywl, you, ypk, yen, yea)) : wY_act_68 post (nI t) (nI x3) (nI p) (nI o) yde yru yki yso ysz ywh yam yfi yro ydo yva yhe yhn ypl yke ywl you ypk yen yea := by
  have ct : (nI t).toNatClampNeg = t := nI_clamp (by omega)
  have cx : (nI x3).toNatClampNeg = x3 := nI_clamp (by omega)
  have cp : (nI p).toNatClampNeg = p := nI_clamp (by omega)
  have it : vp_in (nI t) 3 := vp_in_nI ht (by decide)
  have ix : vp_in (nI x3) 9 := vp_in_nI hx3 (by decide)
  have ip : vp_in (nI p) 3 := vp_in_nI hp (by decide)
  have vsame : ¬ (1 ≤ o ∧ o ≤ 3) → ∀ v, v < 3 → yva v = nI (te_wv o p a n vl v) := by
    intro z v hv; unfold te_wv; rw [if_neg z]; exact hva v hv
  have hsame : ¬ 4 ≤ o → ∀ l, l < 2 → yhe l = te_hI (te_wh o p t hd l) := by
    intro z l hl; unfold te_wh; rw [if_neg z]; exact hhe l hl
  have vset : ∀ y, (1 ≤ o ∧ o ≤ 3) → y = nI (te_nv o a n (vl p)) → ∀ v, v < 3 → upd yva p y v = nI (te_wv o p a n vl v) := by
    intro y z e v hv
    unfold te_wv upd
    rw [if_pos z]
    unfold te_u
    by_cases f : v = p
    · rw [if_pos f, if_pos f]; exact e
    · rw [if_neg f, if_neg f]; exact hva v hv
  have hset : ∀ y, 4 ≤ o → y = te_hI (te_nh o t (hd p)) → ∀ l, l < 2 → upd yhe p y l = te_hI (te_wh o p t hd l) := by
    intro y z e l hl
    unfold te_wh upd
    rw [if_pos z]
    unfold te_u
    by_cases f : l = p
    · rw [if_pos f, if_pos f]; exact e
    · rw [if_neg f, if_neg f]; exact hhe l hl
  have : o = 0 ∨ o = 1 ∨ o = 2 ∨ o = 3 ∨ o = 4 ∨ o = 5 := by omega
  rcases this with e | e | e | e | e | e
  · exact ty_68n ho (by omega) (ty_87n ho (by omega) (ty_116n ho (by omega) (ty_146n ho (by omega) (ty_160n ho (by omega) (h yva yhe (vsame (by omega)) (hsame (by omega)))))))
  · unfold wY_act_68
    rw [cx, cp, ham]
    refine pk_eq o 1 (fun _ => ⟨ix, ip, nm_e ?_⟩) (fun c => absurd e c) rfl rfl (by omega) (by omega)
    refine ty_87n ho (by omega) (ty_116n ho (by omega) (ty_146n ho (by omega) (ty_160n ho (by omega) (h _ yhe (vset _ (by omega) ?_) (hsame (by omega))))))
    unfold te_nv; rw [if_pos e]
  · refine ty_68n ho (by omega) ?_
    unfold wY_act_87
    rw [cx, cp, ct, ham, hh e, nI_add, te_and7 (by omega)]
    refine pk_eq o 2 (fun _ => ⟨it, ix, ip, nm_e ?_⟩) (fun c => absurd e c) rfl rfl (by omega) (by omega)
    refine ty_116n ho (by omega) (ty_146n ho (by omega) (ty_160n ho (by omega) (h _ yhe (vset _ (by omega) ?_) (hsame (by omega)))))
    unfold te_nv; rw [if_neg (by omega), if_pos e]
  · refine ty_68n ho (by omega) (ty_87n ho (by omega) ?_)
    unfold wY_act_116
    rw [cx, cp, ham, hva p hp, nI_add, te_and7 (by omega)]
    refine pk_eq o 3 (fun _ => ⟨ip, ix, ip, nm_e ?_⟩) (fun c => absurd e c) rfl rfl (by omega) (by omega)
    refine ty_146n ho (by omega) (ty_160n ho (by omega) (h _ yhe (vset _ (by omega) ?_) (hsame (by omega))))
    have e1 : ¬ o = 1 := by omega
    have e2 : ¬ o = 2 := by omega
    unfold te_nv; rw [if_neg e1, if_neg e2]
  · refine ty_68n ho (by omega) (ty_87n ho (by omega) (ty_116n ho (by omega) ?_))
    unfold wY_act_146
    rw [cp]
    refine pk_eq o 4 (fun _ => ⟨vp_in_nI (hp2 (by omega)) (by decide), nm_e ?_⟩) (fun c => absurd e c) rfl rfl (by omega) (by omega)
    refine ty_160n ho (by omega) (h yva _ (vsame (by omega)) (hset _ (by omega) ?_))
    unfold te_nh; rw [if_pos e]; exact (te_hI_s t).symm
  · refine ty_68n ho (by omega) (ty_87n ho (by omega) (ty_116n ho (by omega) (ty_146n ho (by omega) ?_)))
    have ip2 : vp_in (nI p) 2 := vp_in_nI (hp2 (by omega)) (by decide)
    have e4 : ¬ o = 4 := by omega
    unfold wY_act_160
    rw [cp, hhe p (hp2 (by omega))]
    refine pk_eq o 5 (fun _ => ⟨ip2, ?_⟩) (fun c => absurd e c) rfl rfl (by omega) (by omega)
    by_cases c : hd p = t + 1
    · refine br_t ((te_hI_eq _ hh4 t ht).mpr c) ⟨ip2, nm_e (h yva _ (vsame (by omega)) (hset _ (by omega) ?_))⟩
      unfold te_nh; rw [if_neg e4, if_pos c]; rfl
    · refine br_f (fun z => c ((te_hI_eq _ hh4 t ht).mp z)) (h yva yhe (vsame (by omega)) ?_)
      intro l hl
      unfold te_wh
      rw [if_pos (by omega)]
      unfold te_u te_nh
      by_cases f : l = p
      · rw [if_pos f, if_neg e4, if_neg c, f]; exact hhe p (hp2 (by omega))
      · rw [if_neg f]; exact hhe l hl
theorem ty_act {P : te_P} (hW : te_W P) {r : List Nat} (hr : te_o P r) (hp : te_YP P ysz ywh yam yfi) (hq : te_YQ P r ydo yva yhe yhn ypl) {t : Nat} (ht : t < 3) (hc : te_can P (te_q P r) t = true) {post : SY → Prop} (h : ∀ dn va he hn pl, te_YQ P (r ++ [t]) dn va he hn pl → post (yde, yru, yki, yso, ysz, ywh, yam, yfi, yro, dn, va, he, hn, pl, yke, ywl, you, ypk, yen, yea)) : wpY_act post (yde, yru, yki, yso, ysz, ywh, yam, yfi, yro, ydo, yva, yhe, yhn, ypl, yke, ywl, you, ypk, yen, yea) (nI t) (nI r.length) := by
  have c := te_can_lt hc
  obtain ⟨ca1, ca2, ca3, ca4, ca5⟩ := te_at hW ht c
  have hB := te_Bd_q hW hr
  obtain ⟨p1, p2, p3⟩ := hp
  obtain ⟨q1, q2, q3, q4, q5⟩ := hq
  obtain ⟨a1, a2⟩ := p2 t ht _ ca1
  have ct : (nI t).toNatClampNeg = t := nI_clamp (by omega)
  have hi : vp_in (nI t) 3 := vp_in_nI ht (by decide)
  have cx : (nI (3 * t + te_dn (te_q P r) t)).toNatClampNeg = 3 * t + te_dn (te_q P r) t := nI_clamp (by omega)
  have hx : vp_in (nI (3 * t + te_dn (te_q P r) t)) 9 := vp_in_nI (by omega) (by decide)
  have cp : (nI (te_pl P t (te_dn (te_q P r) t))).toNatClampNeg = te_pl P t (te_dn (te_q P r) t) := nI_clamp (by omega)
  have hip : vp_in (nI (te_pl P t (te_dn (te_q P r) t))) 3 := vp_in_nI ca3 (by decide)
  have fin : ∀ dn va he hn pl, (∀ t', t' < 3 → dn t' = nI (te_dn (te_q P (r ++ [t])) t')) → (∀ v, v < 3 → va v = nI (te_vl (te_q P (r ++ [t])) v)) → (∀ l, l < 2 → he l = te_hI (te_hd (te_q P (r ++ [t])) l)) → (∀ t', t' < 3 → hn t' = nI (te_hn (te_q P (r ++ [t])) t')) → pl = upd ypl (3 * t + te_dn (te_q P r) t) (nI r.length) → post (yde, yru, yki, yso, ysz, ywh, yam, yfi, yro, dn, va, he, hn, pl, yke, ywl, you, ypk, yen, yea) := by
    intro dn va he hn pl i1 i2 i3 i4 i5
    refine h dn va he hn pl ⟨i1, i2, i3, i4, fun x x1 x2 => ?_⟩
    rw [i5, te_L_snoc]
    have hlen := te_L_len P r
    constructor
    · intro k hk
      by_cases z : k < r.length
      · rw [List.getElem?_append_left (by omega)] at hk
        have hm : x ∈ te_L P r := List.mem_iff_getElem?.mpr ⟨k, hk⟩
        rw [te_L_mem] at hm
        have hne : 3 * x.1 + x.2 ≠ 3 * t + te_dn (te_q P r) t := by
          intro e
          have e1 : x.1 = t := by omega
          rw [e1] at hm
          omega
        rw [pk_un hne]
        exact (q5 x x1 x2).1 k hk
      · rw [List.getElem?_append_right (by omega)] at hk
        by_cases y : k = r.length
        · rw [show k - (te_L P r).length = 0 by omega, List.getElem?_cons_zero] at hk
          rw [← Option.some.inj hk, y]
          exact pk_us
        · rw [List.getElem?_eq_none (by show 1 ≤ _; omega)] at hk
          exact absurd hk (by simp)
    · intro hm
      rw [List.mem_append, List.mem_singleton] at hm
      have hne : 3 * x.1 + x.2 ≠ 3 * t + te_dn (te_q P r) t := by
        intro e
        refine hm (Or.inr ?_)
        obtain ⟨x1', x2'⟩ := x
        simp only at e x1 x2
        have e1 : x1' = t := by omega
        have e2 : x2' = te_dn (te_q P r) t := by omega
        rw [e1, e2]
      rw [pk_un hne]
      exact (q5 x x1 x2).2 (fun z => hm (Or.inl z))
  have hdn : ∀ t', t' < 3 → upd ydo t (nI (te_dn (te_q P r) t + 1)) t' = nI (te_dn (te_q P (r ++ [t])) t') := by
    intro t' ht'
    rw [te_q_snoc, te_dn_a]
    unfold upd
    by_cases z : t' = t
    · rw [if_pos z, if_pos z]
    · rw [if_neg z, if_neg z]; exact q1 t' ht'
  have ev : te_vl (te_q P (r ++ [t])) = te_wv (te_op P t (te_dn (te_q P r) t)) (te_pl P t (te_dn (te_q P r) t)) (te_am P t (te_dn (te_q P r) t)) (te_hn (te_q P r) t) (te_vl (te_q P r)) := by rw [te_q_snoc]; rfl
  have eh : te_hd (te_q P (r ++ [t])) = te_wh (te_op P t (te_dn (te_q P r) t)) (te_pl P t (te_dn (te_q P r) t)) t (te_hd (te_q P r)) := by rw [te_q_snoc]; rfl
  have en : te_hn (te_q P (r ++ [t])) = te_wn (te_op P t (te_dn (te_q P r) t)) t (te_vl (te_q P r) (te_pl P t (te_dn (te_q P r) t))) (te_hn (te_q P r)) := by rw [te_q_snoc]; rfl
  unfold wpY_act
  dsimp only
  rw [ct, q1 t ht]
  refine ⟨hi, nm_r (te_num3 t _) ?_⟩
  rw [cx, a1, te_wm ca2 ca3, te_w8 ca2 ca3]
  refine ⟨hx, by decide, nm_e ⟨hx, by decide, nm_e ⟨hx, nm_e ⟨hi, hi, nm_r (congrArg (upd ydo t) (nI_1 _)) ?_⟩⟩⟩⟩
  rw [cp]
  refine pk_eq _ 0 (fun c0 => ⟨hip, hi, nm_e ?_⟩) (fun c0 => ?_) rfl rfl (by omega) (by omega)
  · refine ty_68 (P := P) (vl := te_vl (te_q P r)) (hd := te_hd (te_q P r)) ht ca2 ca3 ca4 ca5 (hB.2.2 t) (fun z => absurd z (by omega)) (by omega) a2 q2 (hB.1 _ ca3) q3 (hB.2.1 _) (fun va he k1 k2 => fin _ va he _ _ hdn ?_ ?_ ?_ rfl)
    · intro v hv; rw [ev]; exact k1 v hv
    · intro l hl; rw [eh]; exact k2 l hl
    · intro t' ht'
      rw [en]
      unfold te_wn
      rw [if_pos c0]
      unfold upd te_u
      by_cases z : t' = t
      · rw [if_pos z, if_pos z]; exact q2 _ ca3
      · rw [if_neg z, if_neg z]; exact q4 t' ht'
  · refine ty_68 (P := P) (vl := te_vl (te_q P r)) (hd := te_hd (te_q P r)) ht ca2 ca3 ca4 ca5 (hB.2.2 t) (fun z => q4 t ht) (by omega) a2 q2 (hB.1 _ ca3) q3 (hB.2.1 _) (fun va he k1 k2 => fin _ va he _ _ hdn ?_ ?_ ?_ rfl)
    · intro v hv; rw [ev]; exact k1 v hv
    · intro l hl; rw [eh]; exact k2 l hl
    · intro t' ht'
      rw [en]
      unfold te_wn
      rw [if_neg c0]
      exact q4 t' ht'
end
