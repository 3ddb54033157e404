section
/-! rows of the kit to paste -/
theorem pk_us {f : Nat → Int32} {k : Nat} {x : Int32} : upd f k x k = x := if_pos rfl
theorem pk_un {f : Nat → Int32} {k j : Nat} {x : Int32} (h : j ≠ k) : upd f k x j = f j := if_neg h
theorem pk_uLs {f : Nat → Int64} {k : Nat} {x : Int64} : vp_updL f k x k = x := if_pos rfl
theorem pk_uLn {f : Nat → Int64} {k j : Nat} {x : Int64} (h : j ≠ k) : vp_updL f k x j = f j := if_neg h
theorem pk_sub {a b : Nat} (h : b ≤ a) : nI a - nI b = nI (a - b) := by
  obtain ⟨c, rfl⟩ : ∃ c, a = c + b := ⟨a - b, by omega⟩
  rw [← nI_add, Int32.add_sub_cancel, Nat.add_sub_cancel]
theorem pk_m1 (n : Nat) : nI (n + 1) + (-1) = nI n := by
  rw [← nI_1, Int32.add_assoc, show (1 : Int32) + (-1) = 0 from rfl, Int32.add_zero]
theorem pk_mul (a b : Nat) : nI a * nI b = nI (a * b) := (Int32.ofNat_mul a b).symm
theorem pk_div {a d : Nat} (ha : a < 2 ^ 31) (h0 : 0 < d) (hd : d < 2 ^ 31) : nI a / nI d = nI (a / d) := by
  apply Int32.toInt_inj.mp
  rw [lg_idiv_nonneg (by rw [nI_toInt ha]; omega) (by rw [nI_toInt hd]; omega), nI_toInt ha, nI_toInt hd, nI_toInt (Nat.lt_of_le_of_lt (Nat.div_le_self a d) ha)]
  first | rfl | exact (Int.natCast_ediv _ _).symm
theorem pk_rem {a d : Nat} (ha : a < 2 ^ 31) (h0 : 0 < d) (hd : d < 2 ^ 31) : nI a - nI a / nI d * nI d = nI (a % d) := by
  rw [pk_div ha h0 hd, pk_mul, pk_sub (Nat.div_mul_le_self a d)]
  exact congrArg nI (by have := Nat.div_add_mod' a d; omega)
theorem pk_ix (x : Int32) {n : Nat} (hn : n < 2 ^ 31) : x < 0 ∨ nI n ≤ x ∨ ∃ j : Nat, j < n ∧ x = nI j := by
  by_cases h : x < 0
  · exact Or.inl h
  · obtain ⟨j, hj, rfl⟩ := nI_of h
    by_cases h2 : j < n
    · exact Or.inr (Or.inr ⟨j, h2, rfl⟩)
    · exact Or.inr (Or.inl (nI_le (by omega) hj))
theorem pk_le {x y : Int32} {A B : Prop} (a b : Nat) (f : a ≤ b → A) (g : b < a → B) (hx : x = nI a := by rfl) (hy : y = nI b := by rfl) (ha : a < 2 ^ 31 := by omega) (hb : b < 2 ^ 31 := by omega) : (x ≤ y → A) ∧ (¬ x ≤ y → B) := by
  subst hx hy
  rw [nI_leI ha hb]
  exact ⟨f, fun z => g (by omega)⟩
theorem pk_lt {x y : Int32} {A B : Prop} (a b : Nat) (f : a < b → A) (g : b ≤ a → B) (hx : x = nI a := by rfl) (hy : y = nI b := by rfl) (ha : a < 2 ^ 31 := by omega) (hb : b < 2 ^ 31 := by omega) : (x < y → A) ∧ (¬ x < y → B) := by
  subst hx hy
  rw [nI_ltI ha hb]
  exact ⟨f, fun z => g (by omega)⟩
theorem pk_eq {x y : Int32} {A B : Prop} (a b : Nat) (f : a = b → A) (g : a ≠ b → B) (hx : x = nI a := by rfl) (hy : y = nI b := by rfl) (ha : a < 2 ^ 31 := by omega) (hb : b < 2 ^ 31 := by omega) : (x = y → A) ∧ (¬ x = y → B) := by
  subst hx hy
  rw [nI_eq ha hb]
  exact ⟨f, g⟩
theorem pk_in {x : Int32} (n N : Nat) (h : n < N) (hx : x = nI n := by rfl) (hN : N < 2 ^ 31 := by omega) : vp_in x N := by
  subst hx
  exact vp_in_nI h hN
theorem pk_cl {x : Int32} (n : Nat) (hx : x = nI n := by rfl) (h : n < 2 ^ 31 := by omega) : x.toNatClampNeg = n := by
  subst hx
  exact nI_clamp h
theorem pk_tn {n : Nat} (h : n < 2 ^ 32) : (nI n).toBitVec.toNat = n := Nat.mod_eq_of_lt h
theorem pk_and (x : Int32) {m : Int32} (k : Nat) (hm : m.toBitVec.toNat = 2 ^ k - 1) : x &&& m = nI (x.toBitVec.toNat % 2 ^ k) := by
  apply Int32.toBitVec_inj.mp
  apply BitVec.eq_of_toNat_eq
  rw [Int32.toBitVec_and, BitVec.toNat_and, hm, Nat.and_two_pow_sub_one_eq_mod]
  show _ = (BitVec.ofNat 32 _).toNat
  rw [BitVec.toNat_ofNat]
  exact (Nat.mod_eq_of_lt (Nat.lt_of_le_of_lt (Nat.mod_le _ _) x.toBitVec.isLt)).symm
theorem pk_andN {n : Nat} (h : n < 2 ^ 32) {m : Int32} (k : Nat) (hm : m.toBitVec.toNat = 2 ^ k - 1) : nI n &&& m = nI (n % 2 ^ k) := by
  rw [pk_and _ k hm, pk_tn h]
theorem pk_lT {n : Nat} (h : n < 2 ^ 63) : (lN n).toInt = (n : Int) := lg_ofNat_toInt h
theorem pk_lEQ {a b : Nat} (ha : a < 2 ^ 63) (hb : b < 2 ^ 63) : lN a = lN b ↔ a = b := by
  rw [← Int64.toInt_inj, pk_lT ha, pk_lT hb]; omega
def bt (x : Int32) (i : Nat) : Bool := x.toBitVec.getLsbD i
theorem b_ext {x y : Int32} (h : ∀ i, i < 32 → bt x i = bt y i) : x = y := Int32.toBitVec_inj.mp (BitVec.eq_of_getLsbD_eq (fun i hi => h i hi))
theorem b_or (x y : Int32) (i : Nat) : bt (x ||| y) i = (bt x i || bt y i) := by unfold bt; rw [Int32.toBitVec_or, BitVec.getLsbD_or]
theorem b_and (x y : Int32) (i : Nat) : bt (x &&& y) i = (bt x i && bt y i) := by unfold bt; rw [Int32.toBitVec_and, BitVec.getLsbD_and]
theorem b_big {x : Int32} {i : Nat} (h : 32 ≤ i) : bt x i = false := BitVec.getLsbD_of_ge _ _ h
theorem b_0 (i : Nat) : bt 0 i = false := BitVec.getLsbD_zero
theorem s_l : ∀ n, n < 32 → ((nI n &&& 31).toBitVec.smod 32).toNat = n := by decide +kernel
theorem b_shl (n : Nat) (hn : n < 32) (x : Int32) {i : Nat} (hi : i < 32) : bt (x <<< (nI n &&& 31)) i = (decide (n ≤ i) && bt x (i - n)) := by
  unfold bt
  rw [Int32.toBitVec_shiftLeft]
  show (x.toBitVec <<< ((nI n &&& 31).toBitVec.smod 32).toNat).getLsbD i = _
  rw [s_l n hn, BitVec.getLsbD_shiftLeft]
  rcases Nat.lt_or_ge i n with h | h
  · simp [h, Nat.not_le.mpr h]
  · simp [hi, h, Nat.not_lt.mpr h]
theorem b_sshr (n : Nat) (hn : n < 32) (x : Int32) {i : Nat} (hi : i < 32) : bt (x >>> (nI n &&& 31)) i = if n + i < 32 then bt x (n + i) else bt x 31 := by
  unfold bt
  rw [Int32.toBitVec_shiftRight]
  show (x.toBitVec.sshiftRight ((nI n &&& 31).toBitVec.smod 32).toNat).getLsbD i = _
  rw [s_l n hn, BitVec.getLsbD_sshiftRight, BitVec.msb_eq_getLsbD_last]
  simp [hi]
theorem wb_tb (n : Nat) : (lN n).toBitVec = BitVec.ofNat 64 n := rfl
theorem wb_inj {a b : Int64} (h : a.toBitVec = b.toBitVec) : a = b := Int64.toBitVec_inj.mp h
theorem wb_tn {n : Nat} (h : n < 2 ^ 64) : (lN n).toBitVec.toNat = n := by rw [wb_tb, BitVec.toNat_ofNat, Nat.mod_eq_of_lt h]
theorem wb_c : ∀ k, k < 64 → ((nI k).toInt64 &&& 63) = lN k := by decide +kernel
theorem wb_sm : ∀ k, k < 64 → (BitVec.ofNat 64 k).smod 64 = BitVec.ofNat 64 k := by decide +kernel
theorem wb_pw {a b : Nat} (h : a ≤ b) : 2 ^ b = 2 ^ a * 2 ^ (b - a) := by rw [← Nat.pow_add]; congr 1; omega
theorem wb_lt2 {a b : Nat} (h : a < b) : 2 ^ a < 2 ^ b := Nat.pow_lt_pow_right (by decide) h
theorem wb_mod (n : Nat) : lN n = lN (n % 2 ^ 64) := wb_inj (by rw [wb_tb, wb_tb]; apply BitVec.eq_of_toNat_eq; rw [BitVec.toNat_ofNat, BitVec.toNat_ofNat, Nat.mod_mod])
theorem wb_shl (n : Nat) {k : Nat} (hk : k < 64) : lN n <<< ((nI k).toInt64 &&& 63) = lN (n * 2 ^ k) := by
  rw [wb_c k hk]
  apply wb_inj
  rw [Int64.toBitVec_shiftLeft, wb_tb, wb_tb, wb_tb, wb_sm k hk]
  apply BitVec.eq_of_toNat_eq
  rw [BitVec.shiftLeft_eq', BitVec.toNat_shiftLeft, BitVec.toNat_ofNat, BitVec.toNat_ofNat, BitVec.toNat_ofNat, Nat.mod_eq_of_lt (show k < 2 ^ 64 by omega), Nat.shiftLeft_eq, Nat.mul_mod, Nat.mod_mod, ← Nat.mul_mod]
theorem wb_or {a b : Nat} (ha : a < 2 ^ 64) (hb : b < 2 ^ 64) : lN a ||| lN b = lN (a ||| b) := by
  apply wb_inj
  rw [Int64.toBitVec_or, wb_tb, wb_tb, wb_tb]
  apply BitVec.eq_of_toNat_eq
  rw [BitVec.toNat_or, BitVec.toNat_ofNat, BitVec.toNat_ofNat, BitVec.toNat_ofNat, Nat.mod_eq_of_lt ha, Nat.mod_eq_of_lt hb, Nat.mod_eq_of_lt (Nat.or_lt_two_pow ha hb)]
end
section
/-! the pure picture: a program, a state, a step, the leaves of the tree of runs -/
abbrev te_P : Type := (Nat → Nat) × (Nat → Nat → Nat) × (Nat → Nat → Nat) × (Nat → Nat → Nat) × (Nat → Nat)
def te_sz (P : te_P) : Nat → Nat := P.1
def te_op (P : te_P) : Nat → Nat → Nat := P.2.1
def te_pl (P : te_P) : Nat → Nat → Nat := P.2.2.1
def te_am (P : te_P) : Nat → Nat → Nat := P.2.2.2.1
def te_ini (P : te_P) : Nat → Nat := P.2.2.2.2
abbrev te_S : Type := (Nat → Nat) × (Nat → Nat) × (Nat → Nat) × (Nat → Nat)
def te_dn (s : te_S) : Nat → Nat := s.1
def te_vl (s : te_S) : Nat → Nat := s.2.1
def te_hd (s : te_S) : Nat → Nat := s.2.2.1
def te_hn (s : te_S) : Nat → Nat := s.2.2.2
def te_u (f : Nat → Nat) (k x : Nat) : Nat → Nat := fun j => if j = k then x else f j
def te_nv (o a h x : Nat) : Nat := if o = 1 then a else if o = 2 then (h + a) % 8 else (x + a) % 8
def te_wv (o p a h : Nat) (f : Nat → Nat) : Nat → Nat := if 1 ≤ o ∧ o ≤ 3 then te_u f p (te_nv o a h (f p)) else f
def te_nh (o t x : Nat) : Nat := if o = 4 then t + 1 else if x = t + 1 then 0 else x
def te_wh (o p t : Nat) (f : Nat → Nat) : Nat → Nat := if 4 ≤ o then te_u f p (te_nh o t (f p)) else f
def te_wn (o t x : Nat) (f : Nat → Nat) : Nat → Nat := if o = 0 then te_u f t x else f
def te_act (P : te_P) (s : te_S) (t : Nat) : te_S :=
  (te_u (te_dn s) t (te_dn s t + 1),
   te_wv (te_op P t (te_dn s t)) (te_pl P t (te_dn s t)) (te_am P t (te_dn s t)) (te_hn s t) (te_vl s),
   te_wh (te_op P t (te_dn s t)) (te_pl P t (te_dn s t)) t (te_hd s),
   te_wn (te_op P t (te_dn s t)) t (te_vl s (te_pl P t (te_dn s t))) (te_hn s))
def te_can (P : te_P) (s : te_S) (t : Nat) : Bool :=
  decide (te_dn s t < te_sz P t) && (decide (te_op P t (te_dn s t) ≠ 4) || decide (te_hd s (te_pl P t (te_dn s t)) = 0))
def te_ti (P : te_P) (x y : Nat × Nat) : Bool :=
  decide (x.1 = y.1) || (decide (4 ≤ te_op P x.1 x.2 ↔ 4 ≤ te_op P y.1 y.2) && (decide (te_pl P x.1 x.2 = te_pl P y.1 y.2) && !(decide (te_op P x.1 x.2 = 0) && decide (te_op P y.1 y.2 = 0))))
def te_W (P : te_P) : Prop :=
  (∀ t, t < 3 → te_sz P t ≤ 3) ∧ (∀ t, t < 3 → ∀ i, i < 3 → te_op P t i ≤ 5 ∧ te_pl P t i < 3 ∧ (4 ≤ te_op P t i → te_pl P t i < 2) ∧ te_am P t i < 8) ∧ ∀ v, v < 3 → te_ini P v < 8
def te_s0 (P : te_P) : te_S := (fun _ => 0, te_ini P, fun _ => 0, fun _ => 0)

theorem te_dn_act (P : te_P) (s : te_S) (t : Nat) : te_dn (te_act P s t) = te_u (te_dn s) t (te_dn s t + 1) := rfl
theorem te_vl_act (P : te_P) (s : te_S) (t : Nat) : te_vl (te_act P s t) = te_wv (te_op P t (te_dn s t)) (te_pl P t (te_dn s t)) (te_am P t (te_dn s t)) (te_hn s t) (te_vl s) := rfl
theorem te_hd_act (P : te_P) (s : te_S) (t : Nat) : te_hd (te_act P s t) = te_wh (te_op P t (te_dn s t)) (te_pl P t (te_dn s t)) t (te_hd s) := rfl
theorem te_hn_act (P : te_P) (s : te_S) (t : Nat) : te_hn (te_act P s t) = te_wn (te_op P t (te_dn s t)) t (te_vl s (te_pl P t (te_dn s t))) (te_hn s) := rfl
theorem te_ext {s s' : te_S} (h1 : te_dn s = te_dn s') (h2 : te_vl s = te_vl s') (h3 : te_hd s = te_hd s') (h4 : te_hn s = te_hn s') : s = s' := by
  obtain ⟨a, b, c, d⟩ := s
  obtain ⟨a', b', c', d'⟩ := s'
  have h1' : a = a' := h1
  have h2' : b = b' := h2
  have h3' : c = c' := h3
  have h4' : d = d' := h4
  subst h1'; subst h2'; subst h3'; subst h4'
  rfl
theorem te_u_eq (f : Nat → Nat) (k x : Nat) : te_u f k x k = x := if_pos rfl
theorem te_u_ne (f : Nat → Nat) {k j : Nat} (x : Nat) (h : j ≠ k) : te_u f k x j = f j := if_neg h
theorem te_u_comm (f : Nat → Nat) {k k' : Nat} (x x' : Nat) (h : k ≠ k') : te_u (te_u f k x) k' x' = te_u (te_u f k' x') k x := by
  funext j
  unfold te_u
  by_cases a : j = k
  · by_cases b : j = k'
    · exact absurd (a.symm.trans b) h
    · rw [if_neg b, if_pos a, if_pos a]
  · by_cases b : j = k'
    · rw [if_pos b, if_neg a, if_pos b]
    · rw [if_neg b, if_neg a, if_neg a, if_neg b]
theorem te_wv_ne {o p a h j : Nat} {f : Nat → Nat} (hj : (1 ≤ o ∧ o ≤ 3) → j ≠ p) : te_wv o p a h f j = f j := by
  unfold te_wv
  by_cases c : 1 ≤ o ∧ o ≤ 3
  · rw [if_pos c]; exact te_u_ne _ _ (hj c)
  · rw [if_neg c]
theorem te_wh_ne {o p t j : Nat} {f : Nat → Nat} (hj : 4 ≤ o → j ≠ p) : te_wh o p t f j = f j := by
  unfold te_wh
  by_cases c : 4 ≤ o
  · rw [if_pos c]; exact te_u_ne _ _ (hj c)
  · rw [if_neg c]
theorem te_wn_ne {o t x j : Nat} {f : Nat → Nat} (hj : j ≠ t) : te_wn o t x f j = f j := by
  unfold te_wn
  by_cases c : o = 0
  · rw [if_pos c]; exact te_u_ne _ _ hj
  · rw [if_neg c]
theorem te_wv_comm {o p a h o' p' a' h' : Nat} (f : Nat → Nat) (hj : (1 ≤ o ∧ o ≤ 3) → (1 ≤ o' ∧ o' ≤ 3) → p ≠ p') : te_wv o' p' a' h' (te_wv o p a h f) = te_wv o p a h (te_wv o' p' a' h' f) := by
  by_cases c : 1 ≤ o ∧ o ≤ 3
  · by_cases c' : 1 ≤ o' ∧ o' ≤ 3
    · have hp := hj c c'
      simp only [te_wv, if_pos c, if_pos c']
      rw [te_u_ne f _ (Ne.symm hp), te_u_ne f _ hp]
      exact te_u_comm f _ _ hp
    · simp only [te_wv, if_neg c']
  · simp only [te_wv, if_neg c]
theorem te_wh_comm {o p t o' p' t' : Nat} (f : Nat → Nat) (hj : 4 ≤ o → 4 ≤ o' → p ≠ p') : te_wh o' p' t' (te_wh o p t f) = te_wh o p t (te_wh o' p' t' f) := by
  by_cases c : 4 ≤ o
  · by_cases c' : 4 ≤ o'
    · have hp := hj c c'
      simp only [te_wh, if_pos c, if_pos c']
      rw [te_u_ne f _ (Ne.symm hp), te_u_ne f _ hp]
      exact te_u_comm f _ _ hp
    · simp only [te_wh, if_neg c']
  · simp only [te_wh, if_neg c]
theorem te_wn_comm {o t x o' t' x' : Nat} (f : Nat → Nat) (h : t ≠ t') : te_wn o' t' x' (te_wn o t x f) = te_wn o t x (te_wn o' t' x' f) := by
  by_cases c : o = 0
  · by_cases c' : o' = 0
    · simp only [te_wn, if_pos c, if_pos c']
      exact te_u_comm f _ _ h
    · simp only [te_wn, if_neg c']
  · simp only [te_wn, if_neg c]
/-- what it means that two steps of two threads are not tied -/
theorem te_un {P : te_P} {x y : Nat × Nat} (hu : te_ti P x y = false) :
    x.1 ≠ y.1 ∧ (4 ≤ te_op P x.1 x.2 → 4 ≤ te_op P y.1 y.2 → te_pl P x.1 x.2 ≠ te_pl P y.1 y.2) ∧ (te_op P x.1 x.2 < 4 → te_op P y.1 y.2 < 4 → (te_op P x.1 x.2 ≠ 0 ∨ te_op P y.1 y.2 ≠ 0) → te_pl P x.1 x.2 ≠ te_pl P y.1 y.2) := by
  unfold te_ti at hu
  simp only [Bool.or_eq_false_iff, decide_eq_false_iff_not, Bool.and_eq_false_iff, Bool.not_eq_false', Bool.and_eq_true, decide_eq_true_eq] at hu
  obtain ⟨h1, h2⟩ := hu
  refine ⟨h1, fun a b e => ?_, fun a b c e => ?_⟩
  · rcases h2 with h | h | h
    · exact h ⟨fun _ => b, fun _ => a⟩
    · exact h e
    · omega
  · rcases h2 with h | h | h
    · exact h ⟨fun z => by omega, fun z => by omega⟩
    · exact h e
    · rcases c with c | c
      · exact c h.1
      · exact c h.2
theorem te_ti_symm (P : te_P) (x y : Nat × Nat) : te_ti P x y = te_ti P y x := by
  unfold te_ti
  have e1 : decide (x.1 = y.1) = decide (y.1 = x.1) := decide_eq_decide.mpr eq_comm
  have e2 : decide (4 ≤ te_op P x.1 x.2 ↔ 4 ≤ te_op P y.1 y.2) = decide (4 ≤ te_op P y.1 y.2 ↔ 4 ≤ te_op P x.1 x.2) := decide_eq_decide.mpr ⟨Iff.symm, Iff.symm⟩
  have e3 : decide (te_pl P x.1 x.2 = te_pl P y.1 y.2) = decide (te_pl P y.1 y.2 = te_pl P x.1 x.2) := decide_eq_decide.mpr eq_comm
  rw [e1, e2, e3, Bool.and_comm (decide (te_op P x.1 x.2 = 0))]
theorem te_comm {P : te_P} {s : te_S} {t t' : Nat} (hu : te_ti P (t, te_dn s t) (t', te_dn s t') = false) : te_act P (te_act P s t) t' = te_act P (te_act P s t') t := by
  obtain ⟨ht, hl, hv⟩ := te_un hu
  simp only at ht hl hv
  have e1 : te_dn (te_act P s t) t' = te_dn s t' := te_u_ne _ _ (Ne.symm ht)
  have e2 : te_dn (te_act P s t') t = te_dn s t := te_u_ne _ _ ht
  have e3 : te_hn (te_act P s t) t' = te_hn s t' := te_wn_ne (Ne.symm ht)
  have e4 : te_hn (te_act P s t') t = te_hn s t := te_wn_ne ht
  refine te_ext ?_ ?_ ?_ ?_
  · rw [te_dn_act P (te_act P s t) t', te_dn_act P (te_act P s t') t, e1, e2, te_dn_act, te_dn_act]
    exact te_u_comm _ _ _ ht
  · rw [te_vl_act P (te_act P s t) t', te_vl_act P (te_act P s t') t, e1, e2, e3, e4, te_vl_act, te_vl_act]
    exact te_wv_comm _ (fun a b => hv (by omega) (by omega) (Or.inl (by omega)))
  · rw [te_hd_act P (te_act P s t) t', te_hd_act P (te_act P s t') t, e1, e2, te_hd_act, te_hd_act]
    exact te_wh_comm _ hl
  · rw [te_hn_act P (te_act P s t) t', te_hn_act P (te_act P s t') t, e1, e2, te_hn_act, te_hn_act, te_vl_act, te_vl_act]
    by_cases c : te_op P t (te_dn s t) = 0
    · by_cases c' : te_op P t' (te_dn s t') = 0
      · rw [te_wv_ne (fun z => absurd z (by omega)), te_wv_ne (fun z => absurd z (by omega))]
        exact te_wn_comm _ ht
      · have r : te_wv (te_op P t' (te_dn s t')) (te_pl P t' (te_dn s t')) (te_am P t' (te_dn s t')) (te_hn s t') (te_vl s) (te_pl P t (te_dn s t)) = te_vl s (te_pl P t (te_dn s t)) :=
          te_wv_ne (fun z => hv (by omega) (by omega) (Or.inr (by omega)))
        rw [r]
        simp only [te_wn, if_neg c']
    · have r : ∀ x f, te_wn (te_op P t (te_dn s t)) t x f = f := fun x f => if_neg c
      rw [r, r]
      by_cases c' : te_op P t' (te_dn s t') = 0
      · rw [te_wv_ne (fun z => Ne.symm (hv (by omega) (by omega) (Or.inl c)))]
      · simp only [te_wn, if_neg c']
theorem te_can_act {P : te_P} {s : te_S} {t t' : Nat} (hu : te_ti P (t, te_dn s t) (t', te_dn s t') = false) : te_can P (te_act P s t') t = te_can P s t := by
  obtain ⟨ht, hl, hv⟩ := te_un hu
  simp only at ht hl hv
  have e2 : te_dn (te_act P s t') t = te_dn s t := te_u_ne _ _ ht
  unfold te_can
  rw [e2]
  by_cases c : te_op P t (te_dn s t) = 4
  · have r : te_hd (te_act P s t') (te_pl P t (te_dn s t)) = te_hd s (te_pl P t (te_dn s t)) := te_wh_ne (fun z => hl (by omega) z)
    rw [r]
  · simp only [ne_eq, c, not_false_eq_true, decide_true, Bool.true_or, Bool.and_true]
end
section
/-! rows of threads, their steps, the list of all maximal rows -/
def te_ok (P : te_P) : te_S → List Nat → Prop
  | _, [] => True
  | s, t :: l => t < 3 ∧ te_can P s t = true ∧ te_ok P (te_act P s t) l
def te_run (P : te_P) : te_S → List Nat → te_S
  | s, [] => s
  | s, t :: l => te_run P (te_act P s t) l
def te_st (P : te_P) : te_S → List Nat → List (Nat × Nat)
  | _, [] => []
  | s, t :: l => (t, te_dn s t) :: te_st P (te_act P s t) l
theorem te_ok_app {P : te_P} : ∀ (l m : List Nat) (s : te_S), te_ok P s (l ++ m) ↔ te_ok P s l ∧ te_ok P (te_run P s l) m := by
  intro l
  induction l with
  | nil => intro m s; exact ⟨fun h => ⟨trivial, h⟩, fun h => h.2⟩
  | cons t l ih =>
    intro m s
    constructor
    · intro h
      have h2 := (ih m _).mp h.2.2
      exact ⟨⟨h.1, h.2.1, h2.1⟩, h2.2⟩
    · intro h
      exact ⟨h.1.1, h.1.2.1, (ih m _).mpr ⟨h.1.2.2, h.2⟩⟩
theorem te_run_app {P : te_P} : ∀ (l m : List Nat) (s : te_S), te_run P s (l ++ m) = te_run P (te_run P s l) m := by
  intro l
  induction l with
  | nil => intro m s; rfl
  | cons t l ih => intro m s; exact ih m _
theorem te_st_app {P : te_P} : ∀ (l m : List Nat) (s : te_S), te_st P s (l ++ m) = te_st P s l ++ te_st P (te_run P s l) m := by
  intro l
  induction l with
  | nil => intro m s; rfl
  | cons t l ih => intro m s; exact congrArg (fun z => (t, te_dn s t) :: z) (ih m _)
theorem te_st_len {P : te_P} : ∀ (l : List Nat) (s : te_S), (te_st P s l).length = l.length := by
  intro l
  induction l with
  | nil => intro s; rfl
  | cons t l ih => intro s; exact congrArg (· + 1) (ih _)
theorem te_dn_a (P : te_P) (s : te_S) (t t' : Nat) : te_dn (te_act P s t) t' = if t' = t then te_dn s t + 1 else te_dn s t' := rfl
theorem te_dn_run {P : te_P} : ∀ (l : List Nat) (s : te_S) (t : Nat), te_dn (te_run P s l) t = te_dn s t + l.count t := by
  intro l
  induction l with
  | nil => intro s t; rfl
  | cons a l ih =>
    intro s t
    show te_dn (te_run P (te_act P s a) l) t = _
    rw [ih, te_dn_a, List.count_cons]
    by_cases c : t = a
    · subst c; simp; omega
    · have c' : ¬ a = t := fun z => c z.symm
      simp [c, c']
theorem te_st_mem {P : te_P} : ∀ (l : List Nat) (s : te_S) (x : Nat × Nat), x ∈ te_st P s l ↔ te_dn s x.1 ≤ x.2 ∧ x.2 < te_dn (te_run P s l) x.1 := by
  intro l
  induction l with
  | nil => intro s x; simp only [te_st, te_run, List.not_mem_nil, false_iff]; omega
  | cons a l ih =>
    intro s x
    show x ∈ (a, te_dn s a) :: te_st P (te_act P s a) l ↔ te_dn s x.1 ≤ x.2 ∧ x.2 < te_dn (te_run P (te_act P s a) l) x.1
    rw [List.mem_cons, ih]
    have hd := te_dn_run (P := P) l (te_act P s a) x.1
    have ha := te_dn_a P s a x.1
    obtain ⟨x1, x2⟩ := x
    simp only [Prod.mk.injEq] at *
    by_cases c : x1 = a
    · subst c
      rw [if_pos rfl] at ha
      omega
    · rw [if_neg c] at ha
      omega
theorem te_st_nd {P : te_P} : ∀ (l : List Nat) (s : te_S), (te_st P s l).Pairwise (fun x y => x ≠ y) := by
  intro l
  induction l with
  | nil => intro s; exact List.Pairwise.nil
  | cons a l ih =>
    intro s
    refine List.Pairwise.cons ?_ (ih _)
    intro y hy e
    rw [← e, te_st_mem] at hy
    have ha := te_dn_a P s a a
    rw [if_pos rfl] at ha
    simp only at hy
    omega
def te_lt : List Nat → List Nat → Prop
  | [], _ => False
  | _ :: _, [] => False
  | a :: l, b :: m => a < b ∨ (a = b ∧ te_lt l m)
theorem te_lt_irr : ∀ l : List Nat, ¬ te_lt l l := by
  intro l
  induction l with
  | nil => exact id
  | cons a l ih =>
    intro h
    rcases h with h | h
    · omega
    · exact ih h.2
theorem te_lt_asym : ∀ l m : List Nat, te_lt l m → te_lt m l → False := by
  intro l
  induction l with
  | nil => intro m h _; exact h
  | cons a l ih =>
    intro m h h'
    cases m with
    | nil => exact h
    | cons b m =>
      rcases h with h | h
      · rcases h' with h' | h'
        · omega
        · omega
      · rcases h' with h' | h'
        · omega
        · exact ih m h.2 h'.2
theorem te_lt_pre : ∀ (l m : List Nat), te_lt l m → ∃ D a R b T, l = D ++ a :: R ∧ m = D ++ b :: T ∧ a < b := by
  intro l
  induction l with
  | nil => intro m h; exact absurd h id
  | cons a l ih =>
    intro m h
    cases m with
    | nil => exact absurd h id
    | cons b m =>
      rcases h with h | h
      · exact ⟨[], a, l, b, m, rfl, rfl, h⟩
      · obtain ⟨D, x, R, y, T, e1, e2, e3⟩ := ih m h.2
        refine ⟨a :: D, x, R, y, T, ?_, ?_, e3⟩
        · rw [e1]; rfl
        · rw [e2, ← h.1]; rfl
theorem te_lt_app : ∀ (D l m : List Nat), te_lt l m → te_lt (D ++ l) (D ++ m) := by
  intro D
  induction D with
  | nil => intro l m h; exact h
  | cons a D ih => intro l m h; exact Or.inr ⟨rfl, ih l m h⟩
def te_stk (P : te_P) (s : te_S) : Prop := ∀ t, t < 3 → te_can P s t = false
def te_stb (P : te_P) (s : te_S) : Bool := !te_can P s 0 && (!te_can P s 1 && !te_can P s 2)
theorem te_stb_t {P : te_P} {s : te_S} : te_stb P s = true ↔ te_stk P s := by
  unfold te_stb
  constructor
  · intro h t ht
    simp only [Bool.and_eq_true, Bool.not_eq_true'] at h
    have : t = 0 ∨ t = 1 ∨ t = 2 := by omega
    rcases this with rfl | rfl | rfl
    · exact h.1
    · exact h.2.1
    · exact h.2.2
  · intro h
    rw [h 0 (by omega), h 1 (by omega), h 2 (by omega)]
    rfl
theorem te_not_stk {P : te_P} {s : te_S} : te_stb P s = false ↔ ∃ t, t < 3 ∧ te_can P s t = true := by
  constructor
  · intro h
    cases h0 : te_can P s 0 with
    | true => exact ⟨0, by omega, h0⟩
    | false =>
      cases h1 : te_can P s 1 with
      | true => exact ⟨1, by omega, h1⟩
      | false =>
        cases h2 : te_can P s 2 with
        | true => exact ⟨2, by omega, h2⟩
        | false => unfold te_stb at h; rw [h0, h1, h2] at h; exact absurd h (by decide)
  · intro ⟨t, ht, hc⟩
    cases hb : te_stb P s with
    | false => rfl
    | true => rw [te_stb_t.mp hb t ht] at hc; exact absurd hc (by decide)
def te_br (P : te_P) (s : te_S) (t : Nat) (L : List (List Nat)) : List (List Nat) := if te_can P s t = true then L.map (fun l => t :: l) else []
def te_lv (P : te_P) : Nat → te_S → List (List Nat)
  | 0, _ => [[]]
  | n + 1, s => if te_stb P s = true then [[]] else te_br P s 0 (te_lv P n (te_act P s 0)) ++ (te_br P s 1 (te_lv P n (te_act P s 1)) ++ te_br P s 2 (te_lv P n (te_act P s 2)))
theorem te_br_mem {P : te_P} {s : te_S} {t : Nat} {L : List (List Nat)} {l : List Nat} : l ∈ te_br P s t L ↔ te_can P s t = true ∧ ∃ m, m ∈ L ∧ l = t :: m := by
  unfold te_br
  by_cases c : te_can P s t = true
  · rw [if_pos c, List.mem_map]
    exact ⟨fun ⟨m, hm, e⟩ => ⟨c, m, hm, e.symm⟩, fun ⟨_, m, hm, e⟩ => ⟨m, hm, e.symm⟩⟩
  · rw [if_neg c]
    exact ⟨fun h => absurd h List.not_mem_nil, fun h => absurd h.1 c⟩
def te_rm (P : te_P) (s : te_S) : Nat := (te_sz P 0 - te_dn s 0) + (te_sz P 1 - te_dn s 1) + (te_sz P 2 - te_dn s 2)
theorem te_can_lt {P : te_P} {s : te_S} {t : Nat} (h : te_can P s t = true) : te_dn s t < te_sz P t := by
  unfold te_can at h
  rw [Bool.and_eq_true, decide_eq_true_eq] at h
  exact h.1
theorem te_rm_act {P : te_P} {s : te_S} {t : Nat} (ht : t < 3) (h : te_can P s t = true) : te_rm P (te_act P s t) + 1 = te_rm P s := by
  have hl := te_can_lt h
  unfold te_rm
  rw [te_dn_a, te_dn_a, te_dn_a]
  have : t = 0 ∨ t = 1 ∨ t = 2 := by omega
  rcases this with rfl | rfl | rfl
  · rw [if_pos rfl, if_neg (by omega), if_neg (by omega)]; omega
  · rw [if_neg (by omega), if_pos rfl, if_neg (by omega)]; omega
  · rw [if_neg (by omega), if_neg (by omega), if_pos rfl]; omega
theorem te_rm_run {P : te_P} : ∀ (l : List Nat) (s : te_S), te_ok P s l → te_rm P (te_run P s l) + l.length = te_rm P s := by
  intro l
  induction l with
  | nil => intro s _; rfl
  | cons t l ih =>
    intro s h
    have a := ih _ h.2.2
    have b := te_rm_act h.1 h.2.1
    show te_rm P (te_run P (te_act P s t) l) + (l.length + 1) = _
    omega
theorem te_rm_stk {P : te_P} {s : te_S} (h : te_rm P s = 0) : te_stk P s := by
  intro t ht
  cases hc : te_can P s t with
  | false => rfl
  | true => have := te_rm_act ht hc; omega
theorem te_lv_mem {P : te_P} : ∀ (n : Nat) (s : te_S) (l : List Nat), te_rm P s ≤ n → (l ∈ te_lv P n s ↔ te_ok P s l ∧ te_stk P (te_run P s l)) := by
  intro n
  induction n with
  | zero =>
    intro s l h
    have hs := te_rm_stk (P := P) (s := s) (by omega)
    show l ∈ [[]] ↔ _
    rw [List.mem_singleton]
    constructor
    · intro e; subst e; exact ⟨trivial, hs⟩
    · intro ⟨h1, _⟩
      cases l with
      | nil => rfl
      | cons t l => have h2 := h1.2.1; rw [hs t h1.1] at h2; exact absurd h2 (by decide)
  | succ n ih =>
    intro s l h
    show l ∈ (if te_stb P s = true then [[]] else _) ↔ _
    by_cases c : te_stb P s = true
    · rw [if_pos c, List.mem_singleton]
      have hs := te_stb_t.mp c
      constructor
      · intro e; subst e; exact ⟨trivial, hs⟩
      · intro ⟨h1, _⟩
        cases l with
        | nil => rfl
        | cons t l => have h2 := h1.2.1; rw [hs t h1.1] at h2; exact absurd h2 (by decide)
    · rw [if_neg c, List.mem_append, List.mem_append, te_br_mem, te_br_mem, te_br_mem]
      have key : ∀ t, t < 3 → ((te_can P s t = true ∧ ∃ m, m ∈ te_lv P n (te_act P s t) ∧ l = t :: m) ↔ (te_ok P s l ∧ te_stk P (te_run P s l)) ∧ ∃ m, l = t :: m) := by
        intro t ht
        constructor
        · intro ⟨h1, m, hm, e⟩
          have hr := te_rm_act ht h1
          rw [ih _ _ (by omega)] at hm
          subst e
          exact ⟨⟨⟨ht, h1, hm.1⟩, hm.2⟩, m, rfl⟩
        · intro ⟨⟨h1, h2⟩, m, e⟩
          subst e
          have hr := te_rm_act ht h1.2.1
          exact ⟨h1.2.1, m, (ih _ _ (by omega)).mpr ⟨h1.2.2, h2⟩, rfl⟩
      rw [key 0 (by omega), key 1 (by omega), key 2 (by omega)]
      constructor
      · intro hh; rcases hh with hh | hh | hh <;> exact hh.1
      · intro hh
        cases l with
        | nil =>
          have := te_stb_t.mpr hh.2
          exact absurd this c
        | cons t m =>
          have ht := hh.1.1
          have : t = 0 ∨ t = 1 ∨ t = 2 := by omega
          rcases this with rfl | rfl | rfl
          · exact Or.inl ⟨hh, m, rfl⟩
          · exact Or.inr (Or.inl ⟨hh, m, rfl⟩)
          · exact Or.inr (Or.inr ⟨hh, m, rfl⟩)
theorem te_br_pw {P : te_P} {s : te_S} {t : Nat} {L : List (List Nat)} (h : L.Pairwise te_lt) : (te_br P s t L).Pairwise te_lt := by
  unfold te_br
  by_cases c : te_can P s t = true
  · rw [if_pos c, List.pairwise_map]
    exact h.imp (fun h => Or.inr ⟨rfl, h⟩)
  · rw [if_neg c]; exact List.Pairwise.nil
theorem te_br_cr {P : te_P} {s : te_S} {t t' : Nat} {L L' : List (List Nat)} (h : t < t') : ∀ a, a ∈ te_br P s t L → ∀ b, b ∈ te_br P s t' L' → te_lt a b := by
  intro a ha b hb
  obtain ⟨_, m, _, rfl⟩ := te_br_mem.mp ha
  obtain ⟨_, m', _, rfl⟩ := te_br_mem.mp hb
  exact Or.inl h
theorem te_lv_pw {P : te_P} : ∀ (n : Nat) (s : te_S), (te_lv P n s).Pairwise te_lt := by
  intro n
  induction n with
  | zero => intro s; exact List.pairwise_cons.mpr ⟨fun a h => absurd h List.not_mem_nil, List.Pairwise.nil⟩
  | succ n ih =>
    intro s
    show (if te_stb P s = true then [[]] else _).Pairwise te_lt
    by_cases c : te_stb P s = true
    · rw [if_pos c]
      exact List.pairwise_cons.mpr ⟨fun a h => absurd h List.not_mem_nil, List.Pairwise.nil⟩
    · rw [if_neg c, List.pairwise_append, List.pairwise_append]
      refine ⟨te_br_pw (ih _), ⟨te_br_pw (ih _), te_br_pw (ih _), te_br_cr (by omega)⟩, ?_⟩
      intro a ha b hb
      rw [List.mem_append] at hb
      rcases hb with hb | hb
      · exact te_br_cr (by omega) a ha b hb
      · exact te_br_cr (by omega) a ha b hb
/-- how many leaves at most -/
def te_bd : Nat → Nat → Nat → Nat → Nat
  | 0, _, _, _ => 1
  | n + 1, a, b, c => if a = 0 ∧ b = 0 ∧ c = 0 then 1 else (if a = 0 then 0 else te_bd n (a - 1) b c) + ((if b = 0 then 0 else te_bd n a (b - 1) c) + (if c = 0 then 0 else te_bd n a b (c - 1)))
theorem te_bd_pos : ∀ n a b c, 1 ≤ te_bd n a b c := by
  intro n
  induction n with
  | zero => intro a b c; exact Nat.le_refl 1
  | succ n ih =>
    intro a b c
    show 1 ≤ if a = 0 ∧ b = 0 ∧ c = 0 then 1 else _
    by_cases h : a = 0 ∧ b = 0 ∧ c = 0
    · rw [if_pos h]; exact Nat.le_refl 1
    · rw [if_neg h]
      have h1 := ih (a - 1) b c
      have h2 := ih a (b - 1) c
      have h3 := ih a b (c - 1)
      by_cases ha : a = 0
      · by_cases hb : b = 0
        · by_cases hc : c = 0
          · exact absurd ⟨ha, hb, hc⟩ h
          · rw [if_neg hc]; omega
        · rw [if_neg hb]; omega
      · rw [if_neg ha]; omega
theorem te_bd_le : ∀ a, a < 4 → ∀ b, b < 4 → ∀ c, c < 4 → te_bd 9 a b c ≤ 1680 := by decide +kernel
theorem te_br_len {P : te_P} {s : te_S} {t : Nat} {L : List (List Nat)} : (te_br P s t L).length = if te_can P s t = true then L.length else 0 := by
  unfold te_br
  by_cases c : te_can P s t = true
  · rw [if_pos c, if_pos c, List.length_map]
  · rw [if_neg c, if_neg c]; rfl
theorem te_lv_len {P : te_P} : ∀ (n : Nat) (s : te_S), (te_lv P n s).length ≤ te_bd n (te_sz P 0 - te_dn s 0) (te_sz P 1 - te_dn s 1) (te_sz P 2 - te_dn s 2) := by
  intro n
  induction n with
  | zero => intro s; exact Nat.le_refl 1
  | succ n ih =>
    intro s
    show (if te_stb P s = true then [[]] else _).length ≤ _
    by_cases c : te_stb P s = true
    · rw [if_pos c]; exact te_bd_pos _ _ _ _
    · rw [if_neg c, List.length_append, List.length_append, te_br_len, te_br_len, te_br_len]
      have i0 := ih (te_act P s 0)
      have i1 := ih (te_act P s 1)
      have i2 := ih (te_act P s 2)
      simp only [te_dn_a, if_pos, if_neg, Nat.reduceEqDiff, ↓reduceIte, Nat.zero_ne_one, Nat.one_ne_zero, Nat.succ_ne_zero, Nat.ne_of_lt] at i0 i1 i2
      obtain ⟨t, ht, hc⟩ := te_not_stk.mp (Bool.eq_false_iff.mpr c)
      have hnz : ¬ (te_sz P 0 - te_dn s 0 = 0 ∧ te_sz P 1 - te_dn s 1 = 0 ∧ te_sz P 2 - te_dn s 2 = 0) := by
        have hl := te_can_lt hc
        have : t = 0 ∨ t = 1 ∨ t = 2 := by omega
        rcases this with rfl | rfl | rfl <;> omega
      show _ ≤ if _ then 1 else _
      rw [if_neg hnz]
      have f : ∀ t, t < 3 → ∀ A B : Nat, A ≤ B → (if te_can P s t = true then A else 0) ≤ (if te_sz P t - te_dn s t = 0 then 0 else B) := by
        intro t _ A B h
        by_cases hc : te_can P s t = true
        · have hl := te_can_lt hc
          rw [if_pos hc, if_neg (by omega)]; exact h
        · rw [if_neg hc]; exact Nat.zero_le _
      refine Nat.add_le_add (f 0 (by omega) _ _ ?_) (Nat.add_le_add (f 1 (by omega) _ _ ?_) (f 2 (by omega) _ _ ?_))
      · exact (show te_sz P 0 - te_dn s 0 - 1 = te_sz P 0 - (te_dn s 0 + 1) by omega) ▸ i0
      · exact (show te_sz P 1 - te_dn s 1 - 1 = te_sz P 1 - (te_dn s 1 + 1) by omega) ▸ i1
      · exact (show te_sz P 2 - te_dn s 2 - 1 = te_sz P 2 - (te_dn s 2 + 1) by omega) ▸ i2
def te_all (P : te_P) : List (List Nat) := te_lv P 9 (te_s0 P)
theorem te_rm0 {P : te_P} (hW : te_W P) : te_rm P (te_s0 P) ≤ 9 := by
  have h0 := hW.1 0 (by omega)
  have h1 := hW.1 1 (by omega)
  have h2 := hW.1 2 (by omega)
  unfold te_rm
  omega
theorem te_all_mem {P : te_P} (hW : te_W P) (l : List Nat) : l ∈ te_all P ↔ te_ok P (te_s0 P) l ∧ te_stk P (te_run P (te_s0 P) l) := te_lv_mem 9 _ l (te_rm0 hW)
theorem te_all_len {P : te_P} (hW : te_W P) : (te_all P).length ≤ 1680 := by
  have h0 := hW.1 0 (by omega)
  have h1 := hW.1 1 (by omega)
  have h2 := hW.1 2 (by omega)
  exact Nat.le_trans (te_lv_len 9 _) (te_bd_le _ (by omega) _ (by omega) _ (by omega))
end
section
/-! which of two steps comes first; alike rows; the least of alike rows -/
def te_bf : List (Nat × Nat) → Nat × Nat → Nat × Nat → Prop
  | [], _, _ => False
  | z :: L, x, y => (z = x ∧ y ∈ L) ∨ te_bf L x y
theorem te_bf_mem : ∀ {L : List (Nat × Nat)} {x y : Nat × Nat}, te_bf L x y → x ∈ L ∧ y ∈ L := by
  intro L
  induction L with
  | nil => intro x y h; exact absurd h id
  | cons z L ih =>
    intro x y h
    rcases h with h | h
    · exact ⟨by rw [h.1]; exact List.mem_cons_self, List.mem_cons_of_mem _ h.2⟩
    · exact ⟨List.mem_cons_of_mem _ (ih h).1, List.mem_cons_of_mem _ (ih h).2⟩
theorem te_bf_asym : ∀ {L : List (Nat × Nat)} {x y : Nat × Nat}, L.Pairwise (fun x y => x ≠ y) → te_bf L x y → te_bf L y x → False := by
  intro L
  induction L with
  | nil => intro x y _ h; exact absurd h id
  | cons z L ih =>
    intro x y hp h h'
    rw [List.pairwise_cons] at hp
    rcases h with h | h
    · rcases h' with h' | h'
      · exact hp.1 y h.2 h'.1
      · exact hp.1 x (te_bf_mem h').2 h.1
    · rcases h' with h' | h'
      · exact hp.1 y (te_bf_mem h).2 h'.1
      · exact ih hp.2 h h'
theorem te_bf_mid : ∀ (A C : List (Nat × Nat)) (x y : Nat × Nat), x ∈ A → te_bf (A ++ y :: C) x y := by
  intro A
  induction A with
  | nil => intro C x y h; exact absurd h List.not_mem_nil
  | cons z A ih =>
    intro C x y h
    rw [List.mem_cons] at h
    rcases h with h | h
    · exact Or.inl ⟨h.symm, List.mem_append_right _ List.mem_cons_self⟩
    · exact Or.inr (ih C x y h)
theorem te_bf_mid2 : ∀ (A C : List (Nat × Nat)) (x y : Nat × Nat), y ∈ C → te_bf (A ++ x :: C) x y := by
  intro A
  induction A with
  | nil => intro C x y h; exact Or.inl ⟨rfl, h⟩
  | cons z A ih => intro C x y h; exact Or.inr (ih C x y h)
theorem te_bf_swap {z a x y : Nat × Nat} {Y : List (Nat × Nat)} (h1 : ¬ (x = z ∧ y = a)) (h2 : ¬ (x = a ∧ y = z)) : te_bf (z :: a :: Y) x y ↔ te_bf (a :: z :: Y) x y := by
  show ((z = x ∧ y ∈ a :: Y) ∨ ((a = x ∧ y ∈ Y) ∨ te_bf Y x y)) ↔ ((a = x ∧ y ∈ z :: Y) ∨ ((z = x ∧ y ∈ Y) ∨ te_bf Y x y))
  rw [List.mem_cons, List.mem_cons]
  constructor
  · intro h
    rcases h with ⟨e, h | h⟩ | h | h
    · exact absurd ⟨e.symm, h⟩ h1
    · exact Or.inr (Or.inl ⟨e, h⟩)
    · exact Or.inl ⟨h.1, Or.inr h.2⟩
    · exact Or.inr (Or.inr h)
  · intro h
    rcases h with ⟨e, h | h⟩ | h | h
    · exact absurd ⟨e.symm, h⟩ h2
    · exact Or.inr (Or.inl ⟨e, h⟩)
    · exact Or.inl ⟨h.1, Or.inr h.2⟩
    · exact Or.inr (Or.inr h)
theorem te_bf_app : ∀ (A : List (Nat × Nat)) {L M : List (Nat × Nat)} {x y : Nat × Nat}, (∀ w, w ∈ L ↔ w ∈ M) → (te_bf L x y ↔ te_bf M x y) → (te_bf (A ++ L) x y ↔ te_bf (A ++ M) x y) := by
  intro A
  induction A with
  | nil => intro L M x y _ h; exact h
  | cons z A ih =>
    intro L M x y hm h
    show ((z = x ∧ y ∈ A ++ L) ∨ te_bf (A ++ L) x y) ↔ ((z = x ∧ y ∈ A ++ M) ∨ te_bf (A ++ M) x y)
    rw [ih hm h, List.mem_append, List.mem_append, hm]
theorem te_mv {P : te_P} : ∀ (n : List Nat) (s : te_S) (a : Nat) (c : List Nat), (∀ z, z ∈ te_st P s n → te_ti P z (a, te_dn s a) = false) → te_ok P s (n ++ a :: c) →
    te_ok P s (a :: (n ++ c)) ∧ te_run P s (n ++ [a]) = te_run P s (a :: n) ∧ (∀ x, x ∈ te_st P s (n ++ a :: c) ↔ x ∈ te_st P s (a :: (n ++ c))) ∧ ∀ x y, te_ti P x y = true → (te_bf (te_st P s (n ++ a :: c)) x y ↔ te_bf (te_st P s (a :: (n ++ c))) x y) := by
  intro n
  induction n with
  | nil => intro s a c _ h; exact ⟨h, rfl, fun x => Iff.rfl, fun x y _ => Iff.rfl⟩
  | cons z n ih =>
    intro s a c hu h
    have hz : te_ti P (z, te_dn s z) (a, te_dn s a) = false := hu _ List.mem_cons_self
    have hz' : te_ti P (a, te_dn s a) (z, te_dn s z) = false := by rw [te_ti_symm]; exact hz
    have hza : z ≠ a := (te_un hz).1
    have d1 : te_dn (te_act P s z) a = te_dn s a := te_u_ne _ _ (Ne.symm hza)
    have d2 : te_dn (te_act P s a) z = te_dn s z := te_u_ne _ _ hza
    have hc := te_comm hz
    have k1 := te_can_act hz'
    have k2 := te_can_act hz
    obtain ⟨o1, o2, o3, o4⟩ := ih (te_act P s z) a c (fun w hw => by rw [d1]; exact hu w (List.mem_cons_of_mem _ hw)) h.2.2
    have e1 : te_st P s (z :: n ++ a :: c) = (z, te_dn s z) :: te_st P (te_act P s z) (n ++ a :: c) := rfl
    have e2 : te_st P (te_act P s z) (a :: (n ++ c)) = (a, te_dn s a) :: te_st P (te_act P (te_act P s z) a) (n ++ c) := by
      rw [← d1]; rfl
    have e3 : te_st P s (a :: (z :: n ++ c)) = (a, te_dn s a) :: (z, te_dn s z) :: te_st P (te_act P (te_act P s z) a) (n ++ c) := by
      rw [hc, ← d2]; rfl
    refine ⟨⟨o1.1, by rw [← k1]; exact o1.2.1, h.1, by rw [k2]; exact h.2.1, ?_⟩, ?_, ?_, ?_⟩
    · rw [← hc]; exact o1.2.2
    · show te_run P (te_act P s z) (n ++ [a]) = te_run P (te_act P (te_act P s a) z) n
      rw [o2, ← hc]; rfl
    · intro x
      rw [e1, e3, List.mem_cons, o3, e2, List.mem_cons, List.mem_cons, List.mem_cons]
      constructor
      · intro h; rcases h with h | h | h
        · exact Or.inr (Or.inl h)
        · exact Or.inl h
        · exact Or.inr (Or.inr h)
      · intro h; rcases h with h | h | h
        · exact Or.inr (Or.inl h)
        · exact Or.inl h
        · exact Or.inr (Or.inr h)
    · intro x y hxy
      rw [e1, e3]
      have hs : te_bf ((z, te_dn s z) :: te_st P (te_act P s z) (n ++ a :: c)) x y ↔ te_bf ((z, te_dn s z) :: (a, te_dn s a) :: te_st P (te_act P (te_act P s z) a) (n ++ c)) x y := by
        rw [← e2]
        exact te_bf_app [(z, te_dn s z)] o3 (o4 x y hxy)
      rw [hs]
      refine te_bf_swap ?_ ?_
      · intro ⟨p, q⟩; subst p; subst q; rw [hz] at hxy; exact absurd hxy (by decide)
      · intro ⟨p, q⟩; subst p; subst q; rw [hz'] at hxy; exact absurd hxy (by decide)
theorem te_split {P : te_P} : ∀ (A B : List (Nat × Nat)) (l : List Nat) (s : te_S), te_st P s l = A ++ B → ∃ l1 l2, l = l1 ++ l2 ∧ te_st P s l1 = A ∧ te_st P (te_run P s l1) l2 = B := by
  intro A
  induction A with
  | nil => intro B l s h; exact ⟨[], l, rfl, rfl, h⟩
  | cons z A ih =>
    intro B l s h
    cases l with
    | nil => exact absurd h.symm (List.cons_ne_nil z (A ++ B))
    | cons t l =>
      have h1 : (t, te_dn s t) = z := (List.cons.inj h).1
      have h2 : te_st P (te_act P s t) l = A ++ B := (List.cons.inj h).2
      obtain ⟨l1, l2, e1, e2, e3⟩ := ih B l _ h2
      refine ⟨t :: l1, l2, ?_, ?_, e3⟩
      · rw [e1]; rfl
      · show (t, te_dn s t) :: te_st P (te_act P s t) l1 = z :: A
        rw [e2, h1]
def te_like (P : te_P) (l l' : List Nat) : Prop :=
  (∀ t, t < 3 → te_dn (te_run P (te_s0 P) l) t = te_dn (te_run P (te_s0 P) l') t) ∧ ∀ x y : Nat × Nat, x.1 < 3 → x.2 < 3 → y.1 < 3 → y.2 < 3 → 3 * y.1 + y.2 < 3 * x.1 + x.2 → te_ti P x y = true → (te_bf (te_st P (te_s0 P) l) x y ↔ te_bf (te_st P (te_s0 P) l') x y)
def te_nf (P : te_P) (L : List (Nat × Nat)) : Prop :=
  ∃ A b M a C, L = A ++ b :: (M ++ a :: C) ∧ (∀ z, z ∈ b :: M → te_ti P z a = false) ∧ 4 * a.1 + a.2 < 4 * b.1 + b.2
theorem te_st_thr {P : te_P} {s : te_S} {l : List Nat} {z : Nat × Nat} (h : z ∈ te_st P s l) : z.1 ∈ l := by
  rw [te_st_mem, te_dn_run] at h
  have : 0 < l.count z.1 := by omega
  exact List.count_pos_iff.mp this
theorem te_ok_thr {P : te_P} : ∀ (l : List Nat) (s : te_S), te_ok P s l → ∀ t, t ∈ l → t < 3 := by
  intro l
  induction l with
  | nil => intro s _ t h; exact absurd h List.not_mem_nil
  | cons a l ih =>
    intro s h t ht
    rw [List.mem_cons] at ht
    rcases ht with e | e
    · rw [e]; exact h.1
    · exact ih _ h.2.2 t e
theorem te_ok_dn {P : te_P} : ∀ (l : List Nat) (s : te_S), te_ok P s l → ∀ t, te_dn s t ≤ te_sz P t → te_dn (te_run P s l) t ≤ te_sz P t := by
  intro l
  induction l with
  | nil => intro s _ t h; exact h
  | cons a l ih =>
    intro s h t ht
    refine ih _ h.2.2 t ?_
    rw [te_dn_a]
    by_cases c : t = a
    · rw [if_pos c]; have := te_can_lt h.2.1; rw [c]; omega
    · rw [if_neg c]; exact ht
/-- a row that is not the least of its kind has an alike lesser one -/
theorem te_A {P : te_P} (hW : te_W P) {l : List Nat} (hl : te_ok P (te_s0 P) l) (hk : te_stk P (te_run P (te_s0 P) l)) (hn : te_nf P (te_st P (te_s0 P) l)) :
    ∃ l', te_ok P (te_s0 P) l' ∧ te_stk P (te_run P (te_s0 P) l') ∧ te_lt l' l ∧ te_like P l' l := by
  obtain ⟨A, b, M, a, C, e, hu, hlt⟩ := hn
  obtain ⟨l1, l2, e1, e2, e3⟩ := te_split A _ l _ e
  obtain ⟨n, r, f1, f2, f3⟩ := te_split (b :: M) (a :: C) l2 (te_run P (te_s0 P) l1) e3
  cases r with
  | nil => exact absurd f3.symm (List.cons_ne_nil a C)
  | cons t c =>
    cases n with
    | nil => exact absurd f2.symm (List.cons_ne_nil b M)
    | cons w m =>
      have g1 := (List.cons.inj f3).1
      have g2 : (w, te_dn (te_run P (te_s0 P) l1) w) = b := (List.cons.inj f2).1
      subst g2
      subst g1
      have hnt : t ∉ w :: m := by
        intro hin
        have hc : 0 < (w :: m).count t := List.count_pos_iff.mpr hin
        have hd := te_dn_run (P := P) (w :: m) (te_run P (te_s0 P) l1) t
        have hx : (t, te_dn (te_run P (te_s0 P) l1) t) ∈ te_st P (te_run P (te_s0 P) l1) (w :: m) := by
          rw [te_st_mem]; exact ⟨Nat.le_refl _, by simp only; omega⟩
        rw [f2] at hx
        exact (te_un (hu _ hx)).1 rfl
      have hd : te_dn (te_run P (te_run P (te_s0 P) l1) (w :: m)) t = te_dn (te_run P (te_s0 P) l1) t := by
        rw [te_dn_run, List.count_eq_zero.mpr hnt]; rfl
      have hu' : ∀ z, z ∈ te_st P (te_run P (te_s0 P) l1) (w :: m) → te_ti P z (t, te_dn (te_run P (te_s0 P) l1) t) = false := by
        intro z hz
        rw [f2] at hz
        have := hu z hz
        rw [hd] at this
        exact this
      have hl' := hl
      rw [e1, f1, te_ok_app] at hl'
      obtain ⟨q1, q2, q3, q4⟩ := te_mv (w :: m) _ t c hu' hl'.2
      have hrun : te_run P (te_s0 P) (l1 ++ (t :: (w :: m ++ c))) = te_run P (te_s0 P) l := by
        rw [e1, f1, te_run_app, te_run_app]
        have r1 : te_run P (te_run P (te_s0 P) l1) (t :: (w :: m ++ c)) = te_run P (te_run P (te_run P (te_s0 P) l1) (t :: (w :: m))) c := te_run_app (t :: (w :: m)) c _
        have r2 : te_run P (te_run P (te_s0 P) l1) (w :: m ++ t :: c) = te_run P (te_run P (te_run P (te_s0 P) l1) (w :: m ++ [t])) c := by
          have r3 := te_run_app (P := P) (w :: m ++ [t]) c (te_run P (te_s0 P) l1)
          rw [List.append_assoc] at r3
          exact r3
        rw [r1, r2, q2]
      refine ⟨l1 ++ (t :: (w :: m ++ c)), (te_ok_app _ _ _).mpr ⟨hl'.1, q1⟩, ?_, ?_, ?_⟩
      · rw [hrun]; exact hk
      · rw [e1, f1]
        refine te_lt_app l1 _ _ (Or.inl ?_)
        have hw3 : w < 3 := hl'.2.1
        have hb := hW.1 w hw3
        have hb2 := te_can_lt hl'.2.2.1
        have hne : w ≠ t := fun z => hnt (by rw [z]; exact List.mem_cons_self)
        rw [hd] at hlt
        simp only at hlt
        omega
      · refine ⟨fun t _ => by rw [hrun], fun x y _ _ _ _ _ hxy => ?_⟩
        rw [e1, f1, te_st_app, te_st_app]
        exact te_bf_app _ (fun w => (q3 w).symm) (q4 x y hxy).symm
/-- of two alike rows the greater is not the least of its kind -/
theorem te_B {P : te_P} (hW : te_W P) {l l' : List Nat} (hl : te_ok P (te_s0 P) l) (hl' : te_ok P (te_s0 P) l') (hlt : te_lt l' l) (hk : te_like P l' l) : te_nf P (te_st P (te_s0 P) l) := by
  obtain ⟨D, a, R', b, R, e1, e2, hab⟩ := te_lt_pre _ _ hlt
  obtain ⟨hk1, hk2⟩ := hk
  have ha3 : a < 3 := te_ok_thr _ _ hl' a (by rw [e1]; exact List.mem_append_right _ List.mem_cons_self)
  have hq := hk1 a ha3
  rw [e1, e2, te_run_app, te_run_app, te_dn_run, te_dn_run (b :: R), List.count_cons_self, List.count_cons_of_ne (by omega)] at hq
  have haR : a ∈ R := List.count_pos_iff.mp (by omega)
  obtain ⟨M, C, e3, hM⟩ := List.eq_append_cons_of_mem haR
  subst e3
  have hbM : a ∉ b :: M := by
    intro h
    rw [List.mem_cons] at h
    rcases h with h | h
    · omega
    · exact hM h
  have hda : te_dn (te_run P (te_run P (te_s0 P) D) (b :: M)) a = te_dn (te_run P (te_s0 P) D) a := by
    rw [te_dn_run, List.count_eq_zero.mpr hbM]; rfl
  have hL : te_st P (te_s0 P) l = te_st P (te_s0 P) D ++ (b, te_dn (te_run P (te_s0 P) D) b) :: (te_st P (te_act P (te_run P (te_s0 P) D) b) M ++ (a, te_dn (te_run P (te_s0 P) D) a) :: te_st P (te_act P (te_run P (te_run P (te_s0 P) D) (b :: M)) a) C) := by
    have r : te_st P (te_run P (te_s0 P) D) (b :: (M ++ a :: C)) = te_st P (te_run P (te_s0 P) D) (b :: M) ++ te_st P (te_run P (te_run P (te_s0 P) D) (b :: M)) (a :: C) := by
      rw [← te_st_app]; rfl
    rw [e2, te_st_app, r, ← hda]
    rfl
  have hL' : te_st P (te_s0 P) l' = te_st P (te_s0 P) D ++ (a, te_dn (te_run P (te_s0 P) D) a) :: te_st P (te_act P (te_run P (te_s0 P) D) a) R' := by
    rw [e1, te_st_app]; rfl
  have ho := hl
  rw [e2, te_ok_app] at ho
  have ho' := hl'
  rw [e1, te_ok_app] at ho'
  have hia : te_dn (te_run P (te_s0 P) D) a < 3 := by
    have := te_can_lt ho'.2.2.1
    have := hW.1 a ha3
    omega
  refine ⟨_, _, _, _, _, hL, ?_, ?_⟩
  · intro z hz
    cases ht : te_ti P z (a, te_dn (te_run P (te_s0 P) D) a) with
    | false => rfl
    | true =>
      exfalso
      have hz' : z ∈ te_st P (te_run P (te_s0 P) D) (b :: M) := hz
      have hz1 : z.1 ∈ b :: M := te_st_thr hz'
      have hza : z.1 ≠ a := fun h => hbM (h ▸ hz1)
      have hz3 : z.1 < 3 := by
        refine te_ok_thr _ _ ho.2 z.1 ?_
        rw [List.mem_cons] at hz1 ⊢
        rcases hz1 with h | h
        · exact Or.inl h
        · exact Or.inr (List.mem_append_left _ h)
      have hzm := te_st_mem (P := P) (b :: M) (te_run P (te_s0 P) D) z
      have hzr := hzm.mp hz'
      have hfin : z.2 < te_dn (te_run P (te_s0 P) l) z.1 := by
        have r : te_run P (te_s0 P) l = te_run P (te_run P (te_run P (te_s0 P) D) (b :: M)) (a :: C) := by
          rw [e2, te_run_app, ← te_run_app (b :: M)]; rfl
        rw [r, te_dn_run]
        omega
      have hz2 : z.2 < 3 := by
        have := te_ok_dn l _ hl z.1 (Nat.zero_le _)
        have := hW.1 z.1 hz3
        omega
      have hbL : te_bf (te_st P (te_s0 P) l) z (a, te_dn (te_run P (te_s0 P) D) a) := by
        rw [hL]
        have := te_bf_mid (te_st P (te_s0 P) D ++ te_st P (te_run P (te_s0 P) D) (b :: M)) (te_st P (te_act P (te_run P (te_run P (te_s0 P) D) (b :: M)) a) C) z (a, te_dn (te_run P (te_s0 P) D) a) (List.mem_append_right _ hz')
        rw [List.append_assoc] at this
        exact this
      have hbL' : te_bf (te_st P (te_s0 P) l') (a, te_dn (te_run P (te_s0 P) D) a) z := by
        rw [hL']
        refine te_bf_mid2 _ _ _ _ ?_
        rw [te_st_mem]
        constructor
        · rw [te_dn_a, if_neg hza]; exact hzr.1
        · have r : te_run P (te_act P (te_run P (te_s0 P) D) a) R' = te_run P (te_s0 P) l' := by
            rw [e1, te_run_app]; rfl
          rw [r, hk1 z.1 hz3]; exact hfin
      have hne : 3 * z.1 + z.2 ≠ 3 * a + te_dn (te_run P (te_s0 P) D) a := by omega
      rcases Nat.lt_or_gt_of_ne hne with h | h
      · have := (hk2 (a, te_dn (te_run P (te_s0 P) D) a) z ha3 hia hz3 hz2 h (by rw [te_ti_symm]; exact ht)).mp hbL'
        exact te_bf_asym (te_st_nd l _) this hbL
      · have := (hk2 z (a, te_dn (te_run P (te_s0 P) D) a) hz3 hz2 ha3 hia h ht).mpr hbL
        exact te_bf_asym (te_st_nd l' _) this hbL'
  · simp only
    omega
/-- at each leaf: not the least of its kind if and only if an alike one stands before it -/
theorem te_first {P : te_P} (hW : te_W P) {D B : List (List Nat)} {l : List Nat} (h : te_all P = D ++ l :: B) : te_nf P (te_st P (te_s0 P) l) ↔ ∃ l', l' ∈ D ∧ te_like P l' l := by
  have hp : (te_all P).Pairwise te_lt := te_lv_pw 9 _
  have hl := (te_all_mem hW l).mp (by rw [h]; exact List.mem_append_right _ List.mem_cons_self)
  have hp2 := hp
  rw [h, List.pairwise_append] at hp2
  constructor
  · intro hn
    obtain ⟨l', h1, h2, h3, h4⟩ := te_A hW hl.1 hl.2 hn
    refine ⟨l', ?_, h4⟩
    have hm := (te_all_mem hW l').mpr ⟨h1, h2⟩
    rw [h, List.mem_append, List.mem_cons] at hm
    rcases hm with hm | hm | hm
    · exact hm
    · rw [hm] at h3; exact absurd h3 (te_lt_irr _)
    · have := (List.pairwise_cons.mp hp2.2.1).1 l' hm
      exact absurd h3 (fun z => te_lt_asym _ _ z this)
  · intro ⟨l', hm, hk⟩
    have hl' := (te_all_mem hW l').mp (by rw [h]; exact List.mem_append_left _ hm)
    exact te_B hW hl.1 hl'.1 (hp2.2.2 l' hm l List.mem_cons_self) hk
end
section
/-! the leaves below a row, the leaves to its right, and how the two machines go on -/
def te_q (P : te_P) (p : List Nat) : te_S := te_run P (te_s0 P) p
theorem te_q_snoc (P : te_P) (p : List Nat) (t : Nat) : te_q P (p ++ [t]) = te_act P (te_q P p) t := by
  unfold te_q
  rw [te_run_app]; rfl
def te_o (P : te_P) (p : List Nat) : Prop := te_ok P (te_s0 P) p
theorem te_o_snoc (P : te_P) (p : List Nat) (t : Nat) : te_o P (p ++ [t]) ↔ te_o P p ∧ t < 3 ∧ te_can P (te_q P p) t = true := by
  unfold te_o te_q
  rw [te_ok_app]
  exact ⟨fun h => ⟨h.1, h.2.1, h.2.2.1⟩, fun h => ⟨h.1, h.2.1, h.2.2, trivial⟩⟩
theorem te_o_nil (P : te_P) : te_o P [] := trivial
theorem te_o_len {P : te_P} (hW : te_W P) {p : List Nat} (h : te_o P p) : te_rm P (te_q P p) + p.length ≤ 9 := by
  have h1 := te_rm_run p _ h
  have h2 := te_rm0 hW
  unfold te_q
  omega
theorem te_o_lt {P : te_P} (hW : te_W P) {p : List Nat} (h : te_o P p) {t : Nat} (ht : t < 3) (hc : te_can P (te_q P p) t = true) : p.length < 9 := by
  have h1 := te_o_len hW h
  have h2 := te_rm_act ht hc
  omega
theorem te_o_take {P : te_P} {p : List Nat} (h : te_o P p) (k : Nat) : te_o P (p.take k) := by
  unfold te_o at *
  rw [← List.take_append_drop k p, te_ok_app] at h
  exact h.1
def te_Lv (P : te_P) (p : List Nat) : List (List Nat) := (te_lv P (9 - p.length) (te_q P p)).map (fun l => p ++ l)
def te_KB (P : te_P) (p : List Nat) (f t : Nat) : List (List Nat) := if f ≤ t ∧ te_can P (te_q P p) t = true then te_Lv P (p ++ [t]) else []
def te_Kd (P : te_P) (p : List Nat) (f : Nat) : List (List Nat) := te_KB P p f 0 ++ (te_KB P p f 1 ++ te_KB P p f 2)
def te_RR (P : te_P) : List Nat → List (List Nat)
  | [] => []
  | t :: r => te_Kd P r.reverse (t + 1) ++ te_RR P r
def te_Rs (P : te_P) (p : List Nat) : List (List Nat) := te_RR P p.reverse
theorem te_Rs_nil (P : te_P) : te_Rs P [] = [] := rfl
theorem te_Rs_snoc (P : te_P) (p : List Nat) (t : Nat) : te_Rs P (p ++ [t]) = te_Kd P p (t + 1) ++ te_Rs P p := by
  unfold te_Rs
  rw [List.reverse_append]
  show te_Kd P p.reverse.reverse (t + 1) ++ te_RR P p.reverse = _
  rw [List.reverse_reverse]
theorem te_all_Lv (P : te_P) : te_all P = te_Lv P [] := by
  unfold te_all te_Lv
  have e : (fun l : List Nat => [] ++ l) = id := rfl
  rw [e, List.map_id]
  rfl
theorem te_Lv_stk {P : te_P} {p : List Nat} (h : te_stb P (te_q P p) = true) : te_Lv P p = [p] := by
  unfold te_Lv
  have e : te_lv P (9 - p.length) (te_q P p) = [[]] := by
    cases 9 - p.length with
    | zero => rfl
    | succ n => exact if_pos h
  rw [e]
  show [p ++ []] = [p]
  rw [List.append_nil]
theorem te_br_KB {P : te_P} {p : List Nat} {n t : Nat} (hn : 9 - p.length = n + 1) : (te_br P (te_q P p) t (te_lv P n (te_act P (te_q P p) t))).map (fun l => p ++ l) = te_KB P p 0 t := by
  unfold te_br te_KB te_Lv
  by_cases c : te_can P (te_q P p) t = true
  · rw [if_pos c, if_pos ⟨Nat.zero_le _, c⟩, List.map_map, te_q_snoc]
    have e : 9 - (p ++ [t]).length = n := by rw [List.length_append]; show 9 - (p.length + 1) = n; omega
    rw [e]
    refine List.map_congr_left ?_
    intro l _
    show p ++ t :: l = p ++ [t] ++ l
    rw [List.append_assoc]; rfl
  · rw [if_neg c, if_neg (fun h => c h.2)]; rfl
theorem te_Lv_kd {P : te_P} (hW : te_W P) {p : List Nat} (ho : te_o P p) (h : te_stb P (te_q P p) = false) : te_Lv P p = te_Kd P p 0 := by
  obtain ⟨t, ht, hc⟩ := te_not_stk.mp h
  have hl := te_o_lt hW ho ht hc
  obtain ⟨n, hn⟩ : ∃ n, 9 - p.length = n + 1 := ⟨8 - p.length, by omega⟩
  unfold te_Lv te_Kd
  rw [hn]
  show (if te_stb P (te_q P p) = true then [[]] else _).map _ = _
  rw [if_neg (by rw [h]; decide), List.map_append, List.map_append, te_br_KB hn, te_br_KB hn, te_br_KB hn]
theorem te_KB_no {P : te_P} {p : List Nat} {f t : Nat} (h : f ≤ t → te_can P (te_q P p) t = false) : te_KB P p f t = [] := by
  unfold te_KB
  rw [if_neg]
  intro ⟨a, b⟩
  rw [h a] at b
  exact absurd b (by decide)
theorem te_KB_yes {P : te_P} {p : List Nat} {f t : Nat} (h : f ≤ t) (hc : te_can P (te_q P p) t = true) : te_KB P p f t = te_Lv P (p ++ [t]) := by
  unfold te_KB
  rw [if_pos ⟨h, hc⟩]
theorem te_KB_same {P : te_P} {p : List Nat} {f g t : Nat} (h : f ≤ t) (hg : g ≤ t) : te_KB P p f t = te_KB P p g t := by
  unfold te_KB
  by_cases c : te_can P (te_q P p) t = true
  · rw [if_pos ⟨h, c⟩, if_pos ⟨hg, c⟩]
  · rw [if_neg (fun z => c z.2), if_neg (fun z => c z.2)]
theorem te_Kd_none {P : te_P} {p : List Nat} {f : Nat} (h : ∀ t, f ≤ t → t < 3 → te_can P (te_q P p) t = false) : te_Kd P p f = [] := by
  unfold te_Kd
  rw [te_KB_no (fun a => h 0 a (by omega)), te_KB_no (fun a => h 1 a (by omega)), te_KB_no (fun a => h 2 a (by omega))]
  rfl
theorem te_Kd_next {P : te_P} {p : List Nat} {f t : Nat} (hf : f ≤ t) (ht : t < 3) (hc : te_can P (te_q P p) t = true) (h : ∀ j, f ≤ j → j < t → te_can P (te_q P p) j = false) : te_Kd P p f = te_Lv P (p ++ [t]) ++ te_Kd P p (t + 1) := by
  unfold te_Kd
  have : t = 0 ∨ t = 1 ∨ t = 2 := by omega
  rcases this with rfl | rfl | rfl
  · rw [te_KB_yes hf hc, te_KB_no (t := 0) (fun a => absurd a (by omega)), te_KB_same (f := f) (g := 0 + 1) (t := 1) (by omega) (by omega), te_KB_same (f := f) (g := 0 + 1) (t := 2) (by omega) (by omega)]
    rfl
  · rw [te_KB_no (f := f) (t := 0) (fun a => h 0 a (by omega)), te_KB_yes hf hc, te_KB_no (f := 1 + 1) (t := 0) (fun a => absurd a (by omega)), te_KB_no (f := 1 + 1) (t := 1) (fun a => absurd a (by omega)), te_KB_same (f := f) (g := 1 + 1) (t := 2) (by omega) (by omega)]
    rfl
  · rw [te_KB_no (f := f) (t := 0) (fun a => h 0 a (by omega)), te_KB_no (f := f) (t := 1) (fun a => h 1 a (by omega)), te_KB_yes hf hc, te_KB_no (f := 2 + 1) (t := 0) (fun a => absurd a (by omega)), te_KB_no (f := 2 + 1) (t := 1) (fun a => absurd a (by omega)), te_KB_no (f := 2 + 1) (t := 2) (fun a => absurd a (by omega))]
    simp
/-- what the first machine needs: on to the least able thread -/
theorem te_x2 {P : te_P} (hW : te_W P) {p : List Nat} (ho : te_o P p) {t : Nat} (ht : t < 3) (hc : te_can P (te_q P p) t = true) (h : ∀ j, j < t → te_can P (te_q P p) j = false) : te_Lv P p ++ te_Rs P p = te_Lv P (p ++ [t]) ++ te_Rs P (p ++ [t]) := by
  rw [te_Lv_kd hW ho (te_not_stk.mpr ⟨t, ht, hc⟩), te_Kd_next (Nat.zero_le _) ht hc (fun j _ hj => h j hj), te_Rs_snoc, List.append_assoc]
theorem te_x4 {P : te_P} {p : List Nat} {t : Nat} (h : ∀ j, t < j → j < 3 → te_can P (te_q P p) j = false) : te_Rs P (p ++ [t]) = te_Rs P p := by
  rw [te_Rs_snoc, te_Kd_none (fun j a b => h j a b)]; rfl
theorem te_x5 {P : te_P} {p : List Nat} {t t' : Nat} (hlt : t < t') (ht : t' < 3) (hc : te_can P (te_q P p) t' = true) (h : ∀ j, t < j → j < t' → te_can P (te_q P p) j = false) : te_Rs P (p ++ [t]) = te_Lv P (p ++ [t']) ++ te_Rs P (p ++ [t']) := by
  rw [te_Rs_snoc, te_Rs_snoc, te_Kd_next hlt ht hc (fun j a b => h j a b), List.append_assoc]
/-- where the next run first differs: none, or a place and a thread -/
def te_Bn (P : te_P) (r : List Nat) : Option (Nat × Nat) → Prop
  | none => te_Rs P r = []
  | some (k, t) => k < r.length ∧ t < 3 ∧ te_can P (te_q P (r.take k)) t = true ∧ te_Rs P r = te_Lv P (r.take k ++ [t]) ++ te_Rs P (r.take k ++ [t])
theorem te_Bn_nil (P : te_P) : te_Bn P [] none := rfl
theorem te_Bn_keep {P : te_P} {r : List Nat} {b : Option (Nat × Nat)} (h : te_Bn P r b) {t : Nat} (hn : ∀ j, t < j → j < 3 → te_can P (te_q P r) j = false) : te_Bn P (r ++ [t]) b := by
  cases b with
  | none => exact (te_x4 hn).trans h
  | some kt =>
    obtain ⟨k, t'⟩ := kt
    obtain ⟨h1, h2, h3, h4⟩ := h
    have e : (r ++ [t]).take k = r.take k := List.take_append_of_le_length (by omega)
    show k < (r ++ [t]).length ∧ t' < 3 ∧ te_can P (te_q P ((r ++ [t]).take k)) t' = true ∧ te_Rs P (r ++ [t]) = te_Lv P ((r ++ [t]).take k ++ [t']) ++ te_Rs P ((r ++ [t]).take k ++ [t'])
    rw [e, te_x4 hn]
    refine ⟨?_, h2, h3, h4⟩
    rw [List.length_append]; show k < r.length + 1; omega
theorem te_Bn_new {P : te_P} {r : List Nat} {t t' : Nat} (hlt : t < t') (ht : t' < 3) (hc : te_can P (te_q P r) t' = true) (h : ∀ j, t < j → j < t' → te_can P (te_q P r) j = false) : te_Bn P (r ++ [t]) (some (r.length, t')) := by
  have e : (r ++ [t]).take r.length = r := by
    rw [List.take_append_of_le_length (Nat.le_refl _), List.take_length]
  show r.length < (r ++ [t]).length ∧ t' < 3 ∧ te_can P (te_q P ((r ++ [t]).take r.length)) t' = true ∧ te_Rs P (r ++ [t]) = te_Lv P ((r ++ [t]).take r.length ++ [t']) ++ te_Rs P ((r ++ [t]).take r.length ++ [t'])
  rw [e]
  refine ⟨?_, ht, hc, te_x5 hlt ht hc h⟩
  rw [List.length_append]; show r.length < r.length + 1; omega
/-- the turns of the second machine -/
def te_tk (P : te_P) : Nat → te_S → Nat
  | 0, _ => 1
  | n + 1, s => 1 + ((if te_can P s 0 = true then 1 + te_tk P n (te_act P s 0) else 0) + ((if te_can P s 1 = true then 1 + te_tk P n (te_act P s 1) else 0) + (if te_can P s 2 = true then 1 + te_tk P n (te_act P s 2) else 0)))
def te_Tk (P : te_P) (p : List Nat) : Nat := te_tk P (9 - p.length) (te_q P p)
def te_TB (P : te_P) (p : List Nat) (f t : Nat) : Nat := if f ≤ t ∧ te_can P (te_q P p) t = true then 1 + te_Tk P (p ++ [t]) else 0
def te_TK (P : te_P) (p : List Nat) (f : Nat) : Nat := 1 + (te_TB P p f 0 + (te_TB P p f 1 + te_TB P p f 2))
def te_TR (P : te_P) : List Nat → Nat
  | [] => 0
  | t :: r => te_TK P r.reverse (t + 1) + te_TR P r
def te_Ts (P : te_P) (p : List Nat) : Nat := te_TR P p.reverse
theorem te_Ts_snoc (P : te_P) (p : List Nat) (t : Nat) : te_Ts P (p ++ [t]) = te_TK P p (t + 1) + te_Ts P p := by
  unfold te_Ts
  rw [List.reverse_append]
  show te_TK P p.reverse.reverse (t + 1) + te_TR P p.reverse = _
  rw [List.reverse_reverse]
theorem te_TB_no {P : te_P} {p : List Nat} {f t : Nat} (h : f ≤ t → te_can P (te_q P p) t = false) : te_TB P p f t = 0 := by
  unfold te_TB
  rw [if_neg]
  intro ⟨a, b⟩
  rw [h a] at b
  exact absurd b (by decide)
theorem te_TB_yes {P : te_P} {p : List Nat} {f t : Nat} (h : f ≤ t) (hc : te_can P (te_q P p) t = true) : te_TB P p f t = 1 + te_Tk P (p ++ [t]) := by
  unfold te_TB
  rw [if_pos ⟨h, hc⟩]
theorem te_TB_same {P : te_P} {p : List Nat} {f g t : Nat} (h : f ≤ t) (hg : g ≤ t) : te_TB P p f t = te_TB P p g t := by
  unfold te_TB
  by_cases c : te_can P (te_q P p) t = true
  · rw [if_pos ⟨h, c⟩, if_pos ⟨hg, c⟩]
  · rw [if_neg (fun z => c z.2), if_neg (fun z => c z.2)]
theorem te_Tk_TK {P : te_P} (hW : te_W P) {p : List Nat} (ho : te_o P p) : te_Tk P p = te_TK P p 0 := by
  cases hb : te_stb P (te_q P p) with
  | true =>
    have hs := te_stb_t.mp hb
    have e : te_TK P p 0 = 1 := by
      unfold te_TK
      rw [te_TB_no (fun _ => hs 0 (by omega)), te_TB_no (fun _ => hs 1 (by omega)), te_TB_no (fun _ => hs 2 (by omega))]
    rw [e]
    unfold te_Tk
    cases 9 - p.length with
    | zero => rfl
    | succ n =>
      show 1 + _ = 1
      rw [hs 0 (by omega), hs 1 (by omega), hs 2 (by omega)]
      rfl
  | false =>
    obtain ⟨t, ht, hc⟩ := te_not_stk.mp hb
    have hl := te_o_lt hW ho ht hc
    obtain ⟨n, hn⟩ : ∃ n, 9 - p.length = n + 1 := ⟨8 - p.length, by omega⟩
    have f : ∀ t, (if te_can P (te_q P p) t = true then 1 + te_tk P n (te_act P (te_q P p) t) else 0) = te_TB P p 0 t := by
      intro t
      unfold te_TB te_Tk
      have e : 9 - (p ++ [t]).length = n := by rw [List.length_append]; show 9 - (p.length + 1) = n; omega
      rw [e, te_q_snoc]
      by_cases c : te_can P (te_q P p) t = true
      · rw [if_pos c, if_pos ⟨Nat.zero_le _, c⟩]
      · rw [if_neg c, if_neg (fun z => c z.2)]
    unfold te_Tk te_TK
    rw [hn, ← f 0, ← f 1, ← f 2]
    rfl
theorem te_TK_none {P : te_P} {p : List Nat} {f : Nat} (h : ∀ t, f ≤ t → t < 3 → te_can P (te_q P p) t = false) : te_TK P p f = 1 := by
  unfold te_TK
  rw [te_TB_no (fun a => h 0 a (by omega)), te_TB_no (fun a => h 1 a (by omega)), te_TB_no (fun a => h 2 a (by omega))]
theorem te_TK_next {P : te_P} {p : List Nat} {f t : Nat} (hf : f ≤ t) (ht : t < 3) (hc : te_can P (te_q P p) t = true) (h : ∀ j, f ≤ j → j < t → te_can P (te_q P p) j = false) : te_TK P p f = 1 + (te_Tk P (p ++ [t]) + te_TK P p (t + 1)) := by
  unfold te_TK
  have : t = 0 ∨ t = 1 ∨ t = 2 := by omega
  rcases this with rfl | rfl | rfl
  · rw [te_TB_yes hf hc, te_TB_no (f := 0 + 1) (t := 0) (fun a => absurd a (by omega)), te_TB_same (f := f) (g := 0 + 1) (t := 1) (by omega) (by omega), te_TB_same (f := f) (g := 0 + 1) (t := 2) (by omega) (by omega)]
    omega
  · rw [te_TB_no (f := f) (t := 0) (fun a => h 0 a (by omega)), te_TB_yes hf hc, te_TB_no (f := 1 + 1) (t := 0) (fun a => absurd a (by omega)), te_TB_no (f := 1 + 1) (t := 1) (fun a => absurd a (by omega)), te_TB_same (f := f) (g := 1 + 1) (t := 2) (by omega) (by omega)]
    omega
  · rw [te_TB_no (f := f) (t := 0) (fun a => h 0 a (by omega)), te_TB_no (f := f) (t := 1) (fun a => h 1 a (by omega)), te_TB_yes hf hc, te_TB_no (f := 2 + 1) (t := 0) (fun a => absurd a (by omega)), te_TB_no (f := 2 + 1) (t := 1) (fun a => absurd a (by omega)), te_TB_no (f := 2 + 1) (t := 2) (fun a => absurd a (by omega))]
    omega
/-- the second machine goes down, and up -/
theorem te_y_down {P : te_P} (hW : te_W P) {p : List Nat} (ho : te_o P p) {f t : Nat} (hf : f ≤ t) (ht : t < 3) (hc : te_can P (te_q P p) t = true) (h : ∀ j, f ≤ j → j < t → te_can P (te_q P p) j = false) : te_TK P p f + te_Ts P p = 1 + (te_TK P (p ++ [t]) 0 + te_Ts P (p ++ [t])) := by
  have ho' : te_o P (p ++ [t]) := (te_o_snoc P p t).mpr ⟨ho, ht, hc⟩
  rw [te_TK_next hf ht hc h, te_Ts_snoc, te_Tk_TK hW ho']
  omega
theorem te_y_up {P : te_P} {p : List Nat} {t f : Nat} (h : ∀ j, f ≤ j → j < 3 → te_can P (te_q P (p ++ [t])) j = false) : te_TK P (p ++ [t]) f + te_Ts P (p ++ [t]) = 1 + (te_TK P p (t + 1) + te_Ts P p) := by
  rw [te_TK_none h, te_Ts_snoc]
def te_bt : Nat → Nat → Nat → Nat → Nat
  | 0, _, _, _ => 1
  | n + 1, a, b, c => 1 + ((if a = 0 then 0 else 1 + te_bt n (a - 1) b c) + ((if b = 0 then 0 else 1 + te_bt n a (b - 1) c) + (if c = 0 then 0 else 1 + te_bt n a b (c - 1))))
theorem te_bt_le : ∀ a, a < 4 → ∀ b, b < 4 → ∀ c, c < 4 → te_bt 9 a b c < 100000 := by decide +kernel
theorem te_tk_le {P : te_P} : ∀ (n : Nat) (s : te_S), te_tk P n s ≤ te_bt n (te_sz P 0 - te_dn s 0) (te_sz P 1 - te_dn s 1) (te_sz P 2 - te_dn s 2) := by
  intro n
  induction n with
  | zero => intro s; exact Nat.le_refl 1
  | succ n ih =>
    intro s
    have i0 := ih (te_act P s 0)
    have i1 := ih (te_act P s 1)
    have i2 := ih (te_act P s 2)
    simp only [te_dn_a, Nat.reduceEqDiff, ↓reduceIte] at i0 i1 i2
    have f : ∀ t, ∀ A B : Nat, A ≤ B → (if te_can P s t = true then 1 + A else 0) ≤ (if te_sz P t - te_dn s t = 0 then 0 else 1 + B) := by
      intro t A B h
      by_cases hc : te_can P s t = true
      · have hl := te_can_lt hc
        rw [if_pos hc, if_neg (by omega)]; omega
      · rw [if_neg hc]; exact Nat.zero_le _
    refine Nat.add_le_add_left (Nat.add_le_add (f 0 _ _ ?_) (Nat.add_le_add (f 1 _ _ ?_) (f 2 _ _ ?_))) 1
    · exact (show te_sz P 0 - te_dn s 0 - 1 = te_sz P 0 - (te_dn s 0 + 1) by omega) ▸ i0
    · exact (show te_sz P 1 - te_dn s 1 - 1 = te_sz P 1 - (te_dn s 1 + 1) by omega) ▸ i1
    · exact (show te_sz P 2 - te_dn s 2 - 1 = te_sz P 2 - (te_dn s 2 + 1) by omega) ▸ i2
theorem te_TK_le {P : te_P} (hW : te_W P) : te_TK P [] 0 + te_Ts P [] < 100000 := by
  have h0 := hW.1 0 (by omega)
  have h1 := hW.1 1 (by omega)
  have h2 := hW.1 2 (by omega)
  have h := Nat.lt_of_le_of_lt (te_tk_le (P := P) 9 (te_s0 P)) (te_bt_le _ (by omega) _ (by omega) _ (by omega))
  rw [← te_Tk_TK hW (te_o_nil P)]
  exact h
/-- every row goes on to a leaf -/
theorem te_lv_ne {P : te_P} : ∀ (n : Nat) (s : te_S), ∃ m, m ∈ te_lv P n s := by
  intro n
  induction n with
  | zero => intro s; exact ⟨[], List.mem_singleton.mpr rfl⟩
  | succ n ih =>
    intro s
    show ∃ m, m ∈ if te_stb P s = true then [[]] else _
    cases hb : te_stb P s with
    | true => exact ⟨[], List.mem_singleton.mpr rfl⟩
    | false =>
      rw [if_neg (by decide)]
      obtain ⟨t, ht, hc⟩ := te_not_stk.mp hb
      obtain ⟨m, hm⟩ := ih (te_act P s t)
      refine ⟨t :: m, ?_⟩
      rw [List.mem_append, List.mem_append]
      have hx : ∀ t, te_can P s t = true → ∀ m, m ∈ te_lv P n (te_act P s t) → (t :: m) ∈ te_br P s t (te_lv P n (te_act P s t)) := fun t hc m hm => te_br_mem.mpr ⟨hc, m, hm, rfl⟩
      have : t = 0 ∨ t = 1 ∨ t = 2 := by omega
      rcases this with rfl | rfl | rfl
      · exact Or.inl (hx 0 hc m hm)
      · exact Or.inr (Or.inl (hx 1 hc m hm))
      · exact Or.inr (Or.inr (hx 2 hc m hm))
theorem te_leaf {P : te_P} (hW : te_W P) {p : List Nat} (ho : te_o P p) : ∃ m, p ++ m ∈ te_all P := by
  obtain ⟨m, hm⟩ := te_lv_ne (P := P) (te_rm P (te_q P p)) (te_q P p)
  rw [te_lv_mem _ _ _ (Nat.le_refl _)] at hm
  refine ⟨m, (te_all_mem hW _).mpr ⟨(te_ok_app _ _ _).mpr ⟨ho, hm.1⟩, ?_⟩⟩
  rw [te_run_app]; exact hm.2
/-- the greatest value of a variable over the rows met so far -/
def te_pk (P : te_P) (D : List (List Nat)) (g : Nat → Nat) : Prop :=
  ∀ v, v < 3 → (g v = 0 ∨ ∃ p, te_o P p ∧ te_vl (te_q P p) v = g v) ∧ ∀ q, q ∈ D → ∀ p m, q = p ++ m → te_vl (te_q P p) v ≤ g v
theorem te_pk_le {P : te_P} (hW : te_W P) {g g' : Nat → Nat} (h : te_pk P (te_all P) g) (h' : te_pk P (te_all P) g') : ∀ v, v < 3 → g v ≤ g' v := by
  intro v hv
  rcases (h v hv).1 with e | ⟨p, ho, e⟩
  · omega
  · obtain ⟨m, hm⟩ := te_leaf hW ho
    rw [← e]
    exact (h' v hv).2 _ hm p m rfl
theorem te_pk_eq {P : te_P} (hW : te_W P) {g g' : Nat → Nat} (h : te_pk P (te_all P) g) (h' : te_pk P (te_all P) g') : ∀ v, v < 3 → g v = g' v := fun v hv => Nat.le_antisymm (te_pk_le hW h h' v hv) (te_pk_le hW h' h v hv)
end
section
/-! the number that tells a kind -/
noncomputable def te_b01 (p : Prop) : Nat := @ite Nat p (Classical.propDecidable p) 1 0
theorem te_b01_t {p : Prop} (h : p) : te_b01 p = 1 := by unfold te_b01; rw [if_pos h]
theorem te_b01_f {p : Prop} (h : ¬ p) : te_b01 p = 0 := by unfold te_b01; rw [if_neg h]
theorem te_b01_lt (p : Prop) : te_b01 p < 2 := by
  by_cases h : p
  · rw [te_b01_t h]; decide
  · rw [te_b01_f h]; decide
theorem te_b01_eq {p q : Prop} : te_b01 p = te_b01 q ↔ (p ↔ q) := by
  by_cases h : p
  · by_cases h' : q
    · rw [te_b01_t h, te_b01_t h']; exact ⟨fun _ => ⟨fun _ => h', fun _ => h⟩, fun _ => rfl⟩
    · rw [te_b01_t h, te_b01_f h']; exact ⟨fun z => absurd z (by decide), fun z => absurd (z.mp h) h'⟩
  · by_cases h' : q
    · rw [te_b01_f h, te_b01_t h']; exact ⟨fun z => absurd z (by decide), fun z => absurd (z.mpr h') h⟩
    · rw [te_b01_f h, te_b01_f h']; exact ⟨fun _ => ⟨fun z => absurd z h, fun z => absurd z h'⟩, fun _ => rfl⟩
def te_x (s : Nat) : Nat × Nat := (s / 3, s % 3)
noncomputable def te_bit (P : te_P) (L : List (Nat × Nat)) (s u : Nat) : Nat := te_b01 (te_bf L (te_x s) (te_x u) ∧ te_ti P (te_x s) (te_x u) = true)
noncomputable def te_kin (P : te_P) (L : List (Nat × Nat)) (s : Nat) : Nat → Nat → Nat
  | 0, k => k
  | u + 1, k => te_kin P L s u k * 2 + te_bit P L s u
noncomputable def te_kout (P : te_P) (L : List (Nat × Nat)) : Nat → Nat → Nat
  | 0, k => k
  | s + 1, k => te_kin P L s s (te_kout P L s k)
theorem te_kin_eq {P : te_P} {L L' : List (Nat × Nat)} {s : Nat} : ∀ (n k k' : Nat), te_kin P L s n k = te_kin P L' s n k' ↔ k = k' ∧ ∀ u, u < n → te_bit P L s u = te_bit P L' s u := by
  intro n
  induction n with
  | zero => intro k k'; exact ⟨fun h => ⟨h, fun u hu => absurd hu (Nat.not_lt_zero u)⟩, fun h => h.1⟩
  | succ n ih =>
    intro k k'
    show te_kin P L s n k * 2 + te_bit P L s n = te_kin P L' s n k' * 2 + te_bit P L' s n ↔ _
    have b1 : te_bit P L s n < 2 := te_b01_lt _
    have b2 : te_bit P L' s n < 2 := te_b01_lt _
    constructor
    · intro h
      have e1 : te_kin P L s n k = te_kin P L' s n k' := by omega
      have e2 : te_bit P L s n = te_bit P L' s n := by omega
      have e3 := (ih k k').mp e1
      refine ⟨e3.1, fun u hu => ?_⟩
      by_cases c : u = n
      · rw [c]; exact e2
      · exact e3.2 u (by omega)
    · intro ⟨h1, h2⟩
      rw [(ih k k').mpr ⟨h1, fun u hu => h2 u (by omega)⟩, h2 n (by omega)]
theorem te_kout_eq {P : te_P} {L L' : List (Nat × Nat)} : ∀ (n k k' : Nat), te_kout P L n k = te_kout P L' n k' ↔ k = k' ∧ ∀ s, s < n → ∀ u, u < s → te_bit P L s u = te_bit P L' s u := by
  intro n
  induction n with
  | zero => intro k k'; exact ⟨fun h => ⟨h, fun u hu => absurd hu (Nat.not_lt_zero u)⟩, fun h => h.1⟩
  | succ n ih =>
    intro k k'
    show te_kin P L n n (te_kout P L n k) = te_kin P L' n n (te_kout P L' n k') ↔ _
    rw [te_kin_eq, ih]
    constructor
    · intro ⟨⟨h1, h2⟩, h3⟩
      refine ⟨h1, fun s hs => ?_⟩
      by_cases c : s = n
      · rw [c]; exact h3
      · exact h2 s (by omega)
    · intro ⟨h1, h2⟩
      exact ⟨⟨h1, fun s hs => h2 s (by omega)⟩, h2 n (by omega)⟩
def te_tri : Nat → Nat
  | 0 => 0
  | n + 1 => te_tri n + n
theorem te_kin_lt {P : te_P} {L : List (Nat × Nat)} {s : Nat} : ∀ (n k : Nat), te_kin P L s n k + 1 ≤ (k + 1) * 2 ^ n := by
  intro n
  induction n with
  | zero => intro k; show k + 1 ≤ (k + 1) * 1; omega
  | succ n ih =>
    intro k
    show te_kin P L s n k * 2 + te_bit P L s n + 1 ≤ _
    have b1 : te_bit P L s n < 2 := te_b01_lt _
    have := ih k
    rw [Nat.pow_succ, ← Nat.mul_assoc]
    omega
theorem te_kout_lt {P : te_P} {L : List (Nat × Nat)} : ∀ (n k : Nat), te_kout P L n k + 1 ≤ (k + 1) * 2 ^ te_tri n := by
  intro n
  induction n with
  | zero => intro k; show k + 1 ≤ (k + 1) * 1; omega
  | succ n ih =>
    intro k
    show te_kin P L n n (te_kout P L n k) + 1 ≤ (k + 1) * 2 ^ (te_tri n + n)
    refine Nat.le_trans (te_kin_lt n _) ?_
    rw [Nat.pow_add, ← Nat.mul_assoc]
    exact Nat.mul_le_mul_right _ (ih k)
theorem te_pw : ∀ s, s < 9 → ∀ n, n ≤ s → 2 ^ te_tri s * 2 ^ n ≤ 68719476736 := by decide +kernel
theorem te_pw9 : 2 ^ te_tri 9 = 68719476736 := by decide +kernel
theorem te_k_lt {P : te_P} {L : List (Nat × Nat)} {k s n : Nat} (hk : k < 64) (hs : s < 9) (hn : n ≤ s) : te_kin P L s n (te_kout P L s k) < 4398046511104 := by
  have h1 := te_kin_lt (P := P) (L := L) (s := s) n (te_kout P L s k)
  have h2 := te_kout_lt (P := P) (L := L) s k
  have h3 : (te_kout P L s k + 1) * 2 ^ n ≤ (k + 1) * 2 ^ te_tri s * 2 ^ n := Nat.mul_le_mul_right _ h2
  rw [Nat.mul_assoc] at h3
  have h4 : (k + 1) * (2 ^ te_tri s * 2 ^ n) ≤ 64 * 68719476736 := Nat.mul_le_mul (by omega) (te_pw s hs n hn)
  omega
theorem te_ko_lt {P : te_P} {L : List (Nat × Nat)} {k s : Nat} (hk : k < 64) (hs : s ≤ 9) : te_kout P L s k < 4398046511104 := by
  by_cases c : s = 9
  · have h2 := te_kout_lt (P := P) (L := L) s k
    rw [c, te_pw9] at h2
    rw [c]
    omega
  · exact te_k_lt (n := 0) hk (by omega) (Nat.zero_le _)
noncomputable def te_k0 (P : te_P) (l : List Nat) : Nat := te_dn (te_q P l) 0 + 4 * te_dn (te_q P l) 1 + 16 * te_dn (te_q P l) 2
noncomputable def te_key (P : te_P) (l : List Nat) : Nat := te_kout P (te_st P (te_s0 P) l) 9 (te_k0 P l)
theorem te_dn_le {P : te_P} (hW : te_W P) {l : List Nat} (h : te_o P l) {t : Nat} (ht : t < 3) : te_dn (te_q P l) t ≤ te_sz P t ∧ te_sz P t ≤ 3 := ⟨te_ok_dn l _ h t (Nat.zero_le _), hW.1 t ht⟩
theorem te_k0_lt {P : te_P} (hW : te_W P) {l : List Nat} (h : te_o P l) : te_k0 P l < 64 := by
  have h0 := te_dn_le hW h (t := 0) (by omega)
  have h1 := te_dn_le hW h (t := 1) (by omega)
  have h2 := te_dn_le hW h (t := 2) (by omega)
  unfold te_k0
  omega
theorem te_key_lt {P : te_P} (hW : te_W P) {l : List Nat} (h : te_o P l) : te_key P l < 4398046511104 := te_ko_lt (te_k0_lt hW h) (Nat.le_refl _)
theorem te_x_of {x : Nat × Nat} (h : x.2 < 3) : te_x (3 * x.1 + x.2) = x := by
  obtain ⟨a, b⟩ := x
  simp only at h
  show ((3 * a + b) / 3, (3 * a + b) % 3) = (a, b)
  have e1 : (3 * a + b) / 3 = a := by omega
  have e2 : (3 * a + b) % 3 = b := by omega
  rw [e1, e2]
theorem te_key_like {P : te_P} (hW : te_W P) {l l' : List Nat} (h : te_o P l) (h' : te_o P l') : te_key P l = te_key P l' ↔ te_like P l l' := by
  unfold te_key
  rw [te_kout_eq]
  have d0 := te_dn_le hW h (t := 0) (by omega)
  have d1 := te_dn_le hW h (t := 1) (by omega)
  have d2 := te_dn_le hW h (t := 2) (by omega)
  have d0' := te_dn_le hW h' (t := 0) (by omega)
  have d1' := te_dn_le hW h' (t := 1) (by omega)
  have d2' := te_dn_le hW h' (t := 2) (by omega)
  constructor
  · intro ⟨h1, h2⟩
    unfold te_k0 at h1
    constructor
    · intro t ht
      show te_dn (te_q P l) t = te_dn (te_q P l') t
      have : t = 0 ∨ t = 1 ∨ t = 2 := by omega
      rcases this with rfl | rfl | rfl <;> omega
    · intro x y hx1 hx2 hy1 hy2 hlt ht
      have e := h2 (3 * x.1 + x.2) (by omega) (3 * y.1 + y.2) hlt
      unfold te_bit at e
      rw [te_b01_eq, te_x_of hx2, te_x_of hy2] at e
      exact ⟨fun z => (e.mp ⟨z, ht⟩).1, fun z => (e.mpr ⟨z, ht⟩).1⟩
  · intro ⟨h1, h2⟩
    constructor
    · unfold te_k0
      have a0 : te_dn (te_q P l) 0 = te_dn (te_q P l') 0 := h1 0 (by omega)
      have a1 : te_dn (te_q P l) 1 = te_dn (te_q P l') 1 := h1 1 (by omega)
      have a2 : te_dn (te_q P l) 2 = te_dn (te_q P l') 2 := h1 2 (by omega)
      rw [a0, a1, a2]
    · intro s hs u hu
      unfold te_bit
      rw [te_b01_eq]
      have hx : te_ti P (te_x s) (te_x u) = true → (te_bf (te_st P (te_s0 P) l) (te_x s) (te_x u) ↔ te_bf (te_st P (te_s0 P) l') (te_x s) (te_x u)) := by
        intro ht
        refine h2 _ _ ?_ ?_ ?_ ?_ ?_ ht
        · show s / 3 < 3; omega
        · show s % 3 < 3; omega
        · show u / 3 < 3; omega
        · show u % 3 < 3; omega
        · show 3 * (u / 3) + u % 3 < 3 * (s / 3) + s % 3; omega
      exact ⟨fun z => ⟨(hx z.2).mp z.1, z.2⟩, fun z => ⟨(hx z.2).mpr z.1, z.2⟩⟩
/-- the leaves that stand for their kinds -/
noncomputable def te_fs (P : te_P) (l : List Nat) : Bool := @decide (¬ te_nf P (te_st P (te_s0 P) l)) (Classical.propDecidable _)
theorem te_fs_t {P : te_P} {l : List Nat} : te_fs P l = true ↔ ¬ te_nf P (te_st P (te_s0 P) l) := by
  unfold te_fs
  exact @decide_eq_true_iff _ (Classical.propDecidable _)
noncomputable def te_E (P : te_P) (D : List (List Nat)) : List (List Nat) := D.filter (te_fs P)
theorem te_E_snoc (P : te_P) (D : List (List Nat)) (l : List Nat) : te_E P (D ++ [l]) = if te_fs P l = true then te_E P D ++ [l] else te_E P D := by
  unfold te_E
  rw [List.filter_append]
  by_cases c : te_fs P l = true
  · rw [if_pos c, List.filter_cons_of_pos c]; rfl
  · rw [if_neg c, List.filter_cons_of_neg c]
    show _ ++ [] = _
    rw [List.append_nil]
theorem te_keys {P : te_P} (hW : te_W P) : ∀ (D B : List (List Nat)), te_all P = D ++ B → ∀ l, l ∈ D → ∃ m, m ∈ te_E P D ∧ te_key P m = te_key P l := by
  intro D
  have main : ∀ (n : Nat) (D B : List (List Nat)), D.length = n → te_all P = D ++ B → ∀ l, l ∈ D → ∃ m, m ∈ te_E P D ∧ te_key P m = te_key P l := by
    intro n
    induction n with
    | zero =>
      intro D B hn _ l hl
      rw [List.length_eq_zero_iff.mp hn] at hl
      exact absurd hl List.not_mem_nil
    | succ n ih =>
      intro D B hn hD l hl
      obtain ⟨D', a, rfl⟩ : ∃ D' a, D = D' ++ [a] := by
        have hne : D ≠ [] := by intro z; rw [z] at hn; exact absurd hn (by simp)
        exact ⟨D.dropLast, D.getLast hne, (List.dropLast_concat_getLast hne).symm⟩
      have hD' : te_all P = D' ++ a :: B := by rw [hD, List.append_assoc]; rfl
      have hn' : D'.length = n := by rw [List.length_append] at hn; exact Nat.succ.inj hn
      have hsub : ∀ m, m ∈ te_E P D' → m ∈ te_E P (D' ++ [a]) := by
        intro m hm
        unfold te_E at *
        rw [List.filter_append]
        exact List.mem_append_left _ hm
      have hrec : ∀ l, l ∈ D' → ∃ m, m ∈ te_E P (D' ++ [a]) ∧ te_key P m = te_key P l := by
        intro l hl
        obtain ⟨m, hm, e⟩ := ih D' (a :: B) hn' hD' l hl
        exact ⟨m, hsub m hm, e⟩
      rw [List.mem_append, List.mem_singleton] at hl
      rcases hl with hl | hl
      · exact hrec l hl
      · subst hl
        by_cases c : te_fs P l = true
        · refine ⟨l, ?_, rfl⟩
          rw [te_E_snoc, if_pos c]
          exact List.mem_append_right _ (List.mem_singleton.mpr rfl)
        · have hn : te_nf P (te_st P (te_s0 P) l) := by
            refine Classical.byContradiction fun z => c (te_fs_t.mpr z)
          obtain ⟨l', hl', hk⟩ := (te_first hW hD').mp hn
          have o1 := ((te_all_mem hW l').mp (by rw [hD']; exact List.mem_append_left _ hl')).1
          have o2 := ((te_all_mem hW l).mp (by rw [hD']; exact List.mem_append_right _ List.mem_cons_self)).1
          obtain ⟨m, hm, e⟩ := hrec l' hl'
          exact ⟨m, hm, e.trans ((te_key_like hW o1 o2).mpr hk)⟩
  exact fun B => main D.length D B rfl
/-- fresh for the second machine if and only if first for the first -/
theorem te_fresh {P : te_P} (hW : te_W P) {D B : List (List Nat)} {l : List Nat} (h : te_all P = D ++ l :: B) : te_fs P l = true ↔ ∀ m, m ∈ te_E P D → te_key P m ≠ te_key P l := by
  have o2 := ((te_all_mem hW l).mp (by rw [h]; exact List.mem_append_right _ List.mem_cons_self)).1
  have o1 : ∀ l', l' ∈ D → te_o P l' := fun l' hl' => ((te_all_mem hW l').mp (by rw [h]; exact List.mem_append_left _ hl')).1
  rw [te_fs_t, te_first hW h]
  constructor
  · intro hn m hm e
    have hm' : m ∈ D := (List.mem_filter.mp hm).1
    exact hn ⟨m, hm', (te_key_like hW (o1 m hm') o2).mp e⟩
  · intro hn ⟨l', hl', hk⟩
    obtain ⟨m, hm, e⟩ := te_keys hW D (l :: B) h l' hl'
    exact hn m hm (e.trans ((te_key_like hW (o1 l' hl') o2).mpr hk))
end
section
/-! the answers as functions of the leaves met so far -/
def te_L (P : te_P) (r : List Nat) : List (Nat × Nat) := te_st P (te_s0 P) r
theorem te_L_snoc (P : te_P) (r : List Nat) (t : Nat) : te_L P (r ++ [t]) = te_L P r ++ [(t, te_dn (te_q P r) t)] := te_st_app r [t] _
theorem te_L_len (P : te_P) (r : List Nat) : (te_L P r).length = r.length := te_st_len r _
theorem te_L_nd (P : te_P) (r : List Nat) : (te_L P r).Pairwise (fun x y => x ≠ y) := te_st_nd r _
theorem te_L_mem {P : te_P} {r : List Nat} {x : Nat × Nat} : x ∈ te_L P r ↔ x.2 < te_dn (te_q P r) x.1 := by
  unfold te_L te_q
  rw [te_st_mem]
  exact ⟨fun h => h.2, fun h => ⟨Nat.zero_le _, h⟩⟩
theorem te_L_rng {P : te_P} (hW : te_W P) {r : List Nat} (ho : te_o P r) {x : Nat × Nat} (h : x ∈ te_L P r) : x.1 < 3 ∧ x.2 < 3 := by
  have h1 : x.1 < 3 := te_ok_thr _ _ ho x.1 (te_st_thr h)
  have h2 := te_dn_le hW ho h1
  rw [te_L_mem] at h
  exact ⟨h1, by omega⟩
theorem te_bf_ix : ∀ (L : List (Nat × Nat)) (x y : Nat × Nat), te_bf L x y ↔ ∃ j i : Nat, j < i ∧ L[j]? = some x ∧ L[i]? = some y := by
  intro L
  induction L with
  | nil =>
    intro x y
    refine ⟨fun h => absurd h id, fun ⟨j, i, _, h, _⟩ => ?_⟩
    rw [List.getElem?_nil] at h
    exact absurd h (by simp)
  | cons z L ih =>
    intro x y
    show ((z = x ∧ y ∈ L) ∨ te_bf L x y) ↔ _
    rw [ih]
    constructor
    · intro h
      rcases h with ⟨e, h⟩ | ⟨j, i, h1, h2, h3⟩
      · obtain ⟨i, hi⟩ := List.mem_iff_getElem?.mp h
        exact ⟨0, i + 1, by omega, by rw [List.getElem?_cons_zero, e], by rw [List.getElem?_cons_succ]; exact hi⟩
      · exact ⟨j + 1, i + 1, by omega, by rw [List.getElem?_cons_succ]; exact h2, by rw [List.getElem?_cons_succ]; exact h3⟩
    · intro ⟨j, i, h1, h2, h3⟩
      obtain ⟨i', rfl⟩ : ∃ i', i = i' + 1 := ⟨i - 1, by omega⟩
      rw [List.getElem?_cons_succ] at h3
      cases j with
      | zero =>
        rw [List.getElem?_cons_zero] at h2
        exact Or.inl ⟨Option.some.inj h2, List.mem_iff_getElem?.mpr ⟨i', h3⟩⟩
      | succ j =>
        rw [List.getElem?_cons_succ] at h2
        exact Or.inr ⟨j, i', by omega, h2, h3⟩
theorem te_nf_ix {P : te_P} {L : List (Nat × Nat)} : te_nf P L ↔ ∃ (at' back : Nat) (a b : Nat × Nat), back < at' ∧ L[at']? = some a ∧ L[back]? = some b ∧ 4 * a.1 + a.2 < 4 * b.1 + b.2 ∧ ∀ j z, back ≤ j → j < at' → L[j]? = some z → te_ti P z a = false := by
  constructor
  · intro ⟨A, b, M, a, C, e, h1, h2⟩
    have e' : L = A ++ ((b :: M) ++ a :: C) := e
    refine ⟨A.length + (b :: M).length, A.length, a, b, ?_, ?_, ?_, h2, ?_⟩
    · show A.length < A.length + (M.length + 1); omega
    · rw [e', List.getElem?_append_right (by omega), List.getElem?_append_right (by omega)]
      have : A.length + (b :: M).length - A.length - (b :: M).length = 0 := by omega
      rw [this]; rfl
    · rw [e', List.getElem?_append_right (by omega), Nat.sub_self]; rfl
    · intro j z hj1 hj2 hz
      rw [e', List.getElem?_append_right (by omega), List.getElem?_append_left (by omega)] at hz
      exact h1 z (List.mem_iff_getElem?.mpr ⟨_, hz⟩)
  · intro ⟨n, k, a, b, hk, ha, hb, hlt, hu⟩
    have hnl : n < L.length := (List.getElem?_eq_some_iff.mp ha).1
    have d1 : L.drop k = b :: L.drop (k + 1) := by
      have hkl : k < L.length := by omega
      rw [List.drop_eq_getElem_cons hkl]
      have := (List.getElem?_eq_some_iff.mp hb).2
      rw [this]
    have d2 : L.drop n = a :: L.drop (n + 1) := by
      rw [List.drop_eq_getElem_cons hnl]
      have := (List.getElem?_eq_some_iff.mp ha).2
      rw [this]
    have d3 : L.drop (k + 1) = (L.drop (k + 1)).take (n - (k + 1)) ++ L.drop n := by
      have h := List.take_append_drop (n - (k + 1)) (L.drop (k + 1))
      rw [List.drop_drop] at h
      have e : k + 1 + (n - (k + 1)) = n := by omega
      rw [e] at h
      exact h.symm
    refine ⟨L.take k, b, (L.drop (k + 1)).take (n - (k + 1)), a, L.drop (n + 1), ?_, ?_, hlt⟩
    · rw [← d2, ← d3, ← d1, List.take_append_drop]
    · intro z hz
      rw [List.mem_cons] at hz
      rcases hz with hz | hz
      · rw [hz]; exact hu k b (Nat.le_refl _) hk hb
      · obtain ⟨i, hi⟩ := List.mem_iff_getElem?.mp hz
        have hi2 := hi
        rw [List.getElem?_take] at hi2
        by_cases c : i < n - (k + 1)
        · rw [if_pos c, List.getElem?_drop] at hi2
          exact hu (k + 1 + i) z (by omega) (by omega) hi2
        · rw [if_neg c] at hi2
          exact absurd hi2 (by simp)
/-- the greatest values -/
theorem te_vl_max {P : te_P} {D : List (List Nat)} {r : List Nat} {g : Nat → Nat} (h : te_pk P (D ++ [r]) g) (t : Nat) (ho : te_o P (r ++ [t])) {g' : Nat → Nat} (hg : ∀ v, v < 3 → g' v = if g v < te_vl (te_q P (r ++ [t])) v then te_vl (te_q P (r ++ [t])) v else g v) : te_pk P (D ++ [r ++ [t]]) g' := by
  intro v hv
  obtain ⟨h1, h2⟩ := h v hv
  rw [hg v hv]
  constructor
  · by_cases c : g v < te_vl (te_q P (r ++ [t])) v
    · rw [if_pos c]; exact Or.inr ⟨r ++ [t], ho, rfl⟩
    · rw [if_neg c]; exact h1
  · intro q hq p m e
    have hle : ∀ x, x ≤ g v → x ≤ if g v < te_vl (te_q P (r ++ [t])) v then te_vl (te_q P (r ++ [t])) v else g v := by
      intro x hx
      by_cases c : g v < te_vl (te_q P (r ++ [t])) v
      · rw [if_pos c]; omega
      · rw [if_neg c]; exact hx
    rw [List.mem_append, List.mem_singleton] at hq
    rcases hq with hq | hq
    · exact hle _ (h2 q (List.mem_append_left _ hq) p m e)
    · rw [hq] at e
      rcases List.eq_nil_or_concat m with rfl | ⟨m', z, rfl⟩
      · rw [List.append_nil] at e
        rw [← e]
        by_cases c : g v < te_vl (te_q P (r ++ [t])) v
        · rw [if_pos c]; exact Nat.le_refl _
        · rw [if_neg c]; omega
      · rw [List.concat_eq_append, ← List.append_assoc] at e
        have e2 := (List.append_inj' e rfl).1
        exact hle _ (h2 r (List.mem_append_right _ (List.mem_singleton.mpr rfl)) p m' e2)
theorem te_pk_nil {P : te_P} {D : List (List Nat)} {r : List Nat} {g : Nat → Nat} (h : te_pk P (D ++ [r]) g) : te_pk P (D ++ [r] ++ [[]]) g := by
  intro v hv
  obtain ⟨h1, h2⟩ := h v hv
  refine ⟨h1, fun q hq p m e => ?_⟩
  rw [List.mem_append, List.mem_singleton] at hq
  rcases hq with hq | hq
  · exact h2 q hq p m e
  · rw [hq] at e
    have e2 := (List.append_eq_nil_iff.mp e.symm).1
    rw [e2]
    exact h2 r (List.mem_append_right _ (List.mem_singleton.mpr rfl)) [] r rfl
theorem te_pk_sub {P : te_P} {D : List (List Nat)} {r : List Nat} {g : Nat → Nat} (h : te_pk P (D ++ [r]) g) : te_pk P D g := by
  intro v hv
  obtain ⟨h1, h2⟩ := h v hv
  exact ⟨h1, fun q hq => h2 q (List.mem_append_left _ hq)⟩
theorem te_pk_pre {P : te_P} {D : List (List Nat)} {r m : List Nat} {g : Nat → Nat} (h : te_pk P (D ++ [r ++ m]) g) : te_pk P (D ++ [r]) g := by
  intro v hv
  obtain ⟨h1, h2⟩ := h v hv
  refine ⟨h1, fun q hq p k e => ?_⟩
  rw [List.mem_append, List.mem_singleton] at hq
  rcases hq with hq | hq
  · exact h2 q (List.mem_append_left _ hq) p k e
  · refine h2 (r ++ m) (List.mem_append_right _ (List.mem_singleton.mpr rfl)) p (k ++ m) ?_
    rw [← List.append_assoc, ← e, hq]
theorem te_pk_ini (P : te_P) : te_pk P ([] ++ [[]]) (te_ini P) := by
  intro v _
  refine ⟨Or.inr ⟨[], te_o_nil P, rfl⟩, fun q hq p m e => ?_⟩
  have hq' : q = [] := List.mem_singleton.mp hq
  rw [hq'] at e
  rw [(List.append_eq_nil_iff.mp e.symm).1]
  exact Nat.le_refl _
def te_tot (P : te_P) : Nat := te_sz P 0 + te_sz P 1 + te_sz P 2
def te_cm (P : te_P) (q : List Nat) : Bool := decide (q.length = te_tot P)
def te_rs (P : te_P) (q : List Nat) : Nat := 64 * te_vl (te_q P q) 0 + 8 * te_vl (te_q P q) 1 + te_vl (te_q P q) 2
def te_sh1 (P : te_P) (s : Nat) (q : List Nat) : Nat := if te_cm P q = true then s else if s = 0 ∨ q.length < s then q.length else s
def te_sh (P : te_P) (D : List (List Nat)) : Nat := D.foldl (te_sh1 P) 0
def te_e1 (P : te_P) (t : Nat) (e : Int32) (q : List Nat) : Int32 := if te_cm P q = true then e ||| ((1 : Int32) <<< (nI (te_hn (te_q P q) t) &&& 31)) else e
def te_es (P : te_P) (D : List (List Nat)) (t : Nat) : Int32 := D.foldl (te_e1 P t) 0
theorem te_sh_snoc (P : te_P) (D : List (List Nat)) (q : List Nat) : te_sh P (D ++ [q]) = te_sh1 P (te_sh P D) q := by
  unfold te_sh
  rw [List.foldl_append]; rfl
theorem te_es_snoc (P : te_P) (D : List (List Nat)) (q : List Nat) (t : Nat) : te_es P (D ++ [q]) t = te_e1 P t (te_es P D t) q := by
  unfold te_es
  rw [List.foldl_append]; rfl
/-- one step before another in some whole run -/
def te_ea (P : te_P) (D : List (List Nat)) (x y : Nat × Nat) : Prop := ∃ q, q ∈ D ∧ te_cm P q = true ∧ te_bf (te_L P q) x y
theorem te_ea_snoc (P : te_P) (D : List (List Nat)) (q : List Nat) (x y : Nat × Nat) : te_ea P (D ++ [q]) x y ↔ te_ea P D x y ∨ (te_cm P q = true ∧ te_bf (te_L P q) x y) := by
  unfold te_ea
  constructor
  · intro ⟨p, hp, h⟩
    rw [List.mem_append, List.mem_singleton] at hp
    rcases hp with hp | hp
    · exact Or.inl ⟨p, hp, h⟩
    · rw [hp] at h; exact Or.inr h
  · intro h
    rcases h with ⟨p, hp, h⟩ | h
    · exact ⟨p, List.mem_append_left _ hp, h⟩
    · exact ⟨q, List.mem_append_right _ (List.mem_singleton.mpr rfl), h⟩
noncomputable def te_ct (P : te_P) (D : List (List Nat)) (f : List Nat → Bool) : Nat := ((te_E P D).filter f).length
theorem te_ct_snoc (P : te_P) (D : List (List Nat)) (q : List Nat) (f : List Nat → Bool) : te_ct P (D ++ [q]) f = te_ct P D f + (if te_fs P q = true ∧ f q = true then 1 else 0) := by
  unfold te_ct
  rw [te_E_snoc]
  by_cases c : te_fs P q = true
  · rw [if_pos c, List.filter_append, List.length_append]
    by_cases d : f q = true
    · rw [if_pos ⟨c, d⟩, List.filter_cons_of_pos d]; rfl
    · rw [if_neg (fun z => d z.2), List.filter_cons_of_neg d]; rfl
  · rw [if_neg c, if_neg (fun z => c z.1)]; rfl
theorem te_E_len_snoc (P : te_P) (D : List (List Nat)) (q : List Nat) : (te_E P (D ++ [q])).length = (te_E P D).length + (if te_fs P q = true then 1 else 0) := by
  rw [te_E_snoc]
  by_cases c : te_fs P q = true
  · rw [if_pos c, if_pos c, List.length_append]; rfl
  · rw [if_neg c, if_neg c]; rfl
theorem te_E_len_le (P : te_P) (D : List (List Nat)) : (te_E P D).length ≤ D.length := List.length_filter_le _ _
theorem te_ct_le (P : te_P) (D : List (List Nat)) (f : List Nat → Bool) : te_ct P D f ≤ D.length := Nat.le_trans (List.length_filter_le _ _) (te_E_len_le P D)
end
section
/-! bounds of the reachable states, and the numbers of the two machines -/
def te_Bd (s : te_S) : Prop := (∀ v, v < 3 → te_vl s v < 8) ∧ (∀ l, te_hd s l < 4) ∧ ∀ t, te_hn s t < 8
theorem te_Bd_act {P : te_P} (hW : te_W P) {s : te_S} {t : Nat} (ht : t < 3) (hc : te_can P s t = true) (h : te_Bd s) : te_Bd (te_act P s t) := by
  have hd := te_can_lt hc
  have hs := hW.1 t ht
  obtain ⟨o1, o2, o3, o4⟩ := hW.2.1 t ht (te_dn s t) (by omega)
  obtain ⟨h1, h2, h3⟩ := h
  refine ⟨fun v hv => ?_, fun l => ?_, fun t' => ?_⟩
  · rw [te_vl_act]
    unfold te_wv
    by_cases c : 1 ≤ te_op P t (te_dn s t) ∧ te_op P t (te_dn s t) ≤ 3
    · rw [if_pos c]
      unfold te_u
      by_cases e : v = te_pl P t (te_dn s t)
      · rw [if_pos e]
        unfold te_nv
        by_cases c1 : te_op P t (te_dn s t) = 1
        · rw [if_pos c1]; exact o4
        · rw [if_neg c1]
          by_cases c2 : te_op P t (te_dn s t) = 2
          · rw [if_pos c2]; exact Nat.mod_lt _ (by decide)
          · rw [if_neg c2]; exact Nat.mod_lt _ (by decide)
      · rw [if_neg e]; exact h1 v hv
    · rw [if_neg c]; exact h1 v hv
  · rw [te_hd_act]
    unfold te_wh
    by_cases c : 4 ≤ te_op P t (te_dn s t)
    · rw [if_pos c]
      unfold te_u
      by_cases e : l = te_pl P t (te_dn s t)
      · rw [if_pos e]
        unfold te_nh
        have := h2 (te_pl P t (te_dn s t))
        by_cases c1 : te_op P t (te_dn s t) = 4
        · rw [if_pos c1]; omega
        · rw [if_neg c1]
          by_cases c2 : te_hd s (te_pl P t (te_dn s t)) = t + 1
          · rw [if_pos c2]; decide
          · rw [if_neg c2]; exact this
      · rw [if_neg e]; exact h2 l
    · rw [if_neg c]; exact h2 l
  · rw [te_hn_act]
    unfold te_wn
    by_cases c : te_op P t (te_dn s t) = 0
    · rw [if_pos c]
      unfold te_u
      by_cases e : t' = t
      · rw [if_pos e]; exact h1 _ o2
      · rw [if_neg e]; exact h3 t'
    · rw [if_neg c]; exact h3 t'
theorem te_Bd_run {P : te_P} (hW : te_W P) : ∀ (l : List Nat) (s : te_S), te_ok P s l → te_Bd s → te_Bd (te_run P s l) := by
  intro l
  induction l with
  | nil => intro s _ h; exact h
  | cons t l ih => intro s ho h; exact ih _ ho.2.2 (te_Bd_act hW ho.1 ho.2.1 h)
theorem te_Bd_q {P : te_P} (hW : te_W P) {r : List Nat} (ho : te_o P r) : te_Bd (te_q P r) :=
  te_Bd_run hW r _ ho ⟨fun v hv => hW.2.2 v hv, fun _ => (by decide : (0 : Nat) < 4), fun _ => (by decide : (0 : Nat) < 8)⟩
/-- a step that can be taken: where it stands in the program -/
theorem te_at {P : te_P} (hW : te_W P) {s : te_S} {t : Nat} (ht : t < 3) (hc : te_dn s t < te_sz P t) : te_dn s t < 3 ∧ te_op P t (te_dn s t) ≤ 5 ∧ te_pl P t (te_dn s t) < 3 ∧ (4 ≤ te_op P t (te_dn s t) → te_pl P t (te_dn s t) < 2) ∧ te_am P t (te_dn s t) < 8 := by
  have hs := hW.1 t ht
  have h : te_dn s t < 3 := by omega
  exact ⟨h, hW.2.1 t ht _ h⟩
theorem te_rs_lt {P : te_P} (hW : te_W P) {r : List Nat} (ho : te_o P r) : te_rs P r < 512 := by
  have h := (te_Bd_q hW ho).1
  have h0 := h 0 (by omega)
  have h1 := h 1 (by omega)
  have h2 := h 2 (by omega)
  unfold te_rs
  omega
theorem te_cm_dn {P : te_P} {r : List Nat} (ho : te_o P r) : te_dn (te_q P r) 0 + te_dn (te_q P r) 1 + te_dn (te_q P r) 2 = r.length ∧ te_dn (te_q P r) 0 ≤ te_sz P 0 ∧ te_dn (te_q P r) 1 ≤ te_sz P 1 ∧ te_dn (te_q P r) 2 ≤ te_sz P 2 := by
  have h := te_rm_run r _ ho
  have h0 := te_ok_dn r _ ho 0 (Nat.zero_le _)
  have h1 := te_ok_dn r _ ho 1 (Nat.zero_le _)
  have h2 := te_ok_dn r _ ho 2 (Nat.zero_le _)
  have e : te_rm P (te_s0 P) = te_sz P 0 + te_sz P 1 + te_sz P 2 := rfl
  have e2 : te_rm P (te_run P (te_s0 P) r) = (te_sz P 0 - te_dn (te_run P (te_s0 P) r) 0) + (te_sz P 1 - te_dn (te_run P (te_s0 P) r) 1) + (te_sz P 2 - te_dn (te_run P (te_s0 P) r) 2) := rfl
  rw [e2, e] at h
  show te_dn (te_run P (te_s0 P) r) 0 + te_dn (te_run P (te_s0 P) r) 1 + te_dn (te_run P (te_s0 P) r) 2 = r.length ∧ te_dn (te_run P (te_s0 P) r) 0 ≤ te_sz P 0 ∧ te_dn (te_run P (te_s0 P) r) 1 ≤ te_sz P 1 ∧ te_dn (te_run P (te_s0 P) r) 2 ≤ te_sz P 2
  omega
def te_hI (n : Nat) : Int32 := if n = 0 then -1 else nI (n - 1)
theorem te_hI_m1 : ∀ n, n < 4 → (te_hI n = -1 ↔ n = 0) := by decide +kernel
theorem te_hI_lt : ∀ n, n < 4 → (te_hI n < 0 ↔ n = 0) := by decide +kernel
theorem te_hI_eq : ∀ n, n < 4 → ∀ t, t < 3 → (te_hI n = nI t ↔ n = t + 1) := by decide +kernel
theorem te_hI_0 : te_hI 0 = -1 := rfl
theorem te_hI_s (t : Nat) : te_hI (t + 1) = nI t := if_neg (Nat.succ_ne_zero t)
/-- an array of ints that holds naturals -/
def te_AR (n : Nat) (a : Nat → Int32) (f : Nat → Nat) : Prop := ∀ i, i < n → a i = nI (f i)
theorem te_A_upd {n : Nat} {a : Nat → Int32} {f : Nat → Nat} (h : te_AR n a f) (k x : Nat) : te_AR n (upd a k (nI x)) (te_u f k x) := by
  intro i hi
  unfold upd te_u
  by_cases c : i = k
  · rw [if_pos c, if_pos c]
  · rw [if_neg c, if_neg c]; exact h i hi
end
section
/-! the first machine: able, next able, one step -/
section
variable {xle xbr xbt xrc xkc xsk xsh : Int32} {xsc xop xpl xod xiv xcu xac xho xta xro xtu xck xgr xes xls : Nat → Int32}
def te_XP (P : te_P) (xsc xop xpl xod xiv : Nat → Int32) : Prop :=
  (∀ t, t < 3 → xsc t = nI (te_sz P t)) ∧ (∀ t, t < 3 → ∀ i, i < 3 → xop (4 * t + i) = nI (te_op P t i) ∧ xpl (4 * t + i) = nI (te_pl P t i) ∧ xod (4 * t + i) = nI (te_am P t i)) ∧ ∀ v, v < 3 → xiv v = nI (te_ini P v)
def te_XQ (P : te_P) (r : List Nat) (xcu xac xho xta xro : Nat → Int32) (xle : Int32) : Prop :=
  (∀ v, v < 3 → xcu v = nI (te_vl (te_q P r) v)) ∧ (∀ t, t < 3 → xac t = nI (te_hn (te_q P r) t)) ∧ (∀ l, l < 2 → xho l = te_hI (te_hd (te_q P r) l)) ∧ (∀ t, t < 3 → xta t = nI (te_dn (te_q P r) t)) ∧ (∀ k x, (te_L P r)[k]? = some x → xro k = nI (4 * x.1 + x.2)) ∧ xle = nI r.length
theorem te_can_iff {P : te_P} {s : te_S} {t : Nat} : te_can P s t = true ↔ te_dn s t < te_sz P t ∧ (te_op P t (te_dn s t) = 4 → te_hd s (te_pl P t (te_dn s t)) = 0) := by
  unfold te_can
  simp only [Bool.and_eq_true, Bool.or_eq_true, decide_eq_true_eq, ne_eq]
  constructor
  · intro ⟨a, b⟩
    exact ⟨a, fun c => b.resolve_left (fun z => z c)⟩
  · intro ⟨a, b⟩
    refine ⟨a, ?_⟩
    by_cases c : te_op P t (te_dn s t) = 4
    · exact Or.inr (b c)
    · exact Or.inl c
theorem te_num4 (t d : Nat) : nI t * 4 + nI d = nI (4 * t + d) := by
  show nI t * nI 4 + nI d = _
  rw [pk_mul, nI_add]
  exact congrArg nI (by omega)
theorem tx_isAble {P : te_P} (hW : te_W P) {r : List Nat} (hr : te_o P r) (hp : te_XP P xsc xop xpl xod xiv) (hq : te_XQ P r xcu xac xho xta xro xle) {t : Nat} (ht : t < 3) {post : Int32 → Prop} (h : post (if te_can P (te_q P r) t = true then 1 else 0)) : wpX_isAble post (xle, xbr, xbt, xrc, xkc, xsk, xsh, xsc, xop, xpl, xod, xiv, xcu, xac, xho, xta, xro, xtu, xck, xgr, xes, xls) (nI t) := by
  obtain ⟨p1, p2, p3⟩ := hp
  obtain ⟨q1, q2, q3, q4, q5, q6⟩ := hq
  have hd := te_dn_le hW hr ht
  have hB := te_Bd_q hW hr
  have ct : (nI t).toNatClampNeg = t := nI_clamp (by omega)
  have hi : vp_in (nI t) 3 := vp_in_nI ht (by decide)
  unfold wpX_isAble
  dsimp only
  rw [ct, q4 t ht, p1 t ht]
  refine ⟨hi, hi, pk_lt _ _ (fun c => ⟨hi, nm_r (te_num4 t _) ?_⟩) (fun c => ?_) rfl rfl (by omega) (by omega)⟩
  · have ca := te_at hW ht c
    have cx : (nI (4 * t + te_dn (te_q P r) t)).toNatClampNeg = 4 * t + te_dn (te_q P r) t := nI_clamp (by omega)
    obtain ⟨a1, a2, a3⟩ := p2 t ht _ ca.1
    rw [cx, a1, a2]
    refine ⟨vp_in_nI (by omega) (by decide), pk_eq _ 4 (fun c4 => ⟨vp_in_nI (by omega) (by decide), vp_in_nI (ca.2.2.2.1 (by omega)) (by decide), ?_⟩) (fun c4 => ?_) rfl rfl (by omega) (by omega)⟩
    · have hl := ca.2.2.2.1 (by omega)
      have cp : (nI (te_pl P t (te_dn (te_q P r) t))).toNatClampNeg = te_pl P t (te_dn (te_q P r) t) := nI_clamp (by omega)
      rw [cp, q3 _ hl]
      by_cases z : te_hd (te_q P r) (te_pl P t (te_dn (te_q P r) t)) = 0
      · rw [if_pos (te_can_iff.mpr ⟨c, fun _ => z⟩)] at h
        exact br_t ((te_hI_m1 _ (hB.2.1 _)).mpr z) h
      · rw [if_neg (fun y => z ((te_can_iff.mp y).2 c4))] at h
        exact br_f (fun y => z ((te_hI_m1 _ (hB.2.1 _)).mp y)) h
    · rw [if_pos (te_can_iff.mpr ⟨c, fun y => absurd y c4⟩)] at h
      exact h
  · rw [if_neg (fun y => absurd (te_can_iff.mp y).1 (by omega))] at h
    exact h
theorem tx_na {P : te_P} (hW : te_W P) {r : List Nat} (hr : te_o P r) (hp : te_XP P xsc xop xpl xod xiv) (hq : te_XQ P r xcu xac xho xta xro xle) {post : Int32 → Prop} : ∀ d f, f + d = 3 → (∀ t, f ≤ t → t < 3 → te_can P (te_q P r) t = true → (∀ j, f ≤ j → j < t → te_can P (te_q P r) j = false) → post (nI t)) → ((∀ j, f ≤ j → j < 3 → te_can P (te_q P r) j = false) → post (-1)) → wX_nextAble_4 post xle xbr xbt xrc xkc xsk xsh xsc xop xpl xod xiv xcu xac xho xta xro xtu xck xgr xes xls (d + 1) (nI f) := by
  intro d
  induction d with
  | zero =>
    intro f hf h1 h2
    rw [wX_nextAble_4]
    exact pk_le 3 f (fun _ => h2 (fun j a b => absurd b (by omega))) (fun c => absurd c (by omega)) rfl rfl (by omega) (by omega)
  | succ d ih =>
    intro f hf h1 h2
    rw [wX_nextAble_4]
    refine pk_le 3 f (fun c => absurd c (by omega)) (fun c => tx_isAble hW hr hp hq (by omega) ?_) rfl rfl (by omega) (by omega)
    cases hc : te_can P (te_q P r) f with
    | true =>
      rw [if_pos rfl]
      exact br_f (by decide) (h1 f (Nat.le_refl _) (by omega) hc (fun j a b => absurd b (by omega)))
    | false =>
      rw [if_neg (by decide)]
      refine br_t rfl (nm_r (nI_1 f) (ih (f + 1) (by omega) ?_ ?_))
      · intro t a b c e
        refine h1 t (by omega) b c (fun j x y => ?_)
        by_cases z : j = f
        · rw [z]; exact hc
        · exact e j (by omega) y
      · intro e
        refine h2 (fun j x y => ?_)
        by_cases z : j = f
        · rw [z]; exact hc
        · exact e j (by omega) y
theorem tx_nextAble {P : te_P} (hW : te_W P) {r : List Nat} (hr : te_o P r) (hp : te_XP P xsc xop xpl xod xiv) (hq : te_XQ P r xcu xac xho xta xro xle) {post : Int32 → Prop} {a : Int32} (f : Nat) (hf : f ≤ 3) (ha : a + 1 = nI f) (h1 : ∀ t, f ≤ t → t < 3 → te_can P (te_q P r) t = true → (∀ j, f ≤ j → j < t → te_can P (te_q P r) j = false) → post (nI t)) (h2 : (∀ j, f ≤ j → j < 3 → te_can P (te_q P r) j = false) → post (-1)) : wpX_nextAble post (xle, xbr, xbt, xrc, xkc, xsk, xsh, xsc, xop, xpl, xod, xiv, xcu, xac, xho, xta, xro, xtu, xck, xgr, xes, xls) a := by
  unfold wpX_nextAble
  dsimp only
  exact nm_r ha ⟨3 - f + 1, tx_na hW hr hp hq (3 - f) f (by omega) h1 h2⟩
theorem te_pk_lt {P : te_P} (hW : te_W P) {D : List (List Nat)} {g : Nat → Nat} (h : te_pk P D g) {v : Nat} (hv : v < 3) : g v < 8 := by
  rcases (h v hv).1 with e | ⟨p, ho, e⟩
  · omega
  · rw [← e]; exact (te_Bd_q hW ho).1 v hv
theorem te_pk_congr {P : te_P} {D : List (List Nat)} {g g' : Nat → Nat} (h : te_pk P D g) (e : ∀ v, v < 3 → g' v = g v) : te_pk P D g' := by
  intro v hv
  rw [e v hv]
  exact h v hv
theorem te_pk_same {P : te_P} {D : List (List Nat)} {r : List Nat} {g : Nat → Nat} (h : te_pk P (D ++ [r]) g) (t : Nat) (ho : te_o P (r ++ [t])) (hv : ∀ v, v < 3 → te_vl (te_q P (r ++ [t])) v = te_vl (te_q P r) v) : te_pk P (D ++ [r ++ [t]]) g := by
  refine te_vl_max h t ho (fun v hv3 => ?_)
  have := (h v hv3).2 r (List.mem_append_right _ (List.mem_singleton.mpr rfl)) r [] (List.append_nil r).symm
  rw [hv v hv3, if_neg (by omega)]
theorem tx_setValue {g : Nat → Nat} (hg : te_AR 3 xgr g) (hg8 : ∀ v, v < 3 → g v < 8) {p w : Nat} (hp : p < 3) (hw : w < 100) {post : SX → Prop} (h : ∀ gr g', te_AR 3 gr g' → (∀ v, v < 3 → g' v = if v = p ∧ g v < w % 8 then w % 8 else g v) → post (xle, xbr, xbt, xrc, xkc, xsk, xsh, xsc, xop, xpl, xod, xiv, upd xcu p (nI (w % 8)), xac, xho, xta, xro, xtu, xck, gr, xes, xls)) : wpX_setValue post (xle, xbr, xbt, xrc, xkc, xsk, xsh, xsc, xop, xpl, xod, xiv, xcu, xac, xho, xta, xro, xtu, xck, xgr, xes, xls) (nI p) (nI w) := by
  have cp : (nI p).toNatClampNeg = p := nI_clamp (by omega)
  have hi : vp_in (nI p) 3 := vp_in_nI hp (by decide)
  have hm : nI w - nI w / 8 * 8 = nI (w % 8) := pk_rem (d := 8) (by omega) (by decide) (by decide)
  have hgp := hg8 p hp
  unfold wpX_setValue
  dsimp only
  rw [cp, hm]
  refine ⟨by decide, hi, nm_e ⟨hi, hi, ?_⟩⟩
  rw [pk_us, hg p hp]
  refine pk_le _ _ (fun c => ?_) (fun c => ⟨hi, hi, nm_e ?_⟩) rfl rfl (by omega) (by omega)
  · refine h xgr g hg (fun v hv => ?_)
    rw [if_neg]
    intro ⟨z, y⟩
    rw [z] at y
    omega
  · refine h _ (te_u g p (w % 8)) (te_A_upd hg p (w % 8)) (fun v hv => ?_)
    unfold te_u
    by_cases z : v = p
    · rw [if_pos z, if_pos ⟨z, by rw [z]; omega⟩]
    · rw [if_neg z, if_neg (fun y => z y.1)]
theorem tx_giveBack {p t n : Nat} (hp : p < 2) (ht : t < 3) (hn : n < 4) (hh : xho p = te_hI n) {post : SX → Prop} (h : ∀ ho, (∀ l, ho l = if l = p then te_hI (if n = t + 1 then 0 else n) else xho l) → post (xle, xbr, xbt, xrc, xkc, xsk, xsh, xsc, xop, xpl, xod, xiv, xcu, xac, ho, xta, xro, xtu, xck, xgr, xes, xls)) : wpX_giveBack post (xle, xbr, xbt, xrc, xkc, xsk, xsh, xsc, xop, xpl, xod, xiv, xcu, xac, xho, xta, xro, xtu, xck, xgr, xes, xls) (nI p) (nI t) := by
  have cp : (nI p).toNatClampNeg = p := nI_clamp (by omega)
  have hi : vp_in (nI p) 2 := vp_in_nI hp (by decide)
  unfold wpX_giveBack
  dsimp only
  rw [cp, hh]
  refine ⟨hi, ?_⟩
  by_cases c : n = t + 1
  · refine br_t ((te_hI_eq n hn t ht).mpr c) ⟨hi, nm_e (h _ (fun l => ?_))⟩
    rw [if_pos c]
    rfl
  · refine br_f (fun z => c ((te_hI_eq n hn t ht).mp z)) (h xho (fun l => ?_))
    rw [if_neg c]
    by_cases z : l = p
    · rw [if_pos z, z]; exact hh
    · rw [if_neg z]
theorem tx_147 {P : te_P} (hW : te_W P) {r : List Nat} {t : Nat} (hr : te_o P (r ++ [t])) (hr0 : te_o P r) (hcu : ∀ v, v < 3 → xcu v = nI (te_vl (te_q P (r ++ [t])) v)) (hac : ∀ t', t' < 3 → xac t' = nI (te_hn (te_q P (r ++ [t])) t')) (hho : ∀ l, l < 2 → xho l = te_hI (te_hd (te_q P (r ++ [t])) l)) (hta : ∀ t', t' < 3 → xta t' = nI (te_dn (te_q P r) t')) (hro : ∀ k x, (te_L P r)[k]? = some x → xro k = nI (4 * x.1 + x.2)) (hle : xle = nI r.length) {post : SX → Prop} (h : ∀ ta ro, te_XQ P (r ++ [t]) xcu xac xho ta ro (nI (r.length + 1)) → post (nI (r.length + 1), xbr, xbt, xrc, xkc, xsk, xsh, xsc, xop, xpl, xod, xiv, xcu, xac, xho, ta, ro, xtu, xck, xgr, xes, xls)) : wX_takeStep_147 post (nI t) (nI (4 * t + te_dn (te_q P r) t)) xle xbr xbt xrc xkc xsk xsh xsc xop xpl xod xiv xcu xac xho xta xro xtu xck xgr xes xls := by
  have hs := (te_o_snoc P r t).mp hr
  have hl := te_o_lt hW hr0 hs.2.1 hs.2.2
  have ht := hs.2.1
  have ct : (nI t).toNatClampNeg = t := nI_clamp (by omega)
  have cl : (nI r.length).toNatClampNeg = r.length := nI_clamp (by omega)
  have hi : vp_in (nI t) 3 := vp_in_nI ht (by decide)
  unfold wX_takeStep_147
  rw [hle, ct, cl, hta t ht]
  refine ⟨vp_in_nI hl (by decide), nm_e (nm_r (nI_1 _) ⟨hi, hi, nm_r (congrArg (upd xta t) (nI_1 _)) (h _ _ ⟨hcu, hac, hho, ?_, ?_, ?_⟩)⟩)⟩
  · intro t' ht'
    rw [te_q_snoc, te_dn_a]
    unfold upd
    by_cases z : t' = t
    · rw [if_pos z, if_pos z]
    · rw [if_neg z, if_neg z]; exact hta t' ht'
  · intro k x hx
    rw [te_L_snoc] at hx
    have hlen := te_L_len P r
    unfold upd
    by_cases z : k = r.length
    · rw [if_pos z]
      rw [List.getElem?_append_right (by omega), show k - (te_L P r).length = 0 by omega, List.getElem?_cons_zero] at hx
      rw [← Option.some.inj hx]
    · rw [if_neg z]
      by_cases y : k < r.length
      · rw [List.getElem?_append_left (by omega)] at hx
        exact hro k x hx
      · rw [List.getElem?_eq_none (by rw [List.length_append]; show _ + 1 ≤ k; omega)] at hx
        exact absurd hx (by simp)
  · rw [List.length_append]; rfl
end
end
section
/-! the first machine: one step, the start of a run, a run -/
section
variable {xle xbr xbt xrc xkc xsk xsh : Int32} {xsc xop xpl xod xiv xcu xac xho xta xro xtu xck xgr xes xls : Nat → Int32}
theorem tx_wr {P : te_P} (hW : te_W P) {r : List Nat} (hr : te_o P r) {D : List (List Nat)} {g : Nat → Nat} (hg : te_AR 3 xgr g) (hk : te_pk P (D ++ [r]) g) {t o p a n w : Nat} (hr' : te_o P (r ++ [t])) (ev : te_vl (te_q P (r ++ [t])) = te_wv o p a n (te_vl (te_q P r))) (ho : 1 ≤ o ∧ o ≤ 3) (hp : p < 3) (hw : w < 100) (e : te_nv o a n (te_vl (te_q P r) p) = w % 8) (q1 : ∀ v, v < 3 → xcu v = nI (te_vl (te_q P r) v)) {Q : SX → Prop} (h : ∀ gr g', te_AR 3 gr g' → te_pk P (D ++ [r ++ [t]]) g' → (∀ v, v < 3 → upd xcu p (nI (w % 8)) v = nI (te_vl (te_q P (r ++ [t])) v)) → Q (xle, xbr, xbt, xrc, xkc, xsk, xsh, xsc, xop, xpl, xod, xiv, upd xcu p (nI (w % 8)), xac, xho, xta, xro, xtu, xck, gr, xes, xls)) : wpX_setValue Q (xle, xbr, xbt, xrc, xkc, xsk, xsh, xsc, xop, xpl, xod, xiv, xcu, xac, xho, xta, xro, xtu, xck, xgr, xes, xls) (nI p) (nI w) := by
  have ev' : te_vl (te_q P (r ++ [t])) = te_u (te_vl (te_q P r)) p (w % 8) := by
    rw [ev]; unfold te_wv; rw [if_pos ho, e]
  refine tx_setValue hg (fun v hv => te_pk_lt hW hk hv) hp hw (fun gr g' hgr hg' => h gr g' hgr (te_vl_max hk t hr' (fun v hv => ?_)) (fun v hv => ?_))
  · rw [hg' v hv, ev']
    have hle := (hk v hv).2 r (List.mem_append_right _ (List.mem_singleton.mpr rfl)) r [] (List.append_nil r).symm
    unfold te_u
    by_cases z : v = p
    · rw [if_pos z]
      by_cases y : g v < w % 8
      · rw [if_pos ⟨z, y⟩, if_pos y]
      · rw [if_neg (fun x => y x.2), if_neg y]
    · rw [if_neg z, if_neg (fun x => z x.1), if_neg (by omega)]
  · rw [ev']
    unfold te_u upd
    by_cases z : v = p
    · rw [if_pos z, if_pos z]
    · rw [if_neg z, if_neg z]; exact q1 v hv
theorem tx_takeStep {P : te_P} (hW : te_W P) {r : List Nat} (hr : te_o P r) (hp : te_XP P xsc xop xpl xod xiv) (hq : te_XQ P r xcu xac xho xta xro xle) {D : List (List Nat)} {g : Nat → Nat} (hg : te_AR 3 xgr g) (hk : te_pk P (D ++ [r]) g) {t : Nat} (ht : t < 3) (hc : te_can P (te_q P r) t = true) {post : SX → Prop} (h : ∀ cu ac ho ta ro gr g', te_XQ P (r ++ [t]) cu ac ho ta ro (nI (r.length + 1)) → te_AR 3 gr g' → te_pk P (D ++ [r ++ [t]]) g' → post (nI (r.length + 1), xbr, xbt, xrc, xkc, xsk, xsh, xsc, xop, xpl, xod, xiv, cu, ac, ho, ta, ro, xtu, xck, gr, xes, xls)) : wpX_takeStep post (xle, xbr, xbt, xrc, xkc, xsk, xsh, xsc, xop, xpl, xod, xiv, xcu, xac, xho, xta, xro, xtu, xck, xgr, xes, xls) (nI t) := by
  have hr' := (te_o_snoc P r t).mpr ⟨hr, ht, hc⟩
  have c := te_can_lt hc
  have ca := te_at hW ht c
  have hB := te_Bd_q hW hr
  obtain ⟨p1, p2, p3⟩ := hp
  obtain ⟨q1, q2, q3, q4, q5, q6⟩ := hq
  obtain ⟨a1, a2, a3⟩ := p2 t ht _ ca.1
  have ev : te_vl (te_q P (r ++ [t])) = te_wv (te_op P t (te_dn (te_q P r) t)) (te_pl P t (te_dn (te_q P r) t)) (te_am P t (te_dn (te_q P r) t)) (te_hn (te_q P r) t) (te_vl (te_q P r)) := by rw [te_q_snoc]; rfl
  have eh : te_hd (te_q P (r ++ [t])) = te_wh (te_op P t (te_dn (te_q P r) t)) (te_pl P t (te_dn (te_q P r) t)) t (te_hd (te_q P r)) := by rw [te_q_snoc]; rfl
  have en : te_hn (te_q P (r ++ [t])) = te_wn (te_op P t (te_dn (te_q P r) t)) t (te_vl (te_q P r) (te_pl P t (te_dn (te_q P r) t))) (te_hn (te_q P r)) := by rw [te_q_snoc]; rfl
  have ct : (nI t).toNatClampNeg = t := nI_clamp (by omega)
  have hi : vp_in (nI t) 3 := vp_in_nI ht (by decide)
  have cx : (nI (4 * t + te_dn (te_q P r) t)).toNatClampNeg = 4 * t + te_dn (te_q P r) t := nI_clamp (by omega)
  have hx : vp_in (nI (4 * t + te_dn (te_q P r) t)) 12 := vp_in_nI (by omega) (by decide)
  obtain ⟨d, hd⟩ : ∃ d, te_dn (te_q P r) t = d := ⟨_, rfl⟩
  obtain ⟨o, eo⟩ : ∃ o, te_op P t d = o := ⟨_, rfl⟩
  obtain ⟨p, ep⟩ : ∃ p, te_pl P t d = p := ⟨_, rfl⟩
  obtain ⟨a, ea⟩ : ∃ a, te_am P t d = a := ⟨_, rfl⟩
  have q4t := q4 t ht
  have h147 : ∀ {xcu xac xho xgr : Nat → Int32} {g' : Nat → Nat}, (∀ v, v < 3 → xcu v = nI (te_vl (te_q P (r ++ [t])) v)) → (∀ t', t' < 3 → xac t' = nI (te_hn (te_q P (r ++ [t])) t')) → (∀ l, l < 2 → xho l = te_hI (te_hd (te_q P (r ++ [t])) l)) → te_AR 3 xgr g' → te_pk P (D ++ [r ++ [t]]) g' → wX_takeStep_147 post (nI t) (nI (4 * t + te_dn (te_q P r) t)) xle xbr xbt xrc xkc xsk xsh xsc xop xpl xod xiv xcu xac xho xta xro xtu xck xgr xes xls := by
    intro xcu xac xho xgr g' i1 i2 i3 i4 i5
    exact tx_147 hW hr' hr i1 i2 i3 q4 q5 q6 (fun ta ro hQ => h _ _ _ _ _ _ g' hQ i4 i5)
  rw [hd] at ca a1 a2 a3 ev eh en cx hx q4t h147
  rw [eo] at ca a1 ev eh en
  rw [ep] at ca a2 ev eh en
  rw [ea] at ca a3 ev
  obtain ⟨ca1, ca2, ca3, ca4, ca5⟩ := ca
  have cp : (nI p).toNatClampNeg = p := nI_clamp (by omega)
  have hip : vp_in (nI p) 3 := vp_in_nI ca3 (by decide)
  have hn8 := hB.2.2 t
  have hv8 := hB.1 p ca3
  unfold wpX_takeStep
  dsimp only
  rw [ct, q4t]
  refine ⟨hi, nm_r (te_num4 t _) ?_⟩
  rw [cx, a1, a2, a3]
  refine ⟨hx, nm_e ⟨hx, nm_e ?_⟩⟩
  rw [cp]
  have vsame : ¬ (1 ≤ o ∧ o ≤ 3) → ∀ v, te_vl (te_q P (r ++ [t])) v = te_vl (te_q P r) v := by
    intro z v; rw [ev]; unfold te_wv; rw [if_neg z]
  have hsame : ¬ 4 ≤ o → ∀ l, l < 2 → xho l = te_hI (te_hd (te_q P (r ++ [t])) l) := by
    intro z l hl; rw [eh]; unfold te_wh; rw [if_neg z]; exact q3 l hl
  have nsame : ¬ o = 0 → ∀ t', t' < 3 → xac t' = nI (te_hn (te_q P (r ++ [t])) t') := by
    intro z t' ht'; rw [en]; unfold te_wn; rw [if_neg z]; exact q2 t' ht'
  have cusame : ¬ (1 ≤ o ∧ o ≤ 3) → ∀ v, v < 3 → xcu v = nI (te_vl (te_q P (r ++ [t])) v) := by
    intro z v hv; rw [vsame z v]; exact q1 v hv
  have pksame : ¬ (1 ≤ o ∧ o ≤ 3) → te_pk P (D ++ [r ++ [t]]) g := fun z => te_pk_same hk t hr' (fun v _ => vsame z v)
  refine br_f (nI_pos (by omega)) (pk_lt 4 o (fun c5 => ?_) (fun c5 => ?_) rfl rfl (by omega) (by omega))
  · have o5 : o = 5 := by omega
    refine tx_giveBack (ca4 (by omega)) ht (hB.2.1 p) (q3 p (ca4 (by omega))) (fun ho' hho' => ?_)
    refine h147 (cusame (by omega)) (nsame (by omega)) ?_ hg (pksame (by omega))
    intro l hl
    show ho' l = te_hI (te_hd (te_q P (r ++ [t])) l)
    have o4 : 4 ≤ o := by omega
    have o4' : ¬ o = 4 := by omega
    rw [hho' l, eh]
    unfold te_wh
    rw [if_pos o4]
    unfold te_u te_nh
    by_cases z : l = p
    · rw [if_pos z, if_pos z, if_neg o4']
    · rw [if_neg z, if_neg z]; exact q3 l hl
  · refine pk_eq o 0 (fun c0 => ⟨hip, hi, nm_e ?_⟩) (fun c0 => pk_eq o 1 (fun c1 => ⟨hx, ?_⟩) (fun c1 => pk_eq o 2 (fun c2 => ⟨hi, hx, ?_⟩) (fun c2 => pk_eq o 3 (fun c3 => ⟨hip, hx, ?_⟩) (fun c3 => pk_eq o 4 (fun c4 => ⟨vp_in_nI (ca4 (by omega)) (by decide), nm_e ?_⟩) (fun c4 => trivial) rfl rfl (by omega) (by omega)) rfl rfl (by omega) (by omega)) rfl rfl (by omega) (by omega)) rfl rfl (by omega) (by omega)) rfl rfl (by omega) (by omega)
    · refine h147 (cusame (by omega)) ?_ (hsame (by omega)) hg (pksame (by omega))
      intro t' ht'
      rw [en]
      unfold te_wn
      rw [if_pos c0]
      unfold upd te_u
      by_cases z : t' = t
      · rw [if_pos z, if_pos z]; exact q1 p ca3
      · rw [if_neg z, if_neg z]; exact q2 t' ht'
    · refine tx_wr hW hr hg hk hr' ev (by omega) ca3 (by omega) ?_ q1 (fun gr g' i1 i2 i3 => h147 i3 (nsame c0) (hsame (by omega)) i1 i2)
      unfold te_nv
      rw [if_pos c1]
      omega
    · rw [q2 t ht, nI_add]
      refine tx_wr hW hr hg hk hr' ev (by omega) ca3 (by omega) ?_ q1 (fun gr g' i1 i2 i3 => h147 i3 (nsame c0) (hsame (by omega)) i1 i2)
      unfold te_nv
      rw [if_neg c1, if_pos c2]
    · rw [q1 p ca3, nI_add]
      refine tx_wr hW hr hg hk hr' ev (by omega) ca3 (by omega) ?_ q1 (fun gr g' i1 i2 i3 => h147 i3 (nsame c0) (hsame (by omega)) i1 i2)
      unfold te_nv
      rw [if_neg c1, if_neg c2]
    · refine h147 (cusame (by omega)) (nsame c0) ?_ hg (pksame (by omega))
      intro l hl
      have o4 : 4 ≤ o := by omega
      rw [eh]
      unfold te_wh
      rw [if_pos o4]
      unfold upd te_u te_nh
      by_cases z : l = p
      · rw [if_pos z, if_pos z, if_pos c4]; exact (te_hI_s t).symm
      · rw [if_neg z, if_neg z]; exact q3 l hl
theorem te_ul {Q : Nat → Int32 → Prop} {a : Nat → Int32} {i : Nat} {x : Int32} (hi : i < 100000) (h : ∀ l, l < i → Q l (a l)) (hx : Q i x) : ∀ l, l < i + 1 → Q l (upd a (nI i).toNatClampNeg x l) := by
  intro l hl
  rw [nI_clamp (by omega)]
  unfold upd
  by_cases z : l = i
  · rw [if_pos z, z]; exact hx
  · rw [if_neg z]; exact h l (by omega)
theorem tx_begin54 {post : SX → Prop} (h : ∀ ho, (∀ l, l < 2 → ho l = -1) → post (0, -1, xbt, xrc, xkc, xsk, xsh, xsc, xop, xpl, xod, xiv, xcu, xac, ho, xta, xro, xtu, xck, xgr, xes, xls)) : ∀ d i, i + d = 2 → ∀ xho : Nat → Int32, (∀ l, l < i → xho l = -1) → wX_beginRun_54 post xle xbr xbt xrc xkc xsk xsh (d + 1) (nI i) xsc xop xpl xod xiv xcu xac xho xta xro xtu xck xgr xes xls := by
  intro d
  induction d with
  | zero =>
    intro i hi xho hh
    rw [wX_beginRun_54]
    exact pk_le 2 i (fun _ => h xho (fun l hl => hh l (by omega))) (fun c => absurd c (by omega)) rfl rfl (by omega) (by omega)
  | succ d ih =>
    intro i hi xho hh
    rw [wX_beginRun_54]
    exact pk_le 2 i (fun c => absurd c (by omega)) (fun c => ⟨vp_in_nI c (by decide), nm_e (nm_r (nI_1 i) (ih (i + 1) (by omega) _ (te_ul (Q := fun l x => x = -1) (by omega) hh rfl)))⟩) rfl rfl (by omega) (by omega)
theorem tx_begin27 {post : SX → Prop} (h : ∀ ho ac ta, (∀ l, l < 2 → ho l = -1) → (∀ l, l < 3 → ac l = 0) → (∀ l, l < 3 → ta l = 0) → post (0, -1, xbt, xrc, xkc, xsk, xsh, xsc, xop, xpl, xod, xiv, xcu, ac, ho, ta, xro, xtu, xck, xgr, xes, xls)) : ∀ d i, i + d = 3 → ∀ xac xta : Nat → Int32, (∀ l, l < i → xac l = 0) → (∀ l, l < i → xta l = 0) → wX_beginRun_27 post xle xbr xbt xrc xkc xsk xsh (d + 1) (nI i) xsc xop xpl xod xiv xcu xac xho xta xro xtu xck xgr xes xls := by
  intro d
  induction d with
  | zero =>
    intro i hi xac xta hh hh'
    rw [wX_beginRun_27]
    exact pk_le 3 i (fun _ => ⟨_, tx_begin54 (fun ho e => h ho xac xta e (fun l hl => hh l (by omega)) (fun l hl => hh' l (by omega))) 2 0 rfl xho (fun l hl => absurd hl (by omega))⟩) (fun c => absurd c (by omega)) rfl rfl (by omega) (by omega)
  | succ d ih =>
    intro i hi xac xta hh hh'
    rw [wX_beginRun_27]
    exact pk_le 3 i (fun c => absurd c (by omega)) (fun c => ⟨vp_in_nI c (by decide), nm_e ⟨vp_in_nI c (by decide), nm_e (nm_r (nI_1 i) (ih (i + 1) (by omega) _ _ (te_ul (Q := fun l x => x = 0) (by omega) hh rfl) (te_ul (Q := fun l x => x = 0) (by omega) hh' rfl)))⟩⟩) rfl rfl (by omega) (by omega)
theorem tx_begin2 {post : SX → Prop} (h : ∀ ho ac ta cu, (∀ l, l < 2 → ho l = -1) → (∀ l, l < 3 → ac l = 0) → (∀ l, l < 3 → ta l = 0) → (∀ l, l < 3 → cu l = xiv l) → post (0, -1, xbt, xrc, xkc, xsk, xsh, xsc, xop, xpl, xod, xiv, cu, ac, ho, ta, xro, xtu, xck, xgr, xes, xls)) : ∀ d i, i + d = 3 → ∀ xcu : Nat → Int32, (∀ l, l < i → xcu l = xiv l) → wX_beginRun_2 post xle xbr xbt xrc xkc xsk xsh (d + 1) (nI i) xsc xop xpl xod xiv xcu xac xho xta xro xtu xck xgr xes xls := by
  intro d
  induction d with
  | zero =>
    intro i hi xcu hh
    rw [wX_beginRun_2]
    exact pk_le 3 i (fun _ => ⟨_, tx_begin27 (fun ho ac ta e1 e2 e3 => h ho ac ta xcu e1 e2 e3 (fun l hl => hh l (by omega))) 3 0 rfl xac xta (fun l hl => absurd hl (by omega)) (fun l hl => absurd hl (by omega))⟩) (fun c => absurd c (by omega)) rfl rfl (by omega) (by omega)
  | succ d ih =>
    intro i hi xcu hh
    rw [wX_beginRun_2]
    exact pk_le 3 i (fun c => absurd c (by omega)) (fun c => ⟨vp_in_nI c (by decide), vp_in_nI c (by decide), nm_e (nm_r (nI_1 i) (ih (i + 1) (by omega) _ (te_ul (Q := fun l x => x = xiv l) (by omega) hh (by rw [nI_clamp (by omega)]))))⟩) rfl rfl (by omega) (by omega)
theorem tx_beginRun {P : te_P} (hp : te_XP P xsc xop xpl xod xiv) {post : SX → Prop} (h : ∀ ho ac ta cu, te_XQ P [] cu ac ho ta xro 0 → post (0, -1, xbt, xrc, xkc, xsk, xsh, xsc, xop, xpl, xod, xiv, cu, ac, ho, ta, xro, xtu, xck, xgr, xes, xls)) : wpX_beginRun post (xle, xbr, xbt, xrc, xkc, xsk, xsh, xsc, xop, xpl, xod, xiv, xcu, xac, xho, xta, xro, xtu, xck, xgr, xes, xls) := by
  unfold wpX_beginRun
  dsimp only
  refine ⟨_, tx_begin2 (fun ho ac ta cu e1 e2 e3 e4 => h ho ac ta cu ⟨fun v hv => ?_, fun t ht => e2 t ht, fun l hl => e1 l hl, fun t ht => e3 t ht, fun k x hx => ?_, rfl⟩) 3 0 rfl xcu (fun l hl => absurd hl (by omega))⟩
  · rw [e4 v hv, hp.2.2 v hv]; rfl
  · exact absurd hx (by simp [te_L, te_st])
end
end
section
/-! the first machine: a whole run -/
section
variable {xle xbr xbt xrc xkc xsk xsh : Int32} {xsc xop xpl xod xiv xcu xac xho xta xro xtu xck xgr xes xls : Nat → Int32}
def te_BI : Option (Nat × Nat) → Int32 → Int32 → Prop
  | none, br, _ => br = -1
  | some (k, t), br, bt => br = nI k ∧ bt = nI t
theorem tx_67 {P : te_P} (hW : te_W P) {r : List Nat} (hr : te_o P r) (hp : te_XP P xsc xop xpl xod xiv) (hq : te_XQ P r xcu xac xho xta xro xle) {D : List (List Nat)} {g : Nat → Nat} (hg : te_AR 3 xgr g) (hk : te_pk P (D ++ [r]) g) {t : Nat} (ht : t < 3) (hc : te_can P (te_q P r) t = true) (htu : xtu r.length = nI t) {post : SX → Prop} {J : Int32 → Int32 → Int32 → Int32 → Int32 → Int32 → Int32 → Int32 → (Nat → Int32) → (Nat → Int32) → (Nat → Int32) → (Nat → Int32) → (Nat → Int32) → (Nat → Int32) → (Nat → Int32) → (Nat → Int32) → (Nat → Int32) → (Nat → Int32) → (Nat → Int32) → (Nat → Int32) → (Nat → Int32) → (Nat → Int32) → (Nat → Int32) → Prop} {x1 : Int32}
    (h : ∀ cu ac ho ta ro gr g', te_XQ P (r ++ [t]) cu ac ho ta ro (nI (r.length + 1)) → te_AR 3 gr g' → te_pk P (D ++ [r ++ [t]]) g' → J (nI (r.length + 1)) (nI (r.length + 1)) xbr xbt xrc xkc xsk xsh xsc xop xpl xod xiv cu ac ho ta ro xtu xck gr xes xls) : wX_takeRun_67 post J x1 (nI r.length) xle xbr xbt xrc xkc xsk xsh xsc xop xpl xod xiv xcu xac xho xta xro xtu xck xgr xes xls := by
  have hl := te_o_lt hW hr ht hc
  have cl : (nI r.length).toNatClampNeg = r.length := nI_clamp (by omega)
  unfold wX_takeRun_67
  rw [cl, htu]
  exact ⟨vp_in_nI hl (by decide), tx_takeStep hW hr hp hq hg hk ht hc (fun cu ac ho ta ro gr g' i1 i2 i3 => nm_r (nI_1 _) (h cu ac ho ta ro gr g' i1 i2 i3))⟩
theorem tx_28 {P : te_P} (hW : te_W P) {r : List Nat} (hr : te_o P r) (hp : te_XP P xsc xop xpl xod xiv) (hq : te_XQ P r xcu xac xho xta xro xle) {D : List (List Nat)} {g : Nat → Nat} (hg : te_AR 3 xgr g) (hk : te_pk P (D ++ [r]) g) {t : Nat} (ht : t < 3) (hc : te_can P (te_q P r) t = true) (htu : xtu r.length = nI t) {b : Option (Nat × Nat)} (hb : te_Bn P r b) (hbi : te_BI b xbr xbt) {post : SX → Prop} {J : Int32 → Int32 → Int32 → Int32 → Int32 → Int32 → Int32 → Int32 → (Nat → Int32) → (Nat → Int32) → (Nat → Int32) → (Nat → Int32) → (Nat → Int32) → (Nat → Int32) → (Nat → Int32) → (Nat → Int32) → (Nat → Int32) → (Nat → Int32) → (Nat → Int32) → (Nat → Int32) → (Nat → Int32) → (Nat → Int32) → (Nat → Int32) → Prop} {x1 : Int32}
    (h : ∀ br bt b' cu ac ho ta ro gr g', te_XQ P (r ++ [t]) cu ac ho ta ro (nI (r.length + 1)) → te_AR 3 gr g' → te_pk P (D ++ [r ++ [t]]) g' → te_Bn P (r ++ [t]) b' → te_BI b' br bt → J (nI (r.length + 1)) (nI (r.length + 1)) br bt xrc xkc xsk xsh xsc xop xpl xod xiv cu ac ho ta ro xtu xck gr xes xls) : wX_takeRun_28 post J x1 (nI r.length) xle xbr xbt xrc xkc xsk xsh xsc xop xpl xod xiv xcu xac xho xta xro xtu xck xgr xes xls := by
  have hl := te_o_lt hW hr ht hc
  have cl : (nI r.length).toNatClampNeg = r.length := nI_clamp (by omega)
  have hi : vp_in (nI r.length) 9 := vp_in_nI hl (by decide)
  have hm : ∀ t, t < 3 → ¬ nI t = -1 := by decide +kernel
  unfold wX_takeRun_28
  rw [cl, htu]
  refine ⟨hi, br_f (hm t ht) ⟨hi, tx_nextAble hW hr hp hq (t + 1) (by omega) (nI_1 t) (fun t' a1 a2 a3 a4 => ?_) (fun a => ?_)⟩⟩
  · refine br_f (hm t' a2) ?_
    exact tx_67 hW hr hp hq hg hk ht hc htu (fun cu ac ho ta ro gr g' i1 i2 i3 => h (nI r.length) (nI t') (some (r.length, t')) cu ac ho ta ro gr g' i1 i2 i3 (te_Bn_new a1 a2 a3 (fun j x y => a4 j x y)) ⟨rfl, rfl⟩)
  · refine br_t rfl ?_
    exact tx_67 hW hr hp hq hg hk ht hc htu (fun cu ac ho ta ro gr g' i1 i2 i3 => h xbr xbt b cu ac ho ta ro gr g' i1 i2 i3 (te_Bn_keep hb (fun j x y => a j x y)) hbi)
/-- the place of a run that is being taken -/
def te_At (P : te_P) (p r : List Nat) : Prop := (r.length < p.length ∧ r = p.take r.length) ∨ (p.length ≤ r.length ∧ te_Lv P p ++ te_Rs P p = te_Lv P r ++ te_Rs P r)
theorem te_snoc_get {r : List Nat} {t : Nat} {f : Nat → Int32} (h : ∀ k x, r[k]? = some x → f k = nI x) (ht : f r.length = nI t) : ∀ k x, (r ++ [t])[k]? = some x → f k = nI x := by
  intro k x hx
  by_cases z : k < r.length
  · rw [List.getElem?_append_left z] at hx
    exact h k x hx
  · rw [List.getElem?_append_right (by omega)] at hx
    by_cases y : k = r.length
    · rw [y, Nat.sub_self, List.getElem?_cons_zero] at hx
      rw [y, ht, Option.some.inj hx]
    · rw [List.getElem?_eq_none (by show 1 ≤ _; omega)] at hx
      exact absurd hx (by simp)
theorem te_upd_get {r : List Nat} {y : Int32} {f : Nat → Int32} {n : Nat} (hn : r.length ≤ n) (h : ∀ k x, r[k]? = some x → f k = nI x) : ∀ k x, r[k]? = some x → upd f n y k = nI x := by
  intro k x hx
  have hk : k < r.length := (List.getElem?_eq_some_iff.mp hx).1
  rw [pk_un (by omega)]
  exact h k x hx
theorem tx_take6 {P : te_P} (hW : te_W P) {p : List Nat} (hpo : te_o P p) (hp : te_XP P xsc xop xpl xod xiv) {D : List (List Nat)} {post : SX → Prop}
    (h : ∀ q le br bt cu ac ho ta ro tu gr g b, te_o P q → te_stb P (te_q P q) = true → te_Lv P p ++ te_Rs P p = q :: te_Rs P q → te_XQ P q cu ac ho ta ro le → (∀ k x, q[k]? = some x → tu k = nI x) → te_Bn P q b → te_BI b br bt → te_AR 3 gr g → te_pk P (D ++ [q]) g → post (le, br, bt, xrc, xkc, xsk, xsh, xsc, xop, xpl, xod, xiv, cu, ac, ho, ta, ro, tu, xck, gr, xes, xls)) :
    ∀ d (r : List Nat), r.length + d = 9 → ∀ (xle xbr xbt : Int32) (xcu xac xho xta xro xtu xgr : Nat → Int32) (g : Nat → Nat) (b : Option (Nat × Nat)), te_o P r → te_At P p r → te_XQ P r xcu xac xho xta xro xle → (∀ k x, p[k]? = some x → r.length ≤ k → xtu k = nI x) → (∀ k x, r[k]? = some x → xtu k = nI x) → te_Bn P r b → te_BI b xbr xbt → te_AR 3 xgr g → te_pk P (D ++ [r]) g → wX_takeRun_6 post (nI p.length) (d + 1) (nI r.length) xle xbr xbt xrc xkc xsk xsh xsc xop xpl xod xiv xcu xac xho xta xro xtu xck xgr xes xls := by
  have hpl := te_o_len hW hpo
  intro d
  induction d with
  | zero =>
    intro r hd xle xbr xbt xcu xac xho xta xro xtu xgr g b hr hA hq htp htr hb hbi hg hk
    have hrl := te_o_len hW hr
    have hs : te_stb P (te_q P r) = true := te_stb_t.mpr (te_rm_stk (by omega))
    rw [wX_takeRun_6]
    refine pk_le 9 r.length (fun _ => ?_) (fun c => absurd c (by omega)) rfl rfl (by omega) (by omega)
    refine h r _ _ _ _ _ _ _ _ _ _ g b hr hs ?_ hq htr hb hbi hg hk
    rcases hA with ⟨a1, a2⟩ | ⟨a1, a2⟩
    · omega
    · rw [a2, te_Lv_stk hs]; rfl
  | succ d ih =>
    intro r hd xle xbr xbt xcu xac xho xta xro xtu xgr g b hr hA hq htp htr hb hbi hg hk
    have cl : (nI r.length).toNatClampNeg = r.length := nI_clamp (by omega)
    have hi : vp_in (nI r.length) 9 := vp_in_nI (by omega) (by decide)
    rw [wX_takeRun_6]
    refine pk_le 9 r.length (fun c => absurd c (by omega)) (fun _ => pk_lt r.length p.length (fun c => ?_) (fun c => ?_) rfl rfl (by omega) (by omega)) rfl rfl (by omega) (by omega)
    · have hrp : r = p.take r.length := by
        rcases hA with ⟨a1, a2⟩ | ⟨a1, a2⟩
        · exact a2
        · omega
      have hg1 : p[r.length]? = some p[r.length] := List.getElem?_eq_getElem c
      have htk : p.take (r.length + 1) = r ++ [p[r.length]] := by
        rw [List.take_add_one, ← hrp, hg1]; rfl
      have ho' : te_o P (r ++ [p[r.length]]) := by rw [← htk]; exact te_o_take hpo _
      have hs := (te_o_snoc P r _).mp ho'
      have htu := htp r.length _ hg1 (Nat.le_refl _)
      refine tx_28 hW hr hp hq hg hk hs.2.1 hs.2.2 htu hb hbi (fun br bt b' cu ac ho ta ro gr g' i1 i2 i3 i4 i5 => ?_)
      have hln : (r ++ [p[r.length]]).length = r.length + 1 := by rw [List.length_append]; rfl
      have := ih (r ++ [p[r.length]]) (by omega) (nI (r.length + 1)) br bt cu ac ho ta ro xtu gr g' b' ho' ?_ i1 (fun k x a1 a2 => htp k x a1 (by omega)) (te_snoc_get htr htu) i4 i5 i2 i3
      · rw [hln] at this; exact this
      · by_cases y : r.length + 1 < p.length
        · exact Or.inl ⟨by omega, by rw [hln, htk]⟩
        · refine Or.inr ⟨by omega, ?_⟩
          have e : p.take (r.length + 1) = p := List.take_of_length_le (by omega)
          rw [← htk, e]
    · have hLv : te_Lv P p ++ te_Rs P p = te_Lv P r ++ te_Rs P r := by
        rcases hA with ⟨a1, a2⟩ | ⟨a1, a2⟩
        · omega
        · exact a2
      refine tx_nextAble hW hr hp hq 0 (by omega) rfl (fun t a1 a2 a3 a4 => ⟨hi, nm_e ?_⟩) (fun a => ⟨hi, nm_e ?_⟩)
      · have ho' : te_o P (r ++ [t]) := (te_o_snoc P r t).mpr ⟨hr, a2, a3⟩
        have htu : upd xtu (nI r.length).toNatClampNeg (nI t) r.length = nI t := by rw [cl]; exact pk_us
        have htr' : ∀ k x, r[k]? = some x → upd xtu (nI r.length).toNatClampNeg (nI t) k = nI x := by rw [cl]; exact te_upd_get (Nat.le_refl _) htr
        have hln : (r ++ [t]).length = r.length + 1 := by rw [List.length_append]; rfl
        refine tx_28 hW hr hp hq hg hk a2 a3 htu hb hbi (fun br bt b' cu ac ho ta ro gr g' i1 i2 i3 i4 i5 => ?_)
        have := ih (r ++ [t]) (by omega) (nI (r.length + 1)) br bt cu ac ho ta ro (upd xtu (nI r.length).toNatClampNeg (nI t)) gr g' b' ho' ?_ i1 (fun k x a1 a2 => ?_) (te_snoc_get htr' htu) i4 i5 i2 i3
        · rw [hln] at this; exact this
        · exact Or.inr ⟨by omega, by rw [hLv]; exact te_x2 hW hr a2 a3 (fun j hj => a4 j (Nat.zero_le _) hj)⟩
        · have := (List.getElem?_eq_some_iff.mp a1).1
          omega
      · have hs : te_stb P (te_q P r) = true := te_stb_t.mpr (fun t ht => a t (Nat.zero_le _) ht)
        unfold wX_takeRun_28
        rw [cl]
        refine ⟨hi, br_t pk_us ?_⟩
        refine h r _ _ _ _ _ _ _ _ _ _ g b hr hs ?_ hq (te_upd_get (Nat.le_refl _) htr) hb hbi hg hk
        rw [hLv, te_Lv_stk hs]; rfl
theorem tx_takeRun {P : te_P} (hW : te_W P) {p : List Nat} (hpo : te_o P p) (hp : te_XP P xsc xop xpl xod xiv) {D : List (List Nat)} {g : Nat → Nat} (htp : ∀ k x, p[k]? = some x → xtu k = nI x) (hg : te_AR 3 xgr g) (hk : te_pk P (D ++ [[]]) g) {post : SX → Prop}
    (h : ∀ q le br bt cu ac ho ta ro tu gr g b, te_o P q → te_stb P (te_q P q) = true → te_Lv P p ++ te_Rs P p = q :: te_Rs P q → te_XQ P q cu ac ho ta ro le → (∀ k x, q[k]? = some x → tu k = nI x) → te_Bn P q b → te_BI b br bt → te_AR 3 gr g → te_pk P (D ++ [q]) g → post (le, br, bt, xrc, xkc, xsk, xsh, xsc, xop, xpl, xod, xiv, cu, ac, ho, ta, ro, tu, xck, gr, xes, xls)) : wpX_takeRun post (xle, xbr, xbt, xrc, xkc, xsk, xsh, xsc, xop, xpl, xod, xiv, xcu, xac, xho, xta, xro, xtu, xck, xgr, xes, xls) (nI p.length) := by
  unfold wpX_takeRun
  dsimp only
  refine tx_beginRun hp (fun ho ac ta cu hq => ⟨9 + 1, ?_⟩)
  refine tx_take6 hW hpo hp h 9 [] rfl 0 (-1) xbt cu ac ho ta xro xtu xgr g none (te_o_nil P) ?_ hq (fun k x a _ => htp k x a) (fun k x a => absurd a (by simp)) (te_Bn_nil P) rfl hg hk
  by_cases c : p.length = 0
  · have : p = [] := List.length_eq_zero_iff.mp c
    rw [this]
    exact Or.inr ⟨Nat.le_refl _, rfl⟩
  · exact Or.inl ⟨by show 0 < _; omega, rfl⟩
end
end
section
/-! the first machine: tied, first of its kind -/
section
variable {xle xbr xbt xrc xkc xsk xsh : Int32} {xsc xop xpl xod xiv xcu xac xho xta xro xtu xck xgr xes xls : Nat → Int32}
theorem te_ti_iff {P : te_P} {x y : Nat × Nat} : te_ti P x y = true ↔ x.1 = y.1 ∨ ((4 ≤ te_op P x.1 x.2 ↔ 4 ≤ te_op P y.1 y.2) ∧ te_pl P x.1 x.2 = te_pl P y.1 y.2 ∧ ¬ (te_op P x.1 x.2 = 0 ∧ te_op P y.1 y.2 = 0)) := by
  unfold te_ti
  simp only [Bool.or_eq_true, Bool.and_eq_true, Bool.not_eq_true', Bool.and_eq_false_iff, decide_eq_true_eq, decide_eq_false_iff_not]
  constructor
  · intro h
    rcases h with h | ⟨h1, h2, h3⟩
    · exact Or.inl h
    · refine Or.inr ⟨h1, h2, fun k => ?_⟩
      rcases h3 with h3 | h3
      · exact h3 k.1
      · exact h3 k.2
  · intro h
    rcases h with h | ⟨h1, h2, h3⟩
    · exact Or.inl h
    · refine Or.inr ⟨h1, h2, ?_⟩
      by_cases c : te_op P x.1 x.2 = 0
      · exact Or.inr (fun k => h3 ⟨c, k⟩)
      · exact Or.inl c
theorem tx_42 {P : te_P} (hW : te_W P) (hp : te_XP P xsc xop xpl xod xiv) {x y : Nat × Nat} (hx1 : x.1 < 3) (hx2 : x.2 < 3) (hy1 : y.1 < 3) (hy2 : y.2 < 3) {z z' : Int32} (hz : z = z' ↔ (4 ≤ te_op P x.1 x.2 ↔ 4 ≤ te_op P y.1 y.2)) {post : Int32 → Prop} (h1 : ((4 ≤ te_op P x.1 x.2 ↔ 4 ≤ te_op P y.1 y.2) ∧ te_pl P x.1 x.2 = te_pl P y.1 y.2 ∧ ¬ (te_op P x.1 x.2 = 0 ∧ te_op P y.1 y.2 = 0)) → post 1) (h2 : ¬ ((4 ≤ te_op P x.1 x.2 ↔ 4 ≤ te_op P y.1 y.2) ∧ te_pl P x.1 x.2 = te_pl P y.1 y.2 ∧ ¬ (te_op P x.1 x.2 = 0 ∧ te_op P y.1 y.2 = 0)) → post 0) : wX_areTied_42 post (nI (4 * x.1 + x.2)) (nI (4 * y.1 + y.2)) z z' xle xbr xbt xrc xkc xsk xsh xsc xop xpl xod xiv xcu xac xho xta xro xtu xck xgr xes xls := by
  obtain ⟨a1, a2, a3⟩ := hp.2.1 x.1 hx1 x.2 hx2
  obtain ⟨b1, b2, b3⟩ := hp.2.1 y.1 hy1 y.2 hy2
  obtain ⟨w1, w2, w3, w4⟩ := hW.2.1 x.1 hx1 x.2 hx2
  obtain ⟨v1, v2, v3, v4⟩ := hW.2.1 y.1 hy1 y.2 hy2
  have cx : (nI (4 * x.1 + x.2)).toNatClampNeg = 4 * x.1 + x.2 := nI_clamp (by omega)
  have cy : (nI (4 * y.1 + y.2)).toNatClampNeg = 4 * y.1 + y.2 := nI_clamp (by omega)
  have ix : vp_in (nI (4 * x.1 + x.2)) 12 := vp_in_nI (by omega) (by decide)
  have iy : vp_in (nI (4 * y.1 + y.2)) 12 := vp_in_nI (by omega) (by decide)
  unfold wX_areTied_42
  rw [cx, cy, a1, a2, b1, b2]
  exact br_c (fun e => ⟨ix, iy, pk_eq _ _ (fun e2 => ⟨ix, pk_eq _ 0 (fun e3 => ⟨iy, pk_eq _ 0 (fun e4 => h2 (fun k => k.2.2 ⟨e3, e4⟩)) (fun e4 => h1 ⟨hz.mp e, e2, fun k => e4 k.2⟩) rfl rfl (by omega) (by omega)⟩) (fun e3 => h1 ⟨hz.mp e, e2, fun k => e3 k.1⟩) rfl rfl (by omega) (by omega)⟩) (fun e2 => h2 (fun k => e2 k.2.1)) rfl rfl (by omega) (by omega)⟩) (fun e => h2 (fun k => e (hz.mpr k.1)))
theorem tx_areTied {P : te_P} (hW : te_W P) (hp : te_XP P xsc xop xpl xod xiv) {x y : Nat × Nat} (hx1 : x.1 < 3) (hx2 : x.2 < 3) (hy1 : y.1 < 3) (hy2 : y.2 < 3) {post : Int32 → Prop} (h : post (if te_ti P x y = true then 1 else 0)) : wpX_areTied post (xle, xbr, xbt, xrc, xkc, xsk, xsh, xsc, xop, xpl, xod, xiv, xcu, xac, xho, xta, xro, xtu, xck, xgr, xes, xls) (nI (4 * x.1 + x.2)) (nI (4 * y.1 + y.2)) := by
  obtain ⟨a1, a2, a3⟩ := hp.2.1 x.1 hx1 x.2 hx2
  obtain ⟨b1, b2, b3⟩ := hp.2.1 y.1 hy1 y.2 hy2
  obtain ⟨w1, w2, w3, w4⟩ := hW.2.1 x.1 hx1 x.2 hx2
  obtain ⟨v1, v2, v3, v4⟩ := hW.2.1 y.1 hy1 y.2 hy2
  have cx : (nI (4 * x.1 + x.2)).toNatClampNeg = 4 * x.1 + x.2 := nI_clamp (by omega)
  have cy : (nI (4 * y.1 + y.2)).toNatClampNeg = 4 * y.1 + y.2 := nI_clamp (by omega)
  have ix : vp_in (nI (4 * x.1 + x.2)) 12 := vp_in_nI (by omega) (by decide)
  have iy : vp_in (nI (4 * y.1 + y.2)) 12 := vp_in_nI (by omega) (by decide)
  have dx : nI (4 * x.1 + x.2) / 4 = nI x.1 := by
    have := pk_div (a := 4 * x.1 + x.2) (d := 4) (by omega) (by decide) (by decide)
    rw [show (4 * x.1 + x.2) / 4 = x.1 by omega] at this
    exact this
  have dy : nI (4 * y.1 + y.2) / 4 = nI y.1 := by
    have := pk_div (a := 4 * y.1 + y.2) (d := 4) (by omega) (by decide) (by decide)
    rw [show (4 * y.1 + y.2) / 4 = y.1 by omega] at this
    exact this
  unfold wpX_areTied
  dsimp only
  rw [dx, dy, cx, a1]
  refine ⟨by decide, by decide, pk_eq _ _ (fun e => ?_) (fun e => ⟨ix, ?_⟩) rfl rfl (by omega) (by omega)⟩
  · rw [if_pos (te_ti_iff.mpr (Or.inl e))] at h
    exact h
  · have h1 : ((4 ≤ te_op P x.1 x.2 ↔ 4 ≤ te_op P y.1 y.2) ∧ te_pl P x.1 x.2 = te_pl P y.1 y.2 ∧ ¬ (te_op P x.1 x.2 = 0 ∧ te_op P y.1 y.2 = 0)) → post 1 := by
      intro k
      rw [if_pos (te_ti_iff.mpr (Or.inr k))] at h
      exact h
    have h2 : ¬ ((4 ≤ te_op P x.1 x.2 ↔ 4 ≤ te_op P y.1 y.2) ∧ te_pl P x.1 x.2 = te_pl P y.1 y.2 ∧ ¬ (te_op P x.1 x.2 = 0 ∧ te_op P y.1 y.2 = 0)) → post 0 := by
      intro k
      rw [if_neg (fun z => (te_ti_iff.mp z).elim e k)] at h
      exact h
    refine pk_lt _ 4 (fun c => ?_) (fun c => ?_) rfl rfl (by omega) (by omega)
    · unfold wX_areTied_26
      rw [cy, b1]
      refine ⟨iy, pk_lt _ 4 (fun c' => tx_42 hW hp hx1 hx2 hy1 hy2 ?_ h1 h2) (fun c' => tx_42 hW hp hx1 hx2 hy1 hy2 ?_ h1 h2) rfl rfl (by omega) (by omega)⟩
      · exact ⟨fun _ => ⟨fun a => by omega, fun a => by omega⟩, fun _ => rfl⟩
      · exact ⟨fun a => absurd a (by decide), fun a => absurd (a.mpr c') (by omega)⟩
    · unfold wX_areTied_26
      rw [cy, b1]
      refine ⟨iy, pk_lt _ 4 (fun c' => tx_42 hW hp hx1 hx2 hy1 hy2 ?_ h1 h2) (fun c' => tx_42 hW hp hx1 hx2 hy1 hy2 ?_ h1 h2) rfl rfl (by omega) (by omega)⟩
      · exact ⟨fun a => absurd a (by decide), fun a => absurd (a.mp c) (by omega)⟩
      · exact ⟨fun _ => ⟨fun _ => c', fun _ => c⟩, fun _ => rfl⟩
def te_nfa (P : te_P) (L : List (Nat × Nat)) (n : Nat) : Prop := ∃ (back : Nat) (a b : Nat × Nat), back < n ∧ L[n]? = some a ∧ L[back]? = some b ∧ 4 * a.1 + a.2 < 4 * b.1 + b.2 ∧ ∀ j z, back ≤ j → j < n → L[j]? = some z → te_ti P z a = false
theorem te_nf_nfa {P : te_P} {L : List (Nat × Nat)} : te_nf P L ↔ ∃ n, te_nfa P L n := te_nf_ix
theorem te_m1 (m : Nat) : nI m + (-1) = te_hI m := by
  cases m with
  | zero => decide
  | succ m => rw [pk_m1, te_hI_s]
theorem tx_14 {P : te_P} (hW : te_W P) {r : List Nat} (hr : te_o P r) (hp : te_XP P xsc xop xpl xod xiv) (hq : te_XQ P r xcu xac xho xta xro xle) {post : Int32 → Prop} {J : Int32 → Prop} {n : Nat} {a : Nat × Nat} (ha : (te_L P r)[n]? = some a) (h1 : ¬ te_nfa P (te_L P r) n → J (nI (n + 1))) (h2 : te_nfa P (te_L P r) n → post 0) : ∀ m, m ≤ n → (∀ j z, m ≤ j → j < n → (te_L P r)[j]? = some z → te_ti P z a = false ∧ 4 * z.1 + z.2 ≤ 4 * a.1 + a.2) → wX_isFirstOfKind_14 post J (nI n) xle xbr xbt xrc xkc xsk xsh xsc xop xpl xod xiv xcu xac xho xta xro xtu xck xgr xes xls (m + 1) (te_hI m) := by
  have hnl : n < r.length := by
    have := (List.getElem?_eq_some_iff.mp ha).1
    rw [te_L_len] at this
    exact this
  have hl9 := te_o_len hW hr
  have hra := te_L_rng hW hr (List.mem_iff_getElem?.mpr ⟨n, ha⟩)
  have cn : (nI n).toNatClampNeg = n := nI_clamp (by omega)
  have hn : vp_in (nI n) 9 := vp_in_nI (by omega) (by decide)
  have hroa := hq.2.2.2.2.1 n a ha
  intro m
  induction m with
  | zero =>
    intro _ hi
    rw [wX_isFirstOfKind_14]
    refine br_t (by decide) (nm_r (nI_1 n) (h1 ?_))
    intro ⟨back, a', b, k1, k2, k3, k4, k5⟩
    have ea : a = a' := Option.some.inj (ha.symm.trans k2)
    subst ea
    have := (hi back b (Nat.zero_le _) k1 k3).2
    omega
  | succ m ih =>
    intro hm hi
    have hml : m < (te_L P r).length := by rw [te_L_len]; omega
    obtain ⟨z, hz⟩ : ∃ z, (te_L P r)[m]? = some z := ⟨_, List.getElem?_eq_getElem hml⟩
    have hrz := te_L_rng hW hr (List.mem_iff_getElem?.mpr ⟨m, hz⟩)
    have cm : (nI m).toNatClampNeg = m := nI_clamp (by omega)
    have him : vp_in (nI m) 9 := vp_in_nI (by omega) (by decide)
    have hroz := hq.2.2.2.2.1 m z hz
    rw [wX_isFirstOfKind_14]
    dsimp only
    rw [te_hI_s, cm, cn, hroa, hroz]
    refine br_f (nI_pos (by omega)) ⟨him, hn, tx_areTied hW hp hrz.1 hrz.2 hra.1 hra.2 ?_⟩
    cases ht : te_ti P z a with
    | true =>
      rw [if_pos rfl]
      refine br_f (by decide) (nm_r (nI_1 n) (h1 ?_))
      intro ⟨back, a', b, k1, k2, k3, k4, k5⟩
      have ea : a = a' := Option.some.inj (ha.symm.trans k2)
      subst ea
      by_cases c : back ≤ m
      · rw [k5 m z c (by omega) hz] at ht
        exact absurd ht (by decide)
      · have := (hi back b (by omega) k1 k3).2
        omega
    | false =>
      rw [if_neg (by decide)]
      refine br_t rfl ⟨him, hn, pk_le _ _ (fun c => ?_) (fun c => ?_) rfl rfl (by omega) (by omega)⟩
      · refine nm_r (te_m1 m) (ih (by omega) (fun j w x1 x2 x3 => ?_))
        by_cases e : j = m
        · rw [e, hz] at x3
          rw [← Option.some.inj x3]
          exact ⟨ht, c⟩
        · exact hi j w (by omega) x2 x3
      · refine h2 ⟨m, a, z, by omega, ha, hz, c, fun j w x1 x2 x3 => ?_⟩
        by_cases e : j = m
        · rw [e, hz] at x3
          rw [← Option.some.inj x3]
          exact ht
        · exact (hi j w (by omega) x2 x3).1
theorem tx_first2 {P : te_P} (hW : te_W P) {r : List Nat} (hr : te_o P r) (hp : te_XP P xsc xop xpl xod xiv) (hq : te_XQ P r xcu xac xho xta xro xle) {post : Int32 → Prop} (h1 : te_fs P r = true → post 1) (h2 : ¬ te_fs P r = true → post 0) : ∀ d n, 1 ≤ n → n ≤ 10 → r.length ≤ n + d → (∀ i, i < n → ¬ te_nfa P (te_L P r) i) → wX_isFirstOfKind_2 post xle xbr xbt xrc xkc xsk xsh xsc xop xpl xod xiv xcu xac xho xta xro xtu xck xgr xes xls (d + 1) (nI n) := by
  have hl9 := te_o_len hW hr
  have hle := hq.2.2.2.2.2
  have hend : ∀ n, r.length ≤ n → (∀ i, i < n → ¬ te_nfa P (te_L P r) i) → post 1 := by
    intro n hn hi
    refine h1 (te_fs_t.mpr (fun z => ?_))
    obtain ⟨i, hi'⟩ : ∃ n, te_nfa P (te_L P r) n := te_nf_nfa.mp z
    by_cases c : i < n
    · exact hi i c hi'
    · obtain ⟨back, a, b, k1, k2, _⟩ := hi'
      have := (List.getElem?_eq_some_iff.mp k2).1
      have e : (te_L P r).length = r.length := te_L_len P r
      omega
  intro d
  induction d with
  | zero =>
    intro n n1 n10 hn hi
    rw [wX_isFirstOfKind_2, hle]
    exact pk_le _ _ (fun _ => hend n (by omega) hi) (fun c => absurd c (by omega)) rfl rfl (by omega) (by omega)
  | succ d ih =>
    intro n n1 n10 hn hi
    rw [wX_isFirstOfKind_2, hle]
    refine pk_le _ _ (fun c => hend n (by omega) hi) (fun c => ?_) rfl rfl (by omega) (by omega)
    have hnl : n < (te_L P r).length := by rw [te_L_len]; omega
    obtain ⟨a, ha⟩ : ∃ a, (te_L P r)[n]? = some a := ⟨_, List.getElem?_eq_getElem hnl⟩
    obtain ⟨m, rfl⟩ : ∃ m, n = m + 1 := ⟨n - 1, by omega⟩
    refine nm_r (nI_pred m) ⟨m + 1 + 1, ?_⟩
    have hm := tx_14 (xle := nI r.length) (xbr := xbr) (xbt := xbt) (xrc := xrc) (xkc := xkc) (xsk := xsk) (xsh := xsh) (xtu := xtu) (xck := xck) (xgr := xgr) (xes := xes) (xls := xls) hW hr hp (by rw [hle] at hq; exact hq) (post := post) (J := wX_isFirstOfKind_2 post (nI r.length) xbr xbt xrc xkc xsk xsh xsc xop xpl xod xiv xcu xac xho xta xro xtu xck xgr xes xls (d + 1)) ha ?_ ?_ (m + 1) (Nat.le_refl _) (fun j z x1 x2 _ => absurd x2 (by omega))
    · rw [te_hI_s] at hm
      exact hm
    · intro k
      have := ih (m + 1 + 1) (by omega) (by omega) (by omega) (fun i hi2 => ?_)
      · rw [hle] at this; exact this
      · by_cases e : i = m + 1
        · rw [e]; exact k
        · exact hi i (by omega)
    · intro k
      refine h2 (fun z => te_fs_t.mp z (te_nf_nfa.mpr ⟨_, k⟩))
theorem tx_isFirst {P : te_P} (hW : te_W P) {r : List Nat} (hr : te_o P r) (hp : te_XP P xsc xop xpl xod xiv) (hq : te_XQ P r xcu xac xho xta xro xle) {post : Int32 → Prop} (h1 : te_fs P r = true → post 1) (h2 : ¬ te_fs P r = true → post 0) : wpX_isFirstOfKind post (xle, xbr, xbt, xrc, xkc, xsk, xsh, xsc, xop, xpl, xod, xiv, xcu, xac, xho, xta, xro, xtu, xck, xgr, xes, xls) := by
  have hl9 := te_o_len hW hr
  unfold wpX_isFirstOfKind
  dsimp only
  refine ⟨9 + 1, tx_first2 hW hr hp hq h1 h2 9 1 (by omega) (by omega) (by omega) (fun i hi => ?_)⟩
  intro ⟨back, a, b, k1, _⟩
  omega
end
end
section
/-! the first machine: what is kept of a run -/
section
variable {xle xbr xbt xrc xkc xsk xsh : Int32} {xsc xop xpl xod xiv xcu xac xho xta xro xtu xck xgr xes xls : Nat → Int32}
noncomputable def te_fr (P : te_P) (i : Nat) (q : List Nat) : Bool := te_cm P q && decide (te_rs P q = i)
noncomputable def te_fn (P : te_P) (q : List Nat) : Bool := !te_cm P q
def te_XA (P : te_P) (D : List (List Nat)) (xrc xkc xsk xsh : Int32) (xck xes xls : Nat → Int32) : Prop :=
  xrc = nI D.length ∧ xkc = nI (te_E P D).length ∧ xsk = nI (te_ct P D (te_fn P)) ∧ xsh = nI (te_sh P D) ∧ (∀ i, i < 512 → xck i = nI (te_ct P D (te_fr P i))) ∧ (∀ t, t < 3 → xes t = te_es P D t) ∧ ∀ x y : Nat × Nat, x.1 < 3 → x.2 < 3 → y.1 < 3 → y.2 < 3 → (bt (xls (4 * x.1 + x.2)) (4 * y.1 + y.2) = true ↔ te_ea P D x y)
theorem te_one : ∀ n, n < 12 → ∀ i, i < 12 → bt ((1 : Int32) <<< (nI n &&& 31)) i = decide (i = n) := by decide +kernel
theorem te_numinj {x w : Nat × Nat} (hx : x.2 < 3) (hw : w.2 < 3) (e : 4 * x.1 + x.2 = 4 * w.1 + w.2) : x = w := by
  obtain ⟨a, b⟩ := x
  obtain ⟨c, d⟩ := w
  simp only at hx hw e
  have h1 : a = c := by omega
  have h2 : b = d := by omega
  rw [h1, h2]
theorem tx_rc74 {P : te_P} (hW : te_W P) {r : List Nat} (hr : te_o P r) (hro : ∀ k x, (te_L P r)[k]? = some x → xro k = nI (4 * x.1 + x.2)) {E : Nat × Nat → Nat × Nat → Prop} {post : SX → Prop} (h : ∀ ls, (∀ x y : Nat × Nat, x.1 < 3 → x.2 < 3 → y.1 < 3 → y.2 < 3 → (bt (ls (4 * x.1 + x.2)) (4 * y.1 + y.2) = true ↔ E x y ∨ te_bf (te_L P r) x y)) → post (xle, xbr, xbt, xrc, xkc, xsk, xsh, xsc, xop, xpl, xod, xiv, xcu, xac, xho, xta, xro, xtu, xck, xgr, xes, ls)) :
    ∀ m, m ≤ r.length → ∀ (la : Int32) (xls : Nat → Int32), (∀ y : Nat × Nat, y.1 < 3 → y.2 < 3 → (bt la (4 * y.1 + y.2) = true ↔ ∃ i, m ≤ i ∧ (te_L P r)[i]? = some y)) → (∀ x y : Nat × Nat, x.1 < 3 → x.2 < 3 → y.1 < 3 → y.2 < 3 → (bt (xls (4 * x.1 + x.2)) (4 * y.1 + y.2) = true ↔ E x y ∨ ∃ j i, m ≤ j ∧ j < i ∧ (te_L P r)[j]? = some x ∧ (te_L P r)[i]? = some y)) → wX_recordComplete_74 post xle xbr xbt xrc xkc xsk xsh (m + 1) la (te_hI m) xsc xop xpl xod xiv xcu xac xho xta xro xtu xck xgr xes xls := by
  have hl9 := te_o_len hW hr
  intro m
  induction m with
  | zero =>
    intro hm la xls h1 h2
    rw [wX_recordComplete_74]
    refine br_t (by decide) (h xls (fun x y x1 x2 y1 y2 => ?_))
    rw [h2 x y x1 x2 y1 y2, te_bf_ix]
    constructor
    · intro k
      rcases k with k | ⟨j, i, _, k2, k3, k4⟩
      · exact Or.inl k
      · exact Or.inr ⟨j, i, k2, k3, k4⟩
    · intro k
      rcases k with k | ⟨j, i, k2, k3, k4⟩
      · exact Or.inl k
      · exact Or.inr ⟨j, i, Nat.zero_le _, k2, k3, k4⟩
  | succ m ih =>
    intro hm la xls h1 h2
    have hml : m < (te_L P r).length := by rw [te_L_len]; omega
    obtain ⟨w, hw⟩ : ∃ w, (te_L P r)[m]? = some w := ⟨_, List.getElem?_eq_getElem hml⟩
    have hrw := te_L_rng hW hr (List.mem_iff_getElem?.mpr ⟨m, hw⟩)
    have cm : (nI m).toNatClampNeg = m := nI_clamp (by omega)
    have him : vp_in (nI m) 9 := vp_in_nI (by omega) (by decide)
    have hrow := hro m w hw
    have cw : (nI (4 * w.1 + w.2)).toNatClampNeg = 4 * w.1 + w.2 := nI_clamp (by omega)
    have hiw : vp_in (nI (4 * w.1 + w.2)) 12 := vp_in_nI (by omega) (by decide)
    rw [wX_recordComplete_74]
    dsimp only
    rw [te_hI_s, cm, hrow, cw]
    refine br_f (nI_pos (by omega)) ⟨him, hiw, hiw, nm_e ⟨him, nm_e (nm_r (te_m1 m) (ih (by omega) _ _ (fun y y1 y2 => ?_) (fun x y x1 x2 y1 y2 => ?_)))⟩⟩
    · rw [b_or, te_one _ (by omega) _ (by omega), Bool.or_eq_true, h1 y y1 y2, decide_eq_true_eq]
      constructor
      · intro k
        rcases k with ⟨i, k1, k2⟩ | k
        · exact ⟨i, by omega, k2⟩
        · exact ⟨m, Nat.le_refl _, by rw [hw, te_numinj hrw.2 y2 k.symm]⟩
      · intro ⟨i, k1, k2⟩
        by_cases e : i = m
        · rw [e, hw] at k2
          exact Or.inr (by rw [Option.some.inj k2])
        · exact Or.inl ⟨i, by omega, k2⟩
    · by_cases e : x = w
      · subst e
        rw [pk_us, b_or, Bool.or_eq_true, h1 y y1 y2, h2 x y x1 x2 y1 y2]
        constructor
        · intro k
          rcases k with (k | ⟨j, i, k1, k2, k3, k4⟩) | ⟨i, k1, k2⟩
          · exact Or.inl k
          · exact Or.inr ⟨j, i, by omega, k2, k3, k4⟩
          · exact Or.inr ⟨m, i, Nat.le_refl _, by omega, hw, k2⟩
        · intro k
          rcases k with k | ⟨j, i, k1, k2, k3, k4⟩
          · exact Or.inl (Or.inl k)
          · exact Or.inr ⟨i, by omega, k4⟩
      · have hne : 4 * x.1 + x.2 ≠ 4 * w.1 + w.2 := fun z => e (te_numinj x2 hrw.2 z)
        rw [pk_un hne, h2 x y x1 x2 y1 y2]
        constructor
        · intro k
          rcases k with k | ⟨j, i, k1, k2, k3, k4⟩
          · exact Or.inl k
          · exact Or.inr ⟨j, i, by omega, k2, k3, k4⟩
        · intro k
          rcases k with k | ⟨j, i, k1, k2, k3, k4⟩
          · exact Or.inl k
          · refine Or.inr ⟨j, i, ?_, k2, k3, k4⟩
            by_cases e2 : j = m
            · rw [e2, hw] at k3
              exact absurd (Option.some.inj k3).symm e
            · omega
theorem tx_rc37 {P : te_P} (hW : te_W P) {r : List Nat} (hr : te_o P r) (hq : te_XQ P r xcu xac xho xta xro xle) {f : Nat → Int32} {E : Nat × Nat → Nat × Nat → Prop} (hls : ∀ x y : Nat × Nat, x.1 < 3 → x.2 < 3 → y.1 < 3 → y.2 < 3 → (bt (xls (4 * x.1 + x.2)) (4 * y.1 + y.2) = true ↔ E x y)) {post : SX → Prop} (h : ∀ es ls, (∀ t, t < 3 → es t = f t ||| ((1 : Int32) <<< (nI (te_hn (te_q P r) t) &&& 31))) → (∀ x y : Nat × Nat, x.1 < 3 → x.2 < 3 → y.1 < 3 → y.2 < 3 → (bt (ls (4 * x.1 + x.2)) (4 * y.1 + y.2) = true ↔ E x y ∨ te_bf (te_L P r) x y)) → post (xle, xbr, xbt, xrc, xkc, xsk, xsh, xsc, xop, xpl, xod, xiv, xcu, xac, xho, xta, xro, xtu, xck, xgr, es, ls)) :
    ∀ d i, i + d = 3 → ∀ xes : Nat → Int32, (∀ t, t < i → xes t = f t ||| ((1 : Int32) <<< (nI (te_hn (te_q P r) t) &&& 31))) → (∀ t, i ≤ t → t < 3 → xes t = f t) → wX_recordComplete_37 post xle xbr xbt xrc xkc xsk xsh (d + 1) (nI i) xsc xop xpl xod xiv xcu xac xho xta xro xtu xck xgr xes xls := by
  have hl9 := te_o_len hW hr
  intro d
  induction d with
  | zero =>
    intro i hi xes h1 h2
    rw [wX_recordComplete_37]
    refine pk_le 3 i (fun _ => nm_r (e' := te_hI r.length) ?_ ⟨r.length + 1, ?_⟩) (fun c => absurd c (by omega)) rfl rfl (by omega) (by omega)
    · rw [hq.2.2.2.2.2]
      cases r with
      | nil => decide
      | cons a l => rw [List.length_cons, te_hI_s]; exact nI_pred _
    · refine tx_rc74 hW hr hq.2.2.2.2.1 (E := E) (fun ls k => h xes ls (fun t ht => h1 t (by omega)) k) r.length (Nat.le_refl _) 0 xls (fun y y1 y2 => ?_) (fun x y x1 x2 y1 y2 => ?_)
      · rw [b_0]
        constructor
        · intro k; exact absurd k (by decide)
        · intro ⟨j, k1, k2⟩
          have := (List.getElem?_eq_some_iff.mp k2).1
          rw [te_L_len] at this
          omega
      · rw [hls x y x1 x2 y1 y2]
        constructor
        · intro k; exact Or.inl k
        · intro k
          rcases k with k | ⟨j, i, k1, k2, k3, k4⟩
          · exact k
          · have := (List.getElem?_eq_some_iff.mp k3).1
            rw [te_L_len] at this
            omega
  | succ d ih =>
    intro i hi xes h1 h2
    have ci : (nI i).toNatClampNeg = i := nI_clamp (by omega)
    have hii : vp_in (nI i) 3 := vp_in_nI (by omega) (by decide)
    rw [wX_recordComplete_37]
    refine pk_le 3 i (fun c => absurd c (by omega)) (fun c => ⟨hii, hii, hii, nm_e (nm_r (nI_1 i) (ih (i + 1) (by omega) _ (te_ul (Q := fun t x => x = f t ||| ((1 : Int32) <<< (nI (te_hn (te_q P r) t) &&& 31))) (by omega) h1 ?_) (fun t x1 x2 => ?_)))⟩) rfl rfl (by omega) (by omega)
    · rw [ci, h2 i (Nat.le_refl _) (by omega), hq.2.1 i (by omega)]
    · rw [ci, pk_un (by omega)]
      exact h2 t (by omega) x2
theorem tx_recordComplete {P : te_P} (hW : te_W P) {r : List Nat} (hr : te_o P r) (hq : te_XQ P r xcu xac xho xta xro xle) {f : Nat → Int32} (hes : ∀ t, t < 3 → xes t = f t) {E : Nat × Nat → Nat × Nat → Prop} (hls : ∀ x y : Nat × Nat, x.1 < 3 → x.2 < 3 → y.1 < 3 → y.2 < 3 → (bt (xls (4 * x.1 + x.2)) (4 * y.1 + y.2) = true ↔ E x y)) {z : Int32} {post : SX → Prop} (h : ∀ es ls, (∀ t, t < 3 → es t = f t ||| ((1 : Int32) <<< (nI (te_hn (te_q P r) t) &&& 31))) → (∀ x y : Nat × Nat, x.1 < 3 → x.2 < 3 → y.1 < 3 → y.2 < 3 → (bt (ls (4 * x.1 + x.2)) (4 * y.1 + y.2) = true ↔ E x y ∨ te_bf (te_L P r) x y)) → post (xle, xbr, xbt, xrc, xkc, xsk, xsh, xsc, xop, xpl, xod, xiv, xcu, xac, xho, xta, xro, xtu, upd xck (te_rs P r) (xck (te_rs P r) + z), xgr, es, ls)) : wpX_recordComplete post (xle, xbr, xbt, xrc, xkc, xsk, xsh, xsc, xop, xpl, xod, xiv, xcu, xac, xho, xta, xro, xtu, xck, xgr, xes, xls) z := by
  have hrs := te_rs_lt hW hr
  have e : 64 * xcu 0 + 8 * xcu 1 + xcu 2 = nI (te_rs P r) := by
    rw [hq.1 0 (by omega), hq.1 1 (by omega), hq.1 2 (by omega)]
    show nI 64 * _ + nI 8 * _ + _ = _
    rw [pk_mul, pk_mul, nI_add, nI_add]
    rfl
  have ce : (nI (te_rs P r)).toNatClampNeg = te_rs P r := nI_clamp (by omega)
  have hi : vp_in (nI (te_rs P r)) 512 := vp_in_nI hrs (by decide)
  unfold wpX_recordComplete
  dsimp only
  rw [e, ce]
  exact ⟨hi, hi, nm_e ⟨3 + 1, tx_rc37 hW hr hq hls h 3 0 rfl xes (fun t ht => absurd ht (by omega)) (fun t _ ht => hes t ht)⟩⟩
theorem tx_recordStuck {P : te_P} {r : List Nat} (hl : r.length < 100) {s : Nat} (hs : s < 100) (hsh : xsh = nI s) (hle : xle = nI r.length) {z : Int32} {post : SX → Prop} (h : post (xle, xbr, xbt, xrc, xkc, xsk + z, nI (if s = 0 ∨ r.length < s then r.length else s), xsc, xop, xpl, xod, xiv, xcu, xac, xho, xta, xro, xtu, xck, xgr, xes, xls)) : wpX_recordStuck post (xle, xbr, xbt, xrc, xkc, xsk, xsh, xsc, xop, xpl, xod, xiv, xcu, xac, xho, xta, xro, xtu, xck, xgr, xes, xls) z := by
  unfold wpX_recordStuck
  dsimp only
  refine nm_e ?_
  rw [hsh, hle]
  refine pk_eq s 0 (fun c => ?_) (fun c => pk_le _ _ (fun c2 => ?_) (fun c2 => ?_) rfl rfl (by omega) (by omega)) rfl rfl (by omega) (by omega)
  · rw [if_pos (Or.inl c), hle] at h
    exact h
  · rw [if_neg (fun k => k.elim c (by omega)), hle] at h
    exact h
  · rw [if_pos (Or.inr c2), hle] at h
    exact h
theorem te_sh_le (P : te_P) : ∀ (D : List (List Nat)) (s : Nat), s ≤ 9 → (∀ q, q ∈ D → q.length ≤ 9) → D.foldl (te_sh1 P) s ≤ 9 := by
  intro D
  induction D with
  | nil => intro s hs _; exact hs
  | cons q D ih =>
    intro s hs h
    refine ih _ ?_ (fun p hp => h p (List.mem_cons_of_mem _ hp))
    have := h q List.mem_cons_self
    unfold te_sh1
    by_cases c : te_cm P q = true
    · rw [if_pos c]; exact hs
    · rw [if_neg c]
      by_cases d : s = 0 ∨ q.length < s
      · rw [if_pos d]; exact this
      · rw [if_neg d]; exact hs
theorem tx_recordRun {P : te_P} (hW : te_W P) {r : List Nat} (hr : te_o P r) (hp : te_XP P xsc xop xpl xod xiv) (hq : te_XQ P r xcu xac xho xta xro xle) {D : List (List Nat)} (hD : ∀ q, q ∈ D → q.length ≤ 9) (hA : te_XA P D xrc xkc xsk xsh xck xes xls) {post : SX → Prop} (h : ∀ rc kc sk sh ck es ls, te_XA P (D ++ [r]) rc kc sk sh ck es ls → post (xle, xbr, xbt, rc, kc, sk, sh, xsc, xop, xpl, xod, xiv, xcu, xac, xho, xta, xro, xtu, ck, xgr, es, ls)) : wpX_recordRun post (xle, xbr, xbt, xrc, xkc, xsk, xsh, xsc, xop, xpl, xod, xiv, xcu, xac, xho, xta, xro, xtu, xck, xgr, xes, xls) := by
  have hl9 := te_o_len hW hr
  obtain ⟨A1, A2, A3, A4, A5, A6, A7⟩ := hA
  have hrs := te_rs_lt hW hr
  have hsh9 : te_sh P D ≤ 9 := te_sh_le P D 0 (by omega) hD
  have htot : te_tot P ≤ 9 := te_rm0 hW
  have etot : xsc 0 + xsc 1 + xsc 2 = nI (te_tot P) := by
    rw [hp.1 0 (by omega), hp.1 1 (by omega), hp.1 2 (by omega), nI_add, nI_add]
    rfl
  have h12 : ∀ k, k = (if te_fs P r = true then 1 else 0) → wX_recordRun_12 post (nI k) xle xbr xbt xrc xkc xsk xsh xsc xop xpl xod xiv xcu xac xho xta xro xtu xck xgr xes xls := by
    intro k hk
    unfold wX_recordRun_12
    rw [etot, hq.2.2.2.2.2]
    have e1 : xrc + 1 = nI (D ++ [r]).length := by
      rw [A1, nI_1, List.length_append]; rfl
    have e2 : xkc + nI k = nI (te_E P (D ++ [r])).length := by
      rw [A2, nI_add, te_E_len_snoc, hk]
    have hq' : te_XQ P r xcu xac xho xta xro (nI r.length) := by
      rw [← hq.2.2.2.2.2]; exact hq
    refine nm_r e1 (nm_r e2 (pk_eq _ _ (fun c => ?_) (fun c => ?_) rfl rfl (by omega) (by omega)))
    · have hc : te_cm P r = true := decide_eq_true_eq.mpr c
      refine tx_recordComplete hW hr hq' (f := te_es P D) A6 (E := te_ea P D) A7 (fun es ls i1 i2 => ?_)
      have := h (nI (D ++ [r]).length) (nI (te_E P (D ++ [r])).length) xsk xsh (upd xck (te_rs P r) (xck (te_rs P r) + nI k)) es ls ⟨rfl, rfl, ?_, ?_, ?_, ?_, ?_⟩
      · rw [hq.2.2.2.2.2] at this; exact this
      · rw [A3, te_ct_snoc, if_neg]
        · rfl
        · intro ⟨_, z⟩
          unfold te_fn at z
          rw [hc] at z
          exact absurd z (by decide)
      · rw [A4, te_sh_snoc]
        unfold te_sh1
        rw [if_pos hc]
      · intro i hi
        rw [te_ct_snoc]
        by_cases e : i = te_rs P r
        · rw [e, pk_us, A5 _ hrs, nI_add, hk]
          have : te_fr P (te_rs P r) r = true := by unfold te_fr; rw [hc, decide_eq_true rfl]; rfl
          rw [this]
          by_cases f : te_fs P r = true
          · rw [if_pos f, if_pos ⟨f, rfl⟩]
          · rw [if_neg f, if_neg (fun z => f z.1)]
        · rw [pk_un e, A5 i hi, if_neg]
          · rfl
          · intro ⟨_, z⟩
            unfold te_fr at z
            rw [Bool.and_eq_true, decide_eq_true_eq] at z
            exact e z.2.symm
      · intro t ht
        rw [i1 t ht, te_es_snoc]
        unfold te_e1
        rw [if_pos hc]
      · intro x y x1 x2 y1 y2
        rw [i2 x y x1 x2 y1 y2, te_ea_snoc]
        exact ⟨fun z => z.elim Or.inl (fun z => Or.inr ⟨hc, z⟩), fun z => z.elim Or.inl (fun z => Or.inr z.2)⟩
    · have hc : ¬ te_cm P r = true := fun z => c (decide_eq_true_eq.mp z)
      refine tx_recordStuck (P := P) (r := r) (by omega) (s := te_sh P D) (by omega) A4 rfl ?_
      have := h (nI (D ++ [r]).length) (nI (te_E P (D ++ [r])).length) (xsk + nI k) (nI (if te_sh P D = 0 ∨ r.length < te_sh P D then r.length else te_sh P D)) xck xes xls ⟨rfl, rfl, ?_, ?_, ?_, ?_, ?_⟩
      · rw [hq.2.2.2.2.2] at this; exact this
      · rw [A3, te_ct_snoc, nI_add, hk]
        have : te_fn P r = true := by unfold te_fn; rw [Bool.eq_false_iff.mpr hc]; rfl
        rw [this]
        by_cases f : te_fs P r = true
        · rw [if_pos f, if_pos ⟨f, rfl⟩]
        · rw [if_neg f, if_neg (fun z => f z.1)]
      · rw [te_sh_snoc]
        unfold te_sh1
        rw [if_neg hc]
      · intro i hi
        rw [A5 i hi, te_ct_snoc, if_neg]
        · rfl
        · intro ⟨_, z⟩
          unfold te_fr at z
          rw [Bool.and_eq_true] at z
          exact hc z.1
      · intro t ht
        rw [A6 t ht, te_es_snoc]
        unfold te_e1
        rw [if_neg hc]
      · intro x y x1 x2 y1 y2
        rw [A7 x y x1 x2 y1 y2, te_ea_snoc]
        exact ⟨Or.inl, fun z => z.elim id (fun z => absurd z.1 hc)⟩
  unfold wpX_recordRun
  dsimp only
  refine tx_isFirst hW hr hp hq (fun f => br_f (by decide) ?_) (fun f => br_t rfl ?_)
  · exact h12 1 (if_pos f).symm
  · exact h12 0 (if_neg f).symm
end
end
section
/-! the first machine: all runs -/
section
variable {xle xbr xbt xrc xkc xsk xsh : Int32} {xsc xop xpl xod xiv xcu xac xho xta xro xtu xck xgr xes xls : Nat → Int32}
theorem tx_fg69 {post : SX → Prop} (h : ∀ ls, (∀ n, n < 12 → ls n = 0) → post (xle, xbr, xbt, 0, 0, 0, 0, xsc, xop, xpl, xod, xiv, xcu, xac, xho, xta, xro, xtu, xck, xgr, xes, ls)) : ∀ d i, i + d = 12 → ∀ xls : Nat → Int32, (∀ l, l < i → xls l = 0) → wX_forgetRuns_69 post xle xbr xbt xrc xkc xsk xsh (d + 1) (nI i) xsc xop xpl xod xiv xcu xac xho xta xro xtu xck xgr xes xls := by
  intro d
  induction d with
  | zero =>
    intro i hi xls hh
    rw [wX_forgetRuns_69]
    exact pk_le 12 i (fun _ => h xls (fun l hl => hh l (by omega))) (fun c => absurd c (by omega)) rfl rfl (by omega) (by omega)
  | succ d ih =>
    intro i hi xls hh
    rw [wX_forgetRuns_69]
    exact pk_le 12 i (fun c => absurd c (by omega)) (fun c => ⟨vp_in_nI c (by decide), nm_e (nm_r (nI_1 i) (ih (i + 1) (by omega) _ (te_ul (Q := fun l x => x = 0) (by omega) hh rfl)))⟩) rfl rfl (by omega) (by omega)
theorem tx_fg49 {post : SX → Prop} (h : ∀ es ls, (∀ t, t < 3 → es t = 0) → (∀ n, n < 12 → ls n = 0) → post (xle, xbr, xbt, 0, 0, 0, 0, xsc, xop, xpl, xod, xiv, xcu, xac, xho, xta, xro, xtu, xck, xgr, es, ls)) : ∀ d i, i + d = 3 → ∀ xes : Nat → Int32, (∀ l, l < i → xes l = 0) → wX_forgetRuns_49 post xle xbr xbt xrc xkc xsk xsh (d + 1) (nI i) xsc xop xpl xod xiv xcu xac xho xta xro xtu xck xgr xes xls := by
  intro d
  induction d with
  | zero =>
    intro i hi xes hh
    rw [wX_forgetRuns_49]
    exact pk_le 3 i (fun _ => ⟨12 + 1, tx_fg69 (fun ls k => h xes ls (fun l hl => hh l (by omega)) k) 12 0 rfl xls (fun l hl => absurd hl (by omega))⟩) (fun c => absurd c (by omega)) rfl rfl (by omega) (by omega)
  | succ d ih =>
    intro i hi xes hh
    rw [wX_forgetRuns_49]
    exact pk_le 3 i (fun c => absurd c (by omega)) (fun c => ⟨vp_in_nI c (by decide), nm_e (nm_r (nI_1 i) (ih (i + 1) (by omega) _ (te_ul (Q := fun l x => x = 0) (by omega) hh rfl)))⟩) rfl rfl (by omega) (by omega)
theorem tx_fg24 {post : SX → Prop} (h : ∀ gr es ls, (∀ v, v < 3 → gr v = xiv v) → (∀ t, t < 3 → es t = 0) → (∀ n, n < 12 → ls n = 0) → post (xle, xbr, xbt, 0, 0, 0, 0, xsc, xop, xpl, xod, xiv, xcu, xac, xho, xta, xro, xtu, xck, gr, es, ls)) : ∀ d i, i + d = 3 → ∀ xgr : Nat → Int32, (∀ l, l < i → xgr l = xiv l) → wX_forgetRuns_24 post xle xbr xbt xrc xkc xsk xsh (d + 1) (nI i) xsc xop xpl xod xiv xcu xac xho xta xro xtu xck xgr xes xls := by
  intro d
  induction d with
  | zero =>
    intro i hi xgr hh
    rw [wX_forgetRuns_24]
    exact pk_le 3 i (fun _ => ⟨3 + 1, tx_fg49 (fun es ls k1 k2 => h xgr es ls (fun l hl => hh l (by omega)) k1 k2) 3 0 rfl xes (fun l hl => absurd hl (by omega))⟩) (fun c => absurd c (by omega)) rfl rfl (by omega) (by omega)
  | succ d ih =>
    intro i hi xgr hh
    rw [wX_forgetRuns_24]
    exact pk_le 3 i (fun c => absurd c (by omega)) (fun c => ⟨vp_in_nI c (by decide), vp_in_nI c (by decide), nm_e (nm_r (nI_1 i) (ih (i + 1) (by omega) _ (te_ul (Q := fun l x => x = xiv l) (by omega) hh (by rw [nI_clamp (by omega)]))))⟩) rfl rfl (by omega) (by omega)
theorem tx_fg2 {post : SX → Prop} (h : ∀ ck gr es ls, (∀ i, i < 512 → ck i = 0) → (∀ v, v < 3 → gr v = xiv v) → (∀ t, t < 3 → es t = 0) → (∀ n, n < 12 → ls n = 0) → post (xle, xbr, xbt, 0, 0, 0, 0, xsc, xop, xpl, xod, xiv, xcu, xac, xho, xta, xro, xtu, ck, gr, es, ls)) : ∀ d i, i + d = 512 → ∀ xck : Nat → Int32, (∀ l, l < i → xck l = 0) → wX_forgetRuns_2 post xle xbr xbt xrc xkc xsk xsh (d + 1) (nI i) xsc xop xpl xod xiv xcu xac xho xta xro xtu xck xgr xes xls := by
  intro d
  induction d with
  | zero =>
    intro i hi xck hh
    rw [wX_forgetRuns_2]
    exact pk_le 512 i (fun _ => ⟨3 + 1, tx_fg24 (fun gr es ls k0 k1 k2 => h xck gr es ls (fun l hl => hh l (by omega)) k0 k1 k2) 3 0 rfl xgr (fun l hl => absurd hl (by omega))⟩) (fun c => absurd c (by omega)) rfl rfl (by omega) (by omega)
  | succ d ih =>
    intro i hi xck hh
    rw [wX_forgetRuns_2]
    exact pk_le 512 i (fun c => absurd c (by omega)) (fun c => ⟨vp_in_nI c (by decide), nm_e (nm_r (nI_1 i) (ih (i + 1) (by omega) _ (te_ul (Q := fun l x => x = 0) (by omega) hh rfl)))⟩) rfl rfl (by omega) (by omega)
theorem tx_forgetRuns {post : SX → Prop} (h : ∀ ck gr es ls, (∀ i, i < 512 → ck i = 0) → (∀ v, v < 3 → gr v = xiv v) → (∀ t, t < 3 → es t = 0) → (∀ n, n < 12 → ls n = 0) → post (xle, xbr, xbt, 0, 0, 0, 0, xsc, xop, xpl, xod, xiv, xcu, xac, xho, xta, xro, xtu, ck, gr, es, ls)) : wpX_forgetRuns post (xle, xbr, xbt, xrc, xkc, xsk, xsh, xsc, xop, xpl, xod, xiv, xcu, xac, xho, xta, xro, xtu, xck, xgr, xes, xls) := by
  unfold wpX_forgetRuns
  dsimp only
  exact ⟨512 + 1, tx_fg2 h 512 0 rfl xck (fun l hl => absurd hl (by omega))⟩
theorem tx_turnToNext {P : te_P} (hW : te_W P) {q : List Nat} (hq : te_o P q) (htu : ∀ k x, q[k]? = some x → xtu k = nI x) {b : Option (Nat × Nat)} (hb : te_Bn P q b) (hbi : te_BI b xbr xbt) {post : Int32 → SX → Prop} (h1 : te_Rs P q = [] → post (-1) (xle, xbr, xbt, xrc, xkc, xsk, xsh, xsc, xop, xpl, xod, xiv, xcu, xac, xho, xta, xro, xtu, xck, xgr, xes, xls)) (h2 : ∀ p tu, te_o P p → te_Rs P q = te_Lv P p ++ te_Rs P p → (∀ k x, p[k]? = some x → tu k = nI x) → post (nI p.length) (xle, xbr, xbt, xrc, xkc, xsk, xsh, xsc, xop, xpl, xod, xiv, xcu, xac, xho, xta, xro, tu, xck, xgr, xes, xls)) : wpX_turnToNextRun post (xle, xbr, xbt, xrc, xkc, xsk, xsh, xsc, xop, xpl, xod, xiv, xcu, xac, xho, xta, xro, xtu, xck, xgr, xes, xls) := by
  have hl9 := te_o_len hW hq
  unfold wpX_turnToNextRun
  dsimp only
  cases b with
  | none =>
    have e : xbr = -1 := hbi
    rw [e] at h1 ⊢
    exact br_t rfl (h1 hb)
  | some kt =>
    obtain ⟨k, t⟩ := kt
    obtain ⟨e1, e2⟩ := hbi
    obtain ⟨k1, k2, k3, k4⟩ := hb
    have ck : (nI k).toNatClampNeg = k := nI_clamp (by omega)
    have hm : ∀ n, n < 9 → ¬ nI n = -1 := by decide +kernel
    have hlen : (q.take k).length = k := by rw [List.length_take]; omega
    have hlen2 : (q.take k ++ [t]).length = k + 1 := by rw [List.length_append, hlen]; rfl
    have := h2 (q.take k ++ [t]) (upd xtu k (nI t)) ((te_o_snoc P _ t).mpr ⟨te_o_take hq k, k2, k3⟩) k4 (te_snoc_get (fun j x hj => ?_) (by rw [hlen]; exact pk_us))
    · rw [hlen2] at this
      rw [e1, e2, ck]
      refine br_f (hm k (by omega)) ⟨vp_in_nI (by omega) (by decide), nm_e ?_⟩
      rw [e1, e2] at this
      rw [nI_1]
      exact this
    · have hjk : j < k := by
        have := (List.getElem?_eq_some_iff.mp hj).1
        omega
      rw [pk_un (by omega)]
      rw [List.getElem?_take, if_pos hjk] at hj
      exact htu j x hj
theorem te_Lv_pos (P : te_P) (p : List Nat) : 0 < (te_Lv P p).length := by
  obtain ⟨m, hm⟩ := te_lv_ne (P := P) (9 - p.length) (te_q P p)
  unfold te_Lv
  rw [List.length_map]
  exact List.length_pos_of_mem hm
theorem tx_expl8 {P : te_P} (hW : te_W P) (hp : te_XP P xsc xop xpl xod xiv) {post : SX → Prop} (h : ∀ le br bt rc kc sk sh cu ac ho ta ro tu ck gr es ls g, te_XA P (te_all P) rc kc sk sh ck es ls → te_AR 3 gr g → te_pk P (te_all P) g → post (le, br, bt, rc, kc, sk, sh, xsc, xop, xpl, xod, xiv, cu, ac, ho, ta, ro, tu, ck, gr, es, ls)) :
    ∀ d (D : List (List Nat)) (p : List Nat), te_o P p → te_all P = D ++ (te_Lv P p ++ te_Rs P p) → (te_all P).length ≤ D.length + d → ∀ (xle xbr xbt xrc xkc xsk xsh : Int32) (xcu xac xho xta xro xtu xck xgr xes xls : Nat → Int32) (g : Nat → Nat), (∀ k x, p[k]? = some x → xtu k = nI x) → te_AR 3 xgr g → te_pk P (D ++ [[]]) g → te_XA P D xrc xkc xsk xsh xck xes xls → wX_explore_8 post (d + 1) (nI p.length) (nI D.length) xle xbr xbt xrc xkc xsk xsh xsc xop xpl xod xiv xcu xac xho xta xro xtu xck xgr xes xls := by
  have hlen := te_all_len hW
  intro d
  induction d with
  | zero =>
    intro D p hpo hall hd
    have h1 := te_Lv_pos P p
    rw [hall, List.length_append, List.length_append] at hd
    omega
  | succ d ih =>
    intro D p hpo hall hd xle xbr xbt xrc xkc xsk xsh xcu xac xho xta xro xtu xck xgr xes xls g htu hg hk hA
    have hl9 := te_o_len hW hpo
    have hDl : D.length < (te_all P).length := by
      have h1 := te_Lv_pos P p
      rw [hall, List.length_append, List.length_append]
      omega
    have hm : ∀ n, n < 10 → ¬ nI n = -1 := by decide +kernel
    rw [wX_explore_8]
    refine pk_le 1680 _ (fun c => absurd c (by omega)) (fun c => br_f (hm _ (by omega)) ?_) rfl rfl (by omega) (by omega)
    refine tx_takeRun hW hpo hp htu hg hk (fun q le br bt cu ac ho ta ro tu gr g' b j1 j2 j3 j4 j5 j6 j7 j8 j9 => ?_)
    have hD9 : ∀ q, q ∈ D → q.length ≤ 9 := by
      intro q hq
      have ho := ((te_all_mem hW q).mp (by rw [hall]; exact List.mem_append_left _ hq)).1
      have := te_o_len hW (p := q) ho
      omega
    refine tx_recordRun hW j1 hp j4 hD9 hA (fun rc kc sk sh ck es ls hA' => ?_)
    rw [j3] at hall
    have hln : (D ++ [q]).length = D.length + 1 := by rw [List.length_append]; rfl
    refine tx_turnToNext hW j1 j5 j6 j7 (fun e => ?_) (fun p' tu' k1 k2 k3 => ?_)
    · refine nm_r (nI_1 _) ?_
      have e2 : te_all P = D ++ [q] := by rw [hall, e]
      have hfin := h le br bt rc kc sk sh cu ac ho ta ro tu ck gr es ls g' (by rw [e2]; exact hA') j8 (by rw [e2]; exact j9)
      rw [wX_explore_8]
      exact br_c (fun _ => hfin) (fun _ => br_t rfl hfin)
    · refine nm_r (nI_1 _) ?_
      have e2 : te_all P = (D ++ [q]) ++ (te_Lv P p' ++ te_Rs P p') := by rw [hall, ← k2, List.append_assoc]; rfl
      have := ih (D ++ [q]) p' k1 e2 (by rw [hln]; omega) le br bt rc kc sk sh cu ac ho ta ro tu' ck gr es ls g' k3 j8 (te_pk_nil j9) hA'
      rw [hln] at this
      exact this
theorem te_XA_nil (P : te_P) {ck es ls : Nat → Int32} (h1 : ∀ i, i < 512 → ck i = 0) (h2 : ∀ t, t < 3 → es t = 0) (h3 : ∀ n, n < 12 → ls n = 0) : te_XA P [] 0 0 0 0 ck es ls := by
  refine ⟨rfl, rfl, rfl, rfl, fun i hi => h1 i hi, fun t ht => h2 t ht, fun x y x1 x2 y1 y2 => ?_⟩
  rw [h3 _ (by omega), b_0]
  exact ⟨fun z => absurd z (by decide), fun ⟨q, hq, _⟩ => absurd hq List.not_mem_nil⟩
theorem tx_explore {P : te_P} (hW : te_W P) (hp : te_XP P xsc xop xpl xod xiv) {post : SX → Prop} (h : ∀ le br bt rc kc sk sh cu ac ho ta ro tu ck gr es ls g, te_XA P (te_all P) rc kc sk sh ck es ls → te_AR 3 gr g → te_pk P (te_all P) g → post (le, br, bt, rc, kc, sk, sh, xsc, xop, xpl, xod, xiv, cu, ac, ho, ta, ro, tu, ck, gr, es, ls)) : wpX_explore post (xle, xbr, xbt, xrc, xkc, xsk, xsh, xsc, xop, xpl, xod, xiv, xcu, xac, xho, xta, xro, xtu, xck, xgr, xes, xls) := by
  unfold wpX_explore
  dsimp only
  refine tx_forgetRuns (fun ck gr es ls k1 k2 k3 k4 => ⟨(te_all P).length + 1, ?_⟩)
  refine tx_expl8 hW hp h (te_all P).length [] [] (te_o_nil P) ?_ (by omega) xle xbr xbt 0 0 0 0 xcu xac xho xta xro xtu ck gr es ls (te_ini P) (fun k x hx => absurd hx (by simp)) (fun v hv => by rw [k2 v hv]; exact hp.2.2 v hv) (te_pk_ini P) (te_XA_nil P k1 k3 k4)
  rw [te_Rs_nil, List.append_nil, te_all_Lv]
  rfl
end
end
section
/-! the second machine: can, act, replay -/
section
variable {yde yru yki yso : Int32} {ysz ywh yam yfi yro ydo yva yhe yhn ypl ywl you ypk yen yea : Nat → Int32} {yke : Nat → Int64}
def te_YP (P : te_P) (ysz ywh yam yfi : Nat → Int32) : Prop :=
  (∀ t, t < 3 → ysz t = nI (te_sz P t)) ∧ (∀ t, t < 3 → ∀ i, i < 3 → ywh (3 * t + i) = nI (8 * te_op P t i + te_pl P t i) ∧ yam (3 * t + i) = nI (te_am P t i)) ∧ ∀ v, v < 3 → yfi v = nI (te_ini P v)
def te_YQ (P : te_P) (r : List Nat) (ydo yva yhe yhn ypl : Nat → Int32) : Prop :=
  (∀ t, t < 3 → ydo t = nI (te_dn (te_q P r) t)) ∧ (∀ v, v < 3 → yva v = nI (te_vl (te_q P r) v)) ∧ (∀ l, l < 2 → yhe l = te_hI (te_hd (te_q P r) l)) ∧ (∀ t, t < 3 → yhn t = nI (te_hn (te_q P r) t)) ∧ ∀ x : Nat × Nat, x.1 < 3 → x.2 < 3 → (∀ k, (te_L P r)[k]? = some x → ypl (3 * x.1 + x.2) = nI k) ∧ (x ∉ te_L P r → ypl (3 * x.1 + x.2) = -1)
theorem te_num3 (t d : Nat) : 3 * nI t + nI d = nI (3 * t + d) := by
  show nI 3 * nI t + nI d = _
  rw [pk_mul, nI_add]
theorem te_w8 {o p : Nat} (ho : o ≤ 5) (hp : p < 3) : nI (8 * o + p) / 8 = nI o := by
  have := pk_div (a := 8 * o + p) (d := 8) (by omega) (by decide) (by decide)
  rw [show (8 * o + p) / 8 = o by omega] at this
  exact this
theorem te_wm {o p : Nat} (ho : o ≤ 5) (hp : p < 3) : nI (8 * o + p) - nI (8 * o + p) / 8 * 8 = nI p := by
  have := pk_rem (a := 8 * o + p) (d := 8) (by omega) (by decide) (by decide)
  rw [show (8 * o + p) % 8 = p by omega] at this
  exact this
theorem ty_can {P : te_P} (hW : te_W P) {r : List Nat} (hr : te_o P r) (hp : te_YP P ysz ywh yam yfi) (hq : te_YQ P r ydo yva yhe yhn ypl) {t : Nat} (ht : t < 3) {post : Int32 → Prop} (h : post (if te_can P (te_q P r) t = true then 1 else 0)) : wpY_can post (yde, yru, yki, yso, ysz, ywh, yam, yfi, yro, ydo, yva, yhe, yhn, ypl, yke, ywl, you, ypk, yen, yea) (nI t) := by
  obtain ⟨p1, p2, p3⟩ := hp
  obtain ⟨q1, q2, q3, q4, q5⟩ := hq
  have hd := te_dn_le hW hr ht
  have hB := te_Bd_q hW hr
  have ct : (nI t).toNatClampNeg = t := nI_clamp (by omega)
  have hi : vp_in (nI t) 3 := vp_in_nI ht (by decide)
  unfold wpY_can
  dsimp only
  rw [ct, q1 t ht, p1 t ht]
  refine ⟨hi, hi, pk_lt _ _ (fun c => ⟨hi, nm_r (te_num3 t _) ?_⟩) (fun c => ?_) rfl rfl (by omega) (by omega)⟩
  · obtain ⟨ca1, ca2, ca3, ca4, ca5⟩ := te_at hW ht c
    have cx : (nI (3 * t + te_dn (te_q P r) t)).toNatClampNeg = 3 * t + te_dn (te_q P r) t := nI_clamp (by omega)
    obtain ⟨a1, a2⟩ := p2 t ht _ ca1
    have hx : vp_in (nI (3 * t + te_dn (te_q P r) t)) 9 := vp_in_nI (by omega) (by decide)
    rw [cx, a1, te_wm ca2 ca3, te_w8 ca2 ca3]
    refine ⟨hx, by decide, pk_eq _ 4 (fun c4 => ⟨hx, by decide, vp_in_nI (ca4 (by omega)) (by decide), ?_⟩) (fun c4 => ?_) rfl rfl (by omega) (by omega)⟩
    · have hl := ca4 (by omega)
      have cp : (nI (te_pl P t (te_dn (te_q P r) t))).toNatClampNeg = te_pl P t (te_dn (te_q P r) t) := nI_clamp (by omega)
      rw [cp, q3 _ hl]
      have hlt := te_hI_lt _ (hB.2.1 (te_pl P t (te_dn (te_q P r) t)))
      by_cases z : te_hd (te_q P r) (te_pl P t (te_dn (te_q P r) t)) = 0
      · rw [if_pos (te_can_iff.mpr ⟨c, fun _ => z⟩)] at h
        exact br_f (Int32.not_le.mpr (hlt.mpr z)) h
      · rw [if_neg (fun y => z ((te_can_iff.mp y).2 c4))] at h
        exact br_t (Int32.not_lt.mp (fun y => z (hlt.mp y))) h
    · rw [if_pos (te_can_iff.mpr ⟨c, fun y => absurd y c4⟩)] at h
      exact h
  · rw [if_neg (fun y => absurd (te_can_iff.mp y).1 (by omega))] at h
    exact h
theorem ty_rd {P : te_P} (hW : te_W P) {r : List Nat} (hr : te_o P r) (hp : te_YP P ysz ywh yam yfi) (hq : te_YQ P r ydo yva yhe yhn ypl) {post : Int32 → Prop} : ∀ d f, f + d = 3 → (∀ t, f ≤ t → t < 3 → te_can P (te_q P r) t = true → (∀ j, f ≤ j → j < t → te_can P (te_q P r) j = false) → post (nI t)) → ((∀ j, f ≤ j → j < 3 → te_can P (te_q P r) j = false) → post 3) → wY_ready_2 post yde yru yki yso ysz ywh yam yfi yro ydo yva yhe yhn ypl yke ywl you ypk yen yea (d + 1) (nI f) := by
  intro d
  induction d with
  | zero =>
    intro f hf h1 h2
    rw [wY_ready_2]
    exact pk_le 3 f (fun _ => h2 (fun j a b => absurd b (by omega))) (fun c => absurd c (by omega)) rfl rfl (by omega) (by omega)
  | succ d ih =>
    intro f hf h1 h2
    rw [wY_ready_2]
    refine pk_le 3 f (fun c => absurd c (by omega)) (fun c => ty_can hW hr hp hq (by omega) ?_) rfl rfl (by omega) (by omega)
    cases hc : te_can P (te_q P r) f with
    | true =>
      rw [if_pos rfl]
      exact br_f (by decide) (h1 f (Nat.le_refl _) (by omega) hc (fun j a b => absurd b (by omega)))
    | false =>
      rw [if_neg (by decide)]
      refine br_t rfl (nm_r (nI_1 f) (ih (f + 1) (by omega) ?_ ?_))
      · intro t a b c e
        refine h1 t (by omega) b c (fun j x y => ?_)
        by_cases z : j = f
        · rw [z]; exact hc
        · exact e j (by omega) y
      · intro e
        refine h2 (fun j x y => ?_)
        by_cases z : j = f
        · rw [z]; exact hc
        · exact e j (by omega) y
theorem ty_ready {P : te_P} (hW : te_W P) {r : List Nat} (hr : te_o P r) (hp : te_YP P ysz ywh yam yfi) (hq : te_YQ P r ydo yva yhe yhn ypl) {post : Int32 → Prop} (f : Nat) (hf : f ≤ 3) (h1 : ∀ t, f ≤ t → t < 3 → te_can P (te_q P r) t = true → (∀ j, f ≤ j → j < t → te_can P (te_q P r) j = false) → post (nI t)) (h2 : (∀ j, f ≤ j → j < 3 → te_can P (te_q P r) j = false) → post 3) : wpY_ready post (yde, yru, yki, yso, ysz, ywh, yam, yfi, yro, ydo, yva, yhe, yhn, ypl, yke, ywl, you, ypk, yen, yea) (nI f) := by
  unfold wpY_ready
  dsimp only
  exact ⟨3 - f + 1, ty_rd hW hr hp hq (3 - f) f (by omega) h1 h2⟩
theorem ty_160n {x1 x4 : Int32} {o : Nat} (ho : o ≤ 5) (h5 : o ≠ 5) {post : SY → Prop} (h : post (yde, yru, yki, yso, ysz, ywh, yam, yfi, yro, ydo, yva, yhe, yhn, ypl, yke, ywl, you, ypk, yen, yea)) : wY_act_160 post x1 x4 (nI o) yde yru yki yso ysz ywh yam yfi yro ydo yva yhe yhn ypl yke ywl you ypk yen yea := by
  unfold wY_act_160
  exact pk_eq o 5 (fun c => absurd c h5) (fun _ => h) rfl rfl (by omega) (by omega)
theorem ty_146n {x1 x4 : Int32} {o : Nat} (ho : o ≤ 5) (h5 : o ≠ 4) {post : SY → Prop} (h : wY_act_160 post x1 x4 (nI o) yde yru yki yso ysz ywh yam yfi yro ydo yva yhe yhn ypl yke ywl you ypk yen yea) : wY_act_146 post x1 x4 (nI o) yde yru yki yso ysz ywh yam yfi yro ydo yva yhe yhn ypl yke ywl you ypk yen yea := by
  unfold wY_act_146
  exact pk_eq o 4 (fun c => absurd c h5) (fun _ => h) rfl rfl (by omega) (by omega)
theorem ty_116n {x1 x3 x4 : Int32} {o : Nat} (ho : o ≤ 5) (h5 : o ≠ 3) {post : SY → Prop} (h : wY_act_146 post x1 x4 (nI o) yde yru yki yso ysz ywh yam yfi yro ydo yva yhe yhn ypl yke ywl you ypk yen yea) : wY_act_116 post x1 x3 x4 (nI o) yde yru yki yso ysz ywh yam yfi yro ydo yva yhe yhn ypl yke ywl you ypk yen yea := by
  unfold wY_act_116
  exact pk_eq o 3 (fun c => absurd c h5) (fun _ => h) rfl rfl (by omega) (by omega)
theorem ty_87n {x1 x3 x4 : Int32} {o : Nat} (ho : o ≤ 5) (h5 : o ≠ 2) {post : SY → Prop} (h : wY_act_116 post x1 x3 x4 (nI o) yde yru yki yso ysz ywh yam yfi yro ydo yva yhe yhn ypl yke ywl you ypk yen yea) : wY_act_87 post x1 x3 x4 (nI o) yde yru yki yso ysz ywh yam yfi yro ydo yva yhe yhn ypl yke ywl you ypk yen yea := by
  unfold wY_act_87
  exact pk_eq o 2 (fun c => absurd c h5) (fun _ => h) rfl rfl (by omega) (by omega)
theorem ty_68n {x1 x3 x4 : Int32} {o : Nat} (ho : o ≤ 5) (h5 : o ≠ 1) {post : SY → Prop} (h : wY_act_87 post x1 x3 x4 (nI o) yde yru yki yso ysz ywh yam yfi yro ydo yva yhe yhn ypl yke ywl you ypk yen yea) : wY_act_68 post x1 x3 x4 (nI o) yde yru yki yso ysz ywh yam yfi yro ydo yva yhe yhn ypl yke ywl you ypk yen yea := by
  unfold wY_act_68
  exact pk_eq o 1 (fun c => absurd c h5) (fun _ => h) rfl rfl (by omega) (by omega)
theorem te_and7 {n : Nat} (h : n < 1000) : nI n &&& 7 = nI (n % 8) := pk_andN (m := 7) (by omega) 3 (by decide)
/-- the tail of a step of the second machine, behind hand: value and held -/
theorem ty_68 {P : te_P} {t x3 o p a n : Nat} {vl hd : Nat → Nat} (ht : t < 3) (ho : o ≤ 5) (hp : p < 3) (hp2 : 4 ≤ o → p < 2) (ha : a < 8) (hn : n < 8) (hh : o = 2 → yhn t = nI n) (hx3 : x3 < 9) (ham : yam x3 = nI a) (hva : ∀ v, v < 3 → yva v = nI (vl v)) (hv8 : vl p < 8) (hhe : ∀ l, l < 2 → yhe l = te_hI (hd l)) (hh4 : hd p < 4) {post : SY → Prop} (h : ∀ va he, (∀ v, v < 3 → va v = nI (te_wv o p a n vl v)) → (∀ l, l < 2 → he l = te_hI (te_wh o p t hd l)) → post (yde, yru, yki, yso, ysz, ywh, yam, yfi, yro, ydo, va, he, yhn, ypl, yke, ywl, you, ypk, yen, yea)) : wY_act_68 post (nI t) (nI x3) (nI p) (nI o) yde yru yki yso ysz ywh yam yfi yro ydo yva yhe yhn ypl yke ywl you ypk yen yea := by
  have ct : (nI t).toNatClampNeg = t := nI_clamp (by omega)
  have cx : (nI x3).toNatClampNeg = x3 := nI_clamp (by omega)
  have cp : (nI p).toNatClampNeg = p := nI_clamp (by omega)
  have it : vp_in (nI t) 3 := vp_in_nI ht (by decide)
  have ix : vp_in (nI x3) 9 := vp_in_nI hx3 (by decide)
  have ip : vp_in (nI p) 3 := vp_in_nI hp (by decide)
  have vsame : ¬ (1 ≤ o ∧ o ≤ 3) → ∀ v, v < 3 → yva v = nI (te_wv o p a n vl v) := by
    intro z v hv; unfold te_wv; rw [if_neg z]; exact hva v hv
  have hsame : ¬ 4 ≤ o → ∀ l, l < 2 → yhe l = te_hI (te_wh o p t hd l) := by
    intro z l hl; unfold te_wh; rw [if_neg z]; exact hhe l hl
  have vset : ∀ y, (1 ≤ o ∧ o ≤ 3) → y = nI (te_nv o a n (vl p)) → ∀ v, v < 3 → upd yva p y v = nI (te_wv o p a n vl v) := by
    intro y z e v hv
    unfold te_wv upd
    rw [if_pos z]
    unfold te_u
    by_cases f : v = p
    · rw [if_pos f, if_pos f]; exact e
    · rw [if_neg f, if_neg f]; exact hva v hv
  have hset : ∀ y, 4 ≤ o → y = te_hI (te_nh o t (hd p)) → ∀ l, l < 2 → upd yhe p y l = te_hI (te_wh o p t hd l) := by
    intro y z e l hl
    unfold te_wh upd
    rw [if_pos z]
    unfold te_u
    by_cases f : l = p
    · rw [if_pos f, if_pos f]; exact e
    · rw [if_neg f, if_neg f]; exact hhe l hl
  have : o = 0 ∨ o = 1 ∨ o = 2 ∨ o = 3 ∨ o = 4 ∨ o = 5 := by omega
  rcases this with e | e | e | e | e | e
  · exact ty_68n ho (by omega) (ty_87n ho (by omega) (ty_116n ho (by omega) (ty_146n ho (by omega) (ty_160n ho (by omega) (h yva yhe (vsame (by omega)) (hsame (by omega)))))))
  · unfold wY_act_68
    rw [cx, cp, ham]
    refine pk_eq o 1 (fun _ => ⟨ix, ip, nm_e ?_⟩) (fun c => absurd e c) rfl rfl (by omega) (by omega)
    refine ty_87n ho (by omega) (ty_116n ho (by omega) (ty_146n ho (by omega) (ty_160n ho (by omega) (h _ yhe (vset _ (by omega) ?_) (hsame (by omega))))))
    unfold te_nv; rw [if_pos e]
  · refine ty_68n ho (by omega) ?_
    unfold wY_act_87
    rw [cx, cp, ct, ham, hh e, nI_add, te_and7 (by omega)]
    refine pk_eq o 2 (fun _ => ⟨it, ix, ip, nm_e ?_⟩) (fun c => absurd e c) rfl rfl (by omega) (by omega)
    refine ty_116n ho (by omega) (ty_146n ho (by omega) (ty_160n ho (by omega) (h _ yhe (vset _ (by omega) ?_) (hsame (by omega)))))
    unfold te_nv; rw [if_neg (by omega), if_pos e]
  · refine ty_68n ho (by omega) (ty_87n ho (by omega) ?_)
    unfold wY_act_116
    rw [cx, cp, ham, hva p hp, nI_add, te_and7 (by omega)]
    refine pk_eq o 3 (fun _ => ⟨ip, ix, ip, nm_e ?_⟩) (fun c => absurd e c) rfl rfl (by omega) (by omega)
    refine ty_146n ho (by omega) (ty_160n ho (by omega) (h _ yhe (vset _ (by omega) ?_) (hsame (by omega))))
    have e1 : ¬ o = 1 := by omega
    have e2 : ¬ o = 2 := by omega
    unfold te_nv; rw [if_neg e1, if_neg e2]
  · refine ty_68n ho (by omega) (ty_87n ho (by omega) (ty_116n ho (by omega) ?_))
    unfold wY_act_146
    rw [cp]
    refine pk_eq o 4 (fun _ => ⟨vp_in_nI (hp2 (by omega)) (by decide), nm_e ?_⟩) (fun c => absurd e c) rfl rfl (by omega) (by omega)
    refine ty_160n ho (by omega) (h yva _ (vsame (by omega)) (hset _ (by omega) ?_))
    unfold te_nh; rw [if_pos e]; exact (te_hI_s t).symm
  · refine ty_68n ho (by omega) (ty_87n ho (by omega) (ty_116n ho (by omega) (ty_146n ho (by omega) ?_)))
    have ip2 : vp_in (nI p) 2 := vp_in_nI (hp2 (by omega)) (by decide)
    have e4 : ¬ o = 4 := by omega
    unfold wY_act_160
    rw [cp, hhe p (hp2 (by omega))]
    refine pk_eq o 5 (fun _ => ⟨ip2, ?_⟩) (fun c => absurd e c) rfl rfl (by omega) (by omega)
    by_cases c : hd p = t + 1
    · refine br_t ((te_hI_eq _ hh4 t ht).mpr c) ⟨ip2, nm_e (h yva _ (vsame (by omega)) (hset _ (by omega) ?_))⟩
      unfold te_nh; rw [if_neg e4, if_pos c]; rfl
    · refine br_f (fun z => c ((te_hI_eq _ hh4 t ht).mp z)) (h yva yhe (vsame (by omega)) ?_)
      intro l hl
      unfold te_wh
      rw [if_pos (by omega)]
      unfold te_u te_nh
      by_cases f : l = p
      · rw [if_pos f, if_neg e4, if_neg c, f]; exact hhe p (hp2 (by omega))
      · rw [if_neg f]; exact hhe l hl
theorem ty_act {P : te_P} (hW : te_W P) {r : List Nat} (hr : te_o P r) (hp : te_YP P ysz ywh yam yfi) (hq : te_YQ P r ydo yva yhe yhn ypl) {t : Nat} (ht : t < 3) (hc : te_can P (te_q P r) t = true) {post : SY → Prop} (h : ∀ dn va he hn pl, te_YQ P (r ++ [t]) dn va he hn pl → post (yde, yru, yki, yso, ysz, ywh, yam, yfi, yro, dn, va, he, hn, pl, yke, ywl, you, ypk, yen, yea)) : wpY_act post (yde, yru, yki, yso, ysz, ywh, yam, yfi, yro, ydo, yva, yhe, yhn, ypl, yke, ywl, you, ypk, yen, yea) (nI t) (nI r.length) := by
  have c := te_can_lt hc
  obtain ⟨ca1, ca2, ca3, ca4, ca5⟩ := te_at hW ht c
  have hB := te_Bd_q hW hr
  obtain ⟨p1, p2, p3⟩ := hp
  obtain ⟨q1, q2, q3, q4, q5⟩ := hq
  obtain ⟨a1, a2⟩ := p2 t ht _ ca1
  have ct : (nI t).toNatClampNeg = t := nI_clamp (by omega)
  have hi : vp_in (nI t) 3 := vp_in_nI ht (by decide)
  have cx : (nI (3 * t + te_dn (te_q P r) t)).toNatClampNeg = 3 * t + te_dn (te_q P r) t := nI_clamp (by omega)
  have hx : vp_in (nI (3 * t + te_dn (te_q P r) t)) 9 := vp_in_nI (by omega) (by decide)
  have cp : (nI (te_pl P t (te_dn (te_q P r) t))).toNatClampNeg = te_pl P t (te_dn (te_q P r) t) := nI_clamp (by omega)
  have hip : vp_in (nI (te_pl P t (te_dn (te_q P r) t))) 3 := vp_in_nI ca3 (by decide)
  have fin : ∀ dn va he hn pl, (∀ t', t' < 3 → dn t' = nI (te_dn (te_q P (r ++ [t])) t')) → (∀ v, v < 3 → va v = nI (te_vl (te_q P (r ++ [t])) v)) → (∀ l, l < 2 → he l = te_hI (te_hd (te_q P (r ++ [t])) l)) → (∀ t', t' < 3 → hn t' = nI (te_hn (te_q P (r ++ [t])) t')) → pl = upd ypl (3 * t + te_dn (te_q P r) t) (nI r.length) → post (yde, yru, yki, yso, ysz, ywh, yam, yfi, yro, dn, va, he, hn, pl, yke, ywl, you, ypk, yen, yea) := by
    intro dn va he hn pl i1 i2 i3 i4 i5
    refine h dn va he hn pl ⟨i1, i2, i3, i4, fun x x1 x2 => ?_⟩
    rw [i5, te_L_snoc]
    have hlen := te_L_len P r
    constructor
    · intro k hk
      by_cases z : k < r.length
      · rw [List.getElem?_append_left (by omega)] at hk
        have hm : x ∈ te_L P r := List.mem_iff_getElem?.mpr ⟨k, hk⟩
        rw [te_L_mem] at hm
        have hne : 3 * x.1 + x.2 ≠ 3 * t + te_dn (te_q P r) t := by
          intro e
          have e1 : x.1 = t := by omega
          rw [e1] at hm
          omega
        rw [pk_un hne]
        exact (q5 x x1 x2).1 k hk
      · rw [List.getElem?_append_right (by omega)] at hk
        by_cases y : k = r.length
        · rw [show k - (te_L P r).length = 0 by omega, List.getElem?_cons_zero] at hk
          rw [← Option.some.inj hk, y]
          exact pk_us
        · rw [List.getElem?_eq_none (by show 1 ≤ _; omega)] at hk
          exact absurd hk (by simp)
    · intro hm
      rw [List.mem_append, List.mem_singleton] at hm
      have hne : 3 * x.1 + x.2 ≠ 3 * t + te_dn (te_q P r) t := by
        intro e
        refine hm (Or.inr ?_)
        obtain ⟨x1', x2'⟩ := x
        simp only at e x1 x2
        have e1 : x1' = t := by omega
        have e2 : x2' = te_dn (te_q P r) t := by omega
        rw [e1, e2]
      rw [pk_un hne]
      exact (q5 x x1 x2).2 (fun z => hm (Or.inl z))
  have hdn : ∀ t', t' < 3 → upd ydo t (nI (te_dn (te_q P r) t + 1)) t' = nI (te_dn (te_q P (r ++ [t])) t') := by
    intro t' ht'
    rw [te_q_snoc, te_dn_a]
    unfold upd
    by_cases z : t' = t
    · rw [if_pos z, if_pos z]
    · rw [if_neg z, if_neg z]; exact q1 t' ht'
  have ev : te_vl (te_q P (r ++ [t])) = te_wv (te_op P t (te_dn (te_q P r) t)) (te_pl P t (te_dn (te_q P r) t)) (te_am P t (te_dn (te_q P r) t)) (te_hn (te_q P r) t) (te_vl (te_q P r)) := by rw [te_q_snoc]; rfl
  have eh : te_hd (te_q P (r ++ [t])) = te_wh (te_op P t (te_dn (te_q P r) t)) (te_pl P t (te_dn (te_q P r) t)) t (te_hd (te_q P r)) := by rw [te_q_snoc]; rfl
  have en : te_hn (te_q P (r ++ [t])) = te_wn (te_op P t (te_dn (te_q P r) t)) t (te_vl (te_q P r) (te_pl P t (te_dn (te_q P r) t))) (te_hn (te_q P r)) := by rw [te_q_snoc]; rfl
  unfold wpY_act
  dsimp only
  rw [ct, q1 t ht]
  refine ⟨hi, nm_r (te_num3 t _) ?_⟩
  rw [cx, a1, te_wm ca2 ca3, te_w8 ca2 ca3]
  refine ⟨hx, by decide, nm_e ⟨hx, by decide, nm_e ⟨hx, nm_e ⟨hi, hi, nm_r (congrArg (upd ydo t) (nI_1 _)) ?_⟩⟩⟩⟩
  rw [cp]
  refine pk_eq _ 0 (fun c0 => ⟨hip, hi, nm_e ?_⟩) (fun c0 => ?_) rfl rfl (by omega) (by omega)
  · refine ty_68 (P := P) (vl := te_vl (te_q P r)) (hd := te_hd (te_q P r)) ht ca2 ca3 ca4 ca5 (hB.2.2 t) (fun z => absurd z (by omega)) (by omega) a2 q2 (hB.1 _ ca3) q3 (hB.2.1 _) (fun va he k1 k2 => fin _ va he _ _ hdn ?_ ?_ ?_ rfl)
    · intro v hv; rw [ev]; exact k1 v hv
    · intro l hl; rw [eh]; exact k2 l hl
    · intro t' ht'
      rw [en]
      unfold te_wn
      rw [if_pos c0]
      unfold upd te_u
      by_cases z : t' = t
      · rw [if_pos z, if_pos z]; exact q2 _ ca3
      · rw [if_neg z, if_neg z]; exact q4 t' ht'
  · refine ty_68 (P := P) (vl := te_vl (te_q P r)) (hd := te_hd (te_q P r)) ht ca2 ca3 ca4 ca5 (hB.2.2 t) (fun z => q4 t ht) (by omega) a2 q2 (hB.1 _ ca3) q3 (hB.2.1 _) (fun va he k1 k2 => fin _ va he _ _ hdn ?_ ?_ ?_ rfl)
    · intro v hv; rw [ev]; exact k1 v hv
    · intro l hl; rw [eh]; exact k2 l hl
    · intro t' ht'
      rw [en]
      unfold te_wn
      rw [if_neg c0]
      exact q4 t' ht'
end
end
section
/-! the second machine: replay, tied, key -/
section
variable {yde yru yki yso : Int32} {ysz ywh yam yfi yro ydo yva yhe yhn ypl ywl you ypk yen yea : Nat → Int32} {yke : Nat → Int64}
theorem ty_note2 {g vl : Nat → Nat} (hva : ∀ v, v < 3 → yva v = nI (vl v)) (hv8 : ∀ v, v < 3 → vl v < 8) (hg8 : ∀ v, v < 3 → g v < 8) {post : SY → Prop} (h : ∀ pk g', te_AR 3 pk g' → (∀ v, v < 3 → g' v = if g v < vl v then vl v else g v) → post (yde, yru, yki, yso, ysz, ywh, yam, yfi, yro, ydo, yva, yhe, yhn, ypl, yke, ywl, you, pk, yen, yea)) : ∀ d i, i + d = 3 → ∀ (ypk : Nat → Int32) (g' : Nat → Nat), te_AR 3 ypk g' → (∀ v, v < i → g' v = if g v < vl v then vl v else g v) → (∀ v, i ≤ v → v < 3 → g' v = g v) → wY_noteValues_2 post yde yru yki yso (d + 1) (nI i) ysz ywh yam yfi yro ydo yva yhe yhn ypl yke ywl you ypk yen yea := by
  intro d
  induction d with
  | zero =>
    intro i hi ypk g' hA h1 h2
    rw [wY_noteValues_2]
    exact pk_le 3 i (fun _ => h ypk g' hA (fun v hv => h1 v (by omega))) (fun c => absurd c (by omega)) rfl rfl (by omega) (by omega)
  | succ d ih =>
    intro i hi ypk g' hA h1 h2
    have ci : (nI i).toNatClampNeg = i := nI_clamp (by omega)
    have hii : vp_in (nI i) 3 := vp_in_nI (by omega) (by decide)
    have e0 := h2 i (Nat.le_refl _) (by omega)
    have b1 := hv8 i (by omega)
    have b2 := hg8 i (by omega)
    rw [wY_noteValues_2]
    dsimp only
    rw [ci, hva i (by omega), hA i (by omega)]
    refine pk_le 3 i (fun c => absurd c (by omega)) (fun c => ⟨hii, hii, pk_le _ _ (fun c2 => nm_r (nI_1 i) (ih (i + 1) (by omega) ypk g' hA ?_ ?_)) (fun c2 => ⟨hii, hii, nm_e (nm_r (nI_1 i) (ih (i + 1) (by omega) _ (te_u g' i (vl i)) (te_A_upd hA i (vl i)) ?_ ?_))⟩) rfl rfl (by omega) (by omega)⟩) rfl rfl (by omega) (by omega)
    · intro v hv
      by_cases z : v = i
      · rw [z, e0, if_neg (by omega)]
      · exact h1 v (by omega)
    · intro v x1 x2; exact h2 v (by omega) x2
    · intro v hv
      unfold te_u
      by_cases z : v = i
      · rw [if_pos z, z, if_pos (by omega)]
      · rw [if_neg z]; exact h1 v (by omega)
    · intro v x1 x2
      rw [te_u_ne _ _ (by omega)]
      exact h2 v (by omega) x2
theorem ty_noteValues {g vl : Nat → Nat} (hva : ∀ v, v < 3 → yva v = nI (vl v)) (hv8 : ∀ v, v < 3 → vl v < 8) (hg8 : ∀ v, v < 3 → g v < 8) (hA : te_AR 3 ypk g) {post : SY → Prop} (h : ∀ pk g', te_AR 3 pk g' → (∀ v, v < 3 → g' v = if g v < vl v then vl v else g v) → post (yde, yru, yki, yso, ysz, ywh, yam, yfi, yro, ydo, yva, yhe, yhn, ypl, yke, ywl, you, pk, yen, yea)) : wpY_noteValues post (yde, yru, yki, yso, ysz, ywh, yam, yfi, yro, ydo, yva, yhe, yhn, ypl, yke, ywl, you, ypk, yen, yea) := by
  unfold wpY_noteValues
  dsimp only
  exact ⟨3 + 1, ty_note2 hva hv8 hg8 h 3 0 rfl ypk g hA (fun v hv => absurd hv (by omega)) (fun v _ _ => rfl)⟩
theorem ty_rp76 {P : te_P} (hW : te_W P) {p : List Nat} (hpo : te_o P p) (hp : te_YP P ysz ywh yam yfi) (hde : yde = nI p.length) (hro : ∀ k x, p[k]? = some x → yro k = nI x) {g : Nat → Nat} (hg8 : ∀ v, v < 3 → g v < 8) (hA : te_AR 3 ypk g) {post : SY → Prop} (h : ∀ dn va he hn pl pk g', te_YQ P p dn va he hn pl → te_AR 3 pk g' → (∀ v, v < 3 → g' v = if g v < te_vl (te_q P p) v then te_vl (te_q P p) v else g v) → post (yde, yru, yki, yso, ysz, ywh, yam, yfi, yro, dn, va, he, hn, pl, yke, ywl, you, pk, yen, yea)) :
    ∀ d k, k + d = p.length → ∀ ydo yva yhe yhn ypl : Nat → Int32, te_YQ P (p.take k) ydo yva yhe yhn ypl → wY_replay_76 post (d + 1) (nI k) yde yru yki yso ysz ywh yam yfi yro ydo yva yhe yhn ypl yke ywl you ypk yen yea := by
  have hl9 := te_o_len hW hpo
  intro d
  induction d with
  | zero =>
    intro k hk ydo yva yhe yhn ypl hq
    have e : p.take k = p := List.take_of_length_le (by omega)
    rw [e] at hq
    rw [wY_replay_76]
    dsimp only
    refine pk_le _ _ (fun _ => ?_) (fun c => absurd c (by omega)) hde rfl (by omega) (by omega)
    unfold wY_replay_107
    exact ty_noteValues (vl := te_vl (te_q P p)) (g := g) hq.2.1 (fun v hv => (te_Bd_q hW hpo).1 v hv) hg8 hA (fun pk g' k1 k2 => h _ _ _ _ _ pk g' hq k1 k2)
  | succ d ih =>
    intro k hk ydo yva yhe yhn ypl hq
    have hkl : k < p.length := by omega
    have ck : (nI k).toNatClampNeg = k := nI_clamp (by omega)
    have hg1 : p[k]? = some p[k] := List.getElem?_eq_getElem hkl
    have htk : p.take (k + 1) = p.take k ++ [p[k]] := by
      rw [List.take_add_one, hg1]; rfl
    have ho' : te_o P (p.take k ++ [p[k]]) := by rw [← htk]; exact te_o_take hpo _
    have hs := (te_o_snoc P _ _).mp ho'
    have hlen : (p.take k).length = k := by rw [List.length_take]; omega
    rw [wY_replay_76]
    dsimp only
    rw [ck, hro k _ hg1]
    refine pk_le _ _ (fun c => absurd c (by omega)) (fun _ => pk_le 9 k (fun c => absurd c (by omega)) (fun _ => ⟨vp_in_nI (by omega) (by decide), ?_⟩) rfl rfl (by omega) (by omega)) hde rfl (by omega) (by omega)
    have := ty_act (yde := yde) (yru := yru) (yki := yki) (yso := yso) (yro := yro) (yke := yke) (ywl := ywl) (you := you) (ypk := ypk) (yen := yen) (yea := yea) (post := (fun u => match u with | (yde, yru, yki, yso, ysz, ywh, yam, yfi, yro, ydo, yva, yhe, yhn, ypl, yke, ywl, you, ypk, yen, yea) => ∀ x1_52, x1_52 = nI k + 1 → wY_replay_76 post (d + 1) x1_52 yde yru yki yso ysz ywh yam yfi yro ydo yva yhe yhn ypl yke ywl you ypk yen yea)) hW hs.1 hp hq hs.2.1 hs.2.2 (fun dn va he hn pl hq' => nm_r (nI_1 k) (ih (k + 1) (by omega) dn va he hn pl (by rw [htk]; exact hq')))
    rw [hlen] at this
    exact this
theorem ty_rp55 {P : te_P} (hW : te_W P) {p : List Nat} (hpo : te_o P p) (hp : te_YP P ysz ywh yam yfi) (hde : yde = nI p.length) (hro : ∀ k x, p[k]? = some x → yro k = nI x) {g : Nat → Nat} (hg8 : ∀ v, v < 3 → g v < 8) (hA : te_AR 3 ypk g) (h1 : ∀ t, t < 3 → ydo t = 0) (h2 : ∀ t, t < 3 → yva t = yfi t) (h3 : ∀ l, l < 2 → yhe l = -1) (h4 : ∀ t, t < 3 → yhn t = 0) {post : SY → Prop} (h : ∀ dn va he hn pl pk g', te_YQ P p dn va he hn pl → te_AR 3 pk g' → (∀ v, v < 3 → g' v = if g v < te_vl (te_q P p) v then te_vl (te_q P p) v else g v) → post (yde, yru, yki, yso, ysz, ywh, yam, yfi, yro, dn, va, he, hn, pl, yke, ywl, you, pk, yen, yea)) :
    ∀ d i, i + d = 9 → ∀ ypl : Nat → Int32, (∀ l, l < i → ypl l = -1) → wY_replay_55 post yde yru yki yso (d + 1) (nI i) ysz ywh yam yfi yro ydo yva yhe yhn ypl yke ywl you ypk yen yea := by
  intro d
  induction d with
  | zero =>
    intro i hi ypl hh
    rw [wY_replay_55]
    refine pk_le 9 i (fun _ => ⟨p.length + 1, ?_⟩) (fun c => absurd c (by omega)) rfl rfl (by omega) (by omega)
    refine ty_rp76 hW hpo hp hde hro hg8 hA h p.length 0 (by omega) ydo yva yhe yhn ypl ⟨fun t ht => h1 t ht, fun v hv => ?_, fun l hl => h3 l hl, fun t ht => h4 t ht, fun x x1 x2 => ⟨fun k hk => ?_, fun _ => hh _ (by omega)⟩⟩
    · rw [h2 v hv, hp.2.2 v hv]; rfl
    · exact absurd hk (by simp [te_L, te_st])
  | succ d ih =>
    intro i hi ypl hh
    rw [wY_replay_55]
    exact pk_le 9 i (fun c => absurd c (by omega)) (fun c => ⟨vp_in_nI c (by decide), nm_e (nm_r (nI_1 i) (ih (i + 1) (by omega) _ (te_ul (Q := fun l x => x = -1) (by omega) hh rfl)))⟩) rfl rfl (by omega) (by omega)
theorem ty_rp2 {P : te_P} (hW : te_W P) {p : List Nat} (hpo : te_o P p) (hp : te_YP P ysz ywh yam yfi) (hde : yde = nI p.length) (hro : ∀ k x, p[k]? = some x → yro k = nI x) {g : Nat → Nat} (hg8 : ∀ v, v < 3 → g v < 8) (hA : te_AR 3 ypk g) {post : SY → Prop} (h : ∀ dn va he hn pl pk g', te_YQ P p dn va he hn pl → te_AR 3 pk g' → (∀ v, v < 3 → g' v = if g v < te_vl (te_q P p) v then te_vl (te_q P p) v else g v) → post (yde, yru, yki, yso, ysz, ywh, yam, yfi, yro, dn, va, he, hn, pl, yke, ywl, you, pk, yen, yea)) :
    ∀ d i, i + d = 3 → ∀ ydo yva yhn : Nat → Int32, (∀ l, l < i → ydo l = 0) → (∀ l, l < i → yva l = yfi l) → (∀ l, l < i → yhn l = 0) → wY_replay_2 post yde yru yki yso (d + 1) (nI i) ysz ywh yam yfi yro ydo yva yhe yhn ypl yke ywl you ypk yen yea := by
  intro d
  induction d with
  | zero =>
    intro i hi ydo yva yhn k1 k2 k3
    rw [wY_replay_2]
    refine pk_le 3 i (fun _ => nm_e (nm_e ⟨9 + 1, ?_⟩)) (fun c => absurd c (by omega)) rfl rfl (by omega) (by omega)
    refine ty_rp55 hW hpo hp hde hro hg8 hA (fun t ht => k1 t (by omega)) (fun t ht => k2 t (by omega)) (fun l hl => ?_) (fun t ht => k3 t (by omega)) h 9 0 rfl ypl (fun l hl => absurd hl (by omega))
    unfold upd
    by_cases z : l = 1
    · rw [if_pos z]
    · rw [if_neg z, if_pos (by omega)]
  | succ d ih =>
    intro i hi ydo yva yhn k1 k2 k3
    rw [wY_replay_2]
    have ii : i < 3 := by omega
    exact pk_le 3 i (fun c => absurd c (by omega)) (fun c => ⟨vp_in_nI ii (by decide), nm_e ⟨vp_in_nI ii (by decide), nm_e ⟨vp_in_nI ii (by decide), vp_in_nI ii (by decide), nm_e (nm_r (nI_1 i) (ih (i + 1) (by omega) _ _ _ (te_ul (Q := fun l x => x = 0) (by omega) k1 rfl) (te_ul (Q := fun l x => x = yfi l) (by omega) k2 (by rw [nI_clamp (by omega)])) (te_ul (Q := fun l x => x = 0) (by omega) k3 rfl)))⟩⟩⟩) rfl rfl (by omega) (by omega)
theorem ty_replay {P : te_P} (hW : te_W P) {p : List Nat} (hpo : te_o P p) (hp : te_YP P ysz ywh yam yfi) (hde : yde = nI p.length) (hro : ∀ k x, p[k]? = some x → yro k = nI x) {g : Nat → Nat} (hg8 : ∀ v, v < 3 → g v < 8) (hA : te_AR 3 ypk g) {post : SY → Prop} (h : ∀ dn va he hn pl pk g', te_YQ P p dn va he hn pl → te_AR 3 pk g' → (∀ v, v < 3 → g' v = if g v < te_vl (te_q P p) v then te_vl (te_q P p) v else g v) → post (yde, yru, yki, yso, ysz, ywh, yam, yfi, yro, dn, va, he, hn, pl, yke, ywl, you, pk, yen, yea)) : wpY_replay post (yde, yru, yki, yso, ysz, ywh, yam, yfi, yro, ydo, yva, yhe, yhn, ypl, yke, ywl, you, ypk, yen, yea) := by
  unfold wpY_replay
  dsimp only
  exact ⟨3 + 1, ty_rp2 hW hpo hp hde hro hg8 hA h 3 0 rfl ydo yva yhn (fun l hl => absurd hl (by omega)) (fun l hl => absurd hl (by omega)) (fun l hl => absurd hl (by omega))⟩
theorem ty_48 {P : te_P} (hW : te_W P) (hp : te_YP P ysz ywh yam yfi) {x y : Nat × Nat} (hx1 : x.1 < 3) (hx2 : x.2 < 3) (hy1 : y.1 < 3) (hy2 : y.2 < 3) {z z' : Int32} (hz : z = z' ↔ (4 ≤ te_op P x.1 x.2 ↔ 4 ≤ te_op P y.1 y.2)) (hz0 : z = 0 ↔ 4 ≤ te_op P x.1 x.2) {post : Int32 → Prop} (h1 : ((4 ≤ te_op P x.1 x.2 ↔ 4 ≤ te_op P y.1 y.2) ∧ te_pl P x.1 x.2 = te_pl P y.1 y.2 ∧ ¬ (te_op P x.1 x.2 = 0 ∧ te_op P y.1 y.2 = 0)) → post 1) (h2 : ¬ ((4 ≤ te_op P x.1 x.2 ↔ 4 ≤ te_op P y.1 y.2) ∧ te_pl P x.1 x.2 = te_pl P y.1 y.2 ∧ ¬ (te_op P x.1 x.2 = 0 ∧ te_op P y.1 y.2 = 0)) → post 0) : wY_areTied_48 post (nI (3 * x.1 + x.2)) (nI (3 * y.1 + y.2)) z z' yde yru yki yso ysz ywh yam yfi yro ydo yva yhe yhn ypl yke ywl you ypk yen yea := by
  obtain ⟨a1, a2⟩ := hp.2.1 x.1 hx1 x.2 hx2
  obtain ⟨b1, b2⟩ := hp.2.1 y.1 hy1 y.2 hy2
  obtain ⟨w1, w2, w3, w4⟩ := hW.2.1 x.1 hx1 x.2 hx2
  obtain ⟨v1, v2, v3, v4⟩ := hW.2.1 y.1 hy1 y.2 hy2
  have cx : (nI (3 * x.1 + x.2)).toNatClampNeg = 3 * x.1 + x.2 := nI_clamp (by omega)
  have cy : (nI (3 * y.1 + y.2)).toNatClampNeg = 3 * y.1 + y.2 := nI_clamp (by omega)
  have ix : vp_in (nI (3 * x.1 + x.2)) 9 := vp_in_nI (by omega) (by decide)
  have iy : vp_in (nI (3 * y.1 + y.2)) 9 := vp_in_nI (by omega) (by decide)
  unfold wY_areTied_48
  rw [cx, cy, a1, b1, te_wm w1 w2, te_wm v1 v2, te_w8 w1 w2, te_w8 v1 v2]
  exact br_c (fun e => ⟨ix, by decide, iy, by decide, pk_eq _ _ (fun e2 => br_c (fun e0 => h1 ⟨hz.mp e, e2, fun k => absurd (hz0.mp e0) (by omega)⟩) (fun _ => ⟨ix, by decide, pk_eq _ 0 (fun e3 => ⟨iy, by decide, pk_eq _ 0 (fun e4 => h2 (fun k => k.2.2 ⟨e3, e4⟩)) (fun e4 => h1 ⟨hz.mp e, e2, fun k => e4 k.2⟩) rfl rfl (by omega) (by omega)⟩) (fun e3 => h1 ⟨hz.mp e, e2, fun k => e3 k.1⟩) rfl rfl (by omega) (by omega)⟩)) (fun e2 => h2 (fun k => e2 k.2.1)) rfl rfl (by omega) (by omega)⟩) (fun e => h2 (fun k => e (hz.mpr k.1)))
theorem ty_areTied {P : te_P} (hW : te_W P) (hp : te_YP P ysz ywh yam yfi) {x y : Nat × Nat} (hx1 : x.1 < 3) (hx2 : x.2 < 3) (hy1 : y.1 < 3) (hy2 : y.2 < 3) {post : Int32 → Prop} (h : post (if te_ti P x y = true then 1 else 0)) : wpY_areTied post (yde, yru, yki, yso, ysz, ywh, yam, yfi, yro, ydo, yva, yhe, yhn, ypl, yke, ywl, you, ypk, yen, yea) (nI (3 * x.1 + x.2)) (nI (3 * y.1 + y.2)) := by
  obtain ⟨a1, a2⟩ := hp.2.1 x.1 hx1 x.2 hx2
  obtain ⟨b1, b2⟩ := hp.2.1 y.1 hy1 y.2 hy2
  obtain ⟨w1, w2, w3, w4⟩ := hW.2.1 x.1 hx1 x.2 hx2
  obtain ⟨v1, v2, v3, v4⟩ := hW.2.1 y.1 hy1 y.2 hy2
  have cx : (nI (3 * x.1 + x.2)).toNatClampNeg = 3 * x.1 + x.2 := nI_clamp (by omega)
  have cy : (nI (3 * y.1 + y.2)).toNatClampNeg = 3 * y.1 + y.2 := nI_clamp (by omega)
  have ix : vp_in (nI (3 * x.1 + x.2)) 9 := vp_in_nI (by omega) (by decide)
  have iy : vp_in (nI (3 * y.1 + y.2)) 9 := vp_in_nI (by omega) (by decide)
  have dx : nI (3 * x.1 + x.2) / 3 = nI x.1 := by
    have := pk_div (a := 3 * x.1 + x.2) (d := 3) (by omega) (by decide) (by decide)
    rw [show (3 * x.1 + x.2) / 3 = x.1 by omega] at this
    exact this
  have dy : nI (3 * y.1 + y.2) / 3 = nI y.1 := by
    have := pk_div (a := 3 * y.1 + y.2) (d := 3) (by omega) (by decide) (by decide)
    rw [show (3 * y.1 + y.2) / 3 = y.1 by omega] at this
    exact this
  unfold wpY_areTied
  dsimp only
  rw [dx, dy, cx, a1, te_w8 w1 w2]
  refine ⟨by decide, by decide, pk_eq _ _ (fun e => ?_) (fun e => ⟨ix, by decide, ?_⟩) rfl rfl (by omega) (by omega)⟩
  · rw [if_pos (te_ti_iff.mpr (Or.inl e))] at h
    exact h
  · have h1 : ((4 ≤ te_op P x.1 x.2 ↔ 4 ≤ te_op P y.1 y.2) ∧ te_pl P x.1 x.2 = te_pl P y.1 y.2 ∧ ¬ (te_op P x.1 x.2 = 0 ∧ te_op P y.1 y.2 = 0)) → post 1 := by
      intro k
      rw [if_pos (te_ti_iff.mpr (Or.inr k))] at h
      exact h
    have h2 : ¬ ((4 ≤ te_op P x.1 x.2 ↔ 4 ≤ te_op P y.1 y.2) ∧ te_pl P x.1 x.2 = te_pl P y.1 y.2 ∧ ¬ (te_op P x.1 x.2 = 0 ∧ te_op P y.1 y.2 = 0)) → post 0 := by
      intro k
      rw [if_neg (fun z => (te_ti_iff.mp z).elim e k)] at h
      exact h
    refine pk_le 4 _ (fun c => ?_) (fun c => ?_) rfl rfl (by omega) (by omega)
    · have hz0 : (0 : Int32) = 0 ↔ 4 ≤ te_op P x.1 x.2 := ⟨fun _ => c, fun _ => rfl⟩
      unfold wY_areTied_29
      rw [cy, b1, te_w8 v1 v2]
      refine ⟨iy, by decide, pk_le 4 _ (fun c' => ty_48 hW hp hx1 hx2 hy1 hy2 ?_ hz0 h1 h2) (fun c' => ty_48 hW hp hx1 hx2 hy1 hy2 ?_ hz0 h1 h2) rfl rfl (by omega) (by omega)⟩
      · exact ⟨fun _ => ⟨fun _ => c', fun _ => c⟩, fun _ => rfl⟩
      · exact ⟨fun a => absurd a (by decide), fun a => absurd (a.mp c) (by omega)⟩
    · have hz0 : (1 : Int32) = 0 ↔ 4 ≤ te_op P x.1 x.2 := ⟨fun a => absurd a (by decide), fun a => absurd a (by omega)⟩
      unfold wY_areTied_29
      rw [cy, b1, te_w8 v1 v2]
      refine ⟨iy, by decide, pk_le 4 _ (fun c' => ty_48 hW hp hx1 hx2 hy1 hy2 ?_ hz0 h1 h2) (fun c' => ty_48 hW hp hx1 hx2 hy1 hy2 ?_ hz0 h1 h2) rfl rfl (by omega) (by omega)⟩
      · exact ⟨fun a => absurd a (by decide), fun a => absurd (a.mpr c') (by omega)⟩
      · exact ⟨fun _ => ⟨fun a => by omega, fun a => by omega⟩, fun _ => rfl⟩
end
end
section
/-! the second machine: key, finish, notice -/
section
variable {yde yru yki yso : Int32} {ysz ywh yam yfi yro ydo yva yhe yhn ypl ywl you ypk yen yea : Nat → Int32} {yke : Nat → Int64}
theorem te_plc {P : te_P} (hW : te_W P) {r : List Nat} (hr : te_o P r) (hq : te_YQ P r ydo yva yhe yhn ypl) {s u : Nat} (hs : s < 9) (hu : u < 9) :
    (ypl s < 0 ∧ ¬ te_bf (te_L P r) (te_x s) (te_x u)) ∨ (¬ ypl s < 0 ∧ ypl u < 0 ∧ ¬ te_bf (te_L P r) (te_x s) (te_x u)) ∨ (¬ ypl s < 0 ∧ ¬ ypl u < 0 ∧ ypl u ≤ ypl s ∧ ¬ te_bf (te_L P r) (te_x s) (te_x u)) ∨ (¬ ypl s < 0 ∧ ¬ ypl u < 0 ∧ ¬ ypl u ≤ ypl s ∧ te_bf (te_L P r) (te_x s) (te_x u)) := by
  have hl9 := te_o_len hW hr
  have hlen := te_L_len P r
  have q5 := hq.2.2.2.2
  have num : ∀ s, s < 9 → 3 * (te_x s).1 + (te_x s).2 = s := by intro s hs; show 3 * (s / 3) + s % 3 = s; omega
  have hx := q5 (te_x s) (by show s / 3 < 3; omega) (by show s % 3 < 3; omega)
  have hy := q5 (te_x u) (by show u / 3 < 3; omega) (by show u % 3 < 3; omega)
  rw [num s hs] at hx
  rw [num u hu] at hy
  by_cases m1 : te_x s ∈ te_L P r
  · obtain ⟨j, hj⟩ := List.mem_iff_getElem?.mp m1
    have hjl := (List.getElem?_eq_some_iff.mp hj).1
    have e1 := hx.1 j hj
    have n1 : ¬ ypl s < 0 := by rw [e1]; exact nI_pos (by omega)
    by_cases m2 : te_x u ∈ te_L P r
    · obtain ⟨i, hi⟩ := List.mem_iff_getElem?.mp m2
      have hil := (List.getElem?_eq_some_iff.mp hi).1
      have e2 := hy.1 i hi
      have n2 : ¬ ypl u < 0 := by rw [e2]; exact nI_pos (by omega)
      by_cases c : j < i
      · refine Or.inr (Or.inr (Or.inr ⟨n1, n2, ?_, (te_bf_ix _ _ _).mpr ⟨j, i, c, hj, hi⟩⟩))
        rw [e1, e2, nI_leI (by omega) (by omega)]
        omega
      · refine Or.inr (Or.inr (Or.inl ⟨n1, n2, ?_, ?_⟩))
        · rw [e1, e2, nI_leI (by omega) (by omega)]
          omega
        · intro z
          obtain ⟨j', i', c', hj', hi'⟩ := (te_bf_ix _ _ _).mp z
          have hjl' := (List.getElem?_eq_some_iff.mp hj').1
          have hil' := (List.getElem?_eq_some_iff.mp hi').1
          have f1 := hx.1 j' hj'
          have f2 := hy.1 i' hi'
          rw [e1, nI_eq (by omega) (by omega)] at f1
          rw [e2, nI_eq (by omega) (by omega)] at f2
          omega
    · exact Or.inr (Or.inl ⟨n1, by rw [hy.2 m2]; decide, fun z => m2 (te_bf_mem z).2⟩)
  · exact Or.inl ⟨by rw [hx.2 m1]; decide, fun z => m1 (te_bf_mem z).1⟩
theorem te_shl1 (k : Nat) : lN k <<< ((1 : Int32).toInt64 &&& 63) = lN (k * 2) := wb_shl k (k := 1) (by decide)
theorem te_or1 {k : Nat} (h : k < 4398046511104) : lN (k * 2) ||| 1 = lN (k * 2 + 1) := by
  have e : k * 2 ||| 1 = k * 2 + 1 := by
    have := Nat.shiftLeft_add_eq_or_of_lt (a := k) (b := 1) (i := 1) (by decide)
    rw [Nat.shiftLeft_eq] at this
    exact this.symm
  have := wb_or (a := k * 2) (b := 1) (by omega) (by decide)
  rw [e] at this
  exact this
theorem ty_72z {post : Int64 → Prop} {J J' : Int64 → Int32 → Prop} {x : Int64} {x3 : Int32} {u : Nat} (h : J' x (nI (u + 1))) : wY_key_72 post J J' x x3 (nI u) 0 yde yru yki yso ysz ywh yam yfi yro ydo yva yhe yhn ypl yke ywl you ypk yen yea := by
  unfold wY_key_72
  exact br_t rfl (nm_r (nI_1 u) h)
theorem ty_key38 {P : te_P} (hW : te_W P) {r : List Nat} (hr : te_o P r) (hp : te_YP P ysz ywh yam yfi) (hq : te_YQ P r ydo yva yhe yhn ypl) {post : Int64 → Prop} {J : Int64 → Int32 → Prop} {s k : Nat} (hs : s < 9) (hb : ∀ u, u ≤ s → te_kin P (te_L P r) s u k < 4398046511104) (h : J (lN (te_kin P (te_L P r) s s k)) (nI (s + 1))) :
    ∀ d u, u + d = s → wY_key_38 post J (nI s) yde yru yki yso ysz ywh yam yfi yro ydo yva yhe yhn ypl yke ywl you ypk yen yea (d + 1) (lN (te_kin P (te_L P r) s u k)) (nI u) := by
  intro d
  induction d with
  | zero =>
    intro u hu
    have e : u = s := by omega
    subst e
    rw [wY_key_38]
    exact pk_le u u (fun _ => nm_r (nI_1 u) h) (fun c => absurd c (by omega)) rfl rfl (by omega) (by omega)
  | succ d ih =>
    intro u hu
    have cs : (nI s).toNatClampNeg = s := nI_clamp (by omega)
    have cu : (nI u).toNatClampNeg = u := nI_clamp (by omega)
    have his : vp_in (nI s) 9 := vp_in_nI hs (by decide)
    have hiu : vp_in (nI u) 9 := vp_in_nI (by omega) (by decide)
    have hk := hb u (by omega)
    have hnext := ih (u + 1) (by omega)
    have hbit : te_kin P (te_L P r) s (u + 1) k = te_kin P (te_L P r) s u k * 2 + te_bit P (te_L P r) s u := rfl
    have b0 : ¬ (te_bf (te_L P r) (te_x s) (te_x u) ∧ te_ti P (te_x s) (te_x u) = true) → wY_key_38 post J (nI s) yde yru yki yso ysz ywh yam yfi yro ydo yva yhe yhn ypl yke ywl you ypk yen yea (d + 1) (lN (te_kin P (te_L P r) s u k * 2)) (nI (u + 1)) := by
      intro z
      have : te_bit P (te_L P r) s u = 0 := te_b01_f z
      rw [hbit, this] at hnext
      exact hnext
    have b1 : (te_bf (te_L P r) (te_x s) (te_x u) ∧ te_ti P (te_x s) (te_x u) = true) → wY_key_38 post J (nI s) yde yru yki yso ysz ywh yam yfi yro ydo yva yhe yhn ypl yke ywl you ypk yen yea (d + 1) (lN (te_kin P (te_L P r) s u k * 2 + 1)) (nI (u + 1)) := by
      intro z
      have : te_bit P (te_L P r) s u = 1 := te_b01_t z
      rw [hbit, this] at hnext
      exact hnext
    rw [wY_key_38]
    dsimp only
    refine pk_le s u (fun c => absurd c (by omega)) (fun _ => nm_r (te_shl1 _) ⟨his, ?_⟩) rfl rfl (by omega) (by omega)
    rw [cs, cu]
    rcases te_plc hW hr hq hs (show u < 9 by omega) with ⟨c1, c2⟩ | ⟨c1, c2, c3⟩ | ⟨c1, c2, c3, c4⟩ | ⟨c1, c2, c3, c4⟩
    · refine br_t c1 ?_
      unfold wY_key_71
      exact ty_72z (b0 (fun z => c2 z.1))
    · refine br_f c1 ⟨hiu, br_t c2 ?_⟩
      unfold wY_key_71
      exact ty_72z (b0 (fun z => c3 z.1))
    · refine br_f c1 ⟨hiu, br_f c2 ?_⟩
      unfold wY_key_72
      rw [cs, cu]
      exact br_f (by decide) ⟨his, hiu, br_t c3 (nm_r (nI_1 u) (b0 (fun z => c4 z.1)))⟩
    · refine br_f c1 ⟨hiu, br_f c2 ?_⟩
      unfold wY_key_72
      rw [cs, cu]
      refine br_f (by decide) ⟨his, hiu, br_f c3 ?_⟩
      have num : ∀ s, s < 9 → 3 * (te_x s).1 + (te_x s).2 = s := by intro s hs; show 3 * (s / 3) + s % 3 = s; omega
      have ht := ty_areTied (yde := yde) (yru := yru) (yki := yki) (yso := yso) (yro := yro) (ydo := ydo) (yva := yva) (yhe := yhe) (yhn := yhn) (ypl := ypl) (yke := yke) (ywl := ywl) (you := you) (ypk := ypk) (yen := yen) (yea := yea) (x := te_x s) (y := te_x u) hW hp (by show s / 3 < 3; omega) (by show s % 3 < 3; omega) (by show u / 3 < 3; omega) (by show u % 3 < 3; omega) (post := fun r_14 => (r_14 = 0 → ∀ x4_36, x4_36 = nI u + 1 → wY_key_38 post J (nI s) yde yru yki yso ysz ywh yam yfi yro ydo yva yhe yhn ypl yke ywl you ypk yen yea (d + 1) (lN (te_kin P (te_L P r) s u k * 2)) x4_36) ∧ (¬ r_14 = 0 → ∀ x1_37, x1_37 = lN (te_kin P (te_L P r) s u k * 2) ||| 1 → ∀ x4_38, x4_38 = nI u + 1 → wY_key_38 post J (nI s) yde yru yki yso ysz ywh yam yfi yro ydo yva yhe yhn ypl yke ywl you ypk yen yea (d + 1) x1_37 x4_38)) ?_
      · rw [num s hs, num u (by omega)] at ht
        exact ht
      · cases hti : te_ti P (te_x s) (te_x u) with
        | true =>
          rw [if_pos rfl]
          exact br_f (by decide) (nm_r (te_or1 hk) (nm_r (nI_1 u) (b1 ⟨c4, hti⟩)))
        | false =>
          rw [if_neg (by decide)]
          exact br_t rfl (nm_r (nI_1 u) (b0 (fun z => by rw [hti] at z; exact absurd z.2 (by decide))))
theorem ty_key29 {P : te_P} (hW : te_W P) {r : List Nat} (hr : te_o P r) (hp : te_YP P ysz ywh yam yfi) (hq : te_YQ P r ydo yva yhe yhn ypl) {post : Int64 → Prop} {k : Nat} (hk : k < 64) (h : post (lN (te_kout P (te_L P r) 9 k))) : ∀ d s, s + d = 9 → wY_key_29 post yde yru yki yso ysz ywh yam yfi yro ydo yva yhe yhn ypl yke ywl you ypk yen yea (d + 1) (lN (te_kout P (te_L P r) s k)) (nI s) := by
  intro d
  induction d with
  | zero =>
    intro s hs
    have e : s = 9 := by omega
    subst e
    rw [wY_key_29]
    exact pk_le 9 9 (fun _ => h) (fun c => absurd c (by omega)) rfl rfl (by omega) (by omega)
  | succ d ih =>
    intro s hs
    rw [wY_key_29]
    refine pk_le 9 s (fun c => absurd c (by omega)) (fun c => ⟨s + 1, ?_⟩) rfl rfl (by omega) (by omega)
    exact ty_key38 hW hr hp hq (k := te_kout P (te_L P r) s k) c (fun u hu => te_k_lt hk c hu) (ih (s + 1) (by omega)) s 0 (by omega)
theorem ty_key {P : te_P} (hW : te_W P) {r : List Nat} (hr : te_o P r) (hp : te_YP P ysz ywh yam yfi) (hq : te_YQ P r ydo yva yhe yhn ypl) {post : Int64 → Prop} (h : post (lN (te_key P r))) : wpY_key post (yde, yru, yki, yso, ysz, ywh, yam, yfi, yro, ydo, yva, yhe, yhn, ypl, yke, ywl, you, ypk, yen, yea) := by
  have hk := te_k0_lt hW hr
  have e : (ydo 0 + 4 * ydo 1 + 16 * ydo 2).toInt64 = lN (te_k0 P r) := by
    rw [hq.1 0 (by omega), hq.1 1 (by omega), hq.1 2 (by omega)]
    show (_ + nI 4 * _ + nI 16 * _).toInt64 = _
    rw [pk_mul, pk_mul, nI_add, nI_add]
    exact nI_l (n := te_k0 P r) (by omega)
  unfold wpY_key
  dsimp only
  exact nm_r e ⟨9 + 1, ty_key29 hW hr hp hq hk h 9 0 rfl⟩
/-- the table of pairs -/
def te_EA (Q : Nat → Nat → Prop) (ea : Nat → Int32) : Prop := ∀ s, s < 9 → ∀ u, u < 9 → (Q s u → ea (9 * s + u) = 1) ∧ (¬ Q s u → ea (9 * s + u) = 0)
theorem te_EA_congr {Q Q' : Nat → Nat → Prop} {ea : Nat → Int32} (h : te_EA Q ea) (e : ∀ s, s < 9 → ∀ u, u < 9 → (Q s u ↔ Q' s u)) : te_EA Q' ea := by
  intro s hs u hu
  obtain ⟨h1, h2⟩ := h s hs u hu
  exact ⟨fun z => h1 ((e s hs u hu).mpr z), fun z => h2 (fun y => z ((e s hs u hu).mp y))⟩
theorem te_EA_set {Q : Nat → Nat → Prop} {ea : Nat → Int32} (h : te_EA Q ea) {s u : Nat} (hs : s < 9) (hu : u < 9) : te_EA (fun s' u' => Q s' u' ∨ (s' = s ∧ u' = u)) (upd ea (9 * s + u) 1) := by
  intro s' hs' u' hu'
  obtain ⟨h1, h2⟩ := h s' hs' u' hu'
  by_cases c : s' = s ∧ u' = u
  · rw [c.1, c.2]
    exact ⟨fun _ => pk_us, fun z => absurd (Or.inr ⟨rfl, rfl⟩) z⟩
  · have hne : 9 * s' + u' ≠ 9 * s + u := by
      intro e
      exact c ⟨by omega, by omega⟩
    rw [pk_un hne]
    exact ⟨fun z => z.elim h1 (fun y => absurd y c), fun z => h2 (fun y => z (Or.inl y))⟩
theorem te_nb0 : vp_nar .boolean 0 = 0 := rfl
theorem te_nb1 : vp_nar .boolean 1 = 1 := rfl
theorem te_num9 (s u : Nat) : 9 * nI s + nI u = nI (9 * s + u) := by
  show nI 9 * nI s + nI u = _
  rw [pk_mul, nI_add]
theorem ty_fin40 {P : te_P} (hW : te_W P) {r : List Nat} (hr : te_o P r) (hq : te_YQ P r ydo yva yhe yhn ypl) {E : Nat → Nat → Prop} {post : SY → Prop} {J : Int32 → (Nat → Int32) → (Nat → Int32) → (Nat → Int32) → (Nat → Int32) → (Nat → Int32) → (Nat → Int32) → (Nat → Int32) → (Nat → Int32) → (Nat → Int32) → (Nat → Int32) → (Nat → Int64) → (Nat → Int32) → (Nat → Int32) → (Nat → Int32) → (Nat → Int32) → (Nat → Int32) → Prop} {s : Nat} (hs : s < 9)
    (h : ∀ ea, te_EA (fun s' u' => E s' u' ∨ (s' < s + 1 ∧ te_bf (te_L P r) (te_x s') (te_x u'))) ea → J (nI (s + 1)) ysz ywh yam yfi yro ydo yva yhe yhn ypl yke ywl you ypk yen ea) :
    ∀ d u, u + d = 9 → ∀ yea : Nat → Int32, te_EA (fun s' u' => E s' u' ∨ ((s' < s ∨ (s' = s ∧ u' < u)) ∧ te_bf (te_L P r) (te_x s') (te_x u'))) yea → wY_finish_40 post J (nI s) yde yru yki yso (d + 1) (nI u) ysz ywh yam yfi yro ydo yva yhe yhn ypl yke ywl you ypk yen yea := by
  intro d
  induction d with
  | zero =>
    intro u hu yea hE
    rw [wY_finish_40]
    refine pk_le 9 u (fun _ => nm_r (nI_1 s) (h yea (te_EA_congr hE (fun s' hs' u' hu' => ?_)))) (fun c => absurd c (by omega)) rfl rfl (by omega) (by omega)
    constructor
    · intro z
      rcases z with z | ⟨z1, z2⟩
      · exact Or.inl z
      · exact Or.inr ⟨by omega, z2⟩
    · intro z
      rcases z with z | ⟨z1, z2⟩
      · exact Or.inl z
      · exact Or.inr ⟨by omega, z2⟩
  | succ d ih =>
    intro u hu yea hE
    have cs : (nI s).toNatClampNeg = s := nI_clamp (by omega)
    have cu : (nI u).toNatClampNeg = u := nI_clamp (by omega)
    have csu : (nI (9 * s + u)).toNatClampNeg = 9 * s + u := nI_clamp (by omega)
    have his : vp_in (nI s) 9 := vp_in_nI hs (by decide)
    have hiu : vp_in (nI u) 9 := vp_in_nI (by omega) (by decide)
    have no : ¬ te_bf (te_L P r) (te_x s) (te_x u) → wY_finish_40 post J (nI s) yde yru yki yso (d + 1) (nI (u + 1)) ysz ywh yam yfi yro ydo yva yhe yhn ypl yke ywl you ypk yen yea := by
      intro z
      refine ih (u + 1) (by omega) yea (te_EA_congr hE (fun s' hs' u' hu' => ?_))
      constructor
      · intro y
        rcases y with y | ⟨y1, y2⟩
        · exact Or.inl y
        · exact Or.inr ⟨by omega, y2⟩
      · intro y
        rcases y with y | ⟨y1, y2⟩
        · exact Or.inl y
        · refine Or.inr ⟨?_, y2⟩
          by_cases e : s' = s ∧ u' = u
          · rw [e.1, e.2] at y2; exact absurd y2 z
          · omega
    rw [wY_finish_40]
    dsimp only
    rw [cs, cu, te_num9, csu, te_nb1]
    refine pk_le 9 u (fun c => absurd c (by omega)) (fun _ => ⟨his, ?_⟩) rfl rfl (by omega) (by omega)
    rcases te_plc hW hr hq hs (show u < 9 by omega) with ⟨c1, c2⟩ | ⟨c1, c2, c3⟩ | ⟨c1, c2, c3, c4⟩ | ⟨c1, c2, c3, c4⟩
    · exact br_t c1 (nm_r (nI_1 u) (no c2))
    · exact br_f c1 ⟨hiu, br_t c2 (nm_r (nI_1 u) (no c3))⟩
    · exact br_f c1 ⟨hiu, br_f c2 ⟨his, hiu, br_t c3 (nm_r (nI_1 u) (no c4))⟩⟩
    · refine br_f c1 ⟨hiu, br_f c2 ⟨his, hiu, br_f c3 ⟨vp_in_nI (by omega) (by decide), nm_e (nm_r (nI_1 u) (ih (u + 1) (by omega) _ (te_EA_congr (te_EA_set hE hs (show u < 9 by omega)) (fun s' hs' u' hu' => ?_))))⟩⟩⟩
      constructor
      · intro y
        rcases y with (y | ⟨y1, y2⟩) | y
        · exact Or.inl y
        · exact Or.inr ⟨by omega, y2⟩
        · rw [y.1, y.2]; exact Or.inr ⟨by omega, c4⟩
      · intro y
        rcases y with y | ⟨y1, y2⟩
        · exact Or.inl (Or.inl y)
        · by_cases e : s' = s ∧ u' = u
          · exact Or.inr e
          · exact Or.inl (Or.inr ⟨by omega, y2⟩)
theorem ty_fin32 {P : te_P} (hW : te_W P) {r : List Nat} (hr : te_o P r) (hq : te_YQ P r ydo yva yhe yhn ypl) {E : Nat → Nat → Prop} {post : SY → Prop} (h : ∀ ea, te_EA (fun s u => E s u ∨ te_bf (te_L P r) (te_x s) (te_x u)) ea → post (yde, yru, yki, yso, ysz, ywh, yam, yfi, yro, ydo, yva, yhe, yhn, ypl, yke, ywl, you, ypk, yen, ea)) :
    ∀ d s, s + d = 9 → ∀ yea : Nat → Int32, te_EA (fun s' u' => E s' u' ∨ (s' < s ∧ te_bf (te_L P r) (te_x s') (te_x u'))) yea → wY_finish_32 post yde yru yki yso (d + 1) (nI s) ysz ywh yam yfi yro ydo yva yhe yhn ypl yke ywl you ypk yen yea := by
  intro d
  induction d with
  | zero =>
    intro s hs yea hE
    rw [wY_finish_32]
    refine pk_le 9 s (fun _ => h yea (te_EA_congr hE (fun s' hs' u' hu' => ?_))) (fun c => absurd c (by omega)) rfl rfl (by omega) (by omega)
    exact ⟨fun z => z.elim Or.inl (fun y => Or.inr y.2), fun z => z.elim Or.inl (fun y => Or.inr ⟨by omega, y⟩)⟩
  | succ d ih =>
    intro s hs yea hE
    rw [wY_finish_32]
    refine pk_le 9 s (fun c => absurd c (by omega)) (fun c => ⟨9 + 1, ty_fin40 hW hr hq (E := E) c (fun ea hE' => ih (s + 1) (by omega) ea hE') 9 0 rfl yea (te_EA_congr hE (fun s' hs' u' hu' => ?_))⟩) rfl rfl (by omega) (by omega)
    exact ⟨fun z => z.elim Or.inl (fun y => Or.inr ⟨Or.inl y.1, y.2⟩), fun z => z.elim Or.inl (fun y => Or.inr ⟨by omega, y.2⟩)⟩
theorem ty_fin2 {P : te_P} (hW : te_W P) {r : List Nat} (hr : te_o P r) (hq : te_YQ P r ydo yva yhe yhn ypl) {f : Nat → Int32} {E : Nat → Nat → Prop} (hE : te_EA E yea) {post : SY → Prop} (h : ∀ en ea, (∀ t, t < 3 → en t = f t ||| ((1 : Int32) <<< (nI (te_hn (te_q P r) t) &&& 31))) → te_EA (fun s u => E s u ∨ te_bf (te_L P r) (te_x s) (te_x u)) ea → post (yde, yru, yki, yso, ysz, ywh, yam, yfi, yro, ydo, yva, yhe, yhn, ypl, yke, ywl, you, ypk, en, ea)) :
    ∀ d i, i + d = 3 → ∀ yen : Nat → Int32, (∀ t, t < i → yen t = f t ||| ((1 : Int32) <<< (nI (te_hn (te_q P r) t) &&& 31))) → (∀ t, i ≤ t → t < 3 → yen t = f t) → wY_finish_2 post yde yru yki yso (d + 1) (nI i) ysz ywh yam yfi yro ydo yva yhe yhn ypl yke ywl you ypk yen yea := by
  intro d
  induction d with
  | zero =>
    intro i hi yen h1 h2
    rw [wY_finish_2]
    refine pk_le 3 i (fun _ => ⟨9 + 1, ty_fin32 hW hr hq (E := E) (fun ea k => h yen ea (fun t ht => h1 t (by omega)) k) 9 0 rfl yea (te_EA_congr hE (fun s' hs' u' hu' => ?_))⟩) (fun c => absurd c (by omega)) rfl rfl (by omega) (by omega)
    exact ⟨Or.inl, fun z => z.elim id (fun y => absurd y.1 (by omega))⟩
  | succ d ih =>
    intro i hi yen h1 h2
    have ci : (nI i).toNatClampNeg = i := nI_clamp (by omega)
    have hii : vp_in (nI i) 3 := vp_in_nI (by omega) (by decide)
    rw [wY_finish_2]
    refine pk_le 3 i (fun c => absurd c (by omega)) (fun c => ⟨hii, hii, hii, nm_e (nm_r (nI_1 i) (ih (i + 1) (by omega) _ (te_ul (Q := fun t x => x = f t ||| ((1 : Int32) <<< (nI (te_hn (te_q P r) t) &&& 31))) (by omega) h1 ?_) (fun t x1 x2 => ?_)))⟩) rfl rfl (by omega) (by omega)
    · rw [ci, h2 i (Nat.le_refl _) (by omega), hq.2.2.2.1 i (by omega)]
    · rw [ci, pk_un (by omega)]
      exact h2 t (by omega) x2
theorem ty_finish {P : te_P} (hW : te_W P) {r : List Nat} (hr : te_o P r) (hq : te_YQ P r ydo yva yhe yhn ypl) {f : Nat → Int32} (hen : ∀ t, t < 3 → yen t = f t) {E : Nat → Nat → Prop} (hE : te_EA E yea) {post : SY → Prop} (h : ∀ en ea, (∀ t, t < 3 → en t = f t ||| ((1 : Int32) <<< (nI (te_hn (te_q P r) t) &&& 31))) → te_EA (fun s u => E s u ∨ te_bf (te_L P r) (te_x s) (te_x u)) ea → post (yde, yru, yki, yso, ysz, ywh, yam, yfi, yro, ydo, yva, yhe, yhn, ypl, yke, ywl, you, ypk, en, ea)) : wpY_finish post (yde, yru, yki, yso, ysz, ywh, yam, yfi, yro, ydo, yva, yhe, yhn, ypl, yke, ywl, you, ypk, yen, yea) := by
  unfold wpY_finish
  dsimp only
  exact ⟨3 + 1, ty_fin2 hW hr hq hE h 3 0 rfl yen (fun t ht => absurd ht (by omega)) (fun t _ ht => hen t ht)⟩
end
end
section
/-! the second machine: notice, all runs -/
section
variable {yde yru yki yso : Int32} {ysz ywh yam yfi yro ydo yva yhe yhn ypl ywl you ypk yen yea : Nat → Int32} {yke : Nat → Int64}
def te_YA (P : te_P) (D : List (List Nat)) (yru yki yso : Int32) (yke : Nat → Int64) (ywl you yen yea : Nat → Int32) : Prop :=
  yru = nI D.length ∧ yki = nI (te_E P D).length ∧ yso = nI (te_sh P D) ∧ (∀ i q, (te_E P D)[i]? = some q → yke i = lN (te_key P q) ∧ ywl i = (if te_cm P q = true then 1 else 0) ∧ you i = nI (te_rs P q)) ∧ (∀ t, t < 3 → yen t = te_es P D t) ∧ te_EA (fun s u => te_ea P D (te_x s) (te_x u)) yea
theorem ty_65 {x1 x2 : Int32} {E : List (List Nat)} {P : te_P} {k : Nat} (hk : k < 4398046511104) (hE : E.length ≤ 1680) (hki : yki = nI E.length) (hke : ∀ i q, E[i]? = some q → yke i = lN (te_key P q) ∧ te_key P q < 4398046511104) {post : SY → Prop} (h1 : (∀ m, m ∈ E → te_key P m ≠ k) → wY_notice_103 post x1 x2 (lN k) 1 yde yru yki yso ysz ywh yam yfi yro ydo yva yhe yhn ypl yke ywl you ypk yen yea) (h0 : (∃ m, m ∈ E ∧ te_key P m = k) → wY_notice_103 post x1 x2 (lN k) 0 yde yru yki yso ysz ywh yam yfi yro ydo yva yhe yhn ypl yke ywl you ypk yen yea) :
    ∀ d i, i + d = E.length → ∀ fl : Int32, ((fl = 1 ∧ ∀ j m, j < i → E[j]? = some m → te_key P m ≠ k) ∨ (fl = 0 ∧ ∃ m, m ∈ E ∧ te_key P m = k)) → wY_notice_65 post x1 x2 (lN k) yde yru yki yso ysz ywh yam yfi yro ydo yva yhe yhn ypl yke ywl you ypk yen yea (d + 1) fl (nI i) := by
  intro d
  induction d with
  | zero =>
    intro i hi fl hfl
    rw [wY_notice_65]
    dsimp only
    refine pk_le _ _ (fun _ => ?_) (fun c => absurd c (by omega)) hki rfl (by omega) (by omega)
    rcases hfl with ⟨e, hf⟩ | ⟨e, hf⟩
    · rw [e]
      refine h1 (fun m hm => ?_)
      obtain ⟨j, hj⟩ := List.mem_iff_getElem?.mp hm
      have := (List.getElem?_eq_some_iff.mp hj).1
      exact hf j m (by omega) hj
    · rw [e]; exact h0 hf
  | succ d ih =>
    intro i hi fl hfl
    have ci : (nI i).toNatClampNeg = i := nI_clamp (by omega)
    obtain ⟨q, hq⟩ : ∃ q, E[i]? = some q := ⟨_, List.getElem?_eq_getElem (show i < E.length by omega)⟩
    obtain ⟨e1, e2⟩ := hke i q hq
    rw [wY_notice_65]
    dsimp only
    rw [ci, e1]
    refine pk_le _ _ (fun c => absurd c (by omega)) (fun _ => pk_le 1700 i (fun c => absurd c (by omega)) (fun _ => ⟨vp_in_nI (by omega) (by decide), ?_⟩) rfl rfl (by omega) (by omega)) hki rfl (by omega) (by omega)
    by_cases c : te_key P q = k
    · exact br_t (by rw [c]) (nm_r (nI_1 i) (ih (i + 1) (by omega) 0 (Or.inr ⟨rfl, q, List.mem_iff_getElem?.mpr ⟨i, hq⟩, c⟩)))
    · refine br_f (fun z => c ((pk_lEQ (by omega) (by omega)).mp z)) (nm_r (nI_1 i) (ih (i + 1) (by omega) fl ?_))
      rcases hfl with ⟨e, hf⟩ | ⟨e, hf⟩
      · refine Or.inl ⟨e, fun j m hj hm => ?_⟩
        by_cases y : j = i
        · rw [y, hq] at hm
          rw [← Option.some.inj hm]
          exact c
        · exact hf j m (by omega) hm
      · exact Or.inr ⟨e, hf⟩
theorem ty_158c {P : te_P} (hW : te_W P) {D : List (List Nat)} {q : List Nat} (hr : te_o P q) (hq : te_YQ P q ydo yva yhe yhn ypl) (hc : te_cm P q = true) (hso : yso = nI (te_sh P D)) (hen : ∀ t, t < 3 → yen t = te_es P D t) (hea : te_EA (fun s u => te_ea P D (te_x s) (te_x u)) yea) {post : SY → Prop} (h : ∀ so en ea, so = nI (te_sh P (D ++ [q])) → (∀ t, t < 3 → en t = te_es P (D ++ [q]) t) → te_EA (fun s u => te_ea P (D ++ [q]) (te_x s) (te_x u)) ea → post (yde, yru, yki, so, ysz, ywh, yam, yfi, yro, ydo, yva, yhe, yhn, ypl, yke, ywl, you, ypk, en, ea)) : wY_notice_158 post 1 yde yru yki yso ysz ywh yam yfi yro ydo yva yhe yhn ypl yke ywl you ypk yen yea := by
  unfold wY_notice_158
  refine br_f (by decide) ?_
  unfold wY_notice_188
  refine br_f (by decide) (ty_finish hW hr hq (f := te_es P D) hen hea (fun en ea k1 k2 => h yso en ea ?_ ?_ ?_))
  · rw [hso, te_sh_snoc]
    unfold te_sh1
    rw [if_pos hc]
  · intro t ht
    rw [k1 t ht, te_es_snoc]
    unfold te_e1
    rw [if_pos hc]
  · refine te_EA_congr k2 (fun s _ u _ => ?_)
    rw [te_ea_snoc]
    exact ⟨fun z => z.elim Or.inl (fun y => Or.inr ⟨hc, y⟩), fun z => z.elim Or.inl (fun y => Or.inr y.2)⟩
theorem ty_158s {P : te_P} {D : List (List Nat)} {q : List Nat} (hde : yde = nI q.length) (hl : q.length ≤ 9) (hs : te_sh P D ≤ 9) (hc : ¬ te_cm P q = true) (hso : yso = nI (te_sh P D)) (hen : ∀ t, t < 3 → yen t = te_es P D t) (hea : te_EA (fun s u => te_ea P D (te_x s) (te_x u)) yea) {post : SY → Prop} (h : ∀ so en ea, so = nI (te_sh P (D ++ [q])) → (∀ t, t < 3 → en t = te_es P (D ++ [q]) t) → te_EA (fun s u => te_ea P (D ++ [q]) (te_x s) (te_x u)) ea → post (yde, yru, yki, so, ysz, ywh, yam, yfi, yro, ydo, yva, yhe, yhn, ypl, yke, ywl, you, ypk, en, ea)) : wY_notice_158 post 0 yde yru yki yso ysz ywh yam yfi yro ydo yva yhe yhn ypl yke ywl you ypk yen yea := by
  have hen' : ∀ t, t < 3 → yen t = te_es P (D ++ [q]) t := by
    intro t ht
    rw [hen t ht, te_es_snoc]
    unfold te_e1
    rw [if_neg hc]
  have hea' : te_EA (fun s u => te_ea P (D ++ [q]) (te_x s) (te_x u)) yea := by
    refine te_EA_congr hea (fun s _ u _ => ?_)
    rw [te_ea_snoc]
    exact ⟨Or.inl, fun z => z.elim id (fun y => absurd y.1 hc)⟩
  have esh : te_sh P (D ++ [q]) = if te_sh P D = 0 ∨ q.length < te_sh P D then q.length else te_sh P D := by
    rw [te_sh_snoc]
    unfold te_sh1
    rw [if_neg hc]
  unfold wY_notice_158
  refine br_t rfl (pk_eq (te_sh P D) 0 (fun c => ?_) (fun c => pk_le _ _ (fun c2 => ?_) (fun c2 => ?_) hso hde (by omega) (by omega)) hso rfl (by omega) (by omega))
  · unfold wY_notice_180 wY_notice_188
    refine br_t rfl (h yde yen yea ?_ hen' hea')
    rw [esh, if_pos (Or.inl c)]; exact hde
  · unfold wY_notice_188
    refine br_t rfl (h yso yen yea ?_ hen' hea')
    rw [esh, if_neg (fun k => k.elim c (by omega))]; exact hso
  · unfold wY_notice_180 wY_notice_188
    refine br_t rfl (h yde yen yea ?_ hen' hea')
    rw [esh, if_pos (Or.inr c2)]; exact hde
theorem ty_158 {P : te_P} (hW : te_W P) {D : List (List Nat)} {q : List Nat} (hr : te_o P q) (hq : te_YQ P q ydo yva yhe yhn ypl) (hde : yde = nI q.length) (hs : te_sh P D ≤ 9) {z : Int32} (hz : z = if te_cm P q = true then 1 else 0) (hso : yso = nI (te_sh P D)) (hen : ∀ t, t < 3 → yen t = te_es P D t) (hea : te_EA (fun s u => te_ea P D (te_x s) (te_x u)) yea) {post : SY → Prop} (h : ∀ so en ea, so = nI (te_sh P (D ++ [q])) → (∀ t, t < 3 → en t = te_es P (D ++ [q]) t) → te_EA (fun s u => te_ea P (D ++ [q]) (te_x s) (te_x u)) ea → post (yde, yru, yki, so, ysz, ywh, yam, yfi, yro, ydo, yva, yhe, yhn, ypl, yke, ywl, you, ypk, en, ea)) : wY_notice_158 post z yde yru yki yso ysz ywh yam yfi yro ydo yva yhe yhn ypl yke ywl you ypk yen yea := by
  have hl9 := te_o_len hW hr
  by_cases hc : te_cm P q = true
  · rw [hz, if_pos hc]
    exact ty_158c hW hr hq hc hso hen hea h
  · rw [hz, if_neg hc]
    exact ty_158s hde (by omega) hs hc hso hen hea h
theorem ty_notice {P : te_P} (hW : te_W P) {D R : List (List Nat)} {q : List Nat} (hall : te_all P = D ++ q :: R) (hp : te_YP P ysz ywh yam yfi) (hq : te_YQ P q ydo yva yhe yhn ypl) (hde : yde = nI q.length) (hA : te_YA P D yru yki yso yke ywl you yen yea) {post : SY → Prop} (h : ∀ ru ki so ke wl ou en ea, te_YA P (D ++ [q]) ru ki so ke wl ou en ea → post (yde, ru, ki, so, ysz, ywh, yam, yfi, yro, ydo, yva, yhe, yhn, ypl, ke, wl, ou, ypk, en, ea)) : wpY_notice post (yde, yru, yki, yso, ysz, ywh, yam, yfi, yro, ydo, yva, yhe, yhn, ypl, yke, ywl, you, ypk, yen, yea) := by
  have hlen := te_all_len hW
  have hDl : D.length < 1680 := by
    rw [hall, List.length_append, List.length_cons] at hlen
    omega
  have hEl := te_E_len_le P D
  have hr : te_o P q := ((te_all_mem hW q).mp (by rw [hall]; exact List.mem_append_right _ List.mem_cons_self)).1
  have hDo : ∀ m, m ∈ D → te_o P m := fun m hm => ((te_all_mem hW m).mp (by rw [hall]; exact List.mem_append_left _ hm)).1
  have hl9 := te_o_len hW hr
  have hs9 : te_sh P D ≤ 9 := te_sh_le P D 0 (by omega) (fun m hm => by have := te_o_len hW (hDo m hm); omega)
  have htot : te_tot P ≤ 9 := te_rm0 hW
  obtain ⟨A1, A2, A3, A4, A5, A6⟩ := hA
  have etot : ysz 0 + ysz 1 + ysz 2 = nI (te_tot P) := by
    rw [hp.1 0 (by omega), hp.1 1 (by omega), hp.1 2 (by omega), nI_add, nI_add]
    rfl
  have ers : 64 * yva 0 + 8 * yva 1 + yva 2 = nI (te_rs P q) := by
    rw [hq.2.1 0 (by omega), hq.2.1 1 (by omega), hq.2.1 2 (by omega)]
    show nI 64 * _ + nI 8 * _ + _ = _
    rw [pk_mul, pk_mul, nI_add, nI_add]
    rfl
  have e1 : yru + 1 = nI (D ++ [q]).length := by
    rw [A1, nI_1, List.length_append]; rfl
  have hfr := te_fresh hW hall
  have hkey := te_key_lt hW hr
  have h26 : ∀ z : Int32, z = (if te_cm P q = true then 1 else 0) → wY_notice_26 post z yde (nI (D ++ [q]).length) yki yso ysz ywh yam yfi yro ydo yva yhe yhn ypl yke ywl you ypk yen yea := by
    intro z hz
    unfold wY_notice_26
    refine nm_r ers (ty_key hW hr hp hq ⟨(te_E P D).length + 1, ?_⟩)
    refine ty_65 (P := P) (E := te_E P D) hkey (by omega) A2 (fun i m hm => ⟨(A4 i m hm).1, te_key_lt hW (hDo m (List.mem_filter.mp (List.mem_iff_getElem?.mpr ⟨i, hm⟩)).1)⟩) (fun k => ?_) (fun k => ?_) (te_E P D).length 0 (by omega) 1 (Or.inl ⟨rfl, fun j m hj _ => absurd hj (by omega)⟩)
    · have hf : te_fs P q = true := hfr.mpr k
      have ck : (nI (te_E P D).length).toNatClampNeg = (te_E P D).length := nI_clamp (by omega)
      have hik : vp_in (nI (te_E P D).length) 1700 := vp_in_nI (by omega) (by decide)
      have hsn : te_E P (D ++ [q]) = te_E P D ++ [q] := by rw [te_E_snoc, if_pos hf]
      have hnar : vp_nar .boolean z = z := by
        rw [hz]
        by_cases c : te_cm P q = true
        · rw [if_pos c]; rfl
        · rw [if_neg c]; rfl
      unfold wY_notice_103
      rw [A2, ck, hnar]
      refine br_f (by decide) (pk_le 1700 _ (fun c => absurd c (by omega)) (fun _ => ⟨hik, nm_e ⟨hik, nm_e ⟨hik, nm_e (nm_r (nI_1 _) ?_)⟩⟩⟩) rfl rfl (by omega) (by omega))
      refine ty_158 hW hr hq hde hs9 hz A3 A5 A6 (fun so en ea k1 k2 k3 => h _ _ so _ _ _ en ea ⟨rfl, ?_, k1, ?_, k2, k3⟩)
      · rw [hsn, List.length_append]; rfl
      · intro i m hm
        rw [hsn] at hm
        by_cases y : i < (te_E P D).length
        · rw [List.getElem?_append_left y] at hm
          rw [pk_uLn (by omega), pk_un (by omega), pk_un (by omega)]
          exact A4 i m hm
        · rw [List.getElem?_append_right (by omega)] at hm
          by_cases w : i = (te_E P D).length
          · rw [w, Nat.sub_self, List.getElem?_cons_zero] at hm
            rw [w, ← Option.some.inj hm, pk_uLs, pk_us, pk_us]
            exact ⟨rfl, hz, rfl⟩
          · rw [List.getElem?_eq_none (by show 1 ≤ _; omega)] at hm
            exact absurd hm (by simp)
    · have hf : ¬ te_fs P q = true := by
        intro z
        obtain ⟨m, hm, e⟩ := k
        exact hfr.mp z m hm e
      have hsn : te_E P (D ++ [q]) = te_E P D := by rw [te_E_snoc, if_neg hf]
      unfold wY_notice_103
      refine br_t rfl ?_
      refine ty_158 hW hr hq hde hs9 hz A3 A5 A6 (fun so en ea k1 k2 k3 => h _ _ so _ _ _ en ea ⟨rfl, ?_, k1, ?_, k2, k3⟩)
      · rw [hsn]; exact A2
      · rw [hsn]; exact A4
  unfold wpY_notice
  dsimp only
  refine nm_r e1 ?_
  unfold wpY_total
  dsimp only
  rw [etot]
  refine pk_eq _ _ (fun c => h26 1 ?_) (fun c => h26 0 ?_) hde rfl (by omega) (by omega)
  · have hc : te_cm P q = true := decide_eq_true_eq.mpr c
    rw [if_pos hc]
  · have hc : ¬ te_cm P q = true := fun z => c (decide_eq_true_eq.mp z)
    rw [if_neg hc]
/-- what is left to the second machine at a row -/
def te_M (P : te_P) (p : List Nat) (f : Nat) : List (List Nat) := if f = 0 then te_Lv P p else te_Kd P p f
def te_mx (P : te_P) (p : List Nat) (g : Nat → Nat) : Nat → Nat := fun v => if g v < te_vl (te_q P p) v then te_vl (te_q P p) v else g v
theorem te_pk_dup {P : te_P} {D : List (List Nat)} {p : List Nat} {g : Nat → Nat} (h : te_pk P (D ++ [p]) g) : te_pk P (D ++ [p] ++ [p]) g := by
  intro v hv
  obtain ⟨h1, h2⟩ := h v hv
  refine ⟨h1, fun q hq => h2 q ?_⟩
  rw [List.mem_append] at hq
  rcases hq with hq | hq
  · exact hq
  · exact List.mem_append_right _ hq
theorem te_pk_mx {P : te_P} {D : List (List Nat)} {p : List Nat} {g : Nat → Nat} (h : te_pk P (D ++ [p]) g) : te_pk P (D ++ [p]) (te_mx P p g) := by
  refine te_pk_congr h (fun v hv => ?_)
  have := (h v hv).2 p (List.mem_append_right _ (List.mem_singleton.mpr rfl)) p [] (List.append_nil p).symm
  unfold te_mx
  rw [if_neg (by omega)]
theorem te_TK_pos (P : te_P) (p : List Nat) (f : Nat) : 1 ≤ te_TK P p f := by unfold te_TK; omega
end
end
section
/-! the second machine: all runs -/
section
variable {yde yru yki yso : Int32} {ysz ywh yam yfi yro ydo yva yhe yhn ypl ywl you ypk yen yea : Nat → Int32} {yke : Nat → Int64}
theorem te_M_down {P : te_P} (hW : te_W P) {p : List Nat} (ho : te_o P p) {f t : Nat} (hf : f ≤ t) (ht : t < 3) (hc : te_can P (te_q P p) t = true) (h : ∀ j, f ≤ j → j < t → te_can P (te_q P p) j = false) : te_M P p f ++ te_Rs P p = te_M P (p ++ [t]) 0 ++ te_Rs P (p ++ [t]) := by
  have e : te_M P (p ++ [t]) 0 = te_Lv P (p ++ [t]) := if_pos rfl
  rw [e]
  unfold te_M
  by_cases c : f = 0
  · rw [if_pos c]
    exact te_x2 hW ho ht hc (fun j hj => h j (by omega) hj)
  · rw [if_neg c, te_Kd_next hf ht hc h, te_Rs_snoc, List.append_assoc]
theorem ty_ex161 {P : te_P} {p : List Nat} (hl9 : p.length ≤ 9) (hde : yde = nI p.length) (hro : ∀ k x, p[k]? = some x → yro k = nI x) {x1 : Int32} {i : Nat} {post : SY → Prop} {J : Int32 → Int32 → Int32 → Int32 → Int32 → Int32 → Int32 → (Nat → Int32) → (Nat → Int32) → (Nat → Int32) → (Nat → Int32) → (Nat → Int32) → (Nat → Int32) → (Nat → Int32) → (Nat → Int32) → (Nat → Int32) → (Nat → Int32) → (Nat → Int64) → (Nat → Int32) → (Nat → Int32) → (Nat → Int32) → (Nat → Int32) → (Nat → Int32) → Prop}
    (h0 : p = [] → J x1 0 (nI (i + 1)) yde yru yki yso ysz ywh yam yfi yro ydo yva yhe yhn ypl yke ywl you ypk yen yea) (h1 : ∀ p' t, p = p' ++ [t] → J (nI (t + 1)) 1 (nI (i + 1)) (nI p'.length) yru yki yso ysz ywh yam yfi yro ydo yva yhe yhn ypl yke ywl you ypk yen yea) : wY_explore_149 post J x1 (nI i) yde yru yki yso ysz ywh yam yfi yro ydo yva yhe yhn ypl yke ywl you ypk yen yea := by
  unfold wY_explore_149
  refine pk_le p.length 0 (fun c => ?_) (fun c => ?_) hde rfl (by omega) (by omega)
  · unfold wY_explore_161
    exact br_t rfl (nm_r (nI_1 i) (h0 (List.length_eq_zero_iff.mp (by omega))))
  · have hne : p ≠ [] := by intro z; rw [z] at c; exact absurd c (by simp)
    obtain ⟨p', t, e⟩ : ∃ p' t, p = p' ++ [t] := ⟨p.dropLast, p.getLast hne, (List.dropLast_concat_getLast hne).symm⟩
    have hln : p.length = p'.length + 1 := by rw [e, List.length_append]; rfl
    have cp : (nI p'.length).toNatClampNeg = p'.length := nI_clamp (by omega)
    have hr : yro p'.length = nI t := by
      refine hro p'.length t ?_
      rw [e, List.getElem?_append_right (Nat.le_refl _), Nat.sub_self]; rfl
    unfold wY_explore_161
    refine br_f (by decide) (nm_r (e' := nI p'.length) ?_ ⟨vp_in_nI (by omega) (by decide), nm_r (e' := nI (t + 1)) ?_ (nm_r (nI_1 i) (h1 p' t e))⟩)
    · rw [hde, hln]; exact nI_pred _
    · rw [cp, hr, nI_1]
theorem ty_ex74 {P : te_P} (hW : te_W P) (hp : te_YP P ysz ywh yam yfi) {post : SY → Prop} (h : ∀ de ru ki so ro dn va he hn pl ke wl ou pk en ea g, te_YA P (te_all P) ru ki so ke wl ou en ea → te_AR 3 pk g → te_pk P (te_all P) g → post (de, ru, ki, so, ysz, ywh, yam, yfi, ro, dn, va, he, hn, pl, ke, wl, ou, pk, en, ea)) :
    ∀ d (D : List (List Nat)) (p : List Nat) (f i : Nat), te_o P p → f ≤ 3 → i + (te_TK P p f + te_Ts P p) < 100000 → te_TK P p f + te_Ts P p ≤ d → te_all P = D ++ (te_M P p f ++ te_Rs P p) → (f ≠ 0 → te_stb P (te_q P p) = false) → ∀ (yde yru yki yso : Int32) (yro ydo yva yhe yhn ypl ywl you ypk yen yea : Nat → Int32) (yke : Nat → Int64) (g : Nat → Nat), yde = nI p.length → (∀ k x, p[k]? = some x → yro k = nI x) → te_YA P D yru yki yso yke ywl you yen yea → te_AR 3 ypk g → (∀ v, v < 3 → g v < 8) → te_pk P (D ++ [p]) (te_mx P p g) → wY_explore_74 post (d + 1) (nI f) 1 (nI i) yde yru yki yso ysz ywh yam yfi yro ydo yva yhe yhn ypl yke ywl you ypk yen yea := by
  intro d
  induction d with
  | zero =>
    intro D p f i hpo hf hi hd
    have := te_TK_pos P p f
    omega
  | succ d ih =>
    intro D p f i hpo hf hi hd hall hst yde yru yki yso yro ydo yva yhe yhn ypl ywl you ypk yen yea yke g hde hro hA hg hg8 hk
    have hl9 := te_o_len hW hpo
    have hT := te_TK_pos P p f
    rw [wY_explore_74]
    refine pk_le 100000 i (fun c => absurd c (by omega)) (fun _ => br_f (by decide) ?_) rfl rfl (by omega) (by omega)
    refine ty_replay hW hpo hp hde hro hg8 hg (fun dn va he hn pl pk g' hq hg' hgv => ?_)
    have hk' : te_pk P (D ++ [p]) g' := te_pk_congr hk hgv
    have hg8' : ∀ v, v < 3 → g' v < 8 := fun v hv => te_pk_lt hW hk' hv
    refine ty_ready hW hpo hp hq f hf (fun t a1 a2 a3 a4 => ?_) (fun a => ?_)
    · have hl := te_o_lt hW hpo a2 a3
      have ho' : te_o P (p ++ [t]) := (te_o_snoc P p t).mpr ⟨hpo, a2, a3⟩
      have cl : (nI p.length).toNatClampNeg = p.length := nI_clamp (by omega)
      have hdn := te_y_down hW hpo a1 a2 a3 a4
      have hln : (p ++ [t]).length = p.length + 1 := by rw [List.length_append]; rfl
      rw [hde, cl]
      refine pk_le 3 t (fun c => absurd c (by omega)) (fun _ => pk_le 9 p.length (fun c => absurd c (by omega)) (fun _ => ⟨vp_in_nI (by omega) (by decide), nm_e (nm_r (nI_1 _) (nm_r (nI_1 i) ?_))⟩) rfl rfl (by omega) (by omega)) rfl rfl (by omega) (by omega)
      refine ih D (p ++ [t]) 0 (i + 1) ho' (by omega) (by omega) (by omega) ?_ (fun z => absurd rfl z) (nI (p.length + 1)) yru yki yso _ dn va he hn pl ywl you pk yen yea yke g' (by rw [hln]) ?_ hA hg' hg8' (te_vl_max hk' t ho' (fun v hv => rfl))
      · rw [hall, te_M_down hW hpo a1 a2 a3 a4]
      · refine te_snoc_get (te_upd_get (Nat.le_refl _) hro) pk_us
    · have hTK : te_TK P p f = 1 := te_TK_none a
      have h149 : ∀ (D' : List (List Nat)) (yru yki yso : Int32) (ywl you yen yea : Nat → Int32) (yke : Nat → Int64), te_all P = D' ++ te_Rs P p → te_YA P D' yru yki yso yke ywl you yen yea → te_pk P (D' ++ [p]) g' → wY_explore_149 post (wY_explore_74 post (d + 1)) (nI f) (nI i) yde yru yki yso ysz ywh yam yfi yro dn va he hn pl yke ywl you pk yen yea := by
        intro D' yru yki yso ywl you yen yea yke hall' hA' hk2
        refine ty_ex161 (P := P) (p := p) (by omega) hde hro (fun e => ?_) (fun p' t e => ?_)
        · subst e
          rw [te_Rs_nil, List.append_nil] at hall'
          rw [wY_explore_74]
          have hfin := h yde yru yki yso yro dn va he hn pl yke ywl you pk yen yea g' (by rw [hall']; exact hA') hg' (by rw [hall']; exact te_pk_sub hk2)
          exact br_c (fun _ => hfin) (fun _ => br_t rfl hfin)
        · subst e
          have ho2 := (te_o_snoc P p' t).mp hpo
          have hup := te_y_up (P := P) (p := p') (t := t) (f := f) a
          refine ih D' p' (t + 1) (i + 1) ho2.1 (by omega) (by omega) (by omega) ?_ (fun _ => te_not_stk.mpr ⟨t, ho2.2.1, ho2.2.2⟩) (nI p'.length) yru yki yso yro dn va he hn pl ywl you pk yen yea yke g' rfl (fun k x hx => ?_) hA' hg' hg8' (te_pk_mx (te_pk_pre hk2))
          · have e2 : te_M P p' (t + 1) = te_Kd P p' (t + 1) := if_neg (Nat.succ_ne_zero t)
            rw [hall', te_Rs_snoc, e2]
          · have hkl := (List.getElem?_eq_some_iff.mp hx).1
            refine hro k x ?_
            rw [List.getElem?_append_left hkl]; exact hx
      refine br_t (by decide) ?_
      unfold wY_explore_136
      refine ty_ready hW hpo hp hq 0 (by omega) (fun t a1 a2 a3 a4 => ?_) (fun a' => ?_)
      · have hne : ¬ nI t = 3 := fun z => by
          have := (nI_eq (a := t) (b := 3) (by omega) (by omega)).mp z
          omega
        refine br_f hne ?_
        have hf0 : f ≠ 0 := by
          intro z
          rw [a t (by omega) a2] at a3
          exact absurd a3 (by decide)
        have e : te_M P p f = [] := by
          have e2 : te_M P p f = te_Kd P p f := if_neg hf0
          rw [e2]; exact te_Kd_none a
        rw [e] at hall
        exact h149 D yru yki yso ywl you yen yea yke hall hA hk'
      · refine br_t rfl ?_
        have hs : te_stb P (te_q P p) = true := te_stb_t.mpr (fun t ht => a' t (Nat.zero_le _) ht)
        have hf0 : f = 0 := by
          by_cases z : f = 0
          · exact z
          · rw [hst z] at hs; exact absurd hs (by decide)
        have e : te_M P p f = [p] := by
          have e2 : te_M P p f = te_Lv P p := if_pos hf0
          rw [e2]; exact te_Lv_stk hs
        rw [e] at hall
        refine ty_notice hW hall hp hq hde hA (fun ru ki so ke wl ou en ea hA' => ?_)
        exact h149 (D ++ [p]) ru ki so wl ou en ea ke (by rw [hall, List.append_assoc]) hA' (te_pk_dup hk')
theorem ty_ex49 {P : te_P} (hW : te_W P) (hp : te_YP P ysz ywh yam yfi) (hpk : ∀ v, v < 3 → ypk v = 0) (hen : ∀ v, v < 3 → yen v = 0) {post : SY → Prop} (h : ∀ de ru ki so ro dn va he hn pl ke wl ou pk en ea g, te_YA P (te_all P) ru ki so ke wl ou en ea → te_AR 3 pk g → te_pk P (te_all P) g → post (de, ru, ki, so, ysz, ywh, yam, yfi, ro, dn, va, he, hn, pl, ke, wl, ou, pk, en, ea)) : ∀ d i, i + d = 81 → ∀ yea : Nat → Int32, (∀ l, l < i → yea l = 0) → wY_explore_49 post 0 0 0 0 (d + 1) (nI i) ysz ywh yam yfi yro ydo yva yhe yhn ypl yke ywl you ypk yen yea := by
  intro d
  induction d with
  | zero =>
    intro i hi yea hh
    rw [wY_explore_49]
    refine pk_le 81 i (fun _ => ⟨te_TK P [] 0 + te_Ts P [] + 1, ?_⟩) (fun c => absurd c (by omega)) rfl rfl (by omega) (by omega)
    have hT := te_TK_le hW
    refine ty_ex74 hW hp h _ [] [] 0 0 (te_o_nil P) (by omega) (by omega) (Nat.le_refl _) ?_ (fun z => absurd rfl z) 0 0 0 0 yro ydo yva yhe yhn ypl ywl you ypk yen yea yke (fun _ => 0) rfl (fun k x hx => absurd hx (by simp)) ⟨rfl, rfl, rfl, fun i q hq => absurd hq (by simp [te_E]), fun t ht => hen t ht, fun s hs u hu => ⟨fun ⟨q, hq, _⟩ => absurd hq List.not_mem_nil, fun _ => hh _ (by omega)⟩⟩ (fun v hv => hpk v hv) (fun v _ => by decide) ?_
    · have e : te_M P [] 0 = te_Lv P [] := if_pos rfl
      rw [te_Rs_nil, List.append_nil, e, te_all_Lv]; rfl
    · refine te_pk_congr (te_pk_ini P) (fun v hv => ?_)
      show (if 0 < te_ini P v then te_ini P v else 0) = te_ini P v
      by_cases c : 0 < te_ini P v
      · rw [if_pos c]
      · rw [if_neg c]; omega
  | succ d ih =>
    intro i hi yea hh
    rw [wY_explore_49]
    exact pk_le 81 i (fun c => absurd c (by omega)) (fun c => ⟨vp_in_nI c (by decide), nm_e (nm_r (nI_1 i) (ih (i + 1) (by omega) _ (te_ul (Q := fun l x => x = 0) (by omega) hh te_nb0)))⟩) rfl rfl (by omega) (by omega)
theorem ty_ex22 {P : te_P} (hW : te_W P) (hp : te_YP P ysz ywh yam yfi) {post : SY → Prop} (h : ∀ de ru ki so ro dn va he hn pl ke wl ou pk en ea g, te_YA P (te_all P) ru ki so ke wl ou en ea → te_AR 3 pk g → te_pk P (te_all P) g → post (de, ru, ki, so, ysz, ywh, yam, yfi, ro, dn, va, he, hn, pl, ke, wl, ou, pk, en, ea)) : ∀ d i, i + d = 3 → ∀ ypk yen : Nat → Int32, (∀ l, l < i → ypk l = 0) → (∀ l, l < i → yen l = 0) → wY_explore_22 post 0 0 0 0 (d + 1) (nI i) ysz ywh yam yfi yro ydo yva yhe yhn ypl yke ywl you ypk yen yea := by
  intro d
  induction d with
  | zero =>
    intro i hi ypk yen h1 h2
    rw [wY_explore_22]
    exact pk_le 3 i (fun _ => ⟨81 + 1, ty_ex49 hW hp (fun v hv => h1 v (by omega)) (fun v hv => h2 v (by omega)) h 81 0 rfl yea (fun l hl => absurd hl (by omega))⟩) (fun c => absurd c (by omega)) rfl rfl (by omega) (by omega)
  | succ d ih =>
    intro i hi ypk yen h1 h2
    rw [wY_explore_22]
    exact pk_le 3 i (fun c => absurd c (by omega)) (fun c => ⟨vp_in_nI c (by decide), nm_e ⟨vp_in_nI c (by decide), nm_e (nm_r (nI_1 i) (ih (i + 1) (by omega) _ _ (te_ul (Q := fun l x => x = 0) (by omega) h1 rfl) (te_ul (Q := fun l x => x = 0) (by omega) h2 rfl)))⟩⟩) rfl rfl (by omega) (by omega)
theorem ty_explore {P : te_P} (hW : te_W P) (hp : te_YP P ysz ywh yam yfi) {post : SY → Prop} (h : ∀ de ru ki so ro dn va he hn pl ke wl ou pk en ea g, te_YA P (te_all P) ru ki so ke wl ou en ea → te_AR 3 pk g → te_pk P (te_all P) g → post (de, ru, ki, so, ysz, ywh, yam, yfi, ro, dn, va, he, hn, pl, ke, wl, ou, pk, en, ea)) : wpY_explore post (yde, yru, yki, yso, ysz, ywh, yam, yfi, yro, ydo, yva, yhe, yhn, ypl, yke, ywl, you, ypk, yen, yea) := by
  unfold wpY_explore
  dsimp only
  exact ⟨3 + 1, ty_ex22 hW hp h 3 0 rfl ypk yen (fun l hl => absurd hl (by omega)) (fun l hl => absurd hl (by omega))⟩
end
end
section
/-! the relation; the questions -/
def i_Rel (k : Nat) (u : SX) (v : SY) : Prop := match u, v with
  | (xle, xbr, xbt, xrc, xkc, xsk, xsh, xsc, xop, xpl, xod, xiv, xcu, xac, xho, xta, xro, xtu, xck, xgr, xes, xls), (yde, yru, yki, yso, ysz, ywh, yam, yfi, yro, ydo, yva, yhe, yhn, ypl, yke, ywl, you, ypk, yen, yea) => ∃ P : te_P, te_W P ∧ te_XP P xsc xop xpl xod xiv ∧ te_YP P ysz ywh yam yfi ∧ te_XA P (te_all P) xrc xkc xsk xsh xck xes xls ∧ ∃ g : Nat → Nat, te_AR 3 xgr g ∧ te_pk P (te_all P) g
theorem i_up {k : Nat} {u : SX} {v : SY} (h : i_Rel k u v) : i_Rel (k + 4) u v := h
theorem tz_thr_b {x : Int32} (hb : x < 0 ∨ nI 3 ≤ x) {post : Int32 → Prop} (h : post 0) : wpX_isThread post x := by
  unfold wpX_isThread
  by_cases c : x < 0
  · exact br_t c h
  · exact br_f c (br_t (hb.resolve_left c) h)
theorem tz_thr_g {j : Nat} (hj : j < 3) {post : Int32 → Prop} (h : post 1) : wpX_isThread post (nI j) := by
  unfold wpX_isThread
  exact br_f (nI_pos (by omega)) (br_f (nI_ge (b := 3) hj (by decide)) h)
theorem tz_var_b {x : Int32} (hb : x < 0 ∨ nI 3 ≤ x) {post : Int32 → Prop} (h : post 0) : wpX_isVariable post x := by
  unfold wpX_isVariable
  by_cases c : x < 0
  · exact br_t c h
  · exact br_f c (br_t (hb.resolve_left c) h)
theorem tz_var_g {j : Nat} (hj : j < 3) {post : Int32 → Prop} (h : post 1) : wpX_isVariable post (nI j) := by
  unfold wpX_isVariable
  exact br_f (nI_pos (by omega)) (br_f (nI_ge (b := 3) hj (by decide)) h)
theorem tz_val_b {x : Int32} (hb : x < 0 ∨ nI 8 ≤ x) {post : Int32 → Prop} (h : post 0) : wpX_isValue post x := by
  unfold wpX_isValue
  by_cases c : x < 0
  · exact br_t c h
  · exact br_f c (br_t (hb.resolve_left c) h)
theorem tz_val_g {j : Nat} (hj : j < 8) {post : Int32 → Prop} (h : post 1) : wpX_isValue post (nI j) := by
  unfold wpX_isValue
  exact br_f (nI_pos (by omega)) (br_f (nI_ge (b := 8) hj (by decide)) h)
theorem tz_num_b {x : Int32} (hb : x < 0 ∨ nI 12 ≤ x) {post : Int32 → Prop} (h : post 0) : wpX_isNumber post x := by
  unfold wpX_isNumber
  by_cases c : x < 0
  · exact br_t c h
  · exact br_f c (br_t (hb.resolve_left c) h)
theorem tz_num_g {j : Nat} (hj : j < 12) {post : Int32 → Prop} (h : post 1) : wpX_isNumber post (nI j) := by
  unfold wpX_isNumber
  exact br_f (nI_pos (by omega)) (br_f (nI_ge (b := 12) hj (by decide)) h)
theorem tz_gt {x : Int32} {a b : Int32} (hab : a < b) (hb : b ≤ x) : ¬ x ≤ a := Int32.not_le.mpr (Int32.lt_of_lt_of_le hab hb)
theorem tz_ix (x : Int32) {n : Nat} (hn : n < 2 ^ 31) : (x < 0 ∨ nI n ≤ x) ∨ ∃ j : Nat, j < n ∧ x = nI j := by
  rcases pk_ix x hn with h | h | h
  · exact Or.inl (Or.inl h)
  · exact Or.inl (Or.inr h)
  · exact Or.inr h
section
variable {xle xbr xbt xrc xkc xsk xsh : Int32} {xsc xop xpl xod xiv xcu xac xho xta xro xtu xck xgr xes xls : Nat → Int32}
variable {yde yru yki yso : Int32} {ysz ywh yam yfi yro ydo yva yhe yhn ypl ywl you ypk yen yea : Nat → Int32} {yke : Nat → Int64}
theorem tz_bad_b {x : Int32} (hb : x < 0 ∨ nI 3 ≤ x) {post : Int32 → Prop} (h : post 1) : wpY_bad post (yde, yru, yki, yso, ysz, ywh, yam, yfi, yro, ydo, yva, yhe, yhn, ypl, yke, ywl, you, ypk, yen, yea) x := by
  unfold wpY_bad
  dsimp only
  by_cases c : x < 0
  · exact br_t c h
  · exact br_f c (br_f (tz_gt (b := nI 3) (by decide) (hb.resolve_left c)) h)
theorem tz_bad_g {j : Nat} (hj : j < 3) {post : Int32 → Prop} (h : post 0) : wpY_bad post (yde, yru, yki, yso, ysz, ywh, yam, yfi, yro, ydo, yva, yhe, yhn, ypl, yke, ywl, you, ypk, yen, yea) (nI j) := by
  unfold wpY_bad
  dsimp only
  exact br_f (nI_pos (by omega)) (br_t (nI_le (b := 2) (by omega) (by decide)) h)
theorem tz_steps {P : te_P} (hx : te_XP P xsc xop xpl xod xiv) (hy : te_YP P ysz ywh yam yfi) (v1 : Int32) {Q : Prop} (hQ : Q) : wpX_steps (fun r => wpY_steps (fun r' => r' = r ∧ Q) (yde, yru, yki, yso, ysz, ywh, yam, yfi, yro, ydo, yva, yhe, yhn, ypl, yke, ywl, you, ypk, yen, yea) v1) (xle, xbr, xbt, xrc, xkc, xsk, xsh, xsc, xop, xpl, xod, xiv, xcu, xac, xho, xta, xro, xtu, xck, xgr, xes, xls) v1 := by
  unfold wpX_steps wpY_steps
  dsimp only
  rcases tz_ix v1 (n := 3) (by decide) with hb | ⟨j, hj, rfl⟩
  · exact tz_thr_b hb (br_t rfl (tz_bad_b hb (br_f (by decide) ⟨rfl, hQ⟩)))
  · have hi : vp_in (nI j) 3 := vp_in_nI hj (by decide)
    have cj : (nI j).toNatClampNeg = j := nI_clamp (by omega)
    refine tz_thr_g hj (br_f (by decide) ⟨hi, tz_bad_g hj (br_t rfl ⟨hi, ?_, hQ⟩)⟩)
    rw [cj, hx.1 j hj, hy.1 j hj]
/-- counting the entries -/
def te_cn (E : List (List Nat)) (f : List Nat → Bool) (i : Nat) : Nat := ((E.take i).filter f).length
theorem te_cn_succ {E : List (List Nat)} {f : List Nat → Bool} {i : Nat} {q : List Nat} (h : E[i]? = some q) : te_cn E f (i + 1) = te_cn E f i + (if f q = true then 1 else 0) := by
  unfold te_cn
  rw [List.take_add_one, h, List.filter_append, List.length_append]
  show _ + (List.filter f [q]).length = _
  by_cases c : f q = true
  · rw [if_pos c, List.filter_cons_of_pos c]; rfl
  · rw [if_neg c, List.filter_cons_of_neg c]; rfl
theorem te_cn_end (E : List (List Nat)) (f : List Nat → Bool) : te_cn E f E.length = (E.filter f).length := by
  unfold te_cn
  rw [List.take_length]
theorem te_cn_le (E : List (List Nat)) (f : List Nat → Bool) (i : Nat) : te_cn E f i ≤ E.length := by
  unfold te_cn
  refine Nat.le_trans (List.length_filter_le _ _) ?_
  rw [List.length_take]
  omega
theorem ty_sk8 {P : te_P} {E : List (List Nat)} (hE : E.length ≤ 1680) (hki : yki = nI E.length) (hwl : ∀ i q, E[i]? = some q → ywl i = (if te_cm P q = true then 1 else 0)) {post : Int32 → SY → Prop} (h : post (nI (E.filter (te_fn P)).length) (yde, yru, yki, yso, ysz, ywh, yam, yfi, yro, ydo, yva, yhe, yhn, ypl, yke, ywl, you, ypk, yen, yea)) : ∀ d i, i + d = E.length → wY_stuckKinds_8 post yde yru yki yso ysz ywh yam yfi yro ydo yva yhe yhn ypl yke ywl you ypk yen yea (d + 1) (nI (te_cn E (te_fn P) i)) (nI i) := by
  intro d
  induction d with
  | zero =>
    intro i hi
    have e : i = E.length := by omega
    rw [wY_stuckKinds_8]
    refine pk_le _ _ (fun _ => ?_) (fun c => absurd c (by omega)) hki rfl (by omega) (by omega)
    rw [e, te_cn_end]; exact h
  | succ d ih =>
    intro i hi
    have ci : (nI i).toNatClampNeg = i := nI_clamp (by omega)
    obtain ⟨q, hq⟩ : ∃ q, E[i]? = some q := ⟨_, List.getElem?_eq_getElem (show i < E.length by omega)⟩
    have hn := ih (i + 1) (by omega)
    rw [te_cn_succ hq] at hn
    rw [wY_stuckKinds_8]
    dsimp only
    rw [ci, hwl i q hq]
    refine pk_le _ _ (fun c => absurd c (by omega)) (fun _ => ⟨vp_in_nI (by omega) (by decide), ?_⟩) hki rfl (by omega) (by omega)
    by_cases c : te_cm P q = true
    · have f : ¬ te_fn P q = true := by unfold te_fn; rw [c]; decide
      rw [if_neg f] at hn
      rw [if_pos c]
      exact br_f (by decide) (nm_r (nI_1 i) hn)
    · have f : te_fn P q = true := by unfold te_fn; rw [Bool.eq_false_iff.mpr c]; rfl
      rw [if_pos f] at hn
      rw [if_neg c]
      exact br_t rfl (nm_r (nI_1 _) (nm_r (nI_1 i) hn))
theorem ty_many4 {P : te_P} {E : List (List Nat)} (hE : E.length ≤ 1680) (hki : yki = nI E.length) (hwl : ∀ i q, E[i]? = some q → ywl i = (if te_cm P q = true then 1 else 0) ∧ you i = nI (te_rs P q) ∧ te_rs P q < 512) {r0 : Nat} (hr0 : r0 < 512) {post : Int32 → Prop} (h : post (nI (E.filter (te_fr P r0)).length)) : ∀ d i, i + d = E.length → wY_many_4 post (nI r0) yde yru yki yso ysz ywh yam yfi yro ydo yva yhe yhn ypl yke ywl you ypk yen yea (d + 1) (nI (te_cn E (te_fr P r0) i)) (nI i) := by
  intro d
  induction d with
  | zero =>
    intro i hi
    have e : i = E.length := by omega
    rw [wY_many_4]
    refine pk_le _ _ (fun _ => ?_) (fun c => absurd c (by omega)) hki rfl (by omega) (by omega)
    rw [e, te_cn_end]; exact h
  | succ d ih =>
    intro i hi
    have ci : (nI i).toNatClampNeg = i := nI_clamp (by omega)
    obtain ⟨q, hq⟩ : ∃ q, E[i]? = some q := ⟨_, List.getElem?_eq_getElem (show i < E.length by omega)⟩
    obtain ⟨w1, w2, w3⟩ := hwl i q hq
    have hi17 : vp_in (nI i) 1700 := vp_in_nI (by omega) (by decide)
    have hn := ih (i + 1) (by omega)
    rw [te_cn_succ hq] at hn
    rw [wY_many_4]
    dsimp only
    rw [ci, w1, w2]
    refine pk_le _ _ (fun c => absurd c (by omega)) (fun _ => pk_le 1700 i (fun c => absurd c (by omega)) (fun _ => ⟨hi17, ?_⟩) rfl rfl (by omega) (by omega)) hki rfl (by omega) (by omega)
    by_cases c : te_cm P q = true
    · rw [if_pos c]
      refine br_f (by decide) ⟨hi17, pk_eq _ _ (fun c2 => ?_) (fun c2 => ?_) rfl rfl (by omega) (by omega)⟩
      · have f : te_fr P r0 q = true := by unfold te_fr; rw [c, decide_eq_true c2]; rfl
        rw [if_pos f] at hn
        exact nm_r (nI_1 _) (nm_r (nI_1 i) hn)
      · have f : ¬ te_fr P r0 q = true := by unfold te_fr; rw [c, decide_eq_false c2]; decide
        rw [if_neg f] at hn
        exact nm_r (nI_1 i) hn
    · have f : ¬ te_fr P r0 q = true := by unfold te_fr; rw [Bool.eq_false_iff.mpr c]; exact Bool.false_ne_true
      rw [if_neg f] at hn
      rw [if_neg c]
      exact br_t rfl (nm_r (nI_1 i) hn)
theorem ty_many {P : te_P} (hW : te_W P) (hA : te_YA P (te_all P) yru yki yso yke ywl you yen yea) {r0 : Nat} (hr0 : r0 < 512) {post : Int32 → Prop} (h : post (nI (te_ct P (te_all P) (te_fr P r0)))) : wpY_many post (yde, yru, yki, yso, ysz, ywh, yam, yfi, yro, ydo, yva, yhe, yhn, ypl, yke, ywl, you, ypk, yen, yea) (nI r0) := by
  obtain ⟨A1, A2, A3, A4, A5, A6⟩ := hA
  have hl := te_all_len hW
  have hE := te_E_len_le P (te_all P)
  unfold wpY_many
  dsimp only
  refine ⟨(te_E P (te_all P)).length + 1, ?_⟩
  refine ty_many4 (P := P) (E := te_E P (te_all P)) (by omega) A2 (fun i q hq => ⟨(A4 i q hq).2.1, (A4 i q hq).2.2, ?_⟩) hr0 h (te_E P (te_all P)).length 0 (by omega)
  have hm := (List.mem_filter.mp (List.mem_iff_getElem?.mpr ⟨i, hq⟩)).1
  exact te_rs_lt hW ((te_all_mem hW q).mp hm).1
noncomputable def te_rc (P : te_P) : Nat → Nat
  | 0 => 0
  | n + 1 => te_rc P n + (if te_ct P (te_all P) (te_fr P n) = 0 then 0 else 1)
theorem te_le0 {n : Nat} (hn : n < 2 ^ 31) : nI n ≤ 0 ↔ n = 0 := by
  have := nI_leI (a := n) (b := 0) hn (by decide)
  rw [nI_0] at this
  rw [this]; omega
theorem tx_res4 {P : te_P} (hW : te_W P) (hck : ∀ i, i < 512 → xck i = nI (te_ct P (te_all P) (te_fr P i))) {post : Int32 → Prop} (h : post (nI (te_rc P 512))) : ∀ d i, i + d = 512 → wX_results_4 post xle xbr xbt xrc xkc xsk xsh xsc xop xpl xod xiv xcu xac xho xta xro xtu xck xgr xes xls (d + 1) (nI (te_rc P i)) (nI i) := by
  have hl := te_all_len hW
  intro d
  induction d with
  | zero =>
    intro i hi
    have e : i = 512 := by omega
    subst e
    rw [wX_results_4]
    exact pk_le 512 512 (fun _ => h) (fun c => absurd c (by omega)) rfl rfl (by omega) (by omega)
  | succ d ih =>
    intro i hi
    have ci : (nI i).toNatClampNeg = i := nI_clamp (by omega)
    have hn := ih (i + 1) (by omega)
    have hc := te_ct_le P (te_all P) (te_fr P i)
    have hrc : te_rc P (i + 1) = te_rc P i + (if te_ct P (te_all P) (te_fr P i) = 0 then 0 else 1) := rfl
    rw [hrc] at hn
    rw [wX_results_4]
    dsimp only
    rw [ci, hck i (by omega)]
    refine pk_le 512 i (fun c => absurd c (by omega)) (fun _ => ⟨vp_in_nI (by omega) (by decide), ?_⟩) rfl rfl (by omega) (by omega)
    by_cases c : te_ct P (te_all P) (te_fr P i) = 0
    · rw [if_pos c] at hn
      exact br_t ((te_le0 (by omega)).mpr c) (nm_r (nI_1 i) hn)
    · rw [if_neg c] at hn
      exact br_f (fun z => c ((te_le0 (by omega)).mp z)) (nm_r (nI_1 _) (nm_r (nI_1 i) hn))
theorem ty_res8 {P : te_P} (hW : te_W P) (hA : te_YA P (te_all P) yru yki yso yke ywl you yen yea) {post : Int32 → SY → Prop} (h : post (nI (te_rc P 512)) (yde, yru, yki, yso, ysz, ywh, yam, yfi, yro, ydo, yva, yhe, yhn, ypl, yke, ywl, you, ypk, yen, yea)) : ∀ d i, i + d = 512 → wY_results_8 post yde yru yki yso ysz ywh yam yfi yro ydo yva yhe yhn ypl yke ywl you ypk yen yea (d + 1) (nI (te_rc P i)) (nI i) := by
  have hl := te_all_len hW
  intro d
  induction d with
  | zero =>
    intro i hi
    have e : i = 512 := by omega
    subst e
    rw [wY_results_8]
    exact pk_le 512 512 (fun _ => h) (fun c => absurd c (by omega)) rfl rfl (by omega) (by omega)
  | succ d ih =>
    intro i hi
    have hn := ih (i + 1) (by omega)
    have hc := te_ct_le P (te_all P) (te_fr P i)
    have hrc : te_rc P (i + 1) = te_rc P i + (if te_ct P (te_all P) (te_fr P i) = 0 then 0 else 1) := rfl
    rw [hrc] at hn
    rw [wY_results_8]
    refine pk_le 512 i (fun c => absurd c (by omega)) (fun _ => ty_many hW hA (by omega) ?_) rfl rfl (by omega) (by omega)
    by_cases c : te_ct P (te_all P) (te_fr P i) = 0
    · rw [if_pos c] at hn
      exact br_t ((te_le0 (by omega)).mpr c) (nm_r (nI_1 i) hn)
    · rw [if_neg c] at hn
      exact br_f (fun z => c ((te_le0 (by omega)).mp z)) (nm_r (nI_1 _) (nm_r (nI_1 i) hn))
noncomputable def te_nr (P : te_P) (a : Int32) : Nat → Nat → Int32
  | 0, _ => -1
  | d + 1, i => if nI i ≤ a then te_nr P a d (i + 1) else if te_ct P (te_all P) (te_fr P i) = 0 then te_nr P a d (i + 1) else nI i
theorem tx_nr2 {P : te_P} (hW : te_W P) (hck : ∀ i, i < 512 → xck i = nI (te_ct P (te_all P) (te_fr P i))) {a : Int32} {post : Int32 → Prop} : ∀ d i, i + d = 512 → post (te_nr P a d i) → wX_nextResult_2 post a xle xbr xbt xrc xkc xsk xsh xsc xop xpl xod xiv xcu xac xho xta xro xtu xck xgr xes xls (d + 1) (nI i) := by
  have hl := te_all_len hW
  intro d
  induction d with
  | zero =>
    intro i hi h
    rw [wX_nextResult_2]
    exact pk_le 512 i (fun _ => h) (fun c => absurd c (by omega)) rfl rfl (by omega) (by omega)
  | succ d ih =>
    intro i hi h
    have ci : (nI i).toNatClampNeg = i := nI_clamp (by omega)
    have hc := te_ct_le P (te_all P) (te_fr P i)
    rw [te_nr] at h
    rw [wX_nextResult_2]
    dsimp only
    rw [ci, hck i (by omega)]
    refine pk_le 512 i (fun c => absurd c (by omega)) (fun _ => ?_) rfl rfl (by omega) (by omega)
    by_cases c : nI i ≤ a
    · rw [if_pos c] at h
      exact br_t c (nm_r (nI_1 i) (ih (i + 1) (by omega) h))
    · rw [if_neg c] at h
      refine br_f c ⟨vp_in_nI (by omega) (by decide), ?_⟩
      by_cases c2 : te_ct P (te_all P) (te_fr P i) = 0
      · rw [if_pos c2] at h
        exact br_t ((te_le0 (by omega)).mpr c2) (nm_r (nI_1 i) (ih (i + 1) (by omega) h))
      · rw [if_neg c2] at h
        exact br_f (fun z => c2 ((te_le0 (by omega)).mp z)) h
theorem ty_nr6 {P : te_P} (hW : te_W P) (hA : te_YA P (te_all P) yru yki yso yke ywl you yen yea) {a : Int32} {post : Int32 → SY → Prop} : ∀ d i, i + d = 512 → post (te_nr P a d i) (yde, yru, yki, yso, ysz, ywh, yam, yfi, yro, ydo, yva, yhe, yhn, ypl, yke, ywl, you, ypk, yen, yea) → wY_nextResult_6 post a yde yru yki yso ysz ywh yam yfi yro ydo yva yhe yhn ypl yke ywl you ypk yen yea (d + 1) (nI i) := by
  have hl := te_all_len hW
  intro d
  induction d with
  | zero =>
    intro i hi h
    rw [wY_nextResult_6]
    exact pk_le 512 i (fun _ => h) (fun c => absurd c (by omega)) rfl rfl (by omega) (by omega)
  | succ d ih =>
    intro i hi h
    have hc := te_ct_le P (te_all P) (te_fr P i)
    rw [te_nr] at h
    rw [wY_nextResult_6]
    refine pk_le 512 i (fun c => absurd c (by omega)) (fun _ => ?_) rfl rfl (by omega) (by omega)
    by_cases c : nI i ≤ a
    · rw [if_pos c] at h
      exact br_t c (nm_r (nI_1 i) (ih (i + 1) (by omega) h))
    · rw [if_neg c] at h
      refine br_f c (ty_many hW hA (by omega) ?_)
      by_cases c2 : te_ct P (te_all P) (te_fr P i) = 0
      · rw [if_pos c2] at h
        exact br_t ((te_le0 (by omega)).mpr c2) (nm_r (nI_1 i) (ih (i + 1) (by omega) h))
      · rw [if_neg c2] at h
        exact br_f (fun z => c2 ((te_le0 (by omega)).mp z)) h
end
end
section
/-! what is owed: the questions -/
theorem i_vc_steps {k : Nat} {u : SX} {v : SY} (I : i_Rel k u v) (hk : k + 4 ≤ 2048) (v1 : Int32) : wpX_steps (fun r => wpY_steps (fun r' => r' = r ∧ i_Rel (k + 4) u v) v v1) u v1 := by
  obtain ⟨xle, xbr, xbt, xrc, xkc, xsk, xsh, xsc, xop, xpl, xod, xiv, xcu, xac, xho, xta, xro, xtu, xck, xgr, xes, xls⟩ := u
  obtain ⟨yde, yru, yki, yso, ysz, ywh, yam, yfi, yro, ydo, yva, yhe, yhn, ypl, yke, ywl, you, ypk, yen, yea⟩ := v
  obtain ⟨P, hW, hx, hy, hA, g, hg, hk⟩ := I
  exact tz_steps hx hy v1 ⟨P, hW, hx, hy, hA, g, hg, hk⟩
theorem i_vc_runs {k : Nat} {u : SX} {v : SY} (I : i_Rel k u v) (hk : k + 4 ≤ 2048) : wpX_runs (fun r => wpY_runs (fun r' v' => r' = r ∧ i_Rel (k + 4) u v') v) u := by
  obtain ⟨xle, xbr, xbt, xrc, xkc, xsk, xsh, xsc, xop, xpl, xod, xiv, xcu, xac, xho, xta, xro, xtu, xck, xgr, xes, xls⟩ := u
  obtain ⟨yde, yru, yki, yso, ysz, ywh, yam, yfi, yro, ydo, yva, yhe, yhn, ypl, yke, ywl, you, ypk, yen, yea⟩ := v
  obtain ⟨P, hW, hx, hy, hA, g, hg, hk⟩ := I
  unfold wpX_runs wpY_runs
  dsimp only
  refine ty_explore hW hy (fun de ru ki so ro dn va he hn pl ke wl ou pk en ea g' hA' hg' hk' => ?_)
  exact ⟨(hA'.1).trans (hA.1).symm, ⟨P, hW, hx, hy, hA, g, hg, hk⟩⟩
theorem i_vc_kinds {k : Nat} {u : SX} {v : SY} (I : i_Rel k u v) (hk : k + 4 ≤ 2048) : wpX_kinds (fun r => wpY_kinds (fun r' v' => r' = r ∧ i_Rel (k + 4) u v') v) u := by
  obtain ⟨xle, xbr, xbt, xrc, xkc, xsk, xsh, xsc, xop, xpl, xod, xiv, xcu, xac, xho, xta, xro, xtu, xck, xgr, xes, xls⟩ := u
  obtain ⟨yde, yru, yki, yso, ysz, ywh, yam, yfi, yro, ydo, yva, yhe, yhn, ypl, yke, ywl, you, ypk, yen, yea⟩ := v
  obtain ⟨P, hW, hx, hy, hA, g, hg, hk⟩ := I
  unfold wpX_kinds wpY_kinds
  dsimp only
  refine ty_explore hW hy (fun de ru ki so ro dn va he hn pl ke wl ou pk en ea g' hA' hg' hk' => ?_)
  exact ⟨(hA'.2.1).trans (hA.2.1).symm, ⟨P, hW, hx, hy, hA, g, hg, hk⟩⟩
theorem i_vc_shortestStuck {k : Nat} {u : SX} {v : SY} (I : i_Rel k u v) (hk : k + 4 ≤ 2048) : wpX_shortestStuck (fun r => wpY_shortestStuck (fun r' v' => r' = r ∧ i_Rel (k + 4) u v') v) u := by
  obtain ⟨xle, xbr, xbt, xrc, xkc, xsk, xsh, xsc, xop, xpl, xod, xiv, xcu, xac, xho, xta, xro, xtu, xck, xgr, xes, xls⟩ := u
  obtain ⟨yde, yru, yki, yso, ysz, ywh, yam, yfi, yro, ydo, yva, yhe, yhn, ypl, yke, ywl, you, ypk, yen, yea⟩ := v
  obtain ⟨P, hW, hx, hy, hA, g, hg, hk⟩ := I
  unfold wpX_shortestStuck wpY_shortestStuck
  dsimp only
  refine ty_explore hW hy (fun de ru ki so ro dn va he hn pl ke wl ou pk en ea g' hA' hg' hk' => ?_)
  exact ⟨(hA'.2.2.1).trans (hA.2.2.2.1).symm, ⟨P, hW, hx, hy, hA, g, hg, hk⟩⟩
theorem i_vc_stuckKinds {k : Nat} {u : SX} {v : SY} (I : i_Rel k u v) (hk : k + 4 ≤ 2048) : wpX_stuckKinds (fun r => wpY_stuckKinds (fun r' v' => r' = r ∧ i_Rel (k + 4) u v') v) u := by
  obtain ⟨xle, xbr, xbt, xrc, xkc, xsk, xsh, xsc, xop, xpl, xod, xiv, xcu, xac, xho, xta, xro, xtu, xck, xgr, xes, xls⟩ := u
  obtain ⟨yde, yru, yki, yso, ysz, ywh, yam, yfi, yro, ydo, yva, yhe, yhn, ypl, yke, ywl, you, ypk, yen, yea⟩ := v
  obtain ⟨P, hW, hx, hy, hA, g, hg, hk⟩ := I
  have hl := te_all_len hW
  have hE := te_E_len_le P (te_all P)
  unfold wpX_stuckKinds wpY_stuckKinds
  dsimp only
  refine ty_explore hW hy (fun de ru ki so ro dn va he hn pl ke wl ou pk en ea g' hA' hg' hk' => ⟨(te_E P (te_all P)).length + 1, ?_⟩)
  refine ty_sk8 (P := P) (E := te_E P (te_all P)) (by omega) hA'.2.1 (fun i q hq => (hA'.2.2.2.1 i q hq).2.1) ?_ (te_E P (te_all P)).length 0 (by omega)
  exact ⟨hA.2.2.1.symm, ⟨P, hW, hx, hy, hA, g, hg, hk⟩⟩
theorem i_vc_results {k : Nat} {u : SX} {v : SY} (I : i_Rel k u v) (hk : k + 4 ≤ 2048) : wpX_results (fun r => wpY_results (fun r' v' => r' = r ∧ i_Rel (k + 4) u v') v) u := by
  obtain ⟨xle, xbr, xbt, xrc, xkc, xsk, xsh, xsc, xop, xpl, xod, xiv, xcu, xac, xho, xta, xro, xtu, xck, xgr, xes, xls⟩ := u
  obtain ⟨yde, yru, yki, yso, ysz, ywh, yam, yfi, yro, ydo, yva, yhe, yhn, ypl, yke, ywl, you, ypk, yen, yea⟩ := v
  obtain ⟨P, hW, hx, hy, hA, g, hg, hk⟩ := I
  unfold wpX_results wpY_results
  dsimp only
  refine ⟨512 + 1, tx_res4 hW hA.2.2.2.2.1 ?_ 512 0 rfl⟩
  refine ty_explore hW hy (fun de ru ki so ro dn va he hn pl ke wl ou pk en ea g' hA' hg' hk' => ⟨512 + 1, ?_⟩)
  exact ty_res8 hW hA' ⟨rfl, ⟨P, hW, hx, hy, hA, g, hg, hk⟩⟩ 512 0 rfl
theorem i_vc_nextResult {k : Nat} {u : SX} {v : SY} (I : i_Rel k u v) (hk : k + 4 ≤ 2048) (v1 : Int32) : wpX_nextResult (fun r => wpY_nextResult (fun r' v' => r' = r ∧ i_Rel (k + 4) u v') v v1) u v1 := by
  obtain ⟨xle, xbr, xbt, xrc, xkc, xsk, xsh, xsc, xop, xpl, xod, xiv, xcu, xac, xho, xta, xro, xtu, xck, xgr, xes, xls⟩ := u
  obtain ⟨yde, yru, yki, yso, ysz, ywh, yam, yfi, yro, ydo, yva, yhe, yhn, ypl, yke, ywl, you, ypk, yen, yea⟩ := v
  obtain ⟨P, hW, hx, hy, hA, g, hg, hk⟩ := I
  unfold wpX_nextResult wpY_nextResult
  dsimp only
  refine ⟨512 + 1, tx_nr2 hW hA.2.2.2.2.1 512 0 rfl ?_⟩
  refine ty_explore hW hy (fun de ru ki so ro dn va he hn pl ke wl ou pk en ea g' hA' hg' hk' => ⟨512 + 1, ?_⟩)
  exact ty_nr6 hW hA' 512 0 rfl ⟨rfl, ⟨P, hW, hx, hy, hA, g, hg, hk⟩⟩
theorem i_vc_kindsOf {k : Nat} {u : SX} {v : SY} (I : i_Rel k u v) (hk : k + 4 ≤ 2048) (v1 : Int32) : wpX_kindsOf (fun r => wpY_kindsOf (fun r' v' => r' = r ∧ i_Rel (k + 4) u v') v v1) u v1 := by
  obtain ⟨xle, xbr, xbt, xrc, xkc, xsk, xsh, xsc, xop, xpl, xod, xiv, xcu, xac, xho, xta, xro, xtu, xck, xgr, xes, xls⟩ := u
  obtain ⟨yde, yru, yki, yso, ysz, ywh, yam, yfi, yro, ydo, yva, yhe, yhn, ypl, yke, ywl, you, ypk, yen, yea⟩ := v
  obtain ⟨P, hW, hx, hy, hA, g, hg, hk⟩ := I
  unfold wpX_kindsOf wpY_kindsOf
  dsimp only
  by_cases c : v1 < 0
  · exact br_t c (br_t c ⟨rfl, ⟨P, hW, hx, hy, hA, g, hg, hk⟩⟩)
  · rcases tz_ix v1 (n := 512) (by decide) with hb | ⟨j, hj, rfl⟩
    · have hb' := hb.resolve_left c
      exact br_f c (br_t hb' (br_f c (br_f (tz_gt (b := nI 512) (by decide) hb') ⟨rfl, ⟨P, hW, hx, hy, hA, g, hg, hk⟩⟩)))
    · have cj : (nI j).toNatClampNeg = j := nI_clamp (by omega)
      refine br_f c (br_f (nI_ge (b := 512) hj (by decide)) ⟨vp_in_nI hj (by decide), br_f c (br_t (nI_le (b := 511) (by omega) (by decide)) ?_)⟩)
      refine ty_explore hW hy (fun de ru ki so ro dn va he hn pl ke wl ou pk en ea g' hA' hg' hk' => ?_)
      refine ty_many hW hA' hj ⟨?_, ⟨P, hW, hx, hy, hA, g, hg, hk⟩⟩
      rw [cj, hA.2.2.2.2.1 j hj]
theorem i_vc_peak {k : Nat} {u : SX} {v : SY} (I : i_Rel k u v) (hk : k + 4 ≤ 2048) (v1 : Int32) : wpX_peak (fun r => wpY_peak (fun r' v' => r' = r ∧ i_Rel (k + 4) u v') v v1) u v1 := by
  obtain ⟨xle, xbr, xbt, xrc, xkc, xsk, xsh, xsc, xop, xpl, xod, xiv, xcu, xac, xho, xta, xro, xtu, xck, xgr, xes, xls⟩ := u
  obtain ⟨yde, yru, yki, yso, ysz, ywh, yam, yfi, yro, ydo, yva, yhe, yhn, ypl, yke, ywl, you, ypk, yen, yea⟩ := v
  obtain ⟨P, hW, hx, hy, hA, g, hg, hk⟩ := I
  unfold wpX_peak wpY_peak
  dsimp only
  rcases tz_ix v1 (n := 3) (by decide) with hb | ⟨j, hj, rfl⟩
  · exact tz_var_b hb (br_t rfl (tz_bad_b hb (br_f (by decide) ⟨rfl, ⟨P, hW, hx, hy, hA, g, hg, hk⟩⟩)))
  · have hi : vp_in (nI j) 3 := vp_in_nI hj (by decide)
    have cj : (nI j).toNatClampNeg = j := nI_clamp (by omega)
    refine tz_var_g hj (br_f (by decide) ⟨hi, tz_bad_g hj (br_t rfl ?_)⟩)
    refine ty_explore hW hy (fun de ru ki so ro dn va he hn pl ke wl ou pk en ea g' hA' hg' hk' => ⟨hi, ?_, ⟨P, hW, hx, hy, hA, g, hg, hk⟩⟩)
    show pk (nI j).toNatClampNeg = xgr (nI j).toNatClampNeg
    rw [cj, hg j hj, hg' j hj, te_pk_eq hW hk' hk j hj]
theorem i_vc_endings {k : Nat} {u : SX} {v : SY} (I : i_Rel k u v) (hk : k + 4 ≤ 2048) (v1 : Int32) : wpX_endings (fun r => wpY_endings (fun r' v' => r' = r ∧ i_Rel (k + 4) u v') v v1) u v1 := by
  obtain ⟨xle, xbr, xbt, xrc, xkc, xsk, xsh, xsc, xop, xpl, xod, xiv, xcu, xac, xho, xta, xro, xtu, xck, xgr, xes, xls⟩ := u
  obtain ⟨yde, yru, yki, yso, ysz, ywh, yam, yfi, yro, ydo, yva, yhe, yhn, ypl, yke, ywl, you, ypk, yen, yea⟩ := v
  obtain ⟨P, hW, hx, hy, hA, g, hg, hk⟩ := I
  unfold wpX_endings wpY_endings
  dsimp only
  rcases tz_ix v1 (n := 3) (by decide) with hb | ⟨j, hj, rfl⟩
  · exact tz_thr_b hb (br_t rfl (tz_bad_b hb (br_f (by decide) ⟨rfl, ⟨P, hW, hx, hy, hA, g, hg, hk⟩⟩)))
  · have hi : vp_in (nI j) 3 := vp_in_nI hj (by decide)
    have cj : (nI j).toNatClampNeg = j := nI_clamp (by omega)
    refine tz_thr_g hj (br_f (by decide) ⟨hi, tz_bad_g hj (br_t rfl ?_)⟩)
    refine ty_explore hW hy (fun de ru ki so ro dn va he hn pl ke wl ou pk en ea g' hA' hg' hk' => ⟨hi, ?_, ⟨P, hW, hx, hy, hA, g, hg, hk⟩⟩)
    show en (nI j).toNatClampNeg = xes (nI j).toNatClampNeg
    rw [cj, hA.2.2.2.2.2.1 j hj, hA'.2.2.2.2.1 j hj]
theorem te_d4 {a : Nat} (h : a < 12) : nI a / 4 = nI (a / 4) := pk_div (d := 4) (by omega) (by decide) (by decide)
theorem te_r4 {a : Nat} (h : a < 12) : nI a - nI a / 4 * 4 = nI (a % 4) := pk_rem (d := 4) (by omega) (by decide) (by decide)
section
variable {xle xbr xbt xrc xkc xsk xsh : Int32} {xsc xop xpl xod xiv xcu xac xho xta xro xtu xck xgr xes xls : Nat → Int32}
variable {yde yru yki yso : Int32} {ysz ywh yam yfi yro ydo yva yhe yhn ypl ywl you ypk yen yea : Nat → Int32} {yke : Nat → Int64}
theorem tz_isStep {P : te_P} (hW : te_W P) (hx : te_XP P xsc xop xpl xod xiv) {a : Nat} (ha : a < 12) {post : Int32 → Prop} (h0 : te_sz P (a / 4) ≤ a % 4 → post 0) (h1 : a % 4 < te_sz P (a / 4) → post 1) : wpX_isStep post (xle, xbr, xbt, xrc, xkc, xsk, xsh, xsc, xop, xpl, xod, xiv, xcu, xac, xho, xta, xro, xtu, xck, xgr, xes, xls) (nI a) := by
  have hs := hW.1 (a / 4) (by omega)
  have ca : (nI (a / 4)).toNatClampNeg = a / 4 := nI_clamp (by omega)
  unfold wpX_isStep
  dsimp only
  rw [te_r4 ha, te_d4 ha, ca, hx.1 (a / 4) (by omega)]
  exact ⟨by decide, by decide, vp_in_nI (by omega) (by decide), pk_le _ _ h0 h1 rfl rfl (by omega) (by omega)⟩
theorem tz_refusal {P : te_P} (hW : te_W P) (hx : te_XP P xsc xop xpl xod xiv) (hy : te_YP P ysz ywh yam yfi) (p0 p1 : Int32) : (∃ r : Int32, ¬ 0 ≤ r ∧ (∀ post : Int32 → Prop, post r → wpX_refusalOfPair post (xle, xbr, xbt, xrc, xkc, xsk, xsh, xsc, xop, xpl, xod, xiv, xcu, xac, xho, xta, xro, xtu, xck, xgr, xes, xls) p0 p1) ∧ (∀ post : Int32 → Prop, post r → wpY_refusal post (yde, yru, yki, yso, ysz, ywh, yam, yfi, yro, ydo, yva, yhe, yhn, ypl, yke, ywl, you, ypk, yen, yea) p0 p1)) ∨ ∃ a b : Nat, a < 12 ∧ b < 12 ∧ p0 = nI a ∧ p1 = nI b ∧ a % 4 < te_sz P (a / 4) ∧ b % 4 < te_sz P (b / 4) ∧ (∀ post : Int32 → Prop, post 0 → wpX_refusalOfPair post (xle, xbr, xbt, xrc, xkc, xsk, xsh, xsc, xop, xpl, xod, xiv, xcu, xac, xho, xta, xro, xtu, xck, xgr, xes, xls) p0 p1) ∧ (∀ post : Int32 → Prop, post 0 → wpY_refusal post (yde, yru, yki, yso, ysz, ywh, yam, yfi, yro, ydo, yva, yhe, yhn, ypl, yke, ywl, you, ypk, yen, yea) p0 p1) := by
  rcases tz_ix p0 (n := 12) (by decide) with hb | ⟨a, ha, rfl⟩
  · refine Or.inl ⟨-1, by decide, fun post h => ?_, fun post h => ?_⟩
    · unfold wpX_refusalOfPair
      dsimp only
      exact tz_num_b hb (br_t rfl h)
    · unfold wpY_refusal
      dsimp only
      by_cases c : p0 < 0
      · exact br_t c h
      · exact br_f c (br_t (Int32.lt_of_lt_of_le (b := nI 12) (by decide) (hb.resolve_left c)) h)
  · have a1 : ¬ nI a < 0 := nI_pos (by omega)
    have a2 : ¬ 11 < nI a := Int32.not_lt.mpr (nI_le (b := 11) (by omega) (by decide))
    rcases tz_ix p1 (n := 12) (by decide) with hb | ⟨b, hb, rfl⟩
    · refine Or.inl ⟨-1, by decide, fun post h => ?_, fun post h => ?_⟩
      · unfold wpX_refusalOfPair
        dsimp only
        exact tz_num_g ha (br_f (by decide) (tz_num_b hb (br_t rfl h)))
      · unfold wpY_refusal
        dsimp only
        refine br_f a1 (br_f a2 ?_)
        by_cases c : p1 < 0
        · exact br_t c h
        · exact br_f c (br_f (tz_gt (b := nI 12) (by decide) (hb.resolve_left c)) h)
    · have b1 : ¬ nI b < 0 := nI_pos (by omega)
      have b2 : nI b ≤ 11 := nI_le (b := 11) (by omega) (by decide)
      have sa := hW.1 (a / 4) (by omega)
      have sb := hW.1 (b / 4) (by omega)
      have ca : (nI (a / 4)).toNatClampNeg = a / 4 := nI_clamp (by omega)
      have cb : (nI (b / 4)).toNatClampNeg = b / 4 := nI_clamp (by omega)
      have ia : vp_in (nI (a / 4)) 3 := vp_in_nI (by omega) (by decide)
      have ib : vp_in (nI (b / 4)) 3 := vp_in_nI (by omega) (by decide)
      by_cases c1 : a % 4 < te_sz P (a / 4)
      · by_cases c2 : b % 4 < te_sz P (b / 4)
        · have hX : ∀ r : Int32, r = (if a = b then -3 else 0) → ∀ post : Int32 → Prop, post r → wpX_refusalOfPair post (xle, xbr, xbt, xrc, xkc, xsk, xsh, xsc, xop, xpl, xod, xiv, xcu, xac, xho, xta, xro, xtu, xck, xgr, xes, xls) (nI a) (nI b) := by
            intro r hr post h
            unfold wpX_refusalOfPair
            dsimp only
            refine tz_num_g ha (br_f (by decide) (tz_num_g hb (br_f (by decide) (tz_isStep hW hx ha (fun z => absurd z (by omega)) (fun _ => br_f (by decide) (tz_isStep hW hx hb (fun z => absurd z (by omega)) (fun _ => br_f (by decide) (pk_eq a b (fun e => ?_) (fun e => ?_) rfl rfl (by omega) (by omega)))))))))
            · rw [hr, if_pos e] at h; exact h
            · rw [hr, if_neg e] at h; exact h
          have hY : ∀ r : Int32, r = (if a = b then -3 else 0) → ∀ post : Int32 → Prop, post r → wpY_refusal post (yde, yru, yki, yso, ysz, ywh, yam, yfi, yro, ydo, yva, yhe, yhn, ypl, yke, ywl, you, ypk, yen, yea) (nI a) (nI b) := by
            intro r hr post h
            unfold wpY_refusal
            dsimp only
            rw [te_r4 ha, te_d4 ha, te_r4 hb, te_d4 hb, ca, cb, hy.1 (a / 4) (by omega), hy.1 (b / 4) (by omega)]
            refine br_f a1 (br_f a2 (br_f b1 (br_t b2 ⟨by decide, by decide, ia, pk_le _ _ (fun z => absurd z (by omega)) (fun _ => ⟨by decide, by decide, ib, pk_lt _ _ (fun _ => pk_eq a b (fun e => ?_) (fun e => ?_) rfl rfl (by omega) (by omega)) (fun z => absurd z (by omega)) rfl rfl (by omega) (by omega)⟩) rfl rfl (by omega) (by omega)⟩)))
            · rw [hr, if_pos e] at h; exact h
            · rw [hr, if_neg e] at h; exact h
          by_cases e : a = b
          · exact Or.inl ⟨-3, by decide, hX _ (by rw [if_pos e]), hY _ (by rw [if_pos e])⟩
          · exact Or.inr ⟨a, b, ha, hb, rfl, rfl, c1, c2, hX 0 (by rw [if_neg e]), hY 0 (by rw [if_neg e])⟩
        · refine Or.inl ⟨-2, by decide, fun post h => ?_, fun post h => ?_⟩
          · unfold wpX_refusalOfPair
            dsimp only
            exact tz_num_g ha (br_f (by decide) (tz_num_g hb (br_f (by decide) (tz_isStep hW hx ha (fun z => absurd z (by omega)) (fun _ => br_f (by decide) (tz_isStep hW hx hb (fun _ => br_t rfl h) (fun z => absurd z c2)))))))
          · unfold wpY_refusal
            dsimp only
            rw [te_r4 ha, te_d4 ha, te_r4 hb, te_d4 hb, ca, cb, hy.1 (a / 4) (by omega), hy.1 (b / 4) (by omega)]
            exact br_f a1 (br_f a2 (br_f b1 (br_t b2 ⟨by decide, by decide, ia, pk_le _ _ (fun z => absurd z (by omega)) (fun _ => ⟨by decide, by decide, ib, pk_lt _ _ (fun z => absurd z c2) (fun _ => h) rfl rfl (by omega) (by omega)⟩) rfl rfl (by omega) (by omega)⟩)))
      · refine Or.inl ⟨-2, by decide, fun post h => ?_, fun post h => ?_⟩
        · unfold wpX_refusalOfPair
          dsimp only
          exact tz_num_g ha (br_f (by decide) (tz_num_g hb (br_f (by decide) (tz_isStep hW hx ha (fun _ => br_t rfl h) (fun z => absurd z c1)))))
        · unfold wpY_refusal
          dsimp only
          rw [te_r4 ha, te_d4 ha, te_r4 hb, te_d4 hb, ca, cb, hy.1 (a / 4) (by omega), hy.1 (b / 4) (by omega)]
          exact br_f a1 (br_f a2 (br_f b1 (br_t b2 ⟨by decide, by decide, ia, pk_le _ _ (fun _ => h) (fun z => absurd z c1) rfl rfl (by omega) (by omega)⟩)))
end
theorem te_bt1 : ∀ i, i < 32 → bt 1 i = decide (i = 0) := by decide +kernel
theorem te_bit0 (y : Int32) : y &&& 1 = if bt y 0 = true then 1 else 0 := by
  apply b_ext
  intro i hi
  rw [b_and, te_bt1 i hi]
  by_cases c : bt y 0 = true
  · rw [if_pos c, te_bt1 i hi]
    by_cases e : i = 0
    · rw [e, c]; rfl
    · rw [decide_eq_false e, Bool.and_false]
  · rw [if_neg c, b_0]
    by_cases e : i = 0
    · rw [e, Bool.eq_false_iff.mpr c]; rfl
    · rw [decide_eq_false e, Bool.and_false]
theorem te_bitx (w : Int32) {b : Nat} (hb : b < 12) : (w >>> (nI b &&& 31)) &&& 1 = if bt w b = true then 1 else 0 := by
  have e : bt (w >>> (nI b &&& 31)) 0 = bt w b := by
    rw [b_sshr b (by omega) w (by decide)]
    exact if_pos (show b + 0 < 32 by omega)
  rw [te_bit0, e]
theorem i_vc_tied {k : Nat} {u : SX} {v : SY} (I : i_Rel k u v) (hk : k + 4 ≤ 2048) (v1 : Int32) (v2 : Int32) : wpX_tied (fun r => wpY_tied (fun r' => r' = r ∧ i_Rel (k + 4) u v) v v1 v2) u v1 v2 := by
  obtain ⟨xle, xbr, xbt, xrc, xkc, xsk, xsh, xsc, xop, xpl, xod, xiv, xcu, xac, xho, xta, xro, xtu, xck, xgr, xes, xls⟩ := u
  obtain ⟨yde, yru, yki, yso, ysz, ywh, yam, yfi, yro, ydo, yva, yhe, yhn, ypl, yke, ywl, you, ypk, yen, yea⟩ := v
  obtain ⟨P, hW, hx, hy, hA, g, hg, hk⟩ := I
  unfold wpX_tied wpY_tied
  dsimp only
  rcases tz_refusal (xle := xle) (xbr := xbr) (xbt := xbt) (xrc := xrc) (xkc := xkc) (xsk := xsk) (xsh := xsh) (xcu := xcu) (xac := xac) (xho := xho) (xta := xta) (xro := xro) (xtu := xtu) (xck := xck) (xgr := xgr) (xes := xes) (xls := xls) (yde := yde) (yru := yru) (yki := yki) (yso := yso) (yro := yro) (ydo := ydo) (yva := yva) (yhe := yhe) (yhn := yhn) (ypl := ypl) (yke := yke) (ywl := ywl) (you := you) (ypk := ypk) (yen := yen) (yea := yea) hW hx hy v1 v2 with ⟨r, hr, hX, hY⟩ | ⟨a, b, ha, hb, rfl, rfl, c1, c2, hX, hY⟩
  · exact hX _ (br_f hr (hY _ (br_f hr ⟨rfl, ⟨P, hW, hx, hy, hA, g, hg, hk⟩⟩)))
  · have sa := hW.1 (a / 4) (by omega)
    have sb := hW.1 (b / 4) (by omega)
    have ea : 4 * (a / 4) + a % 4 = a := by omega
    have eb : 4 * (b / 4) + b % 4 = b := by omega
    refine hX _ (br_t (by decide) ?_)
    have hT := tx_areTied (xle := xle) (xbr := xbr) (xbt := xbt) (xrc := xrc) (xkc := xkc) (xsk := xsk) (xsh := xsh) (xcu := xcu) (xac := xac) (xho := xho) (xta := xta) (xro := xro) (xtu := xtu) (xck := xck) (xgr := xgr) (xes := xes) (xls := xls) (x := (a / 4, a % 4)) (y := (b / 4, b % 4)) (post := fun r_25 => (r_25 = 0 → (fun r => wpY_tied (fun r' => r' = r ∧ i_Rel (k + 4) (xle, xbr, xbt, xrc, xkc, xsk, xsh, xsc, xop, xpl, xod, xiv, xcu, xac, xho, xta, xro, xtu, xck, xgr, xes, xls) (yde, yru, yki, yso, ysz, ywh, yam, yfi, yro, ydo, yva, yhe, yhn, ypl, yke, ywl, you, ypk, yen, yea)) (yde, yru, yki, yso, ysz, ywh, yam, yfi, yro, ydo, yva, yhe, yhn, ypl, yke, ywl, you, ypk, yen, yea) (nI a) (nI b)) 0) ∧ (¬ r_25 = 0 → (fun r => wpY_tied (fun r' => r' = r ∧ i_Rel (k + 4) (xle, xbr, xbt, xrc, xkc, xsk, xsh, xsc, xop, xpl, xod, xiv, xcu, xac, xho, xta, xro, xtu, xck, xgr, xes, xls) (yde, yru, yki, yso, ysz, ywh, yam, yfi, yro, ydo, yva, yhe, yhn, ypl, yke, ywl, you, ypk, yen, yea)) (yde, yru, yki, yso, ysz, ywh, yam, yfi, yro, ydo, yva, yhe, yhn, ypl, yke, ywl, you, ypk, yen, yea) (nI a) (nI b)) 1)) hW hx (show a / 4 < 3 by omega) (show a % 4 < 3 by omega) (show b / 4 < 3 by omega) (show b % 4 < 3 by omega) ?_
    · rw [show 4 * ((a / 4, a % 4) : Nat × Nat).1 + ((a / 4, a % 4) : Nat × Nat).2 = a from ea, show 4 * ((b / 4, b % 4) : Nat × Nat).1 + ((b / 4, b % 4) : Nat × Nat).2 = b from eb] at hT
      exact hT
    · have hYr : ∀ r : Int32, r = (if te_ti P (a / 4, a % 4) (b / 4, b % 4) = true then 1 else 0) → wpY_tied (fun r' => r' = r ∧ i_Rel (k + 4) (xle, xbr, xbt, xrc, xkc, xsk, xsh, xsc, xop, xpl, xod, xiv, xcu, xac, xho, xta, xro, xtu, xck, xgr, xes, xls) (yde, yru, yki, yso, ysz, ywh, yam, yfi, yro, ydo, yva, yhe, yhn, ypl, yke, ywl, you, ypk, yen, yea)) (yde, yru, yki, yso, ysz, ywh, yam, yfi, yro, ydo, yva, yhe, yhn, ypl, yke, ywl, you, ypk, yen, yea) (nI a) (nI b) := by
        intro r hr
        unfold wpY_tied
        dsimp only
        refine hY _ (br_t (by decide) ⟨by decide, by decide, by decide, by decide, ?_⟩)
        rw [te_r4 ha, te_d4 ha, te_r4 hb, te_d4 hb, te_num3, te_num3]
        refine ty_areTied (x := (a / 4, a % 4)) (y := (b / 4, b % 4)) hW hy (show a / 4 < 3 by omega) (show a % 4 < 3 by omega) (show b / 4 < 3 by omega) (show b % 4 < 3 by omega) ?_
        rw [hr]
        cases te_ti P (a / 4, a % 4) (b / 4, b % 4) with
        | true => rw [if_pos rfl]; exact br_f (by decide) ⟨rfl, ⟨P, hW, hx, hy, hA, g, hg, hk⟩⟩
        | false => rw [if_neg (by decide)]; exact br_t rfl ⟨rfl, ⟨P, hW, hx, hy, hA, g, hg, hk⟩⟩
      cases ht : te_ti P (a / 4, a % 4) (b / 4, b % 4) with
      | true => rw [if_pos rfl]; exact br_f (by decide) (hYr 1 (by rw [ht]; rfl))
      | false => rw [if_neg (by decide)]; exact br_t rfl (hYr 0 (by rw [ht]; rfl))
theorem i_vc_before {k : Nat} {u : SX} {v : SY} (I : i_Rel k u v) (hk : k + 4 ≤ 2048) (v1 : Int32) (v2 : Int32) : wpX_before (fun r => wpY_before (fun r' v' => r' = r ∧ i_Rel (k + 4) u v') v v1 v2) u v1 v2 := by
  obtain ⟨xle, xbr, xbt, xrc, xkc, xsk, xsh, xsc, xop, xpl, xod, xiv, xcu, xac, xho, xta, xro, xtu, xck, xgr, xes, xls⟩ := u
  obtain ⟨yde, yru, yki, yso, ysz, ywh, yam, yfi, yro, ydo, yva, yhe, yhn, ypl, yke, ywl, you, ypk, yen, yea⟩ := v
  obtain ⟨P, hW, hx, hy, hA, g, hg, hk⟩ := I
  unfold wpX_before wpY_before
  dsimp only
  rcases tz_refusal (xle := xle) (xbr := xbr) (xbt := xbt) (xrc := xrc) (xkc := xkc) (xsk := xsk) (xsh := xsh) (xcu := xcu) (xac := xac) (xho := xho) (xta := xta) (xro := xro) (xtu := xtu) (xck := xck) (xgr := xgr) (xes := xes) (xls := xls) (yde := yde) (yru := yru) (yki := yki) (yso := yso) (yro := yro) (ydo := ydo) (yva := yva) (yhe := yhe) (yhn := yhn) (ypl := ypl) (yke := yke) (ywl := ywl) (you := you) (ypk := ypk) (yen := yen) (yea := yea) hW hx hy v1 v2 with ⟨r, hr, hX, hY⟩ | ⟨a, b, ha, hb, rfl, rfl, c1, c2, hX, hY⟩
  · exact hX _ (br_f hr (hY _ (br_f hr ⟨rfl, ⟨P, hW, hx, hy, hA, g, hg, hk⟩⟩)))
  · have sa := hW.1 (a / 4) (by omega)
    have sb := hW.1 (b / 4) (by omega)
    have ea' : 4 * (a / 4) + a % 4 = a := by omega
    have eb' : 4 * (b / 4) + b % 4 = b := by omega
    have ca : (nI a).toNatClampNeg = a := nI_clamp (by omega)
    have hbit := hA.2.2.2.2.2.2 (a / 4, a % 4) (b / 4, b % 4) (show a / 4 < 3 by omega) (show a % 4 < 3 by omega) (show b / 4 < 3 by omega) (show b % 4 < 3 by omega)
    simp only at hbit
    rw [ea', eb'] at hbit
    refine hX _ (br_t (by decide) ⟨vp_in_nI ha (by decide), hY _ (br_t (by decide) ?_)⟩)
    rw [ca, te_bitx _ hb]
    refine ty_explore hW hy (fun de ru ki so ro dn va he hn pl ke wl ou pk en ea g' hA' hg' hk' => ⟨by decide, by decide, by decide, by decide, ?_⟩)
    have eix : 9 * (3 * (nI a / 4) + (nI a - nI a / 4 * 4)) + 3 * (nI b / 4) + (nI b - nI b / 4 * 4) = nI (9 * (3 * (a / 4) + a % 4) + (3 * (b / 4) + b % 4)) := by
      rw [te_r4 ha, te_d4 ha, te_r4 hb, te_d4 hb, te_num3]
      show nI 9 * _ + nI 3 * _ + _ = _
      rw [pk_mul, pk_mul, nI_add, nI_add]
      exact congrArg nI (by omega)
    have cix : (nI (9 * (3 * (a / 4) + a % 4) + (3 * (b / 4) + b % 4))).toNatClampNeg = 9 * (3 * (a / 4) + a % 4) + (3 * (b / 4) + b % 4) := nI_clamp (by omega)
    have hE := hA'.2.2.2.2.2 (3 * (a / 4) + a % 4) (by omega) (3 * (b / 4) + b % 4) (by omega)
    have xa : te_x (3 * (a / 4) + a % 4) = (a / 4, a % 4) := te_x_of (x := (a / 4, a % 4)) (show a % 4 < 3 by omega)
    have xb : te_x (3 * (b / 4) + b % 4) = (b / 4, b % 4) := te_x_of (x := (b / 4, b % 4)) (show b % 4 < 3 by omega)
    dsimp only at hE
    rw [xa, xb] at hE
    dsimp only
    rw [eix, cix]
    refine ⟨vp_in_nI (by omega) (by decide), ?_⟩
    by_cases c : bt (xls a) b = true
    · rw [if_pos c, hE.1 (hbit.mp c)]
      exact br_f (by decide) ⟨rfl, ⟨P, hW, hx, hy, hA, g, hg, hk⟩⟩
    · rw [if_neg c, hE.2 (fun z => c (hbit.mpr z))]
      exact br_t rfl ⟨rfl, ⟨P, hW, hx, hy, hA, g, hg, hk⟩⟩
end
section
/-! what is owed: the changes -/
section
variable {xle xbr xbt xrc xkc xsk xsh : Int32} {xsc xop xpl xod xiv xcu xac xho xta xro xtu xck xgr xes xls : Nat → Int32}
variable {yde yru yki yso : Int32} {ysz ywh yam yfi yro ydo yva yhe yhn ypl ywl you ypk yen yea : Nat → Int32} {yke : Nat → Int64}
def te_wok (n : Nat) : Prop := n / 8 ≤ 5 ∧ n % 8 < (if n / 8 < 4 then 3 else 2)
theorem te_n8 {n : Nat} (hn : n < 2147483648) : nI n / 8 = nI (n / 8) := pk_div (d := 8) (by omega) (by decide) (by decide)
theorem te_m8 {n : Nat} (hn : n < 2147483648) : nI n - nI n / 8 * 8 = nI (n % 8) := pk_rem (d := 8) (by omega) (by decide) (by decide)
theorem tx_isWhat {n : Nat} (hn : n < 2147483648) {post : Int32 → Prop} (h1 : te_wok n → post 1) (h0 : ¬ te_wok n → post 0) : wpX_isWhat post (nI n) := by
  unfold wpX_isWhat
  rw [te_n8 hn]
  refine br_f (nI_pos (by omega)) ⟨by decide, pk_le _ 5 (fun c => ⟨by decide, pk_lt _ 4 (fun c4 => ?_) (fun c4 => ?_) rfl rfl (by omega) (by omega)⟩) (fun c => h0 (fun z => absurd z.1 (by omega))) rfl rfl (by omega) (by omega)⟩
  · unfold wX_isWhat_27
    rw [te_m8 hn]
    refine ⟨by decide, pk_le 3 _ (fun d => h0 (fun z => ?_)) (fun d => h1 ⟨c, ?_⟩) rfl rfl (by omega) (by omega)⟩
    · have := z.2
      rw [if_pos c4] at this
      omega
    · rw [if_pos c4]; exact d
  · unfold wX_isWhat_27
    rw [te_m8 hn]
    refine ⟨by decide, pk_le 2 _ (fun d => h0 (fun z => ?_)) (fun d => h1 ⟨c, ?_⟩) rfl rfl (by omega) (by omega)⟩
    · have := z.2
      rw [if_neg (by omega)] at this
      omega
    · rw [if_neg (by omega)]; exact d
theorem ty_stepN {t n : Nat} (ht : t < 3) (hn : n < 2147483648) (hw : ¬ te_wok n) {v3 : Int32} {post : Int32 → SY → Prop} (h : post (-2) (yde, yru, yki, yso, ysz, ywh, yam, yfi, yro, ydo, yva, yhe, yhn, ypl, yke, ywl, you, ypk, yen, yea)) : wpY_step post (yde, yru, yki, yso, ysz, ywh, yam, yfi, yro, ydo, yva, yhe, yhn, ypl, yke, ywl, you, ypk, yen, yea) (nI t) (nI n) v3 := by
  unfold wpY_step
  dsimp only
  rw [te_m8 hn, te_n8 hn]
  refine tz_bad_g ht (br_t rfl (br_f (nI_pos (by omega)) (pk_le n 41 (fun c => ⟨by decide, nm_e ⟨by decide, pk_le 4 _ (fun c4 => ?_) (fun c4 => ?_) rfl rfl (by omega) (by omega)⟩⟩) (fun _ => h) rfl rfl (by omega) (by omega))))
  · unfold wY_step_44
    refine pk_le _ 1 (fun d => absurd ⟨by omega, ?_⟩ hw) (fun _ => h) rfl rfl (by omega) (by omega)
    rw [if_neg (by omega)]; omega
  · unfold wY_step_44
    refine pk_le _ 2 (fun d => absurd ⟨by omega, ?_⟩ hw) (fun _ => h) rfl rfl (by omega) (by omega)
    rw [if_pos c4]; omega
theorem ty_44 {P : te_P} (hW : te_W P) (hy : te_YP P ysz ywh yam yfi) {t n a b : Nat} (ht : t < 3) (hab : b ≤ a) (ha : a < 10) {v3 : Int32} {post : Int32 → SY → Prop} (h3 : (v3 < 0 ∨ nI 8 ≤ v3) → post (-3) (yde, yru, yki, yso, ysz, ywh, yam, yfi, yro, ydo, yva, yhe, yhn, ypl, yke, ywl, you, ypk, yen, yea)) (h4 : ∀ k, k < 8 → v3 = nI k → ¬ te_sz P t < 3 → post (-4) (yde, yru, yki, yso, ysz, ywh, yam, yfi, yro, ydo, yva, yhe, yhn, ypl, yke, ywl, you, ypk, yen, yea)) (h5 : ∀ k, k < 8 → v3 = nI k → te_sz P t < 3 → post (nI (te_sz P t + 1)) (yde, yru, yki, yso, upd ysz t (nI (te_sz P t + 1)), upd ywh (3 * t + te_sz P t) (nI n), upd yam (3 * t + te_sz P t) (nI k), yfi, yro, ydo, yva, yhe, yhn, ypl, yke, ywl, you, ypk, yen, yea)) : wY_step_44 post (nI t) (nI n) v3 (nI a) (nI b) yde yru yki yso ysz ywh yam yfi yro ydo yva yhe yhn ypl yke ywl you ypk yen yea := by
  have hs := hW.1 t ht
  have ct : (nI t).toNatClampNeg = t := nI_clamp (by omega)
  have hi : vp_in (nI t) 3 := vp_in_nI ht (by decide)
  unfold wY_step_44
  rw [ct, hy.1 t ht]
  refine pk_le b a (fun _ => ?_) (fun c => absurd c (by omega)) rfl rfl (by omega) (by omega)
  rcases tz_ix v3 (n := 8) (by decide) with hb | ⟨k, hk, rfl⟩
  · by_cases c : v3 < 0
    · exact br_t c (h3 hb)
    · exact br_f c (br_f (tz_gt (b := nI 8) (by decide) (hb.resolve_left c)) (h3 hb))
  · refine br_f (nI_pos (by omega)) (br_t (nI_le (b := 7) (by omega) (by decide)) ⟨hi, nm_e ?_⟩)
    rw [te_num3, nI_1]
    refine pk_le _ 2 (fun c => ?_) (fun c => h4 k hk rfl (by omega)) rfl rfl (by omega) (by omega)
    have cx : (nI (3 * t + te_sz P t)).toNatClampNeg = 3 * t + te_sz P t := nI_clamp (by omega)
    rw [cx]
    exact ⟨vp_in_nI (by omega) (by decide), nm_e ⟨vp_in_nI (by omega) (by decide), nm_e ⟨hi, nm_e (h5 k hk rfl (by omega))⟩⟩⟩
theorem ty_stepY {P : te_P} (hW : te_W P) (hy : te_YP P ysz ywh yam yfi) {t n : Nat} (ht : t < 3) (hn : n < 2147483648) (hw : te_wok n) {v3 : Int32} {post : Int32 → SY → Prop} (h3 : (v3 < 0 ∨ nI 8 ≤ v3) → post (-3) (yde, yru, yki, yso, ysz, ywh, yam, yfi, yro, ydo, yva, yhe, yhn, ypl, yke, ywl, you, ypk, yen, yea)) (h4 : ∀ k, k < 8 → v3 = nI k → ¬ te_sz P t < 3 → post (-4) (yde, yru, yki, yso, ysz, ywh, yam, yfi, yro, ydo, yva, yhe, yhn, ypl, yke, ywl, you, ypk, yen, yea)) (h5 : ∀ k, k < 8 → v3 = nI k → te_sz P t < 3 → post (nI (te_sz P t + 1)) (yde, yru, yki, yso, upd ysz t (nI (te_sz P t + 1)), upd ywh (3 * t + te_sz P t) (nI n), upd yam (3 * t + te_sz P t) (nI k), yfi, yro, ydo, yva, yhe, yhn, ypl, yke, ywl, you, ypk, yen, yea)) : wpY_step post (yde, yru, yki, yso, ysz, ywh, yam, yfi, yro, ydo, yva, yhe, yhn, ypl, yke, ywl, you, ypk, yen, yea) (nI t) (nI n) v3 := by
  obtain ⟨w1, w2⟩ := hw
  unfold wpY_step
  dsimp only
  rw [te_m8 hn, te_n8 hn]
  refine tz_bad_g ht (br_t rfl (br_f (nI_pos (by omega)) (pk_le n 41 (fun c => ⟨by decide, nm_e ⟨by decide, pk_le 4 _ (fun c4 => ?_) (fun c4 => ?_) rfl rfl (by omega) (by omega)⟩⟩) (fun c => ?_) rfl rfl (by omega) (by omega))))
  · rw [if_neg (by omega)] at w2
    exact ty_44 hW hy (a := 1) ht (by omega) (by decide) h3 h4 h5
  · rw [if_pos c4] at w2
    exact ty_44 hW hy (a := 2) ht (by omega) (by decide) h3 h4 h5
  · exfalso
    by_cases c4 : n / 8 < 4
    · omega
    · rw [if_neg c4] at w2; omega
def te_Ps (P : te_P) (t n k : Nat) : te_P := (te_u (te_sz P) t (te_sz P t + 1), fun t' i => if t' = t ∧ i = te_sz P t then n / 8 else te_op P t' i, fun t' i => if t' = t ∧ i = te_sz P t then n % 8 else te_pl P t' i, fun t' i => if t' = t ∧ i = te_sz P t then k else te_am P t' i, te_ini P)
theorem te_Ps_W {P : te_P} (hW : te_W P) {t n k : Nat} (hw : te_wok n) (hk : k < 8) (hs : te_sz P t < 3) : te_W (te_Ps P t n k) := by
  obtain ⟨w1, w2⟩ := hw
  refine ⟨fun t' ht' => ?_, fun t' ht' i hi => ?_, fun v hv => hW.2.2 v hv⟩
  · show te_u (te_sz P) t (te_sz P t + 1) t' ≤ 3
    unfold te_u
    by_cases c : t' = t
    · rw [if_pos c]; omega
    · rw [if_neg c]; exact hW.1 t' ht'
  · show (if t' = t ∧ i = te_sz P t then n / 8 else te_op P t' i) ≤ 5 ∧ (if t' = t ∧ i = te_sz P t then n % 8 else te_pl P t' i) < 3 ∧ (4 ≤ (if t' = t ∧ i = te_sz P t then n / 8 else te_op P t' i) → (if t' = t ∧ i = te_sz P t then n % 8 else te_pl P t' i) < 2) ∧ (if t' = t ∧ i = te_sz P t then k else te_am P t' i) < 8
    by_cases c : t' = t ∧ i = te_sz P t
    · rw [if_pos c, if_pos c, if_pos c]
      by_cases c4 : n / 8 < 4
      · rw [if_pos c4] at w2
        exact ⟨w1, by omega, fun z => absurd z (by omega), hk⟩
      · rw [if_neg c4] at w2
        exact ⟨w1, by omega, fun _ => w2, hk⟩
    · rw [if_neg c, if_neg c, if_neg c]
      exact hW.2.1 t' ht' i hi
theorem te_Ps_X {P : te_P} (hx : te_XP P xsc xop xpl xod xiv) {t n k : Nat} (ht : t < 3) (hs : te_sz P t < 3) : te_XP (te_Ps P t n k) (upd xsc t (nI (te_sz P t + 1))) (upd xop (4 * t + te_sz P t) (nI (n / 8))) (upd xpl (4 * t + te_sz P t) (nI (n % 8))) (upd xod (4 * t + te_sz P t) (nI k)) xiv := by
  refine ⟨te_A_upd (n := 3) (fun i hi => hx.1 i hi) t (te_sz P t + 1), fun t' ht' i hi => ?_, fun v hv => hx.2.2 v hv⟩
  show upd xop (4 * t + te_sz P t) (nI (n / 8)) (4 * t' + i) = nI (if t' = t ∧ i = te_sz P t then n / 8 else te_op P t' i) ∧ upd xpl (4 * t + te_sz P t) (nI (n % 8)) (4 * t' + i) = nI (if t' = t ∧ i = te_sz P t then n % 8 else te_pl P t' i) ∧ upd xod (4 * t + te_sz P t) (nI k) (4 * t' + i) = nI (if t' = t ∧ i = te_sz P t then k else te_am P t' i)
  by_cases c : t' = t ∧ i = te_sz P t
  · rw [if_pos c, if_pos c, if_pos c, c.1, c.2, pk_us, pk_us, pk_us]
    exact ⟨rfl, rfl, rfl⟩
  · have hne : 4 * t' + i ≠ 4 * t + te_sz P t := fun e => c ⟨by omega, by omega⟩
    rw [if_neg c, if_neg c, if_neg c, pk_un hne, pk_un hne, pk_un hne]
    exact hx.2.1 t' ht' i hi
theorem te_Ps_Y {P : te_P} (hy : te_YP P ysz ywh yam yfi) {t n k : Nat} (ht : t < 3) (hs : te_sz P t < 3) : te_YP (te_Ps P t n k) (upd ysz t (nI (te_sz P t + 1))) (upd ywh (3 * t + te_sz P t) (nI n)) (upd yam (3 * t + te_sz P t) (nI k)) yfi := by
  refine ⟨te_A_upd (n := 3) (fun i hi => hy.1 i hi) t (te_sz P t + 1), fun t' ht' i hi => ?_, fun v hv => hy.2.2 v hv⟩
  show upd ywh (3 * t + te_sz P t) (nI n) (3 * t' + i) = nI (8 * (if t' = t ∧ i = te_sz P t then n / 8 else te_op P t' i) + (if t' = t ∧ i = te_sz P t then n % 8 else te_pl P t' i)) ∧ upd yam (3 * t + te_sz P t) (nI k) (3 * t' + i) = nI (if t' = t ∧ i = te_sz P t then k else te_am P t' i)
  by_cases c : t' = t ∧ i = te_sz P t
  · rw [if_pos c, if_pos c, if_pos c, c.1, c.2, pk_us, pk_us]
    exact ⟨congrArg nI (by omega), rfl⟩
  · have hne : 3 * t' + i ≠ 3 * t + te_sz P t := fun e => c ⟨by omega, by omega⟩
    rw [if_neg c, if_neg c, if_neg c, pk_un hne, pk_un hne]
    exact hy.2.1 t' ht' i hi
end
theorem i_vc_step {k : Nat} {u : SX} {v : SY} (I : i_Rel k u v) (hk : k + 4 ≤ 2048) (v1 : Int32) (v2 : Int32) (v3 : Int32) : wpX_step (fun r u' => wpY_step (fun r' v' => r' = r ∧ i_Rel (k + 4) u' v') v v1 v2 v3) u v1 v2 v3 := by
  obtain ⟨xle, xbr, xbt, xrc, xkc, xsk, xsh, xsc, xop, xpl, xod, xiv, xcu, xac, xho, xta, xro, xtu, xck, xgr, xes, xls⟩ := u
  obtain ⟨yde, yru, yki, yso, ysz, ywh, yam, yfi, yro, ydo, yva, yhe, yhn, ypl, yke, ywl, you, ypk, yen, yea⟩ := v
  obtain ⟨P, hW, hx, hy, hA, g, hg, hk⟩ := I
  unfold wpX_step
  dsimp only
  rcases tz_ix v1 (n := 3) (by decide) with hb | ⟨t, ht, rfl⟩
  · refine tz_thr_b hb (br_t rfl ?_)
    unfold wpY_step
    dsimp only
    exact tz_bad_b hb (br_f (by decide) ⟨rfl, ⟨P, hW, hx, hy, hA, g, hg, hk⟩⟩)
  · refine tz_thr_g ht (br_f (by decide) ?_)
    by_cases c : v2 < 0
    · unfold wpX_isWhat
      refine br_t c (br_t rfl ?_)
      unfold wpY_step
      dsimp only
      exact tz_bad_g ht (br_t rfl (br_t c ⟨rfl, ⟨P, hW, hx, hy, hA, g, hg, hk⟩⟩))
    · obtain ⟨n, hn, rfl⟩ := nI_of c
      refine tx_isWhat (by omega) (fun hw => br_f (by decide) ?_) (fun hw => br_t rfl (ty_stepN ht (by omega) hw ⟨rfl, ⟨P, hW, hx, hy, hA, g, hg, hk⟩⟩))
      rcases tz_ix v3 (n := 8) (by decide) with hb | ⟨k', hk', rfl⟩
      · refine tz_val_b hb (br_t rfl (ty_stepY hW hy ht (by omega) hw (fun _ => ⟨rfl, ⟨P, hW, hx, hy, hA, g, hg, hk⟩⟩) (fun k h1 h2 _ => ?_) (fun k h1 h2 _ => ?_)))
        · rw [h2] at hb
          exact absurd hb (fun z => z.elim (nI_pos (by omega)) (nI_ge (b := 8) h1 (by decide)))
        · rw [h2] at hb
          exact absurd hb (fun z => z.elim (nI_pos (by omega)) (nI_ge (b := 8) h1 (by decide)))
      · have hi : vp_in (nI t) 3 := vp_in_nI ht (by decide)
        have ct : (nI t).toNatClampNeg = t := nI_clamp (by omega)
        have hs := hW.1 t ht
        have hkk : ∀ k, k < 8 → nI k' = nI k → k = k' := fun k h1 h2 => ((nI_eq (by omega) (by omega)).mp h2).symm
        have hv3 : ¬ (nI k' < 0 ∨ nI 8 ≤ nI k') := fun z => z.elim (nI_pos (by omega)) (nI_ge (b := 8) hk' (by decide))
        refine tz_val_g hk' (br_f (by decide) ⟨hi, ?_⟩)
        rw [ct, hx.1 t ht]
        refine pk_lt _ 3 (fun c3 => ⟨hi, nm_r (te_num4 t _) ?_⟩) (fun c3 => ?_) rfl rfl (by omega) (by omega)
        · have cx : (nI (4 * t + te_sz P t)).toNatClampNeg = 4 * t + te_sz P t := nI_clamp (by omega)
          have ix : vp_in (nI (4 * t + te_sz P t)) 12 := vp_in_nI (by omega) (by decide)
          rw [cx, te_m8 (by omega), te_n8 (by omega), nI_1]
          refine ⟨by decide, ix, nm_e ⟨by decide, ix, nm_e ⟨ix, nm_e ⟨hi, hi, nm_e ?_⟩⟩⟩⟩
          have hW' := te_Ps_W (t := t) (n := n) (k := k') hW hw hk' c3
          have hx' := te_Ps_X (n := n) (k := k') hx ht c3
          have hy' := te_Ps_Y (n := n) (k := k') hy ht c3
          refine tx_explore hW' hx' (fun le br bt rc kc sk sh cu ac ho ta ro tu ck gr es ls g' hA' hg' hk2 => ⟨hi, ?_⟩)
          refine ty_stepY hW hy ht (by omega) hw (fun z => absurd z hv3) (fun k _ _ z => absurd c3 z) (fun k h1 h2 _ => ?_)
          rw [hkk k h1 h2]
          exact ⟨(pk_us (f := xsc) (k := t)).symm, ⟨_, hW', hx', hy', hA', g', hg', hk2⟩⟩
        · refine ty_stepY hW hy ht (by omega) hw (fun z => absurd z hv3) (fun k _ _ z => ⟨rfl, ⟨P, hW, hx, hy, hA, g, hg, hk⟩⟩) (fun k h1 h2 z => absurd z (by omega))
def te_Pd (P : te_P) (t : Nat) : te_P := (te_u (te_sz P) t (te_sz P t - 1), te_op P, te_pl P, te_am P, te_ini P)
theorem i_vc_drop {k : Nat} {u : SX} {v : SY} (I : i_Rel k u v) (hk : k + 4 ≤ 2048) (v1 : Int32) : wpX_drop (fun r u' => wpY_drop (fun r' v' => r' = r ∧ i_Rel (k + 4) u' v') v v1) u v1 := by
  obtain ⟨xle, xbr, xbt, xrc, xkc, xsk, xsh, xsc, xop, xpl, xod, xiv, xcu, xac, xho, xta, xro, xtu, xck, xgr, xes, xls⟩ := u
  obtain ⟨yde, yru, yki, yso, ysz, ywh, yam, yfi, yro, ydo, yva, yhe, yhn, ypl, yke, ywl, you, ypk, yen, yea⟩ := v
  obtain ⟨P, hW, hx, hy, hA, g, hg, hk⟩ := I
  unfold wpX_drop wpY_drop
  dsimp only
  rcases tz_ix v1 (n := 3) (by decide) with hb | ⟨t, ht, rfl⟩
  · exact tz_thr_b hb (br_t rfl (tz_bad_b hb (br_f (by decide) ⟨rfl, ⟨P, hW, hx, hy, hA, g, hg, hk⟩⟩)))
  · have hi : vp_in (nI t) 3 := vp_in_nI ht (by decide)
    have ct : (nI t).toNatClampNeg = t := nI_clamp (by omega)
    have hs := hW.1 t ht
    rw [ct, hx.1 t ht, hy.1 t ht]
    refine tz_thr_g ht (br_f (by decide) ⟨hi, pk_eq _ 0 (fun c => ?_) (fun c => ⟨hi, hi, nm_r (e' := upd xsc t (nI (te_sz P t - 1))) ?_ ?_⟩) rfl rfl (by omega) (by omega)⟩)
    · exact tz_bad_g ht (br_t rfl ⟨hi, pk_eq _ 0 (fun _ => ⟨rfl, ⟨P, hW, hx, hy, hA, g, hg, hk⟩⟩) (fun z => absurd c z) rfl rfl (by omega) (by omega)⟩)
    · obtain ⟨m, hm⟩ : ∃ m, te_sz P t = m + 1 := ⟨te_sz P t - 1, by omega⟩
      rw [hm, nI_pred]; rfl
    · have hW' : te_W (te_Pd P t) := by
        refine ⟨fun t' ht' => ?_, fun t' ht' i hi => hW.2.1 t' ht' i hi, fun v hv => hW.2.2 v hv⟩
        show te_u (te_sz P) t (te_sz P t - 1) t' ≤ 3
        unfold te_u
        by_cases c : t' = t
        · rw [if_pos c]; omega
        · rw [if_neg c]; exact hW.1 t' ht'
      have hx' : te_XP (te_Pd P t) (upd xsc t (nI (te_sz P t - 1))) xop xpl xod xiv := ⟨te_A_upd (n := 3) (fun i hi => hx.1 i hi) t (te_sz P t - 1), fun t' ht' i hi => hx.2.1 t' ht' i hi, fun v hv => hx.2.2 v hv⟩
      have hy' : te_YP (te_Pd P t) (upd ysz t (nI (te_sz P t - 1))) ywh yam yfi := ⟨te_A_upd (n := 3) (fun i hi => hy.1 i hi) t (te_sz P t - 1), fun t' ht' i hi => hy.2.1 t' ht' i hi, fun v hv => hy.2.2 v hv⟩
      refine tx_explore hW' hx' (fun le br bt rc kc sk sh cu ac ho ta ro tu ck gr es ls g' hA' hg' hk2 => ⟨hi, ?_⟩)
      refine tz_bad_g ht (br_t rfl ⟨hi, pk_eq _ 0 (fun z => absurd z c) (fun _ => ⟨hi, hi, nm_r (e' := upd ysz t (nI (te_sz P t - 1))) ?_ ⟨hi, ?_, ⟨_, hW', hx', hy', hA', g', hg', hk2⟩⟩⟩) rfl rfl (by omega) (by omega)⟩)
      · obtain ⟨m, hm⟩ : ∃ m, te_sz P t = m + 1 := ⟨te_sz P t - 1, by omega⟩
        rw [hm, nI_pred]; rfl
      · exact (pk_us (f := ysz) (k := t)).trans (pk_us (f := xsc) (k := t)).symm
def te_Pi (P : te_P) (v x : Nat) : te_P := (te_sz P, te_op P, te_pl P, te_am P, te_u (te_ini P) v x)
theorem i_vc_initial {k : Nat} {u : SX} {v : SY} (I : i_Rel k u v) (hk : k + 4 ≤ 2048) (v1 : Int32) (v2 : Int32) : wpX_initial (fun r u' => wpY_initial (fun r' v' => r' = r ∧ i_Rel (k + 4) u' v') v v1 v2) u v1 v2 := by
  obtain ⟨xle, xbr, xbt, xrc, xkc, xsk, xsh, xsc, xop, xpl, xod, xiv, xcu, xac, xho, xta, xro, xtu, xck, xgr, xes, xls⟩ := u
  obtain ⟨yde, yru, yki, yso, ysz, ywh, yam, yfi, yro, ydo, yva, yhe, yhn, ypl, yke, ywl, you, ypk, yen, yea⟩ := v
  obtain ⟨P, hW, hx, hy, hA, g, hg, hk⟩ := I
  unfold wpX_initial wpY_initial
  dsimp only
  rcases tz_ix v1 (n := 3) (by decide) with hb | ⟨t, ht, rfl⟩
  · exact tz_var_b hb (br_t rfl (tz_bad_b hb (br_f (by decide) ⟨rfl, ⟨P, hW, hx, hy, hA, g, hg, hk⟩⟩)))
  · have hi : vp_in (nI t) 3 := vp_in_nI ht (by decide)
    have ct : (nI t).toNatClampNeg = t := nI_clamp (by omega)
    rw [ct, hx.2.2 t ht, hy.2.2 t ht]
    refine tz_var_g ht (br_f (by decide) ?_)
    rcases tz_ix v2 (n := 8) (by decide) with hb | ⟨x, hx8, rfl⟩
    · refine tz_val_b hb (br_t rfl (tz_bad_g ht (br_t rfl ?_)))
      by_cases c : v2 < 0
      · exact br_t c ⟨rfl, ⟨P, hW, hx, hy, hA, g, hg, hk⟩⟩
      · exact br_f c (br_f (tz_gt (b := nI 8) (by decide) (hb.resolve_left c)) ⟨rfl, ⟨P, hW, hx, hy, hA, g, hg, hk⟩⟩)
    · refine tz_val_g hx8 (br_f (by decide) ⟨hi, nm_e ⟨hi, nm_e ?_⟩⟩)
      have hW' : te_W (te_Pi P t x) := by
        refine ⟨fun t' ht' => hW.1 t' ht', fun t' ht' i hi => hW.2.1 t' ht' i hi, fun v hv => ?_⟩
        show te_u (te_ini P) t x v < 8
        unfold te_u
        by_cases c : v = t
        · rw [if_pos c]; exact hx8
        · rw [if_neg c]; exact hW.2.2 v hv
      have hx' : te_XP (te_Pi P t x) xsc xop xpl xod (upd xiv t (nI x)) := ⟨fun i hi => hx.1 i hi, fun t' ht' i hi => hx.2.1 t' ht' i hi, te_A_upd (n := 3) (fun i hi => hx.2.2 i hi) t x⟩
      have hy' : te_YP (te_Pi P t x) ysz ywh yam (upd yfi t (nI x)) := ⟨fun i hi => hy.1 i hi, fun t' ht' i hi => hy.2.1 t' ht' i hi, te_A_upd (n := 3) (fun i hi => hy.2.2 i hi) t x⟩
      refine tx_explore hW' hx' (fun le br bt rc kc sk sh cu ac ho ta ro tu ck gr es ls g' hA' hg' hk2 => ?_)
      exact tz_bad_g ht (br_t rfl (br_f (nI_pos (by omega)) (br_t (nI_le (b := 7) (by omega) (by decide)) ⟨hi, nm_e ⟨hi, nm_e ⟨rfl, ⟨_, hW', hx', hy', hA', g', hg', hk2⟩⟩⟩⟩)))
end
section
/-! what is owed: the start -/
theorem i_vc0 : wpX_init (fun u => wpY_init (fun v => i_Rel 0 u v)) := by
  have hW : te_W (fun _ => 0, fun _ _ => 0, fun _ _ => 0, fun _ _ => 0, fun _ => 0) := ⟨fun t _ => Nat.zero_le _, fun t _ i _ => ⟨Nat.zero_le _, (by decide : (0 : Nat) < 3), fun _ => (by decide : (0 : Nat) < 2), (by decide : (0 : Nat) < 8)⟩, fun v _ => (by decide : (0 : Nat) < 8)⟩
  have hx : te_XP (fun _ => 0, fun _ _ => 0, fun _ _ => 0, fun _ _ => 0, fun _ => 0) (fun _ => 0) (fun _ => 0) (fun _ => 0) (fun _ => 0) (fun _ => 0) := ⟨fun t _ => rfl, fun t _ i _ => ⟨rfl, rfl, rfl⟩, fun v _ => rfl⟩
  have hy : te_YP (fun _ => 0, fun _ _ => 0, fun _ _ => 0, fun _ _ => 0, fun _ => 0) (fun _ => 0) (fun _ => 0) (fun _ => 0) (fun _ => 0) := ⟨fun t _ => rfl, fun t _ i _ => ⟨rfl, rfl⟩, fun v _ => rfl⟩
  unfold wpX_init wpY_init
  exact tx_explore hW hx (fun le br bt rc kc sk sh cu ac ho ta ro tu ck gr es ls g' hA' hg' hk2 => ⟨_, hW, hx, hy, hA', g', hg', hk2⟩)
end
