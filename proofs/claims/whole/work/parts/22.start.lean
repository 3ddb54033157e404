/-! what is owed: the start -/
theorem i_vc0 : wpX_init (fun u => wpY_init (fun v => i_Rel 0 u v)) := by
  have hW : te_W (fun _ => 0, fun _ _ => 0, fun _ _ => 0, fun _ _ => 0, fun _ => 0) := ⟨fun t _ => Nat.zero_le _, fun t _ i _ => ⟨Nat.zero_le _, (by decide : (0 : Nat) < 3), fun _ => (by decide : (0 : Nat) < 2), (by decide : (0 : Nat) < 8)⟩, fun v _ => (by decide : (0 : Nat) < 8)⟩
  have hx : te_XP (fun _ => 0, fun _ _ => 0, fun _ _ => 0, fun _ _ => 0, fun _ => 0) (fun _ => 0) (fun _ => 0) (fun _ => 0) (fun _ => 0) (fun _ => 0) := ⟨fun t _ => rfl, fun t _ i _ => ⟨rfl, rfl, rfl⟩, fun v _ => rfl⟩
  have hy : te_YP (fun _ => 0, fun _ _ => 0, fun _ _ => 0, fun _ _ => 0, fun _ => 0) (fun _ => 0) (fun _ => 0) (fun _ => 0) (fun _ => 0) := ⟨fun t _ => rfl, fun t _ i _ => ⟨rfl, rfl⟩, fun v _ => rfl⟩
  unfold wpX_init wpY_init
  exact tx_explore hW hx (fun le br bt rc kc sk sh cu ac ho ta ro tu ck gr es ls g' hA' hg' hk2 => ⟨_, hW, hx, hy, hA', g', hg', hk2⟩)
