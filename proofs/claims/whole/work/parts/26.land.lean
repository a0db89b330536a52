/-! LAND, both sides -/
def okLd (n : Nat) (v1 v2 v3 : Int32) : Prop := (0 ≤ v1.toInt ∧ v1.toInt < n) ∧ ¬ f_X11_inGrid v2 v3 = 0
section
variable {G : mG} {d : Nat} {b : Nat × Nat} {h : mH} {Q : Option mV → mH → Prop}
theorem b2i_if (x : Bool) : (if b2i x = 0 then (0 : Int32) else 1) = b2i x := by cases x <;> rfl
theorem c11_land (v1 v2 v3 : Int32) {n : Nat} {I : Nat → Nat} {Cs : Nat → aCo} (hS : mSk h) (hC : cCh h n I Cs) (K1 : ¬ okLd n v1 v2 v3 → Q (some (.inl (-1))) h)
    (K2 : ∀ c x y, c < n → x < 32 → y < 32 → v1 = nI c → v2 = nI x → v3 = nI y → Q (some (.inl (b2i (coLand (Cs c) x y)))) h) : mC G kX11_land (d + 1) b [.inr (some 8), .inl v1, .inl v2, .inl v3] h Q := by
  refine qX11_land _ _ _ hS ?_
  refine c0_get v1 hS hC (fun t => ⟨_, rfl, hS, ⟨fun _ => K1 (fun u => t u.1), fun y z => nomatch z⟩⟩) (fun c hc ec => ⟨_, rfl, hS, ⟨fun z => (nomatch z), fun a ea => ?_⟩⟩)
  cases ea
  obtain ⟨-, ta, hX, ok, hL, hsw⟩ := hC.2.2 c hc
  refine ⟨ta, fun z => ?_, fun z => K1 (fun u => u.2 z)⟩
  obtain ⟨x, y, hx, hy, ex, ey⟩ := grid_ex z
  have K := K2 c x y hc hx hy ec ex ey
  rw [ex, ey]
  refine c1_isLand hS ta hL hx hy ⟨_, rfl, hS, ta, fun w e => ?_⟩
  rw [e, b2i_if]; exact K
theorem m_land (v1 v2 v3 : Int32) {n : Nat} {Cs : Nat → aCo} (hS : mSk h) (hC : mCh h n Cs) (K1 : ¬ okLd n v1 v2 v3 → Q (some (.inl (-1))) h)
    (K2 : ∀ c x y, c < n → x < 32 → y < 32 → v1 = nI c → v2 = nI x → v3 = nI y → Q (some (.inl (b2i (coLand (Cs c) x y)))) h) : mC G kX12_land (d + 1) b [.inr (some 47), .inl v1, .inl v2, .inl v3] h Q := by
  have hn := hC.2.1
  refine qX12_land _ _ _ hS ?_
  rw [f_cell_eq]
  refine m_isCoast v1 hS hC (fun t => ⟨_, rfl, hS, fun _ => K1 (fun u => t u.1), fun z => absurd rfl z⟩) (fun c hc ec => ⟨_, rfl, hS, fun z => absurd z (by decide), fun _ => ⟨fun t2 => ?_, fun t => K1 (fun u => u.2 t)⟩⟩)
  obtain ⟨x, y, hx, hy, ex, ey⟩ := grid_ex t2
  have K := K2 c x y hc hx hy ec ex ey
  obtain ⟨k1, k2, k3⟩ := hC.2.2 c hc
  rw [ec, ex, ey]
  refine m_isLandAt hS (by omega) hx hy k3 ⟨_, rfl, hS, fun w e => ?_⟩
  rw [e, b2i_if]; exact K
end
