/-! LEVEL: the calls -/
def okLv (n m : Nat) (v1 v2 v3 v4 v5 v6 : Int32) : Prop := (0 ≤ v1.toInt ∧ v1.toInt < n) ∧ (0 ≤ v2.toInt ∧ v2.toInt < m) ∧ ¬ f_X11_inGrid v3 v4 = 0 ∧ ¬ f_X11_within v5 0 23 = 0 ∧ ¬ f_X11_within v6 0 3 = 0
def aEr : Nat → Nat → Prop := fun a k => a = 26 ∨ aEar a k
section
variable {G : mG} {d : Nat} {b : Nat × Nat} {h : mH} {Q : Option mV → mH → Prop}
theorem c11_level (v1 v2 v3 v4 v5 v6 : Int32) {n m : Nat} {I : Nat → Nat} {Cs : Nat → aCo} {U : aSo} {L : aLw} (hS : mSk h) (hC : cCh h n I Cs) (hI : ∀ c, c < n → 93 ≤ I c) (hU : soX h m U) (lw : lwX h L) (ok : okLw L) (K1 : ¬ okLv n m v1 v2 v3 v4 v5 v6 → Q (some (.inl (-1))) h)
    (K2 : ∀ c s x y hr wi, c < n → s < m → x < 32 → y < 32 → hr < 24 → wi < 4 → v1 = nI c → v2 = nI s → v3 = nI x → v4 = nI y → v5 = nI hr → v6 = nI wi → ∀ h', mFr2 aEr h h' → Q (some (.inl (lvA L U (Cs c) s x y hr wi))) h') : mC G kX11_level (d + 3) b [.inr (some 8), .inl v1, .inl v2, .inl v3, .inl v4, .inl v5, .inl v6] h Q := by
  refine qX11_level _ _ _ _ _ _ hS ?_
  refine c0_get v1 hS hC (fun t => ⟨_, rfl, hS, fun w3 e3 => ⟨fun _ => K1 (fun u => t u.1), fun y z => nomatch z⟩⟩) (fun c hc ec => ⟨_, rfl, hS, fun w3 e3 => ⟨fun z => (nomatch z), fun a ea => ?_⟩⟩)
  cases ea
  obtain ⟨-, ta, hX, okr, hL, hsw⟩ := hC.2.2 c hc
  refine ⟨ta, c2_hasSounder _ hS hU.1 hU.2.1 (fun t => ⟨_, rfl, hS, ta, fun _ => K1 (fun u => t u.2.1), fun z => absurd rfl z⟩) (fun s hs es => ⟨_, rfl, hS, ta, fun z => absurd z (by decide), fun _ => ⟨fun z => ?_, fun z => K1 (fun u => ?_)⟩⟩)⟩
  · have g : ¬ f_X11_inGrid v3 v4 = 0 ∧ ¬ f_X11_within v5 0 23 = 0 ∧ ¬ f_X11_within v6 0 3 = 0 := by
      rw [e3] at z
      refine ⟨fun t => z (by rw [if_pos t]), fun t => z (by rw [if_pos t]; split <;> rfl), fun t => z (by rw [if_pos t]; split <;> first | rfl | (split <;> rfl))⟩
    obtain ⟨x, y, hx, hy, ex, ey⟩ := grid_ex g.1
    obtain ⟨hr, hhr, er⟩ := wi_ex (m := 23) (by omega) g.2.1
    obtain ⟨wi, hwi, ew⟩ := wi_ex (m := 3) (by omega) g.2.2
    have K := K2 c s x y hr wi hc hs hx hy (by omega) (by omega) ec es ex ey er ew
    rw [es, ex, ey, er, ew]
    refine c2_listen (x := x) (y := y) (C := Cs c) hS hU hs (fun h1 f1 e1 => ⟨rfl, f1.1.sk hS, by rw [f1.1.2.1]; exact ta, ?_⟩)
    have hL1 : cLa h1 (I c) (Cs c) := f1.cla (fun k z => by have := hI c hc; unfold aLis at z; omega) (fun k z => by have := hI c hc; unfold aLis at z; omega) hL
    have hU1 : soX h1 m U := ⟨by rw [f1.2 _ _ (fun z => by unfold aLis at z; omega)]; exact hU.1, hU.2.1, fun i hi => ⟨by
      rw [f1.2 12 _ (fun z => by unfold aLis at z; omega), f1.2 13 _ (fun z => by unfold aLis at z; omega), f1.2 14 _ (fun z => by unfold aLis at z; omega), f1.2 15 _ (fun z => by unfold aLis at z; omega)]
      exact (hU.2.2 i hi).1, (hU.2.2 i hi).2⟩⟩
    have lw1 := lwX.fr f1 (fun a k z => by unfold aLis; omega) lw
    refine c2_loudnessAt (f1.1.sk hS) (by rw [f1.1.2.1]; exact ta) (hI c hc) hL1 hU1 hs lw1 ok hx hy e1 (fun h2 f2 => ⟨_, rfl, f2.1.sk (f1.1.sk hS), by rw [f2.1.2.1, f1.1.2.1]; exact ta, ?_⟩)
    exact K h2 ((f1.wk (fun x k z => Or.inl z.1)).tr (f2.wk (fun x k z => Or.inr z)))
  · rw [e3, if_neg u.2.2.1, if_neg u.2.2.2.1, if_neg u.2.2.2.2] at z
    exact absurd z (by decide)
theorem m_level (v1 v2 v3 v4 v5 v6 : Int32) {n m : Nat} {Cs : Nat → aCo} {U : aSo} {L : aLw} (hS : mSk h) (hC : mCh h n Cs) (hU : soM h m U) (lw : lwM h L) (ok : okLw L) (K1 : ¬ okLv n m v1 v2 v3 v4 v5 v6 → Q (some (.inl (-1))) h)
    (K2 : ∀ c s x y hr wi, c < n → s < m → x < 32 → y < 32 → hr < 24 → wi < 4 → v1 = nI c → v2 = nI s → v3 = nI x → v4 = nI y → v5 = nI hr → v6 = nI wi → ∀ h', mFr2 aLvM h h' → Q (some (.inl (lvA L U (Cs c) s x y hr wi))) h') : mC G kX12_level (d + 3) b [.inr (some 47), .inl v1, .inl v2, .inl v3, .inl v4, .inl v5, .inl v6] h Q := by
  have hn := hC.2.1
  refine qX12_level _ _ _ _ _ _ hS ?_
  rw [f_cell_eq]
  refine m_isCoast v1 hS hC (fun t => ⟨_, rfl, hS, fun _ => K1 (fun u => t u.1), fun z => absurd rfl z⟩) (fun c hc ec => ⟨_, rfl, hS, fun z => absurd z (by decide), fun _ => ?_⟩)
  refine m_isSounder v2 hS hU.1 hU.2.1 (fun t => ⟨_, rfl, hS, fun _ => K1 (fun u => t u.2.1), fun z => absurd rfl z⟩) (fun s hs es => ⟨_, rfl, hS, fun z => absurd z (by decide), fun _ => ⟨fun t => K1 (fun u => u.2.2.1 t), fun t2 => ⟨fun t => K1 (fun u => ?_), fun t3 => ?_⟩⟩⟩)
  · rcases f_air.mp t with e | e
    · exact u.2.2.2.1 e
    · exact u.2.2.2.2 e
  · obtain ⟨x, y, hx, hy, ex, ey⟩ := grid_ex t2
    obtain ⟨hr, hhr, er⟩ := wi_ex (v := v5) (m := 23) (by omega) (fun z => t3 (f_air.mpr (Or.inl z)))
    obtain ⟨wi, hwi, ew⟩ := wi_ex (v := v6) (m := 3) (by omega) (fun z => t3 (f_air.mpr (Or.inr z)))
    have K := K2 c s x y hr wi hc hs hx hy (by omega) (by omega) ec es ex ey er ew
    obtain ⟨k1, k2, k3⟩ := hC.2.2 c hc
    rw [ec, es, ex, ey, er, ew]
    exact m_levelOf hS (by omega) k3 hU hs lw ok hx hy (fun h' f' => ⟨_, rfl, f'.1.sk hS, K h' f'⟩)
end
