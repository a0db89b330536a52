/-! the calls, one by one: what asks the survey -/
section
variable {G : mG} {D : Nat} {b : Nat × Nat} {h : mH} {Q : Option mV → mH → Prop} {P : mH → Prop} {T : Prop → Prop} {W : aW} {I : Nat → Nat} {n j : Nat} {t : Nat → Nat} {CH : aCc}
theorem cIn.su {A : Nat → Nat → Prop} {h1 : mH} (C : cIn h W I n t CH j) (f1 : mFr2 A h h1) (hA : ∀ x k, A x k → aSu x k ∨ x = 37) (st1 : cSt h1 W I) (k1 : flK h h1 W I) (s1 : suC h1 W I) : cIn h1 W I n t CH j := by
  obtain ⟨c1, -, c3, c4, c5⟩ := C.2.2.2.2.2.2
  have g : ∀ x k, (x = 8 ∨ (x = 28 ∧ 10 ≤ k) ∨ x = 32 ∨ x = 38 ∨ x = 40 ∨ x = 41) → ¬ A x k := fun x k q z => by have := hA x k z; unfold aSu aF1 aEr aEar at this; omega
  exact C.q f1 (fun x k z => by have := hA x k z; unfold aSu aF1 aEr aEar at this; unfold qC; omega) st1 ⟨c1.fr f1 (g _ _ (by omega)) (fun k hk => g _ _ (by omega)) (fun k => g _ _ (by omega)), s1, c3.fr f1 (g _ _ (by omega)) (fun k _ => g _ _ (by omega)), c4.fr f1 (g _ _ (by omega)) (fun k _ => g _ _ (by omega)), c5.fr f1 (g _ _ (by omega)) (fun k => g _ _ (by omega)) (fun k => g _ _ (by omega)) (g _ _ (by omega)) (g _ _ (by omega))⟩
theorem aSu37 {x k : Nat} (z : aSu x k ∨ x = 37) : qC x k := by unfold aSu aF1 aEr aEar at z; unfold qC; omega
theorem op_sure (v1 v2 v3 : Int32) (C : cIn h W I n t CH j) (M : mIn h W n t CH) (hT : ∀ p : Prop, p → T p) (K : inK P j) : mC G kX11_sure (D + 30) b [.inr (some 8), .inl v1, .inl v2, .inl v3] h (opR G (D + 30) kX12_sure [.inr (some 47), .inl v1, .inl v2, .inl v3] T P Q) := by
  have KK : P h := K h W I n t CH j C M (by omega)
  have fi : ∀ x k, aFi x k → mQ x k := fun x k z => by unfold aFi aFo at z; unfold mQ; omega
  have okk : ∀ x y w, x < 32 → y < 32 → w ≤ 2 → v1 = nI x → v2 = nI y → v3 = nI w → (¬ f_X11_inGrid v1 v2 = 0 ∧ ¬ f_X11_within v3 0 2 = 0) := by
    intro x y w hx hy hw e1 e2 e3
    subst e1; subst e2; subst e3
    exact ⟨gi_n x hx y hy, wi_n (m := 2) (by omega) (by omega)⟩
  refine c11_sure v1 v2 v3 C.1 C.2.1 C.2.2.2.2.2.2.2.1 (fun u => ⟨_, rfl, C.1, hT _ ?_⟩) (fun x y w hx hy hw e1 e2 e3 h1 f1 s1 k1 c1 => ?_)
  · exact m_sure v1 v2 v3 C.1 M.1 (fun _ => ⟨_, rfl, C.1, fun _ => KK, fun w => absurd rfl w⟩) (fun x y w hx hy hw e1 e2 e3 => (u (okk x y w hx hy hw e1 e2 e3)).elim)
  · have C1 := C.su f1 (fun x k z => Or.inl z) s1 k1 c1
    have M1 := q_m M f1 (fun x k z => aSu_q z)
    have mk : ∀ r : Int32, (noFit W → r = -2) → (¬ noFit W → r = surA W x y w) → opR G (D + 30) kX12_sure [.inr (some 47), .inl v1, .inl v2, .inl v3] T P Q (some (.inl r)) h1 := by
      intro r r1 r2
      refine ⟨_, rfl, C1.1, hT _ ?_⟩
      refine m_sure v1 v2 v3 C1.1 M1.1 (fun u => (u (okk x y w hx hy hw e1 e2 e3)).elim) (fun x' y' w' hx' hy' hw' e1' e2' e3' h2 f2 => ⟨fun nf => ⟨_, rfl, f2.1.sk C1.1, fun _ => mq f2 fi C1 M1 K (by omega), fun u => (u (r1 nf)).elim⟩, fun nf => ⟨_, rfl, f2.1.sk C1.1, fun _ => mq f2 fi C1 M1 K (by omega), fun u => (u ?_).elim⟩⟩)
      rw [r2 nf, nE e1 e1' (by omega) (by omega), nE e2 e2' (by omega) (by omega), nE e3 e3' (by omega) (by omega)]
    exact ⟨fun nf => mk _ (fun _ => rfl) (fun u => absurd nf u), fun nf => mk _ (fun u => absurd u nf) (fun _ => rfl)⟩
theorem op_pool (v1 v2 v3 : Int32) (C : cIn h W I n t CH j) (M : mIn h W n t CH) (hT : ∀ p : Prop, p → T p) (K : inK P j) : mC G kX11_pool (D + 30) b [.inr (some 8), .inl v1, .inl v2, .inl v3] h (opR G (D + 30) kX12_pool [.inr (some 47), .inl v1, .inl v2, .inl v3] T P Q) := by
  have KK : P h := K h W I n t CH j C M (by omega)
  have fi : ∀ x k, (aSr x k ∨ aSp x k) → mQ x k := fun x k z => by unfold aSr aSp aFi aFo at z; unfold mQ; omega
  have okk : ∀ x y w, x < 32 → y < 32 → w ≤ 2 → v1 = nI x → v2 = nI y → v3 = nI w → (¬ f_X11_inGrid v1 v2 = 0 ∧ ¬ f_X11_within v3 0 2 = 0) := by
    intro x y w hx hy hw e1 e2 e3
    subst e1; subst e2; subst e3
    exact ⟨gi_n x hx y hy, wi_n (m := 2) (by omega) (by omega)⟩
  refine c11_pool v1 v2 v3 C.1 C.2.1 C.2.2.2.2.2.2.2.1 (fun u => ⟨_, rfl, C.1, hT _ ?_⟩) (fun x y w hx hy hw e1 e2 e3 h1 f1 s1 k1 c1 => ?_)
  · exact m_pool v1 v2 v3 C.1 M.1 (fun _ => ⟨_, rfl, C.1, fun _ => KK, fun w => absurd rfl w⟩) (fun x y w hx hy hw e1 e2 e3 => (u (okk x y w hx hy hw e1 e2 e3)).elim)
  · have C1 := C.su f1 (fun x k z => z) s1 k1 c1
    have M1 := q_m M f1 (fun x k z => aSu37 z)
    have mk : ∀ r : Int32, (noFit W → r = -2) → (¬ noFit W → r = nI (poA W x y w)) → opR G (D + 30) kX12_pool [.inr (some 47), .inl v1, .inl v2, .inl v3] T P Q (some (.inl r)) h1 := by
      intro r r1 r2
      refine ⟨_, rfl, C1.1, hT _ ?_⟩
      refine m_pool v1 v2 v3 C1.1 M1.1 (fun u => (u (okk x y w hx hy hw e1 e2 e3)).elim) (fun x' y' w' hx' hy' hw' e1' e2' e3' h2 f2 => ⟨fun nf => ⟨_, rfl, f2.1.sk C1.1, fun _ => mq f2 fi C1 M1 K (by omega), fun u => (u (r1 nf)).elim⟩, fun nf => ⟨_, rfl, f2.1.sk C1.1, fun _ => mq f2 fi C1 M1 K (by omega), fun u => (u ?_).elim⟩⟩)
      rw [r2 nf, nE e1 e1' (by omega) (by omega), nE e2 e2' (by omega) (by omega), nE e3 e3' (by omega) (by omega)]
    exact ⟨fun nf => mk _ (fun _ => rfl) (fun u => absurd nf u), fun nf => mk _ (fun u => absurd u nf) (fun _ => rfl)⟩
theorem op_count (v1 : Int32) (C : cIn h W I n t CH j) (M : mIn h W n t CH) (hT : ∀ p : Prop, p → T p) (K : inK P j) : mC G kX11_count (D + 30) b [.inr (some 8), .inl v1] h (opR G (D + 30) kX12_count [.inr (some 47), .inl v1] T P Q) := by
  have fi : ∀ x k, aFi x k → mQ x k := fun x k z => by unfold aFi aFo at z; unfold mQ; omega
  refine c11_count v1 C.1 C.2.1 C.2.2.2.2.2.2.2.1 C.2.2.1.1 C.2.2.2.1.1 (fun h1 f1 s1 k1 c1 => ?_)
  have C1 := C.su f1 (fun x k z => Or.inl z) s1 k1 c1
  have M1 := q_m M f1 (fun x k z => aSu_q z)
  exact ⟨_, rfl, C1.1, hT _ (m_count v1 C1.1 M1.1 M1.2.1.1 M1.2.2.1 (fun h2 f2 => ⟨_, rfl, f2.1.sk C1.1, fun _ => mq f2 fi C1 M1 K (by omega), fun u => absurd rfl u⟩))⟩
theorem op_next (v1 : Int32) (C : cIn h W I n t CH j) (M : mIn h W n t CH) (hT : ∀ p : Prop, p → T p) (K : inK P j) : mC G kX11_next (D + 30) b [.inr (some 8), .inl v1] h (opR G (D + 30) kX12_next [.inr (some 47), .inl v1] T P Q) := by
  have KK : P h := K h W I n t CH j C M (by omega)
  have fi : ∀ x k, (aSt x k ∨ a86 x k) → mQ x k := fun x k z => by unfold aSt a86 aFo at z; unfold mQ; omega
  refine c11_next v1 C.1 C.2.1 C.2.2.2.1 C.2.2.2.2.2.2.2.1 C.2.2.2.2.2.2.2.2.1 (fun u => ⟨_, rfl, C.1, hT _ ?_⟩) (fun u1 u2 => ⟨_, rfl, C.1, hT _ ?_⟩) (fun w hw e1 c0 l0 h1 f1 s1 k1 c1 w1 e4 => ?_)
  · exact m_next v1 C.1 M.1 M.2.2 (fun _ => ⟨_, rfl, C.1, fun _ => KK, fun w => absurd rfl w⟩) (fun u' => absurd u u') (fun w hw e1 => (wi_n (q := w) (m := 3) hw (by omega) (by rw [← e1]; exact u)).elim)
  · refine m_next v1 C.1 M.1 M.2.2 (fun u' => absurd u' u1) (fun _ _ => ⟨_, rfl, C.1, fun _ => KK, fun w => absurd rfl w⟩) (fun w hw e1 c0 l0 => ?_)
    rcases u2 with u2 | u2
    · exact absurd u2 c0
    · omega
  · obtain ⟨p1, -, -, p4, p5⟩ := C.2.2.2.2.2.2
    have g : ∀ x k, (x = 8 ∨ (x = 28 ∧ 10 ≤ k) ∨ x = 32 ∨ x = 38 ∨ x = 40 ∨ (x = 41 ∧ (k = 8 ∨ k = 9 ∨ k = 13))) → ¬ (aSu x k ∨ aWe x k) := fun x k q z => by unfold aSu aF1 aEr aEar aWe at z; omega
    have w2 : w2C h1 W CH := by
      refine ⟨fun z => ?_, by rw [f1.2 _ _ (g 41 13 (by omega)), f1.2 _ _ (g 8 7 (by omega))]; exact p4.2⟩
      rw [f1.2 _ _ (g 41 13 (by omega)), f1.2 _ _ (g 8 7 (by omega))] at z
      obtain ⟨q1, q2⟩ := p4.1 z
      exact ⟨e4, fun i hi => by rw [f1.2 _ _ (g 41 8 (by omega)), f1.2 _ _ (g 41 9 (by omega))]; exact q2 i hi⟩
    have qa : ∀ x k, (aSu x k ∨ aWe x k) → qC x k := fun x k z => by unfold aSu aF1 aEr aEar aWe at z; unfold qC; omega
    have C1 : cIn h1 W I n t CH j := C.q f1 qa s1 ⟨p1.fr f1 (g _ _ (by omega)) (fun k hk => g _ _ (by omega)) (fun k => g _ _ (by omega)), c1, w1, w2, ⟨p5.1.fr f1 (g _ _ (by omega)) (fun k => g _ _ (by omega)) (fun k => g _ _ (by omega)), fun _ => l0, fun _ => l0⟩⟩
    have M1 := q_m M f1 qa
    have mk : ∀ r : Int32, (stN W = 0 → r = -2) → (0 < stN W → r = nxA W CH w) → opR G (D + 30) kX12_next [.inr (some 47), .inl v1] T P Q (some (.inl r)) h1 := by
      intro r r1 r2
      refine ⟨_, rfl, C1.1, hT _ ?_⟩
      refine m_next v1 C1.1 M1.1 M1.2.2 (fun u => (wi_n (q := w) (m := 3) hw (by omega) (by rw [← e1]; exact u)).elim) (fun _ u2 => ?_) (fun w' hw' e1' _ _ h2 f2 => ⟨fun nf => ⟨_, rfl, f2.1.sk C1.1, fun _ => mq f2 fi C1 M1 K (by omega), fun u => (u (r1 nf)).elim⟩, fun nf => ⟨_, rfl, f2.1.sk C1.1, fun _ => mq f2 fi C1 M1 K (by omega), fun u => (u ?_).elim⟩⟩)
      · rcases u2 with u2 | u2
        · exact absurd u2 c0
        · omega
      · rw [r2 nf, nE e1 e1' (by omega) (by omega)]
    exact ⟨fun nf => mk _ (fun _ => rfl) (fun u => by omega), fun nf => mk _ (fun u => by omega) (fun _ => rfl)⟩
theorem op_ahead (v1 : Int32) (C : cIn h W I n t CH j) (M : mIn h W n t CH) (hT : ∀ p : Prop, p → T p) (K : inK P j) : mC G kX11_ahead (D + 30) b [.inr (some 8), .inl v1] h (opR G (D + 30) kX12_ahead [.inr (some 47), .inl v1] T P Q) := by
  have KK : P h := K h W I n t CH j C M (by omega)
  have fi : ∀ x k, (aSt x k ∨ a86 x k ∨ a87 x k) → mQ x k := fun x k z => by unfold aSt a86 a87 aFo at z; unfold mQ; omega
  refine c11_ahead v1 C.1 C.2.1 C.2.2.2.1 C.2.2.2.2.2.2.2.1 C.2.2.2.2.2.2.2.2.2.1 (fun u => ⟨_, rfl, C.1, hT _ ?_⟩) (fun u1 u2 => ⟨_, rfl, C.1, hT _ ?_⟩) (fun w hw e1 c0 l0 h1 f1 s1 k1 c1 w1 e4 => ?_)
  · exact m_ahead v1 C.1 M.1 M.2.2 (fun _ => ⟨_, rfl, C.1, fun _ => KK, fun w => absurd rfl w⟩) (fun u' => absurd u u') (fun w hw e1 => (wi_n (q := w) (m := 1) hw (by omega) (by rw [← e1]; exact u)).elim)
  · refine m_ahead v1 C.1 M.1 M.2.2 (fun u' => absurd u' u1) (fun _ _ => ⟨_, rfl, C.1, fun _ => KK, fun w => absurd rfl w⟩) (fun w hw e1 c0 l0 => ?_)
    rcases u2 with u2 | u2
    · exact absurd u2 c0
    · omega
  · obtain ⟨p1, -, p3, -, p5⟩ := C.2.2.2.2.2.2
    have g : ∀ x k, (x = 8 ∨ (x = 28 ∧ 10 ≤ k) ∨ x = 32 ∨ x = 38 ∨ x = 40 ∨ (x = 41 ∧ (k = 5 ∨ k = 6 ∨ k = 7 ∨ k = 12))) → ¬ (aSu x k ∨ aW2 x k) := fun x k q z => by unfold aSu aF1 aEr aEar aW2 at z; omega
    have we : weC h1 W CH := by
      refine ⟨fun z => ?_, by rw [f1.2 _ _ (g 41 12 (by omega)), f1.2 _ _ (g 8 7 (by omega))]; exact p3.2⟩
      rw [f1.2 _ _ (g 41 12 (by omega)), f1.2 _ _ (g 8 7 (by omega))] at z
      obtain ⟨q1, q2⟩ := p3.1 z
      exact ⟨e4, fun i hi => by rw [f1.2 _ _ (g 41 5 (by omega)), f1.2 _ _ (g 41 6 (by omega)), f1.2 _ _ (g 41 7 (by omega))]; exact q2 i hi⟩
    have qa : ∀ x k, (aSu x k ∨ aW2 x k) → qC x k := fun x k z => by unfold aSu aF1 aEr aEar aW2 at z; unfold qC; omega
    have C1 : cIn h1 W I n t CH j := C.q f1 qa s1 ⟨p1.fr f1 (g _ _ (by omega)) (fun k hk => g _ _ (by omega)) (fun k => g _ _ (by omega)), c1, we, w1, ⟨p5.1.fr f1 (g _ _ (by omega)) (fun k => g _ _ (by omega)) (fun k => g _ _ (by omega)), fun _ => l0, fun _ => l0⟩⟩
    have M1 := q_m M f1 qa
    have mk : ∀ r : Int32, (stN W = 0 → r = -2) → (0 < stN W → r = ahA W CH w) → opR G (D + 30) kX12_ahead [.inr (some 47), .inl v1] T P Q (some (.inl r)) h1 := by
      intro r r1 r2
      refine ⟨_, rfl, C1.1, hT _ ?_⟩
      refine m_ahead v1 C1.1 M1.1 M1.2.2 (fun u => (wi_n (q := w) (m := 1) hw (by omega) (by rw [← e1]; exact u)).elim) (fun _ u2 => ?_) (fun w' hw' e1' _ _ h2 f2 => ⟨fun nf => ⟨_, rfl, f2.1.sk C1.1, fun _ => mq f2 fi C1 M1 K (by omega), fun u => (u (r1 nf)).elim⟩, fun nf => ⟨_, rfl, f2.1.sk C1.1, fun _ => mq f2 fi C1 M1 K (by omega), fun u => (u ?_).elim⟩⟩)
      · rcases u2 with u2 | u2
        · exact absurd u2 c0
        · omega
      · rw [r2 nf, nE e1 e1' (by omega) (by omega)]
    exact ⟨fun nf => mk _ (fun _ => rfl) (fun u => by omega), fun nf => mk _ (fun u => by omega) (fun _ => rfl)⟩
theorem op_wayIn (v1 v2 v3 v4 v5 : Int32) (C : cIn h W I n t CH j) (M : mIn h W n t CH) (hT : ∀ p : Prop, p → T p) (K : inK P j) : mC G kX11_wayIn (D + 30) b [.inr (some 8), .inl v1, .inl v2, .inl v3, .inl v4, .inl v5] h (opR G (D + 30) kX12_wayIn [.inr (some 47), .inl v1, .inl v2, .inl v3, .inl v4, .inl v5] T P Q) := by
  have KK : P h := K h W I n t CH j C M (by omega)
  have fi : ∀ x k, aWm x k → mQ x k := fun x k z => by unfold aWm aSr aFi aFo at z; unfold mQ; omega
  have okk : ∀ x y x' y', x < 32 → y < 32 → x' < 32 → y' < 32 → v1 = nI x → v2 = nI y → v3 = nI x' → v4 = nI y' → ¬ f_X11_within v5 (-1) 100 = 0 → (¬ f_X11_inGrid v1 v2 = 0 ∧ ¬ f_X11_inGrid v3 v4 = 0 ∧ ¬ f_X11_within v5 (-1) 100 = 0) := by
    intro x y x' y' hx hy hx' hy' e1 e2 e3 e4 e5
    subst e1; subst e2; subst e3; subst e4
    exact ⟨gi_n x hx y hy, gi_n x' hx' y' hy', e5⟩
  refine c11_wayIn v1 v2 v3 v4 v5 C.1 C.2.1 C.2.2.2.2.2.2.2.1 C.2.2.2.2.2.2.2.2.2.2.1 (fun u => ⟨_, rfl, C.1, hT _ ?_⟩) (fun x y x' y' hx hy hx' hy' e1 e2 e3 e4 e5 h1 r f1 s1 k1 c1 w1 iw => ?_)
  · exact m_wayIn v1 v2 v3 v4 v5 C.1 M.1 (fun _ => ⟨_, rfl, C.1, fun _ => KK, fun w => absurd rfl w⟩) (fun x y x' y' hx hy hx' hy' e1 e2 e3 e4 e5 => (u (okk x y x' y' hx hy hx' hy' e1 e2 e3 e4 e5)).elim)
  · obtain ⟨p1, -, p3, p4, p5⟩ := C.2.2.2.2.2.2
    have g : ∀ x k, (x = 8 ∨ (x = 28 ∧ 10 ≤ k) ∨ x = 32 ∨ x = 41) → ¬ (aSu x k ∨ aWy x k) := fun x k q z => by unfold aSu aF1 aEr aEar aWy at z; omega
    have qa : ∀ x k, (aSu x k ∨ aWy x k) → qC x k := fun x k z => by unfold aSu aF1 aEr aEar aWy at z; unfold qC; omega
    have C1 : cIn h1 W I n t CH j := C.q f1 qa s1 ⟨p1.fr f1 (g _ _ (by omega)) (fun k hk => g _ _ (by omega)) (fun k => g _ _ (by omega)), c1, p3.fr f1 (g _ _ (by omega)) (fun k _ => g _ _ (by omega)), p4.fr f1 (g _ _ (by omega)) (fun k _ => g _ _ (by omega)), w1, fun z => p5.2.1 (by rw [f1.2 _ _ (g 8 7 (by omega)), f1.2 _ _ (g 41 12 (by omega))] at z; exact z), fun z => p5.2.2 (by rw [f1.2 _ _ (g 8 7 (by omega)), f1.2 _ _ (g 41 13 (by omega))] at z; exact z)⟩
    have M1 := q_m M f1 qa
    refine ⟨_, rfl, C1.1, hT _ ?_⟩
    refine m_wayIn v1 v2 v3 v4 v5 C1.1 M1.1 (fun u => (u (okk x y x' y' hx hy hx' hy' e1 e2 e3 e4 e5)).elim) (fun a b c d ha hb hc hd i1 i2 i3 i4 _ h2 r2 f2 _ iw2 => ⟨_, rfl, f2.1.sk C1.1, fun _ => mq f2 fi C1 M1 K (by omega), fun u => (u ?_).elim⟩)
    have q1 := nE e1 i1 (by omega) (by omega)
    have q2 := nE e2 i2 (by omega) (by omega)
    have q3 := nE e3 i3 (by omega) (by omega)
    have q4 := nE e4 i4 (by omega) (by omega)
    subst q1; subst q2; subst q3; subst q4
    exact isWy_one iw iw2
end
