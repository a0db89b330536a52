/-! the calls, one by one: what changes -/
/-- what a change may write below the cells of its own -/
def chA (x k : Nat) : Prop := (x = 33 ∧ k = 1) ∨ (x = 8 ∧ k = 7) ∨ (x = 28 ∧ 1 ≤ k ∧ k ≤ 5) ∨ (x = 9 ∧ k = 1)
section
variable {G : mG} {D : Nat} {b : Nat × Nat} {h : mH} {Q : Option mV → mH → Prop} {P : mH → Prop} {T : Prop → Prop} {W : aW} {I : Nat → Nat} {n j : Nat} {t : Nat → Nat} {CH : aCc}
theorem chX.ci {h' : mH} (c : chX h CH) (e : ∀ x k, (x = 41 ∧ k = 3) ∨ (42 ≤ x ∧ x ≤ 44) → mI h' x k = mI h x k) : chX h' CH := by
  obtain ⟨c1, c2, c3⟩ := c
  refine ⟨by rw [e _ _ (by omega)]; exact c1, c2, fun i hi hb => ?_⟩
  rw [e _ _ (by omega), e _ _ (by omega), e _ _ (by omega)]
  exact c3 i hi hb
theorem cIn.lk {A : Nat → Nat → Prop} {h' : mH} {W' : aW} {I' : Nat → Nat} {n' : Nat} {t' : Nat → Nat} (C : cIn h W I n t CH j) (hj : j + 1 < 90000) (hS' : mSk h') (st' : cSt h' W' I') (l : lwK A h h') (hA : ∀ x k, x < 93 → A x k → chA x k) (tp' : tpX h' n' t') (e8 : mI h' 8 7 = mI h 8 7 + 1) : cIn h' W' I' n' t' CH (j + 1) := by
  obtain ⟨hS, st, tp, ch, sp, ⟨e8', -⟩, ca⟩ := C
  have g : ∀ x k, x < 93 → ¬ chA x k → mI h' x k = mI h x k := fun x k hx q => l.1 x k hx (fun z => q (hA x k hx z))
  have e9 : mI h' 8 7 = nI (j + 1) := by rw [e8, e8', nI_1]
  refine ⟨hS', st', tp', ch.ci (fun x k z => g x k (by omega) (by unfold chA; omega)), ?_, ⟨e9, hj⟩, ca.up e8' (by omega) e9 (fun x k z => g x k (by omega) (by unfold chA; omega))⟩
  obtain ⟨l1, l2, h1, h2, h3, h4, h5⟩ := sp
  exact ⟨l1, l2, h1, by rw [l.2]; exact h2, by rw [l.2]; exact h3, by rw [g _ _ (by omega) (by unfold chA; omega)]; exact h4, by rw [g _ _ (by omega) (by unfold chA; omega)]; exact h5⟩
theorem tpX.lk {A : Nat → Nat → Prop} {h' : mH} (tp : tpX h n t) (l : lwK A h h') (h9 : ¬ A 9 1) (h10 : ∀ k, ¬ A 10 k) : tpX h' n t := ⟨by rw [l.1 _ _ (by omega) h9]; exact tp.1, tp.2.1, fun j hj => ⟨(tp.2.2 j hj).1, by rw [l.1 _ _ (by omega) (h10 _)]; exact (tp.2.2 j hj).2⟩⟩
theorem tp0 {h' : mH} (e : mI h' 9 1 = 0) : tpX h' 0 t := ⟨e, by omega, fun j hj => by omega⟩
theorem tm0 {h' : mH} (e : mI h' 47 12 = 0) : tpM h' 0 t := ⟨e, by omega, fun j hj => by omega⟩
theorem mIn.lk {A : Nat → Nat → Prop} {h' : mH} (M : mIn h W n t CH) (l : lwK A h h') (hA : ∀ x k, x < 93 → A x k → chA x k) : mIn h' W n t CH := M.ci (fun x k q1 q2 => l.1 x k (by omega) (fun z => by have := hA x k (by omega) z; unfold chA at this; omega))
/-- the class's tape -/
theorem cIn.tp {h' : mH} {n' : Nat} {t' : Nat → Nat} (C : cIn h W I n t CH j) (f : mFr2 aTape h h') (tp : tpX h' n' t') : cIn h' W I n' t' CH j := by
  obtain ⟨hS, st, -, ch, sp, ⟨e8, hj⟩, ca⟩ := C
  have g : ∀ x k, x ≠ 9 → x ≠ 10 → ¬ aTape x k := fun x k q1 q2 z => by unfold aTape at z; omega
  refine ⟨f.1.sk hS, st.lo f (fun x k z => ⟨by unfold aTape at z; omega, by unfold aTape at z; unfold wl0; omega⟩), tp, ch.fr f (g _ _ (by omega) (by omega)) (fun a k _ _ => g _ _ (by omega) (by omega)), ?_, ⟨by rw [f.2 _ _ (g _ _ (by omega) (by omega))]; exact e8, hj⟩, ca.fr f (flK.lo st.1 f (fun x k q z => by unfold aTape at z; omega)) (fun x k z => g _ _ (by unfold caK at z; omega) (by unfold caK at z; omega))⟩
  obtain ⟨l1, l2, h1, h2, h3, h4, h5⟩ := sp
  exact ⟨l1, l2, h1, by rw [f.1.2.2.2]; exact h2, by rw [f.1.2.2.2]; exact h3, by rw [f.2 _ _ (g _ _ (by omega) (by omega))]; exact h4, by rw [f.2 _ _ (g _ _ (by omega) (by omega))]; exact h5⟩
theorem mIn.tp {A : Nat → Nat → Prop} {h' : mH} {W' : aW} {n' : Nat} {t' : Nat → Nat} (M : mIn h W n t CH) (f : mFr2 A h h') (hA : ∀ x k, A x k → ¬ ((x = 47 ∧ k = 52) ∨ (81 ≤ x ∧ x ≤ 83))) (w : mWo h' W') (tp : tpM h' n' t') : mIn h' W' n' t' CH :=
  ⟨w, tp, M.2.2.fr f (fun z => hA _ _ z (by omega)) (fun a k q1 q2 z => hA _ _ z (by omega))⟩
theorem op_feed (v1 v2 v3 v4 v5 : Int32) (C : cIn h W I n t CH j) (M : mIn h W n t CH) (hT : ∀ p : Prop, p → T p) (K : inK P j) : mC G kX11_feed (D + 30) b [.inr (some 8), .inl v1, .inl v2, .inl v3, .inl v4, .inl v5] h (opR G (D + 30) kX12_feed [.inr (some 47), .inl v1, .inl v2, .inl v3, .inl v4, .inl v5] T P Q) := by
  refine c_feed v1 v2 v3 v4 v5 C.1 C.2.2.1 (fun u => ⟨_, rfl, C.1, hT _ ?_⟩) (fun u h1 f1 t1 => ?_)
  · exact m_feed v1 v2 v3 v4 v5 C.1 M.2.1 (fun _ => ⟨_, rfl, C.1, fun _ => K h W I n t CH j C M (by omega), fun w => absurd rfl w⟩) (fun w => by omega)
  · have C1 := C.tp f1 t1
    have M1 : mIn h1 W n t CH := M.ci (fun x k q1 q2 => f1.2 _ _ (fun z => by unfold aTape at z; omega))
    refine ⟨_, rfl, C1.1, hT _ ?_⟩
    refine m_feed v1 v2 v3 v4 v5 C1.1 M1.2.1 (fun w => by omega) (fun _ h2 f2 t2 => ⟨_, rfl, f2.1.sk C1.1, fun _ => K h2 W I _ _ CH j (C1.fr f2 (fun x k z => by unfold aTpM at z; omega)) (M1.tp f2 (fun x k z => by unfold aTpM at z; omega) (M1.1.fr f2 (fun a k z q => by unfold aTpM at q; unfold dM at z; omega)) t2) (by omega), fun w => absurd rfl w⟩)
theorem op_check (v1 v2 : Int32) (C : cIn h W I n t CH j) (M : mIn h W n t CH) (hT : ∀ p : Prop, p → T p) (K : inK P j) : mC G kX11_check (D + 30) b [.inr (some 8), .inl v1, .inl v2] h (opR G (D + 30) kX12_check [.inr (some 47), .inl v1, .inl v2] T P Q) := by
  have hn8 := C.2.1.1.1.2.1
  have okk : ∀ c w, c < wn W → w ≤ 32 → v1 = nI c → v2 = nI w → 4 * w ≤ n → okCk (wn W) n v1 v2 := by
    intro c w hc hw e1 e2 h4
    subst e1; subst e2
    exact ⟨ti_n hc (by omega), wi_n (m := 32) hw (by omega), by rw [nI_toI (by omega)]; omega⟩
  refine c11_check v1 v2 C.1 C.2.1.1.1 C.2.2.1 (fun u => ⟨_, rfl, C.1, hT _ ?_⟩) (fun c w r hc hw e1 e2 h4 ck => ?_)
  · exact m_check v1 v2 C.1 M.1.1 M.2.1 (fun _ => ⟨_, rfl, C.1, fun _ => K h W I n t CH j C M (by omega), fun w => absurd rfl w⟩) (fun c w r hc hw e1 e2 h4 ck => (u (okk c w hc hw e1 e2 h4)).elim)
  · have f1 : mFr2 aTape h (mSI h 9 1 0) := mFr2.SI (Or.inr ⟨rfl, rfl⟩)
    have C1 := C.tp f1 (tp0 (t := t) (mI_SI_s))
    have M1 : mIn (mSI h 9 1 0) W n t CH := M.ci (fun x k q1 q2 => f1.2 _ _ (fun z => by unfold aTape at z; omega))
    refine ⟨_, rfl, C1.1, hT _ ?_⟩
    refine m_check v1 v2 C1.1 M1.1.1 M1.2.1 (fun u => (u (okk c w hc hw e1 e2 h4)).elim) (fun c' w' r' hc' hw' e1' e2' h4' ck' => ?_)
    have f2 : mFr2 (fun x k => x = 47 ∧ k = 12) (mSI h 9 1 0) (mSI (mSI h 9 1 0) 47 12 0) := mFr2.SI ⟨rfl, rfl⟩
    refine ⟨_, rfl, f2.1.sk C1.1, fun _ => K _ W I 0 t CH j (C1.fr f2 (fun x k z => by omega)) (M1.tp f2 (fun x k z => by omega) (M1.1.fr f2 (fun a k z q => by unfold dM at z; omega)) (tm0 mI_SI_s)) (by omega), fun u => (u ?_).elim⟩
    have q1 := nE e1 e1' (by omega) (by omega)
    have q2 := nE e2 e2' (by omega) (by omega)
    subst q1; subst q2
    exact isCk_one ck ck'
theorem op_coast (v1 : Int32) (C : cIn h W I n t CH j) (hj : j + 1 < 90000) (M : mIn h W n t CH) (hT : ∀ p : Prop, p → T p) (K : inK P j) : mC G kX11_coast (D + 30) (9, 5760) [.inr (some 8), .inl v1] h (opR G (D + 30) kX12_coast [.inr (some 47), .inl v1] T P Q) := by
  refine c11_coast (b1 := 0) (b2 := 0) v1 C.1 C.2.1 C.2.2.1 (fun u => ⟨_, rfl, C.1, hT _ ?_⟩) (fun m p ok e1 hm bd h1 f1 e9 s1 => ?_) (fun m ok e1 hm nb h1 hS1 l1 hN e8 e9 s1 => ?_)
  · exact m_coast v1 C.1 M.1 M.2.1 (fun _ => ⟨_, rfl, C.1, fun _ => K h W I n t CH j C M (by omega), fun w => absurd rfl w⟩) (fun m p ok => (u ok).elim) (fun m ok => (u ok).elim)
  · have C1 := C.tp (f1.wk (fun x k z => Or.inr z)) (tp0 (t := t) e9)
    have M1 : mIn h1 W n t CH := M.ci (fun x k q1 q2 => f1.2 _ _ (fun z => by omega))
    refine ⟨_, rfl, C1.1, hT _ ?_⟩
    refine m_coast v1 C1.1 M1.1 M1.2.1 (fun u => (u ok).elim) (fun m' p' _ e1' hm' bd' h2 f2 e12 w2 => ?_) (fun m' _ e1' hm' nb' => ?_)
    · have q1 := nE e1 e1' (by omega) (by omega)
      subst q1
      have := isBd_one bd bd'
      subst this
      exact ⟨_, rfl, f2.1.sk C1.1, fun _ => K h2 W I 0 t CH j (C1.fr f2 (fun x k z => by omega)) (M1.tp f2 (fun x k z => by omega) w2 (tm0 e12)) (by omega), fun u => absurd rfl u⟩
    · have q1 := nE e1 e1' (by omega) (by omega)
      subst q1
      exact (isBd_no bd nb').elim
  · have C1 := C.lk hj hS1 s1 l1 (fun x k _ z => by unfold aAd at z; unfold chA; omega) (tp0 (t := t) e9) e8
    have M1 := M.lk l1 (fun x k _ z => by unfold aAd at z; unfold chA; omega)
    refine ⟨_, rfl, hS1, hT _ ?_⟩
    refine m_coast v1 hS1 M1.1 M1.2.1 (fun u => (u ok).elim) (fun m' p' _ e1' hm' bd' => ?_) (fun m' _ e1' hm' nb' h2 f2 e12 w2 => ?_)
    · have q1 := nE e1 e1' (by omega) (by omega)
      subst q1
      exact (isBd_no bd' nb).elim
    · have q1 := nE e1 e1' (by omega) (by omega)
      subst q1
      exact ⟨_, rfl, f2.1.sk hS1, fun _ => K h2 _ _ 0 t CH (j + 1) (C1.fr f2 (fun x k z => by omega)) (M1.tp f2 (fun x k z => by omega) w2 (tm0 e12)) (by omega), fun u => absurd rfl u⟩
theorem okPu_one {v1 v2 v3 : Int32} {c s c' s' : Nat} (hn : wn W ≤ 8) (hs : ∀ c, c < wn W → cN (wC W c) < 1000) (h1 : okPu W v1 v2 v3 c s) (h2 : okPu W v1 v2 v3 c' s') : c = c' ∧ s = s' := by
  have q1 := nE h1.1.2 h2.1.2 (by have := h1.1.1; omega) (by have := h2.1.1; omega)
  subst q1
  exact ⟨rfl, nE h1.2.1.2 h2.2.1.2 (by have := h1.2.1.1; have := hs c h1.1.1; omega) (by have := h2.2.1.1; have := hs c h1.1.1; omega)⟩
theorem op_push (v1 v2 v3 : Int32) (C : cIn h W I n t CH j) (hj : j + 1 < 90000) (M : mIn h W n t CH) (hT : ∀ p : Prop, p → T p) (K : inK P j) : mC G kX11_push (D + 30) (9, 5760) [.inr (some 8), .inl v1, .inl v2, .inl v3] h (opR G (D + 30) kX12_push [.inr (some 47), .inl v1, .inl v2, .inl v3] T P Q) := by
  have hn8 := C.2.1.1.1.2.1
  have hs : ∀ c, c < wn W → cN (wC W c) < 1000 := fun c hc => by
    have := (M.1.1.2.2 c hc).2.1.1
    omega
  refine c11_push (b1 := 0) (b2 := 0) v1 v2 v3 C.1 C.2.1 (fun u => ⟨_, rfl, C.1, hT _ ?_⟩) (fun c s ok no => ⟨_, rfl, C.1, hT _ ?_⟩) (fun c s ok pu h1 hS1 l1 hN e8 s1 => ?_)
  · exact m_push v1 v2 v3 C.1 M.1 (fun _ => ⟨_, rfl, C.1, fun _ => K h W I n t CH j C M (by omega), fun w => absurd rfl w⟩) (fun c s ok => (u c s ok).elim) (fun c s ok => (u c s ok).elim)
  · refine m_push v1 v2 v3 C.1 M.1 (fun u => (u c s ok).elim) (fun c' s' ok' no' h2 f2 w2 => ⟨_, rfl, f2.1.sk C.1, fun _ => K h2 W I n t CH j (C.fr f2 (fun x k z => by omega)) (M.fr f2 (fun x k z => by omega) w2) (by omega), fun w => absurd rfl w⟩) (fun c' s' ok' pu' => ?_)
    obtain ⟨q1, q2⟩ := okPu_one hn8 hs ok ok'
    subst q1; subst q2
    exact (no pu').elim
  · have C1 := C.lk hj hS1 s1 l1 (fun x k _ z => by unfold aAd at z; unfold chA; omega) (C.2.2.1.lk l1 (by unfold aAd; omega) (fun k => by unfold aAd; omega)) e8
    have M1 := M.lk l1 (fun x k _ z => by unfold aAd at z; unfold chA; omega)
    refine ⟨_, rfl, hS1, hT _ ?_⟩
    refine m_push v1 v2 v3 hS1 M1.1 (fun u => (u c s ok).elim) (fun c' s' ok' no' => ?_) (fun c' s' ok' pu' h2 f2 w2 => ?_)
    · obtain ⟨q1, q2⟩ := okPu_one hn8 hs ok ok'
      subst q1; subst q2
      exact (no' pu).elim
    · obtain ⟨q1, q2⟩ := okPu_one hn8 hs ok ok'
      subst q1; subst q2
      exact ⟨_, rfl, f2.1.sk hS1, fun _ => K h2 _ _ n t CH (j + 1) (C1.fr f2 (fun x k z => by omega)) (M1.fr f2 (fun x k z => by omega) w2) (by omega), fun u => absurd rfl u⟩
theorem op_line (v1 v2 v3 v4 v5 : Int32) (C : cIn h W I n t CH j) (hj : j + 1 < 90000) (M : mIn h W n t CH) (hT : ∀ p : Prop, p → T p) (K : inK P j) : mC G kX11_line (D + 30) (2, 13) [.inr (some 8), .inl v1, .inl v2, .inl v3, .inl v4, .inl v5] h (opR G (D + 30) kX12_line [.inr (some 47), .inl v1, .inl v2, .inl v3, .inl v4, .inl v5] T P Q) := by
  refine c11_line (b1 := 0) (b2 := 0) v1 v2 v3 v4 v5 C.1 C.2.1 (fun u => ⟨_, rfl, C.1, hT _ ?_⟩) (fun ok hl h1 hS1 l1 hN e8 s1 => ?_)
  · exact m_line v1 v2 v3 v4 v5 C.1 M.1 (fun _ => ⟨_, rfl, C.1, fun _ => K h W I n t CH j C M (by omega), fun w => absurd rfl w⟩) (fun ok hl => (u ⟨ok, hl⟩).elim)
  · have ch : ∀ x k, x < 93 → (aLn x k ∨ (x = 8 ∧ k = 7)) → chA x k := fun x k _ z => by unfold aLn at z; unfold chA; omega
    have C1 := C.lk hj hS1 s1 l1 ch (C.2.2.1.lk l1 (by unfold aLn; omega) (fun k => by unfold aLn; omega)) e8
    have M1 := M.lk l1 ch
    refine ⟨_, rfl, hS1, hT _ ?_⟩
    exact m_line v1 v2 v3 v4 v5 hS1 M1.1 (fun u => (u ⟨ok, hl⟩).elim) (fun _ _ h2 f2 w2 => ⟨_, rfl, f2.1.sk hS1, fun _ => K h2 _ _ n t CH (j + 1) (C1.fr f2 (fun x k z => by omega)) (M1.fr f2 (fun x k z => by omega) w2) (by omega), fun u => absurd rfl u⟩)
theorem op_hears (v1 v2 v3 : Int32) (C : cIn h W I n t CH j) (hj : j + 1 < 90000) (M : mIn h W n t CH) (hT : ∀ p : Prop, p → T p) (K : inK P j) : mC G kX11_hears (D + 30) (3, 518) [.inr (some 8), .inl v1, .inl v2, .inl v3] h (opR G (D + 30) kX12_hears [.inr (some 47), .inl v1, .inl v2, .inl v3] T P Q) := by
  have no : ∀ {W : aW}, 0 < wl W → jN (wJ W (wl W - 1)) < 6 → ¬ noNo W := fun a1 a2 z => by unfold noNo at z; omega
  refine c11_hears (b1 := 0) (b2 := 0) v1 v2 v3 C.1 C.2.1 (fun u => ⟨_, rfl, C.1, hT _ ?_⟩) (fun ok hl h6 h1 hS1 l1 hN e8 s1 => ?_)
  · exact m_hears v1 v2 v3 C.1 M.1 (fun _ => ⟨_, rfl, C.1, fun _ => K h W I n t CH j C M (by omega), fun w => absurd rfl w⟩) (fun ok hl h6 => (u.elim (fun z => z ok) (no hl h6)).elim)
  · have ch : ∀ x k, x < 93 → (x = 8 ∧ k = 7) → chA x k := fun x k _ z => by unfold chA; omega
    have C1 := C.lk hj hS1 s1 l1 ch (C.2.2.1.lk l1 (by omega) (fun k => by omega)) e8
    have M1 := M.lk l1 ch
    refine ⟨_, rfl, hS1, hT _ ?_⟩
    exact m_hears v1 v2 v3 hS1 M1.1 (fun u => (u.elim (fun z => z ok) (no hl h6)).elim) (fun _ _ _ h2 f2 w2 => ⟨_, rfl, f2.1.sk hS1, fun _ => K h2 _ _ n t CH (j + 1) (C1.fr f2 (fun x k z => by omega)) (M1.fr f2 (fun x k z => by omega) w2) (by omega), fun u => absurd rfl u⟩)
theorem op_echo (v1 v2 : Int32) (C : cIn h W I n t CH j) (hj : j + 1 < 90000) (M : mIn h W n t CH) (hT : ∀ p : Prop, p → T p) (K : inK P j) : mC G kX11_echo (D + 30) (3, 518) [.inr (some 8), .inl v1, .inl v2] h (opR G (D + 30) kX12_echo [.inr (some 47), .inl v1, .inl v2] T P Q) := by
  have no : ∀ {W : aW}, 0 < wl W → jN (wJ W (wl W - 1)) < 6 → ¬ noNo W := fun a1 a2 z => by unfold noNo at z; omega
  refine c11_echo (b1 := 0) (b2 := 0) v1 v2 C.1 C.2.1 (fun u => ⟨_, rfl, C.1, hT _ ?_⟩) (fun ok hl h6 h1 hS1 l1 hN e8 s1 => ?_)
  · exact m_echo v1 v2 C.1 M.1 (fun _ => ⟨_, rfl, C.1, fun _ => K h W I n t CH j C M (by omega), fun w => absurd rfl w⟩) (fun ok hl h6 => (u.elim (fun z => z ok) (no hl h6)).elim)
  · have ch : ∀ x k, x < 93 → (x = 8 ∧ k = 7) → chA x k := fun x k _ z => by unfold chA; omega
    have C1 := C.lk hj hS1 s1 l1 ch (C.2.2.1.lk l1 (by omega) (fun k => by omega)) e8
    have M1 := M.lk l1 ch
    refine ⟨_, rfl, hS1, hT _ ?_⟩
    exact m_echo v1 v2 hS1 M1.1 (fun u => (u.elim (fun z => z ok) (no hl h6)).elim) (fun _ _ _ h2 f2 w2 => ⟨_, rfl, f2.1.sk hS1, fun _ => K h2 _ _ n t CH (j + 1) (C1.fr f2 (fun x k z => by omega)) (M1.fr f2 (fun x k z => by omega) w2) (by omega), fun u => absurd rfl u⟩)
theorem op_back (C : cIn h W I n t CH j) (hj : j + 1 < 90000) (M : mIn h W n t CH) (hT : ∀ p : Prop, p → T p) (K : inK P j) : mC G kX11_back (D + 30) b [.inr (some 8)] h (opR G (D + 30) kX12_back [.inr (some 47)] T P Q) := by
  have hl12 := M.1.2.2.2.2.1.2.1
  refine c11_back C.1 C.2.1 (fun u => ⟨_, rfl, C.1, hT _ ?_⟩) (fun m em h1 f1 e8 s1 => ?_)
  · exact m_back (wl W) C.1 M.1.2.2.2.2.1.1 hl12 (fun _ => ⟨_, rfl, C.1, fun _ => K h W I n t CH j C M (by omega), fun w => absurd rfl w⟩) (fun m em => by omega)
  · have l1 := f1.lk
    have ch : ∀ x k, x < 93 → (93 ≤ x ∨ (x = 28 ∧ k = 1) ∨ (x = 8 ∧ k = 7)) → chA x k := fun x k _ z => by unfold chA; omega
    have hS1 := f1.1.sk C.1
    have C1 := C.lk hj hS1 s1 l1 ch (C.2.2.1.lk l1 (by omega) (fun k => by omega)) e8
    have M1 := M.lk l1 ch
    refine ⟨_, rfl, hS1, hT _ ?_⟩
    refine m_back (wl W) hS1 M1.1.2.2.2.2.1.1 hl12 (fun u => by omega) (fun m' em' => ?_)
    have : m' = m := by omega
    subst this
    have f2 : mFr2 (fun x k => x = 47 ∧ k = 33) h1 (mSI h1 47 33 (nI m')) := mFr2.SI ⟨rfl, rfl⟩
    exact ⟨_, rfl, f2.1.sk hS1, fun _ => K _ _ _ n t CH (j + 1) (C1.fr f2 (fun x k z => by omega)) (M1.fr f2 (fun x k z => by omega) (mw_back em M1.1)) (by omega), fun u => absurd rfl u⟩
theorem op_wrong (v1 : Int32) (C : cIn h W I n t CH j) (hj : j + 1 < 90000) (M : mIn h W n t CH) (hT : ∀ p : Prop, p → T p) (K : inK P j) : mC G kX11_wrong (D + 30) b [.inr (some 8), .inl v1] h (opR G (D + 30) kX12_wrong [.inr (some 47), .inl v1] T P Q) := by
  have hs3 := M.1.2.2.2.2.2.2.2
  refine c11_wrong v1 C.1 C.2.1 (fun u => ⟨_, rfl, C.1, hT _ ?_⟩) (fun e1 => ⟨_, rfl, C.1, hT _ ?_⟩) (fun m hm e1 h1 f1 e8 s1 => ?_)
  · exact m_wrong v1 C.1 (fun _ => ⟨_, rfl, C.1, fun _ => K h W I n t CH j C M (by omega), fun w => absurd rfl w⟩) (fun w => absurd u w)
  · refine m_wrong v1 C.1 (fun u => (wi_n (q := ws W) (m := 3) hs3 (by omega) (by rw [← e1]; exact u)).elim) (fun _ => ?_)
    rw [e1]
    have f2 : mFr2 (fun x k => x = 47 ∧ k = 34) h (mSI h 47 34 (nI (ws W))) := mFr2.SI ⟨rfl, rfl⟩
    have w2 : mWo (mSI h 47 34 (nI (ws W))) W := mw_wrong hs3 M.1
    exact ⟨_, rfl, f2.1.sk C.1, fun _ => K _ W I n t CH j (C.fr f2 (fun x k z => by omega)) (M.fr f2 (fun x k z => by omega) w2) (by omega), fun u => absurd rfl u⟩
  · have l1 := f1.lk
    have ch : ∀ x k, x < 93 → (93 ≤ x ∨ (x = 28 ∧ k = 2) ∨ (x = 8 ∧ k = 7)) → chA x k := fun x k _ z => by unfold chA; omega
    have hS1 := f1.1.sk C.1
    have C1 := C.lk hj hS1 s1 l1 ch (C.2.2.1.lk l1 (by omega) (fun k => by omega)) e8
    have M1 := M.lk l1 ch
    refine ⟨_, rfl, hS1, hT _ ?_⟩
    refine m_wrong v1 hS1 (fun u => (wi_n (q := m) (m := 3) hm (by omega) (by rw [← e1]; exact u)).elim) (fun _ => ?_)
    rw [e1]
    have f2 : mFr2 (fun x k => x = 47 ∧ k = 34) h1 (mSI h1 47 34 (nI m)) := mFr2.SI ⟨rfl, rfl⟩
    exact ⟨_, rfl, f2.1.sk hS1, fun _ => K _ _ _ n t CH (j + 1) (C1.fr f2 (fun x k z => by omega)) (M1.fr f2 (fun x k z => by omega) (mw_wrong hm M1.1)) (by omega), fun u => absurd rfl u⟩
theorem op_box (v1 v2 v3 v4 : Int32) (C : cIn h W I n t CH j) (hj : j + 1 < 90000) (M : mIn h W n t CH) (hT : ∀ p : Prop, p → T p) (K : inK P j) : mC G kX11_box (D + 30) b [.inr (some 8), .inl v1, .inl v2, .inl v3, .inl v4] h (opR G (D + 30) kX12_box [.inr (some 47), .inl v1, .inl v2, .inl v3, .inl v4] T P Q) := by
  refine c11_box v1 v2 v3 v4 C.1 C.2.1 (fun u => ⟨_, rfl, C.1, hT _ ?_⟩) (fun ok h1 f1 e8 s1 => ?_)
  · exact m_box v1 v2 v3 v4 C.1 (fun _ => ⟨_, rfl, C.1, fun _ => K h W I n t CH j C M (by omega), fun w => absurd rfl w⟩) (fun w => absurd w u)
  · have l1 := f1.lk
    have ch : ∀ x k, x < 93 → (93 ≤ x ∨ (x = 28 ∧ 3 ≤ k ∧ k ≤ 5) ∨ (x = 8 ∧ k = 7)) → chA x k := fun x k _ z => by unfold chA; omega
    have hS1 := f1.1.sk C.1
    have C1 := C.lk hj hS1 s1 l1 ch (C.2.2.1.lk l1 (by omega) (fun k => by omega)) e8
    have M1 := M.lk l1 ch
    refine ⟨_, rfl, hS1, hT _ ?_⟩
    refine m_box v1 v2 v3 v4 hS1 (fun u => absurd ok u) (fun _ => ?_)
    have f2 : mFr2 (fun x k => x = 47 ∧ 35 ≤ k ∧ k ≤ 38) h1 (mSI (mSI (mSI (mSI h1 47 35 v1) 47 36 v2) 47 37 v3) 47 38 v4) := (((mFr2.SI (A := fun x k => x = 47 ∧ 35 ≤ k ∧ k ≤ 38) ⟨rfl, by omega⟩).tr (mFr2.SI (A := fun x k => x = 47 ∧ 35 ≤ k ∧ k ≤ 38) ⟨rfl, by omega⟩)).tr (mFr2.SI (A := fun x k => x = 47 ∧ 35 ≤ k ∧ k ≤ 38) ⟨rfl, by omega⟩)).tr (mFr2.SI (A := fun x k => x = 47 ∧ 35 ≤ k ∧ k ≤ 38) ⟨rfl, by omega⟩)
    exact ⟨_, rfl, f2.1.sk hS1, fun _ => K _ _ _ n t CH (j + 1) (C1.fr f2 (fun x k z => by omega)) (M1.fr f2 (fun x k z => by omega) (mw_box ok M1.1)) (by omega), fun u => absurd rfl u⟩
end
