/-! the calls, one by one: a sounder -/
theorem smN_cg {f g : Nat → Nat} (m : Nat) (h : ∀ c, c < m → f c = g c) : smN f m = smN g m := smN_cong m h
section
variable {G : mG} {D : Nat} {b : Nat × Nat} {h : mH} {Q : Option mV → mH → Prop} {P : mH → Prop} {T : Prop → Prop} {W : aW} {I : Nat → Nat} {n j : Nat} {t : Nat → Nat} {CH : aCc} {q : Nat × Nat × Nat × Nat}
theorem sou_noFit (e : wEq W (wSou W q)) : noFit (wSou W q) ↔ noFit W := by
  unfold noFit
  exact ⟨fun z c hc => by rw [← e.fit c]; exact z c hc, fun z c hc => by rw [e.fit c]; exact z c hc⟩
theorem sou_slP (e : wEq W (wSou W q)) (bb : Bool) (x y : Nat) : slP (wSou W q) bb x y ↔ slP W bb x y := by
  unfold slP
  exact ⟨fun z c hc hf => z c hc (by rw [e.fit c]; exact hf), fun z c hc hf => z c hc (by rw [← e.fit c]; exact hf)⟩
theorem sou_slB (e : wEq W (wSou W q)) (bb : Bool) (x y : Nat) : slB (wSou W q) bb x y = slB W bb x y := bool_iff (by rw [slB_t, slB_t]; exact sou_slP e bb x y)
theorem sou_swK (e : wEq W (wSou W q)) : swK (wSou W q) = swK W := by
  funext k
  unfold swK
  exact bool_iff (by rw [swB_t, swB_t, sou_noFit e, sou_slP e])
theorem sou_an (e : wEq W (wSou W q)) (h0 : 0 < wl W) (E : aDc) (a : Nat) : anN (wSou W q) E a = anN W E a := by
  unfold anN
  refine smN_cg _ (fun c hc => cnt_cong 1024 (fun k hk => ?_))
  show (thB (wSou W q) c (wl W - 1) k && aaB (wC W c) E k a) = _
  rw [e.T (show wl W - 1 < wl W by omega)]
theorem sou_pr (e : wEq W (wSou W q)) (h0 : 0 < wl W) (E F : aDc) (a c : Nat) : prN (wSou W q) E F a c = prN W E F a c := by
  unfold prN
  refine smN_cg _ (fun c' hc => cnt_cong 1024 (fun k hk => ?_))
  show (thB (wSou W q) c' (wl W - 1) k && prB (wC W c') E F k a c) = _
  rw [e.T (show wl W - 1 < wl W by omega)]
theorem sou_st (e : wEq W (wSou W q)) (h0 : 0 < wl W) : stN (wSou W q) = stN W := by
  unfold stN
  refine smN_cg _ (fun c hc => cnt_cong 1024 (fun k hk => ?_))
  show thB (wSou W q) c (wl W - 1) k = _
  rw [e.T (show wl W - 1 < wl W by omega)]
theorem sou_nxM (e : wEq W (wSou W q)) (h0 : 0 < wl W) (E : aDc) : nxM (wSou W q) E = nxM W E := by
  unfold nxM
  rw [show anN (wSou W q) E = anN W E from funext (sou_an e h0 E)]
theorem sou_nxO (e : wEq W (wSou W q)) (h0 : 0 < wl W) (i : Nat) : nxO (wSou W q) CH i = nxO W CH i := by
  unfold nxO
  rw [show (fun j => nxM (wSou W q) (CH.2 j)) = fun j => nxM W (CH.2 j) from funext (fun j => sou_nxM e h0 _)]
theorem sou_fw (e : wEq W (wSou W q)) (h0 : 0 < wl W) (E : aDc) (a : Nat) : ∀ i, fwN (wSou W q) CH E a i = fwN W CH E a i
  | 0 => rfl
  | i + 1 => by
    rw [fwN_s, fwN_s, sou_fw e h0 E a i]
    have : msN (wSou W q) E (CH.2 i) a = msN W E (CH.2 i) a := by
      unfold msN
      rw [show prN (wSou W q) E (CH.2 i) a = prN W E (CH.2 i) a from funext (sou_pr e h0 E _ a)]
    rw [this]
theorem sou_sy (e : wEq W (wSou W q)) (h0 : 0 < wl W) (E : aDc) : ∀ a, syF (wSou W q) CH E a = syF W CH E a
  | 0 => rfl
  | a + 1 => by rw [syF_s, syF_s, sou_sy e h0 E a, sou_an e h0, sou_fw e h0]
theorem sou_ah (e : wEq W (wSou W q)) (h0 : 0 < wl W) (i : Nat) : ahO (wSou W q) CH i = ahO W CH i := by
  unfold ahO
  rw [show (fun j => syN (wSou W q) CH (CH.2 j)) = fun j => syN W CH (CH.2 j) from funext (fun j => sou_sy e h0 _ 65)]
/-- what is remembered stays right over a sounder -/
theorem caI.we (e : wEq W (wSou W q)) (c : caI h W I CH) : caI h (wSou W q) I CH := by
  obtain ⟨c1, c2, c3, c4, c5, c6, c7⟩ := c
  refine ⟨⟨fun z => ?_, c1.2⟩, ⟨fun z => ?_, c2.2⟩, ⟨fun z => ?_, c3.2⟩, ⟨fun z => ?_, c4.2⟩, ⟨fun z => ?_, c5.2⟩, c6, c7⟩
  · obtain ⟨c, i, p1, p2, p3, p4, p5⟩ := c1.1 z
    exact ⟨c, i, p1, p2, p3, p4, fun x y hx hy => by rw [e.T p2]; exact p5 x y hx hy⟩
  · obtain ⟨s1, s2, s3, s4⟩ := c2.1 z
    refine ⟨fun i hi => ?_, fun c hc i hi => ?_, fun nf y hy => s3 ((sou_noFit e).mp nf) y hy, fun nf x y hx hy => ?_⟩
    · rw [s1 i hi, e.fit i]; rfl
    · have := s2 c hc i hi
      rw [show (fun x y => wF (wSou W q) c i (32 * y + x)) = fun x y => wF W c i (32 * y + x) from funext (fun x => funext (fun y => e.F hi _))]
      exact this
    · rw [sou_slB e, sou_slB e]
      exact s4 (fun u => nf ((sou_noFit e).mpr u)) x y hx hy
  · have h0 := c6 z
    obtain ⟨q1, q2⟩ := c3.1 z
    refine ⟨by rw [sou_st e h0]; exact q1, fun i hi => ?_⟩
    rw [sou_nxO e h0] at hi
    rw [sou_nxM e h0, show anN (wSou W q) (CH.2 i) = anN W (CH.2 i) from funext (sou_an e h0 _)]
    exact q2 i hi
  · have h0 := c7 z
    obtain ⟨q1, q2⟩ := c4.1 z
    refine ⟨by rw [sou_st e h0]; exact q1, fun i hi => ?_⟩
    rw [sou_ah e h0] at hi
    rw [show syN (wSou W q) CH (CH.2 i) = syN W CH (CH.2 i) from sou_sy e h0 _ 65]
    exact q2 i hi
  · obtain ⟨a, g, s1, s2, s3, s4, s5⟩ := c5.1 z
    exact ⟨a, g, s1, s2, s3, s4, by rw [sou_swK e]; exact s5⟩
theorem op_sounder (v1 v2 v3 v4 : Int32) (C : cIn h W I n t CH j) (M : mIn h W n t CH) (hT : ∀ p : Prop, p → T p) (K : inK P j) : mC G kX11_sounder (D + 30) b [.inr (some 8), .inl v1, .inl v2, .inl v3, .inl v4] h (opR G (D + 30) kX12_sounder [.inr (some 47), .inl v1, .inl v2, .inl v3, .inl v4] T P Q) := by
  have st := C.2.1
  have sx := st.1.2.2.2.1
  refine c11_sounder v1 v2 v3 v4 (wm W) C.1 sx.1 sx.2.1 (fun u => ⟨_, rfl, C.1, hT _ ?_⟩) (fun ok h6 => ?_)
  · exact m_sounder v1 v2 v3 v4 (wm W) C.1 M.1.2.1.1 sx.2.1 (fun _ => ⟨_, rfl, C.1, fun _ => K h W I n t CH j C M (by omega), fun w => absurd rfl w⟩) (fun ok h6 => by
      rcases u with u | u
      · exact absurd ok u
      · omega)
  · obtain ⟨x, y, hx, hy, e1, e2⟩ := grid_ex ok.1
    obtain ⟨f, hf, e3⟩ := wi_ex (m := 3) (by omega) ok.2.1
    obtain ⟨l, hl, e4⟩ := wi_ex (m := 99) (by omega) ok.2.2
    have okq : x < 32 ∧ y < 32 ∧ f < 4 ∧ l < 100 := ⟨hx, hy, by omega, by omega⟩
    have s1 : cSt (hSoX h (wm W) v1 v2 v3 v4) (wSou W (x, y, f, l)) I := st.sou h6 e1 e2 e3 e4 okq
    obtain ⟨h1, eh1⟩ : ∃ h1, h1 = hSoX h (wm W) v1 v2 v3 v4 := ⟨_, rfl⟩
    rw [← eh1] at s1 ⊢
    have f1 : mFr2 (fun x k => (12 ≤ x ∧ x ≤ 15) ∨ (x = 11 ∧ k = 4)) h h1 := by
      rw [eh1]
      unfold hSoX
      have s : ∀ (hh : mH) a k v, ((12 ≤ a ∧ a ≤ 15) ∨ (a = 11 ∧ k = 4)) → mFr2 (fun x k => (12 ≤ x ∧ x ≤ 15) ∨ (x = 11 ∧ k = 4)) hh (mSI hh a k v) := fun hh a k v z => mFr2.SI z
      exact ((((s _ _ _ _ (by omega)).tr (s _ _ _ _ (by omega))).tr (s _ _ _ _ (by omega))).tr (s _ _ _ _ (by omega))).tr (s _ _ _ _ (by omega))
    have hS1 := f1.1.sk C.1
    have we : wEq W (wSou W (x, y, f, l)) := wSou_eq (fun i hi => (st.1.2.2.2.2.2.2.1.2.2 i hi).2)
    have ca1 : caI h1 W I CH := C.2.2.2.2.2.2.fr f1 (flK.lo st.1 f1 (fun x k q z => by omega)) (fun x k z q => by unfold caK at z; omega)
    have C1 : cIn h1 (wSou W (x, y, f, l)) I n t CH j := by
      obtain ⟨hS, -, tp, ch, sp, ⟨e8, hj⟩, -⟩ := C
      refine ⟨hS1, s1, tp.lk f1.lk (by omega) (fun k => by omega), ch.fr f1 (by omega) (fun a k _ _ => by omega), ?_, ⟨by rw [f1.2 _ _ (by omega)]; exact e8, hj⟩, ca1.we we⟩
      obtain ⟨l1, l2, q1, q2, q3, q4, q5⟩ := sp
      exact ⟨l1, l2, q1, by rw [f1.1.2.2.2]; exact q2, by rw [f1.1.2.2.2]; exact q3, by rw [f1.2 _ _ (by omega)]; exact q4, by rw [f1.2 _ _ (by omega)]; exact q5⟩
    have M1 : mIn h1 W n t CH := M.ci (fun x k q1 q2 => f1.2 _ _ (by omega))
    refine ⟨_, rfl, hS1, hT _ ?_⟩
    refine m_sounder v1 v2 v3 v4 (wm W) hS1 M1.1.2.1.1 sx.2.1 (fun u => ?_) (fun _ _ => ?_)
    · rcases u with u | u
      · exact absurd ok u
      · omega
    have w2 : mWo (hSoM h1 (wm W) v1 v2 v3 v4) (wSou W (x, y, f, l)) := mw_sou M1.1 h6 e1 e2 e3 e4 okq
    obtain ⟨h2, eh2⟩ : ∃ h2, h2 = hSoM h1 (wm W) v1 v2 v3 v4 := ⟨_, rfl⟩
    rw [← eh2] at w2 ⊢
    have f2 : mFr2 (fun x k => (53 ≤ x ∧ x ≤ 56) ∨ (x = 47 ∧ k = 6)) h1 h2 := by
      rw [eh2]
      unfold hSoM
      have s : ∀ (hh : mH) a k v, ((53 ≤ a ∧ a ≤ 56) ∨ (a = 47 ∧ k = 6)) → mFr2 (fun x k => (53 ≤ x ∧ x ≤ 56) ∨ (x = 47 ∧ k = 6)) hh (mSI hh a k v) := fun hh a k v z => mFr2.SI z
      exact ((((s _ _ _ _ (by omega)).tr (s _ _ _ _ (by omega))).tr (s _ _ _ _ (by omega))).tr (s _ _ _ _ (by omega))).tr (s _ _ _ _ (by omega))
    exact ⟨_, rfl, f2.1.sk hS1, fun _ => K h2 _ I n t CH j (C1.fr f2 (fun x k z => by omega)) (M1.fr f2 (fun x k z => by omega) w2) (by omega), fun u => absurd rfl u⟩
end
