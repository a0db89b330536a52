/-! a law is read (model) -/
def lwD (h : mH) (C M : List (Nat × Nat)) : Prop := mI h 47 21 = nI M.length ∧ (∀ i, i < C.length → mI h 63 i = nI (1048576 * (C.getD i (0, 0)).1 + (C.getD i (0, 0)).2)) ∧ ∀ q, q < M.length → mI h 64 q = nI (lbM M q) ∧ mI h 65 q = nI (M.getD q (0, 0)).1 ∧ mI h 66 q = nI (M.getD q (0, 0)).2
def aLf : Nat → Nat → Prop := fun a k => aMc a k ∨ (a = 47 ∧ (k = 12 ∨ k = 14))
def aLs : Nat → Nat → Prop := fun a k => aLf a k ∨ (a = 47 ∧ k = 21) ∨ (63 ≤ a ∧ a ≤ 66)
theorem nI_uU (x : Int32) : nI (uU x) = x := Int32.toBitVec_inj.1 (by simp [nI, uU])
theorem stV_ex (h : mH) : ∀ L : Nat, ∃ V : List (Nat × Nat), V.length = L ∧ stV h V
  | 0 => ⟨[], rfl, trivial⟩
  | L + 1 => by
    obtain ⟨V, e, w⟩ := stV_ex h L
    refine ⟨(0, uU (mI h 59 V.length)) :: V, by simp [e], ?_, w⟩
    show mI h 59 V.length = nI (1048576 * 0 + uU (mI h 59 V.length))
    rw [Nat.mul_zero, Nat.zero_add, nI_uU]
theorem aMd_d {a k : Nat} (h : a ≠ 47) (h1 : a ≠ 58) (h2 : a ≠ 59) : ¬ aMd a k := fun u => by unfold aMd at u; omega
section
variable {G : mG} {d : Nat} {b : Nat × Nat} {h : mH} {Q : Option mV → mH → Prop} {t : Nat → Nat} {n : Nat}
/-- what was read is taken over -/
theorem m_lawC {h0 : mH} {C M : List (Nat × Nat)} (hC : C.length ≤ 160) (hM : M.length ≤ 12) (K : ∀ h', mFr2 aLs h0 h' → mI h' 47 12 = 0 → lwD h' C M → Q (some (.inl (nI M.length))) h') : ∀ h1, mSk h1 → mFr2 aLs h0 h1 → mI h1 47 12 = 0 → mI h1 47 21 = nI M.length → mI h1 47 17 = nI C.length → mI h1 47 19 = nI M.length → cdV h1 C → (∀ q, q < M.length → mI h1 60 q = nI (lbM M q) ∧ mI h1 61 q = nI (M.getD q (0, 0)).1 ∧ mI h1 62 q = nI (M.getD q (0, 0)).2) → mW G kX12_law (d + 8) b 110 [some (.inr (some 47)), none, none, some (.inl 0)] [] h1 Q := by
  -- the clauses
  have lp2 : ∀ (r i : Nat) (h1 : mH), i + r = M.length → mSk h1 → mFr2 aLs h0 h1 → mI h1 47 12 = 0 → mI h1 47 21 = nI M.length → mI h1 47 19 = nI M.length → (∀ i, i < C.length → mI h1 63 i = nI (1048576 * (C.getD i (0, 0)).1 + (C.getD i (0, 0)).2)) → (∀ q, q < M.length → mI h1 60 q = nI (lbM M q) ∧ mI h1 61 q = nI (M.getD q (0, 0)).1 ∧ mI h1 62 q = nI (M.getD q (0, 0)).2) → (∀ q, q < i → mI h1 64 q = nI (lbM M q) ∧ mI h1 65 q = nI (M.getD q (0, 0)).1 ∧ mI h1 66 q = nI (M.getD q (0, 0)).2) → mW G kX12_law (d + 8) b 138 [some (.inr (some 47)), none, none, some (.inl (nI i))] [] h1 Q := by
    intro r
    induction r with
    | zero =>
      intro i h1 hi hS f e12 e21 e19 hc hq hd
      have : i = M.length := by omega
      subst this
      refine qX12_law_138 _ hS ?_
      rw [e19]
      exact ⟨fun _ => K h1 f e12 ⟨e21, hc, hd⟩, fun u => absurd (nI_le (a := M.length) (Nat.le_refl _) (by omega)) u⟩
    | succ r ih =>
      intro i h1 hi hS f e12 e21 e19 hc hq hd
      refine qX12_law_138 _ hS ?_
      rw [e19, nI_clamp (show i < 2 ^ 31 by omega), nI_1]
      obtain ⟨q0, q1, q2⟩ := hq i (by omega)
      refine ⟨fun u => absurd u (nI_ge (b := M.length) (by omega) (by omega)), fun _ => ⟨vp_in_nI (by omega) (by omega), vp_in_nI (by omega) (by omega), fun h3 e3 => ⟨vp_in_nI (by omega) (by omega), vp_in_nI (by omega) (by omega), fun h6 e6 => ⟨vp_in_nI (by omega) (by omega), vp_in_nI (by omega) (by omega), fun h9 e9 => ?_⟩⟩⟩⟩
      have f9 : mFr2 (fun a k => 64 ≤ a ∧ a ≤ 66) h1 h9 := by
        rw [e9, e6, e3]
        exact ((mFr2.SI (A := fun a k => 64 ≤ a ∧ a ≤ 66) (by omega)).tr (mFr2.SI (A := fun a k => 64 ≤ a ∧ a ≤ 66) (by omega))).tr (mFr2.SI (A := fun a k => 64 ≤ a ∧ a ≤ 66) (by omega))
      have g61 : mI h3 61 i = mI h1 61 i := by rw [e3, mI_SI_a (by omega)]
      have g62 : mI h6 62 i = mI h1 62 i := by rw [e6, mI_SI_a (by omega), e3, mI_SI_a (by omega)]
      rw [q0] at e3
      rw [g61, q1] at e6
      rw [g62, q2] at e9
      refine ih (i + 1) h9 (by omega) (f9.1.sk hS) (f.tr (f9.wk (fun a k z => Or.inr (Or.inr (by omega))))) (by rw [f9.2 _ _ (by omega)]; exact e12) (by rw [f9.2 _ _ (by omega)]; exact e21) (by rw [f9.2 _ _ (by omega)]; exact e19) (fun j hj => by rw [f9.2 _ _ (by omega)]; exact hc j hj) (fun q hq' => by rw [f9.2 _ _ (by omega), f9.2 _ _ (by omega), f9.2 _ _ (by omega)]; exact hq q hq') (fun q hq' => ?_)
      have g4 : mI h9 64 q = mI h3 64 q := by rw [e9, mI_SI_a (by omega), e6, mI_SI_a (by omega)]
      have g5 : mI h9 65 q = mI h6 65 q := by rw [e9, mI_SI_a (by omega)]
      rw [g4, g5, e9, e3]
      by_cases w : q = i
      · subst w
        rw [mI_SI_s, mI_SI_s, e6, mI_SI_s]
        exact ⟨rfl, rfl, rfl⟩
      · rw [mI_SI_k w, mI_SI_k w, e6, mI_SI_k w, mI_SI_a (by omega), e3, mI_SI_a (by omega), mI_SI_a (by omega)]
        exact hd q (by omega)
  have lp1 : ∀ (r i : Nat) (h1 : mH), i + r = C.length → mSk h1 → mFr2 aLs h0 h1 → mI h1 47 12 = 0 → mI h1 47 21 = nI M.length → mI h1 47 17 = nI C.length → mI h1 47 19 = nI M.length → cdV h1 C → (∀ q, q < M.length → mI h1 60 q = nI (lbM M q) ∧ mI h1 61 q = nI (M.getD q (0, 0)).1 ∧ mI h1 62 q = nI (M.getD q (0, 0)).2) → (∀ j, j < i → mI h1 63 j = nI (1048576 * (C.getD j (0, 0)).1 + (C.getD j (0, 0)).2)) → mW G kX12_law (d + 8) b 110 [some (.inr (some 47)), none, none, some (.inl (nI i))] [] h1 Q := by
    intro r
    induction r with
    | zero =>
      intro i h1 hi hS f e12 e21 e17 e19 hc hq hd
      have : i = C.length := by omega
      subst this
      refine qX12_law_110 _ hS ?_
      rw [e17]
      exact ⟨fun _ => lp2 M.length 0 h1 (by omega) hS f e12 e21 e19 hd hq (fun q u => by omega), fun u => absurd (nI_le (a := C.length) (Nat.le_refl _) (by omega)) u⟩
    | succ r ih =>
      intro i h1 hi hS f e12 e21 e17 e19 hc hq hd
      refine qX12_law_110 _ hS ?_
      rw [e17, nI_clamp (show i < 2 ^ 31 by omega), nI_1]
      refine ⟨fun u => absurd u (nI_ge (b := C.length) (by omega) (by omega)), fun _ => ⟨vp_in_nI (by omega) (by omega), vp_in_nI (by omega) (by omega), fun h3 e3 => ?_⟩⟩
      have f3 : mFr2 (fun a k => a = 63) h1 h3 := by rw [e3]; exact mFr2.SI rfl
      refine ih (i + 1) h3 (by omega) (f3.1.sk hS) (f.tr (f3.wk (fun a k z => Or.inr (Or.inr (by omega))))) (by rw [f3.2 _ _ (by omega)]; exact e12) (by rw [f3.2 _ _ (by omega)]; exact e21) (by rw [f3.2 _ _ (by omega)]; exact e17) (by rw [f3.2 _ _ (by omega)]; exact e19) (fun j hj => by rw [f3.2 _ _ (by omega)]; exact hc j hj) (fun q hq' => by rw [f3.2 _ _ (by omega), f3.2 _ _ (by omega), f3.2 _ _ (by omega)]; exact hq q hq') (fun j hj => ?_)
      rw [e3]
      by_cases w : j = i
      · subst w
        rw [mI_SI_s]; exact hc j (by omega)
      · rw [mI_SI_k w]; exact hd j (by omega)
  intro h1 hS f e12 e21 e17 e19 hc hq
  exact lp1 C.length 0 h1 (by omega) hS f e12 e21 e17 e19 hc hq (fun j u => by omega)
theorem m_takes59 {p o : Nat} {C V : List (Nat × Nat)} (R : mdS h t n p o C V) (K1 : sgS t n (0, p) = 59 → ∀ h', mFr2 aMd h h' → mdS h' t n (p + 1) o C V → Q (some (.inl 1)) h') (K0 : sgS t n (0, p) ≠ 59 → ∀ h', mFr2 aMd h h' → mI h' 47 15 = -1000 * nI 1 - nI p → Q (some (.inl 0)) h') : mC G kX12_takes (d + 1) b [.inr (some 47), .inl 59] h Q := by
  have i59 : sgI (sgS t n (0, p)) = 59 ↔ sgS t n (0, p) = 59 := sgI_eq R.hb (show 59 < 256 by omega)
  refine qX12_takes _ R.1 (m_here R ⟨_, rfl, R.1, fun u h3 e3 => ?_, fun u => ?_⟩)
  · have z := i59.mp u
    obtain ⟨f3, R3⟩ := R.one (sg_lt (t := t) (n := n) (s := (0, p)) (by omega)).2 e3
    exact K1 z h3 f3 R3
  · rw [R.2.1.1]
    exact m_wrongP (k := 1) R (fun h' f' R' e' => ⟨_, rfl, R'.1, Or.inl rfl, K0 (fun x => u (i59.mpr x)) h' (f'.wk (fun a k z => by unfold aMd; omega)) e'⟩)
set_option maxHeartbeats 800000 in
theorem m_lawL {h0 : mH} {Z : aTr × List (Nat × Nat) × Bool} {E : aTs} (hE : E = enS t n Z.1.1 Z.2.2)
    (K1 : E.1 = 0 → ∀ h', mFr2 aLs h0 h' → mI h' 47 12 = 0 → lwD h' Z.1.2 Z.2.1 → Q (some (.inl (nI Z.2.1.length))) h')
    (K0 : E.1 ≠ 0 → ∀ h', mFr2 aLf h0 h' → mI h' 47 12 = 0 → Q (some (.inl (-1000 * nI E.1 - nI E.2))) h') :
    (∀ h, mSk h → mFr2 aLf h0 h → E.1 ≠ 0 → mI h 47 15 = -1000 * nI E.1 - nI E.2 → mW G kX12_law (d + 8) b 46 [some (.inr (some 47)), none, some (.inl 0), none] [] h Q) ∧
    ∀ (f p : Nat) (C M : List (Nat × Nat)) (h : mH), M.length + f = 12 → mFr2 aLf h0 h → mcS h t n p C M → Z = clS t n f (if mrS n (0, p) then exS t n 59 (0, p) else (0, p), C) M (mrS n (0, p)) → mW G kX12_law (d + 8) b 46 [some (.inr (some 47)), none, some (.inl 1), none] [] h Q := by
  have l10 : ¬ (1 : Int32) = 0 := by decide
  have bad : ∀ h, mSk h → mFr2 aLf h0 h → E.1 ≠ 0 → mI h 47 15 = -1000 * nI E.1 - nI E.2 → mW G kX12_law (d + 8) b 46 [some (.inr (some 47)), none, some (.inl 0), none] [] h Q := by
    intro h hS f e0 e15
    refine qX12_law_46 _ hS ⟨fun _ h1 e1 => ⟨fun u => absurd rfl u, fun _ => ?_⟩, fun u => absurd rfl u⟩
    have f1 : mFr2 aLf h h1 := by rw [e1]; exact mFr2.SI (Or.inr ⟨rfl, Or.inl rfl⟩)
    rw [show mI h1 47 15 = mI h 47 15 from by rw [e1, mI_SI_k (by omega)], e15]
    exact K0 e0 h1 (f.tr f1) (by rw [e1, mI_SI_s])
  -- the text ends here
  have fin : ∀ (f p : Nat) (C M : List (Nat × Nat)) (h : mH), ¬ p < n → mFr2 aLf h0 h → mcS h t n p C M → Z = clS t n f (if mrS n (0, p) then exS t n 59 (0, p) else (0, p), C) M (mrS n (0, p)) → mW G kX12_law (d + 8) b 46 [some (.inr (some 47)), none, some (.inl 1), none] [] h Q := by
    intro f p C M h lt fr R ez
    have mr : mrS n (0, p) = false := decide_eq_false (fun u => lt u.2)
    rw [mr] at ez
    have ez' : Z = (((0, p), C), M, false) := by rw [ez]; cases f <;> rfl
    subst ez'
    have hE' : E = (0, p) := hE
    obtain ⟨⟨o, V, Rm⟩, hC, ⟨e19, hM⟩, hq, hst⟩ := R
    have hn := Rm.2.2.1.2
    have hpn := Rm.2.1.2
    refine qX12_law_46 _ Rm.1 ⟨fun u => absurd u l10, fun _ => ?_⟩
    rw [Rm.2.2.1.1, Rm.2.1.1]
    refine ⟨fun _ h4 e4 => ⟨fun _ h5 e5 => ?_, fun u => absurd u l10⟩, fun u => absurd (nI_le (a := n) (by omega) (by omega)) u⟩
    have e419 : mI h4 47 19 = nI M.length := by rw [e4, mI_SI_k (by omega)]; exact e19
    rw [e419] at e5
    have f5 : mFr2 (fun a k => a = 47 ∧ (k = 12 ∨ k = 21)) h h5 := by
      rw [e5, e4]
      exact (mFr2.SI (A := fun a k => a = 47 ∧ (k = 12 ∨ k = 21)) ⟨rfl, Or.inl rfl⟩).tr (mFr2.SI (A := fun a k => a = 47 ∧ (k = 12 ∨ k = 21)) ⟨rfl, Or.inr rfl⟩)
    refine m_lawC (h0 := h0) (C := C) (M := M) (by omega) hM (fun h' f' e12 D => K1 (by rw [hE']) h' f' e12 D) h5 (f5.1.sk Rm.1) ((fr.wk (fun a k z => Or.inl z)).tr (f5.wk (fun a k z => ?_))) (by rw [e5, mI_SI_k (by omega), e4, mI_SI_s]) (by rw [e5, mI_SI_s]) (by rw [f5.2 _ _ (by omega)]; exact Rm.2.2.2.2.2.1.1) (by rw [f5.2 _ _ (by omega)]; exact e19) (fun i hi => by rw [f5.2 _ _ (by omega)]; exact Rm.2.2.2.2.2.1.2 i hi) (fun q hq' => by rw [f5.2 _ _ (by omega), f5.2 _ _ (by omega), f5.2 _ _ (by omega)]; exact hq q hq')
    rcases z with ⟨z1, z2 | z2⟩
    · exact Or.inl (Or.inr ⟨z1, Or.inl z2⟩)
    · exact Or.inr (Or.inl ⟨z1, z2⟩)
  have mcp : ∀ {h h' : mH} {p o : Nat} {C V M : List (Nat × Nat)}, mcS h t n p C M → mFr2 aMd h h' → mdS h' t n (p + 1) o C V → mcS h' t n (p + 1) C M := by
    intro h h' p o C V M R f R'
    obtain ⟨-, hC, ⟨e19, hM⟩, hq, hst⟩ := R
    exact ⟨⟨o, V, R'⟩, by omega, ⟨by rw [f.2 _ _ (by unfold aMd; omega)]; exact e19, hM⟩, fun q hq' => by rw [f.2 _ _ (by unfold aMd; omega), f.2 _ _ (by unfold aMd; omega), f.2 _ _ (by unfold aMd; omega)]; exact hq q hq', hst⟩
  have wc : ∀ {h h' : mH}, mFr2 aMc h h' → mFr2 aLf h h' := fun f => f.wk (fun a k z => Or.inl z)
  have wd : ∀ {h h' : mH}, mFr2 aMd h h' → mFr2 aLf h h' := fun f => f.wk (fun a k z => Or.inl (Or.inl z))
  refine ⟨bad, ?_⟩
  intro f
  induction f with
  | zero =>
    intro p C M h hf fr R ez
    by_cases lt : p < n
    · have mr : mrS n (0, p) = true := decide_eq_true ⟨rfl, lt⟩
      rw [mr, if_pos rfl] at ez
      have ez' : Z = ((exS t n 59 (0, p), C), M, true) := ez
      have hE' : E = stS (if sgS t n (exS t n 59 (0, p)) = 118 then 4 else 1) (exS t n 59 (0, p)) := by rw [hE, ez']; rfl
      obtain ⟨o, V, Rm⟩ := R.1
      have hn := Rm.2.2.1.2
      refine qX12_law_46 _ Rm.1 ⟨fun u => absurd u l10, fun _ => ?_⟩
      rw [Rm.2.2.1.1, Rm.2.1.1]
      refine ⟨fun u => absurd u (nI_ge (b := n) (by omega) (by omega)), fun _ => m_takes59 (d := d + 6) Rm (fun z h7 f7 R7 => ⟨_, rfl, R7.1, fun u => absurd u l10, fun _ => ?_⟩) (fun z h7 f7 e7 => ⟨_, rfl, f7.1.sk Rm.1, fun _ => ?_, fun u => absurd rfl u⟩)⟩
      · have e59 : exS t n 59 (0, p) = (0, p + 1) := by unfold exS; rw [if_pos z]; rfl
        rw [e59] at hE'
        have hE2 : E = (if sgS t n (0, p + 1) = 118 then 4 else 1, p + 1) := hE'
        refine m_readsClause (d := d) (mcp R f7 R7) rfl (fun u => by omega) (fun u => by omega) (fun _ h9 f9 e9 => ⟨_, rfl, f9.1.sk R7.1, fun w11 e11 => ?_⟩)
        rw [if_pos rfl] at e11
        rw [e11]
        exact bad h9 (f9.1.sk R7.1) ((fr.tr (wd f7)).tr (wc f9)) (by rw [hE2]; show (if sgS t n (0, p + 1) = 118 then 4 else 1) ≠ 0; split <;> omega) (by rw [hE2]; exact e9)
      · have e59 : exS t n 59 (0, p) = (1, p) := by unfold exS; rw [if_neg z]; rfl
        rw [e59] at hE'
        have hE2 : E = (1, p) := hE'
        exact bad h7 (f7.1.sk Rm.1) (fr.tr (wd f7)) (by rw [hE2]; show (1 : Nat) ≠ 0; omega) (by rw [hE2]; exact e7)
    · exact fin 0 p C M h lt fr R ez
  | succ f ih =>
    intro p C M h hf fr R ez
    by_cases lt : p < n
    · have mr : mrS n (0, p) = true := decide_eq_true ⟨rfl, lt⟩
      rw [mr, if_pos rfl, cl_st] at ez
      obtain ⟨z, ezz⟩ : ∃ z, z = c3S t n (exS t n 59 (0, p), C) := ⟨_, rfl⟩
      rw [← ezz] at ez
      -- a fault in the clause
      have flt : z.1.1 ≠ 0 → E = z.1 := by
        intro u
        have m0 : mrS n z.1 = false := decide_eq_false (fun v => u v.1)
        rw [m0] at ez
        have ez' : Z = ((z.1, z.2), M ++ [((c1S t n (exS t n 59 (0, p), C)).2.length, z.2.length)], false) := by rw [ez]; cases f <;> rfl
        rw [hE, ez']; rfl
      obtain ⟨o, V, Rm⟩ := R.1
      have hn := Rm.2.2.1.2
      refine qX12_law_46 _ Rm.1 ⟨fun u => absurd u l10, fun _ => ?_⟩
      rw [Rm.2.2.1.1, Rm.2.1.1]
      refine ⟨fun u => absurd u (nI_ge (b := n) (by omega) (by omega)), fun _ => m_takes59 (d := d + 6) Rm (fun y h7 f7 R7 => ⟨_, rfl, R7.1, fun u => absurd u l10, fun _ => ?_⟩) (fun y h7 f7 e7 => ⟨_, rfl, f7.1.sk Rm.1, fun _ => ?_, fun u => absurd rfl u⟩)⟩
      · have e59 : exS t n 59 (0, p) = (0, p + 1) := by unfold exS; rw [if_pos y]; rfl
        rw [e59] at ezz ez
        refine m_readsClause (d := d) (mcp R f7 R7) ezz (fun _ z0 h9 f9 R9 => ⟨_, rfl, R9.1.choose_spec.choose_spec.1, fun w11 e11 => ?_⟩) (fun _ z0 h9 f9 e9 => ⟨_, rfl, f9.1.sk R7.1, fun w11 e11 => ?_⟩) (fun u => by omega)
        · rw [if_neg l10] at e11
          rw [e11]
          have ez0 : z.1 = (0, z.1.2) := by rw [← z0]
          rw [ez0] at ez
          exact ih z.1.2 z.2 _ h9 (by simp; omega) ((fr.tr (wd f7)).tr (wc f9)) R9 ez
        · rw [if_pos rfl] at e11
          rw [e11]
          have hE2 := flt z0
          exact bad h9 (f9.1.sk R7.1) ((fr.tr (wd f7)).tr (wc f9)) (by rw [hE2]; exact z0) (by rw [hE2]; exact e9)
      · have e59 : exS t n 59 (0, p) = (1, p) := by unfold exS; rw [if_neg y]; rfl
        rw [e59] at ezz
        have n1 : (1 : Nat) ≠ 0 := by omega
        have e118 : exS t n 118 (1, p) = (1, p) := ex_f (by omega) n1
        have ez1 : z.1 = (1, p) := by
          rw [ezz]
          have := fs_c3 (t := t) (n := n) (x := ((1, p), C)) (by show (exS t n 118 (1, p)).1 ≠ 0; rw [e118]; exact n1)
          rw [this]; exact e118
        have hE2 := flt (by rw [ez1]; exact n1)
        rw [ez1] at hE2
        exact bad h7 (f7.1.sk Rm.1) (fr.tr (wd f7)) (by rw [hE2]; exact n1) (by rw [hE2]; exact e7)
    · exact fin (f + 1) p C M h lt fr R ez
/-- a law is read (model), from any store -/
theorem m_lawR {N : Nat} (hS : mSk h) (hN : N ≤ 160) (hN1 : 1 ≤ N) (e12 : mI h 47 12 = nI n) (hn : N ≤ n) (hn2 : n < 100000) (ht : ∀ j, j < N → t j < 256 ∧ mI h 57 j = sb8 (t j))
    (K1 : (lwE t N).1 = 0 → ∀ h', mFr2 aLs h h' → mI h' 47 12 = 0 → lwD h' (lwZ t N).1.2 (lwZ t N).2.1 → Q (some (.inl (anS (lwE t N) (lwZ t N).2.1))) h')
    (K0 : (lwE t N).1 ≠ 0 → ∀ h', mFr2 aLf h h' → mI h' 47 12 = 0 → Q (some (.inl (anS (lwE t N) (lwZ t N).2.1))) h') : mC G kX12_law (d + 8) b [.inr (some 47), .inl (nI N)] h Q := by
  have l10 : ¬ (1 : Int32) = 0 := by decide
  have i1 : ¬ (f_X12_in (nI N) 1 160) = 0 := by
    have : ∀ N, N ≤ 160 → 1 ≤ N → ¬ (f_X12_in (nI N) 1 160) = 0 := by decide +kernel
    exact this N hN hN1
  refine qX12_law _ hS ⟨fun u => absurd u i1, fun _ => ?_⟩
  rw [e12, nI_leI (by omega) (by omega)]
  refine ⟨fun _ h1 e1 h2 e2 h3 e3 h4 e4 => ?_, fun u => absurd hn u⟩
  have f4 : mFr2 (fun a k => a = 47 ∧ (k = 13 ∨ k = 14 ∨ k = 17 ∨ k = 19)) h h4 := by
    rw [e4, e3, e2, e1]
    exact (((mFr2.SI (A := fun a k => a = 47 ∧ (k = 13 ∨ k = 14 ∨ k = 17 ∨ k = 19)) ⟨rfl, by omega⟩).tr (mFr2.SI (A := fun a k => a = 47 ∧ (k = 13 ∨ k = 14 ∨ k = 17 ∨ k = 19)) ⟨rfl, by omega⟩)).tr (mFr2.SI (A := fun a k => a = 47 ∧ (k = 13 ∨ k = 14 ∨ k = 17 ∨ k = 19)) ⟨rfl, by omega⟩)).tr (mFr2.SI (A := fun a k => a = 47 ∧ (k = 13 ∨ k = 14 ∨ k = 17 ∨ k = 19)) ⟨rfl, by omega⟩)
  have hS4 := f4.1.sk hS
  obtain ⟨V, eV, wV⟩ := stV_ex h4 (uU (mI h4 47 18))
  have R4 : mdS h4 t N 0 (uU (mI h4 47 16)) [] V := by
    refine ⟨hS4, ⟨?_, Nat.zero_le _⟩, ⟨?_, hN⟩, fun j hj => ⟨(ht j hj).1, by rw [f4.2 _ _ (by omega)]; exact (ht j hj).2⟩, (nI_uU _).symm, ⟨?_, fun i hi => absurd hi (by simp)⟩, by rw [eV, nI_uU], wV⟩
    · rw [e4, mI_SI_k (by omega), e3, mI_SI_k (by omega), e2, mI_SI_k (by omega), e1, mI_SI_s]; rfl
    · rw [e4, mI_SI_k (by omega), e3, mI_SI_k (by omega), e2, mI_SI_s]
    · rw [e4, mI_SI_k (by omega), e3, mI_SI_s]; rfl
  have RC : mcS h4 t N 0 [] [] := ⟨⟨_, _, R4⟩, Nat.le_refl _, ⟨by rw [e4, mI_SI_s]; rfl, by show 0 ≤ 12; omega⟩, fun q hq => absurd hq (by simp), rfl⟩
  have F4 : mFr2 aLf h h4 := f4.wk (fun a k z => by show aLf a k; unfold aLf aMc aMd; omega)
  obtain ⟨Z, eZ⟩ : ∃ Z, Z = lwZ t N := ⟨_, rfl⟩
  obtain ⟨E, eE⟩ : ∃ E, E = lwE t N := ⟨_, rfl⟩
  have hE : E = enS t N Z.1.1 Z.2.2 := by rw [eE, eZ]; unfold lwE; rfl
  rw [← eZ, ← eE] at K1 K0
  obtain ⟨z, ez⟩ : ∃ z, z = c3S t N ((0, 0), []) := ⟨_, rfl⟩
  have hz : Z = clS t N 11 (if mrS N z.1 then exS t N 59 z.1 else z.1, z.2) ([] ++ [((c1S t N ((0, 0), [])).2.length, z.2.length)]) (mrS N z.1) := by
    rw [eZ, ez]; unfold lwZ; exact cl_st
  unfold anS at K1 K0
  have L := m_lawL (G := G) (d := d) (b := b) (Q := Q) (t := t) (n := N) (h0 := h) hE (fun u h' f' e' D => by have := K1 u h' f' e' D; rw [if_pos u] at this; exact this) (fun u h' f' e' => by have := K0 u h' f' e'; rw [if_neg u] at this; exact this)
  refine m_readsClause (d := d) RC ez (fun _ z0 h5 f5 R5 => ⟨_, rfl, R5.1.choose_spec.choose_spec.1, ?_⟩) (fun _ z0 h5 f5 e5 => ⟨_, rfl, f5.1.sk hS4, ?_⟩) (fun u => absurd u (by show ¬ 0 = 12; omega))
  · have ez0 : z.1 = (0, z.1.2) := by rw [← z0]
    rw [ez0] at hz
    exact L.2 11 z.1.2 z.2 _ h5 (by simp) (F4.tr (f5.wk (fun a k z => Or.inl z))) R5 hz
  · have m0 : mrS N z.1 = false := decide_eq_false (fun v => z0 v.1)
    rw [m0] at hz
    have hz' : Z = ((z.1, z.2), [] ++ [((c1S t N ((0, 0), [])).2.length, z.2.length)], false) := hz
    have hE2 : E = z.1 := by rw [hE, hz']; rfl
    exact L.1 h5 (f5.1.sk hS4) (F4.tr (f5.wk (fun a k z => Or.inl z))) (by rw [hE2]; exact z0) (by rw [hE2]; exact e5)
end
