/-! pieces of conditions (model) -/
theorem fs_fac {t : Nat → Nat} {n : Nat} {s : aTs} (h : s.1 ≠ 0) : ∀ e, (facS t n e s).1 = s := by
  have g : ∀ S0, (fcS0 t n S0 s).1 = s := by
    intro S0
    unfold fcS0
    rw [sg_f h, if_neg (by decide), if_neg (by decide), if_neg (by decide)]
    show stS 1 s = s
    unfold stS; rw [if_neg h]
  intro e
  cases e with
  | zero => exact g none
  | succ e => exact g (some (sumS t n e))
theorem fs_sum {t : Nat → Nat} {n e : Nat} {s : aTs} (h : s.1 ≠ 0) : (sumS t n e s).1 = s := by
  have e1 := fs_fac (t := t) (n := n) h e
  have k1 : ∀ {a1 a2 a3 k : Nat}, a1 < 256 → a2 < 256 → a3 < 256 → tkS t n a1 a2 a3 k s = (none, s) := fun h1 h2 h3 => tk_n (by rw [sg_f h]; exact toO_9 h1 h2 h3)
  have e2 : (tmQ t n (facS t n e) s).1 = s := by
    unfold tmQ; rw [e1, k1 (by omega) (by omega) (by omega), tm_n]
  have e3 : smK t n (facS t n e) s = (none, s) := by
    unfold smK; rw [e2, k1 (by omega) (by omega) (by omega)]
  rw [sumS_eq]
  have e4 := sm_st (t := t) (n := n) (f := 159) (w := none) (fc := facS t n e) (s := s)
  rw [e3] at e4
  rw [show (160 : Nat) = 159 + 1 from rfl, e4]
  show (smS t n (facS t n e) 159 s none false).1 = s
  rw [sm_f]
theorem fs_cm {t : Nat → Nat} {n e : Nat} {x : aTr} (h : x.1.1 ≠ 0) : (cmS t n (sumS t n e) x).1 = x.1 := by
  obtain ⟨r, er⟩ : ∃ r, r = sumS t n e x.1 := ⟨_, rfl⟩
  obtain ⟨q, eq⟩ : ∃ q, q = tkS t n 60 62 61 7 r.1 := ⟨_, rfl⟩
  obtain ⟨r2, er2⟩ : ∃ r2, r2 = sumS t n e (if q.1.isSome then q.2 else stS 1 q.2) := ⟨_, rfl⟩
  have ez : cmS t n (sumS t n e) x = (r2.1, x.2 ++ r.2 ++ r2.2 ++ wtL q.1) := by rw [er2, eq, er]; rfl
  have er1 : r.1 = x.1 := by rw [er]; exact fs_sum h
  have eq' : q = (none, x.1) := by
    rw [eq, er1, tk_n (s := x.1) (by rw [sg_f h]; exact toO_9 (by omega) (by omega) (by omega))]
  subst eq'
  have er2' : r2 = sumS t n e (stS 1 x.1) := er2
  rw [show stS 1 x.1 = x.1 from by unfold stS; rw [if_neg h]] at er2'
  rw [ez]
  show r2.1 = x.1
  rw [er2']; exact fs_sum h
theorem fs_pc {t : Nat → Nat} {n : Nat} {x : aTr} (h : x.1.1 ≠ 0) : ∀ e, (pcS t n e x).1 = x.1 := by
  intro e
  cases e with
  | zero =>
    rw [pcS_0]; unfold pcX
    rw [sg_f h, if_neg (by omega), if_neg (by omega)]
    exact fs_cm h
  | succ e =>
    rw [pcS_s]; unfold pcX
    rw [sg_f h, if_neg (by omega), if_neg (by omega)]
    exact fs_cm h
theorem fs_cd {t : Nat → Nat} {n f : Nat} {pc : aTr → aTr} {x : aTr} {a c : Option Nat} (h : x.1.1 ≠ 0) (hp : (pc x).1 = x.1) : (cdS t n pc (f + 1) x a c true).1 = x.1 := by
  rw [cd_st, hp, sg_f h, if_neg (by omega), if_neg (by omega), cd_f]
theorem mbd.gr {p o p' : Nat} {C V X : List (Nat × Nat)} (D : mbd p o C V) (h : X.length + p ≤ p') : mbd p' o (C ++ X) V := by
  obtain ⟨d1, d2, d3, d4, d5⟩ := D
  refine ⟨by rw [List.length_append]; omega, by omega, d3, d4, ?_⟩
  exact jpV.ap _ V C.length _ d5 (Nat.le_refl _) (by simp)
theorem mbd.mo {p o p' : Nat} {C V : List (Nat × Nat)} (D : mbd p o C V) (h : p ≤ p') : mbd p' o C V := by
  obtain ⟨d1, d2, d3, d4, d5⟩ := D
  exact ⟨by omega, by omega, d3, d4, d5⟩
theorem mbd.nt {p o : Nat} {C V : List (Nat × Nat)} {c : Nat × Nat} (D : mbd p o C (c :: V)) (h : c.1 = 10) : mbd p (o - 1) (C ++ [(10, 0)]) V ∧ 1 ≤ o := by
  obtain ⟨d1, d2, d3, d4, d5⟩ := D
  have d1' : C.length + ((if 2 ≤ c.1 ∧ c.1 ≤ 10 then 1 else 0) + opn V) ≤ p := d1
  have d2' : V.length + 1 ≤ p := d2
  have d4' : (if c.1 = 10 ∨ 13 ≤ c.1 then 1 else 0) + brk V ≤ o := d4.2
  rw [if_pos (by omega)] at d1' d4'
  refine ⟨⟨by rw [List.length_append]; show C.length + 1 + _ ≤ _; omega, by omega, fun c' hc => d3 c' (by simp [hc]), ⟨by omega, by omega⟩, ?_⟩, by omega⟩
  exact jpV.ap _ V C.length _ (d5.tl (by omega)) (Nat.le_refl _) (by simp)
theorem jpV.mo {C : List (Nat × Nat)} {N N' : Nat} {V : List (Nat × Nat)} (w : jpV C N V) (h1 : N ≤ C.length) (h : N ≤ N') : jpV C N' V := by
  have := jpV.ap [] V N N' w h1 h
  rw [List.append_nil] at this
  exact this
theorem getD_set {C : List (Nat × Nat)} {i j : Nat} {x : Nat × Nat} (h : i ≠ j) : (C.set j x).getD i (0, 0) = C.getD i (0, 0) := by
  simp [List.getD, List.getElem?_set, Ne.symm h]
theorem jpV.st {C : List (Nat × Nat)} {j : Nat} {x : Nat × Nat} : ∀ (V : List (Nat × Nat)) (N : Nat), N ≤ j → jpV C N V → jpV (C.set j x) N V
  | [], _, _, _ => trivial
  | a :: V, N, hN, w => by
    unfold jpV at w ⊢
    by_cases z : a.1 = 11 ∨ a.1 = 12
    · rw [if_pos z] at w ⊢
      exact ⟨w.1, by rw [getD_set (by omega)]; exact w.2.1, jpV.st V a.2 (by omega) w.2.2⟩
    · rw [if_neg z] at w ⊢
      exact ⟨w.1, jpV.st V N hN w.2⟩
theorem jpV.hd {C : List (Nat × Nat)} {N : Nat} {c : Nat × Nat} {V : List (Nat × Nat)} (w : jpV C N (c :: V)) (h : c.1 = 11 ∨ c.1 = 12) : c.2 < N ∧ C.getD c.2 (0, 0) = (c.1, 0) ∧ jpV C c.2 V := by
  unfold jpV at w; rw [if_pos h] at w; exact w
theorem mbd.aim {p o : Nat} {C V : List (Nat × Nat)} {c : Nat × Nat} (D : mbd p o C (c :: V)) (h : c.1 = 11 ∨ c.1 = 12) : mbd p o (aiC C (some c.2)) V := by
  obtain ⟨d1, d2, d3, d4, d5⟩ := D
  have d1' : C.length + ((if 2 ≤ c.1 ∧ c.1 ≤ 10 then 1 else 0) + opn V) ≤ p := d1
  have d2' : V.length + 1 ≤ p := d2
  have d4' : (if c.1 = 10 ∨ 13 ≤ c.1 then 1 else 0) + brk V ≤ o := d4.2
  obtain ⟨j1, j2, j3⟩ := d5.hd h
  refine ⟨by rw [aiC_l]; omega, by omega, fun c' hc => d3 c' (by simp [hc]), ⟨d4.1, by omega⟩, ?_⟩
  have s1 : jpV (aiC C (some c.2)) c.2 V := jpV.st V c.2 (Nat.le_refl _) j3
  exact s1.mo (by rw [aiC_l]; omega) (by rw [aiC_l]; omega)
def laV (a : Bool) : List (Nat × Nat) → List (Nat × Nat) → List (Nat × Nat) × List (Nat × Nat)
  | C, [] => (C, [])
  | C, c :: V => if c.1 = 11 ∨ (a = true ∧ c.1 = 12) then laV a (aiC C (some c.2)) V else (C, c :: V)
theorem la_y {a : Bool} {C V : List (Nat × Nat)} {c : Nat × Nat} (h : c.1 = 11 ∨ (a = true ∧ c.1 = 12)) : laV a C (c :: V) = laV a (aiC C (some c.2)) V := by
  conv => lhs; unfold laV
  rw [if_pos h]
theorem la_n {a : Bool} {C V : List (Nat × Nat)} {c : Nat × Nat} (h : ¬ (c.1 = 11 ∨ (a = true ∧ c.1 = 12))) : laV a C (c :: V) = (C, c :: V) := by
  unfold laV
  rw [if_neg h]
theorem la_f {C V : List (Nat × Nat)} {a c : Option Nat} : laV false C (jV a c V) = (aiC C a, jV none c V) := by
  have e1 : ∀ C, laV false C (jV none c V) = (C, jV none c V) := by
    intro C
    cases c with
    | none => exact la_n (c := (13, 0)) (fun u => by rcases u with u | u; exact absurd u (by decide); exact absurd u.1 (by decide))
    | some j => exact la_n (c := (12, j)) (fun u => by rcases u with u | u; exact absurd u (by show ¬ (12 : Nat) = 11; omega); exact absurd u.1 (by decide))
  cases a with
  | none => exact e1 C
  | some j =>
    have := la_y (a := false) (C := C) (V := jV none c V) (c := (11, j)) (Or.inl rfl)
    exact this.trans (e1 _)
theorem la_t {C V : List (Nat × Nat)} {a c : Option Nat} : laV true C (jV a c V) = (aiC (aiC C a) c, (13, 0) :: V) := by
  have e0 : ∀ C, laV true C ((13, 0) :: V) = (C, (13, 0) :: V) := fun C => la_n (c := (13, 0)) (fun u => by rcases u with u | u; exact absurd u (by decide); exact absurd u.2 (by decide))
  have e1 : ∀ C, laV true C (jV none c V) = (aiC C c, (13, 0) :: V) := by
    intro C
    cases c with
    | none => exact e0 C
    | some j =>
      have := la_y (a := true) (C := C) (V := (13, 0) :: V) (c := (12, j)) (Or.inr ⟨rfl, rfl⟩)
      exact this.trans (e0 _)
  cases a with
  | none => exact e1 C
  | some j =>
    have := la_y (a := true) (C := C) (V := jV none c V) (c := (11, j)) (Or.inl rfl)
    exact this.trans (e1 _)
theorem op_c : ∀ o, o ≤ 14 → ((nI o = 10 ↔ o = 10) ∧ (nI o = 11 ↔ o = 11) ∧ (nI o = 12 ↔ o = 12)) := by decide +kernel
section
variable {G : mG} {d : Nat} {b : Nat × Nat} {h : mH} {Q : Option mV → mH → Prop} {t : Nat → Nat} {n : Nat}
theorem mdS.dn {h1 : mH} {p o : Nat} {C V : List (Nat × Nat)} (R : mdS h t n p o C V) (ho : 1 ≤ o) (e : h1 = mSI h 47 16 (mI h 47 16 - 1)) : mFr2 aMd h h1 ∧ mdS h1 t n p (o - 1) C V := by
  obtain ⟨hS, ⟨e13, hp⟩, ⟨e14, hn⟩, ht, e16, ⟨e17, hc⟩, e18, hw⟩ := R
  rw [e16, show (1 : Int32) = nI 1 from rfl, pk_sub ho] at e
  have f : mFr2 (fun a k => a = 47 ∧ k = 16) h h1 := by rw [e]; exact mFr2.SI ⟨rfl, rfl⟩
  exact ⟨f.wk (fun a k z => by unfold aMd; omega), f.1.sk hS, ⟨by rw [f.2 _ _ (by omega)]; exact e13, hp⟩, ⟨by rw [f.2 _ _ (by omega)]; exact e14, hn⟩, fun j hj => ⟨(ht j hj).1, by rw [f.2 _ _ (by omega)]; exact (ht j hj).2⟩, by rw [e, mI_SI_s], ⟨by rw [f.2 _ _ (by omega)]; exact e17, fun i hi => by rw [f.2 _ _ (by omega)]; exact hc i hi⟩, by rw [f.2 _ _ (by omega)]; exact e18, stV.cg V (fun i _ => f.2 _ _ (by omega)) hw⟩
theorem m_endsPiece {p : Nat} {h0 : mH} : ∀ (V C : List (Nat × Nat)) (o : Nat) (h : mH), mFr2 aMd h0 h → mdS h t n p o C V → mbd p o C V → (∀ h', mFr2 aMd h0 h' → mdS h' t n p (flV o C V).1 (flV o C V).2.1 (flV o C V).2.2 → mbd p (flV o C V).1 (flV o C V).2.1 (flV o C V).2.2 → Q none h') → mW G kX12_endsPiece (d + 1) b 0 [some (.inr (some 47))] [] h Q
  | [], C, o, h, f, R, D, K => by
    have hn := R.2.2.1.2
    have hpn := R.2.1.2
    exact qX12_endsPiece_0 R.1 (m_topI R (by simp) (D.b (by omega)) ⟨_, rfl, R.1, fun _ => K h f R D, fun u => absurd u (by decide)⟩)
  | c :: V, C, o, h, f, R, D, K => by
    have hn := R.2.2.1.2
    have hpn := R.2.1.2
    have l1 := D.1
    have l2 := D.2.1
    have o1 := (op_c c.1 (D.2.2.1 c (by simp))).1
    refine qX12_endsPiece_0 R.1 (m_topI R (by omega) (D.b (by omega)) ⟨_, rfl, R.1, fun u => ?_, fun u => ?_⟩)
    · have u' : c.1 ≠ 10 := fun w => u (o1.mpr w)
      rw [fl_o u'] at K
      exact K h f R D
    · have u' : c.1 = 10 := o1.mp u
      obtain ⟨D2, o2⟩ := D.nt u'
      refine m_notesC (op := 10) (v := 0) R (by omega) (fun h3 f3 R3 => ⟨rfl, R3.1, fun h4 e4 h5 e5 => ?_⟩)
      obtain ⟨f4, R4⟩ := R3.pop e4
      obtain ⟨f5, R5⟩ := R4.dn o2 e5
      have ek : flV o C (c :: V) = flV (o - 1) (C ++ [(10, 0)]) V := by
        conv => lhs; unfold flV
        rw [if_pos u']
      rw [ek] at K
      exact m_endsPiece V (C ++ [(10, 0)]) (o - 1) h5 (((f.tr (f3.wk (fun a k z => by unfold aMd; omega))).tr (f4.wk (fun a k z => by unfold aMd; omega))).tr f5) R5 D2 K
theorem mdS.aim {h6 h7 : mH} {p o : Nat} {c : Nat × Nat} {C V : List (Nat × Nat)} (R : mdS h t n p o C (c :: V)) (D : mbd p o C (c :: V)) (hc : c.1 = 11 ∨ c.1 = 12) :
    (vp_in (mI h 47 18 - 1) 180 ∧ vp_in (m_rem (mI h 59 (mI h 47 18 - 1).toNatClampNeg) 1048576) 180) ∧ (h6 = mSI h 58 (m_rem (mI h 59 ((mI h 47 18) - 1).toNatClampNeg) 1048576).toNatClampNeg ((1048576 * ((mI h 58 (m_rem (mI h 59 ((mI h 47 18) - 1).toNatClampNeg) 1048576).toNatClampNeg) / 1048576)) + (mI h 47 17)) → h7 = mSI h6 47 18 (mI h6 47 18 - 1) → mFr2 aMd h h7 ∧ mdS h7 t n p o (aiC C (some c.2)) V) := by
  obtain ⟨hS, ⟨e13, hp⟩, ⟨e14, hn⟩, ht, e16, ⟨e17, hcd⟩, e18, hw⟩ := R
  obtain ⟨d1, d2, d3, d4, d5⟩ := D
  obtain ⟨j1, j2, j3⟩ := d5.hd hc
  have d2' : V.length + 1 ≤ p := d2
  have ev : mI h 47 18 - 1 = nI V.length := by rw [e18, show (c :: V).length = V.length + 1 from rfl, show (1 : Int32) = nI 1 from rfl, pk_sub (by omega)]; rfl
  have w0 : mI h 59 V.length = nI (1048576 * c.1 + c.2) := hw.1
  have er : m_rem (nI (1048576 * c.1 + c.2)) 1048576 = nI c.2 := by
    rw [show (1048576 : Int32) = nI 1048576 from rfl, ii_rem (by omega) (by omega) (by omega), show (1048576 * c.1 + c.2) % 1048576 = c.2 by omega]
  have cj := hcd c.2 j1
  rw [j2] at cj
  have cj' : mI h 58 c.2 = nI (1048576 * c.1 + 0) := cj
  have ed : nI (1048576 * c.1 + 0) / 1048576 = nI c.1 := by
    rw [show (1048576 : Int32) = nI 1048576 from rfl, ii_div (by omega) (by omega) (by omega), show (1048576 * c.1 + 0) / 1048576 = c.1 by omega]
  rw [ev, nI_clamp (show V.length < 2 ^ 31 by omega), w0, er, nI_clamp (show c.2 < 2 ^ 31 by omega), cj', ed, e17, show (1048576 : Int32) = nI 1048576 from rfl, pk_mul, nI_add]
  refine ⟨⟨vp_in_nI (by omega) (by omega), vp_in_nI (by omega) (by omega)⟩, fun e6 e7 => ?_⟩
  have e618 : mI h6 47 18 = nI (c :: V).length := by rw [e6, mI_SI_a (by omega)]; exact e18
  rw [e618, show (c :: V).length = V.length + 1 from rfl, show (1 : Int32) = nI 1 from rfl, pk_sub (by omega)] at e7
  have f : mFr2 (fun a k => a = 58 ∨ (a = 47 ∧ k = 18)) h h7 := by
    rw [e7, e6]
    exact (mFr2.SI (A := fun a k => a = 58 ∨ (a = 47 ∧ k = 18)) (Or.inl rfl)).tr (mFr2.SI (A := fun a k => a = 58 ∨ (a = 47 ∧ k = 18)) (Or.inr ⟨rfl, rfl⟩))
  refine ⟨f.wk (fun a k z => by unfold aMd; omega), f.1.sk hS, ⟨by rw [f.2 _ _ (by omega)]; exact e13, hp⟩, ⟨by rw [f.2 _ _ (by omega)]; exact e14, hn⟩, fun j hj => ⟨(ht j hj).1, by rw [f.2 _ _ (by omega)]; exact (ht j hj).2⟩, by rw [f.2 _ _ (by omega)]; exact e16, ⟨by rw [aiC_l, f.2 _ _ (by omega)]; exact e17, fun i hi => ?_⟩, ?_, stV.cg V (fun i _ => f.2 _ _ (by omega)) hw.2⟩
  · rw [aiC_l] at hi
    show mI h7 58 i = nI (1048576 * ((C.set c.2 ((C.getD c.2 (0, 0)).1, (C.getD c.2 (0, 0)).2 + C.length)).getD i (0, 0)).1 + ((C.set c.2 ((C.getD c.2 (0, 0)).1, (C.getD c.2 (0, 0)).2 + C.length)).getD i (0, 0)).2)
    rw [e7, mI_SI_a (by omega), e6]
    by_cases q : i = c.2
    · subst q
      rw [mI_SI_s, j2, show (C.set c.2 ((c.1, 0).1, (c.1, 0).2 + C.length)).getD c.2 (0, 0) = (c.1, 0 + C.length) from by simp [List.getD, j1]]
      rw [Nat.zero_add]
    · rw [mI_SI_k q, getD_set q]
      exact hcd i hi
  · rw [e7, mI_SI_s]; rfl
theorem m_lands {p o : Nat} (a : Bool) {h0 : mH} : ∀ (V C : List (Nat × Nat)) (h : mH), mFr2 aMd h0 h → mdS h t n p o C V → mbd p o C V → (∀ h', mFr2 aMd h0 h' → mdS h' t n p o (laV a C V).1 (laV a C V).2 → mbd p o (laV a C V).1 (laV a C V).2 → Q none h') → mW G kX12_lands (d + 1) b 0 [some (.inr (some 47)), some (.inl (b2i a)), none] [] h Q
  | [], C, h, f, R, D, K => by
    have hn := R.2.2.1.2
    have hpn := R.2.1.2
    have KK : Q none h := K h f R D
    exact qX12_lands_0 _ R.1 (m_topI R (by simp) (D.b (by omega)) ⟨_, rfl, R.1, fun u => absurd u (by decide), fun _ => ⟨fun _ => KK, fun _ => m_topI R (by simp) (D.b (by omega)) ⟨_, rfl, R.1, fun _ => KK, fun u => absurd u (by decide)⟩⟩⟩)
  | c :: V, C, h, f, R, D, K => by
    have hn := R.2.2.1.2
    have hpn := R.2.1.2
    have l2 := D.2.1
    have a0 : b2i a = 0 ↔ a = false := b2i_0
    obtain ⟨-, o1, o2⟩ := op_c c.1 (D.2.2.1 c (by simp))
    refine qX12_lands_0 _ R.1 (m_topI R (by omega) (D.b (by omega)) ⟨_, rfl, R.1, fun u => ?_, fun u => ⟨fun w => ?_, fun w => m_topI R (by omega) (D.b (by omega)) ⟨_, rfl, R.1, fun y => ?_, fun y => ?_⟩⟩⟩)
    · have u' : c.1 = 11 := o1.mp u
      have A := fun h6 h7 => R.aim (h6 := h6) (h7 := h7) D (Or.inl u')
      refine ⟨(A h h).1.1, (A h h).1.2, (A h h).1.2, fun h6 e6 h7 e7 => ?_⟩
      obtain ⟨f7, R7⟩ := (A h6 h7).2 e6 e7
      rw [la_y (Or.inl u')] at K
      exact m_lands a V _ h7 (f.tr f7) R7 (D.aim (Or.inl u')) K
    · have u' : ¬ c.1 = 11 := fun x => u (o1.mpr x)
      rw [la_n (fun x => by rcases x with x | x; exact u' x; rw [a0.mp w] at x; exact absurd x.1 (by decide))] at K
      exact K h f R D
    · have u' : ¬ c.1 = 11 := fun x => u (o1.mpr x)
      have y' : ¬ c.1 = 12 := fun x => y (o2.mpr x)
      rw [la_n (fun x => by rcases x with x | x; exact u' x; exact y' x.2)] at K
      exact K h f R D
    · have y' : c.1 = 12 := o2.mp y
      have at' : a = true := by revert w; rw [a0]; cases a <;> simp
      have A := fun h6 h7 => R.aim (h6 := h6) (h7 := h7) D (Or.inr y')
      refine ⟨(A h h).1.1, (A h h).1.2, (A h h).1.2, fun h6 e6 h7 e7 => ?_⟩
      obtain ⟨f7, R7⟩ := (A h6 h7).2 e6 e7
      rw [la_y (Or.inr ⟨at', y'⟩)] at K
      exact m_lands a V _ h7 (f.tr f7) R7 (D.aim (Or.inr y')) K
theorem mbd.ju {p o op : Nat} {C V : List (Nat × Nat)} (D : mbd p o C V) (hop : op = 11 ∨ op = 12) : mbd (p + 1) o (C ++ [(op, 0)]) ((op, C.length) :: V) := by
  obtain ⟨d1, d2, d3, d4, d5⟩ := D
  refine ⟨?_, by show V.length + 1 ≤ _; omega, fun c hc => ?_, ⟨d4.1, ?_⟩, ?_⟩
  · rw [List.length_append]
    show C.length + 1 + ((if 2 ≤ op ∧ op ≤ 10 then 1 else 0) + opn V) ≤ p + 1
    rw [if_neg (by omega)]; omega
  · rcases List.mem_cons.mp hc with e | e
    · rw [e]; show op ≤ 14; omega
    · exact d3 c e
  · show (if op = 10 ∨ 13 ≤ op then 1 else 0) + brk V ≤ o
    rw [if_neg (by omega)]; omega
  · unfold jpV
    rw [if_pos (show ((op, C.length) : Nat × Nat).1 = 11 ∨ ((op, C.length) : Nat × Nat).1 = 12 from hop)]
    refine ⟨by simp, by simp [List.getD], ?_⟩
    exact jpV.ap _ V C.length _ d5 (Nat.le_refl _) (Nat.le_refl _)
theorem m_jumps {p o op : Nat} {C V : List (Nat × Nat)} (R : mdS h t n p o C V) (D : mbd p o C V) (hp : p < n) (hop : op = 11 ∨ op = 12) (K : ∀ h', mFr2 aMd h h' → mdS h' t n (p + 1) o (C ++ [(op, 0)]) ((op, C.length) :: V) → mbd (p + 1) o (C ++ [(op, 0)]) ((op, C.length) :: V) → Q none h') : mC G kX12_jumps (d + 1) b [.inr (some 47), .inl (nI op)] h Q := by
  have DJ := D.ju hop
  have l1 := D.1
  have l2 := D.2.1
  obtain ⟨hS, ⟨e13, hpn⟩, ⟨e14, hn⟩, ht, e16, ⟨e17, hc⟩, e18, hw⟩ := R
  refine qX12_jumps _ hS ?_
  rw [e18, e17, nI_clamp (show V.length < 2 ^ 31 by omega), show (1048576 : Int32) = nI 1048576 from rfl, pk_mul, nI_add]
  refine ⟨vp_in_nI (by omega) (by omega), fun h2 e2 h3 e3 => ?_⟩
  have e218 : mI h2 47 18 = nI V.length := by rw [e2, mI_SI_a (by omega)]; exact e18
  rw [e218, nI_1] at e3
  have f : mFr2 (fun a k => a = 59 ∨ (a = 47 ∧ k = 18)) h h3 := by
    rw [e3, e2]
    exact (mFr2.SI (A := fun a k => a = 59 ∨ (a = 47 ∧ k = 18)) (Or.inl rfl)).tr (mFr2.SI (A := fun a k => a = 59 ∨ (a = 47 ∧ k = 18)) (Or.inr ⟨rfl, rfl⟩))
  have R3 : mdS h3 t n p o C ((op, C.length) :: V) := by
    refine ⟨f.1.sk hS, ⟨by rw [f.2 _ _ (by omega)]; exact e13, hpn⟩, ⟨by rw [f.2 _ _ (by omega)]; exact e14, hn⟩, fun j hj => ⟨(ht j hj).1, by rw [f.2 _ _ (by omega)]; exact (ht j hj).2⟩, by rw [f.2 _ _ (by omega)]; exact e16, ⟨by rw [f.2 _ _ (by omega)]; exact e17, fun i hi => by rw [f.2 _ _ (by omega)]; exact hc i hi⟩, ?_, ?_, ?_⟩
    · rw [e3, mI_SI_s]; rfl
    · rw [e3, mI_SI_a (by omega), e2, mI_SI_s]
    · exact stV.cg V (fun i hi => by rw [e3, mI_SI_a (by omega), e2, mI_SI_k (by omega)]) hw
  refine m_notesC (op := op) (v := 0) R3 (by omega) (fun h4 f4 R4 => ⟨rfl, R4.1, fun h5 e5 => ?_⟩)
  obtain ⟨f5, R5⟩ := R4.one hp e5
  exact K h5 (((f.wk (fun a k z => by unfold aMd; omega)).tr (f4.wk (fun a k z => by unfold aMd; omega))).tr f5) R5 DJ
end
