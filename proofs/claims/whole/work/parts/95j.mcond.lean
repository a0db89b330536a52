/-! conditions (model) -/
theorem cmp_c {c : Nat} (h60 : c ≠ 60) (h62 : c ≠ 62) (h61 : c ≠ 61) : toO c 60 62 61 7 = none := by
  unfold toO; rw [if_neg h60, if_neg h62, if_neg h61]
section
variable {G : mG} {d : Nat} {b : Nat × Nat} {h : mH} {Q : Option mV → mH → Prop} {t : Nat → Nat} {n : Nat}
set_option maxHeartbeats 800000 in
theorem m_readsCompared {p o e : Nat} {C V : List (Nat × Nat)} {z : aTr} (R : mdS h t n p o C V) (D : mbd p o C V) (hp : 1 ≤ p) (he : e ≤ 6) (ho : o = 6 - e) (hV : topS V) (ez : z = cmS t n (sumS t n e) ((0, p), C))
    (K1 : z.1.1 = 0 → ∀ h', mFr2 aMd h h' → mdS h' t n z.1.2 (flV o z.2 V).1 (flV o z.2 V).2.1 (flV o z.2 V).2.2 → mbd z.1.2 (flV o z.2 V).1 (flV o z.2 V).2.1 (flV o z.2 V).2.2 → Q (some (.inl 1)) h')
    (K0 : z.1.1 ≠ 0 → ∀ h', mFr2 aMd h h' → mI h' 47 15 = -1000 * nI z.1.1 - nI z.1.2 → Q (some (.inl 0)) h') : mC G kX12_readsCompared (d + 5) b [.inr (some 47)] h Q := by
  have l10 : ¬ (1 : Int32) = 0 := by decide
  obtain ⟨r, er⟩ : ∃ r, r = sumS t n e (0, p) := ⟨_, rfl⟩
  obtain ⟨q, eq⟩ : ∃ q, q = tkS t n 60 62 61 7 r.1 := ⟨_, rfl⟩
  obtain ⟨r2, er2⟩ : ∃ r2, r2 = sumS t n e (if q.1.isSome then q.2 else stS 1 q.2) := ⟨_, rfl⟩
  have ez' : z = (r2.1, C ++ r.2 ++ r2.2 ++ wtL q.1) := by rw [ez, er2, eq, er]; rfl
  have hn := R.2.2.1.2
  refine qX12_readsCompared R.1 (m_readsSum R D hp he ho hV er (fun r0 h1 f1 R1 D1 => ⟨_, rfl, R1.1, fun _ => ?_, fun u => absurd u l10⟩) (fun r0 h1 f1 e1 => ⟨_, rfl, f1.1.sk R.1, fun u => absurd rfl u, fun _ => ?_⟩))
  · have e1 : r.1 = (0, r.1.2) := by rw [← r0]
    have pr := pl_sum (t := t) (n := n) e (0, p) (by rw [← er]; exact r0)
    rw [← er] at pr
    have pr' : r.2.length + p ≤ r.1.2 := pr
    have hb := R1.hb
    have i60 : sgI (sgS t n (0, r.1.2)) = 60 ↔ sgS t n (0, r.1.2) = 60 := sgI_eq hb (show 60 < 256 by omega)
    have i62 : sgI (sgS t n (0, r.1.2)) = 62 ↔ sgS t n (0, r.1.2) = 62 := sgI_eq hb (show 62 < 256 by omega)
    have i61 : sgI (sgS t n (0, r.1.2)) = 61 ↔ sgS t n (0, r.1.2) = 61 := sgI_eq hb (show 61 < 256 by omega)
    -- a sign that compares
    have go : ∀ (m : Nat), toO (sgS t n (0, r.1.2)) 60 62 61 7 = some m → ∀ h10, h10 = mSI h1 47 13 (mI h1 47 13 + 1) → mC G kX12_readsSum (d + 4) (0, 0) [.inr (some 47)] h10 (fun r h11 => ∃ x12, r = some (.inl x12) ∧ mSk h11 ∧ ((¬ x12 = 0 → mC G kX12_notes (d + 4) (0, 0) [.inr (some 47), .inl (nI m), .inl 0] h11 (fun r h13 => r = none ∧ mSk h13 ∧ mC G kX12_endsPiece (d + 4) (0, 0) [.inr (some 47)] h13 (fun r h14 => r = none ∧ mSk h14 ∧ Q (some (.inl 1)) h14))) ∧ (x12 = 0 → Q (some (.inl 0)) h11))) := by
      intro m zm h10 e10
      have lt : r.1.2 < n := (sg_lt (t := t) (n := n) (s := (0, r.1.2)) (fun u => by rw [u, toO_9 (by omega) (by omega) (by omega)] at zm; cases zm)).2
      obtain ⟨f10, R10⟩ := R1.one lt e10
      have eq' : q = (some m, (0, r.1.2 + 1)) := by
        rw [eq, tk_y (s := r.1) (by rw [e1]; exact zm)]
        unfold adS; rw [r0]
      subst eq'
      have er2' : r2 = sumS t n e (0, r.1.2 + 1) := er2
      refine m_readsSum R10 (D1.mo (by omega)) (by omega) he ho hV er2' (fun q0 h11 f11 R11 D11 => ⟨_, rfl, R11.1, fun _ => ?_, fun u => absurd u l10⟩) (fun q0 h11 f11 e11 => ⟨_, rfl, f11.1.sk R10.1, fun u => absurd rfl u, fun _ => ?_⟩)
      · have pr2 := pl_sum (t := t) (n := n) e (0, r.1.2 + 1) (by rw [← er2']; exact q0)
        rw [← er2'] at pr2
        have pr2' : r2.2.length + (r.1.2 + 1) ≤ r2.1.2 := pr2
        have l1 := D11.1
        have p11 := R11.2.1.2
        refine m_notesC (op := m) (v := 0) R11 (by omega) (fun h13 f13 R13 => ⟨rfl, R13.1, ?_⟩)
        have D13 : mbd r2.1.2 o (C ++ r.2 ++ r2.2 ++ [(m, 0)]) V := by
          rw [List.append_assoc (C ++ r.2)]
          exact D1.gr (by rw [List.length_append]; show r2.2.length + 1 + _ ≤ _; omega)
        refine qX12_endsPiece R13.1 (m_endsPiece (d := d + 3) (h0 := h) V _ o h13 ?_ R13 D13 (fun h14 f14 R14 D14 => ⟨rfl, R14.1, ?_⟩))
        · exact ((f1.tr f10).tr f11).tr (f13.wk (fun a k z => by unfold aMd; omega))
        · subst ez'
          exact K1 q0 h14 f14 R14 D14
      · subst ez'
        exact K0 q0 h11 ((f1.tr f10).tr f11) e11
    have wr : toO (sgS t n (0, r.1.2)) 60 62 61 7 = none → mC G kX12_wrongAt (d + 4) (0, 0) [.inr (some 47), .inl 1, .inl (mI h1 47 13)] h1 (fun r h16 => ∃ x17, r = some (.inl x17) ∧ mSk h16 ∧ m_bool x17 ∧ Q (some (.inl x17)) h16) := by
      intro zn
      have eq' : q = (none, (0, r.1.2)) := by
        rw [eq, tk_n (s := r.1) (by rw [e1]; exact zn), ← e1]
      subst eq'
      have er2' : r2 = sumS t n e (1, r.1.2) := er2
      have e21 : r2.1 = (1, r.1.2) := by rw [er2']; exact fs_sum (show (1 : Nat) ≠ 0 by omega)
      have e31 : z.1 = (1, r.1.2) := by rw [ez']; exact e21
      rw [e31] at K0
      rw [R1.2.1.1]
      exact m_wrongP (k := 1) R1 (fun h' f' R' e' => ⟨_, rfl, R'.1, Or.inl rfl, K0 (show (1 : Nat) ≠ 0 by omega) h' (f1.tr (f'.wk (fun a k z => by unfold aMd; omega))) e'⟩)
    refine m_here R1 ⟨_, rfl, R1.1, fun u1 => m_here R1 ⟨_, rfl, R1.1, fun u2 => m_here R1 ⟨_, rfl, R1.1, fun w9 e9 => ⟨fun u3 => ?_, fun u3 => ?_⟩⟩, fun u2 => ⟨fun _ => ?_, fun u => absurd u (by decide)⟩⟩, fun u1 => ⟨fun _ => ?_, fun u => absurd u (by decide)⟩⟩
    · have n1 : sgS t n (0, r.1.2) ≠ 60 := fun x => u1 (i60.mpr x)
      have n2 : sgS t n (0, r.1.2) ≠ 62 := fun x => u2 (i62.mpr x)
      by_cases n3 : sgS t n (0, r.1.2) = 61
      · rw [if_neg (show ¬ ¬ sgI (sgS t n (0, r.1.2)) = 61 from fun x => x (i61.mpr n3))] at e9
        rw [e9]
        exact go 9 (by rw [n3]; rfl)
      · rw [if_pos (show ¬ sgI (sgS t n (0, r.1.2)) = 61 from fun x => n3 (i61.mp x))] at e9
        exact absurd e9 u3
    · have n1 : sgS t n (0, r.1.2) ≠ 60 := fun x => u1 (i60.mpr x)
      have n2 : sgS t n (0, r.1.2) ≠ 62 := fun x => u2 (i62.mpr x)
      by_cases n3 : sgS t n (0, r.1.2) = 61
      · rw [if_neg (show ¬ ¬ sgI (sgS t n (0, r.1.2)) = 61 from fun x => x (i61.mpr n3))] at e9
        rw [e9] at u3
        exact absurd u3 (by decide)
      · exact wr (cmp_c n1 n2 n3)
    · exact go 8 (by rw [i62.mp u2]; rfl)
    · exact go 7 (by rw [i60.mp u1]; rfl)
  · have eq' : q = (none, r.1) := by
      rw [eq, tk_n (s := r.1) (by rw [sg_f r0]; exact toO_9 (by omega) (by omega) (by omega))]
    subst eq'
    have er2' : r2 = sumS t n e (stS 1 r.1) := er2
    rw [show stS 1 r.1 = r.1 from by unfold stS; rw [if_neg r0]] at er2'
    have e21 : r2.1 = r.1 := by rw [er2']; exact fs_sum r0
    have e31 : z.1 = r.1 := by rw [ez']; exact e21
    rw [e31] at K0
    exact K0 r0 h1 f1 e1
end
/-- the model's states -/
def s4 (G : mG) (d : Nat) (b : Nat × Nat) (Q : Option mV → mH → Prop) (h0 : mH) (t : Nat → Nat) (n p o : Nat) (C V : List (Nat × Nat)) : Prop := ∀ h, mFr2 aMd h0 h → mdS h t n p o C V → mbd p o C V → mW G kX12_readsCondition (d + 6) b 40 [some (.inr (some 47))] [] h Q
def s9 (G : mG) (d : Nat) (b : Nat × Nat) (Q : Option mV → mH → Prop) (h0 : mH) (t : Nat → Nat) (n p o : Nat) (C V : List (Nat × Nat)) : Prop := ∀ h, mFr2 aMd h0 h → mdS h t n p o C V → mbd p o C V → mW G kX12_readsCondition (d + 6) b 92 [some (.inr (some 47))] [] h Q
def sE (Q : Option mV → mH → Prop) (h0 : mH) (t : Nat → Nat) (n p : Nat) (C : List (Nat × Nat)) : Prop := ∀ h, mFr2 aMd h0 h → mdS h t n p 0 C [] → mbd p 0 C [] → Q (some (.inl 1)) h
section
variable {G : mG} {d : Nat} {b : Nat × Nat} {h0 : mH} {Q : Option mV → mH → Prop} {t : Nat → Nat} {n : Nat}
set_option maxHeartbeats 1000000 in
theorem m_simC : simC t n (s4 G d b Q h0 t n) (s9 G d b Q h0 t n) (sXf Q h0) (sE Q h0 t n) := by
  have l10 : ¬ (1 : Int32) = 0 := by decide
  have l00 : ¬ ¬ (0 : Int32) = 0 := by decide
  -- a bracket or a not opens
  have op33 : ∀ (h : mH) (p o : Nat) (C V : List (Nat × Nat)) (Q' : Option mV → mH → Prop), mdS h t n p o C V → sgS t n (0, p) = 33 → mC G kX12_opens (d + 5) (0, 0) [.inr (some 47), .inl 10] h Q' → (mC G kX12_here (d + 5) (0, 0) [.inr (some 47)] h (fun r h3 => ∃ x4, r = some (.inl x4) ∧ mSk h3 ∧ ∀ w5 : Int32, w5 = (if ¬ x4 = 33 then 13 else 10) → mC G kX12_opens (d + 5) (0, 0) [.inr (some 47), .inl w5] h3 Q')) := by
    intro h p o C V Q' R z k
    have i33 : sgI (sgS t n (0, p)) = 33 ↔ sgS t n (0, p) = 33 := sgI_eq R.hb (show 33 < 256 by omega)
    refine m_here R ⟨_, rfl, R.1, fun w5 e5 => ?_⟩
    rw [if_neg (show ¬ ¬ sgI (sgS t n (0, p)) = 33 from fun x => x (i33.mpr z))] at e5
    rw [e5]; exact k
  have op40 : ∀ (h : mH) (p o : Nat) (C V : List (Nat × Nat)) (Q' : Option mV → mH → Prop), mdS h t n p o C V → sgS t n (0, p) = 40 → mC G kX12_opens (d + 5) (0, 0) [.inr (some 47), .inl 13] h Q' → (mC G kX12_here (d + 5) (0, 0) [.inr (some 47)] h (fun r h3 => ∃ x4, r = some (.inl x4) ∧ mSk h3 ∧ ∀ w5 : Int32, w5 = (if ¬ x4 = 33 then 13 else 10) → mC G kX12_opens (d + 5) (0, 0) [.inr (some 47), .inl w5] h3 Q')) := by
    intro h p o C V Q' R z k
    have i33 : sgI (sgS t n (0, p)) = 33 ↔ sgS t n (0, p) = 33 := sgI_eq R.hb (show 33 < 256 by omega)
    refine m_here R ⟨_, rfl, R.1, fun w5 e5 => ?_⟩
    rw [if_pos (show ¬ sgI (sgS t n (0, p)) = 33 from fun x => by have := i33.mp x; omega)] at e5
    rw [e5]; exact k
  refine ⟨?_, ?_, ?_, ?_, ?_, ?_, ?_, ?_⟩
  · intro p o C V z ho K h f R D
    have i33 : sgI (sgS t n (0, p)) = 33 ↔ sgS t n (0, p) = 33 := sgI_eq R.hb (show 33 < 256 by omega)
    have lt : p < n := (sg_lt (t := t) (n := n) (s := (0, p)) (by omega)).2
    have hn := R.2.2.1.2
    refine qX12_readsCondition_40 R.1 (m_here R ⟨_, rfl, R.1, fun _ => op33 h p o C V _ R z ?_, fun u => absurd (i33.mpr z) u⟩)
    exact m_opensW (w := 10) R (by omega) lt (by have := D.2.1; omega) (fun u => by omega) (fun _ h' f' R' => ⟨_, rfl, R'.1, fun _ => K h' (f.tr f') R' (D.pu (by omega) (by omega) (by omega) (by split <;> omega)), fun u => absurd u l10⟩)
  · intro p C V z K h f R D
    have i33 : sgI (sgS t n (0, p)) = 33 ↔ sgS t n (0, p) = 33 := sgI_eq R.hb (show 33 < 256 by omega)
    have i40 : sgI (sgS t n (0, p)) = 40 ↔ sgS t n (0, p) = 40 := sgI_eq R.hb (show 40 < 256 by omega)
    have lt : p < n := (sg_lt (t := t) (n := n) (s := (0, p)) (by omega)).2
    have hn := R.2.2.1.2
    by_cases z1 : sgS t n (0, p) = 33
    · refine qX12_readsCondition_40 R.1 (m_here R ⟨_, rfl, R.1, fun _ => op33 h p 6 C V _ R z1 ?_, fun u => absurd (i33.mpr z1) u⟩)
      exact m_opensW (w := 10) R (by omega) lt (by have := D.2.1; omega) (fun u h' f' e' => ⟨_, rfl, f'.1.sk R.1, fun u => absurd rfl u, fun _ => K h' (f.tr f') e'⟩) (fun u => by omega)
    · have z2 : sgS t n (0, p) = 40 := by omega
      refine qX12_readsCondition_40 R.1 (m_here R ⟨_, rfl, R.1, fun u => absurd (i33.mp u) z1, fun _ => m_here R ⟨_, rfl, R.1, fun u => absurd (i40.mpr z2) u, fun _ => op40 h p 6 C V _ R z2 ?_⟩⟩)
      exact m_opensW (w := 13) R (by omega) lt (by have := D.2.1; omega) (fun u h' f' e' => ⟨_, rfl, f'.1.sk R.1, fun u => absurd rfl u, fun _ => K h' (f.tr f') e'⟩) (fun u => by omega)
  · intro p o C V z2 ho K h f R D
    have i33 : sgI (sgS t n (0, p)) = 33 ↔ sgS t n (0, p) = 33 := sgI_eq R.hb (show 33 < 256 by omega)
    have i40 : sgI (sgS t n (0, p)) = 40 ↔ sgS t n (0, p) = 40 := sgI_eq R.hb (show 40 < 256 by omega)
    have lt : p < n := (sg_lt (t := t) (n := n) (s := (0, p)) (by omega)).2
    have hn := R.2.2.1.2
    refine qX12_readsCondition_40 R.1 (m_here R ⟨_, rfl, R.1, fun u => by have := i33.mp u; omega, fun _ => m_here R ⟨_, rfl, R.1, fun u => absurd (i40.mpr z2) u, fun _ => op40 h p o C V _ R z2 ?_⟩⟩)
    exact m_opensW (w := 13) R (by omega) lt (by have := D.2.1; omega) (fun u => by omega) (fun _ h' f' R' => ⟨_, rfl, R'.1, fun _ => K h' (f.tr f') R' (D.pu (by omega) (by omega) (by omega) (by split <;> omega)), fun u => absurd u l10⟩)
  · intro p e C V z he hp hV z1 z2 ez K KX h f R D
    have i33 : sgI (sgS t n (0, p)) = 33 ↔ sgS t n (0, p) = 33 := sgI_eq R.hb (show 33 < 256 by omega)
    have i40 : sgI (sgS t n (0, p)) = 40 ↔ sgS t n (0, p) = 40 := sgI_eq R.hb (show 40 < 256 by omega)
    refine qX12_readsCondition_40 R.1 (m_here R ⟨_, rfl, R.1, fun u => absurd (i33.mp u) z1, fun _ => m_here R ⟨_, rfl, R.1, fun _ => ?_, fun u => absurd (i40.mp u) z2⟩⟩)
    exact m_readsCompared (d := d) R D hp he rfl hV ez (fun z0 h' f' R' D' => ⟨_, rfl, R'.1, fun _ => K z0 h' (f.tr f') R' D', fun u => absurd u l10⟩) (fun z0 h' f' e' => ⟨_, rfl, f'.1.sk R.1, fun u => absurd rfl u, fun _ => KX z0 h' (f.tr f') e'⟩)
  · intro p o C V a c z K h f R D
    have hb := R.hb
    have i41 : sgI (sgS t n (0, p)) = 41 ↔ sgS t n (0, p) = 41 := sgI_eq hb (show 41 < 256 by omega)
    have i38 : sgI (sgS t n (0, p)) = 38 ↔ sgS t n (0, p) = 38 := sgI_eq hb (show 38 < 256 by omega)
    have i124 : sgI (sgS t n (0, p)) = 124 ↔ sgS t n (0, p) = 124 := sgI_eq hb (show 124 < 256 by omega)
    have lt : p < n := (sg_lt (t := t) (n := n) (s := (0, p)) (by omega)).2
    refine qX12_readsCondition_92 R.1 (m_here R ⟨_, rfl, R.1, fun _ => m_here R ⟨_, rfl, R.1, fun _ => m_here R ⟨_, rfl, R.1, fun w7 e7 => ?_⟩, fun u => absurd (i38.mpr z) u⟩, fun u => by have := i41.mp u; omega⟩)
    rw [if_pos (show ¬ sgI (sgS t n (0, p)) = 124 from fun x => by have := i124.mp x; omega)] at e7
    have e7' : w7 = b2i false := e7
    rw [e7']
    refine qX12_lands _ R.1 (m_lands (d := d + 4) false _ C h f R D (fun h8 f8 R8 D8 => ⟨rfl, R8.1, ?_⟩))
    rw [la_f] at R8 D8
    have R8' : mdS h8 t n p o (aiC C a) (jV none c V) := R8
    have D8' : mbd p o (aiC C a) (jV none c V) := D8
    refine m_here R8' ⟨_, rfl, R8'.1, fun w11 e11 => ?_⟩
    rw [if_neg (show ¬ ¬ sgI (sgS t n (0, p)) = 38 from fun x => x (i38.mpr z))] at e11
    rw [e11]
    exact m_jumps (d := d + 4) (op := 11) R8' D8' lt (Or.inl rfl) (fun h12 f12 R12 D12 => ⟨rfl, R12.1, K h12 (f8.tr f12) R12 D12⟩)
  · intro p o C V a c z K h f R D
    have hb := R.hb
    have i41 : sgI (sgS t n (0, p)) = 41 ↔ sgS t n (0, p) = 41 := sgI_eq hb (show 41 < 256 by omega)
    have i38 : sgI (sgS t n (0, p)) = 38 ↔ sgS t n (0, p) = 38 := sgI_eq hb (show 38 < 256 by omega)
    have i124 : sgI (sgS t n (0, p)) = 124 ↔ sgS t n (0, p) = 124 := sgI_eq hb (show 124 < 256 by omega)
    have lt : p < n := (sg_lt (t := t) (n := n) (s := (0, p)) (by omega)).2
    refine qX12_readsCondition_92 R.1 (m_here R ⟨_, rfl, R.1, fun _ => m_here R ⟨_, rfl, R.1, fun u => by have := i38.mp u; omega, fun _ => m_here R ⟨_, rfl, R.1, fun _ => m_here R ⟨_, rfl, R.1, fun w7 e7 => ?_⟩, fun u => absurd (i124.mpr z) u⟩⟩, fun u => by have := i41.mp u; omega⟩)
    rw [if_neg (show ¬ ¬ sgI (sgS t n (0, p)) = 124 from fun x => x (i124.mpr z))] at e7
    have e7' : w7 = b2i true := e7
    rw [e7']
    refine qX12_lands _ R.1 (m_lands (d := d + 4) true _ C h f R D (fun h8 f8 R8 D8 => ⟨rfl, R8.1, ?_⟩))
    rw [la_t] at R8 D8
    have R8' : mdS h8 t n p o (aiC (aiC C a) c) ((13, 0) :: V) := R8
    have D8' : mbd p o (aiC (aiC C a) c) ((13, 0) :: V) := D8
    refine m_here R8' ⟨_, rfl, R8'.1, fun w11 e11 => ?_⟩
    rw [if_pos (show ¬ sgI (sgS t n (0, p)) = 38 from fun x => by have := i38.mp x; omega)] at e11
    rw [e11]
    exact m_jumps (d := d + 4) (op := 12) R8' D8' lt (Or.inr rfl) (fun h12 f12 R12 D12 => ⟨rfl, R12.1, K h12 (f8.tr f12) R12 D12⟩)
  · intro p o C V a c z K KE h f R D
    have i41 : sgI (sgS t n (0, p)) = 41 ↔ sgS t n (0, p) = 41 := sgI_eq R.hb (show 41 < 256 by omega)
    have lt : p < n := (sg_lt (t := t) (n := n) (s := (0, p)) (by omega)).2
    have hn := R.2.2.1.2
    refine qX12_readsCondition_92 R.1 (m_here R ⟨_, rfl, R.1, fun u => absurd (i41.mpr z) u, fun _ => ?_⟩)
    refine qX12_lands _ R.1 (m_lands (d := d + 4) true _ C h f R D (fun h8 f8 R8 D8 => ⟨rfl, R8.1, fun h37 e37 h38 e38 h39 e39 => ?_⟩))
    rw [la_t] at R8 D8
    have R8' : mdS h8 t n p (o + 1) (aiC (aiC C a) c) ((13, 0) :: V) := R8
    have D8' : mbd p (o + 1) (aiC (aiC C a) c) ((13, 0) :: V) := D8
    obtain ⟨f39, R39⟩ := R8'.opp lt e37 e38 e39
    have D39 : mbd (p + 1) o (aiC (aiC C a) c) V := D8'.po (by omega) (by omega) (by have := D8'.2.2.2.1.1; omega) (by split <;> omega)
    have lV := D39.2.1
    have iv : nI V.length = 0 ↔ V.length = 0 := nI_eq (b := 0) (by omega) (by omega)
    rw [R39.2.2.2.2.2.2.1, iv]
    refine ⟨fun u => ?_, fun u => ?_⟩
    · have hV0 : V ≠ [] := fun w => u (by rw [w]; rfl)
      exact qX12_endsPiece R39.1 (m_endsPiece (d := d + 4) (h0 := h0) V _ o h39 (f8.tr f39) R39 D39 (fun h40 f40 R40 D40 => ⟨rfl, R40.1, K hV0 h40 f40 R40 D40⟩))
    · have hV0 : V = [] := List.length_eq_zero_iff.mp u
      obtain ⟨o0, KE'⟩ := KE hV0
      subst o0; subst hV0
      exact KE' h39 (f8.tr f39) R39 D39
  · intro p o C V a c z1 z2 z3 K h f R D
    have hb := R.hb
    have i41 : sgI (sgS t n (0, p)) = 41 ↔ sgS t n (0, p) = 41 := sgI_eq hb (show 41 < 256 by omega)
    have i38 : sgI (sgS t n (0, p)) = 38 ↔ sgS t n (0, p) = 38 := sgI_eq hb (show 38 < 256 by omega)
    have i124 : sgI (sgS t n (0, p)) = 124 ↔ sgS t n (0, p) = 124 := sgI_eq hb (show 124 < 256 by omega)
    refine qX12_readsCondition_92 R.1 (m_here R ⟨_, rfl, R.1, fun _ => m_here R ⟨_, rfl, R.1, fun u => absurd (i38.mp u) z1, fun _ => m_here R ⟨_, rfl, R.1, fun u => absurd (i124.mp u) z2, fun _ => ?_⟩⟩, fun u => absurd (i41.mp u) z3⟩)
    rw [R.2.1.1]
    exact m_wrongP (k := 1) R (fun h' f' R' e' => ⟨_, rfl, R'.1, Or.inl rfl, K h' (f.tr (f'.wk (fun a k z => by unfold aMd; omega))) e'⟩)
/-- a condition is read (model) -/
theorem m_readsCondition {h : mH} {p o : Nat} {C V : List (Nat × Nat)} {w : aTr} (R : mdS h t n p o C V) (hC : C.length ≤ p) (hp : 1 ≤ p) (ew : w = cdS t n (pcS t n 5) 160 (exS t n 40 (0, p), C) none none true)
    (K1 : (exS t n 41 w.1).1 = 0 → ∀ h', mFr2 aMd h h' → mdS h' t n (exS t n 41 w.1).2 0 w.2 [] → mbd (exS t n 41 w.1).2 0 w.2 [] → Q (some (.inl 1)) h')
    (K0 : (exS t n 41 w.1).1 ≠ 0 → ∀ h', mFr2 aMd h h' → mI h' 47 15 = -1000 * nI (exS t n 41 w.1).1 - nI (exS t n 41 w.1).2 → Q (some (.inl 0)) h') : mC G kX12_readsCondition (d + 6) b [.inr (some 47)] h Q := by
  have l10 : ¬ (1 : Int32) = 0 := by decide
  have i40 : sgI (sgS t n (0, p)) = 40 ↔ sgS t n (0, p) = 40 := sgI_eq R.hb (show 40 < 256 by omega)
  have hn := R.2.2.1.2
  have hpn := R.2.1.2
  refine qX12_readsCondition R.1 (m_here R ⟨_, rfl, R.1, fun u h3 e3 h4 e4 => ?_, fun u => ?_⟩)
  · have z : sgS t n (0, p) = 40 := i40.mp u
    have lt : p < n := (sg_lt (t := t) (n := n) (s := (0, p)) (by omega)).2
    have f4 : mFr2 (fun a k => a = 47 ∧ (k = 16 ∨ k = 18)) h h4 := by
      rw [e4, e3]
      exact (mFr2.SI (A := fun a k => a = 47 ∧ (k = 16 ∨ k = 18)) ⟨rfl, Or.inl rfl⟩).tr (mFr2.SI (A := fun a k => a = 47 ∧ (k = 16 ∨ k = 18)) ⟨rfl, Or.inr rfl⟩)
    have R4 : mdS h4 t n p 0 C [] := by
      obtain ⟨hS, ⟨e13, hp⟩, ⟨e14, hn⟩, ht, e16, ⟨e17, hc⟩, e18, hw⟩ := R
      exact ⟨f4.1.sk hS, ⟨by rw [f4.2 _ _ (by omega)]; exact e13, hp⟩, ⟨by rw [f4.2 _ _ (by omega)]; exact e14, hn⟩, fun j hj => ⟨(ht j hj).1, by rw [f4.2 _ _ (by omega)]; exact (ht j hj).2⟩, by rw [e4, mI_SI_k (by omega), e3, mI_SI_s]; rfl, ⟨by rw [f4.2 _ _ (by omega)]; exact e17, fun i hi => by rw [f4.2 _ _ (by omega)]; exact hc i hi⟩, by rw [e4, mI_SI_s]; rfl, trivial⟩
    have D4 : mbd p 0 C [] := ⟨by show C.length + 0 ≤ p; omega, Nat.zero_le _, fun c hc => (by cases hc), ⟨by omega, Nat.le_refl _⟩, trivial⟩
    have e40 : exS t n 40 (0, p) = (0, p + 1) := by unfold exS; rw [if_pos z]; rfl
    rw [e40] at ew
    refine m_opensW (d := d + 4) (w := 13) R4 (by omega) lt (by show 0 < 180; omega) (fun u => by omega) (fun _ h' f' R' => ⟨_, rfl, R'.1, fun _ => ?_, fun u => absurd u l10⟩)
    have ff : mFr2 aMd h h' := (f4.wk (fun a k z => by unfold aMd; omega)).tr f'
    exact sim_cond (m_simC (G := G) (d := d) (b := b) (Q := Q) (h0 := h) (t := t) (n := n)) hn (by omega) (by omega) ew (fun w0 h' f' R' D' => K1 w0 h' f' R' D') (fun w0 h' f' e' => K0 w0 h' f' e') h' ff R' (D4.pu (by omega) (by omega) (by omega) (by split <;> omega))
  · have z : sgS t n (0, p) ≠ 40 := fun x => u (i40.mpr x)
    have e40 : exS t n 40 (0, p) = (1, p) := by unfold exS; rw [if_neg z]; rfl
    rw [e40] at ew
    have sg9 := sg_f (t := t) (n := n) (s := (1, p)) (show (1 : Nat) ≠ 0 by omega)
    have ew1 : w.1 = (1, p) := by
      have := fs_cd (t := t) (n := n) (f := 159) (pc := pcS t n 5) (x := ((1, p), C)) (a := none) (c := none) (show (1 : Nat) ≠ 0 by omega) (fs_pc (show (1 : Nat) ≠ 0 by omega) 5)
      rw [ew]; exact this
    rw [ew1, ex_f (by omega) (show (1 : Nat) ≠ 0 by omega)] at K0
    rw [R.2.1.1]
    exact m_wrongP (k := 1) R (fun h' f' R' e' => ⟨_, rfl, R'.1, Or.inl rfl, K0 (show (1 : Nat) ≠ 0 by omega) h' (f'.wk (fun a k z => by unfold aMd; omega)) e'⟩)
end
