/-! sums (model) -/
/-- signs that wait to be put -/
def opn : List (Nat × Nat) → Nat
  | [] => 0
  | c :: V => (if 2 ≤ c.1 ∧ c.1 ≤ 10 then 1 else 0) + opn V
/-- the skips that wait lie among the orders, unaimed, each below the one that waits above it -/
def jpV (C : List (Nat × Nat)) : Nat → List (Nat × Nat) → Prop
  | _, [] => True
  | N, c :: V => if c.1 = 11 ∨ c.1 = 12 then c.2 < N ∧ C.getD c.2 (0, 0) = (c.1, 0) ∧ jpV C c.2 V else c.2 = 0 ∧ jpV C N V
theorem jpV.b {C : List (Nat × Nat)} : ∀ (V : List (Nat × Nat)) (N : Nat), jpV C N V → N ≤ 1000 → ∀ c ∈ V, c.2 < 1048576
  | [], _, _, _ => fun c hc => by cases hc
  | a :: V, N, w, hN => fun c hc => by
    unfold jpV at w
    by_cases z : a.1 = 11 ∨ a.1 = 12
    · rw [if_pos z] at w
      rcases List.mem_cons.mp hc with e | e
      · rw [e]; omega
      · exact jpV.b V a.2 w.2.2 (by omega) c e
    · rw [if_neg z] at w
      rcases List.mem_cons.mp hc with e | e
      · rw [e]; omega
      · exact jpV.b V N w.2 hN c e
theorem getD_ap {C D : List (Nat × Nat)} {i : Nat} (h : i < C.length) : (C ++ D).getD i (0, 0) = C.getD i (0, 0) := by
  simp [List.getD, List.getElem?_append_left h]
theorem jpV.ap {C : List (Nat × Nat)} (D : List (Nat × Nat)) : ∀ (V : List (Nat × Nat)) (N N' : Nat), jpV C N V → N ≤ C.length → N ≤ N' → jpV (C ++ D) N' V
  | [], _, _, _, _, _ => trivial
  | a :: V, N, N', w, h1, h2 => by
    unfold jpV at w ⊢
    by_cases z : a.1 = 11 ∨ a.1 = 12
    · rw [if_pos z] at w ⊢
      exact ⟨by omega, by rw [getD_ap (by omega)]; exact w.2.1, jpV.ap D V a.2 a.2 w.2.2 (by omega) (Nat.le_refl _)⟩
    · rw [if_neg z] at w ⊢
      exact ⟨w.1, jpV.ap D V N N' w.2 h1 h2⟩
theorem jpV.tl {C : List (Nat × Nat)} {N : Nat} {c : Nat × Nat} {V : List (Nat × Nat)} (w : jpV C N (c :: V)) (h : ¬ (c.1 = 11 ∨ c.1 = 12)) : jpV C N V := by
  unfold jpV at w; rw [if_neg h] at w; exact w.2
theorem jpV.cn {C : List (Nat × Nat)} {N m : Nat} {V : List (Nat × Nat)} (w : jpV C N V) (h : ¬ (m = 11 ∨ m = 12)) : jpV C N ((m, 0) :: V) := by
  unfold jpV
  rw [if_neg (show ¬ (((m, 0) : Nat × Nat).1 = 11 ∨ ((m, 0) : Nat × Nat).1 = 12) from h)]
  exact ⟨rfl, w⟩
/-- brackets and nots that wait -/
def brk : List (Nat × Nat) → Nat
  | [] => 0
  | c :: V => (if c.1 = 10 ∨ 13 ≤ c.1 then 1 else 0) + brk V
/-- there is room -/
def mbd (p o : Nat) (C V : List (Nat × Nat)) : Prop := C.length + opn V ≤ p ∧ V.length ≤ p ∧ (∀ c ∈ V, c.1 ≤ 14) ∧ (o ≤ 6 ∧ brk V ≤ o) ∧ jpV C C.length V
theorem brk_wt {T : Option Nat} {V : List (Nat × Nat)} : brk V ≤ brk (wtL T ++ V) := by
  cases T with
  | none => exact Nat.le_refl _
  | some m => show brk V ≤ (if m = 10 ∨ 13 ≤ m then 1 else 0) + brk V; omega
theorem mbd.b {p o : Nat} {C V : List (Nat × Nat)} (D : mbd p o C V) (hp : p ≤ 160) : ∀ c ∈ V, c.1 ≤ 14 ∧ c.2 < 1048576 := fun c hc => ⟨D.2.2.1 c hc, jpV.b V C.length D.2.2.2.2 (by have := D.1; omega) c hc⟩
theorem getD_mem {V : List (Nat × Nat)} {i : Nat} (h : i < V.length) : V.getD i (0, 0) ∈ V := by
  simp [List.getD, List.getElem?_eq_getElem h]
theorem mbd.g {p o : Nat} {C V : List (Nat × Nat)} (D : mbd p o C V) (hp : p ≤ 160) : ∀ i, i < V.length → (V.getD i (0, 0)).1 ≤ 14 ∧ (V.getD i (0, 0)).2 < 1048576 := fun i hi => D.b hp _ (getD_mem hi)
theorem clV_no (a : Bool) {C V : List (Nat × Nat)} (h : topS V) : clV a C V = (C, V) := by
  cases V with
  | nil => rfl
  | cons c V =>
    have := h c V rfl
    unfold clV
    rw [if_neg (fun u => by omega)]
theorem clV_f {C V : List (Nat × Nat)} {T P : Option Nat} (hT : tOk T) (hP : pOk P) (hV : topS V) : clV false C (wtL T ++ wtL P ++ V) = (C ++ wtL T, wtL P ++ V) := by
  have e1 : ∀ C, clV false C (wtL P ++ V) = (C, wtL P ++ V) := by
    intro C
    cases P with
    | none => exact clV_no false hV
    | some w =>
      have := hP w rfl
      show clV false C ((w, 0) :: V) = (C, (w, 0) :: V)
      unfold clV
      rw [if_neg (fun u => by
        rcases u with u | u
        · have u1 : 4 ≤ w := u.1; omega
        · exact absurd u.1 (by decide))]
  cases T with
  | none => rw [show wtL none = ([] : List (Nat × Nat)) from rfl]; simp only [List.nil_append, List.append_nil]; exact e1 C
  | some m =>
    have := hT m rfl
    show clV false C ((m, 0) :: (wtL P ++ V)) = (C ++ [(m, 0)], wtL P ++ V)
    conv => lhs; unfold clV
    rw [if_pos (Or.inl ⟨this.1, this.2⟩)]
    exact e1 _
theorem clV_t {C V : List (Nat × Nat)} {T P : Option Nat} (hT : tOk T) (hP : pOk P) (hV : topS V) : clV true C (wtL T ++ wtL P ++ V) = (C ++ wtL T ++ wtL P, V) := by
  have e1 : ∀ C, clV true C (wtL P ++ V) = (C ++ wtL P, V) := by
    intro C
    cases P with
    | none => rw [show wtL none = ([] : List (Nat × Nat)) from rfl, List.append_nil]; exact clV_no true hV
    | some w =>
      have := hP w rfl
      show clV true C ((w, 0) :: V) = (C ++ [(w, 0)], V)
      conv => lhs; unfold clV
      rw [if_pos (Or.inr ⟨rfl, by show w = 2 ∨ w = 3; omega⟩)]
      exact clV_no true hV
  cases T with
  | none => rw [show wtL none = ([] : List (Nat × Nat)) from rfl]; simp only [List.nil_append, List.append_nil]; exact e1 C
  | some m =>
    have := hT m rfl
    show clV true C ((m, 0) :: (wtL P ++ V)) = (C ++ [(m, 0)] ++ wtL P, V)
    conv => lhs; unfold clV
    rw [if_pos (Or.inl ⟨this.1, this.2⟩)]
    exact e1 _
theorem opn_wt {T : Option Nat} {V : List (Nat × Nat)} (h : ∀ m, T = some m → 2 ≤ m ∧ m ≤ 10) : opn (wtL T ++ V) = (wtL T).length + opn V := by
  cases T with
  | none => show opn V = 0 + opn V; omega
  | some m =>
    have := h m rfl
    show (if 2 ≤ m ∧ m ≤ 10 then 1 else 0) + opn V = 1 + opn V
    rw [if_pos this]
theorem jp_wt {C V : List (Nat × Nat)} {N : Nat} {T : Option Nat} (h : ∀ m, T = some m → 2 ≤ m ∧ m ≤ 10) (w : jpV C N (wtL T ++ V)) : jpV C N V := by
  cases T with
  | none => exact w
  | some m =>
    have := h m rfl
    exact jpV.tl (c := (m, 0)) w (by show ¬ (m = 11 ∨ m = 12); omega)
theorem tOk.w {T : Option Nat} (h : tOk T) : ∀ m, T = some m → 2 ≤ m ∧ m ≤ 10 := fun m e => by have := h m e; omega
theorem pOk.w {T : Option Nat} (h : pOk T) : ∀ m, T = some m → 2 ≤ m ∧ m ≤ 10 := fun m e => by have := h m e; omega
/-- what waited of a sum is put -/
theorem mbd.cl {p o : Nat} {C V : List (Nat × Nat)} {T : Option Nat} (h : ∀ m, T = some m → 2 ≤ m ∧ m ≤ 10) (D : mbd p o C (wtL T ++ V)) : mbd p o (C ++ wtL T) V := by
  obtain ⟨d1, d2, d3, d4, d5⟩ := D
  rw [opn_wt h] at d1
  refine ⟨by rw [List.length_append]; omega, by rw [List.length_append] at d2; omega, fun c hc => d3 c (by simp [hc]), ⟨d4.1, Nat.le_trans brk_wt d4.2⟩, ?_⟩
  exact jpV.ap _ V C.length _ (jp_wt h d5) (Nat.le_refl _) (by simp)
theorem mbd.ad {p o : Nat} {C V : List (Nat × Nat)} {c : Nat × Nat} (D : mbd p o C V) {p' : Nat} (hp : p + 1 ≤ p') : mbd p' o (C ++ [c]) V := by
  obtain ⟨d1, d2, d3, d4, d5⟩ := D
  refine ⟨by rw [List.length_append]; show C.length + 1 + _ ≤ _; omega, by omega, d3, d4, ?_⟩
  exact jpV.ap _ V C.length _ d5 (Nat.le_refl _) (by simp)
theorem mbd.pu {p o o' m : Nat} {C V : List (Nat × Nat)} (D : mbd p o C V) (hm : m ≤ 14) (h : ¬ (m = 11 ∨ m = 12)) (ho : o' ≤ 6) (hb : o + (if m = 10 ∨ 13 ≤ m then 1 else 0) ≤ o') : mbd (p + 1) o' C ((m, 0) :: V) := by
  obtain ⟨d1, d2, d3, d4, d5⟩ := D
  refine ⟨?_, by show V.length + 1 ≤ _; omega, fun c hc => ?_, ⟨ho, by show (if m = 10 ∨ 13 ≤ m then 1 else 0) + brk V ≤ o'; omega⟩, jpV.cn d5 h⟩
  · show C.length + ((if 2 ≤ m ∧ m ≤ 10 then 1 else 0) + opn V) ≤ _
    split <;> omega
  · rcases List.mem_cons.mp hc with e | e
    · rw [e]; exact hm
    · exact d3 c e
theorem mbd.po {p o o' m : Nat} {C V : List (Nat × Nat)} (D : mbd p o C ((m, 0) :: V)) (h : ¬ (m = 11 ∨ m = 12)) {p' : Nat} (hp : p ≤ p') (ho : o' ≤ 6) (hb : o ≤ o' + (if m = 10 ∨ 13 ≤ m then 1 else 0)) : mbd p' o' C V := by
  obtain ⟨d1, d2, d3, d4, d5⟩ := D
  have d1' : C.length + ((if 2 ≤ m ∧ m ≤ 10 then 1 else 0) + opn V) ≤ p := d1
  have d2' : V.length + 1 ≤ p := d2
  have d4' : (if m = 10 ∨ 13 ≤ m then 1 else 0) + brk V ≤ o := d4.2
  exact ⟨by omega, by omega, fun c hc => d3 c (by simp [hc]), ⟨ho, by omega⟩, d5.tl h⟩
theorem fa_f : ∀ c, c < 256 → f_X12_factOf (nI c) = if leT c < 9 then nI (leT c) else -1 := by decide +kernel
theorem fa_s {c : Nat} (h : c < 256 ∨ c = 999) : f_X12_factOf (sgI c) = if leT c < 9 then nI (leT c) else -1 := by
  rcases h with h | h
  · unfold sgI; rw [if_neg (by omega)]; exact fa_f c h
  · subst h; decide
theorem ss_f : ∀ c, c < 256 → f_X12_sumSign (nI c) = if (toO c 43 45 45 2).isSome then oI2 (toO c 43 45 45 2) else oI2 (toO c 42 47 37 4) := by decide +kernel
theorem ss_s {c : Nat} (h : c < 256 ∨ c = 999) : f_X12_sumSign (sgI c) = if (toO c 43 45 45 2).isSome then oI2 (toO c 43 45 45 2) else oI2 (toO c 42 47 37 4) := by
  rcases h with h | h
  · unfold sgI; rw [if_neg (by omega)]; exact ss_f c h
  · subst h; decide
theorem toO_x {c m : Nat} (h : toO c 42 47 37 4 = some m) : toO c 43 45 45 2 = none := by
  unfold toO at h ⊢
  by_cases h1 : c = 42
  · subst h1; decide
  · rw [if_neg h1] at h
    by_cases h2 : c = 47
    · subst h2; decide
    · rw [if_neg h2] at h
      by_cases h3 : c = 37
      · subst h3; decide
      · rw [if_neg h3] at h; cases h
theorem not_no {T P : Option Nat} {V : List (Nat × Nat)} {N : Nat} (hN : (wtL T).length + (wtL P).length < N) : ¬ noOp (wtL T ++ wtL P ++ (14, 0) :: V) N := fun u => u _ hN (by cases T <;> cases P <;> rfl)
theorem yes_no {T P : Option Nat} {V : List (Nat × Nat)} (hT : tOk T) (hP : pOk P) : noOp (wtL T ++ wtL P ++ V) ((wtL T).length + (wtL P).length) := by
  intro i hi
  cases T with
  | none =>
    cases P with
    | none => exact absurd hi (by show ¬ i < 0 + 0; omega)
    | some w =>
      have := hP w rfl
      have hi' : i < 0 + 1 := hi
      have : i = 0 := by omega
      subst this
      show w ≠ 14
      omega
  | some m =>
    have := hT m rfl
    cases P with
    | none =>
      have hi' : i < 1 + 0 := hi
      have : i = 0 := by omega
      subst this
      show m ≠ 14
      omega
    | some w =>
      have := hP w rfl
      have hi' : i < 1 + 1 := hi
      by_cases z : i = 0
      · subst z; show m ≠ 14; omega
      · have : i = 1 := by omega
        subst this
        show w ≠ 14
        omega
section
variable {G : mG} {d : Nat} {b : Nat × Nat} {h : mH} {Q : Option mV → mH → Prop}
theorem mdS.push {h1 h2 h3 : mH} {t : Nat → Nat} {n p o m : Nat} {C V : List (Nat × Nat)} (R : mdS h t n p o C V) (hp : p < n) (hV : V.length < 180) (e1 : h1 = mSI h 59 (mI h 47 18).toNatClampNeg (1048576 * nI m)) (e2 : h2 = mSI h1 47 18 (mI h1 47 18 + 1)) (e3 : h3 = mSI h2 47 13 (mI h2 47 13 + 1)) : mFr2 aMd h h3 ∧ mdS h3 t n (p + 1) o C ((m, 0) :: V) := by
  obtain ⟨hS, ⟨e13, -⟩, ⟨e14, hn⟩, ht, e16, ⟨e17, hc⟩, e18, hw⟩ := R
  rw [e18, nI_clamp (show V.length < 2 ^ 31 by omega)] at e1
  have e118 : mI h1 47 18 = nI V.length := by rw [e1, mI_SI_a (by omega)]; exact e18
  rw [e118, nI_1] at e2
  have e213 : mI h2 47 13 = nI p := by rw [e2, mI_SI_k (by omega), e1, mI_SI_a (by omega)]; exact e13
  rw [e213, nI_1] at e3
  have f : mFr2 (fun a k => a = 59 ∨ (a = 47 ∧ (k = 13 ∨ k = 18))) h h3 := by
    rw [e3, e2, e1]
    exact ((mFr2.SI (A := fun a k => a = 59 ∨ (a = 47 ∧ (k = 13 ∨ k = 18))) (Or.inl rfl)).tr (mFr2.SI (A := fun a k => a = 59 ∨ (a = 47 ∧ (k = 13 ∨ k = 18))) (Or.inr ⟨rfl, by omega⟩))).tr (mFr2.SI (A := fun a k => a = 59 ∨ (a = 47 ∧ (k = 13 ∨ k = 18))) (Or.inr ⟨rfl, by omega⟩))
  have ev : (1048576 : Int32) * nI m = nI (1048576 * m + 0) := by rw [show (1048576 : Int32) = nI 1048576 from rfl, pk_mul]; rfl
  have c59 : ∀ i, mI h3 59 i = if i = V.length then nI (1048576 * m + 0) else mI h 59 i := fun i => by
    rw [e3, mI_SI_a (by omega), e2, mI_SI_a (by omega), e1]
    by_cases q : i = V.length
    · rw [q, mI_SI_s, if_pos rfl, ev]
    · rw [mI_SI_k q, if_neg q]
  refine ⟨f.wk (fun a k z => by unfold aMd; omega), f.1.sk hS, ⟨by rw [e3, mI_SI_s], hp⟩, ⟨by rw [f.2 _ _ (by omega)]; exact e14, hn⟩, fun j hj => ⟨(ht j hj).1, by rw [f.2 _ _ (by omega)]; exact (ht j hj).2⟩, by rw [f.2 _ _ (by omega)]; exact e16, ⟨by rw [f.2 _ _ (by omega)]; exact e17, fun i hi => by rw [f.2 _ _ (by omega)]; exact hc i hi⟩, ?_, ?_, ?_⟩
  · rw [e3, mI_SI_k (by omega), e2, mI_SI_s]; rfl
  · rw [c59, if_pos rfl]
  · exact stV.cg V (fun i hi => by rw [c59, if_neg (by omega)]) hw
theorem mdS.opp {h1 h2 h3 : mH} {t : Nat → Nat} {n p o : Nat} {c : Nat × Nat} {C V : List (Nat × Nat)} (R : mdS h t n p (o + 1) C (c :: V)) (hp : p < n) (e1 : h1 = mSI h 47 18 (mI h 47 18 - 1)) (e2 : h2 = mSI h1 47 16 (mI h1 47 16 - 1)) (e3 : h3 = mSI h2 47 13 (mI h2 47 13 + 1)) : mFr2 aMd h h3 ∧ mdS h3 t n (p + 1) o C V := by
  obtain ⟨f1, hS, ⟨e13, -⟩, ⟨e14, hn⟩, ht, e16, ⟨e17, hc⟩, e18, hw⟩ := R.pop e1
  rw [e16, show (1 : Int32) = nI 1 from rfl, pk_sub (by omega), show o + 1 - 1 = o by omega] at e2
  have e213 : mI h2 47 13 = nI p := by rw [e2, mI_SI_k (by omega)]; exact e13
  rw [e213, nI_1] at e3
  have f : mFr2 (fun a k => a = 47 ∧ (k = 13 ∨ k = 16)) h1 h3 := by
    rw [e3, e2]
    exact (mFr2.SI (A := fun a k => a = 47 ∧ (k = 13 ∨ k = 16)) ⟨rfl, Or.inr rfl⟩).tr (mFr2.SI (A := fun a k => a = 47 ∧ (k = 13 ∨ k = 16)) ⟨rfl, Or.inl rfl⟩)
  refine ⟨(f1.wk (fun a k z => by unfold aMd; omega)).tr (f.wk (fun a k z => by unfold aMd; omega)), f.1.sk hS, ⟨by rw [e3, mI_SI_s], hp⟩, ⟨by rw [f.2 _ _ (by omega)]; exact e14, hn⟩, fun j hj => ⟨(ht j hj).1, by rw [f.2 _ _ (by omega)]; exact (ht j hj).2⟩, by rw [e3, mI_SI_k (by omega), e2, mI_SI_s], ⟨by rw [f.2 _ _ (by omega)]; exact e17, fun i hi => by rw [f.2 _ _ (by omega)]; exact hc i hi⟩, by rw [f.2 _ _ (by omega)]; exact e18, stV.cg V (fun i _ => f.2 _ _ (by omega)) hw⟩
theorem mdS.one {h1 : mH} {t : Nat → Nat} {n p o : Nat} {C V : List (Nat × Nat)} (R : mdS h t n p o C V) (hp : p < n) (e1 : h1 = mSI h 47 13 (mI h 47 13 + 1)) : mFr2 aMd h h1 ∧ mdS h1 t n (p + 1) o C V := by
  rw [R.2.1.1, nI_1] at e1
  have f : mFr2 (fun a k => a = 47 ∧ (k = 13 ∨ k = 15 ∨ k = 20)) h h1 := by rw [e1]; exact mFr2.SI ⟨rfl, Or.inl rfl⟩
  exact ⟨f.wk (fun a k z => by unfold aMd; omega), R.p f (by rw [e1, mI_SI_s]) hp⟩
end
/-- the model's states -/
def sXf (Q : Option mV → mH → Prop) (h0 : mH) (k p : Nat) : Prop := ∀ h, mFr2 aMd h0 h → mI h 47 15 = -1000 * nI k - nI p → Q (some (.inl 0)) h
def sH (G : mG) (d : Nat) (b : Nat × Nat) (Q : Option mV → mH → Prop) (h0 : mH) (t : Nat → Nat) (n B p o : Nat) (C V : List (Nat × Nat)) : Prop := ∀ h, mFr2 aMd h0 h → mdS h t n p o C V → mbd p o C V → mW G kX12_readsSum (d + 4) b 14 [some (.inr (some 47)), some (.inl (nI B)), none] [] h Q
def sF (G : mG) (d : Nat) (b : Nat × Nat) (Q : Option mV → mH → Prop) (h0 : mH) (t : Nat → Nat) (n B p o : Nat) (C V : List (Nat × Nat)) : Prop := ∀ h, mFr2 aMd h0 h → mdS h t n p o C V → mbd p o C V → mW G kX12_readsFactor (d + 3) (0, 0) 0 [some (.inr (some 47)), none] [] h (fun r h1 => ∃ x2, r = some (.inl x2) ∧ mSk h1 ∧ ((¬ x2 = 0 → mW G kX12_readsSum (d + 4) b 14 [some (.inr (some 47)), some (.inl (nI B)), none] [] h1 Q) ∧ (x2 = 0 → Q (some (.inl 0)) h1)))
section
variable {G : mG} {d : Nat} {b : Nat × Nat} {h0 : mH} {Q : Option mV → mH → Prop} {t : Nat → Nat} {n B : Nat}
theorem mdS.hb {h : mH} {p o : Nat} {C V : List (Nat × Nat)} (R : mdS h t n p o C V) : sgS t n (0, p) < 256 ∨ sgS t n (0, p) = 999 := sg_b (fun j hj => (R.2.2.2.1 j hj).1)
set_option maxHeartbeats 1000000 in
theorem m_simR : simR t n B (sF G d b Q h0 t n B) (sH G d b Q h0 t n B) (sXf Q h0) := by
  have l10 : ¬ (1 : Int32) = 0 := by decide
  refine ⟨?_, ?_, ?_, ?_, ?_, ?_, ?_, ?_, ?_⟩
  · intro p o C V z ho K h f R D
    have i91 : sgI (sgS t n (0, p)) = 91 ↔ sgS t n (0, p) = 91 := sgI_eq R.hb (show 91 < 256 by omega)
    have lt : p < n := (sg_lt (t := t) (n := n) (s := (0, p)) (by omega)).2
    have hn := R.2.2.1.2
    refine qX12_readsFactor_0 R.1 (m_here R ⟨_, rfl, R.1, fun u => absurd (i91.mpr z) u, fun _ => ?_⟩)
    exact m_opensW (w := 14) R (by omega) lt (by have := D.2.1; omega) (fun u => by omega) (fun _ h' f' R' => ⟨_, rfl, R'.1, fun _ => K h' (f.tr f') R' (D.pu (by omega) (by omega) (by omega) (by split <;> omega)), fun u => absurd u l10⟩)
  · intro p C V z K h f R D
    have i91 : sgI (sgS t n (0, p)) = 91 ↔ sgS t n (0, p) = 91 := sgI_eq R.hb (show 91 < 256 by omega)
    have lt : p < n := (sg_lt (t := t) (n := n) (s := (0, p)) (by omega)).2
    have hn := R.2.2.1.2
    refine qX12_readsFactor_0 R.1 (m_here R ⟨_, rfl, R.1, fun u => absurd (i91.mpr z) u, fun _ => ?_⟩)
    exact m_opensW (w := 14) R (by omega) lt (by have := D.2.1; omega) (fun u h' f' e' => ⟨_, rfl, f'.1.sk R.1, fun u => absurd rfl u, fun _ => ⟨_, rfl, f'.1.sk R.1, fun u => absurd rfl u, fun _ => K h' (f.tr f') e'⟩⟩) (fun u => by omega)
  · intro p o C V z K h f R D
    have i91 : sgI (sgS t n (0, p)) = 91 ↔ sgS t n (0, p) = 91 := sgI_eq R.hb (show 91 < 256 by omega)
    have z91 : sgS t n (0, p) ≠ 91 := fun u => by rw [u] at z; revert z; decide
    have z9 : sgS t n (0, p) ≠ 999 := fun u => by rw [u] at z; revert z; decide
    have zd : isDg (sgS t n (0, p)) = false := by
      cases hd : isDg (sgS t n (0, p)) with
      | false => rfl
      | true =>
        have u : 48 ≤ sgS t n (0, p) ∧ sgS t n (0, p) ≤ 57 := of_decide_eq_true hd
        unfold leT at z
        rw [if_neg (by omega), if_neg (by omega), if_neg (by omega), if_neg (by omega), if_neg (by omega), if_neg (by omega), if_neg (by omega), if_neg (by omega), if_neg (by omega)] at z
        omega
    have lt : p < n := (sg_lt (t := t) (n := n) (s := (0, p)) z9).2
    have hn := R.2.2.1.2
    have fa := fa_s R.hb
    rw [if_pos z] at fa
    refine qX12_readsFactor_0 R.1 (m_here R ⟨_, rfl, R.1, fun _ => ?_, fun u => absurd (i91.mp u) z91⟩)
    refine m_isDigit R ⟨_, rfl, R.1, fun _ => m_here R ⟨_, rfl, R.1, fun _ => ?_, fun u => absurd (fa.symm.trans u) (nI_nmb (by omega))⟩, fun u => absurd (b2i_0.mpr zd) u⟩
    rw [fa]
    refine m_notesC (op := 1) (v := leT (sgS t n (0, p))) R (by have := D.1; omega) (fun h7 f7 R7 => ⟨rfl, R7.1, fun h8 e8 => ?_⟩)
    obtain ⟨f8, R8⟩ := R7.one lt e8
    exact ⟨_, rfl, R8.1, fun _ => K h8 ((f.tr (f7.wk (fun a k z => by unfold aMd; omega))).tr f8) R8 (D.ad (by omega)), fun u => absurd u l10⟩
  · intro p o C V p' v z9 zd en K K2 h f R D
    have i91 : sgI (sgS t n (0, p)) = 91 ↔ sgS t n (0, p) = 91 := sgI_eq R.hb (show 91 < 256 by omega)
    have zr : 48 ≤ sgS t n (0, p) ∧ sgS t n (0, p) ≤ 57 := of_decide_eq_true zd
    have hn := R.2.2.1.2
    have pg : p + 1 ≤ p' := by
      have h5 : (0, p).2 + 1 ≤ (nmS t n 5 (0, p) 0).1.2 := by
        unfold nmS
        rw [if_pos zd]
        exact pl_nm 4 (adS (0, p)) _
      rw [en] at h5; exact h5
    refine qX12_readsFactor_0 R.1 (m_here R ⟨_, rfl, R.1, fun _ => ?_, fun u => by have := i91.mp u; omega⟩)
    refine m_isDigit R ⟨_, rfl, R.1, fun u => ?_, fun _ => ?_⟩
    · rw [zd] at u; exact absurd u (by decide)
    refine m_readsNumber (d := d) R (fun h' p1 v1 f' R' e20 en1 nd => ⟨_, rfl, R'.1, fun _ => ?_, fun u => absurd u l10⟩) (fun h' p1 v1 f' R' en1 nd e15 => ⟨_, rfl, R'.1, fun u => absurd rfl u, fun _ => ⟨_, rfl, R'.1, fun u => absurd rfl u, fun _ => ?_⟩⟩)
    · have ee : ((0, p'), v) = ((0, p1), v1) := en.symm.trans en1
      have ep : p' = p1 := congrArg (fun x : aTs × Nat => x.1.2) ee
      have ev : v = v1 := congrArg (fun x : aTs × Nat => x.2) ee
      subst ep; subst ev
      rw [e20]
      have hp1 := R'.2.1.2
      refine m_notesC (op := 0) (v := v) R' (by have := D.1; omega) (fun h7 f7 R7 => ⟨rfl, R7.1, _, rfl, R7.1, fun _ => K nd h7 ((f.tr (f'.wk (fun a k z => by unfold aMd; omega))).tr (f7.wk (fun a k z => by unfold aMd; omega))) R7 (D.ad pg), fun u => absurd u l10⟩)
    · have ee : ((0, p'), v) = ((0, p1), v1) := en.symm.trans en1
      have ep : p' = p1 := congrArg (fun x : aTs × Nat => x.1.2) ee
      subst ep
      exact K2 nd h' (f.tr (f'.wk (fun a k z => by unfold aMd; omega))) e15
  · intro p o C V z91 z9 zd K h f R D
    have i91 : sgI (sgS t n (0, p)) = 91 ↔ sgS t n (0, p) = 91 := sgI_eq R.hb (show 91 < 256 by omega)
    have fa := fa_s R.hb
    rw [if_neg (by omega)] at fa
    refine qX12_readsFactor_0 R.1 (m_here R ⟨_, rfl, R.1, fun _ => ?_, fun u => absurd (i91.mp u) z91⟩)
    refine m_isDigit R ⟨_, rfl, R.1, fun _ => m_here R ⟨_, rfl, R.1, fun u => absurd fa u, fun _ => ?_⟩, fun u => absurd (b2i_0.mpr zd) u⟩
    rw [R.2.1.1]
    exact m_wrongP (k := 1) R (fun h' f' R' e' => ⟨_, rfl, R'.1, Or.inl rfl, _, rfl, R'.1, fun u => absurd rfl u, fun _ => K h' (f.tr (f'.wk (fun a k z => by unfold aMd; omega))) e'⟩)
  · intro p o C T P V m hT hP hV hB z K h f R D
    have hn := R.2.2.1.2
    have hm := toO_t z m rfl
    have lt : p < n := (sg_lt (t := t) (n := n) (s := (0, p)) (fun u => by rw [u, toO_9 (by omega) (by omega) (by omega)] at z; cases z)).2
    have ss := ss_s R.hb
    rw [toO_x z, z] at ss
    have ss' : f_X12_sumSign (sgI (sgS t n (0, p))) = nI m := ss
    refine qX12_readsSum_14 _ R.1 (m_here R ⟨_, rfl, R.1, fun u => absurd (ss'.symm.trans u) (nI_nmb (by omega)), fun _ w27 e27 => ?_⟩)
    rw [ss'] at e27 ⊢
    have e27' : w27 = b2i false := by rw [e27, if_pos (show (4 : Int32) ≤ nI m from nI_le (a := 4) hm.1 (by omega))]; rfl
    rw [e27']
    have cl := clV_f (C := C) hT hP hV
    have D' := D
    rw [List.append_assoc] at D'
    have D2 := D'.cl hT.w
    have l2 := D2.1
    have l3 := D2.2.1
    refine qX12_closesSums _ R.1 (m_closesSums (d := d + 2) false _ C h f R (by have := D.2.1; omega) (by rw [cl]; show (C ++ wtL T).length ≤ 180; omega) (D.b (by omega)) (fun h28 f28 R28 => ?_))
    rw [cl] at R28
    have R28' : mdS h28 t n p o (C ++ wtL T) (wtL P ++ V) := R28
    refine ⟨rfl, R28.1, by rw [R28'.2.2.2.2.2.2.1]; exact vp_in_nI (by omega) (by omega), fun h30 e30 h31 e31 h32 e32 => ?_⟩
    obtain ⟨f32, R32⟩ := R28'.push lt (by omega) e30 e31 e32
    exact qX12_readsFactor R32.1 (K h32 (f28.tr f32) R32 (D2.pu (by omega) (by omega) D2.2.2.2.1.1 (by split <;> omega)))
  · intro p o C T P V m hT hP hV hB z K h f R D
    have hn := R.2.2.1.2
    have hm := toO_p z m rfl
    have lt : p < n := (sg_lt (t := t) (n := n) (s := (0, p)) (fun u => by rw [u, toO_9 (by omega) (by omega) (by omega)] at z; cases z)).2
    have ss := ss_s R.hb
    rw [z] at ss
    have ss' : f_X12_sumSign (sgI (sgS t n (0, p))) = nI m := ss
    refine qX12_readsSum_14 _ R.1 (m_here R ⟨_, rfl, R.1, fun u => absurd (ss'.symm.trans u) (nI_nmb (by omega)), fun _ w27 e27 => ?_⟩)
    rw [ss'] at e27 ⊢
    have e27' : w27 = b2i true := by rw [e27, if_neg (show ¬ (4 : Int32) ≤ nI m from nI_ge (b := 4) (by omega) (by omega))]; rfl
    rw [e27']
    have cl := clV_t (C := C) hT hP hV
    have D' := D
    rw [List.append_assoc] at D'
    have D2 := (D'.cl hT.w).cl hP.w
    have l2 := D2.1
    have l3 := D2.2.1
    refine qX12_closesSums _ R.1 (m_closesSums (d := d + 2) true _ C h f R (by have := D.2.1; omega) (by rw [cl]; show (C ++ wtL T ++ wtL P).length ≤ 180; omega) (D.b (by omega)) (fun h28 f28 R28 => ?_))
    rw [cl] at R28
    have R28' : mdS h28 t n p o (C ++ wtL T ++ wtL P) V := R28
    refine ⟨rfl, R28.1, by rw [R28'.2.2.2.2.2.2.1]; exact vp_in_nI (by omega) (by omega), fun h30 e30 h31 e31 h32 e32 => ?_⟩
    obtain ⟨f32, R32⟩ := R28'.push lt (by omega) e30 e31 e32
    exact qX12_readsFactor R32.1 (K h32 (f28.tr f32) R32 (D2.pu (by omega) (by omega) D2.2.2.2.1.1 (by split <;> omega)))
  · intro p o C T P V hT hP hB z K h f R D
    have hn := R.2.2.1.2
    have hpn := R.2.1.2
    have i93 : sgI (sgS t n (0, p)) = 93 ↔ sgS t n (0, p) = 93 := sgI_eq R.hb (show 93 < 256 by omega)
    have lt : p < n := (sg_lt (t := t) (n := n) (s := (0, p)) (by omega)).2
    have ssm : f_X12_sumSign (sgI (sgS t n (0, p))) = -1 := by rw [z]; decide
    have lV : (wtL T ++ wtL P ++ (14, 0) :: V).length = (wtL T).length + (wtL P).length + (V.length + 1) := by rw [List.length_append, List.length_append]; rfl
    have hV : topS ((14, 0) :: V) := topS_c (by show ¬ (2 ≤ 14 ∧ 14 ≤ 6); omega)
    have cl := clV_t (C := C) hT hP hV
    have D' := D
    rw [List.append_assoc] at D'
    have D2 := (D'.cl hT.w).cl hP.w
    have l2 := D2.1
    have l3 := D.2.1
    refine qX12_readsSum_14 _ R.1 (m_here R ⟨_, rfl, R.1, fun _ => m_here R ⟨_, rfl, R.1, fun u => absurd (i93.mpr z) u, fun _ => ?_⟩, fun u => absurd ssm u⟩)
    refine m_hasOpenSum (N := (wtL T ++ wtL P ++ (14, 0) :: V).length - B) R (by omega) (by omega) (D.g (by omega)) (fun no => absurd no (not_no (by omega))) (fun _ => ⟨_, rfl, R.1, fun u => absurd u l10, fun _ => ?_⟩)
    refine qX12_closesSums _ R.1 (m_closesSums (d := d + 2) true _ C h f R (by omega) (by rw [cl]; show (C ++ wtL T ++ wtL P).length ≤ 180; omega) (D.b (by omega)) (fun h28 f28 R28 => ⟨rfl, R28.1, fun h22 e22 h23 e23 h24 e24 => ?_⟩))
    rw [cl] at R28
    have R28' : mdS h28 t n p (o + 1) (C ++ wtL T ++ wtL P) ((14, 0) :: V) := R28
    obtain ⟨f24, R24⟩ := R28'.opp lt e22 e23 e24
    exact K h24 (f28.tr f24) R24 (D2.po (by omega) (by omega) (by have := D2.2.2.2.1.1; omega) (by split <;> omega))
  · intro p o C T P V hT hP hB n1 n2 z K h f R D
    have hn := R.2.2.1.2
    have hpn := R.2.1.2
    have i93 : sgI (sgS t n (0, p)) = 93 ↔ sgS t n (0, p) = 93 := sgI_eq R.hb (show 93 < 256 by omega)
    have ssm : f_X12_sumSign (sgI (sgS t n (0, p))) = -1 := by rw [ss_s R.hb, n1, n2]; rfl
    have lV : (wtL T ++ wtL P ++ (14, 0) :: V).length = (wtL T).length + (wtL P).length + (V.length + 1) := by rw [List.length_append, List.length_append]; rfl
    have l3 := D.2.1
    refine qX12_readsSum_14 _ R.1 (m_here R ⟨_, rfl, R.1, fun _ => m_here R ⟨_, rfl, R.1, fun _ => ?_, fun u => absurd (i93.mp u) z⟩, fun u => absurd ssm u⟩)
    refine m_hasOpenSum (N := (wtL T ++ wtL P ++ (14, 0) :: V).length - B) R (by omega) (by omega) (D.g (by omega)) (fun no => absurd no (not_no (by omega))) (fun _ => ⟨_, rfl, R.1, fun u => absurd u l10, fun _ => ?_⟩)
    rw [R.2.1.1]
    exact m_wrongP (k := 1) R (fun h' f' R' e' => ⟨_, rfl, R'.1, Or.inl rfl, K h' (f.tr (f'.wk (fun a k z => by unfold aMd; omega))) e'⟩)
theorem m_sumEnd {p o : Nat} {C V : List (Nat × Nat)} {T P : Option Nat} (hT : tOk T) (hP : pOk P) (hV : topS V) (hB : B = V.length) (n1 : toO (sgS t n (0, p)) 42 47 37 4 = none) (n2 : toO (sgS t n (0, p)) 43 45 45 2 = none) (K : ∀ h', mFr2 aMd h0 h' → mdS h' t n p o (C ++ wtL T ++ wtL P) V → mbd p o (C ++ wtL T ++ wtL P) V → Q (some (.inl 1)) h') : sH G d b Q h0 t n B p o C (wtL T ++ wtL P ++ V) := by
  intro h f R D
  have hn := R.2.2.1.2
  have hpn := R.2.1.2
  have i93 : sgI (sgS t n (0, p)) = 93 ↔ sgS t n (0, p) = 93 := sgI_eq R.hb (show 93 < 256 by omega)
  have ssm : f_X12_sumSign (sgI (sgS t n (0, p))) = -1 := by rw [ss_s R.hb, n1, n2]; rfl
  have lV : (wtL T ++ wtL P ++ V).length = (wtL T).length + (wtL P).length + V.length := by rw [List.length_append, List.length_append]
  have cl := clV_t (C := C) hT hP hV
  have D' := D
  rw [List.append_assoc] at D'
  have D2 := (D'.cl hT.w).cl hP.w
  have l2 := D2.1
  have l3 := D.2.1
  have fin : mC G kX12_closesSums (d + 3) (0, 0) [.inr (some 47), .inl 1] h (fun r h7 => r = none ∧ mSk h7 ∧ Q (some (.inl 1)) h7) := by
    refine qX12_closesSums _ R.1 (m_closesSums (d := d + 2) true _ C h f R (by omega) (by rw [cl]; show (C ++ wtL T ++ wtL P).length ≤ 180; omega) (D.b (by omega)) (fun h28 f28 R28 => ?_))
    rw [cl] at R28
    exact ⟨rfl, R28.1, K h28 f28 R28 D2⟩
  have ho : ∀ (Q' : Option mV → mH → Prop), Q' (some (.inl 0)) h → mC G kX12_hasOpenSum (d + 3) (0, 0) [.inr (some 47), .inl (nI B)] h Q' := fun Q' k => m_hasOpenSum (N := (wtL T).length + (wtL P).length) R (by omega) (by omega) (D.g (by omega)) (fun _ => k) (fun u => absurd (yes_no hT hP) u)
  refine qX12_readsSum_14 _ R.1 (m_here R ⟨_, rfl, R.1, fun _ => m_here R ⟨_, rfl, R.1, fun _ => ?_, fun _ => ?_⟩, fun u => absurd ssm u⟩)
  · exact ho _ ⟨_, rfl, R.1, fun _ => fin, fun u => absurd rfl u⟩
  · exact ho _ ⟨_, rfl, R.1, fun _ => ho _ ⟨_, rfl, R.1, fun _ => fin, fun u => absurd rfl u⟩, fun u => absurd rfl u⟩
/-- a sum is read (model) -/
theorem m_readsSum {h : mH} {p o e : Nat} {C V : List (Nat × Nat)} {z : aTr} (R : mdS h t n p o C V) (D : mbd p o C V) (hp : 1 ≤ p) (he : e ≤ 6) (ho : o = 6 - e) (hV : topS V) (ez : z = sumS t n e (0, p)) (K1 : z.1.1 = 0 → ∀ h', mFr2 aMd h h' → mdS h' t n z.1.2 o (C ++ z.2) V → mbd z.1.2 o (C ++ z.2) V → Q (some (.inl 1)) h') (K0 : z.1.1 ≠ 0 → ∀ h', mFr2 aMd h h' → mI h' 47 15 = -1000 * nI z.1.1 - nI z.1.2 → Q (some (.inl 0)) h') : mC G kX12_readsSum (d + 4) b [.inr (some 47)] h Q := by
  refine qX12_readsSum R.1 ?_
  rw [R.2.2.2.2.2.2.1]
  subst ho
  refine qX12_readsFactor R.1 (sim_sum (m_simR (G := G) (d := d) (b := b) (Q := Q) (h0 := h) (t := t) (n := n) (B := V.length)) R.2.2.1.2 he hp hV (Nat.le_refl _) ez (fun z0 n1 n2 C1 T1 P1 hT hP e1 => ?_) (fun z0 h' f' e' => K0 z0 h' f' e') h mFr2.rf R D)
  have e0 : z.1 = (0, z.1.2) := by rw [← z0]
  rw [e0] at n1 n2
  exact m_sumEnd hT hP hV rfl n1 n2 (fun h' f' R' D' => by rw [e1] at R' D'; exact K1 z0 h' f' R' D')
end
