/-! fits, firstBad, possible, isPossible (model) -/
noncomputable def wFit (W : aW) (c : Nat) : Bool := decide (wl W = 0 ∨ mnN (wF W c (wl W - 1)) 1024 ≤ ws W)
def wBad (W : aW) (c i : Nat) : Prop := i < wl W ∧ ws W < mnN (wF W c i) 1024 ∧ ∀ j, j < i → mnN (wF W c j) 1024 ≤ ws W
noncomputable def thB (W : aW) (c i k : Nat) : Bool := decide (sm (wF W c i k) (wE W c i k) < FARn ∧ sm (wF W c i k) (wE W c i k) - wO W c i k ≤ ws W)
theorem sm_ge {a c : Nat} (h : sm a c < FARn) : c ≤ sm a c := by
  unfold sm at *
  by_cases z : FARn ≤ a
  · rw [if_pos z] at h; omega
  · rw [if_neg z] at h ⊢
    by_cases z2 : c < FARn
    · rw [if_pos z2]; omega
    · rw [if_neg z2] at h; omega
theorem foV_ge {O : Nat → Nat → Nat} {J : Nat → aLi} {B : aBx} : ∀ i k, foV O J B i k < FARn → O i k ≤ foV O J B i k := by
  intro i k hh
  cases i with
  | zero => unfold foV at hh ⊢; exact sm_ge hh
  | succ i => unfold foV at hh ⊢; exact sm_ge hh
def smN (f : Nat → Nat) : Nat → Nat
  | 0 => 0
  | n + 1 => smN f n + f n
section
variable {G : mG} {d : Nat} {b : Nat × Nat} {h : mH} {Q : Option mV → mH → Prop}
theorem m_isFitting {c : Nat} {W : aW} (hS : mSk h) (hW : mWo h W) (hc : c < wn W) (K : ∀ h', mFr2 aFo h h' → (0 < wl W → forM h' W c) → Q (some (.inl (b2i (wFit W c)))) h') : mC G kX12_isFitting (d + 6) b [.inr (some 47), .inl (nI c)] h Q := by
  have hl := hW.2.2.2.2.1.2.1
  have e33 := hW.2.2.2.2.1.1
  refine qX12_isFitting _ hS ⟨fun z => ?_, fun z => ?_⟩
  · have h0 : 0 < wl W := Nat.pos_of_ne_zero (fun e => z (by rw [e33, e]; rfl))
    refine m_ownW hS hW hc (fun h1 f1 o1 => ⟨rfl, f1.1.sk hS, ?_⟩)
    have hW1 := mWo.fr f1 aFo_d hW
    refine m_forW (d := d + 3) (f1.1.sk hS) hW1 o1 (fun h2 f2 r2 => ⟨rfl, f2.1.sk (f1.1.sk hS), ?_⟩)
    have f2' : mFr2 aFo h1 h2 := f2.wk (fun x k z => by unfold a79 at z; unfold aFo; omega)
    have hW2 := mWo.fr f2' aFo_d hW1
    have hS2 := f2.1.sk (f1.1.sk hS)
    have e2 : mI h2 47 33 - 1 = nI (wl W - 1) := by
      rw [hW2.2.2.2.2.1.1]
      obtain ⟨m, hm⟩ : ∃ m, wl W = m + 1 := ⟨wl W - 1, by omega⟩
      rw [hm]; exact nI_pred m
    rw [e2]
    refine m_leastAt (d := d + 4) hS2 hW2 r2 (by omega) ⟨_, rfl, hS2, fun w ew => ?_⟩
    have K1 := K h2 (f1.tr f2') (fun _ => r2)
    have hb := (mnN_all (fun k' _ => (foV_b (wO_ok hW c) hl (wJ W) (wB W) (wl W - 1) k' (by omega)).1) 1024 (by omega)).1
    have hb2 : mnN (wF W c (wl W - 1)) 1024 ≤ FARn := hb
    have hs := hW.2.2.2.2.2.2.2
    rw [hW2.2.2.2.2.2.2.1] at ew
    unfold wFit at K1
    by_cases hh : mnN (wF W c (wl W - 1)) 1024 ≤ ws W
    · rw [decide_eq_true (Or.inr hh)] at K1
      rw [ew, if_neg (nI_nlt hh (by omega))]; exact K1
    · rw [decide_eq_false (by omega)] at K1
      unfold FARn at hb2
      rw [ew, if_pos (nI_lt (by omega) (by omega))]; exact K1
  · rw [e33, show (0 : Int32) = nI 0 from rfl, nI_eq (by omega) (by omega)] at z
    have K1 := K h mFr2.rf (fun t => by omega)
    unfold wFit at K1
    rw [decide_eq_true (Or.inl z)] at K1
    exact K1
theorem m_fits (v1 : Int32) {W : aW} (hS : mSk h) (hW : mWo h W) (K1 : ¬ (0 ≤ v1.toInt ∧ v1.toInt < wn W) → Q (some (.inl (-1))) h) (K2 : ∀ c, c < wn W → v1 = nI c → ∀ h', mFr2 aFo h h' → Q (some (.inl (b2i (wFit W c)))) h') : mC G kX12_fits (d + 7) b [.inr (some 47), .inl v1] h Q := by
  refine qX12_fits _ hS (m_isCoast v1 hS hW.1 (fun t => ⟨_, rfl, hS, fun z => absurd rfl z, fun _ => K1 t⟩) (fun c hc ec => ⟨_, rfl, hS, fun _ => ?_, fun z => absurd z (by decide)⟩))
  rw [ec]
  refine m_isFitting hS hW hc (fun h1 f1 _ => ⟨_, rfl, f1.1.sk hS, fun w ew => ?_⟩)
  rw [ew, b2i_if]; exact K2 c hc ec h1 f1
theorem m_firstBad (v1 : Int32) {W : aW} (hS : mSk h) (hW : mWo h W) (K1 : ¬ (0 ≤ v1.toInt ∧ v1.toInt < wn W) → Q (some (.inl (-1))) h) (K2 : ∀ c, c < wn W → v1 = nI c → ∀ h', mFr2 aFo h h' → (wFit W c = true → Q (some (.inl (-2))) h') ∧ (wFit W c = false → ∀ i, wBad W c i → Q (some (.inl (nI i))) h')) : mC G kX12_firstBad (d + 7) b [.inr (some 47), .inl v1] h Q := by
  refine qX12_firstBad _ hS (m_isCoast v1 hS hW.1 (fun t => ⟨_, rfl, hS, fun z => absurd rfl z, fun _ => K1 t⟩) (fun c hc ec => ⟨_, rfl, hS, fun _ => ?_, fun z => absurd z (by decide)⟩))
  rw [ec]
  refine m_isFitting hS hW hc (fun h1 f1 r1 => ⟨_, rfl, f1.1.sk hS, fun z => ?_, fun z => ?_⟩)
  · have hf := b2i_0.mp z
    have K3 := (K2 c hc ec h1 f1).2 hf
    have hne : ¬ (wl W = 0 ∨ mnN (wF W c (wl W - 1)) 1024 ≤ ws W) := by unfold wFit at hf; simpa using hf
    have hW1 := mWo.fr f1 aFo_d hW
    have hS1 := f1.1.sk hS
    have hl := hW.2.2.2.2.1.2.1
    have hs := hW.2.2.2.2.2.2.2
    have lp : ∀ (r i : Nat), i + r = wl W - 1 → (∀ j, j < i → mnN (wF W c j) 1024 ≤ ws W) → mW G kX12_firstBad (d + 7) b 23 [some (.inr (some 47)), none, some (.inl (nI i))] [] h1 Q := by
      intro r
      induction r with
      | zero =>
        intro i hi hj
        have hb : mnN (wF W c i) 1024 ≤ FARn := (mnN_all (fun k' _ => (foV_b (wO_ok hW c) hl (wJ W) (wB W) i k' (by omega)).1) 1024 (by omega)).1
        refine qX12_firstBad_23 _ hS1 (m_leastAt (d := d + 5) hS1 hW1 (r1 (by omega)) (by omega) ⟨_, rfl, hS1, ?_⟩)
        have hei : i = wl W - 1 := by omega
        rw [hW1.2.2.2.2.2.2.1]
        have hgt : ws W < mnN (wF W c i) 1024 := by rw [hei]; omega
        unfold FARn at hb
        exact ⟨fun _ => K3 i ⟨by omega, hgt, hj⟩, fun z => absurd (nI_lt hgt (by omega)) z⟩
      | succ r ih =>
        intro i hi hj
        have hb : mnN (wF W c i) 1024 ≤ FARn := (mnN_all (fun k' _ => (foV_b (wO_ok hW c) hl (wJ W) (wB W) i k' (by omega)).1) 1024 (by omega)).1
        refine qX12_firstBad_23 _ hS1 (m_leastAt (d := d + 5) hS1 hW1 (r1 (by omega)) (by omega) ⟨_, rfl, hS1, ?_⟩)
        rw [hW1.2.2.2.2.2.2.1, nI_1]
        unfold FARn at hb
        refine ⟨fun z => K3 i ⟨by omega, ?_, hj⟩, fun z => ih (i + 1) (by omega) (fun j hj' => ?_)⟩
        · rw [nI_ltI (by omega) (by omega)] at z; exact z
        · rw [nI_ltI (by omega) (by omega)] at z
          rcases (show j < i ∨ j = i by omega) with e | e
          · exact hj j e
          · rw [e]; omega
    exact lp (wl W - 1) 0 (by omega) (fun j hj => by omega)
  · refine (K2 c hc ec h1 f1).1 ?_
    cases hb : wFit W c with
    | true => rfl
    | false => exact absurd (b2i_0.mpr hb) z
def posM (h : mH) (W : aW) (c : Nat) : Prop := ownM h W c ∧ forM h W c ∧ behM h W c
theorem m_laysPossible {c : Nat} {W : aW} (hS : mSk h) (hW : mWo h W) (hc : c < wn W) (h0 : 0 < wl W) (K : ∀ h', mFr2 aFo h h' → posM h' W c → Q none h') : mC G kX12_laysPossible (d + 6) b [.inr (some 47), .inl (nI c)] h Q := by
  refine qX12_laysPossible _ hS (m_ownW hS hW hc (fun h1 f1 o1 => ⟨rfl, f1.1.sk hS, ?_⟩))
  have hW1 := mWo.fr f1 aFo_d hW
  have hS1 := f1.1.sk hS
  refine m_forW (d := d + 3) hS1 hW1 o1 (fun h2 f2 r2 => ⟨rfl, f2.1.sk hS1, ?_⟩)
  have f2' : mFr2 aFo h1 h2 := f2.wk (fun x k z => by unfold a79 at z; unfold aFo; omega)
  have hW2 := mWo.fr f2' aFo_d hW1
  have hS2 := f2.1.sk hS1
  have o2 : ownM h2 W c := fun i k hi hk => by rw [f2.2 _ _ (fun z => by unfold a79 at z; omega)]; exact o1 i k hi hk
  refine m_behW (d := d + 3) hS2 hW2 h0 o2 (fun h3 f3 r3 => ⟨rfl, f3.1.sk hS2, ?_⟩)
  have f3' : mFr2 aFo h2 h3 := f3.wk (fun x k z => by unfold a80 at z; unfold aFo; omega)
  refine K h3 ((f1.tr f2').tr f3') ⟨fun i k hi hk => ?_, fun i k hi hk => ?_, r3⟩
  · rw [f3.2 _ _ (fun z => by unfold a80 at z; omega)]; exact o2 i k hi hk
  · rw [f3.2 _ _ (fun z => by unfold a80 at z; omega)]; exact r2 i k hi hk
theorem m_isThere {c i k : Nat} {W : aW} (hS : mSk h) (hW : mWo h W) (hp : posM h W c) (hi : i < wl W) (hk : k < 1024) (K : Q (some (.inl (b2i (thB W c i k)))) h) : mC G kX12_isThere (d + 1) b [.inr (some 47), .inl (nI i), .inl (nI k)] h Q := by
  have hl := hW.2.2.2.2.1.2.1
  have hs := hW.2.2.2.2.2.2.2
  obtain ⟨p1, p2, p3⟩ := hp
  have b1 : wF W c i k ≤ FARn ∧ (wF W c i k < FARn → wF W c i k ≤ 6 * (i + 1)) := foV_b (wO_ok hW c) hl (wJ W) (wB W) i k hi
  have b2 : wE W c i k ≤ FARn ∧ (wE W c i k < FARn → wE W c i k ≤ 6 * (wl W - 1 - i + 1)) := beV_b (wO_ok hW c) hl (wJ W) (wl W - 1 - i) k (by omega)
  have g1 : wF W c i k < FARn → wO W c i k ≤ wF W c i k := foV_ge i k
  have hst : (1024 : Int32) * nI i + nI k = nI (1024 * i + k) := by rw [L1024, pk_mul, nI_add]
  have vst : vp_in (nI (1024 * i + k)) 12288 := vp_in_nI (by omega) (by omega)
  have hsm : sm (wF W c i k) (wE W c i k) = FARn ∨ (sm (wF W c i k) (wE W c i k) < 1000 ∧ wO W c i k ≤ sm (wF W c i k) (wE W c i k)) := by
    unfold sm
    split
    · exact Or.inl rfl
    · rename_i z1
      split
      · rename_i z2
        have c1 := b1.2 (by omega)
        have c2 := b2.2 z2
        have c3 := g1 (by omega)
        exact Or.inr ⟨by omega, by omega⟩
      · exact Or.inl rfl
  refine qX12_isThere _ _ hS ?_
  rw [hst, nI_clamp (by omega), p1 i k hi hk, p2 i k hi hk, p3 i k hi hk, sm_n b1.1 b2.1, hW.2.2.2.2.2.2.1]
  unfold thB at K
  rcases hsm with e | ⟨e1, e2⟩
  · rw [e] at K ⊢
    rw [decide_eq_false (fun z => Nat.lt_irrefl _ z.1)] at K
    exact ⟨vst, vst, fun _ => K, fun z => absurd (by decide) z⟩
  · refine ⟨vst, vst, fun z => absurd z (nI_ge (b := 1000000000) (by omega) (by omega)), fun _ => ⟨vst, fun w ew => ?_⟩⟩
    rw [pk_sub e2] at ew
    have hF : sm (wF W c i k) (wE W c i k) < FARn := by unfold FARn; omega
    by_cases hh : sm (wF W c i k) (wE W c i k) - wO W c i k ≤ ws W
    · rw [decide_eq_true ⟨hF, hh⟩] at K
      rw [ew, if_neg (nI_nlt hh (by omega))]; exact K
    · rw [decide_eq_false (fun z => hh z.2)] at K
      rw [ew, if_pos (nI_lt (by omega) (by omega))]; exact K
theorem m_possibleIn {c i : Nat} {W : aW} (hS : mSk h) (hW : mWo h W) (hc : c < wn W) (hi : i < wl W) (K : ∀ h', mFr2 aFo h h' → Q (some (.inl (nI (cnt (thB W c i) 1024)))) h') : mC G kX12_possibleIn (d + 7) b [.inr (some 47), .inl (nI c), .inl (nI i)] h Q := by
  refine qX12_possibleIn _ _ hS (m_laysPossible hS hW hc (by omega) (fun h1 f1 p1 => ⟨rfl, f1.1.sk hS, ?_⟩))
  have hW1 := mWo.fr f1 aFo_d hW
  have hS1 := f1.1.sk hS
  refine mloop (W := fun k h2 => mW G kX12_possibleIn (d + 7) b 10 [some (.inr (some 47)), none, some (.inl (nI i)), some (.inl (nI (cnt (thB W c i) k))), some (.inl (nI k))] [] h2 Q) (P := fun k h2 => h2 = h1) 1024 ?_ ?_ 0 h1 (by omega) rfl
  · rintro k h2 hk rfl ih
    refine qX12_possibleIn_10 _ _ _ hS1 ⟨fun z => absurd z (nI_ge (b := 1024) hk (by omega)), fun _ => m_isThere (d := d + 5) hS1 hW1 p1 hi hk ⟨_, rfl, hS1, fun w ew => ?_⟩⟩
    have ih2 := ih h2 rfl
    rw [cnt] at ih2
    rw [nI_1, ew, b2i_if]
    cases hb : thB W c i k with
    | true => rw [hb] at ih2; rw [show b2i true = nI 1 from rfl, nI_add]; exact ih2
    | false => rw [hb] at ih2; rw [show b2i false = nI 0 from rfl, nI_add]; exact ih2
  · rintro h2 rfl
    exact qX12_possibleIn_10 _ _ _ hS1 ⟨fun _ => K h2 f1, fun z => absurd (by decide) z⟩
theorem m_isLine (v1 : Int32) {n : Nat} (hS : mSk h) (hn : mI h 47 33 = nI n) (h12 : n ≤ 12) (K1 : ¬ (0 ≤ v1.toInt ∧ v1.toInt < n) → Q (some (.inl 0)) h) (K2 : ∀ i, i < n → v1 = nI i → Q (some (.inl 1)) h) : mC G kX12_isLine d b [.inr (some 47), .inl v1] h Q := by
  rcases rng_cases v1 (n := n) (by omega) with ⟨a, g⟩ | ⟨a, c, g⟩ | ⟨a, c, m, hm, e⟩
  · exact qX12_isLine _ hS ⟨fun _ => K1 g, fun z => absurd a z⟩
  · exact qX12_isLine _ hS ⟨fun _ => K1 g, fun _ w ew => by rw [ew, hn, if_pos c]; exact K1 g⟩
  · exact qX12_isLine _ hS ⟨fun z => absurd z a, fun _ w ew => by rw [ew, hn, if_neg c]; exact K2 m hm e⟩
theorem m_possible (v1 v2 : Int32) {W : aW} (hS : mSk h) (hW : mWo h W) (K1 : ¬ ((v1 = -1 ∨ (0 ≤ v1.toInt ∧ v1.toInt < wn W)) ∧ (0 ≤ v2.toInt ∧ v2.toInt < wl W)) → Q (some (.inl (-2))) h)
    (K2 : ∀ c i, c < wn W → i < wl W → v1 = nI c → v2 = nI i → ∀ h', mFr2 aFo h h' → Q (some (.inl (nI (cnt (thB W c i) 1024)))) h')
    (K3 : ∀ i, i < wl W → v1 = -1 → v2 = nI i → ∀ h', mFr2 aFo h h' → Q (some (.inl (nI (smN (fun c => cnt (thB W c i) 1024) (wn W))))) h') : mC G kX12_possible (d + 8) b [.inr (some 47), .inl v1, .inl v2] h Q := by
  have hn := hW.1.2.1
  have hl := hW.2.2.2.2.1.2.1
  have e33 := hW.2.2.2.2.1.1
  refine qX12_possible _ _ hS ⟨fun z => ?_, fun z => ?_⟩
  · refine m_isLine v2 hS e33 hl (fun t => ⟨_, rfl, hS, fun z => absurd rfl z, fun _ => K1 (fun u => t u.2)⟩) (fun i hi ei => ⟨_, rfl, hS, fun _ => ⟨fun _ => ?_, fun z2 => absurd z z2⟩, fun z => absurd z (by decide)⟩)
    rw [ei]
    refine mloop (W := fun c h1 => mW G kX12_possible (d + 8) b 41 [some (.inr (some 47)), none, some (.inl (nI i)), some (.inl (nI (smN (fun c => cnt (thB W c i) 1024) c))), some (.inl (nI c))] [] h1 Q) (P := fun c h1 => mFr2 aFo h h1) (wn W) ?_ ?_ 0 h (by omega) mFr2.rf
    · rintro c h1 hc f1 ih
      have hW1 := mWo.fr f1 aFo_d hW
      have hS1 := f1.1.sk hS
      refine qX12_possible_41 _ _ _ hS1 ⟨fun z => absurd z (by rw [hW1.1.1]; exact nI_ge hc (by omega)), fun _ => m_possibleIn hS1 hW1 hc hi (fun h2 f2 => ⟨_, rfl, f2.1.sk hS1, ?_⟩)⟩
      rw [nI_1, nI_add]
      exact ih h2 (f1.tr f2)
    · rintro h1 f1
      have hW1 := mWo.fr f1 aFo_d hW
      exact qX12_possible_41 _ _ _ (f1.1.sk hS) ⟨fun _ => K3 i hi z ei h1 f1, fun z => absurd (by rw [hW1.1.1]; exact nI_le (by omega) (by omega)) z⟩
  · refine m_isCoast v1 hS hW.1 (fun t => ⟨_, rfl, hS, fun _ => K1 (fun u => u.1.elim z t), fun z => absurd rfl z⟩) (fun c hc ec => ⟨_, rfl, hS, fun z => absurd z (by decide), fun _ => ?_⟩)
    refine m_isLine v2 hS e33 hl (fun t => ⟨_, rfl, hS, fun z => absurd rfl z, fun _ => K1 (fun u => t u.2)⟩) (fun i hi ei => ⟨_, rfl, hS, fun _ => ⟨fun z2 => absurd z2 z, fun _ => ?_⟩, fun z => absurd z (by decide)⟩)
    rw [ec, ei]
    exact m_possibleIn hS hW hc hi (fun h2 f2 => ⟨_, rfl, f2.1.sk hS, K2 c i hc hi ec ei h2 f2⟩)
theorem m_isPossible (v1 v2 v3 v4 : Int32) {W : aW} (hS : mSk h) (hW : mWo h W) (K1 : ¬ ((0 ≤ v1.toInt ∧ v1.toInt < wn W) ∧ (0 ≤ v2.toInt ∧ v2.toInt < wl W) ∧ ¬ f_X11_inGrid v3 v4 = 0) → Q (some (.inl (-1))) h)
    (K2 : ∀ c i x y, c < wn W → i < wl W → x < 32 → y < 32 → v1 = nI c → v2 = nI i → v3 = nI x → v4 = nI y → ∀ h', mFr2 aFo h h' → Q (some (.inl (b2i (thB W c i (32 * y + x))))) h') : mC G kX12_isPossible (d + 7) b [.inr (some 47), .inl v1, .inl v2, .inl v3, .inl v4] h Q := by
  have hn := hW.1.2.1
  have hl := hW.2.2.2.2.1.2.1
  have e33 := hW.2.2.2.2.1.1
  refine qX12_isPossible _ _ _ _ hS ?_
  rw [f_cell_eq]
  refine m_isCoast v1 hS hW.1 (fun t => ⟨_, rfl, hS, fun _ => K1 (fun u => t u.1), fun z => absurd rfl z⟩) (fun c hc ec => ⟨_, rfl, hS, fun z => absurd z (by decide), fun _ => ?_⟩)
  refine m_isLine v2 hS e33 hl (fun t => ⟨_, rfl, hS, fun _ => K1 (fun u => t u.2.1), fun z => absurd rfl z⟩) (fun i hi ei => ⟨_, rfl, hS, fun z => absurd z (by decide), fun _ => ⟨fun z => ?_, fun z => K1 (fun u => u.2.2 z)⟩⟩)
  obtain ⟨x, y, hx, hy, ex, ey⟩ := grid_ex z
  have K := K2 c i x y hc hi hx hy ec ei ex ey
  rw [ec, ei, ex, ey]
  refine m_laysPossible hS hW hc (by omega) (fun h1 f1 p1 => ⟨rfl, f1.1.sk hS, ?_⟩)
  rw [L32, pk_mul, nI_add]
  refine m_isThere (d := d + 5) (f1.1.sk hS) (mWo.fr f1 aFo_d hW) p1 hi (by omega) ⟨_, rfl, f1.1.sk hS, fun w ew => ?_⟩
  rw [ew, b2i_if]; exact K h1 f1
end
