/-! pool (model) -/
theorem cnt_one {p q : Nat → Bool} {u : Nat} : ∀ n, u < n → p u = false → q u = true → (∀ i, i < n → i ≠ u → q i = p i) → cnt q n = cnt p n + 1
  | 0, h, _, _, _ => by omega
  | n + 1, h, hp, hq, he => by
    show cnt q n + (if q n then 1 else 0) = cnt p n + (if p n then 1 else 0) + 1
    by_cases e : u = n
    · subst e
      rw [cnt_cong (p := q) (q := p) u (fun i hi => he i (by omega) (by omega)), hp, hq]; rfl
    · have ih := cnt_one n (by omega) hp hq (fun i hi => he i (by omega))
      rw [ih, he n (by omega) (by omega)]; omega
theorem cnt_lt {p : Nat → Bool} {u : Nat} : ∀ n, u < n → p u = false → cnt p n < n
  | 0, h, _ => by omega
  | n + 1, h, hp => by
    show cnt p n + (if p n then 1 else 0) < n + 1
    have := cnt_le p n
    by_cases e : u = n
    · subst e; rw [hp]; show cnt p u + 0 < u + 1; omega
    · have := cnt_lt n (by omega) hp
      split <;> omega
theorem mod32 {k : Nat} : 32 * (k / 32) + k % 32 = k := by omega
def upB (P : Nat → Bool) (u : Nat) : Nat → Bool := fun k => if k = u then true else P k
theorem upB_s {P : Nat → Bool} {u : Nat} : upB P u u = true := if_pos rfl
theorem upB_o {P : Nat → Bool} {u k : Nat} (h : k ≠ u) : upB P u k = P k := if_neg h
theorem upB_m {P : Nat → Bool} {u k : Nat} (h : P k = true) : upB P u k = true := by
  by_cases e : k = u
  · rw [e]; exact upB_s
  · rw [upB_o e]; exact h
def upN (R : Nat → Nat) (u v : Nat) : Nat → Nat := fun k => if k = u then v else R k
theorem upN_s {R : Nat → Nat} {u v : Nat} : upN R u v u = v := if_pos rfl
theorem upN_o {R : Nat → Nat} {u v k : Nat} (h : k ≠ u) : upN R u v k = R k := if_neg h
def aSp : Nat → Nat → Prop := fun a _ => 90 ≤ a ∧ a ≤ 92
/-- the state of the spreading: which are in, which lie beside, the row -/
def spI (h : mH) (S : Nat → Nat → Bool) (x0 y0 : Nat) (P V : Nat → Bool) (R : Nat → Nat) (m : Nat) : Prop :=
  (∀ k, k < 1024 → mI h 90 k = b2i (P k) ∧ mI h 91 k = b2i (V k)) ∧ (∀ q, q < m → R q < 1024 ∧ mI h 92 q = nI (R q)) ∧ m = cnt P 1024 ∧ (∀ k, k < 1024 → (P k = true ↔ ∃ q, q < m ∧ R q = k)) ∧ (∀ k, k < 1024 → P k = true → plP S x0 y0 (k % 32) (k / 32)) ∧ (∀ k, k < 1024 → V k = true → wlP S x0 y0 (k % 32) (k / 32))
/-- the neighbours of a cell that have been looked at -/
def spD (S : Nat → Nat → Bool) (P V : Nat → Bool) (k d : Nat) : Prop := 0 < rm4 d (k % 32) (k / 32) → (if S (fwX d (k % 32)) (fwY d (k / 32)) then P (32 * fwY d (k / 32) + fwX d (k % 32)) = true else V (32 * fwY d (k / 32) + fwX d (k % 32)) = true)
theorem fw_adj {q x y : Nat} (hq : q < 4) (hr : 0 < rm4 q x y) : adj4 x y (fwX q x) (fwY q y) := by
  unfold adj4 fwX fwY
  unfold rm4 at hr
  rcases (show q = 0 ∨ q = 1 ∨ q = 2 ∨ q = 3 by omega) with e | e | e | e <;> subst e <;> simp at hr ⊢ <;> omega
theorem adj_fw {x y x' y' : Nat} (hx : x < 32) (hy : y < 32) (hx' : x' < 32) (hy' : y' < 32) (a : adj4 x y x' y') : ∃ q, q < 4 ∧ 0 < rm4 q x y ∧ fwX q x = x' ∧ fwY q y = y' := by
  unfold adj4 at a
  rcases a with ⟨e, f | f⟩ | ⟨e, f | f⟩
  · exact ⟨0, by omega, by unfold rm4; simp; omega, by unfold fwX; simp; omega, by unfold fwY; simp; omega⟩
  · exact ⟨2, by omega, by unfold rm4; simp; omega, by unfold fwX; simp; omega, by unfold fwY; simp; omega⟩
  · exact ⟨1, by omega, by unfold rm4; simp; omega, by unfold fwX; simp; omega, by unfold fwY; simp; omega⟩
  · exact ⟨3, by omega, by unfold rm4; simp; omega, by unfold fwX; simp; omega, by unfold fwY; simp; omega⟩
section
variable {G : mG} {d : Nat} {b : Nat × Nat} {h : mH} {Q : Option mV → mH → Prop}
set_option maxHeartbeats 2000000 in
theorem m_spreads {S : Nat → Nat → Bool} {x0 y0 : Nat} (hS : mSk h) (hx0 : x0 < 32) (hy0 : y0 < 32) (hs : ∀ k, k < 1024 → mI h 88 k = b2i (S (k % 32) (k / 32)))
    (K : ∀ h', mFr2 aSp h h' → (∀ k, k < 1024 → mI h' 90 k = b2i (plB S x0 y0 (k % 32) (k / 32)) ∧ mI h' 91 k = b2i (wlB S x0 y0 (k % 32) (k / 32))) → Q none h') : mC G kX12_spreads (d + 1) b [.inr (some 47), .inl (nI (32 * y0 + x0))] h Q := by
  have k0 : 32 * y0 + x0 < 1024 := by omega
  -- the spreading
  have go : ∀ (fu q m d0 : Nat) (h1 : mH) (P V : Nat → Bool) (R : Nat → Nat), (1024 - q) * 5 + (4 - d0) ≤ fu → q < m → d0 ≤ 4 → mFr2 aSp h h1 → spI h1 S x0 y0 P V R m → (S x0 y0 = true → P (32 * y0 + x0) = true) → (∀ q', q' < q → ∀ e, e < 4 → spD S P V (R q') e) → (∀ e, e < d0 → spD S P V (R q) e) →
      mW G kX12_spreads (d + 1) b 66 [some (.inr (some 47)), none, some (.inl (nI m)), some (.inl (nI q)), some (.inl (nI d0)), none, none, none] [] h1 Q := by
    intro fu
    induction fu with
    | zero =>
      intro q m d0 h1 P V R hf hq hd f1 sp st all1 all2
      have := sp.2.2.1
      have := cnt_le P 1024
      omega
    | succ fu ih =>
      intro q m d0 h1 P V R hf hq hd f1 sp st all1 all2
      have hS1 := f1.1.sk hS
      obtain ⟨i1, i2, i3, i4, i5, i6⟩ := sp
      have hm := cnt_le P 1024
      obtain ⟨rq1, rq2⟩ := i2 q hq
      by_cases hd4 : d0 = 4
      · subst hd4
        refine qX12_spreads_66 _ _ _ hS1 ⟨fun _ => ?_, fun z => absurd (by decide) z⟩
        rw [nI_1]
        by_cases hq1 : q + 1 < m
        · exact qX12_spreads_58 _ _ hS1 ⟨fun z => absurd z (nI_ge hq1 (by omega)), fun _ => ih (q + 1) m 0 h1 P V R (by omega) hq1 (by omega) f1 ⟨i1, i2, i3, i4, i5, i6⟩ st (fun q' hq' e he => by
            by_cases e1 : q' = q
            · rw [e1]; exact all2 e he
            · exact all1 q' (by omega) e he) (fun e he => by omega)⟩
        · refine qX12_spreads_58 _ _ hS1 ⟨fun _ => K h1 f1 (fun k hk => ?_), fun z => absurd (nI_le (by omega) (by omega)) z⟩
          have al : ∀ k', k' < 1024 → P k' = true → ∀ e, e < 4 → spD S P V k' e := fun k' hk' hp e he => by
            obtain ⟨q', hq', eq'⟩ := (i4 k' hk').mp hp
            rw [← eq']
            by_cases e1 : q' = q
            · rw [e1]; exact all2 e he
            · exact all1 q' (by omega) e he
          have cl : ∀ x y, plP S x0 y0 x y → x < 32 ∧ y < 32 → P (32 * y + x) = true := by
            have mn := plP_min (S := S) (x0 := x0) (y0 := y0) (F := fun x y => x < 32 ∧ y < 32 → P (32 * y + x) = true) (fun s _ => st s) (fun x y x' y' hx' hy' hF a s hxy => by
              have hp := hF ⟨hx', hy'⟩
              obtain ⟨e, he, hr, ex, ey⟩ := adj_fw hx' hy' hxy.1 hxy.2 a
              have := al (32 * y' + x') (by omega) hp e he
              unfold spD at this
              rw [show (32 * y' + x') % 32 = x' by omega, show (32 * y' + x') / 32 = y' by omega] at this
              have := this hr
              rw [ex, ey, if_pos s] at this
              exact this)
            exact mn
          have eP : P k = plB S x0 y0 (k % 32) (k / 32) := bool_iff (by
            rw [plB_t]
            constructor
            · exact i5 k hk
            · intro z
              have := cl _ _ z ⟨by omega, by omega⟩
              rw [mod32] at this; exact this)
          have eV : V k = wlB S x0 y0 (k % 32) (k / 32) := bool_iff (by
            rw [wlB_t]
            constructor
            · exact i6 k hk
            · rintro ⟨s, x', y', hx', hy', a, hp⟩
              have hP := cl _ _ hp ⟨hx', hy'⟩
              obtain ⟨e, he, hr, ex, ey⟩ := adj_fw hx' hy' (by omega) (by omega) a
              have := al (32 * y' + x') (by omega) hP e he
              unfold spD at this
              rw [show (32 * y' + x') % 32 = x' by omega, show (32 * y' + x') / 32 = y' by omega] at this
              have := this hr
              rw [ex, ey, if_neg (by rw [s]; decide), mod32] at this
              exact this)
          rw [(i1 k hk).1, (i1 k hk).2, eP, eV]; exact ⟨rfl, rfl⟩
      · -- one neighbour
        have hd0 : d0 < 4 := by omega
        obtain ⟨sx, sy⟩ := f_st d0 hd0
        have hkx : R q % 32 < 32 := by omega
        have hky : R q / 32 < 32 := by omega
        have vq := vp_in_nI (n := q) (N := 1024) (by omega) (by omega)
        have next : ∀ (m' : Nat) (h2 : mH) (P' V' : Nat → Bool) (R' : Nat → Nat), q < m' → mFr2 aSp h h2 → spI h2 S x0 y0 P' V' R' m' → (∀ k, P k = true → P' k = true) → (∀ k, V k = true → V' k = true) → (∀ q', q' < m → R' q' = R q') → spD S P' V' (R q) d0 → mW G kX12_spreads (d + 1) b 66 [some (.inr (some 47)), none, some (.inl (nI m')), some (.inl (nI q)), some (.inl (nI (d0 + 1))), none, none, none] [] h2 Q := by
          intro m' h2 P' V' R' hm' f2 sp2 mp mv mr hd1
          have mono : ∀ k e, spD S P V k e → spD S P' V' k e := fun k e z hr => by
            have := z hr
            split at this
            · rename_i s; rw [if_pos s]; exact mp _ this
            · rename_i s; rw [if_neg s]; exact mv _ this
          refine ih q m' (d0 + 1) h2 P' V' R' (by omega) hm' (by omega) f2 sp2 (fun s => mp _ (st s)) (fun q' hq' e he => ?_) (fun e he => ?_)
          · rw [mr q' (by omega)]; exact mono _ _ (all1 q' hq' e he)
          · rw [mr q hq]
            by_cases e1 : e = d0
            · rw [e1]; exact hd1
            · exact mono _ _ (all2 e (by omega))
        refine qX12_spreads_66 _ _ _ hS1 ⟨fun z => absurd z (nI_ge (b := 4) hd0 (by omega)), fun _ => ?_⟩
        rw [nI_clamp (show q < 2 ^ 31 by omega), rq2, L32, ii_rem (by omega) (by omega) (by omega), ii_div (by omega) (by omega) (by omega), sx, sy, nI_1, f_cell_eq, ii_nat (R q % 32), ii_nat (R q / 32), ii_add, ii_add]
        refine ⟨vq, vq, fun z => ?_, fun z => ?_⟩
        · have hr : 0 < rm4 d0 (R q % 32) (R q / 32) := by
            apply Classical.byContradiction; intro t
            have ho := rm4_out hd0 hkx hky (by omega)
            apply z
            rw [f_grid]
            rw [ii_toInt (by have := sX_3 d0; exact ⟨by omega, by omega⟩), ii_toInt ⟨by unfold sY; split <;> first | omega | (split <;> omega), by unfold sY; split <;> first | omega | (split <;> omega)⟩]
            exact ho
          obtain ⟨g1, g2, g3, g4, g5⟩ := rm4_fw hd0 hkx hky hr
          obtain ⟨X, eX⟩ : ∃ X, X = fwX d0 (R q % 32) := ⟨_, rfl⟩
          obtain ⟨Y, eY⟩ : ∃ Y, Y = fwY d0 (R q / 32) := ⟨_, rfl⟩
          rw [← eX] at g1 g4
          rw [← eY] at g2 g5
          have ad : adj4 (R q % 32) (R q / 32) X Y := by rw [eX, eY]; exact fw_adj hd0 hr
          rw [← g4, ← g5, ← ii_nat, ← ii_nat, pk_mul, nI_add, nI_clamp (show 32 * Y + X < 2 ^ 31 by omega)]
          have hk : 32 * Y + X < 1024 := by omega
          have e88 : mI h1 88 (32 * Y + X) = b2i (S X Y) := by
            rw [f1.2 _ _ (fun t => by unfold aSp at t; omega), hs _ hk, show (32 * Y + X) % 32 = X by omega, show (32 * Y + X) / 32 = Y by omega]
          have vk := vp_in_nI (n := 32 * Y + X) (N := 1024) hk (by omega)
          have pq : P (R q) = true := (i4 _ rq1).mpr ⟨q, hq, rfl⟩
          have plq := i5 _ rq1 pq
          rw [e88]
          cases hsb : S X Y with
          | true =>
            have hplk : plP S x0 y0 X Y := plP_st plq hkx hky ad hsb
            refine ⟨vk, fun _ => ⟨vk, fun t => absurd t (by decide), fun _ => ⟨vk, ?_⟩⟩, fun t => absurd t (by decide)⟩
            rw [(i1 _ hk).1]
            refine ⟨fun t => ⟨vk, fun h7 e7 => ?_⟩, fun t => ?_⟩
            · have hpf : P (32 * Y + X) = false := b2i_0.mp t
              have hm1 : m < 1024 := by rw [i3]; exact cnt_lt 1024 hk hpf
              refine ⟨vp_in_nI hm1 (by omega), fun h9 e9 => ?_⟩
              rw [nI_clamp (show m < 2 ^ 31 by omega)] at e9
              rw [nI_1]
              have f79 : mFr2 aSp h1 h9 := by rw [e9, e7]; exact (mFr2.SI (A := aSp) ⟨by omega, by omega⟩).tr (mFr2.SI ⟨by omega, by omega⟩)
              refine next (m + 1) h9 (upB P (32 * Y + X)) V (upN R m (32 * Y + X)) (by omega) (f1.tr f79) ⟨fun k hk' => ?_, fun q' hq' => ?_, ?_, fun k hk' => ?_, fun k hk' hp => ?_, i6⟩ (fun k hp => upB_m hp) (fun k hv => hv) (fun q' hq' => upN_o (by omega)) (fun _ => ?_)
              · rw [e9, mI_SI_a (by omega), mI_SI_a (by omega), e7]
                by_cases e : k = 32 * Y + X
                · rw [e, upB_s, mI_SI_s, mI_SI_a (by omega)]
                  exact ⟨rfl, (i1 _ hk).2⟩
                · rw [upB_o e, mI_SI_k e, mI_SI_a (by omega)]; exact i1 k hk'
              · rw [e9]
                by_cases e : q' = m
                · rw [e, upN_s, mI_SI_s]; exact ⟨hk, rfl⟩
                · rw [upN_o e, mI_SI_k e, e7, mI_SI_a (by omega)]; exact i2 q' (by omega)
              · rw [i3]
                exact (cnt_one (u := 32 * Y + X) 1024 hk hpf upB_s (fun i _ hi => upB_o hi)).symm
              · by_cases e : k = 32 * Y + X
                · rw [e]
                  exact ⟨fun _ => ⟨m, by omega, upN_s⟩, fun _ => upB_s⟩
                · rw [upB_o e, i4 k hk']
                  constructor
                  · rintro ⟨q', hq', eq'⟩
                    exact ⟨q', by omega, by rw [upN_o (by omega)]; exact eq'⟩
                  · rintro ⟨q', hq', eq'⟩
                    by_cases e2 : q' = m
                    · rw [e2, upN_s] at eq'; exact absurd eq'.symm e
                    · rw [upN_o e2] at eq'; exact ⟨q', by omega, eq'⟩
              · by_cases e : k = 32 * Y + X
                · rw [e, show (32 * Y + X) % 32 = X by omega, show (32 * Y + X) / 32 = Y by omega]; exact hplk
                · rw [upB_o e] at hp; exact i5 k hk' hp
              · rw [← eX, ← eY, if_pos hsb]; exact upB_s
            · have hpt : P (32 * Y + X) = true := by
                cases hb : P (32 * Y + X) with
                | true => rfl
                | false => exact absurd (b2i_0.mpr hb) t
              refine next m h1 P V R hq f1 ⟨i1, i2, i3, i4, i5, i6⟩ (fun k hp => hp) (fun k hv => hv) (fun q' _ => rfl) (fun _ => ?_)
              rw [← eX, ← eY, if_pos hsb]; exact hpt
          | false =>
            refine ⟨vk, fun t => absurd rfl t, fun _ => ⟨vk, fun h13 e13 => ⟨vk, ?_⟩⟩⟩
            have e88' : mI h13 88 (32 * Y + X) = 0 := by rw [e13, mI_SI_a (by omega), e88, hsb]; rfl
            rw [e88']
            refine ⟨fun _ => ?_, fun t => absurd rfl t⟩
            have f13 : mFr2 aSp h1 h13 := by rw [e13]; exact mFr2.SI (A := aSp) ⟨by omega, by omega⟩
            refine next m h13 P (upB V (32 * Y + X)) R hq (f1.tr f13) ⟨fun k hk' => ?_, fun q' hq' => ?_, i3, i4, i5, fun k hk' hv => ?_⟩ (fun k hp => hp) (fun k hv => upB_m hv) (fun q' _ => rfl) (fun _ => ?_)
            · rw [e13, mI_SI_a (by omega)]
              refine ⟨(i1 k hk').1, ?_⟩
              by_cases e : k = 32 * Y + X
              · rw [e, upB_s, mI_SI_s]; rfl
              · rw [upB_o e, mI_SI_k e]; exact (i1 k hk').2
            · rw [e13, mI_SI_a (by omega)]; exact i2 q' hq'
            · by_cases e : k = 32 * Y + X
              · rw [e, show (32 * Y + X) % 32 = X by omega, show (32 * Y + X) / 32 = Y by omega]
                exact ⟨hsb, R q % 32, R q / 32, hkx, hky, ad, plq⟩
              · rw [upB_o e] at hv; exact i6 k hk' hv
            · rw [← eX, ← eY, if_neg (by rw [hsb]; decide)]; exact upB_s
        · refine next m h1 P V R hq f1 ⟨i1, i2, i3, i4, i5, i6⟩ (fun k hp => hp) (fun k hv => hv) (fun q' _ => rfl) (fun hr => ?_)
          obtain ⟨g1, g2, g3, g4, g5⟩ := rm4_fw hd0 hkx hky hr
          rw [← g4, ← g5, ← ii_nat, ← ii_nat, f_grid, nI_toI (by omega), nI_toI (by omega)] at z
          exact absurd ⟨⟨by omega, by omega⟩, by omega, by omega⟩ z
  refine qX12_spreads _ hS ?_
  refine mloop (W := fun k h1 => mW G kX12_spreads (d + 1) b 2 [some (.inr (some 47)), some (.inl (nI (32 * y0 + x0))), some (.inl (nI k)), none, none, none, none, none] [] h1 Q)
    (P := fun k h1 => mFr2 aSp h h1 ∧ ∀ k', k' < k → mI h1 90 k' = 0 ∧ mI h1 91 k' = 0) 1024 ?_ ?_ 0 h (by omega) ⟨mFr2.rf, fun k' z => by omega⟩
  · rintro k h1 hk ⟨f1, c1⟩ ih
    have vk := vp_in_nI (n := k) (N := 1024) hk (by omega)
    refine qX12_spreads_2 _ _ (f1.1.sk hS) ⟨fun z => absurd z (nI_ge (b := 1024) hk (by omega)), fun _ => ⟨vk, fun h8 e8 => ⟨vk, fun h10 e10 => ?_⟩⟩⟩
    rw [nI_clamp (by omega)] at e8 e10
    rw [nI_1, e10, e8]
    refine ih _ ⟨(f1.tr (mFr2.SI ⟨by omega, by omega⟩)).tr (mFr2.SI ⟨by omega, by omega⟩), fun k' hk' => ?_⟩
    by_cases e : k' = k
    · rw [e, mI_SI_a (by omega), mI_SI_s, mI_SI_s]; exact ⟨rfl, rfl⟩
    · rw [mI_SI_k e, mI_SI_k e, mI_SI_k e, mI_SI_k e]; exact c1 k' (by omega)
  · rintro h1 ⟨f1, c1⟩
    have hS1 := f1.1.sk hS
    have vk := vp_in_nI (n := 32 * y0 + x0) (N := 1024) k0 (by omega)
    have e88 : mI h1 88 (32 * y0 + x0) = b2i (S x0 y0) := by
      rw [f1.2 _ _ (fun t => by unfold aSp at t; omega), hs _ k0, show (32 * y0 + x0) % 32 = x0 by omega, show (32 * y0 + x0) / 32 = y0 by omega]
    refine qX12_spreads_2 _ _ hS1 ⟨fun _ => ⟨vk, ?_⟩, fun z => absurd (by decide) z⟩
    rw [nI_clamp (by omega), e88]
    refine ⟨fun t => ?_, fun t => ⟨vk, fun h3 e3 => ⟨vp_in_nI (n := 0) (N := 1024) (by omega) (by omega), fun h5 e5 => ?_⟩⟩⟩
    · have hsf := b2i_0.mp t
      have no : ∀ x y, ¬ plP S x0 y0 x y := fun x y z => plP_min (S := S) (x0 := x0) (y0 := y0) (F := fun _ _ => False) (fun s => by rw [hsf] at s; cases s) (fun _ _ _ _ _ _ z _ _ => z) x y z
      refine qX12_spreads_58 _ _ hS1 ⟨fun _ => K h1 f1 (fun k hk => ?_), fun z => absurd (by decide) z⟩
      have e1 : plB S x0 y0 (k % 32) (k / 32) = false := by
        cases hb : plB S x0 y0 (k % 32) (k / 32) with
        | false => rfl
        | true => exact absurd (plB_t.mp hb) (no _ _)
      have e2 : wlB S x0 y0 (k % 32) (k / 32) = false := by
        cases hb : wlB S x0 y0 (k % 32) (k / 32) with
        | false => rfl
        | true => obtain ⟨-, x', y', -, -, -, hp⟩ := wlB_t.mp hb; exact absurd hp (no _ _)
      rw [e1, e2]; exact c1 k hk
    · have hst : S x0 y0 = true := by
        cases hb : S x0 y0 with
        | true => rfl
        | false => exact absurd (b2i_0.mpr hb) t
      have f35 : mFr2 aSp h1 h5 := by rw [e5, e3]; exact (mFr2.SI (A := aSp) ⟨by omega, by omega⟩).tr (mFr2.SI ⟨by omega, by omega⟩)
      have hS5 := f35.1.sk hS1
      have go1 := go (1024 * 5 + 4) 0 1 0 h5 (fun k => decide (k = 32 * y0 + x0)) (fun _ => false) (fun _ => 32 * y0 + x0) (by omega) (by omega) (by omega) (f1.tr f35) ⟨fun k hk => ?_, fun q hq => ?_, ?_, fun k hk => ?_, fun k hk hp => ?_, fun k hk hv => by cases hv⟩ (fun _ => decide_eq_true rfl) (fun q' hq' => by omega) (fun e he => by omega)
      · exact qX12_spreads_58 _ _ hS5 ⟨fun z => absurd z (by decide), fun _ => go1⟩
      · rw [e5, mI_SI_a (by omega), mI_SI_a (by omega), e3]
        by_cases e : k = 32 * y0 + x0
        · rw [e, mI_SI_s, mI_SI_a (by omega)]
          refine ⟨?_, (c1 _ k0).2⟩
          show (1 : Int32) = b2i (decide (32 * y0 + x0 = 32 * y0 + x0))
          rw [decide_eq_true rfl]; rfl
        · rw [mI_SI_k e, mI_SI_a (by omega)]
          show _ = b2i (decide (k = 32 * y0 + x0)) ∧ _
          rw [decide_eq_false e]; exact c1 k hk
      · have : q = 0 := by omega
        subst this
        rw [e5]
        exact ⟨k0, mI_SI_s⟩
      · have h0 : cnt (fun _ => false) 1024 = 0 := (cnt_z 1024).mpr (fun _ _ => rfl)
        rw [cnt_one (p := fun _ => false) (u := 32 * y0 + x0) 1024 k0 rfl (decide_eq_true rfl) (fun i _ hi => decide_eq_false hi), h0]
      · show decide (k = 32 * y0 + x0) = true ↔ _
        rw [decide_eq_true_iff]
        exact ⟨fun e => ⟨0, by omega, e.symm⟩, fun ⟨q, hq, e⟩ => e.symm⟩
      · have e : k = 32 * y0 + x0 := of_decide_eq_true hp
        rw [e, show (32 * y0 + x0) % 32 = x0 by omega, show (32 * y0 + x0) / 32 = y0 by omega]; exact plP_0 hst
theorem m_pool (v1 v2 v3 : Int32) {W : aW} (hS : mSk h) (hW : mWo h W) (K1 : ¬ (¬ f_X11_inGrid v1 v2 = 0 ∧ ¬ f_X11_within v3 0 2 = 0) → Q (some (.inl (-1))) h)
    (K2 : ∀ x y w, x < 32 → y < 32 → w ≤ 2 → v1 = nI x → v2 = nI y → v3 = nI w → ∀ h', mFr2 (fun a k => aSr a k ∨ aSp a k) h h' → (noFit W → Q (some (.inl (-2))) h') ∧ (¬ noFit W → Q (some (.inl (nI (poA W x y w)))) h')) : mC G kX12_pool (d + 9) b [.inr (some 47), .inl v1, .inl v2, .inl v3] h Q := by
  have hn8 := hW.1.2.1
  refine qX12_pool _ _ _ hS ?_
  rw [f_cell_eq, f_in_eq]
  refine ⟨fun z => K1 (fun u => u.1 z), fun g => ⟨fun i => ?_, fun z => K1 (fun u => u.2 z)⟩⟩
  obtain ⟨x, y, hx, hy, ex, ey⟩ := grid_ex g
  obtain ⟨w, hw, ew⟩ := wi_ex (m := 2) (by omega) i
  have K := K2 x y w hx hy hw ex ey ew
  rw [ex, ey, ew, L32, pk_mul, nI_add]
  refine m_laysSure hS hW (fun h1 f1 F1 c1 => ⟨fun nf => ⟨_, rfl, f1.1.sk hS, fun t => absurd rfl t, fun _ => (K h1 (f1.wk (fun a k z => Or.inl z))).1 nf⟩, fun nf => ⟨_, rfl, f1.1.sk hS, fun _ => ?_, fun t => absurd t (by decide)⟩⟩)
  have hS1 := f1.1.sk hS
  refine m_spreads (d := d + 7) (S := swB W) hS1 hx hy c1 (fun h2 f2 c2 => ⟨rfl, f2.1.sk hS1, ?_⟩)
  have hS2 := f2.1.sk hS1
  have K4 := (K h2 ((f1.wk (fun a k z => Or.inl z)).tr (f2.wk (fun a k z => Or.inr z)))).2 nf
  have hW2 : mWo h2 W := mWo.fr f2 (fun a k z q => by unfold dM at z; unfold aSp at q; omega) (mWo.fr f1 aSr_d hW)
  have F2 : isFi (mI h2 47 51) W := by rw [f2.2 _ _ (fun q => by unfold aSp at q; omega)]; exact F1
  have w0 : nI w = 0 ↔ w = 0 := nI_eq (b := 0) (by omega) (by omega)
  have w1 : nI w = 1 ↔ w = 1 := nI_eq (b := 1) (by omega) (by omega)
  obtain ⟨p, hp⟩ : ∃ p : Nat → Bool, p = (fun k => if w = 0 then plB (swB W) x y (k % 32) (k / 32) else if w = 1 then wlB (swB W) x y (k % 32) (k / 32) else (wlB (swB W) x y (k % 32) (k / 32) && !slB W true (k % 32) (k / 32))) := ⟨_, rfl⟩
  have epo : poA W x y w = cnt p 1024 := by
    unfold poA
    rw [hp]
    by_cases q0 : w = 0
    · rw [if_pos q0]; exact cnt_cong 1024 (fun i _ => (if_pos q0).symm)
    · rw [if_neg q0]
      by_cases q1 : w = 1
      · rw [if_pos q1]; exact cnt_cong 1024 (fun i _ => by rw [if_neg q0, if_pos q1])
      · rw [if_neg q1]; exact cnt_cong 1024 (fun i _ => by rw [if_neg q0, if_neg q1])
  rw [epo] at K4
  refine mloop (W := fun k h3 => mW G kX12_pool (d + 9) b 45 [some (.inr (some 47)), none, none, some (.inl (nI w)), some (.inl (nI (cnt p k))), some (.inl (nI k))] [] h3 Q) (P := fun k h3 => h3 = h2) 1024 ?_ ?_ 0 h2 (by omega) rfl
  · rintro k h3 hk rfl ih
    have ih2 := ih h3 rfl
    have vk := vp_in_nI (n := k) (N := 1024) hk (by omega)
    have step : ∀ v : Int32, v = b2i (p k) → mW G kX12_pool (d + 9) b 45 [some (.inr (some 47)), none, none, some (.inl (nI w)), some (.inl (nI (cnt p k) + v)), some (.inl (nI (k + 1)))] [] h3 Q := by
      intro v ev
      rw [cnt] at ih2
      rw [ev]
      cases hb : p k with
      | true => rw [hb] at ih2; rw [show b2i true = nI 1 from rfl, nI_add]; exact ih2
      | false => rw [hb] at ih2; rw [show b2i false = nI 0 from rfl, nI_add]; exact ih2
    refine qX12_pool_45 _ _ _ hS2 ⟨fun z => absurd z (nI_ge (b := 1024) hk (by omega)), fun _ => ?_⟩
    rw [nI_clamp (show k < 2 ^ 31 by omega), nI_1, w0, w1, (c2 k hk).1, (c2 k hk).2]
    refine ⟨fun q0 => ⟨vk, fun t => step 0 ?_, fun t => ⟨fun q1 => step 1 ?_, fun q1 => m_lowest 0 (l := false) rfl hS2 hW2.1 F2 hk ⟨_, rfl, hS2, fun w4 e4 => step w4 ?_⟩⟩⟩, fun q0 => ⟨vk, fun w10 e10 => step w10 ?_⟩⟩
    · rw [hp]
      have e := b2i_0.mp t
      show (0 : Int32) = b2i (if w = 0 then _ else _)
      rw [if_neg q0]
      by_cases q1 : w = 1
      · rw [if_pos q1, e]; rfl
      · rw [if_neg q1, e]; rfl
    · rw [hp]
      have e : wlB (swB W) x y (k % 32) (k / 32) = true := by
        cases hb : wlB (swB W) x y (k % 32) (k / 32) with
        | true => rfl
        | false => exact absurd (b2i_0.mpr hb) t
      show (1 : Int32) = b2i (if w = 0 then _ else _)
      rw [if_neg q0, if_pos q1, e]; rfl
    · rw [hp]
      have e : wlB (swB W) x y (k % 32) (k / 32) = true := by
        cases hb : wlB (swB W) x y (k % 32) (k / 32) with
        | true => rfl
        | false => exact absurd (b2i_0.mpr hb) t
      show w4 = b2i (if w = 0 then _ else _)
      rw [if_neg q0, if_neg q1, e, e4]
      by_cases q : slP W true (k % 32) (k / 32)
      · have n2 : loV W (k % 32) (k / 32) false = -1 := (loV_m1 hn8).mpr q
        rw [if_pos n2, slB_t.mpr q]; rfl
      · have n2 : ¬ loV W (k % 32) (k / 32) false = -1 := fun t => q ((loV_m1 hn8).mp t)
        rw [if_neg n2, slB_f q]; rfl
    · rw [hp]
      show w10 = b2i (if w = 0 then _ else _)
      rw [if_pos q0, e10, b2i_if]
  · rintro h3 rfl
    exact qX12_pool_45 _ _ _ hS2 ⟨fun _ => K4, fun z => absurd (by decide) z⟩
end
