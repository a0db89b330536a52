abbrev kL_law : mM := (yL_law, cL_law, 4, some .boolean)
theorem mw_bud {G : mG} {k : mM} {d : Nat} {b b' : Nat × Nat} {pc : Nat} {ls : List (Option mV)} {st : List mV} {h : mH} {Q : Option mV → mH → Prop} (h1 : b.1 ≤ b'.1) (h2 : b.2 ≤ b'.2) (kk : mW G k d b pc ls st h Q) : mW G k d b' pc ls st h Q := by
  intro p e s m args below meth c R Z C hQ H locs cells slots LS hA
  obtain ⟨⟨hf1, hf2, hf3, hf4⟩, hr⟩ := hA
  exact kk p e s m args below meth c R Z C hQ _ _ _ _ _ ⟨⟨hf1, hf2, by omega, by omega⟩, hr⟩
set_option maxRecDepth 100000 in
set_option maxHeartbeats 8000000 in
theorem qL_law_18 {G : mG} {d b1 b2 : Nat} {h : mH} {Q : Option mV → mH → Prop} (v3 : Int32) (hS : mSk h)
    (K : ((((nI (gN G)) - 7) < v3 → Q (some (.inl 1)) h) ∧ (¬ (((nI (gN G)) - 7) < v3) → vp_in v3 (gN G) ∧ (((((gX G v3.toNatClampNeg) &&& 31).toInt < 0 ∨ 25 < ((gX G v3.toNatClampNeg) &&& 31).toInt) → mW G kL_law (d + 10) (b1 + 9, b2 + 5760) 18 [some (.inr (some 0)), some (.inr (some 8)), some (.inr (some 47)), some (.inl (v3 + 7))] [] h Q) ∧ (((gX G v3.toNatClampNeg) &&& 31) = 0 → vp_in (v3 + 1) (gN G) ∧ vp_in (v3 + 2) (gN G) ∧ vp_in (v3 + 3) (gN G) ∧ vp_in (v3 + 4) (gN G) ∧ vp_in (v3 + 5) (gN G) ∧ mC G kX11_feed (d + 9) (0, 0) [.inr (some 8), .inl (gX G ((v3 + 1).toNatClampNeg)), .inl (gX G ((v3 + 2).toNatClampNeg)), .inl (gX G ((v3 + 3).toNatClampNeg)), .inl (gX G ((v3 + 4).toNatClampNeg)), .inl (gX G ((v3 + 5).toNatClampNeg))] h (fun r h8 => ∃ x9, r = some (.inl x9) ∧ mSk h8 ∧ vp_in (v3 + 1) (gN G) ∧ vp_in (v3 + 2) (gN G) ∧ vp_in (v3 + 3) (gN G) ∧ vp_in (v3 + 4) (gN G) ∧ vp_in (v3 + 5) (gN G) ∧ mC G kX12_feed (d + 9) (0, 0) [.inr (some 47), .inl (gX G ((v3 + 1).toNatClampNeg)), .inl (gX G ((v3 + 2).toNatClampNeg)), .inl (gX G ((v3 + 3).toNatClampNeg)), .inl (gX G ((v3 + 4).toNatClampNeg)), .inl (gX G ((v3 + 5).toNatClampNeg))] h8 (fun r h15 => ∃ x16, r = some (.inl x16) ∧ mSk h15 ∧ ((x9 = x16 → mW G kL_law (d + 10) (b1 + 9, b2 + 5760) 18 [some (.inr (some 0)), some (.inr (some 8)), some (.inr (some 47)), some (.inl (v3 + 7))] [] h15 Q) ∧ (¬ x9 = x16 → Q (some (.inl 0)) h15))))) ∧ (((gX G v3.toNatClampNeg) &&& 31) = 1 → vp_in (v3 + 1) (gN G) ∧ mC G kX11_coast (d + 9) (9, 5760) [.inr (some 8), .inl (gX G ((v3 + 1).toNatClampNeg))] h (fun r h19 => ∃ x20, r = some (.inl x20) ∧ mSk h19 ∧ vp_in (v3 + 1) (gN G) ∧ mC G kX12_coast (d + 9) (0, 0) [.inr (some 47), .inl (gX G ((v3 + 1).toNatClampNeg))] h19 (fun r h22 => ∃ x23, r = some (.inl x23) ∧ mSk h22 ∧ ((x20 = x23 → mW G kL_law (d + 10) (b1, b2) 18 [some (.inr (some 0)), some (.inr (some 8)), some (.inr (some 47)), some (.inl (v3 + 7))] [] h22 Q) ∧ (¬ x20 = x23 → Q (some (.inl 0)) h22))))) ∧ (((gX G v3.toNatClampNeg) &&& 31) = 2 → vp_in (v3 + 1) (gN G) ∧ mC G kX11_law (d + 9) (0, 0) [.inr (some 8), .inl (gX G ((v3 + 1).toNatClampNeg))] h (fun r h26 => ∃ x27, r = some (.inl x27) ∧ mSk h26 ∧ vp_in (v3 + 1) (gN G) ∧ mC G kX12_law (d + 9) (0, 0) [.inr (some 47), .inl (gX G ((v3 + 1).toNatClampNeg))] h26 (fun r h29 => ∃ x30, r = some (.inl x30) ∧ mSk h29 ∧ ((x27 = x30 → mW G kL_law (d + 10) (b1 + 9, b2 + 5760) 18 [some (.inr (some 0)), some (.inr (some 8)), some (.inr (some 47)), some (.inl (v3 + 7))] [] h29 Q) ∧ (¬ x27 = x30 → Q (some (.inl 0)) h29))))) ∧ (((gX G v3.toNatClampNeg) &&& 31) = 3 → vp_in (v3 + 1) (gN G) ∧ vp_in (v3 + 2) (gN G) ∧ vp_in (v3 + 3) (gN G) ∧ mC G kX11_push (d + 9) (9, 5760) [.inr (some 8), .inl (gX G ((v3 + 1).toNatClampNeg)), .inl (gX G ((v3 + 2).toNatClampNeg)), .inl (gX G ((v3 + 3).toNatClampNeg))] h (fun r h35 => ∃ x36, r = some (.inl x36) ∧ mSk h35 ∧ vp_in (v3 + 1) (gN G) ∧ vp_in (v3 + 2) (gN G) ∧ vp_in (v3 + 3) (gN G) ∧ mC G kX12_push (d + 9) (0, 0) [.inr (some 47), .inl (gX G ((v3 + 1).toNatClampNeg)), .inl (gX G ((v3 + 2).toNatClampNeg)), .inl (gX G ((v3 + 3).toNatClampNeg))] h35 (fun r h40 => ∃ x41, r = some (.inl x41) ∧ mSk h40 ∧ ((x36 = x41 → mW G kL_law (d + 10) (b1, b2) 18 [some (.inr (some 0)), some (.inr (some 8)), some (.inr (some 47)), some (.inl (v3 + 7))] [] h40 Q) ∧ (¬ x36 = x41 → Q (some (.inl 0)) h40))))) ∧ (((gX G v3.toNatClampNeg) &&& 31) = 4 → vp_in (v3 + 1) (gN G) ∧ vp_in (v3 + 2) (gN G) ∧ vp_in (v3 + 3) (gN G) ∧ mC G kX11_land (d + 9) (0, 0) [.inr (some 8), .inl (gX G ((v3 + 1).toNatClampNeg)), .inl (gX G ((v3 + 2).toNatClampNeg)), .inl (gX G ((v3 + 3).toNatClampNeg))] h (fun r h46 => ∃ x47, r = some (.inl x47) ∧ mSk h46 ∧ vp_in (v3 + 1) (gN G) ∧ vp_in (v3 + 2) (gN G) ∧ vp_in (v3 + 3) (gN G) ∧ mC G kX12_land (d + 9) (0, 0) [.inr (some 47), .inl (gX G ((v3 + 1).toNatClampNeg)), .inl (gX G ((v3 + 2).toNatClampNeg)), .inl (gX G ((v3 + 3).toNatClampNeg))] h46 (fun r h51 => ∃ x52, r = some (.inl x52) ∧ mSk h51 ∧ ((x47 = x52 → mW G kL_law (d + 10) (b1 + 9, b2 + 5760) 18 [some (.inr (some 0)), some (.inr (some 8)), some (.inr (some 47)), some (.inl (v3 + 7))] [] h51 Q) ∧ (¬ x47 = x52 → Q (some (.inl 0)) h51))))) ∧ (((gX G v3.toNatClampNeg) &&& 31) = 5 → vp_in (v3 + 1) (gN G) ∧ vp_in (v3 + 2) (gN G) ∧ vp_in (v3 + 3) (gN G) ∧ vp_in (v3 + 4) (gN G) ∧ vp_in (v3 + 5) (gN G) ∧ mC G kX11_facing (d + 9) (0, 0) [.inr (some 8), .inl (gX G ((v3 + 1).toNatClampNeg)), .inl (gX G ((v3 + 2).toNatClampNeg)), .inl (gX G ((v3 + 3).toNatClampNeg)), .inl (gX G ((v3 + 4).toNatClampNeg)), .inl (gX G ((v3 + 5).toNatClampNeg))] h (fun r h59 => ∃ x60, r = some (.inl x60) ∧ mSk h59 ∧ vp_in (v3 + 1) (gN G) ∧ vp_in (v3 + 2) (gN G) ∧ vp_in (v3 + 3) (gN G) ∧ vp_in (v3 + 4) (gN G) ∧ vp_in (v3 + 5) (gN G) ∧ mC G kX12_facing (d + 9) (0, 0) [.inr (some 47), .inl (gX G ((v3 + 1).toNatClampNeg)), .inl (gX G ((v3 + 2).toNatClampNeg)), .inl (gX G ((v3 + 3).toNatClampNeg)), .inl (gX G ((v3 + 4).toNatClampNeg)), .inl (gX G ((v3 + 5).toNatClampNeg))] h59 (fun r h66 => ∃ x67, r = some (.inl x67) ∧ mSk h66 ∧ ((x60 = x67 → mW G kL_law (d + 10) (b1 + 9, b2 + 5760) 18 [some (.inr (some 0)), some (.inr (some 8)), some (.inr (some 47)), some (.inl (v3 + 7))] [] h66 Q) ∧ (¬ x60 = x67 → Q (some (.inl 0)) h66))))) ∧ (((gX G v3.toNatClampNeg) &&& 31) = 6 → vp_in (v3 + 1) (gN G) ∧ vp_in (v3 + 2) (gN G) ∧ vp_in (v3 + 3) (gN G) ∧ vp_in (v3 + 4) (gN G) ∧ mC G kX11_sounder (d + 9) (0, 0) [.inr (some 8), .inl (gX G ((v3 + 1).toNatClampNeg)), .inl (gX G ((v3 + 2).toNatClampNeg)), .inl (gX G ((v3 + 3).toNatClampNeg)), .inl (gX G ((v3 + 4).toNatClampNeg))] h (fun r h73 => ∃ x74, r = some (.inl x74) ∧ mSk h73 ∧ vp_in (v3 + 1) (gN G) ∧ vp_in (v3 + 2) (gN G) ∧ vp_in (v3 + 3) (gN G) ∧ vp_in (v3 + 4) (gN G) ∧ mC G kX12_sounder (d + 9) (0, 0) [.inr (some 47), .inl (gX G ((v3 + 1).toNatClampNeg)), .inl (gX G ((v3 + 2).toNatClampNeg)), .inl (gX G ((v3 + 3).toNatClampNeg)), .inl (gX G ((v3 + 4).toNatClampNeg))] h73 (fun r h79 => ∃ x80, r = some (.inl x80) ∧ mSk h79 ∧ ((x74 = x80 → mW G kL_law (d + 10) (b1 + 9, b2 + 5760) 18 [some (.inr (some 0)), some (.inr (some 8)), some (.inr (some 47)), some (.inl (v3 + 7))] [] h79 Q) ∧ (¬ x74 = x80 → Q (some (.inl 0)) h79))))) ∧ (((gX G v3.toNatClampNeg) &&& 31) = 7 → vp_in (v3 + 1) (gN G) ∧ vp_in (v3 + 2) (gN G) ∧ vp_in (v3 + 3) (gN G) ∧ vp_in (v3 + 4) (gN G) ∧ vp_in (v3 + 5) (gN G) ∧ vp_in (v3 + 6) (gN G) ∧ mC G kX11_level (d + 9) (0, 0) [.inr (some 8), .inl (gX G ((v3 + 1).toNatClampNeg)), .inl (gX G ((v3 + 2).toNatClampNeg)), .inl (gX G ((v3 + 3).toNatClampNeg)), .inl (gX G ((v3 + 4).toNatClampNeg)), .inl (gX G ((v3 + 5).toNatClampNeg)), .inl (gX G ((v3 + 6).toNatClampNeg))] h (fun r h88 => ∃ x89, r = some (.inl x89) ∧ mSk h88 ∧ vp_in (v3 + 1) (gN G) ∧ vp_in (v3 + 2) (gN G) ∧ vp_in (v3 + 3) (gN G) ∧ vp_in (v3 + 4) (gN G) ∧ vp_in (v3 + 5) (gN G) ∧ vp_in (v3 + 6) (gN G) ∧ mC G kX12_level (d + 9) (0, 0) [.inr (some 47), .inl (gX G ((v3 + 1).toNatClampNeg)), .inl (gX G ((v3 + 2).toNatClampNeg)), .inl (gX G ((v3 + 3).toNatClampNeg)), .inl (gX G ((v3 + 4).toNatClampNeg)), .inl (gX G ((v3 + 5).toNatClampNeg)), .inl (gX G ((v3 + 6).toNatClampNeg))] h88 (fun r h96 => ∃ x97, r = some (.inl x97) ∧ mSk h96 ∧ ((x89 = x97 → mW G kL_law (d + 10) (b1 + 9, b2 + 5760) 18 [some (.inr (some 0)), some (.inr (some 8)), some (.inr (some 47)), some (.inl (v3 + 7))] [] h96 Q) ∧ (¬ x89 = x97 → Q (some (.inl 0)) h96))))) ∧ (((gX G v3.toNatClampNeg) &&& 31) = 8 → vp_in (v3 + 1) (gN G) ∧ vp_in (v3 + 2) (gN G) ∧ vp_in (v3 + 3) (gN G) ∧ vp_in (v3 + 4) (gN G) ∧ vp_in (v3 + 5) (gN G) ∧ mC G kX11_line (d + 9) (2, 13) [.inr (some 8), .inl (gX G ((v3 + 1).toNatClampNeg)), .inl (gX G ((v3 + 2).toNatClampNeg)), .inl (gX G ((v3 + 3).toNatClampNeg)), .inl (gX G ((v3 + 4).toNatClampNeg)), .inl (gX G ((v3 + 5).toNatClampNeg))] h (fun r h104 => ∃ x105, r = some (.inl x105) ∧ mSk h104 ∧ vp_in (v3 + 1) (gN G) ∧ vp_in (v3 + 2) (gN G) ∧ vp_in (v3 + 3) (gN G) ∧ vp_in (v3 + 4) (gN G) ∧ vp_in (v3 + 5) (gN G) ∧ mC G kX12_line (d + 9) (0, 0) [.inr (some 47), .inl (gX G ((v3 + 1).toNatClampNeg)), .inl (gX G ((v3 + 2).toNatClampNeg)), .inl (gX G ((v3 + 3).toNatClampNeg)), .inl (gX G ((v3 + 4).toNatClampNeg)), .inl (gX G ((v3 + 5).toNatClampNeg))] h104 (fun r h111 => ∃ x112, r = some (.inl x112) ∧ mSk h111 ∧ ((x105 = x112 → mW G kL_law (d + 10) (b1 + 7, b2 + 5747) 18 [some (.inr (some 0)), some (.inr (some 8)), some (.inr (some 47)), some (.inl (v3 + 7))] [] h111 Q) ∧ (¬ x105 = x112 → Q (some (.inl 0)) h111))))) ∧ (((gX G v3.toNatClampNeg) &&& 31) = 9 → vp_in (v3 + 1) (gN G) ∧ vp_in (v3 + 2) (gN G) ∧ vp_in (v3 + 3) (gN G) ∧ mC G kX11_hears (d + 9) (3, 518) [.inr (some 8), .inl (gX G ((v3 + 1).toNatClampNeg)), .inl (gX G ((v3 + 2).toNatClampNeg)), .inl (gX G ((v3 + 3).toNatClampNeg))] h (fun r h117 => ∃ x118, r = some (.inl x118) ∧ mSk h117 ∧ vp_in (v3 + 1) (gN G) ∧ vp_in (v3 + 2) (gN G) ∧ vp_in (v3 + 3) (gN G) ∧ mC G kX12_hears (d + 9) (0, 0) [.inr (some 47), .inl (gX G ((v3 + 1).toNatClampNeg)), .inl (gX G ((v3 + 2).toNatClampNeg)), .inl (gX G ((v3 + 3).toNatClampNeg))] h117 (fun r h122 => ∃ x123, r = some (.inl x123) ∧ mSk h122 ∧ ((x118 = x123 → mW G kL_law (d + 10) (b1 + 6, b2 + 5242) 18 [some (.inr (some 0)), some (.inr (some 8)), some (.inr (some 47)), some (.inl (v3 + 7))] [] h122 Q) ∧ (¬ x118 = x123 → Q (some (.inl 0)) h122))))) ∧ (((gX G v3.toNatClampNeg) &&& 31) = 10 → vp_in (v3 + 1) (gN G) ∧ vp_in (v3 + 2) (gN G) ∧ mC G kX11_echo (d + 9) (3, 518) [.inr (some 8), .inl (gX G ((v3 + 1).toNatClampNeg)), .inl (gX G ((v3 + 2).toNatClampNeg))] h (fun r h127 => ∃ x128, r = some (.inl x128) ∧ mSk h127 ∧ vp_in (v3 + 1) (gN G) ∧ vp_in (v3 + 2) (gN G) ∧ mC G kX12_echo (d + 9) (0, 0) [.inr (some 47), .inl (gX G ((v3 + 1).toNatClampNeg)), .inl (gX G ((v3 + 2).toNatClampNeg))] h127 (fun r h131 => ∃ x132, r = some (.inl x132) ∧ mSk h131 ∧ ((x128 = x132 → mW G kL_law (d + 10) (b1 + 6, b2 + 5242) 18 [some (.inr (some 0)), some (.inr (some 8)), some (.inr (some 47)), some (.inl (v3 + 7))] [] h131 Q) ∧ (¬ x128 = x132 → Q (some (.inl 0)) h131))))) ∧ (((gX G v3.toNatClampNeg) &&& 31) = 11 → mC G kX11_back (d + 9) (0, 0) [.inr (some 8)] h (fun r h134 => ∃ x135, r = some (.inl x135) ∧ mSk h134 ∧ mC G kX12_back (d + 9) (0, 0) [.inr (some 47)] h134 (fun r h136 => ∃ x137, r = some (.inl x137) ∧ mSk h136 ∧ ((x135 = x137 → mW G kL_law (d + 10) (b1 + 9, b2 + 5760) 18 [some (.inr (some 0)), some (.inr (some 8)), some (.inr (some 47)), some (.inl (v3 + 7))] [] h136 Q) ∧ (¬ x135 = x137 → Q (some (.inl 0)) h136))))) ∧ (((gX G v3.toNatClampNeg) &&& 31) = 12 → vp_in (v3 + 1) (gN G) ∧ mC G kX11_wrong (d + 9) (0, 0) [.inr (some 8), .inl (gX G ((v3 + 1).toNatClampNeg))] h (fun r h140 => ∃ x141, r = some (.inl x141) ∧ mSk h140 ∧ vp_in (v3 + 1) (gN G) ∧ mC G kX12_wrong (d + 9) (0, 0) [.inr (some 47), .inl (gX G ((v3 + 1).toNatClampNeg))] h140 (fun r h143 => ∃ x144, r = some (.inl x144) ∧ mSk h143 ∧ ((x141 = x144 → mW G kL_law (d + 10) (b1 + 9, b2 + 5760) 18 [some (.inr (some 0)), some (.inr (some 8)), some (.inr (some 47)), some (.inl (v3 + 7))] [] h143 Q) ∧ (¬ x141 = x144 → Q (some (.inl 0)) h143))))) ∧ (((gX G v3.toNatClampNeg) &&& 31) = 13 → vp_in (v3 + 1) (gN G) ∧ vp_in (v3 + 2) (gN G) ∧ vp_in (v3 + 3) (gN G) ∧ vp_in (v3 + 4) (gN G) ∧ mC G kX11_box (d + 9) (0, 0) [.inr (some 8), .inl (gX G ((v3 + 1).toNatClampNeg)), .inl (gX G ((v3 + 2).toNatClampNeg)), .inl (gX G ((v3 + 3).toNatClampNeg)), .inl (gX G ((v3 + 4).toNatClampNeg))] h (fun r h150 => ∃ x151, r = some (.inl x151) ∧ mSk h150 ∧ vp_in (v3 + 1) (gN G) ∧ vp_in (v3 + 2) (gN G) ∧ vp_in (v3 + 3) (gN G) ∧ vp_in (v3 + 4) (gN G) ∧ mC G kX12_box (d + 9) (0, 0) [.inr (some 47), .inl (gX G ((v3 + 1).toNatClampNeg)), .inl (gX G ((v3 + 2).toNatClampNeg)), .inl (gX G ((v3 + 3).toNatClampNeg)), .inl (gX G ((v3 + 4).toNatClampNeg))] h150 (fun r h156 => ∃ x157, r = some (.inl x157) ∧ mSk h156 ∧ ((x151 = x157 → mW G kL_law (d + 10) (b1 + 9, b2 + 5760) 18 [some (.inr (some 0)), some (.inr (some 8)), some (.inr (some 47)), some (.inl (v3 + 7))] [] h156 Q) ∧ (¬ x151 = x157 → Q (some (.inl 0)) h156))))) ∧ (((gX G v3.toNatClampNeg) &&& 31) = 14 → vp_in (v3 + 1) (gN G) ∧ mC G kX11_fits (d + 9) (0, 0) [.inr (some 8), .inl (gX G ((v3 + 1).toNatClampNeg))] h (fun r h160 => ∃ x161, r = some (.inl x161) ∧ mSk h160 ∧ vp_in (v3 + 1) (gN G) ∧ mC G kX12_fits (d + 9) (0, 0) [.inr (some 47), .inl (gX G ((v3 + 1).toNatClampNeg))] h160 (fun r h163 => ∃ x164, r = some (.inl x164) ∧ mSk h163 ∧ ((x161 = x164 → mW G kL_law (d + 10) (b1 + 9, b2 + 5760) 18 [some (.inr (some 0)), some (.inr (some 8)), some (.inr (some 47)), some (.inl (v3 + 7))] [] h163 Q) ∧ (¬ x161 = x164 → Q (some (.inl 0)) h163))))) ∧ (((gX G v3.toNatClampNeg) &&& 31) = 15 → vp_in (v3 + 1) (gN G) ∧ mC G kX11_firstBad (d + 9) (0, 0) [.inr (some 8), .inl (gX G ((v3 + 1).toNatClampNeg))] h (fun r h167 => ∃ x168, r = some (.inl x168) ∧ mSk h167 ∧ vp_in (v3 + 1) (gN G) ∧ mC G kX12_firstBad (d + 9) (0, 0) [.inr (some 47), .inl (gX G ((v3 + 1).toNatClampNeg))] h167 (fun r h170 => ∃ x171, r = some (.inl x171) ∧ mSk h170 ∧ ((x168 = x171 → mW G kL_law (d + 10) (b1 + 9, b2 + 5760) 18 [some (.inr (some 0)), some (.inr (some 8)), some (.inr (some 47)), some (.inl (v3 + 7))] [] h170 Q) ∧ (¬ x168 = x171 → Q (some (.inl 0)) h170))))) ∧ (((gX G v3.toNatClampNeg) &&& 31) = 16 → vp_in (v3 + 1) (gN G) ∧ vp_in (v3 + 2) (gN G) ∧ mC G kX11_possible (d + 9) (0, 0) [.inr (some 8), .inl (gX G ((v3 + 1).toNatClampNeg)), .inl (gX G ((v3 + 2).toNatClampNeg))] h (fun r h175 => ∃ x176, r = some (.inl x176) ∧ mSk h175 ∧ vp_in (v3 + 1) (gN G) ∧ vp_in (v3 + 2) (gN G) ∧ mC G kX12_possible (d + 9) (0, 0) [.inr (some 47), .inl (gX G ((v3 + 1).toNatClampNeg)), .inl (gX G ((v3 + 2).toNatClampNeg))] h175 (fun r h179 => ∃ x180, r = some (.inl x180) ∧ mSk h179 ∧ ((x176 = x180 → mW G kL_law (d + 10) (b1 + 9, b2 + 5760) 18 [some (.inr (some 0)), some (.inr (some 8)), some (.inr (some 47)), some (.inl (v3 + 7))] [] h179 Q) ∧ (¬ x176 = x180 → Q (some (.inl 0)) h179))))) ∧ (((gX G v3.toNatClampNeg) &&& 31) = 17 → vp_in (v3 + 1) (gN G) ∧ vp_in (v3 + 2) (gN G) ∧ vp_in (v3 + 3) (gN G) ∧ vp_in (v3 + 4) (gN G) ∧ mC G kX11_isPossible (d + 9) (0, 0) [.inr (some 8), .inl (gX G ((v3 + 1).toNatClampNeg)), .inl (gX G ((v3 + 2).toNatClampNeg)), .inl (gX G ((v3 + 3).toNatClampNeg)), .inl (gX G ((v3 + 4).toNatClampNeg))] h (fun r h186 => ∃ x187, r = some (.inl x187) ∧ mSk h186 ∧ vp_in (v3 + 1) (gN G) ∧ vp_in (v3 + 2) (gN G) ∧ vp_in (v3 + 3) (gN G) ∧ vp_in (v3 + 4) (gN G) ∧ mC G kX12_isPossible (d + 9) (0, 0) [.inr (some 47), .inl (gX G ((v3 + 1).toNatClampNeg)), .inl (gX G ((v3 + 2).toNatClampNeg)), .inl (gX G ((v3 + 3).toNatClampNeg)), .inl (gX G ((v3 + 4).toNatClampNeg))] h186 (fun r h192 => ∃ x193, r = some (.inl x193) ∧ mSk h192 ∧ ((x187 = x193 → mW G kL_law (d + 10) (b1 + 9, b2 + 5760) 18 [some (.inr (some 0)), some (.inr (some 8)), some (.inr (some 47)), some (.inl (v3 + 7))] [] h192 Q) ∧ (¬ x187 = x193 → Q (some (.inl 0)) h192))))) ∧ (((gX G v3.toNatClampNeg) &&& 31) = 18 → vp_in (v3 + 1) (gN G) ∧ vp_in (v3 + 2) (gN G) ∧ vp_in (v3 + 3) (gN G) ∧ mC G kX11_sure (d + 9) (0, 0) [.inr (some 8), .inl (gX G ((v3 + 1).toNatClampNeg)), .inl (gX G ((v3 + 2).toNatClampNeg)), .inl (gX G ((v3 + 3).toNatClampNeg))] h (fun r h198 => ∃ x199, r = some (.inl x199) ∧ mSk h198 ∧ vp_in (v3 + 1) (gN G) ∧ vp_in (v3 + 2) (gN G) ∧ vp_in (v3 + 3) (gN G) ∧ mC G kX12_sure (d + 9) (0, 0) [.inr (some 47), .inl (gX G ((v3 + 1).toNatClampNeg)), .inl (gX G ((v3 + 2).toNatClampNeg)), .inl (gX G ((v3 + 3).toNatClampNeg))] h198 (fun r h203 => ∃ x204, r = some (.inl x204) ∧ mSk h203 ∧ ((x199 = x204 → mW G kL_law (d + 10) (b1 + 9, b2 + 5760) 18 [some (.inr (some 0)), some (.inr (some 8)), some (.inr (some 47)), some (.inl (v3 + 7))] [] h203 Q) ∧ (¬ x199 = x204 → Q (some (.inl 0)) h203))))) ∧ (((gX G v3.toNatClampNeg) &&& 31) = 19 → vp_in (v3 + 1) (gN G) ∧ vp_in (v3 + 2) (gN G) ∧ vp_in (v3 + 3) (gN G) ∧ vp_in (v3 + 4) (gN G) ∧ mC G kX11_choice (d + 9) (0, 0) [.inr (some 8), .inl (gX G ((v3 + 1).toNatClampNeg)), .inl (gX G ((v3 + 2).toNatClampNeg)), .inl (gX G ((v3 + 3).toNatClampNeg)), .inl (gX G ((v3 + 4).toNatClampNeg))] h (fun r h210 => ∃ x211, r = some (.inl x211) ∧ mSk h210 ∧ vp_in (v3 + 1) (gN G) ∧ vp_in (v3 + 2) (gN G) ∧ vp_in (v3 + 3) (gN G) ∧ vp_in (v3 + 4) (gN G) ∧ mC G kX12_choice (d + 9) (0, 0) [.inr (some 47), .inl (gX G ((v3 + 1).toNatClampNeg)), .inl (gX G ((v3 + 2).toNatClampNeg)), .inl (gX G ((v3 + 3).toNatClampNeg)), .inl (gX G ((v3 + 4).toNatClampNeg))] h210 (fun r h216 => ∃ x217, r = some (.inl x217) ∧ mSk h216 ∧ ((x211 = x217 → mW G kL_law (d + 10) (b1 + 9, b2 + 5760) 18 [some (.inr (some 0)), some (.inr (some 8)), some (.inr (some 47)), some (.inl (v3 + 7))] [] h216 Q) ∧ (¬ x211 = x217 → Q (some (.inl 0)) h216))))) ∧ (((gX G v3.toNatClampNeg) &&& 31) = 20 → vp_in (v3 + 1) (gN G) ∧ mC G kX11_next (d + 9) (0, 0) [.inr (some 8), .inl (gX G ((v3 + 1).toNatClampNeg))] h (fun r h220 => ∃ x221, r = some (.inl x221) ∧ mSk h220 ∧ vp_in (v3 + 1) (gN G) ∧ mC G kX12_next (d + 9) (0, 0) [.inr (some 47), .inl (gX G ((v3 + 1).toNatClampNeg))] h220 (fun r h223 => ∃ x224, r = some (.inl x224) ∧ mSk h223 ∧ ((x221 = x224 → mW G kL_law (d + 10) (b1 + 9, b2 + 5760) 18 [some (.inr (some 0)), some (.inr (some 8)), some (.inr (some 47)), some (.inl (v3 + 7))] [] h223 Q) ∧ (¬ x221 = x224 → Q (some (.inl 0)) h223))))) ∧ (((gX G v3.toNatClampNeg) &&& 31) = 21 → vp_in (v3 + 1) (gN G) ∧ mC G kX11_ahead (d + 9) (0, 0) [.inr (some 8), .inl (gX G ((v3 + 1).toNatClampNeg))] h (fun r h227 => ∃ x228, r = some (.inl x228) ∧ mSk h227 ∧ vp_in (v3 + 1) (gN G) ∧ mC G kX12_ahead (d + 9) (0, 0) [.inr (some 47), .inl (gX G ((v3 + 1).toNatClampNeg))] h227 (fun r h230 => ∃ x231, r = some (.inl x231) ∧ mSk h230 ∧ ((x228 = x231 → mW G kL_law (d + 10) (b1 + 9, b2 + 5760) 18 [some (.inr (some 0)), some (.inr (some 8)), some (.inr (some 47)), some (.inl (v3 + 7))] [] h230 Q) ∧ (¬ x228 = x231 → Q (some (.inl 0)) h230))))) ∧ (((gX G v3.toNatClampNeg) &&& 31) = 22 → vp_in (v3 + 1) (gN G) ∧ vp_in (v3 + 2) (gN G) ∧ vp_in (v3 + 3) (gN G) ∧ vp_in (v3 + 4) (gN G) ∧ vp_in (v3 + 5) (gN G) ∧ mC G kX11_wayIn (d + 9) (0, 0) [.inr (some 8), .inl (gX G ((v3 + 1).toNatClampNeg)), .inl (gX G ((v3 + 2).toNatClampNeg)), .inl (gX G ((v3 + 3).toNatClampNeg)), .inl (gX G ((v3 + 4).toNatClampNeg)), .inl (gX G ((v3 + 5).toNatClampNeg))] h (fun r h238 => ∃ x239, r = some (.inl x239) ∧ mSk h238 ∧ vp_in (v3 + 1) (gN G) ∧ vp_in (v3 + 2) (gN G) ∧ vp_in (v3 + 3) (gN G) ∧ vp_in (v3 + 4) (gN G) ∧ vp_in (v3 + 5) (gN G) ∧ mC G kX12_wayIn (d + 9) (0, 0) [.inr (some 47), .inl (gX G ((v3 + 1).toNatClampNeg)), .inl (gX G ((v3 + 2).toNatClampNeg)), .inl (gX G ((v3 + 3).toNatClampNeg)), .inl (gX G ((v3 + 4).toNatClampNeg)), .inl (gX G ((v3 + 5).toNatClampNeg))] h238 (fun r h245 => ∃ x246, r = some (.inl x246) ∧ mSk h245 ∧ ((x239 = x246 → mW G kL_law (d + 10) (b1 + 9, b2 + 5760) 18 [some (.inr (some 0)), some (.inr (some 8)), some (.inr (some 47)), some (.inl (v3 + 7))] [] h245 Q) ∧ (¬ x239 = x246 → Q (some (.inl 0)) h245))))) ∧ (((gX G v3.toNatClampNeg) &&& 31) = 23 → vp_in (v3 + 1) (gN G) ∧ vp_in (v3 + 2) (gN G) ∧ vp_in (v3 + 3) (gN G) ∧ mC G kX11_pool (d + 9) (0, 0) [.inr (some 8), .inl (gX G ((v3 + 1).toNatClampNeg)), .inl (gX G ((v3 + 2).toNatClampNeg)), .inl (gX G ((v3 + 3).toNatClampNeg))] h (fun r h251 => ∃ x252, r = some (.inl x252) ∧ mSk h251 ∧ vp_in (v3 + 1) (gN G) ∧ vp_in (v3 + 2) (gN G) ∧ vp_in (v3 + 3) (gN G) ∧ mC G kX12_pool (d + 9) (0, 0) [.inr (some 47), .inl (gX G ((v3 + 1).toNatClampNeg)), .inl (gX G ((v3 + 2).toNatClampNeg)), .inl (gX G ((v3 + 3).toNatClampNeg))] h251 (fun r h256 => ∃ x257, r = some (.inl x257) ∧ mSk h256 ∧ ((x252 = x257 → mW G kL_law (d + 10) (b1 + 9, b2 + 5760) 18 [some (.inr (some 0)), some (.inr (some 8)), some (.inr (some 47)), some (.inl (v3 + 7))] [] h256 Q) ∧ (¬ x252 = x257 → Q (some (.inl 0)) h256))))) ∧ (((gX G v3.toNatClampNeg) &&& 31) = 24 → vp_in (v3 + 1) (gN G) ∧ vp_in (v3 + 2) (gN G) ∧ mC G kX11_check (d + 9) (0, 0) [.inr (some 8), .inl (gX G ((v3 + 1).toNatClampNeg)), .inl (gX G ((v3 + 2).toNatClampNeg))] h (fun r h261 => ∃ x262, r = some (.inl x262) ∧ mSk h261 ∧ vp_in (v3 + 1) (gN G) ∧ vp_in (v3 + 2) (gN G) ∧ mC G kX12_check (d + 9) (0, 0) [.inr (some 47), .inl (gX G ((v3 + 1).toNatClampNeg)), .inl (gX G ((v3 + 2).toNatClampNeg))] h261 (fun r h265 => ∃ x266, r = some (.inl x266) ∧ mSk h265 ∧ ((x262 = x266 → mW G kL_law (d + 10) (b1 + 9, b2 + 5760) 18 [some (.inr (some 0)), some (.inr (some 8)), some (.inr (some 47)), some (.inl (v3 + 7))] [] h265 Q) ∧ (¬ x262 = x266 → Q (some (.inl 0)) h265))))) ∧ (((gX G v3.toNatClampNeg) &&& 31) = 25 → vp_in (v3 + 1) (gN G) ∧ mC G kX11_count (d + 9) (0, 0) [.inr (some 8), .inl (gX G ((v3 + 1).toNatClampNeg))] h (fun r h269 => ∃ x270, r = some (.inl x270) ∧ mSk h269 ∧ vp_in (v3 + 1) (gN G) ∧ mC G kX12_count (d + 9) (0, 0) [.inr (some 47), .inl (gX G ((v3 + 1).toNatClampNeg))] h269 (fun r h272 => ∃ x273, r = some (.inl x273) ∧ mSk h272 ∧ ((x270 = x273 → mW G kL_law (d + 10) (b1 + 9, b2 + 5760) 18 [some (.inr (some 0)), some (.inr (some 8)), some (.inr (some 47)), some (.inl (v3 + 7))] [] h272 Q) ∧ (¬ x270 = x273 → Q (some (.inl 0)) h272))))))))) : mW G kL_law (d + 10) (b1 + 9, b2 + 5760) 18 [some (.inr (some 0)), some (.inr (some 8)), some (.inr (some 47)), some (.inl v3)] [] h Q := by
  refine mw_iload_n (pc' := 19) dL_law_18 rfl rfl ?_
  refine mw_aload_n (pc' := 20) dL_law_19 rfl rfl ?_
  refine mw_slen (pc' := 21) dL_law_20 rfl ?_
  refine mw_bipush (pc' := 23) (v := 7) dL_law_21 rfl (by decide) ?_
  refine mw_isub (pc' := 24) dL_law_23 rfl ?_
  refine mw_icmp_gt (pc' := 27) (tgt := 1208) dL_law_24 rfl (by decide) (fun c275 => ?_) (fun c275 => ?_)
  · replace K := K.1 c275
    refine mw_iconst (pc' := 1209) (v := 1) dL_law_1208 rfl (by decide) ?_
    exact mw_iret dL_law_1209 rfl (by decide) K
  · replace K := K.2 c275
    refine mw_aload_n (pc' := 28) dL_law_27 rfl rfl ?_
    refine mw_iload_n (pc' := 29) dL_law_28 rfl rfl ?_
    obtain ⟨o1, K⟩ := K
    refine mw_sld (pc' := 30) dL_law_29 rfl o1 ?_
    refine mw_bipush (pc' := 32) (v := 31) dL_law_30 rfl (by decide) ?_
    refine mw_iand (pc' := 33) dL_law_32 rfl ?_
    by_cases c2 : ((gX G v3.toNatClampNeg) &&& 31).toInt < 0 ∨ 25 < ((gX G v3.toNatClampNeg) &&& 31).toInt
    · replace K := K.1 c2
      refine mw_tableOut (tgt := 1202) dL_law_33 c2 (by decide) ?_
      refine mw_iinc (pc' := 1205) (v := v3 + 7) dL_law_1202 rfl (by decide) rfl rfl ?_
      show mW _ _ _ _ _ [some (.inr (some 0)), some (.inr (some 8)), some (.inr (some 47)), some (.inl (v3 + 7))] _ _ _
      refine mw_goto (tgt := 18) dL_law_1205 (by decide) ?_
      exact K
    · replace K := K.2
      have hv : ((gX G v3.toNatClampNeg) &&& 31) = 0 ∨ ((gX G v3.toNatClampNeg) &&& 31) = 1 ∨ ((gX G v3.toNatClampNeg) &&& 31) = 2 ∨ ((gX G v3.toNatClampNeg) &&& 31) = 3 ∨ ((gX G v3.toNatClampNeg) &&& 31) = 4 ∨ ((gX G v3.toNatClampNeg) &&& 31) = 5 ∨ ((gX G v3.toNatClampNeg) &&& 31) = 6 ∨ ((gX G v3.toNatClampNeg) &&& 31) = 7 ∨ ((gX G v3.toNatClampNeg) &&& 31) = 8 ∨ ((gX G v3.toNatClampNeg) &&& 31) = 9 ∨ ((gX G v3.toNatClampNeg) &&& 31) = 10 ∨ ((gX G v3.toNatClampNeg) &&& 31) = 11 ∨ ((gX G v3.toNatClampNeg) &&& 31) = 12 ∨ ((gX G v3.toNatClampNeg) &&& 31) = 13 ∨ ((gX G v3.toNatClampNeg) &&& 31) = 14 ∨ ((gX G v3.toNatClampNeg) &&& 31) = 15 ∨ ((gX G v3.toNatClampNeg) &&& 31) = 16 ∨ ((gX G v3.toNatClampNeg) &&& 31) = 17 ∨ ((gX G v3.toNatClampNeg) &&& 31) = 18 ∨ ((gX G v3.toNatClampNeg) &&& 31) = 19 ∨ ((gX G v3.toNatClampNeg) &&& 31) = 20 ∨ ((gX G v3.toNatClampNeg) &&& 31) = 21 ∨ ((gX G v3.toNatClampNeg) &&& 31) = 22 ∨ ((gX G v3.toNatClampNeg) &&& 31) = 23 ∨ ((gX G v3.toNatClampNeg) &&& 31) = 24 ∨ ((gX G v3.toNatClampNeg) &&& 31) = 25 := by
        rcases (show ((gX G v3.toNatClampNeg) &&& 31).toInt = 0 ∨ ((gX G v3.toNatClampNeg) &&& 31).toInt = 1 ∨ ((gX G v3.toNatClampNeg) &&& 31).toInt = 2 ∨ ((gX G v3.toNatClampNeg) &&& 31).toInt = 3 ∨ ((gX G v3.toNatClampNeg) &&& 31).toInt = 4 ∨ ((gX G v3.toNatClampNeg) &&& 31).toInt = 5 ∨ ((gX G v3.toNatClampNeg) &&& 31).toInt = 6 ∨ ((gX G v3.toNatClampNeg) &&& 31).toInt = 7 ∨ ((gX G v3.toNatClampNeg) &&& 31).toInt = 8 ∨ ((gX G v3.toNatClampNeg) &&& 31).toInt = 9 ∨ ((gX G v3.toNatClampNeg) &&& 31).toInt = 10 ∨ ((gX G v3.toNatClampNeg) &&& 31).toInt = 11 ∨ ((gX G v3.toNatClampNeg) &&& 31).toInt = 12 ∨ ((gX G v3.toNatClampNeg) &&& 31).toInt = 13 ∨ ((gX G v3.toNatClampNeg) &&& 31).toInt = 14 ∨ ((gX G v3.toNatClampNeg) &&& 31).toInt = 15 ∨ ((gX G v3.toNatClampNeg) &&& 31).toInt = 16 ∨ ((gX G v3.toNatClampNeg) &&& 31).toInt = 17 ∨ ((gX G v3.toNatClampNeg) &&& 31).toInt = 18 ∨ ((gX G v3.toNatClampNeg) &&& 31).toInt = 19 ∨ ((gX G v3.toNatClampNeg) &&& 31).toInt = 20 ∨ ((gX G v3.toNatClampNeg) &&& 31).toInt = 21 ∨ ((gX G v3.toNatClampNeg) &&& 31).toInt = 22 ∨ ((gX G v3.toNatClampNeg) &&& 31).toInt = 23 ∨ ((gX G v3.toNatClampNeg) &&& 31).toInt = 24 ∨ ((gX G v3.toNatClampNeg) &&& 31).toInt = 25 by omega) with z | z | z | z | z | z | z | z | z | z | z | z | z | z | z | z | z | z | z | z | z | z | z | z | z | z
        · exact Or.inl (m_sw (z.trans (by decide)))
        · exact Or.inr (Or.inl (m_sw (z.trans (by decide))))
        · exact Or.inr (Or.inr (Or.inl (m_sw (z.trans (by decide)))))
        · exact Or.inr (Or.inr (Or.inr (Or.inl (m_sw (z.trans (by decide))))))
        · exact Or.inr (Or.inr (Or.inr (Or.inr (Or.inl (m_sw (z.trans (by decide)))))))
        · exact Or.inr (Or.inr (Or.inr (Or.inr (Or.inr (Or.inl (m_sw (z.trans (by decide))))))))
        · exact Or.inr (Or.inr (Or.inr (Or.inr (Or.inr (Or.inr (Or.inl (m_sw (z.trans (by decide)))))))))
        · exact Or.inr (Or.inr (Or.inr (Or.inr (Or.inr (Or.inr (Or.inr (Or.inl (m_sw (z.trans (by decide))))))))))
        · exact Or.inr (Or.inr (Or.inr (Or.inr (Or.inr (Or.inr (Or.inr (Or.inr (Or.inl (m_sw (z.trans (by decide)))))))))))
        · exact Or.inr (Or.inr (Or.inr (Or.inr (Or.inr (Or.inr (Or.inr (Or.inr (Or.inr (Or.inl (m_sw (z.trans (by decide))))))))))))
        · exact Or.inr (Or.inr (Or.inr (Or.inr (Or.inr (Or.inr (Or.inr (Or.inr (Or.inr (Or.inr (Or.inl (m_sw (z.trans (by decide)))))))))))))
        · exact Or.inr (Or.inr (Or.inr (Or.inr (Or.inr (Or.inr (Or.inr (Or.inr (Or.inr (Or.inr (Or.inr (Or.inl (m_sw (z.trans (by decide))))))))))))))
        · exact Or.inr (Or.inr (Or.inr (Or.inr (Or.inr (Or.inr (Or.inr (Or.inr (Or.inr (Or.inr (Or.inr (Or.inr (Or.inl (m_sw (z.trans (by decide)))))))))))))))
        · exact Or.inr (Or.inr (Or.inr (Or.inr (Or.inr (Or.inr (Or.inr (Or.inr (Or.inr (Or.inr (Or.inr (Or.inr (Or.inr (Or.inl (m_sw (z.trans (by decide))))))))))))))))
        · exact Or.inr (Or.inr (Or.inr (Or.inr (Or.inr (Or.inr (Or.inr (Or.inr (Or.inr (Or.inr (Or.inr (Or.inr (Or.inr (Or.inr (Or.inl (m_sw (z.trans (by decide)))))))))))))))))
        · exact Or.inr (Or.inr (Or.inr (Or.inr (Or.inr (Or.inr (Or.inr (Or.inr (Or.inr (Or.inr (Or.inr (Or.inr (Or.inr (Or.inr (Or.inr (Or.inl (m_sw (z.trans (by decide))))))))))))))))))
        · exact Or.inr (Or.inr (Or.inr (Or.inr (Or.inr (Or.inr (Or.inr (Or.inr (Or.inr (Or.inr (Or.inr (Or.inr (Or.inr (Or.inr (Or.inr (Or.inr (Or.inl (m_sw (z.trans (by decide)))))))))))))))))))
        · exact Or.inr (Or.inr (Or.inr (Or.inr (Or.inr (Or.inr (Or.inr (Or.inr (Or.inr (Or.inr (Or.inr (Or.inr (Or.inr (Or.inr (Or.inr (Or.inr (Or.inr (Or.inl (m_sw (z.trans (by decide))))))))))))))))))))
        · exact Or.inr (Or.inr (Or.inr (Or.inr (Or.inr (Or.inr (Or.inr (Or.inr (Or.inr (Or.inr (Or.inr (Or.inr (Or.inr (Or.inr (Or.inr (Or.inr (Or.inr (Or.inr (Or.inl (m_sw (z.trans (by decide)))))))))))))))))))))
        · exact Or.inr (Or.inr (Or.inr (Or.inr (Or.inr (Or.inr (Or.inr (Or.inr (Or.inr (Or.inr (Or.inr (Or.inr (Or.inr (Or.inr (Or.inr (Or.inr (Or.inr (Or.inr (Or.inr (Or.inl (m_sw (z.trans (by decide))))))))))))))))))))))
        · exact Or.inr (Or.inr (Or.inr (Or.inr (Or.inr (Or.inr (Or.inr (Or.inr (Or.inr (Or.inr (Or.inr (Or.inr (Or.inr (Or.inr (Or.inr (Or.inr (Or.inr (Or.inr (Or.inr (Or.inr (Or.inl (m_sw (z.trans (by decide)))))))))))))))))))))))
        · exact Or.inr (Or.inr (Or.inr (Or.inr (Or.inr (Or.inr (Or.inr (Or.inr (Or.inr (Or.inr (Or.inr (Or.inr (Or.inr (Or.inr (Or.inr (Or.inr (Or.inr (Or.inr (Or.inr (Or.inr (Or.inr (Or.inl (m_sw (z.trans (by decide))))))))))))))))))))))))
        · exact Or.inr (Or.inr (Or.inr (Or.inr (Or.inr (Or.inr (Or.inr (Or.inr (Or.inr (Or.inr (Or.inr (Or.inr (Or.inr (Or.inr (Or.inr (Or.inr (Or.inr (Or.inr (Or.inr (Or.inr (Or.inr (Or.inr (Or.inl (m_sw (z.trans (by decide)))))))))))))))))))))))))
        · exact Or.inr (Or.inr (Or.inr (Or.inr (Or.inr (Or.inr (Or.inr (Or.inr (Or.inr (Or.inr (Or.inr (Or.inr (Or.inr (Or.inr (Or.inr (Or.inr (Or.inr (Or.inr (Or.inr (Or.inr (Or.inr (Or.inr (Or.inr (Or.inl (m_sw (z.trans (by decide))))))))))))))))))))))))))
        · exact Or.inr (Or.inr (Or.inr (Or.inr (Or.inr (Or.inr (Or.inr (Or.inr (Or.inr (Or.inr (Or.inr (Or.inr (Or.inr (Or.inr (Or.inr (Or.inr (Or.inr (Or.inr (Or.inr (Or.inr (Or.inr (Or.inr (Or.inr (Or.inr (Or.inl (m_sw (z.trans (by decide)))))))))))))))))))))))))))
        · exact Or.inr (Or.inr (Or.inr (Or.inr (Or.inr (Or.inr (Or.inr (Or.inr (Or.inr (Or.inr (Or.inr (Or.inr (Or.inr (Or.inr (Or.inr (Or.inr (Or.inr (Or.inr (Or.inr (Or.inr (Or.inr (Or.inr (Or.inr (Or.inr (Or.inr (m_sw (z.trans (by decide)))))))))))))))))))))))))))
      rcases hv with hv | hv | hv | hv | hv | hv | hv | hv | hv | hv | hv | hv | hv | hv | hv | hv | hv | hv | hv | hv | hv | hv | hv | hv | hv | hv
      · replace K := K.1 hv
        refine mw_tableIn (off := 119) (tgt := 152) dL_law_33 (by rw [hv]; decide) (by rw [hv]; decide) (by rw [hv]; rfl) (by decide) ?_
        refine mw_aload_n (pc' := 153) dL_law_152 rfl rfl ?_
        refine mw_aload_n (pc' := 154) dL_law_153 rfl rfl ?_
        refine mw_iload_n (pc' := 155) dL_law_154 rfl rfl ?_
        refine mw_iconst (pc' := 156) (v := 1) dL_law_155 rfl (by decide) ?_
        refine mw_iadd (pc' := 157) dL_law_156 rfl ?_
        obtain ⟨o3, K⟩ := K
        refine mw_sld (pc' := 158) dL_law_157 rfl o3 ?_
        refine mw_aload_n (pc' := 159) dL_law_158 rfl rfl ?_
        refine mw_iload_n (pc' := 160) dL_law_159 rfl rfl ?_
        refine mw_iconst (pc' := 161) (v := 2) dL_law_160 rfl (by decide) ?_
        refine mw_iadd (pc' := 162) dL_law_161 rfl ?_
        obtain ⟨o4, K⟩ := K
        refine mw_sld (pc' := 163) dL_law_162 rfl o4 ?_
        refine mw_aload_n (pc' := 164) dL_law_163 rfl rfl ?_
        refine mw_iload_n (pc' := 165) dL_law_164 rfl rfl ?_
        refine mw_iconst (pc' := 166) (v := 3) dL_law_165 rfl (by decide) ?_
        refine mw_iadd (pc' := 167) dL_law_166 rfl ?_
        obtain ⟨o5, K⟩ := K
        refine mw_sld (pc' := 168) dL_law_167 rfl o5 ?_
        refine mw_aload_n (pc' := 169) dL_law_168 rfl rfl ?_
        refine mw_iload_n (pc' := 170) dL_law_169 rfl rfl ?_
        refine mw_iconst (pc' := 171) (v := 4) dL_law_170 rfl (by decide) ?_
        refine mw_iadd (pc' := 172) dL_law_171 rfl ?_
        obtain ⟨o6, K⟩ := K
        refine mw_sld (pc' := 173) dL_law_172 rfl o6 ?_
        refine mw_aload_n (pc' := 174) dL_law_173 rfl rfl ?_
        refine mw_iload_n (pc' := 175) dL_law_174 rfl rfl ?_
        refine mw_iconst (pc' := 176) (v := 5) dL_law_175 rfl (by decide) ?_
        refine mw_iadd (pc' := 177) dL_law_176 rfl ?_
        obtain ⟨o7, K⟩ := K
        refine mw_sld (pc' := 178) dL_law_177 rfl o7 ?_
        refine mw_callV (pc' := 181) (b' := (0, 0)) (b1 := (b1 + 9, b2 + 5760)) (av := [.inl (gX G ((v3 + 1).toNatClampNeg)), .inl (gX G ((v3 + 2).toNatClampNeg)), .inl (gX G ((v3 + 3).toNatClampNeg)), .inl (gX G ((v3 + 4).toNatClampNeg)), .inl (gX G ((v3 + 5).toNatClampNeg))]) (rest := []) dL_law_178 rfl lkL_13 rfl rfl (Nat.le_of_ble_eq_true rfl) ⟨Nat.le_of_eq (Nat.zero_add _), Nat.le_of_eq (Nat.zero_add _)⟩ (skT_8 hS) ?_
        refine mC_mono (fun r h8 hr => ?_) K
        obtain ⟨x9, rfl, hS, K⟩ := hr
        show mW _ _ _ _ _ _ [.inl x9] _ _
        refine mw_aload_n (pc' := 182) dL_law_181 rfl rfl ?_
        refine mw_aload_n (pc' := 183) dL_law_182 rfl rfl ?_
        refine mw_iload_n (pc' := 184) dL_law_183 rfl rfl ?_
        refine mw_iconst (pc' := 185) (v := 1) dL_law_184 rfl (by decide) ?_
        refine mw_iadd (pc' := 186) dL_law_185 rfl ?_
        obtain ⟨o10, K⟩ := K
        refine mw_sld (pc' := 187) dL_law_186 rfl o10 ?_
        refine mw_aload_n (pc' := 188) dL_law_187 rfl rfl ?_
        refine mw_iload_n (pc' := 189) dL_law_188 rfl rfl ?_
        refine mw_iconst (pc' := 190) (v := 2) dL_law_189 rfl (by decide) ?_
        refine mw_iadd (pc' := 191) dL_law_190 rfl ?_
        obtain ⟨o11, K⟩ := K
        refine mw_sld (pc' := 192) dL_law_191 rfl o11 ?_
        refine mw_aload_n (pc' := 193) dL_law_192 rfl rfl ?_
        refine mw_iload_n (pc' := 194) dL_law_193 rfl rfl ?_
        refine mw_iconst (pc' := 195) (v := 3) dL_law_194 rfl (by decide) ?_
        refine mw_iadd (pc' := 196) dL_law_195 rfl ?_
        obtain ⟨o12, K⟩ := K
        refine mw_sld (pc' := 197) dL_law_196 rfl o12 ?_
        refine mw_aload_n (pc' := 198) dL_law_197 rfl rfl ?_
        refine mw_iload_n (pc' := 199) dL_law_198 rfl rfl ?_
        refine mw_iconst (pc' := 200) (v := 4) dL_law_199 rfl (by decide) ?_
        refine mw_iadd (pc' := 201) dL_law_200 rfl ?_
        obtain ⟨o13, K⟩ := K
        refine mw_sld (pc' := 202) dL_law_201 rfl o13 ?_
        refine mw_aload_n (pc' := 203) dL_law_202 rfl rfl ?_
        refine mw_iload_n (pc' := 204) dL_law_203 rfl rfl ?_
        refine mw_iconst (pc' := 205) (v := 5) dL_law_204 rfl (by decide) ?_
        refine mw_iadd (pc' := 206) dL_law_205 rfl ?_
        obtain ⟨o14, K⟩ := K
        refine mw_sld (pc' := 207) dL_law_206 rfl o14 ?_
        refine mw_callV (pc' := 210) (b' := (0, 0)) (b1 := (b1 + 9, b2 + 5760)) (av := [.inl (gX G ((v3 + 1).toNatClampNeg)), .inl (gX G ((v3 + 2).toNatClampNeg)), .inl (gX G ((v3 + 3).toNatClampNeg)), .inl (gX G ((v3 + 4).toNatClampNeg)), .inl (gX G ((v3 + 5).toNatClampNeg))]) (rest := [.inl x9]) dL_law_207 rfl lkL_17 rfl rfl (Nat.le_of_ble_eq_true rfl) ⟨Nat.le_of_eq (Nat.zero_add _), Nat.le_of_eq (Nat.zero_add _)⟩ (skT_47 hS) ?_
        refine mC_mono (fun r h15 hr => ?_) K
        obtain ⟨x16, rfl, hS, K⟩ := hr
        show mW _ _ _ _ _ _ [.inl x16, .inl x9] _ _
        refine mw_icmp_eq (pc' := 213) (tgt := 1202) dL_law_210 rfl (by decide) (fun c17 => ?_) (fun c17 => ?_)
        · replace K := K.1 c17
          refine mw_iinc (pc' := 1205) (v := v3 + 7) dL_law_1202 rfl (by decide) rfl rfl ?_
          show mW _ _ _ _ _ [some (.inr (some 0)), some (.inr (some 8)), some (.inr (some 47)), some (.inl (v3 + 7))] _ _ _
          refine mw_goto (tgt := 18) dL_law_1205 (by decide) ?_
          exact K
        · replace K := K.2 c17
          refine mw_iconst (pc' := 214) (v := 0) dL_law_213 rfl (by decide) ?_
          exact mw_iret dL_law_214 rfl (by decide) K
      · replace K := K.2.1 hv
        refine mw_tableIn (off := 182) (tgt := 215) dL_law_33 (by rw [hv]; decide) (by rw [hv]; decide) (by rw [hv]; rfl) (by decide) ?_
        refine mw_aload_n (pc' := 216) dL_law_215 rfl rfl ?_
        refine mw_aload_n (pc' := 217) dL_law_216 rfl rfl ?_
        refine mw_iload_n (pc' := 218) dL_law_217 rfl rfl ?_
        refine mw_iconst (pc' := 219) (v := 1) dL_law_218 rfl (by decide) ?_
        refine mw_iadd (pc' := 220) dL_law_219 rfl ?_
        obtain ⟨o18, K⟩ := K
        refine mw_sld (pc' := 221) dL_law_220 rfl o18 ?_
        refine mw_callV (pc' := 224) (b' := (9, 5760)) (b1 := (b1, b2)) (av := [.inl (gX G ((v3 + 1).toNatClampNeg))]) (rest := []) dL_law_221 rfl lkL_18 rfl rfl (Nat.le_of_ble_eq_true rfl) ⟨by dsimp only; omega, by dsimp only; omega⟩ (skT_8 hS) ?_
        refine mC_mono (fun r h19 hr => ?_) K
        obtain ⟨x20, rfl, hS, K⟩ := hr
        show mW _ _ _ _ _ _ [.inl x20] _ _
        refine mw_aload_n (pc' := 225) dL_law_224 rfl rfl ?_
        refine mw_aload_n (pc' := 226) dL_law_225 rfl rfl ?_
        refine mw_iload_n (pc' := 227) dL_law_226 rfl rfl ?_
        refine mw_iconst (pc' := 228) (v := 1) dL_law_227 rfl (by decide) ?_
        refine mw_iadd (pc' := 229) dL_law_228 rfl ?_
        obtain ⟨o21, K⟩ := K
        refine mw_sld (pc' := 230) dL_law_229 rfl o21 ?_
        refine mw_callV (pc' := 233) (b' := (0, 0)) (b1 := (b1, b2)) (av := [.inl (gX G ((v3 + 1).toNatClampNeg))]) (rest := [.inl x20]) dL_law_230 rfl lkL_22 rfl rfl (Nat.le_of_ble_eq_true rfl) ⟨Nat.le_of_eq (Nat.zero_add _), Nat.le_of_eq (Nat.zero_add _)⟩ (skT_47 hS) ?_
        refine mC_mono (fun r h22 hr => ?_) K
        obtain ⟨x23, rfl, hS, K⟩ := hr
        show mW _ _ _ _ _ _ [.inl x23, .inl x20] _ _
        refine mw_icmp_eq (pc' := 236) (tgt := 1202) dL_law_233 rfl (by decide) (fun c24 => ?_) (fun c24 => ?_)
        · replace K := K.1 c24
          refine mw_iinc (pc' := 1205) (v := v3 + 7) dL_law_1202 rfl (by decide) rfl rfl ?_
          show mW _ _ _ _ _ [some (.inr (some 0)), some (.inr (some 8)), some (.inr (some 47)), some (.inl (v3 + 7))] _ _ _
          refine mw_goto (tgt := 18) dL_law_1205 (by decide) ?_
          exact K
        · replace K := K.2 c24
          refine mw_iconst (pc' := 237) (v := 0) dL_law_236 rfl (by decide) ?_
          exact mw_iret dL_law_237 rfl (by decide) K
      · replace K := K.2.2.1 hv
        refine mw_tableIn (off := 205) (tgt := 238) dL_law_33 (by rw [hv]; decide) (by rw [hv]; decide) (by rw [hv]; rfl) (by decide) ?_
        refine mw_aload_n (pc' := 239) dL_law_238 rfl rfl ?_
        refine mw_aload_n (pc' := 240) dL_law_239 rfl rfl ?_
        refine mw_iload_n (pc' := 241) dL_law_240 rfl rfl ?_
        refine mw_iconst (pc' := 242) (v := 1) dL_law_241 rfl (by decide) ?_
        refine mw_iadd (pc' := 243) dL_law_242 rfl ?_
        obtain ⟨o25, K⟩ := K
        refine mw_sld (pc' := 244) dL_law_243 rfl o25 ?_
        refine mw_callV (pc' := 247) (b' := (0, 0)) (b1 := (b1 + 9, b2 + 5760)) (av := [.inl (gX G ((v3 + 1).toNatClampNeg))]) (rest := []) dL_law_244 rfl lkL_23 rfl rfl (Nat.le_of_ble_eq_true rfl) ⟨Nat.le_of_eq (Nat.zero_add _), Nat.le_of_eq (Nat.zero_add _)⟩ (skT_8 hS) ?_
        refine mC_mono (fun r h26 hr => ?_) K
        obtain ⟨x27, rfl, hS, K⟩ := hr
        show mW _ _ _ _ _ _ [.inl x27] _ _
        refine mw_aload_n (pc' := 248) dL_law_247 rfl rfl ?_
        refine mw_aload_n (pc' := 249) dL_law_248 rfl rfl ?_
        refine mw_iload_n (pc' := 250) dL_law_249 rfl rfl ?_
        refine mw_iconst (pc' := 251) (v := 1) dL_law_250 rfl (by decide) ?_
        refine mw_iadd (pc' := 252) dL_law_251 rfl ?_
        obtain ⟨o28, K⟩ := K
        refine mw_sld (pc' := 253) dL_law_252 rfl o28 ?_
        refine mw_callV (pc' := 256) (b' := (0, 0)) (b1 := (b1 + 9, b2 + 5760)) (av := [.inl (gX G ((v3 + 1).toNatClampNeg))]) (rest := [.inl x27]) dL_law_253 rfl lkL_26 rfl rfl (Nat.le_of_ble_eq_true rfl) ⟨Nat.le_of_eq (Nat.zero_add _), Nat.le_of_eq (Nat.zero_add _)⟩ (skT_47 hS) ?_
        refine mC_mono (fun r h29 hr => ?_) K
        obtain ⟨x30, rfl, hS, K⟩ := hr
        show mW _ _ _ _ _ _ [.inl x30, .inl x27] _ _
        refine mw_icmp_eq (pc' := 259) (tgt := 1202) dL_law_256 rfl (by decide) (fun c31 => ?_) (fun c31 => ?_)
        · replace K := K.1 c31
          refine mw_iinc (pc' := 1205) (v := v3 + 7) dL_law_1202 rfl (by decide) rfl rfl ?_
          show mW _ _ _ _ _ [some (.inr (some 0)), some (.inr (some 8)), some (.inr (some 47)), some (.inl (v3 + 7))] _ _ _
          refine mw_goto (tgt := 18) dL_law_1205 (by decide) ?_
          exact K
        · replace K := K.2 c31
          refine mw_iconst (pc' := 260) (v := 0) dL_law_259 rfl (by decide) ?_
          exact mw_iret dL_law_260 rfl (by decide) K
      · replace K := K.2.2.2.1 hv
        refine mw_tableIn (off := 228) (tgt := 261) dL_law_33 (by rw [hv]; decide) (by rw [hv]; decide) (by rw [hv]; rfl) (by decide) ?_
        refine mw_aload_n (pc' := 262) dL_law_261 rfl rfl ?_
        refine mw_aload_n (pc' := 263) dL_law_262 rfl rfl ?_
        refine mw_iload_n (pc' := 264) dL_law_263 rfl rfl ?_
        refine mw_iconst (pc' := 265) (v := 1) dL_law_264 rfl (by decide) ?_
        refine mw_iadd (pc' := 266) dL_law_265 rfl ?_
        obtain ⟨o32, K⟩ := K
        refine mw_sld (pc' := 267) dL_law_266 rfl o32 ?_
        refine mw_aload_n (pc' := 268) dL_law_267 rfl rfl ?_
        refine mw_iload_n (pc' := 269) dL_law_268 rfl rfl ?_
        refine mw_iconst (pc' := 270) (v := 2) dL_law_269 rfl (by decide) ?_
        refine mw_iadd (pc' := 271) dL_law_270 rfl ?_
        obtain ⟨o33, K⟩ := K
        refine mw_sld (pc' := 272) dL_law_271 rfl o33 ?_
        refine mw_aload_n (pc' := 273) dL_law_272 rfl rfl ?_
        refine mw_iload_n (pc' := 274) dL_law_273 rfl rfl ?_
        refine mw_iconst (pc' := 275) (v := 3) dL_law_274 rfl (by decide) ?_
        refine mw_iadd (pc' := 276) dL_law_275 rfl ?_
        obtain ⟨o34, K⟩ := K
        refine mw_sld (pc' := 277) dL_law_276 rfl o34 ?_
        refine mw_callV (pc' := 280) (b' := (9, 5760)) (b1 := (b1, b2)) (av := [.inl (gX G ((v3 + 1).toNatClampNeg)), .inl (gX G ((v3 + 2).toNatClampNeg)), .inl (gX G ((v3 + 3).toNatClampNeg))]) (rest := []) dL_law_277 rfl lkL_27 rfl rfl (Nat.le_of_ble_eq_true rfl) ⟨by dsimp only; omega, by dsimp only; omega⟩ (skT_8 hS) ?_
        refine mC_mono (fun r h35 hr => ?_) K
        obtain ⟨x36, rfl, hS, K⟩ := hr
        show mW _ _ _ _ _ _ [.inl x36] _ _
        refine mw_aload_n (pc' := 281) dL_law_280 rfl rfl ?_
        refine mw_aload_n (pc' := 282) dL_law_281 rfl rfl ?_
        refine mw_iload_n (pc' := 283) dL_law_282 rfl rfl ?_
        refine mw_iconst (pc' := 284) (v := 1) dL_law_283 rfl (by decide) ?_
        refine mw_iadd (pc' := 285) dL_law_284 rfl ?_
        obtain ⟨o37, K⟩ := K
        refine mw_sld (pc' := 286) dL_law_285 rfl o37 ?_
        refine mw_aload_n (pc' := 287) dL_law_286 rfl rfl ?_
        refine mw_iload_n (pc' := 288) dL_law_287 rfl rfl ?_
        refine mw_iconst (pc' := 289) (v := 2) dL_law_288 rfl (by decide) ?_
        refine mw_iadd (pc' := 290) dL_law_289 rfl ?_
        obtain ⟨o38, K⟩ := K
        refine mw_sld (pc' := 291) dL_law_290 rfl o38 ?_
        refine mw_aload_n (pc' := 292) dL_law_291 rfl rfl ?_
        refine mw_iload_n (pc' := 293) dL_law_292 rfl rfl ?_
        refine mw_iconst (pc' := 294) (v := 3) dL_law_293 rfl (by decide) ?_
        refine mw_iadd (pc' := 295) dL_law_294 rfl ?_
        obtain ⟨o39, K⟩ := K
        refine mw_sld (pc' := 296) dL_law_295 rfl o39 ?_
        refine mw_callV (pc' := 299) (b' := (0, 0)) (b1 := (b1, b2)) (av := [.inl (gX G ((v3 + 1).toNatClampNeg)), .inl (gX G ((v3 + 2).toNatClampNeg)), .inl (gX G ((v3 + 3).toNatClampNeg))]) (rest := [.inl x36]) dL_law_296 rfl lkL_31 rfl rfl (Nat.le_of_ble_eq_true rfl) ⟨Nat.le_of_eq (Nat.zero_add _), Nat.le_of_eq (Nat.zero_add _)⟩ (skT_47 hS) ?_
        refine mC_mono (fun r h40 hr => ?_) K
        obtain ⟨x41, rfl, hS, K⟩ := hr
        show mW _ _ _ _ _ _ [.inl x41, .inl x36] _ _
        refine mw_icmp_eq (pc' := 302) (tgt := 1202) dL_law_299 rfl (by decide) (fun c42 => ?_) (fun c42 => ?_)
        · replace K := K.1 c42
          refine mw_iinc (pc' := 1205) (v := v3 + 7) dL_law_1202 rfl (by decide) rfl rfl ?_
          show mW _ _ _ _ _ [some (.inr (some 0)), some (.inr (some 8)), some (.inr (some 47)), some (.inl (v3 + 7))] _ _ _
          refine mw_goto (tgt := 18) dL_law_1205 (by decide) ?_
          exact K
        · replace K := K.2 c42
          refine mw_iconst (pc' := 303) (v := 0) dL_law_302 rfl (by decide) ?_
          exact mw_iret dL_law_303 rfl (by decide) K
      · replace K := K.2.2.2.2.1 hv
        refine mw_tableIn (off := 271) (tgt := 304) dL_law_33 (by rw [hv]; decide) (by rw [hv]; decide) (by rw [hv]; rfl) (by decide) ?_
        refine mw_aload_n (pc' := 305) dL_law_304 rfl rfl ?_
        refine mw_aload_n (pc' := 306) dL_law_305 rfl rfl ?_
        refine mw_iload_n (pc' := 307) dL_law_306 rfl rfl ?_
        refine mw_iconst (pc' := 308) (v := 1) dL_law_307 rfl (by decide) ?_
        refine mw_iadd (pc' := 309) dL_law_308 rfl ?_
        obtain ⟨o43, K⟩ := K
        refine mw_sld (pc' := 310) dL_law_309 rfl o43 ?_
        refine mw_aload_n (pc' := 311) dL_law_310 rfl rfl ?_
        refine mw_iload_n (pc' := 312) dL_law_311 rfl rfl ?_
        refine mw_iconst (pc' := 313) (v := 2) dL_law_312 rfl (by decide) ?_
        refine mw_iadd (pc' := 314) dL_law_313 rfl ?_
        obtain ⟨o44, K⟩ := K
        refine mw_sld (pc' := 315) dL_law_314 rfl o44 ?_
        refine mw_aload_n (pc' := 316) dL_law_315 rfl rfl ?_
        refine mw_iload_n (pc' := 317) dL_law_316 rfl rfl ?_
        refine mw_iconst (pc' := 318) (v := 3) dL_law_317 rfl (by decide) ?_
        refine mw_iadd (pc' := 319) dL_law_318 rfl ?_
        obtain ⟨o45, K⟩ := K
        refine mw_sld (pc' := 320) dL_law_319 rfl o45 ?_
        refine mw_callV (pc' := 323) (b' := (0, 0)) (b1 := (b1 + 9, b2 + 5760)) (av := [.inl (gX G ((v3 + 1).toNatClampNeg)), .inl (gX G ((v3 + 2).toNatClampNeg)), .inl (gX G ((v3 + 3).toNatClampNeg))]) (rest := []) dL_law_320 rfl lkL_32 rfl rfl (Nat.le_of_ble_eq_true rfl) ⟨Nat.le_of_eq (Nat.zero_add _), Nat.le_of_eq (Nat.zero_add _)⟩ (skT_8 hS) ?_
        refine mC_mono (fun r h46 hr => ?_) K
        obtain ⟨x47, rfl, hS, K⟩ := hr
        show mW _ _ _ _ _ _ [.inl x47] _ _
        refine mw_aload_n (pc' := 324) dL_law_323 rfl rfl ?_
        refine mw_aload_n (pc' := 325) dL_law_324 rfl rfl ?_
        refine mw_iload_n (pc' := 326) dL_law_325 rfl rfl ?_
        refine mw_iconst (pc' := 327) (v := 1) dL_law_326 rfl (by decide) ?_
        refine mw_iadd (pc' := 328) dL_law_327 rfl ?_
        obtain ⟨o48, K⟩ := K
        refine mw_sld (pc' := 329) dL_law_328 rfl o48 ?_
        refine mw_aload_n (pc' := 330) dL_law_329 rfl rfl ?_
        refine mw_iload_n (pc' := 331) dL_law_330 rfl rfl ?_
        refine mw_iconst (pc' := 332) (v := 2) dL_law_331 rfl (by decide) ?_
        refine mw_iadd (pc' := 333) dL_law_332 rfl ?_
        obtain ⟨o49, K⟩ := K
        refine mw_sld (pc' := 334) dL_law_333 rfl o49 ?_
        refine mw_aload_n (pc' := 335) dL_law_334 rfl rfl ?_
        refine mw_iload_n (pc' := 336) dL_law_335 rfl rfl ?_
        refine mw_iconst (pc' := 337) (v := 3) dL_law_336 rfl (by decide) ?_
        refine mw_iadd (pc' := 338) dL_law_337 rfl ?_
        obtain ⟨o50, K⟩ := K
        refine mw_sld (pc' := 339) dL_law_338 rfl o50 ?_
        refine mw_callV (pc' := 342) (b' := (0, 0)) (b1 := (b1 + 9, b2 + 5760)) (av := [.inl (gX G ((v3 + 1).toNatClampNeg)), .inl (gX G ((v3 + 2).toNatClampNeg)), .inl (gX G ((v3 + 3).toNatClampNeg))]) (rest := [.inl x47]) dL_law_339 rfl lkL_35 rfl rfl (Nat.le_of_ble_eq_true rfl) ⟨Nat.le_of_eq (Nat.zero_add _), Nat.le_of_eq (Nat.zero_add _)⟩ (skT_47 hS) ?_
        refine mC_mono (fun r h51 hr => ?_) K
        obtain ⟨x52, rfl, hS, K⟩ := hr
        show mW _ _ _ _ _ _ [.inl x52, .inl x47] _ _
        refine mw_icmp_eq (pc' := 345) (tgt := 1202) dL_law_342 rfl (by decide) (fun c53 => ?_) (fun c53 => ?_)
        · replace K := K.1 c53
          refine mw_iinc (pc' := 1205) (v := v3 + 7) dL_law_1202 rfl (by decide) rfl rfl ?_
          show mW _ _ _ _ _ [some (.inr (some 0)), some (.inr (some 8)), some (.inr (some 47)), some (.inl (v3 + 7))] _ _ _
          refine mw_goto (tgt := 18) dL_law_1205 (by decide) ?_
          exact K
        · replace K := K.2 c53
          refine mw_iconst (pc' := 346) (v := 0) dL_law_345 rfl (by decide) ?_
          exact mw_iret dL_law_346 rfl (by decide) K
      · replace K := K.2.2.2.2.2.1 hv
        refine mw_tableIn (off := 314) (tgt := 347) dL_law_33 (by rw [hv]; decide) (by rw [hv]; decide) (by rw [hv]; rfl) (by decide) ?_
        refine mw_aload_n (pc' := 348) dL_law_347 rfl rfl ?_
        refine mw_aload_n (pc' := 349) dL_law_348 rfl rfl ?_
        refine mw_iload_n (pc' := 350) dL_law_349 rfl rfl ?_
        refine mw_iconst (pc' := 351) (v := 1) dL_law_350 rfl (by decide) ?_
        refine mw_iadd (pc' := 352) dL_law_351 rfl ?_
        obtain ⟨o54, K⟩ := K
        refine mw_sld (pc' := 353) dL_law_352 rfl o54 ?_
        refine mw_aload_n (pc' := 354) dL_law_353 rfl rfl ?_
        refine mw_iload_n (pc' := 355) dL_law_354 rfl rfl ?_
        refine mw_iconst (pc' := 356) (v := 2) dL_law_355 rfl (by decide) ?_
        refine mw_iadd (pc' := 357) dL_law_356 rfl ?_
        obtain ⟨o55, K⟩ := K
        refine mw_sld (pc' := 358) dL_law_357 rfl o55 ?_
        refine mw_aload_n (pc' := 359) dL_law_358 rfl rfl ?_
        refine mw_iload_n (pc' := 360) dL_law_359 rfl rfl ?_
        refine mw_iconst (pc' := 361) (v := 3) dL_law_360 rfl (by decide) ?_
        refine mw_iadd (pc' := 362) dL_law_361 rfl ?_
        obtain ⟨o56, K⟩ := K
        refine mw_sld (pc' := 363) dL_law_362 rfl o56 ?_
        refine mw_aload_n (pc' := 364) dL_law_363 rfl rfl ?_
        refine mw_iload_n (pc' := 365) dL_law_364 rfl rfl ?_
        refine mw_iconst (pc' := 366) (v := 4) dL_law_365 rfl (by decide) ?_
        refine mw_iadd (pc' := 367) dL_law_366 rfl ?_
        obtain ⟨o57, K⟩ := K
        refine mw_sld (pc' := 368) dL_law_367 rfl o57 ?_
        refine mw_aload_n (pc' := 369) dL_law_368 rfl rfl ?_
        refine mw_iload_n (pc' := 370) dL_law_369 rfl rfl ?_
        refine mw_iconst (pc' := 371) (v := 5) dL_law_370 rfl (by decide) ?_
        refine mw_iadd (pc' := 372) dL_law_371 rfl ?_
        obtain ⟨o58, K⟩ := K
        refine mw_sld (pc' := 373) dL_law_372 rfl o58 ?_
        refine mw_callV (pc' := 376) (b' := (0, 0)) (b1 := (b1 + 9, b2 + 5760)) (av := [.inl (gX G ((v3 + 1).toNatClampNeg)), .inl (gX G ((v3 + 2).toNatClampNeg)), .inl (gX G ((v3 + 3).toNatClampNeg)), .inl (gX G ((v3 + 4).toNatClampNeg)), .inl (gX G ((v3 + 5).toNatClampNeg))]) (rest := []) dL_law_373 rfl lkL_36 rfl rfl (Nat.le_of_ble_eq_true rfl) ⟨Nat.le_of_eq (Nat.zero_add _), Nat.le_of_eq (Nat.zero_add _)⟩ (skT_8 hS) ?_
        refine mC_mono (fun r h59 hr => ?_) K
        obtain ⟨x60, rfl, hS, K⟩ := hr
        show mW _ _ _ _ _ _ [.inl x60] _ _
        refine mw_aload_n (pc' := 377) dL_law_376 rfl rfl ?_
        refine mw_aload_n (pc' := 378) dL_law_377 rfl rfl ?_
        refine mw_iload_n (pc' := 379) dL_law_378 rfl rfl ?_
        refine mw_iconst (pc' := 380) (v := 1) dL_law_379 rfl (by decide) ?_
        refine mw_iadd (pc' := 381) dL_law_380 rfl ?_
        obtain ⟨o61, K⟩ := K
        refine mw_sld (pc' := 382) dL_law_381 rfl o61 ?_
        refine mw_aload_n (pc' := 383) dL_law_382 rfl rfl ?_
        refine mw_iload_n (pc' := 384) dL_law_383 rfl rfl ?_
        refine mw_iconst (pc' := 385) (v := 2) dL_law_384 rfl (by decide) ?_
        refine mw_iadd (pc' := 386) dL_law_385 rfl ?_
        obtain ⟨o62, K⟩ := K
        refine mw_sld (pc' := 387) dL_law_386 rfl o62 ?_
        refine mw_aload_n (pc' := 388) dL_law_387 rfl rfl ?_
        refine mw_iload_n (pc' := 389) dL_law_388 rfl rfl ?_
        refine mw_iconst (pc' := 390) (v := 3) dL_law_389 rfl (by decide) ?_
        refine mw_iadd (pc' := 391) dL_law_390 rfl ?_
        obtain ⟨o63, K⟩ := K
        refine mw_sld (pc' := 392) dL_law_391 rfl o63 ?_
        refine mw_aload_n (pc' := 393) dL_law_392 rfl rfl ?_
        refine mw_iload_n (pc' := 394) dL_law_393 rfl rfl ?_
        refine mw_iconst (pc' := 395) (v := 4) dL_law_394 rfl (by decide) ?_
        refine mw_iadd (pc' := 396) dL_law_395 rfl ?_
        obtain ⟨o64, K⟩ := K
        refine mw_sld (pc' := 397) dL_law_396 rfl o64 ?_
        refine mw_aload_n (pc' := 398) dL_law_397 rfl rfl ?_
        refine mw_iload_n (pc' := 399) dL_law_398 rfl rfl ?_
        refine mw_iconst (pc' := 400) (v := 5) dL_law_399 rfl (by decide) ?_
        refine mw_iadd (pc' := 401) dL_law_400 rfl ?_
        obtain ⟨o65, K⟩ := K
        refine mw_sld (pc' := 402) dL_law_401 rfl o65 ?_
        refine mw_callV (pc' := 405) (b' := (0, 0)) (b1 := (b1 + 9, b2 + 5760)) (av := [.inl (gX G ((v3 + 1).toNatClampNeg)), .inl (gX G ((v3 + 2).toNatClampNeg)), .inl (gX G ((v3 + 3).toNatClampNeg)), .inl (gX G ((v3 + 4).toNatClampNeg)), .inl (gX G ((v3 + 5).toNatClampNeg))]) (rest := [.inl x60]) dL_law_402 rfl lkL_39 rfl rfl (Nat.le_of_ble_eq_true rfl) ⟨Nat.le_of_eq (Nat.zero_add _), Nat.le_of_eq (Nat.zero_add _)⟩ (skT_47 hS) ?_
        refine mC_mono (fun r h66 hr => ?_) K
        obtain ⟨x67, rfl, hS, K⟩ := hr
        show mW _ _ _ _ _ _ [.inl x67, .inl x60] _ _
        refine mw_icmp_eq (pc' := 408) (tgt := 1202) dL_law_405 rfl (by decide) (fun c68 => ?_) (fun c68 => ?_)
        · replace K := K.1 c68
          refine mw_iinc (pc' := 1205) (v := v3 + 7) dL_law_1202 rfl (by decide) rfl rfl ?_
          show mW _ _ _ _ _ [some (.inr (some 0)), some (.inr (some 8)), some (.inr (some 47)), some (.inl (v3 + 7))] _ _ _
          refine mw_goto (tgt := 18) dL_law_1205 (by decide) ?_
          exact K
        · replace K := K.2 c68
          refine mw_iconst (pc' := 409) (v := 0) dL_law_408 rfl (by decide) ?_
          exact mw_iret dL_law_409 rfl (by decide) K
      · replace K := K.2.2.2.2.2.2.1 hv
        refine mw_tableIn (off := 377) (tgt := 410) dL_law_33 (by rw [hv]; decide) (by rw [hv]; decide) (by rw [hv]; rfl) (by decide) ?_
        refine mw_aload_n (pc' := 411) dL_law_410 rfl rfl ?_
        refine mw_aload_n (pc' := 412) dL_law_411 rfl rfl ?_
        refine mw_iload_n (pc' := 413) dL_law_412 rfl rfl ?_
        refine mw_iconst (pc' := 414) (v := 1) dL_law_413 rfl (by decide) ?_
        refine mw_iadd (pc' := 415) dL_law_414 rfl ?_
        obtain ⟨o69, K⟩ := K
        refine mw_sld (pc' := 416) dL_law_415 rfl o69 ?_
        refine mw_aload_n (pc' := 417) dL_law_416 rfl rfl ?_
        refine mw_iload_n (pc' := 418) dL_law_417 rfl rfl ?_
        refine mw_iconst (pc' := 419) (v := 2) dL_law_418 rfl (by decide) ?_
        refine mw_iadd (pc' := 420) dL_law_419 rfl ?_
        obtain ⟨o70, K⟩ := K
        refine mw_sld (pc' := 421) dL_law_420 rfl o70 ?_
        refine mw_aload_n (pc' := 422) dL_law_421 rfl rfl ?_
        refine mw_iload_n (pc' := 423) dL_law_422 rfl rfl ?_
        refine mw_iconst (pc' := 424) (v := 3) dL_law_423 rfl (by decide) ?_
        refine mw_iadd (pc' := 425) dL_law_424 rfl ?_
        obtain ⟨o71, K⟩ := K
        refine mw_sld (pc' := 426) dL_law_425 rfl o71 ?_
        refine mw_aload_n (pc' := 427) dL_law_426 rfl rfl ?_
        refine mw_iload_n (pc' := 428) dL_law_427 rfl rfl ?_
        refine mw_iconst (pc' := 429) (v := 4) dL_law_428 rfl (by decide) ?_
        refine mw_iadd (pc' := 430) dL_law_429 rfl ?_
        obtain ⟨o72, K⟩ := K
        refine mw_sld (pc' := 431) dL_law_430 rfl o72 ?_
        refine mw_callV (pc' := 434) (b' := (0, 0)) (b1 := (b1 + 9, b2 + 5760)) (av := [.inl (gX G ((v3 + 1).toNatClampNeg)), .inl (gX G ((v3 + 2).toNatClampNeg)), .inl (gX G ((v3 + 3).toNatClampNeg)), .inl (gX G ((v3 + 4).toNatClampNeg))]) (rest := []) dL_law_431 rfl lkL_40 rfl rfl (Nat.le_of_ble_eq_true rfl) ⟨Nat.le_of_eq (Nat.zero_add _), Nat.le_of_eq (Nat.zero_add _)⟩ (skT_8 hS) ?_
        refine mC_mono (fun r h73 hr => ?_) K
        obtain ⟨x74, rfl, hS, K⟩ := hr
        show mW _ _ _ _ _ _ [.inl x74] _ _
        refine mw_aload_n (pc' := 435) dL_law_434 rfl rfl ?_
        refine mw_aload_n (pc' := 436) dL_law_435 rfl rfl ?_
        refine mw_iload_n (pc' := 437) dL_law_436 rfl rfl ?_
        refine mw_iconst (pc' := 438) (v := 1) dL_law_437 rfl (by decide) ?_
        refine mw_iadd (pc' := 439) dL_law_438 rfl ?_
        obtain ⟨o75, K⟩ := K
        refine mw_sld (pc' := 440) dL_law_439 rfl o75 ?_
        refine mw_aload_n (pc' := 441) dL_law_440 rfl rfl ?_
        refine mw_iload_n (pc' := 442) dL_law_441 rfl rfl ?_
        refine mw_iconst (pc' := 443) (v := 2) dL_law_442 rfl (by decide) ?_
        refine mw_iadd (pc' := 444) dL_law_443 rfl ?_
        obtain ⟨o76, K⟩ := K
        refine mw_sld (pc' := 445) dL_law_444 rfl o76 ?_
        refine mw_aload_n (pc' := 446) dL_law_445 rfl rfl ?_
        refine mw_iload_n (pc' := 447) dL_law_446 rfl rfl ?_
        refine mw_iconst (pc' := 448) (v := 3) dL_law_447 rfl (by decide) ?_
        refine mw_iadd (pc' := 449) dL_law_448 rfl ?_
        obtain ⟨o77, K⟩ := K
        refine mw_sld (pc' := 450) dL_law_449 rfl o77 ?_
        refine mw_aload_n (pc' := 451) dL_law_450 rfl rfl ?_
        refine mw_iload_n (pc' := 452) dL_law_451 rfl rfl ?_
        refine mw_iconst (pc' := 453) (v := 4) dL_law_452 rfl (by decide) ?_
        refine mw_iadd (pc' := 454) dL_law_453 rfl ?_
        obtain ⟨o78, K⟩ := K
        refine mw_sld (pc' := 455) dL_law_454 rfl o78 ?_
        refine mw_callV (pc' := 458) (b' := (0, 0)) (b1 := (b1 + 9, b2 + 5760)) (av := [.inl (gX G ((v3 + 1).toNatClampNeg)), .inl (gX G ((v3 + 2).toNatClampNeg)), .inl (gX G ((v3 + 3).toNatClampNeg)), .inl (gX G ((v3 + 4).toNatClampNeg))]) (rest := [.inl x74]) dL_law_455 rfl lkL_44 rfl rfl (Nat.le_of_ble_eq_true rfl) ⟨Nat.le_of_eq (Nat.zero_add _), Nat.le_of_eq (Nat.zero_add _)⟩ (skT_47 hS) ?_
        refine mC_mono (fun r h79 hr => ?_) K
        obtain ⟨x80, rfl, hS, K⟩ := hr
        show mW _ _ _ _ _ _ [.inl x80, .inl x74] _ _
        refine mw_icmp_eq (pc' := 461) (tgt := 1202) dL_law_458 rfl (by decide) (fun c81 => ?_) (fun c81 => ?_)
        · replace K := K.1 c81
          refine mw_iinc (pc' := 1205) (v := v3 + 7) dL_law_1202 rfl (by decide) rfl rfl ?_
          show mW _ _ _ _ _ [some (.inr (some 0)), some (.inr (some 8)), some (.inr (some 47)), some (.inl (v3 + 7))] _ _ _
          refine mw_goto (tgt := 18) dL_law_1205 (by decide) ?_
          exact K
        · replace K := K.2 c81
          refine mw_iconst (pc' := 462) (v := 0) dL_law_461 rfl (by decide) ?_
          exact mw_iret dL_law_462 rfl (by decide) K
      · replace K := K.2.2.2.2.2.2.2.1 hv
        refine mw_tableIn (off := 430) (tgt := 463) dL_law_33 (by rw [hv]; decide) (by rw [hv]; decide) (by rw [hv]; rfl) (by decide) ?_
        refine mw_aload_n (pc' := 464) dL_law_463 rfl rfl ?_
        refine mw_aload_n (pc' := 465) dL_law_464 rfl rfl ?_
        refine mw_iload_n (pc' := 466) dL_law_465 rfl rfl ?_
        refine mw_iconst (pc' := 467) (v := 1) dL_law_466 rfl (by decide) ?_
        refine mw_iadd (pc' := 468) dL_law_467 rfl ?_
        obtain ⟨o82, K⟩ := K
        refine mw_sld (pc' := 469) dL_law_468 rfl o82 ?_
        refine mw_aload_n (pc' := 470) dL_law_469 rfl rfl ?_
        refine mw_iload_n (pc' := 471) dL_law_470 rfl rfl ?_
        refine mw_iconst (pc' := 472) (v := 2) dL_law_471 rfl (by decide) ?_
        refine mw_iadd (pc' := 473) dL_law_472 rfl ?_
        obtain ⟨o83, K⟩ := K
        refine mw_sld (pc' := 474) dL_law_473 rfl o83 ?_
        refine mw_aload_n (pc' := 475) dL_law_474 rfl rfl ?_
        refine mw_iload_n (pc' := 476) dL_law_475 rfl rfl ?_
        refine mw_iconst (pc' := 477) (v := 3) dL_law_476 rfl (by decide) ?_
        refine mw_iadd (pc' := 478) dL_law_477 rfl ?_
        obtain ⟨o84, K⟩ := K
        refine mw_sld (pc' := 479) dL_law_478 rfl o84 ?_
        refine mw_aload_n (pc' := 480) dL_law_479 rfl rfl ?_
        refine mw_iload_n (pc' := 481) dL_law_480 rfl rfl ?_
        refine mw_iconst (pc' := 482) (v := 4) dL_law_481 rfl (by decide) ?_
        refine mw_iadd (pc' := 483) dL_law_482 rfl ?_
        obtain ⟨o85, K⟩ := K
        refine mw_sld (pc' := 484) dL_law_483 rfl o85 ?_
        refine mw_aload_n (pc' := 485) dL_law_484 rfl rfl ?_
        refine mw_iload_n (pc' := 486) dL_law_485 rfl rfl ?_
        refine mw_iconst (pc' := 487) (v := 5) dL_law_486 rfl (by decide) ?_
        refine mw_iadd (pc' := 488) dL_law_487 rfl ?_
        obtain ⟨o86, K⟩ := K
        refine mw_sld (pc' := 489) dL_law_488 rfl o86 ?_
        refine mw_aload_n (pc' := 490) dL_law_489 rfl rfl ?_
        refine mw_iload_n (pc' := 491) dL_law_490 rfl rfl ?_
        refine mw_bipush (pc' := 493) (v := 6) dL_law_491 rfl (by decide) ?_
        refine mw_iadd (pc' := 494) dL_law_493 rfl ?_
        obtain ⟨o87, K⟩ := K
        refine mw_sld (pc' := 495) dL_law_494 rfl o87 ?_
        refine mw_callV (pc' := 498) (b' := (0, 0)) (b1 := (b1 + 9, b2 + 5760)) (av := [.inl (gX G ((v3 + 1).toNatClampNeg)), .inl (gX G ((v3 + 2).toNatClampNeg)), .inl (gX G ((v3 + 3).toNatClampNeg)), .inl (gX G ((v3 + 4).toNatClampNeg)), .inl (gX G ((v3 + 5).toNatClampNeg)), .inl (gX G ((v3 + 6).toNatClampNeg))]) (rest := []) dL_law_495 rfl lkL_45 rfl rfl (Nat.le_of_ble_eq_true rfl) ⟨Nat.le_of_eq (Nat.zero_add _), Nat.le_of_eq (Nat.zero_add _)⟩ (skT_8 hS) ?_
        refine mC_mono (fun r h88 hr => ?_) K
        obtain ⟨x89, rfl, hS, K⟩ := hr
        show mW _ _ _ _ _ _ [.inl x89] _ _
        refine mw_aload_n (pc' := 499) dL_law_498 rfl rfl ?_
        refine mw_aload_n (pc' := 500) dL_law_499 rfl rfl ?_
        refine mw_iload_n (pc' := 501) dL_law_500 rfl rfl ?_
        refine mw_iconst (pc' := 502) (v := 1) dL_law_501 rfl (by decide) ?_
        refine mw_iadd (pc' := 503) dL_law_502 rfl ?_
        obtain ⟨o90, K⟩ := K
        refine mw_sld (pc' := 504) dL_law_503 rfl o90 ?_
        refine mw_aload_n (pc' := 505) dL_law_504 rfl rfl ?_
        refine mw_iload_n (pc' := 506) dL_law_505 rfl rfl ?_
        refine mw_iconst (pc' := 507) (v := 2) dL_law_506 rfl (by decide) ?_
        refine mw_iadd (pc' := 508) dL_law_507 rfl ?_
        obtain ⟨o91, K⟩ := K
        refine mw_sld (pc' := 509) dL_law_508 rfl o91 ?_
        refine mw_aload_n (pc' := 510) dL_law_509 rfl rfl ?_
        refine mw_iload_n (pc' := 511) dL_law_510 rfl rfl ?_
        refine mw_iconst (pc' := 512) (v := 3) dL_law_511 rfl (by decide) ?_
        refine mw_iadd (pc' := 513) dL_law_512 rfl ?_
        obtain ⟨o92, K⟩ := K
        refine mw_sld (pc' := 514) dL_law_513 rfl o92 ?_
        refine mw_aload_n (pc' := 515) dL_law_514 rfl rfl ?_
        refine mw_iload_n (pc' := 516) dL_law_515 rfl rfl ?_
        refine mw_iconst (pc' := 517) (v := 4) dL_law_516 rfl (by decide) ?_
        refine mw_iadd (pc' := 518) dL_law_517 rfl ?_
        obtain ⟨o93, K⟩ := K
        refine mw_sld (pc' := 519) dL_law_518 rfl o93 ?_
        refine mw_aload_n (pc' := 520) dL_law_519 rfl rfl ?_
        refine mw_iload_n (pc' := 521) dL_law_520 rfl rfl ?_
        refine mw_iconst (pc' := 522) (v := 5) dL_law_521 rfl (by decide) ?_
        refine mw_iadd (pc' := 523) dL_law_522 rfl ?_
        obtain ⟨o94, K⟩ := K
        refine mw_sld (pc' := 524) dL_law_523 rfl o94 ?_
        refine mw_aload_n (pc' := 525) dL_law_524 rfl rfl ?_
        refine mw_iload_n (pc' := 526) dL_law_525 rfl rfl ?_
        refine mw_bipush (pc' := 528) (v := 6) dL_law_526 rfl (by decide) ?_
        refine mw_iadd (pc' := 529) dL_law_528 rfl ?_
        obtain ⟨o95, K⟩ := K
        refine mw_sld (pc' := 530) dL_law_529 rfl o95 ?_
        refine mw_callV (pc' := 533) (b' := (0, 0)) (b1 := (b1 + 9, b2 + 5760)) (av := [.inl (gX G ((v3 + 1).toNatClampNeg)), .inl (gX G ((v3 + 2).toNatClampNeg)), .inl (gX G ((v3 + 3).toNatClampNeg)), .inl (gX G ((v3 + 4).toNatClampNeg)), .inl (gX G ((v3 + 5).toNatClampNeg)), .inl (gX G ((v3 + 6).toNatClampNeg))]) (rest := [.inl x89]) dL_law_530 rfl lkL_49 rfl rfl (Nat.le_of_ble_eq_true rfl) ⟨Nat.le_of_eq (Nat.zero_add _), Nat.le_of_eq (Nat.zero_add _)⟩ (skT_47 hS) ?_
        refine mC_mono (fun r h96 hr => ?_) K
        obtain ⟨x97, rfl, hS, K⟩ := hr
        show mW _ _ _ _ _ _ [.inl x97, .inl x89] _ _
        refine mw_icmp_eq (pc' := 536) (tgt := 1202) dL_law_533 rfl (by decide) (fun c98 => ?_) (fun c98 => ?_)
        · replace K := K.1 c98
          refine mw_iinc (pc' := 1205) (v := v3 + 7) dL_law_1202 rfl (by decide) rfl rfl ?_
          show mW _ _ _ _ _ [some (.inr (some 0)), some (.inr (some 8)), some (.inr (some 47)), some (.inl (v3 + 7))] _ _ _
          refine mw_goto (tgt := 18) dL_law_1205 (by decide) ?_
          exact K
        · replace K := K.2 c98
          refine mw_iconst (pc' := 537) (v := 0) dL_law_536 rfl (by decide) ?_
          exact mw_iret dL_law_537 rfl (by decide) K
      · replace K := K.2.2.2.2.2.2.2.2.1 hv
        refine mw_tableIn (off := 505) (tgt := 538) dL_law_33 (by rw [hv]; decide) (by rw [hv]; decide) (by rw [hv]; rfl) (by decide) ?_
        refine mw_aload_n (pc' := 539) dL_law_538 rfl rfl ?_
        refine mw_aload_n (pc' := 540) dL_law_539 rfl rfl ?_
        refine mw_iload_n (pc' := 541) dL_law_540 rfl rfl ?_
        refine mw_iconst (pc' := 542) (v := 1) dL_law_541 rfl (by decide) ?_
        refine mw_iadd (pc' := 543) dL_law_542 rfl ?_
        obtain ⟨o99, K⟩ := K
        refine mw_sld (pc' := 544) dL_law_543 rfl o99 ?_
        refine mw_aload_n (pc' := 545) dL_law_544 rfl rfl ?_
        refine mw_iload_n (pc' := 546) dL_law_545 rfl rfl ?_
        refine mw_iconst (pc' := 547) (v := 2) dL_law_546 rfl (by decide) ?_
        refine mw_iadd (pc' := 548) dL_law_547 rfl ?_
        obtain ⟨o100, K⟩ := K
        refine mw_sld (pc' := 549) dL_law_548 rfl o100 ?_
        refine mw_aload_n (pc' := 550) dL_law_549 rfl rfl ?_
        refine mw_iload_n (pc' := 551) dL_law_550 rfl rfl ?_
        refine mw_iconst (pc' := 552) (v := 3) dL_law_551 rfl (by decide) ?_
        refine mw_iadd (pc' := 553) dL_law_552 rfl ?_
        obtain ⟨o101, K⟩ := K
        refine mw_sld (pc' := 554) dL_law_553 rfl o101 ?_
        refine mw_aload_n (pc' := 555) dL_law_554 rfl rfl ?_
        refine mw_iload_n (pc' := 556) dL_law_555 rfl rfl ?_
        refine mw_iconst (pc' := 557) (v := 4) dL_law_556 rfl (by decide) ?_
        refine mw_iadd (pc' := 558) dL_law_557 rfl ?_
        obtain ⟨o102, K⟩ := K
        refine mw_sld (pc' := 559) dL_law_558 rfl o102 ?_
        refine mw_aload_n (pc' := 560) dL_law_559 rfl rfl ?_
        refine mw_iload_n (pc' := 561) dL_law_560 rfl rfl ?_
        refine mw_iconst (pc' := 562) (v := 5) dL_law_561 rfl (by decide) ?_
        refine mw_iadd (pc' := 563) dL_law_562 rfl ?_
        obtain ⟨o103, K⟩ := K
        refine mw_sld (pc' := 564) dL_law_563 rfl o103 ?_
        refine mw_callV (pc' := 567) (b' := (2, 13)) (b1 := (b1 + 7, b2 + 5747)) (av := [.inl (gX G ((v3 + 1).toNatClampNeg)), .inl (gX G ((v3 + 2).toNatClampNeg)), .inl (gX G ((v3 + 3).toNatClampNeg)), .inl (gX G ((v3 + 4).toNatClampNeg)), .inl (gX G ((v3 + 5).toNatClampNeg))]) (rest := []) dL_law_564 rfl lkL_50 rfl rfl (Nat.le_of_ble_eq_true rfl) ⟨by dsimp only; omega, by dsimp only; omega⟩ (skT_8 hS) ?_
        refine mC_mono (fun r h104 hr => ?_) K
        obtain ⟨x105, rfl, hS, K⟩ := hr
        show mW _ _ _ _ _ _ [.inl x105] _ _
        refine mw_aload_n (pc' := 568) dL_law_567 rfl rfl ?_
        refine mw_aload_n (pc' := 569) dL_law_568 rfl rfl ?_
        refine mw_iload_n (pc' := 570) dL_law_569 rfl rfl ?_
        refine mw_iconst (pc' := 571) (v := 1) dL_law_570 rfl (by decide) ?_
        refine mw_iadd (pc' := 572) dL_law_571 rfl ?_
        obtain ⟨o106, K⟩ := K
        refine mw_sld (pc' := 573) dL_law_572 rfl o106 ?_
        refine mw_aload_n (pc' := 574) dL_law_573 rfl rfl ?_
        refine mw_iload_n (pc' := 575) dL_law_574 rfl rfl ?_
        refine mw_iconst (pc' := 576) (v := 2) dL_law_575 rfl (by decide) ?_
        refine mw_iadd (pc' := 577) dL_law_576 rfl ?_
        obtain ⟨o107, K⟩ := K
        refine mw_sld (pc' := 578) dL_law_577 rfl o107 ?_
        refine mw_aload_n (pc' := 579) dL_law_578 rfl rfl ?_
        refine mw_iload_n (pc' := 580) dL_law_579 rfl rfl ?_
        refine mw_iconst (pc' := 581) (v := 3) dL_law_580 rfl (by decide) ?_
        refine mw_iadd (pc' := 582) dL_law_581 rfl ?_
        obtain ⟨o108, K⟩ := K
        refine mw_sld (pc' := 583) dL_law_582 rfl o108 ?_
        refine mw_aload_n (pc' := 584) dL_law_583 rfl rfl ?_
        refine mw_iload_n (pc' := 585) dL_law_584 rfl rfl ?_
        refine mw_iconst (pc' := 586) (v := 4) dL_law_585 rfl (by decide) ?_
        refine mw_iadd (pc' := 587) dL_law_586 rfl ?_
        obtain ⟨o109, K⟩ := K
        refine mw_sld (pc' := 588) dL_law_587 rfl o109 ?_
        refine mw_aload_n (pc' := 589) dL_law_588 rfl rfl ?_
        refine mw_iload_n (pc' := 590) dL_law_589 rfl rfl ?_
        refine mw_iconst (pc' := 591) (v := 5) dL_law_590 rfl (by decide) ?_
        refine mw_iadd (pc' := 592) dL_law_591 rfl ?_
        obtain ⟨o110, K⟩ := K
        refine mw_sld (pc' := 593) dL_law_592 rfl o110 ?_
        refine mw_callV (pc' := 596) (b' := (0, 0)) (b1 := (b1 + 7, b2 + 5747)) (av := [.inl (gX G ((v3 + 1).toNatClampNeg)), .inl (gX G ((v3 + 2).toNatClampNeg)), .inl (gX G ((v3 + 3).toNatClampNeg)), .inl (gX G ((v3 + 4).toNatClampNeg)), .inl (gX G ((v3 + 5).toNatClampNeg))]) (rest := [.inl x105]) dL_law_593 rfl lkL_53 rfl rfl (Nat.le_of_ble_eq_true rfl) ⟨Nat.le_of_eq (Nat.zero_add _), Nat.le_of_eq (Nat.zero_add _)⟩ (skT_47 hS) ?_
        refine mC_mono (fun r h111 hr => ?_) K
        obtain ⟨x112, rfl, hS, K⟩ := hr
        show mW _ _ _ _ _ _ [.inl x112, .inl x105] _ _
        refine mw_icmp_eq (pc' := 599) (tgt := 1202) dL_law_596 rfl (by decide) (fun c113 => ?_) (fun c113 => ?_)
        · replace K := K.1 c113
          refine mw_iinc (pc' := 1205) (v := v3 + 7) dL_law_1202 rfl (by decide) rfl rfl ?_
          show mW _ _ _ _ _ [some (.inr (some 0)), some (.inr (some 8)), some (.inr (some 47)), some (.inl (v3 + 7))] _ _ _
          refine mw_goto (tgt := 18) dL_law_1205 (by decide) ?_
          exact K
        · replace K := K.2 c113
          refine mw_iconst (pc' := 600) (v := 0) dL_law_599 rfl (by decide) ?_
          exact mw_iret dL_law_600 rfl (by decide) K
      · replace K := K.2.2.2.2.2.2.2.2.2.1 hv
        refine mw_tableIn (off := 568) (tgt := 601) dL_law_33 (by rw [hv]; decide) (by rw [hv]; decide) (by rw [hv]; rfl) (by decide) ?_
        refine mw_aload_n (pc' := 602) dL_law_601 rfl rfl ?_
        refine mw_aload_n (pc' := 603) dL_law_602 rfl rfl ?_
        refine mw_iload_n (pc' := 604) dL_law_603 rfl rfl ?_
        refine mw_iconst (pc' := 605) (v := 1) dL_law_604 rfl (by decide) ?_
        refine mw_iadd (pc' := 606) dL_law_605 rfl ?_
        obtain ⟨o114, K⟩ := K
        refine mw_sld (pc' := 607) dL_law_606 rfl o114 ?_
        refine mw_aload_n (pc' := 608) dL_law_607 rfl rfl ?_
        refine mw_iload_n (pc' := 609) dL_law_608 rfl rfl ?_
        refine mw_iconst (pc' := 610) (v := 2) dL_law_609 rfl (by decide) ?_
        refine mw_iadd (pc' := 611) dL_law_610 rfl ?_
        obtain ⟨o115, K⟩ := K
        refine mw_sld (pc' := 612) dL_law_611 rfl o115 ?_
        refine mw_aload_n (pc' := 613) dL_law_612 rfl rfl ?_
        refine mw_iload_n (pc' := 614) dL_law_613 rfl rfl ?_
        refine mw_iconst (pc' := 615) (v := 3) dL_law_614 rfl (by decide) ?_
        refine mw_iadd (pc' := 616) dL_law_615 rfl ?_
        obtain ⟨o116, K⟩ := K
        refine mw_sld (pc' := 617) dL_law_616 rfl o116 ?_
        refine mw_callV (pc' := 620) (b' := (3, 518)) (b1 := (b1 + 6, b2 + 5242)) (av := [.inl (gX G ((v3 + 1).toNatClampNeg)), .inl (gX G ((v3 + 2).toNatClampNeg)), .inl (gX G ((v3 + 3).toNatClampNeg))]) (rest := []) dL_law_617 rfl lkL_54 rfl rfl (Nat.le_of_ble_eq_true rfl) ⟨by dsimp only; omega, by dsimp only; omega⟩ (skT_8 hS) ?_
        refine mC_mono (fun r h117 hr => ?_) K
        obtain ⟨x118, rfl, hS, K⟩ := hr
        show mW _ _ _ _ _ _ [.inl x118] _ _
        refine mw_aload_n (pc' := 621) dL_law_620 rfl rfl ?_
        refine mw_aload_n (pc' := 622) dL_law_621 rfl rfl ?_
        refine mw_iload_n (pc' := 623) dL_law_622 rfl rfl ?_
        refine mw_iconst (pc' := 624) (v := 1) dL_law_623 rfl (by decide) ?_
        refine mw_iadd (pc' := 625) dL_law_624 rfl ?_
        obtain ⟨o119, K⟩ := K
        refine mw_sld (pc' := 626) dL_law_625 rfl o119 ?_
        refine mw_aload_n (pc' := 627) dL_law_626 rfl rfl ?_
        refine mw_iload_n (pc' := 628) dL_law_627 rfl rfl ?_
        refine mw_iconst (pc' := 629) (v := 2) dL_law_628 rfl (by decide) ?_
        refine mw_iadd (pc' := 630) dL_law_629 rfl ?_
        obtain ⟨o120, K⟩ := K
        refine mw_sld (pc' := 631) dL_law_630 rfl o120 ?_
        refine mw_aload_n (pc' := 632) dL_law_631 rfl rfl ?_
        refine mw_iload_n (pc' := 633) dL_law_632 rfl rfl ?_
        refine mw_iconst (pc' := 634) (v := 3) dL_law_633 rfl (by decide) ?_
        refine mw_iadd (pc' := 635) dL_law_634 rfl ?_
        obtain ⟨o121, K⟩ := K
        refine mw_sld (pc' := 636) dL_law_635 rfl o121 ?_
        refine mw_callV (pc' := 639) (b' := (0, 0)) (b1 := (b1 + 6, b2 + 5242)) (av := [.inl (gX G ((v3 + 1).toNatClampNeg)), .inl (gX G ((v3 + 2).toNatClampNeg)), .inl (gX G ((v3 + 3).toNatClampNeg))]) (rest := [.inl x118]) dL_law_636 rfl lkL_57 rfl rfl (Nat.le_of_ble_eq_true rfl) ⟨Nat.le_of_eq (Nat.zero_add _), Nat.le_of_eq (Nat.zero_add _)⟩ (skT_47 hS) ?_
        refine mC_mono (fun r h122 hr => ?_) K
        obtain ⟨x123, rfl, hS, K⟩ := hr
        show mW _ _ _ _ _ _ [.inl x123, .inl x118] _ _
        refine mw_icmp_eq (pc' := 642) (tgt := 1202) dL_law_639 rfl (by decide) (fun c124 => ?_) (fun c124 => ?_)
        · replace K := K.1 c124
          refine mw_iinc (pc' := 1205) (v := v3 + 7) dL_law_1202 rfl (by decide) rfl rfl ?_
          show mW _ _ _ _ _ [some (.inr (some 0)), some (.inr (some 8)), some (.inr (some 47)), some (.inl (v3 + 7))] _ _ _
          refine mw_goto (tgt := 18) dL_law_1205 (by decide) ?_
          exact K
        · replace K := K.2 c124
          refine mw_iconst (pc' := 643) (v := 0) dL_law_642 rfl (by decide) ?_
          exact mw_iret dL_law_643 rfl (by decide) K
      · replace K := K.2.2.2.2.2.2.2.2.2.2.1 hv
        refine mw_tableIn (off := 611) (tgt := 644) dL_law_33 (by rw [hv]; decide) (by rw [hv]; decide) (by rw [hv]; rfl) (by decide) ?_
        refine mw_aload_n (pc' := 645) dL_law_644 rfl rfl ?_
        refine mw_aload_n (pc' := 646) dL_law_645 rfl rfl ?_
        refine mw_iload_n (pc' := 647) dL_law_646 rfl rfl ?_
        refine mw_iconst (pc' := 648) (v := 1) dL_law_647 rfl (by decide) ?_
        refine mw_iadd (pc' := 649) dL_law_648 rfl ?_
        obtain ⟨o125, K⟩ := K
        refine mw_sld (pc' := 650) dL_law_649 rfl o125 ?_
        refine mw_aload_n (pc' := 651) dL_law_650 rfl rfl ?_
        refine mw_iload_n (pc' := 652) dL_law_651 rfl rfl ?_
        refine mw_iconst (pc' := 653) (v := 2) dL_law_652 rfl (by decide) ?_
        refine mw_iadd (pc' := 654) dL_law_653 rfl ?_
        obtain ⟨o126, K⟩ := K
        refine mw_sld (pc' := 655) dL_law_654 rfl o126 ?_
        refine mw_callV (pc' := 658) (b' := (3, 518)) (b1 := (b1 + 6, b2 + 5242)) (av := [.inl (gX G ((v3 + 1).toNatClampNeg)), .inl (gX G ((v3 + 2).toNatClampNeg))]) (rest := []) dL_law_655 rfl lkL_58 rfl rfl (Nat.le_of_ble_eq_true rfl) ⟨by dsimp only; omega, by dsimp only; omega⟩ (skT_8 hS) ?_
        refine mC_mono (fun r h127 hr => ?_) K
        obtain ⟨x128, rfl, hS, K⟩ := hr
        show mW _ _ _ _ _ _ [.inl x128] _ _
        refine mw_aload_n (pc' := 659) dL_law_658 rfl rfl ?_
        refine mw_aload_n (pc' := 660) dL_law_659 rfl rfl ?_
        refine mw_iload_n (pc' := 661) dL_law_660 rfl rfl ?_
        refine mw_iconst (pc' := 662) (v := 1) dL_law_661 rfl (by decide) ?_
        refine mw_iadd (pc' := 663) dL_law_662 rfl ?_
        obtain ⟨o129, K⟩ := K
        refine mw_sld (pc' := 664) dL_law_663 rfl o129 ?_
        refine mw_aload_n (pc' := 665) dL_law_664 rfl rfl ?_
        refine mw_iload_n (pc' := 666) dL_law_665 rfl rfl ?_
        refine mw_iconst (pc' := 667) (v := 2) dL_law_666 rfl (by decide) ?_
        refine mw_iadd (pc' := 668) dL_law_667 rfl ?_
        obtain ⟨o130, K⟩ := K
        refine mw_sld (pc' := 669) dL_law_668 rfl o130 ?_
        refine mw_callV (pc' := 672) (b' := (0, 0)) (b1 := (b1 + 6, b2 + 5242)) (av := [.inl (gX G ((v3 + 1).toNatClampNeg)), .inl (gX G ((v3 + 2).toNatClampNeg))]) (rest := [.inl x128]) dL_law_669 rfl lkL_62 rfl rfl (Nat.le_of_ble_eq_true rfl) ⟨Nat.le_of_eq (Nat.zero_add _), Nat.le_of_eq (Nat.zero_add _)⟩ (skT_47 hS) ?_
        refine mC_mono (fun r h131 hr => ?_) K
        obtain ⟨x132, rfl, hS, K⟩ := hr
        show mW _ _ _ _ _ _ [.inl x132, .inl x128] _ _
        refine mw_icmp_eq (pc' := 675) (tgt := 1202) dL_law_672 rfl (by decide) (fun c133 => ?_) (fun c133 => ?_)
        · replace K := K.1 c133
          refine mw_iinc (pc' := 1205) (v := v3 + 7) dL_law_1202 rfl (by decide) rfl rfl ?_
          show mW _ _ _ _ _ [some (.inr (some 0)), some (.inr (some 8)), some (.inr (some 47)), some (.inl (v3 + 7))] _ _ _
          refine mw_goto (tgt := 18) dL_law_1205 (by decide) ?_
          exact K
        · replace K := K.2 c133
          refine mw_iconst (pc' := 676) (v := 0) dL_law_675 rfl (by decide) ?_
          exact mw_iret dL_law_676 rfl (by decide) K
      · replace K := K.2.2.2.2.2.2.2.2.2.2.2.1 hv
        refine mw_tableIn (off := 644) (tgt := 677) dL_law_33 (by rw [hv]; decide) (by rw [hv]; decide) (by rw [hv]; rfl) (by decide) ?_
        refine mw_aload_n (pc' := 678) dL_law_677 rfl rfl ?_
        refine mw_callV (pc' := 681) (b' := (0, 0)) (b1 := (b1 + 9, b2 + 5760)) (av := []) (rest := []) dL_law_678 rfl lkL_63 rfl rfl (Nat.le_of_ble_eq_true rfl) ⟨Nat.le_of_eq (Nat.zero_add _), Nat.le_of_eq (Nat.zero_add _)⟩ (skT_8 hS) ?_
        refine mC_mono (fun r h134 hr => ?_) K
        obtain ⟨x135, rfl, hS, K⟩ := hr
        show mW _ _ _ _ _ _ [.inl x135] _ _
        refine mw_aload_n (pc' := 682) dL_law_681 rfl rfl ?_
        refine mw_callV (pc' := 685) (b' := (0, 0)) (b1 := (b1 + 9, b2 + 5760)) (av := []) (rest := [.inl x135]) dL_law_682 rfl lkL_67 rfl rfl (Nat.le_of_ble_eq_true rfl) ⟨Nat.le_of_eq (Nat.zero_add _), Nat.le_of_eq (Nat.zero_add _)⟩ (skT_47 hS) ?_
        refine mC_mono (fun r h136 hr => ?_) K
        obtain ⟨x137, rfl, hS, K⟩ := hr
        show mW _ _ _ _ _ _ [.inl x137, .inl x135] _ _
        refine mw_icmp_eq (pc' := 688) (tgt := 1202) dL_law_685 rfl (by decide) (fun c138 => ?_) (fun c138 => ?_)
        · replace K := K.1 c138
          refine mw_iinc (pc' := 1205) (v := v3 + 7) dL_law_1202 rfl (by decide) rfl rfl ?_
          show mW _ _ _ _ _ [some (.inr (some 0)), some (.inr (some 8)), some (.inr (some 47)), some (.inl (v3 + 7))] _ _ _
          refine mw_goto (tgt := 18) dL_law_1205 (by decide) ?_
          exact K
        · replace K := K.2 c138
          refine mw_iconst (pc' := 689) (v := 0) dL_law_688 rfl (by decide) ?_
          exact mw_iret dL_law_689 rfl (by decide) K
      · replace K := K.2.2.2.2.2.2.2.2.2.2.2.2.1 hv
        refine mw_tableIn (off := 657) (tgt := 690) dL_law_33 (by rw [hv]; decide) (by rw [hv]; decide) (by rw [hv]; rfl) (by decide) ?_
        refine mw_aload_n (pc' := 691) dL_law_690 rfl rfl ?_
        refine mw_aload_n (pc' := 692) dL_law_691 rfl rfl ?_
        refine mw_iload_n (pc' := 693) dL_law_692 rfl rfl ?_
        refine mw_iconst (pc' := 694) (v := 1) dL_law_693 rfl (by decide) ?_
        refine mw_iadd (pc' := 695) dL_law_694 rfl ?_
        obtain ⟨o139, K⟩ := K
        refine mw_sld (pc' := 696) dL_law_695 rfl o139 ?_
        refine mw_callV (pc' := 699) (b' := (0, 0)) (b1 := (b1 + 9, b2 + 5760)) (av := [.inl (gX G ((v3 + 1).toNatClampNeg))]) (rest := []) dL_law_696 rfl lkL_68 rfl rfl (Nat.le_of_ble_eq_true rfl) ⟨Nat.le_of_eq (Nat.zero_add _), Nat.le_of_eq (Nat.zero_add _)⟩ (skT_8 hS) ?_
        refine mC_mono (fun r h140 hr => ?_) K
        obtain ⟨x141, rfl, hS, K⟩ := hr
        show mW _ _ _ _ _ _ [.inl x141] _ _
        refine mw_aload_n (pc' := 700) dL_law_699 rfl rfl ?_
        refine mw_aload_n (pc' := 701) dL_law_700 rfl rfl ?_
        refine mw_iload_n (pc' := 702) dL_law_701 rfl rfl ?_
        refine mw_iconst (pc' := 703) (v := 1) dL_law_702 rfl (by decide) ?_
        refine mw_iadd (pc' := 704) dL_law_703 rfl ?_
        obtain ⟨o142, K⟩ := K
        refine mw_sld (pc' := 705) dL_law_704 rfl o142 ?_
        refine mw_callV (pc' := 708) (b' := (0, 0)) (b1 := (b1 + 9, b2 + 5760)) (av := [.inl (gX G ((v3 + 1).toNatClampNeg))]) (rest := [.inl x141]) dL_law_705 rfl lkL_72 rfl rfl (Nat.le_of_ble_eq_true rfl) ⟨Nat.le_of_eq (Nat.zero_add _), Nat.le_of_eq (Nat.zero_add _)⟩ (skT_47 hS) ?_
        refine mC_mono (fun r h143 hr => ?_) K
        obtain ⟨x144, rfl, hS, K⟩ := hr
        show mW _ _ _ _ _ _ [.inl x144, .inl x141] _ _
        refine mw_icmp_eq (pc' := 711) (tgt := 1202) dL_law_708 rfl (by decide) (fun c145 => ?_) (fun c145 => ?_)
        · replace K := K.1 c145
          refine mw_iinc (pc' := 1205) (v := v3 + 7) dL_law_1202 rfl (by decide) rfl rfl ?_
          show mW _ _ _ _ _ [some (.inr (some 0)), some (.inr (some 8)), some (.inr (some 47)), some (.inl (v3 + 7))] _ _ _
          refine mw_goto (tgt := 18) dL_law_1205 (by decide) ?_
          exact K
        · replace K := K.2 c145
          refine mw_iconst (pc' := 712) (v := 0) dL_law_711 rfl (by decide) ?_
          exact mw_iret dL_law_712 rfl (by decide) K
      · replace K := K.2.2.2.2.2.2.2.2.2.2.2.2.2.1 hv
        refine mw_tableIn (off := 680) (tgt := 713) dL_law_33 (by rw [hv]; decide) (by rw [hv]; decide) (by rw [hv]; rfl) (by decide) ?_
        refine mw_aload_n (pc' := 714) dL_law_713 rfl rfl ?_
        refine mw_aload_n (pc' := 715) dL_law_714 rfl rfl ?_
        refine mw_iload_n (pc' := 716) dL_law_715 rfl rfl ?_
        refine mw_iconst (pc' := 717) (v := 1) dL_law_716 rfl (by decide) ?_
        refine mw_iadd (pc' := 718) dL_law_717 rfl ?_
        obtain ⟨o146, K⟩ := K
        refine mw_sld (pc' := 719) dL_law_718 rfl o146 ?_
        refine mw_aload_n (pc' := 720) dL_law_719 rfl rfl ?_
        refine mw_iload_n (pc' := 721) dL_law_720 rfl rfl ?_
        refine mw_iconst (pc' := 722) (v := 2) dL_law_721 rfl (by decide) ?_
        refine mw_iadd (pc' := 723) dL_law_722 rfl ?_
        obtain ⟨o147, K⟩ := K
        refine mw_sld (pc' := 724) dL_law_723 rfl o147 ?_
        refine mw_aload_n (pc' := 725) dL_law_724 rfl rfl ?_
        refine mw_iload_n (pc' := 726) dL_law_725 rfl rfl ?_
        refine mw_iconst (pc' := 727) (v := 3) dL_law_726 rfl (by decide) ?_
        refine mw_iadd (pc' := 728) dL_law_727 rfl ?_
        obtain ⟨o148, K⟩ := K
        refine mw_sld (pc' := 729) dL_law_728 rfl o148 ?_
        refine mw_aload_n (pc' := 730) dL_law_729 rfl rfl ?_
        refine mw_iload_n (pc' := 731) dL_law_730 rfl rfl ?_
        refine mw_iconst (pc' := 732) (v := 4) dL_law_731 rfl (by decide) ?_
        refine mw_iadd (pc' := 733) dL_law_732 rfl ?_
        obtain ⟨o149, K⟩ := K
        refine mw_sld (pc' := 734) dL_law_733 rfl o149 ?_
        refine mw_callV (pc' := 737) (b' := (0, 0)) (b1 := (b1 + 9, b2 + 5760)) (av := [.inl (gX G ((v3 + 1).toNatClampNeg)), .inl (gX G ((v3 + 2).toNatClampNeg)), .inl (gX G ((v3 + 3).toNatClampNeg)), .inl (gX G ((v3 + 4).toNatClampNeg))]) (rest := []) dL_law_734 rfl lkL_73 rfl rfl (Nat.le_of_ble_eq_true rfl) ⟨Nat.le_of_eq (Nat.zero_add _), Nat.le_of_eq (Nat.zero_add _)⟩ (skT_8 hS) ?_
        refine mC_mono (fun r h150 hr => ?_) K
        obtain ⟨x151, rfl, hS, K⟩ := hr
        show mW _ _ _ _ _ _ [.inl x151] _ _
        refine mw_aload_n (pc' := 738) dL_law_737 rfl rfl ?_
        refine mw_aload_n (pc' := 739) dL_law_738 rfl rfl ?_
        refine mw_iload_n (pc' := 740) dL_law_739 rfl rfl ?_
        refine mw_iconst (pc' := 741) (v := 1) dL_law_740 rfl (by decide) ?_
        refine mw_iadd (pc' := 742) dL_law_741 rfl ?_
        obtain ⟨o152, K⟩ := K
        refine mw_sld (pc' := 743) dL_law_742 rfl o152 ?_
        refine mw_aload_n (pc' := 744) dL_law_743 rfl rfl ?_
        refine mw_iload_n (pc' := 745) dL_law_744 rfl rfl ?_
        refine mw_iconst (pc' := 746) (v := 2) dL_law_745 rfl (by decide) ?_
        refine mw_iadd (pc' := 747) dL_law_746 rfl ?_
        obtain ⟨o153, K⟩ := K
        refine mw_sld (pc' := 748) dL_law_747 rfl o153 ?_
        refine mw_aload_n (pc' := 749) dL_law_748 rfl rfl ?_
        refine mw_iload_n (pc' := 750) dL_law_749 rfl rfl ?_
        refine mw_iconst (pc' := 751) (v := 3) dL_law_750 rfl (by decide) ?_
        refine mw_iadd (pc' := 752) dL_law_751 rfl ?_
        obtain ⟨o154, K⟩ := K
        refine mw_sld (pc' := 753) dL_law_752 rfl o154 ?_
        refine mw_aload_n (pc' := 754) dL_law_753 rfl rfl ?_
        refine mw_iload_n (pc' := 755) dL_law_754 rfl rfl ?_
        refine mw_iconst (pc' := 756) (v := 4) dL_law_755 rfl (by decide) ?_
        refine mw_iadd (pc' := 757) dL_law_756 rfl ?_
        obtain ⟨o155, K⟩ := K
        refine mw_sld (pc' := 758) dL_law_757 rfl o155 ?_
        refine mw_callV (pc' := 761) (b' := (0, 0)) (b1 := (b1 + 9, b2 + 5760)) (av := [.inl (gX G ((v3 + 1).toNatClampNeg)), .inl (gX G ((v3 + 2).toNatClampNeg)), .inl (gX G ((v3 + 3).toNatClampNeg)), .inl (gX G ((v3 + 4).toNatClampNeg))]) (rest := [.inl x151]) dL_law_758 rfl lkL_77 rfl rfl (Nat.le_of_ble_eq_true rfl) ⟨Nat.le_of_eq (Nat.zero_add _), Nat.le_of_eq (Nat.zero_add _)⟩ (skT_47 hS) ?_
        refine mC_mono (fun r h156 hr => ?_) K
        obtain ⟨x157, rfl, hS, K⟩ := hr
        show mW _ _ _ _ _ _ [.inl x157, .inl x151] _ _
        refine mw_icmp_eq (pc' := 764) (tgt := 1202) dL_law_761 rfl (by decide) (fun c158 => ?_) (fun c158 => ?_)
        · replace K := K.1 c158
          refine mw_iinc (pc' := 1205) (v := v3 + 7) dL_law_1202 rfl (by decide) rfl rfl ?_
          show mW _ _ _ _ _ [some (.inr (some 0)), some (.inr (some 8)), some (.inr (some 47)), some (.inl (v3 + 7))] _ _ _
          refine mw_goto (tgt := 18) dL_law_1205 (by decide) ?_
          exact K
        · replace K := K.2 c158
          refine mw_iconst (pc' := 765) (v := 0) dL_law_764 rfl (by decide) ?_
          exact mw_iret dL_law_765 rfl (by decide) K
      · replace K := K.2.2.2.2.2.2.2.2.2.2.2.2.2.2.1 hv
        refine mw_tableIn (off := 733) (tgt := 766) dL_law_33 (by rw [hv]; decide) (by rw [hv]; decide) (by rw [hv]; rfl) (by decide) ?_
        refine mw_aload_n (pc' := 767) dL_law_766 rfl rfl ?_
        refine mw_aload_n (pc' := 768) dL_law_767 rfl rfl ?_
        refine mw_iload_n (pc' := 769) dL_law_768 rfl rfl ?_
        refine mw_iconst (pc' := 770) (v := 1) dL_law_769 rfl (by decide) ?_
        refine mw_iadd (pc' := 771) dL_law_770 rfl ?_
        obtain ⟨o159, K⟩ := K
        refine mw_sld (pc' := 772) dL_law_771 rfl o159 ?_
        refine mw_callV (pc' := 775) (b' := (0, 0)) (b1 := (b1 + 9, b2 + 5760)) (av := [.inl (gX G ((v3 + 1).toNatClampNeg))]) (rest := []) dL_law_772 rfl lkL_78 rfl rfl (Nat.le_of_ble_eq_true rfl) ⟨Nat.le_of_eq (Nat.zero_add _), Nat.le_of_eq (Nat.zero_add _)⟩ (skT_8 hS) ?_
        refine mC_mono (fun r h160 hr => ?_) K
        obtain ⟨x161, rfl, hS, K⟩ := hr
        show mW _ _ _ _ _ _ [.inl x161] _ _
        refine mw_aload_n (pc' := 776) dL_law_775 rfl rfl ?_
        refine mw_aload_n (pc' := 777) dL_law_776 rfl rfl ?_
        refine mw_iload_n (pc' := 778) dL_law_777 rfl rfl ?_
        refine mw_iconst (pc' := 779) (v := 1) dL_law_778 rfl (by decide) ?_
        refine mw_iadd (pc' := 780) dL_law_779 rfl ?_
        obtain ⟨o162, K⟩ := K
        refine mw_sld (pc' := 781) dL_law_780 rfl o162 ?_
        refine mw_callV (pc' := 784) (b' := (0, 0)) (b1 := (b1 + 9, b2 + 5760)) (av := [.inl (gX G ((v3 + 1).toNatClampNeg))]) (rest := [.inl x161]) dL_law_781 rfl lkL_81 rfl rfl (Nat.le_of_ble_eq_true rfl) ⟨Nat.le_of_eq (Nat.zero_add _), Nat.le_of_eq (Nat.zero_add _)⟩ (skT_47 hS) ?_
        refine mC_mono (fun r h163 hr => ?_) K
        obtain ⟨x164, rfl, hS, K⟩ := hr
        show mW _ _ _ _ _ _ [.inl x164, .inl x161] _ _
        refine mw_icmp_eq (pc' := 787) (tgt := 1202) dL_law_784 rfl (by decide) (fun c165 => ?_) (fun c165 => ?_)
        · replace K := K.1 c165
          refine mw_iinc (pc' := 1205) (v := v3 + 7) dL_law_1202 rfl (by decide) rfl rfl ?_
          show mW _ _ _ _ _ [some (.inr (some 0)), some (.inr (some 8)), some (.inr (some 47)), some (.inl (v3 + 7))] _ _ _
          refine mw_goto (tgt := 18) dL_law_1205 (by decide) ?_
          exact K
        · replace K := K.2 c165
          refine mw_iconst (pc' := 788) (v := 0) dL_law_787 rfl (by decide) ?_
          exact mw_iret dL_law_788 rfl (by decide) K
      · replace K := K.2.2.2.2.2.2.2.2.2.2.2.2.2.2.2.1 hv
        refine mw_tableIn (off := 756) (tgt := 789) dL_law_33 (by rw [hv]; decide) (by rw [hv]; decide) (by rw [hv]; rfl) (by decide) ?_
        refine mw_aload_n (pc' := 790) dL_law_789 rfl rfl ?_
        refine mw_aload_n (pc' := 791) dL_law_790 rfl rfl ?_
        refine mw_iload_n (pc' := 792) dL_law_791 rfl rfl ?_
        refine mw_iconst (pc' := 793) (v := 1) dL_law_792 rfl (by decide) ?_
        refine mw_iadd (pc' := 794) dL_law_793 rfl ?_
        obtain ⟨o166, K⟩ := K
        refine mw_sld (pc' := 795) dL_law_794 rfl o166 ?_
        refine mw_callV (pc' := 798) (b' := (0, 0)) (b1 := (b1 + 9, b2 + 5760)) (av := [.inl (gX G ((v3 + 1).toNatClampNeg))]) (rest := []) dL_law_795 rfl lkL_82 rfl rfl (Nat.le_of_ble_eq_true rfl) ⟨Nat.le_of_eq (Nat.zero_add _), Nat.le_of_eq (Nat.zero_add _)⟩ (skT_8 hS) ?_
        refine mC_mono (fun r h167 hr => ?_) K
        obtain ⟨x168, rfl, hS, K⟩ := hr
        show mW _ _ _ _ _ _ [.inl x168] _ _
        refine mw_aload_n (pc' := 799) dL_law_798 rfl rfl ?_
        refine mw_aload_n (pc' := 800) dL_law_799 rfl rfl ?_
        refine mw_iload_n (pc' := 801) dL_law_800 rfl rfl ?_
        refine mw_iconst (pc' := 802) (v := 1) dL_law_801 rfl (by decide) ?_
        refine mw_iadd (pc' := 803) dL_law_802 rfl ?_
        obtain ⟨o169, K⟩ := K
        refine mw_sld (pc' := 804) dL_law_803 rfl o169 ?_
        refine mw_callV (pc' := 807) (b' := (0, 0)) (b1 := (b1 + 9, b2 + 5760)) (av := [.inl (gX G ((v3 + 1).toNatClampNeg))]) (rest := [.inl x168]) dL_law_804 rfl lkL_85 rfl rfl (Nat.le_of_ble_eq_true rfl) ⟨Nat.le_of_eq (Nat.zero_add _), Nat.le_of_eq (Nat.zero_add _)⟩ (skT_47 hS) ?_
        refine mC_mono (fun r h170 hr => ?_) K
        obtain ⟨x171, rfl, hS, K⟩ := hr
        show mW _ _ _ _ _ _ [.inl x171, .inl x168] _ _
        refine mw_icmp_eq (pc' := 810) (tgt := 1202) dL_law_807 rfl (by decide) (fun c172 => ?_) (fun c172 => ?_)
        · replace K := K.1 c172
          refine mw_iinc (pc' := 1205) (v := v3 + 7) dL_law_1202 rfl (by decide) rfl rfl ?_
          show mW _ _ _ _ _ [some (.inr (some 0)), some (.inr (some 8)), some (.inr (some 47)), some (.inl (v3 + 7))] _ _ _
          refine mw_goto (tgt := 18) dL_law_1205 (by decide) ?_
          exact K
        · replace K := K.2 c172
          refine mw_iconst (pc' := 811) (v := 0) dL_law_810 rfl (by decide) ?_
          exact mw_iret dL_law_811 rfl (by decide) K
      · replace K := K.2.2.2.2.2.2.2.2.2.2.2.2.2.2.2.2.1 hv
        refine mw_tableIn (off := 779) (tgt := 812) dL_law_33 (by rw [hv]; decide) (by rw [hv]; decide) (by rw [hv]; rfl) (by decide) ?_
        refine mw_aload_n (pc' := 813) dL_law_812 rfl rfl ?_
        refine mw_aload_n (pc' := 814) dL_law_813 rfl rfl ?_
        refine mw_iload_n (pc' := 815) dL_law_814 rfl rfl ?_
        refine mw_iconst (pc' := 816) (v := 1) dL_law_815 rfl (by decide) ?_
        refine mw_iadd (pc' := 817) dL_law_816 rfl ?_
        obtain ⟨o173, K⟩ := K
        refine mw_sld (pc' := 818) dL_law_817 rfl o173 ?_
        refine mw_aload_n (pc' := 819) dL_law_818 rfl rfl ?_
        refine mw_iload_n (pc' := 820) dL_law_819 rfl rfl ?_
        refine mw_iconst (pc' := 821) (v := 2) dL_law_820 rfl (by decide) ?_
        refine mw_iadd (pc' := 822) dL_law_821 rfl ?_
        obtain ⟨o174, K⟩ := K
        refine mw_sld (pc' := 823) dL_law_822 rfl o174 ?_
        refine mw_callV (pc' := 826) (b' := (0, 0)) (b1 := (b1 + 9, b2 + 5760)) (av := [.inl (gX G ((v3 + 1).toNatClampNeg)), .inl (gX G ((v3 + 2).toNatClampNeg))]) (rest := []) dL_law_823 rfl lkL_86 rfl rfl (Nat.le_of_ble_eq_true rfl) ⟨Nat.le_of_eq (Nat.zero_add _), Nat.le_of_eq (Nat.zero_add _)⟩ (skT_8 hS) ?_
        refine mC_mono (fun r h175 hr => ?_) K
        obtain ⟨x176, rfl, hS, K⟩ := hr
        show mW _ _ _ _ _ _ [.inl x176] _ _
        refine mw_aload_n (pc' := 827) dL_law_826 rfl rfl ?_
        refine mw_aload_n (pc' := 828) dL_law_827 rfl rfl ?_
        refine mw_iload_n (pc' := 829) dL_law_828 rfl rfl ?_
        refine mw_iconst (pc' := 830) (v := 1) dL_law_829 rfl (by decide) ?_
        refine mw_iadd (pc' := 831) dL_law_830 rfl ?_
        obtain ⟨o177, K⟩ := K
        refine mw_sld (pc' := 832) dL_law_831 rfl o177 ?_
        refine mw_aload_n (pc' := 833) dL_law_832 rfl rfl ?_
        refine mw_iload_n (pc' := 834) dL_law_833 rfl rfl ?_
        refine mw_iconst (pc' := 835) (v := 2) dL_law_834 rfl (by decide) ?_
        refine mw_iadd (pc' := 836) dL_law_835 rfl ?_
        obtain ⟨o178, K⟩ := K
        refine mw_sld (pc' := 837) dL_law_836 rfl o178 ?_
        refine mw_callV (pc' := 840) (b' := (0, 0)) (b1 := (b1 + 9, b2 + 5760)) (av := [.inl (gX G ((v3 + 1).toNatClampNeg)), .inl (gX G ((v3 + 2).toNatClampNeg))]) (rest := [.inl x176]) dL_law_837 rfl lkL_89 rfl rfl (Nat.le_of_ble_eq_true rfl) ⟨Nat.le_of_eq (Nat.zero_add _), Nat.le_of_eq (Nat.zero_add _)⟩ (skT_47 hS) ?_
        refine mC_mono (fun r h179 hr => ?_) K
        obtain ⟨x180, rfl, hS, K⟩ := hr
        show mW _ _ _ _ _ _ [.inl x180, .inl x176] _ _
        refine mw_icmp_eq (pc' := 843) (tgt := 1202) dL_law_840 rfl (by decide) (fun c181 => ?_) (fun c181 => ?_)
        · replace K := K.1 c181
          refine mw_iinc (pc' := 1205) (v := v3 + 7) dL_law_1202 rfl (by decide) rfl rfl ?_
          show mW _ _ _ _ _ [some (.inr (some 0)), some (.inr (some 8)), some (.inr (some 47)), some (.inl (v3 + 7))] _ _ _
          refine mw_goto (tgt := 18) dL_law_1205 (by decide) ?_
          exact K
        · replace K := K.2 c181
          refine mw_iconst (pc' := 844) (v := 0) dL_law_843 rfl (by decide) ?_
          exact mw_iret dL_law_844 rfl (by decide) K
      · replace K := K.2.2.2.2.2.2.2.2.2.2.2.2.2.2.2.2.2.1 hv
        refine mw_tableIn (off := 812) (tgt := 845) dL_law_33 (by rw [hv]; decide) (by rw [hv]; decide) (by rw [hv]; rfl) (by decide) ?_
        refine mw_aload_n (pc' := 846) dL_law_845 rfl rfl ?_
        refine mw_aload_n (pc' := 847) dL_law_846 rfl rfl ?_
        refine mw_iload_n (pc' := 848) dL_law_847 rfl rfl ?_
        refine mw_iconst (pc' := 849) (v := 1) dL_law_848 rfl (by decide) ?_
        refine mw_iadd (pc' := 850) dL_law_849 rfl ?_
        obtain ⟨o182, K⟩ := K
        refine mw_sld (pc' := 851) dL_law_850 rfl o182 ?_
        refine mw_aload_n (pc' := 852) dL_law_851 rfl rfl ?_
        refine mw_iload_n (pc' := 853) dL_law_852 rfl rfl ?_
        refine mw_iconst (pc' := 854) (v := 2) dL_law_853 rfl (by decide) ?_
        refine mw_iadd (pc' := 855) dL_law_854 rfl ?_
        obtain ⟨o183, K⟩ := K
        refine mw_sld (pc' := 856) dL_law_855 rfl o183 ?_
        refine mw_aload_n (pc' := 857) dL_law_856 rfl rfl ?_
        refine mw_iload_n (pc' := 858) dL_law_857 rfl rfl ?_
        refine mw_iconst (pc' := 859) (v := 3) dL_law_858 rfl (by decide) ?_
        refine mw_iadd (pc' := 860) dL_law_859 rfl ?_
        obtain ⟨o184, K⟩ := K
        refine mw_sld (pc' := 861) dL_law_860 rfl o184 ?_
        refine mw_aload_n (pc' := 862) dL_law_861 rfl rfl ?_
        refine mw_iload_n (pc' := 863) dL_law_862 rfl rfl ?_
        refine mw_iconst (pc' := 864) (v := 4) dL_law_863 rfl (by decide) ?_
        refine mw_iadd (pc' := 865) dL_law_864 rfl ?_
        obtain ⟨o185, K⟩ := K
        refine mw_sld (pc' := 866) dL_law_865 rfl o185 ?_
        refine mw_callV (pc' := 869) (b' := (0, 0)) (b1 := (b1 + 9, b2 + 5760)) (av := [.inl (gX G ((v3 + 1).toNatClampNeg)), .inl (gX G ((v3 + 2).toNatClampNeg)), .inl (gX G ((v3 + 3).toNatClampNeg)), .inl (gX G ((v3 + 4).toNatClampNeg))]) (rest := []) dL_law_866 rfl lkL_90 rfl rfl (Nat.le_of_ble_eq_true rfl) ⟨Nat.le_of_eq (Nat.zero_add _), Nat.le_of_eq (Nat.zero_add _)⟩ (skT_8 hS) ?_
        refine mC_mono (fun r h186 hr => ?_) K
        obtain ⟨x187, rfl, hS, K⟩ := hr
        show mW _ _ _ _ _ _ [.inl x187] _ _
        refine mw_aload_n (pc' := 870) dL_law_869 rfl rfl ?_
        refine mw_aload_n (pc' := 871) dL_law_870 rfl rfl ?_
        refine mw_iload_n (pc' := 872) dL_law_871 rfl rfl ?_
        refine mw_iconst (pc' := 873) (v := 1) dL_law_872 rfl (by decide) ?_
        refine mw_iadd (pc' := 874) dL_law_873 rfl ?_
        obtain ⟨o188, K⟩ := K
        refine mw_sld (pc' := 875) dL_law_874 rfl o188 ?_
        refine mw_aload_n (pc' := 876) dL_law_875 rfl rfl ?_
        refine mw_iload_n (pc' := 877) dL_law_876 rfl rfl ?_
        refine mw_iconst (pc' := 878) (v := 2) dL_law_877 rfl (by decide) ?_
        refine mw_iadd (pc' := 879) dL_law_878 rfl ?_
        obtain ⟨o189, K⟩ := K
        refine mw_sld (pc' := 880) dL_law_879 rfl o189 ?_
        refine mw_aload_n (pc' := 881) dL_law_880 rfl rfl ?_
        refine mw_iload_n (pc' := 882) dL_law_881 rfl rfl ?_
        refine mw_iconst (pc' := 883) (v := 3) dL_law_882 rfl (by decide) ?_
        refine mw_iadd (pc' := 884) dL_law_883 rfl ?_
        obtain ⟨o190, K⟩ := K
        refine mw_sld (pc' := 885) dL_law_884 rfl o190 ?_
        refine mw_aload_n (pc' := 886) dL_law_885 rfl rfl ?_
        refine mw_iload_n (pc' := 887) dL_law_886 rfl rfl ?_
        refine mw_iconst (pc' := 888) (v := 4) dL_law_887 rfl (by decide) ?_
        refine mw_iadd (pc' := 889) dL_law_888 rfl ?_
        obtain ⟨o191, K⟩ := K
        refine mw_sld (pc' := 890) dL_law_889 rfl o191 ?_
        refine mw_callV (pc' := 893) (b' := (0, 0)) (b1 := (b1 + 9, b2 + 5760)) (av := [.inl (gX G ((v3 + 1).toNatClampNeg)), .inl (gX G ((v3 + 2).toNatClampNeg)), .inl (gX G ((v3 + 3).toNatClampNeg)), .inl (gX G ((v3 + 4).toNatClampNeg))]) (rest := [.inl x187]) dL_law_890 rfl lkL_93 rfl rfl (Nat.le_of_ble_eq_true rfl) ⟨Nat.le_of_eq (Nat.zero_add _), Nat.le_of_eq (Nat.zero_add _)⟩ (skT_47 hS) ?_
        refine mC_mono (fun r h192 hr => ?_) K
        obtain ⟨x193, rfl, hS, K⟩ := hr
        show mW _ _ _ _ _ _ [.inl x193, .inl x187] _ _
        refine mw_icmp_eq (pc' := 896) (tgt := 1202) dL_law_893 rfl (by decide) (fun c194 => ?_) (fun c194 => ?_)
        · replace K := K.1 c194
          refine mw_iinc (pc' := 1205) (v := v3 + 7) dL_law_1202 rfl (by decide) rfl rfl ?_
          show mW _ _ _ _ _ [some (.inr (some 0)), some (.inr (some 8)), some (.inr (some 47)), some (.inl (v3 + 7))] _ _ _
          refine mw_goto (tgt := 18) dL_law_1205 (by decide) ?_
          exact K
        · replace K := K.2 c194
          refine mw_iconst (pc' := 897) (v := 0) dL_law_896 rfl (by decide) ?_
          exact mw_iret dL_law_897 rfl (by decide) K
      · replace K := K.2.2.2.2.2.2.2.2.2.2.2.2.2.2.2.2.2.2.1 hv
        refine mw_tableIn (off := 865) (tgt := 898) dL_law_33 (by rw [hv]; decide) (by rw [hv]; decide) (by rw [hv]; rfl) (by decide) ?_
        refine mw_aload_n (pc' := 899) dL_law_898 rfl rfl ?_
        refine mw_aload_n (pc' := 900) dL_law_899 rfl rfl ?_
        refine mw_iload_n (pc' := 901) dL_law_900 rfl rfl ?_
        refine mw_iconst (pc' := 902) (v := 1) dL_law_901 rfl (by decide) ?_
        refine mw_iadd (pc' := 903) dL_law_902 rfl ?_
        obtain ⟨o195, K⟩ := K
        refine mw_sld (pc' := 904) dL_law_903 rfl o195 ?_
        refine mw_aload_n (pc' := 905) dL_law_904 rfl rfl ?_
        refine mw_iload_n (pc' := 906) dL_law_905 rfl rfl ?_
        refine mw_iconst (pc' := 907) (v := 2) dL_law_906 rfl (by decide) ?_
        refine mw_iadd (pc' := 908) dL_law_907 rfl ?_
        obtain ⟨o196, K⟩ := K
        refine mw_sld (pc' := 909) dL_law_908 rfl o196 ?_
        refine mw_aload_n (pc' := 910) dL_law_909 rfl rfl ?_
        refine mw_iload_n (pc' := 911) dL_law_910 rfl rfl ?_
        refine mw_iconst (pc' := 912) (v := 3) dL_law_911 rfl (by decide) ?_
        refine mw_iadd (pc' := 913) dL_law_912 rfl ?_
        obtain ⟨o197, K⟩ := K
        refine mw_sld (pc' := 914) dL_law_913 rfl o197 ?_
        refine mw_callV (pc' := 917) (b' := (0, 0)) (b1 := (b1 + 9, b2 + 5760)) (av := [.inl (gX G ((v3 + 1).toNatClampNeg)), .inl (gX G ((v3 + 2).toNatClampNeg)), .inl (gX G ((v3 + 3).toNatClampNeg))]) (rest := []) dL_law_914 rfl lkL_94 rfl rfl (Nat.le_of_ble_eq_true rfl) ⟨Nat.le_of_eq (Nat.zero_add _), Nat.le_of_eq (Nat.zero_add _)⟩ (skT_8 hS) ?_
        refine mC_mono (fun r h198 hr => ?_) K
        obtain ⟨x199, rfl, hS, K⟩ := hr
        show mW _ _ _ _ _ _ [.inl x199] _ _
        refine mw_aload_n (pc' := 918) dL_law_917 rfl rfl ?_
        refine mw_aload_n (pc' := 919) dL_law_918 rfl rfl ?_
        refine mw_iload_n (pc' := 920) dL_law_919 rfl rfl ?_
        refine mw_iconst (pc' := 921) (v := 1) dL_law_920 rfl (by decide) ?_
        refine mw_iadd (pc' := 922) dL_law_921 rfl ?_
        obtain ⟨o200, K⟩ := K
        refine mw_sld (pc' := 923) dL_law_922 rfl o200 ?_
        refine mw_aload_n (pc' := 924) dL_law_923 rfl rfl ?_
        refine mw_iload_n (pc' := 925) dL_law_924 rfl rfl ?_
        refine mw_iconst (pc' := 926) (v := 2) dL_law_925 rfl (by decide) ?_
        refine mw_iadd (pc' := 927) dL_law_926 rfl ?_
        obtain ⟨o201, K⟩ := K
        refine mw_sld (pc' := 928) dL_law_927 rfl o201 ?_
        refine mw_aload_n (pc' := 929) dL_law_928 rfl rfl ?_
        refine mw_iload_n (pc' := 930) dL_law_929 rfl rfl ?_
        refine mw_iconst (pc' := 931) (v := 3) dL_law_930 rfl (by decide) ?_
        refine mw_iadd (pc' := 932) dL_law_931 rfl ?_
        obtain ⟨o202, K⟩ := K
        refine mw_sld (pc' := 933) dL_law_932 rfl o202 ?_
        refine mw_callV (pc' := 936) (b' := (0, 0)) (b1 := (b1 + 9, b2 + 5760)) (av := [.inl (gX G ((v3 + 1).toNatClampNeg)), .inl (gX G ((v3 + 2).toNatClampNeg)), .inl (gX G ((v3 + 3).toNatClampNeg))]) (rest := [.inl x199]) dL_law_933 rfl lkL_97 rfl rfl (Nat.le_of_ble_eq_true rfl) ⟨Nat.le_of_eq (Nat.zero_add _), Nat.le_of_eq (Nat.zero_add _)⟩ (skT_47 hS) ?_
        refine mC_mono (fun r h203 hr => ?_) K
        obtain ⟨x204, rfl, hS, K⟩ := hr
        show mW _ _ _ _ _ _ [.inl x204, .inl x199] _ _
        refine mw_icmp_eq (pc' := 939) (tgt := 1202) dL_law_936 rfl (by decide) (fun c205 => ?_) (fun c205 => ?_)
        · replace K := K.1 c205
          refine mw_iinc (pc' := 1205) (v := v3 + 7) dL_law_1202 rfl (by decide) rfl rfl ?_
          show mW _ _ _ _ _ [some (.inr (some 0)), some (.inr (some 8)), some (.inr (some 47)), some (.inl (v3 + 7))] _ _ _
          refine mw_goto (tgt := 18) dL_law_1205 (by decide) ?_
          exact K
        · replace K := K.2 c205
          refine mw_iconst (pc' := 940) (v := 0) dL_law_939 rfl (by decide) ?_
          exact mw_iret dL_law_940 rfl (by decide) K
      · replace K := K.2.2.2.2.2.2.2.2.2.2.2.2.2.2.2.2.2.2.2.1 hv
        refine mw_tableIn (off := 908) (tgt := 941) dL_law_33 (by rw [hv]; decide) (by rw [hv]; decide) (by rw [hv]; rfl) (by decide) ?_
        refine mw_aload_n (pc' := 942) dL_law_941 rfl rfl ?_
        refine mw_aload_n (pc' := 943) dL_law_942 rfl rfl ?_
        refine mw_iload_n (pc' := 944) dL_law_943 rfl rfl ?_
        refine mw_iconst (pc' := 945) (v := 1) dL_law_944 rfl (by decide) ?_
        refine mw_iadd (pc' := 946) dL_law_945 rfl ?_
        obtain ⟨o206, K⟩ := K
        refine mw_sld (pc' := 947) dL_law_946 rfl o206 ?_
        refine mw_aload_n (pc' := 948) dL_law_947 rfl rfl ?_
        refine mw_iload_n (pc' := 949) dL_law_948 rfl rfl ?_
        refine mw_iconst (pc' := 950) (v := 2) dL_law_949 rfl (by decide) ?_
        refine mw_iadd (pc' := 951) dL_law_950 rfl ?_
        obtain ⟨o207, K⟩ := K
        refine mw_sld (pc' := 952) dL_law_951 rfl o207 ?_
        refine mw_aload_n (pc' := 953) dL_law_952 rfl rfl ?_
        refine mw_iload_n (pc' := 954) dL_law_953 rfl rfl ?_
        refine mw_iconst (pc' := 955) (v := 3) dL_law_954 rfl (by decide) ?_
        refine mw_iadd (pc' := 956) dL_law_955 rfl ?_
        obtain ⟨o208, K⟩ := K
        refine mw_sld (pc' := 957) dL_law_956 rfl o208 ?_
        refine mw_aload_n (pc' := 958) dL_law_957 rfl rfl ?_
        refine mw_iload_n (pc' := 959) dL_law_958 rfl rfl ?_
        refine mw_iconst (pc' := 960) (v := 4) dL_law_959 rfl (by decide) ?_
        refine mw_iadd (pc' := 961) dL_law_960 rfl ?_
        obtain ⟨o209, K⟩ := K
        refine mw_sld (pc' := 962) dL_law_961 rfl o209 ?_
        refine mw_callV (pc' := 965) (b' := (0, 0)) (b1 := (b1 + 9, b2 + 5760)) (av := [.inl (gX G ((v3 + 1).toNatClampNeg)), .inl (gX G ((v3 + 2).toNatClampNeg)), .inl (gX G ((v3 + 3).toNatClampNeg)), .inl (gX G ((v3 + 4).toNatClampNeg))]) (rest := []) dL_law_962 rfl lkL_98 rfl rfl (Nat.le_of_ble_eq_true rfl) ⟨Nat.le_of_eq (Nat.zero_add _), Nat.le_of_eq (Nat.zero_add _)⟩ (skT_8 hS) ?_
        refine mC_mono (fun r h210 hr => ?_) K
        obtain ⟨x211, rfl, hS, K⟩ := hr
        show mW _ _ _ _ _ _ [.inl x211] _ _
        refine mw_aload_n (pc' := 966) dL_law_965 rfl rfl ?_
        refine mw_aload_n (pc' := 967) dL_law_966 rfl rfl ?_
        refine mw_iload_n (pc' := 968) dL_law_967 rfl rfl ?_
        refine mw_iconst (pc' := 969) (v := 1) dL_law_968 rfl (by decide) ?_
        refine mw_iadd (pc' := 970) dL_law_969 rfl ?_
        obtain ⟨o212, K⟩ := K
        refine mw_sld (pc' := 971) dL_law_970 rfl o212 ?_
        refine mw_aload_n (pc' := 972) dL_law_971 rfl rfl ?_
        refine mw_iload_n (pc' := 973) dL_law_972 rfl rfl ?_
        refine mw_iconst (pc' := 974) (v := 2) dL_law_973 rfl (by decide) ?_
        refine mw_iadd (pc' := 975) dL_law_974 rfl ?_
        obtain ⟨o213, K⟩ := K
        refine mw_sld (pc' := 976) dL_law_975 rfl o213 ?_
        refine mw_aload_n (pc' := 977) dL_law_976 rfl rfl ?_
        refine mw_iload_n (pc' := 978) dL_law_977 rfl rfl ?_
        refine mw_iconst (pc' := 979) (v := 3) dL_law_978 rfl (by decide) ?_
        refine mw_iadd (pc' := 980) dL_law_979 rfl ?_
        obtain ⟨o214, K⟩ := K
        refine mw_sld (pc' := 981) dL_law_980 rfl o214 ?_
        refine mw_aload_n (pc' := 982) dL_law_981 rfl rfl ?_
        refine mw_iload_n (pc' := 983) dL_law_982 rfl rfl ?_
        refine mw_iconst (pc' := 984) (v := 4) dL_law_983 rfl (by decide) ?_
        refine mw_iadd (pc' := 985) dL_law_984 rfl ?_
        obtain ⟨o215, K⟩ := K
        refine mw_sld (pc' := 986) dL_law_985 rfl o215 ?_
        refine mw_callV (pc' := 989) (b' := (0, 0)) (b1 := (b1 + 9, b2 + 5760)) (av := [.inl (gX G ((v3 + 1).toNatClampNeg)), .inl (gX G ((v3 + 2).toNatClampNeg)), .inl (gX G ((v3 + 3).toNatClampNeg)), .inl (gX G ((v3 + 4).toNatClampNeg))]) (rest := [.inl x211]) dL_law_986 rfl lkL_101 rfl rfl (Nat.le_of_ble_eq_true rfl) ⟨Nat.le_of_eq (Nat.zero_add _), Nat.le_of_eq (Nat.zero_add _)⟩ (skT_47 hS) ?_
        refine mC_mono (fun r h216 hr => ?_) K
        obtain ⟨x217, rfl, hS, K⟩ := hr
        show mW _ _ _ _ _ _ [.inl x217, .inl x211] _ _
        refine mw_icmp_eq (pc' := 992) (tgt := 1202) dL_law_989 rfl (by decide) (fun c218 => ?_) (fun c218 => ?_)
        · replace K := K.1 c218
          refine mw_iinc (pc' := 1205) (v := v3 + 7) dL_law_1202 rfl (by decide) rfl rfl ?_
          show mW _ _ _ _ _ [some (.inr (some 0)), some (.inr (some 8)), some (.inr (some 47)), some (.inl (v3 + 7))] _ _ _
          refine mw_goto (tgt := 18) dL_law_1205 (by decide) ?_
          exact K
        · replace K := K.2 c218
          refine mw_iconst (pc' := 993) (v := 0) dL_law_992 rfl (by decide) ?_
          exact mw_iret dL_law_993 rfl (by decide) K
      · replace K := K.2.2.2.2.2.2.2.2.2.2.2.2.2.2.2.2.2.2.2.2.1 hv
        refine mw_tableIn (off := 961) (tgt := 994) dL_law_33 (by rw [hv]; decide) (by rw [hv]; decide) (by rw [hv]; rfl) (by decide) ?_
        refine mw_aload_n (pc' := 995) dL_law_994 rfl rfl ?_
        refine mw_aload_n (pc' := 996) dL_law_995 rfl rfl ?_
        refine mw_iload_n (pc' := 997) dL_law_996 rfl rfl ?_
        refine mw_iconst (pc' := 998) (v := 1) dL_law_997 rfl (by decide) ?_
        refine mw_iadd (pc' := 999) dL_law_998 rfl ?_
        obtain ⟨o219, K⟩ := K
        refine mw_sld (pc' := 1000) dL_law_999 rfl o219 ?_
        refine mw_callV (pc' := 1003) (b' := (0, 0)) (b1 := (b1 + 9, b2 + 5760)) (av := [.inl (gX G ((v3 + 1).toNatClampNeg))]) (rest := []) dL_law_1000 rfl lkL_102 rfl rfl (Nat.le_of_ble_eq_true rfl) ⟨Nat.le_of_eq (Nat.zero_add _), Nat.le_of_eq (Nat.zero_add _)⟩ (skT_8 hS) ?_
        refine mC_mono (fun r h220 hr => ?_) K
        obtain ⟨x221, rfl, hS, K⟩ := hr
        show mW _ _ _ _ _ _ [.inl x221] _ _
        refine mw_aload_n (pc' := 1004) dL_law_1003 rfl rfl ?_
        refine mw_aload_n (pc' := 1005) dL_law_1004 rfl rfl ?_
        refine mw_iload_n (pc' := 1006) dL_law_1005 rfl rfl ?_
        refine mw_iconst (pc' := 1007) (v := 1) dL_law_1006 rfl (by decide) ?_
        refine mw_iadd (pc' := 1008) dL_law_1007 rfl ?_
        obtain ⟨o222, K⟩ := K
        refine mw_sld (pc' := 1009) dL_law_1008 rfl o222 ?_
        refine mw_callV (pc' := 1012) (b' := (0, 0)) (b1 := (b1 + 9, b2 + 5760)) (av := [.inl (gX G ((v3 + 1).toNatClampNeg))]) (rest := [.inl x221]) dL_law_1009 rfl lkL_105 rfl rfl (Nat.le_of_ble_eq_true rfl) ⟨Nat.le_of_eq (Nat.zero_add _), Nat.le_of_eq (Nat.zero_add _)⟩ (skT_47 hS) ?_
        refine mC_mono (fun r h223 hr => ?_) K
        obtain ⟨x224, rfl, hS, K⟩ := hr
        show mW _ _ _ _ _ _ [.inl x224, .inl x221] _ _
        refine mw_icmp_eq (pc' := 1015) (tgt := 1202) dL_law_1012 rfl (by decide) (fun c225 => ?_) (fun c225 => ?_)
        · replace K := K.1 c225
          refine mw_iinc (pc' := 1205) (v := v3 + 7) dL_law_1202 rfl (by decide) rfl rfl ?_
          show mW _ _ _ _ _ [some (.inr (some 0)), some (.inr (some 8)), some (.inr (some 47)), some (.inl (v3 + 7))] _ _ _
          refine mw_goto (tgt := 18) dL_law_1205 (by decide) ?_
          exact K
        · replace K := K.2 c225
          refine mw_iconst (pc' := 1016) (v := 0) dL_law_1015 rfl (by decide) ?_
          exact mw_iret dL_law_1016 rfl (by decide) K
      · replace K := K.2.2.2.2.2.2.2.2.2.2.2.2.2.2.2.2.2.2.2.2.2.1 hv
        refine mw_tableIn (off := 984) (tgt := 1017) dL_law_33 (by rw [hv]; decide) (by rw [hv]; decide) (by rw [hv]; rfl) (by decide) ?_
        refine mw_aload_n (pc' := 1018) dL_law_1017 rfl rfl ?_
        refine mw_aload_n (pc' := 1019) dL_law_1018 rfl rfl ?_
        refine mw_iload_n (pc' := 1020) dL_law_1019 rfl rfl ?_
        refine mw_iconst (pc' := 1021) (v := 1) dL_law_1020 rfl (by decide) ?_
        refine mw_iadd (pc' := 1022) dL_law_1021 rfl ?_
        obtain ⟨o226, K⟩ := K
        refine mw_sld (pc' := 1023) dL_law_1022 rfl o226 ?_
        refine mw_callV (pc' := 1026) (b' := (0, 0)) (b1 := (b1 + 9, b2 + 5760)) (av := [.inl (gX G ((v3 + 1).toNatClampNeg))]) (rest := []) dL_law_1023 rfl lkL_106 rfl rfl (Nat.le_of_ble_eq_true rfl) ⟨Nat.le_of_eq (Nat.zero_add _), Nat.le_of_eq (Nat.zero_add _)⟩ (skT_8 hS) ?_
        refine mC_mono (fun r h227 hr => ?_) K
        obtain ⟨x228, rfl, hS, K⟩ := hr
        show mW _ _ _ _ _ _ [.inl x228] _ _
        refine mw_aload_n (pc' := 1027) dL_law_1026 rfl rfl ?_
        refine mw_aload_n (pc' := 1028) dL_law_1027 rfl rfl ?_
        refine mw_iload_n (pc' := 1029) dL_law_1028 rfl rfl ?_
        refine mw_iconst (pc' := 1030) (v := 1) dL_law_1029 rfl (by decide) ?_
        refine mw_iadd (pc' := 1031) dL_law_1030 rfl ?_
        obtain ⟨o229, K⟩ := K
        refine mw_sld (pc' := 1032) dL_law_1031 rfl o229 ?_
        refine mw_callV (pc' := 1035) (b' := (0, 0)) (b1 := (b1 + 9, b2 + 5760)) (av := [.inl (gX G ((v3 + 1).toNatClampNeg))]) (rest := [.inl x228]) dL_law_1032 rfl lkL_109 rfl rfl (Nat.le_of_ble_eq_true rfl) ⟨Nat.le_of_eq (Nat.zero_add _), Nat.le_of_eq (Nat.zero_add _)⟩ (skT_47 hS) ?_
        refine mC_mono (fun r h230 hr => ?_) K
        obtain ⟨x231, rfl, hS, K⟩ := hr
        show mW _ _ _ _ _ _ [.inl x231, .inl x228] _ _
        refine mw_icmp_eq (pc' := 1038) (tgt := 1202) dL_law_1035 rfl (by decide) (fun c232 => ?_) (fun c232 => ?_)
        · replace K := K.1 c232
          refine mw_iinc (pc' := 1205) (v := v3 + 7) dL_law_1202 rfl (by decide) rfl rfl ?_
          show mW _ _ _ _ _ [some (.inr (some 0)), some (.inr (some 8)), some (.inr (some 47)), some (.inl (v3 + 7))] _ _ _
          refine mw_goto (tgt := 18) dL_law_1205 (by decide) ?_
          exact K
        · replace K := K.2 c232
          refine mw_iconst (pc' := 1039) (v := 0) dL_law_1038 rfl (by decide) ?_
          exact mw_iret dL_law_1039 rfl (by decide) K
      · replace K := K.2.2.2.2.2.2.2.2.2.2.2.2.2.2.2.2.2.2.2.2.2.2.1 hv
        refine mw_tableIn (off := 1007) (tgt := 1040) dL_law_33 (by rw [hv]; decide) (by rw [hv]; decide) (by rw [hv]; rfl) (by decide) ?_
        refine mw_aload_n (pc' := 1041) dL_law_1040 rfl rfl ?_
        refine mw_aload_n (pc' := 1042) dL_law_1041 rfl rfl ?_
        refine mw_iload_n (pc' := 1043) dL_law_1042 rfl rfl ?_
        refine mw_iconst (pc' := 1044) (v := 1) dL_law_1043 rfl (by decide) ?_
        refine mw_iadd (pc' := 1045) dL_law_1044 rfl ?_
        obtain ⟨o233, K⟩ := K
        refine mw_sld (pc' := 1046) dL_law_1045 rfl o233 ?_
        refine mw_aload_n (pc' := 1047) dL_law_1046 rfl rfl ?_
        refine mw_iload_n (pc' := 1048) dL_law_1047 rfl rfl ?_
        refine mw_iconst (pc' := 1049) (v := 2) dL_law_1048 rfl (by decide) ?_
        refine mw_iadd (pc' := 1050) dL_law_1049 rfl ?_
        obtain ⟨o234, K⟩ := K
        refine mw_sld (pc' := 1051) dL_law_1050 rfl o234 ?_
        refine mw_aload_n (pc' := 1052) dL_law_1051 rfl rfl ?_
        refine mw_iload_n (pc' := 1053) dL_law_1052 rfl rfl ?_
        refine mw_iconst (pc' := 1054) (v := 3) dL_law_1053 rfl (by decide) ?_
        refine mw_iadd (pc' := 1055) dL_law_1054 rfl ?_
        obtain ⟨o235, K⟩ := K
        refine mw_sld (pc' := 1056) dL_law_1055 rfl o235 ?_
        refine mw_aload_n (pc' := 1057) dL_law_1056 rfl rfl ?_
        refine mw_iload_n (pc' := 1058) dL_law_1057 rfl rfl ?_
        refine mw_iconst (pc' := 1059) (v := 4) dL_law_1058 rfl (by decide) ?_
        refine mw_iadd (pc' := 1060) dL_law_1059 rfl ?_
        obtain ⟨o236, K⟩ := K
        refine mw_sld (pc' := 1061) dL_law_1060 rfl o236 ?_
        refine mw_aload_n (pc' := 1062) dL_law_1061 rfl rfl ?_
        refine mw_iload_n (pc' := 1063) dL_law_1062 rfl rfl ?_
        refine mw_iconst (pc' := 1064) (v := 5) dL_law_1063 rfl (by decide) ?_
        refine mw_iadd (pc' := 1065) dL_law_1064 rfl ?_
        obtain ⟨o237, K⟩ := K
        refine mw_sld (pc' := 1066) dL_law_1065 rfl o237 ?_
        refine mw_callV (pc' := 1069) (b' := (0, 0)) (b1 := (b1 + 9, b2 + 5760)) (av := [.inl (gX G ((v3 + 1).toNatClampNeg)), .inl (gX G ((v3 + 2).toNatClampNeg)), .inl (gX G ((v3 + 3).toNatClampNeg)), .inl (gX G ((v3 + 4).toNatClampNeg)), .inl (gX G ((v3 + 5).toNatClampNeg))]) (rest := []) dL_law_1066 rfl lkL_110 rfl rfl (Nat.le_of_ble_eq_true rfl) ⟨Nat.le_of_eq (Nat.zero_add _), Nat.le_of_eq (Nat.zero_add _)⟩ (skT_8 hS) ?_
        refine mC_mono (fun r h238 hr => ?_) K
        obtain ⟨x239, rfl, hS, K⟩ := hr
        show mW _ _ _ _ _ _ [.inl x239] _ _
        refine mw_aload_n (pc' := 1070) dL_law_1069 rfl rfl ?_
        refine mw_aload_n (pc' := 1071) dL_law_1070 rfl rfl ?_
        refine mw_iload_n (pc' := 1072) dL_law_1071 rfl rfl ?_
        refine mw_iconst (pc' := 1073) (v := 1) dL_law_1072 rfl (by decide) ?_
        refine mw_iadd (pc' := 1074) dL_law_1073 rfl ?_
        obtain ⟨o240, K⟩ := K
        refine mw_sld (pc' := 1075) dL_law_1074 rfl o240 ?_
        refine mw_aload_n (pc' := 1076) dL_law_1075 rfl rfl ?_
        refine mw_iload_n (pc' := 1077) dL_law_1076 rfl rfl ?_
        refine mw_iconst (pc' := 1078) (v := 2) dL_law_1077 rfl (by decide) ?_
        refine mw_iadd (pc' := 1079) dL_law_1078 rfl ?_
        obtain ⟨o241, K⟩ := K
        refine mw_sld (pc' := 1080) dL_law_1079 rfl o241 ?_
        refine mw_aload_n (pc' := 1081) dL_law_1080 rfl rfl ?_
        refine mw_iload_n (pc' := 1082) dL_law_1081 rfl rfl ?_
        refine mw_iconst (pc' := 1083) (v := 3) dL_law_1082 rfl (by decide) ?_
        refine mw_iadd (pc' := 1084) dL_law_1083 rfl ?_
        obtain ⟨o242, K⟩ := K
        refine mw_sld (pc' := 1085) dL_law_1084 rfl o242 ?_
        refine mw_aload_n (pc' := 1086) dL_law_1085 rfl rfl ?_
        refine mw_iload_n (pc' := 1087) dL_law_1086 rfl rfl ?_
        refine mw_iconst (pc' := 1088) (v := 4) dL_law_1087 rfl (by decide) ?_
        refine mw_iadd (pc' := 1089) dL_law_1088 rfl ?_
        obtain ⟨o243, K⟩ := K
        refine mw_sld (pc' := 1090) dL_law_1089 rfl o243 ?_
        refine mw_aload_n (pc' := 1091) dL_law_1090 rfl rfl ?_
        refine mw_iload_n (pc' := 1092) dL_law_1091 rfl rfl ?_
        refine mw_iconst (pc' := 1093) (v := 5) dL_law_1092 rfl (by decide) ?_
        refine mw_iadd (pc' := 1094) dL_law_1093 rfl ?_
        obtain ⟨o244, K⟩ := K
        refine mw_sld (pc' := 1095) dL_law_1094 rfl o244 ?_
        refine mw_callV (pc' := 1098) (b' := (0, 0)) (b1 := (b1 + 9, b2 + 5760)) (av := [.inl (gX G ((v3 + 1).toNatClampNeg)), .inl (gX G ((v3 + 2).toNatClampNeg)), .inl (gX G ((v3 + 3).toNatClampNeg)), .inl (gX G ((v3 + 4).toNatClampNeg)), .inl (gX G ((v3 + 5).toNatClampNeg))]) (rest := [.inl x239]) dL_law_1095 rfl lkL_113 rfl rfl (Nat.le_of_ble_eq_true rfl) ⟨Nat.le_of_eq (Nat.zero_add _), Nat.le_of_eq (Nat.zero_add _)⟩ (skT_47 hS) ?_
        refine mC_mono (fun r h245 hr => ?_) K
        obtain ⟨x246, rfl, hS, K⟩ := hr
        show mW _ _ _ _ _ _ [.inl x246, .inl x239] _ _
        refine mw_icmp_eq (pc' := 1101) (tgt := 1202) dL_law_1098 rfl (by decide) (fun c247 => ?_) (fun c247 => ?_)
        · replace K := K.1 c247
          refine mw_iinc (pc' := 1205) (v := v3 + 7) dL_law_1202 rfl (by decide) rfl rfl ?_
          show mW _ _ _ _ _ [some (.inr (some 0)), some (.inr (some 8)), some (.inr (some 47)), some (.inl (v3 + 7))] _ _ _
          refine mw_goto (tgt := 18) dL_law_1205 (by decide) ?_
          exact K
        · replace K := K.2 c247
          refine mw_iconst (pc' := 1102) (v := 0) dL_law_1101 rfl (by decide) ?_
          exact mw_iret dL_law_1102 rfl (by decide) K
      · replace K := K.2.2.2.2.2.2.2.2.2.2.2.2.2.2.2.2.2.2.2.2.2.2.2.1 hv
        refine mw_tableIn (off := 1070) (tgt := 1103) dL_law_33 (by rw [hv]; decide) (by rw [hv]; decide) (by rw [hv]; rfl) (by decide) ?_
        refine mw_aload_n (pc' := 1104) dL_law_1103 rfl rfl ?_
        refine mw_aload_n (pc' := 1105) dL_law_1104 rfl rfl ?_
        refine mw_iload_n (pc' := 1106) dL_law_1105 rfl rfl ?_
        refine mw_iconst (pc' := 1107) (v := 1) dL_law_1106 rfl (by decide) ?_
        refine mw_iadd (pc' := 1108) dL_law_1107 rfl ?_
        obtain ⟨o248, K⟩ := K
        refine mw_sld (pc' := 1109) dL_law_1108 rfl o248 ?_
        refine mw_aload_n (pc' := 1110) dL_law_1109 rfl rfl ?_
        refine mw_iload_n (pc' := 1111) dL_law_1110 rfl rfl ?_
        refine mw_iconst (pc' := 1112) (v := 2) dL_law_1111 rfl (by decide) ?_
        refine mw_iadd (pc' := 1113) dL_law_1112 rfl ?_
        obtain ⟨o249, K⟩ := K
        refine mw_sld (pc' := 1114) dL_law_1113 rfl o249 ?_
        refine mw_aload_n (pc' := 1115) dL_law_1114 rfl rfl ?_
        refine mw_iload_n (pc' := 1116) dL_law_1115 rfl rfl ?_
        refine mw_iconst (pc' := 1117) (v := 3) dL_law_1116 rfl (by decide) ?_
        refine mw_iadd (pc' := 1118) dL_law_1117 rfl ?_
        obtain ⟨o250, K⟩ := K
        refine mw_sld (pc' := 1119) dL_law_1118 rfl o250 ?_
        refine mw_callV (pc' := 1122) (b' := (0, 0)) (b1 := (b1 + 9, b2 + 5760)) (av := [.inl (gX G ((v3 + 1).toNatClampNeg)), .inl (gX G ((v3 + 2).toNatClampNeg)), .inl (gX G ((v3 + 3).toNatClampNeg))]) (rest := []) dL_law_1119 rfl lkL_114 rfl rfl (Nat.le_of_ble_eq_true rfl) ⟨Nat.le_of_eq (Nat.zero_add _), Nat.le_of_eq (Nat.zero_add _)⟩ (skT_8 hS) ?_
        refine mC_mono (fun r h251 hr => ?_) K
        obtain ⟨x252, rfl, hS, K⟩ := hr
        show mW _ _ _ _ _ _ [.inl x252] _ _
        refine mw_aload_n (pc' := 1123) dL_law_1122 rfl rfl ?_
        refine mw_aload_n (pc' := 1124) dL_law_1123 rfl rfl ?_
        refine mw_iload_n (pc' := 1125) dL_law_1124 rfl rfl ?_
        refine mw_iconst (pc' := 1126) (v := 1) dL_law_1125 rfl (by decide) ?_
        refine mw_iadd (pc' := 1127) dL_law_1126 rfl ?_
        obtain ⟨o253, K⟩ := K
        refine mw_sld (pc' := 1128) dL_law_1127 rfl o253 ?_
        refine mw_aload_n (pc' := 1129) dL_law_1128 rfl rfl ?_
        refine mw_iload_n (pc' := 1130) dL_law_1129 rfl rfl ?_
        refine mw_iconst (pc' := 1131) (v := 2) dL_law_1130 rfl (by decide) ?_
        refine mw_iadd (pc' := 1132) dL_law_1131 rfl ?_
        obtain ⟨o254, K⟩ := K
        refine mw_sld (pc' := 1133) dL_law_1132 rfl o254 ?_
        refine mw_aload_n (pc' := 1134) dL_law_1133 rfl rfl ?_
        refine mw_iload_n (pc' := 1135) dL_law_1134 rfl rfl ?_
        refine mw_iconst (pc' := 1136) (v := 3) dL_law_1135 rfl (by decide) ?_
        refine mw_iadd (pc' := 1137) dL_law_1136 rfl ?_
        obtain ⟨o255, K⟩ := K
        refine mw_sld (pc' := 1138) dL_law_1137 rfl o255 ?_
        refine mw_callV (pc' := 1141) (b' := (0, 0)) (b1 := (b1 + 9, b2 + 5760)) (av := [.inl (gX G ((v3 + 1).toNatClampNeg)), .inl (gX G ((v3 + 2).toNatClampNeg)), .inl (gX G ((v3 + 3).toNatClampNeg))]) (rest := [.inl x252]) dL_law_1138 rfl lkL_117 rfl rfl (Nat.le_of_ble_eq_true rfl) ⟨Nat.le_of_eq (Nat.zero_add _), Nat.le_of_eq (Nat.zero_add _)⟩ (skT_47 hS) ?_
        refine mC_mono (fun r h256 hr => ?_) K
        obtain ⟨x257, rfl, hS, K⟩ := hr
        show mW _ _ _ _ _ _ [.inl x257, .inl x252] _ _
        refine mw_icmp_eq (pc' := 1144) (tgt := 1202) dL_law_1141 rfl (by decide) (fun c258 => ?_) (fun c258 => ?_)
        · replace K := K.1 c258
          refine mw_iinc (pc' := 1205) (v := v3 + 7) dL_law_1202 rfl (by decide) rfl rfl ?_
          show mW _ _ _ _ _ [some (.inr (some 0)), some (.inr (some 8)), some (.inr (some 47)), some (.inl (v3 + 7))] _ _ _
          refine mw_goto (tgt := 18) dL_law_1205 (by decide) ?_
          exact K
        · replace K := K.2 c258
          refine mw_iconst (pc' := 1145) (v := 0) dL_law_1144 rfl (by decide) ?_
          exact mw_iret dL_law_1145 rfl (by decide) K
      · replace K := K.2.2.2.2.2.2.2.2.2.2.2.2.2.2.2.2.2.2.2.2.2.2.2.2.1 hv
        refine mw_tableIn (off := 1113) (tgt := 1146) dL_law_33 (by rw [hv]; decide) (by rw [hv]; decide) (by rw [hv]; rfl) (by decide) ?_
        refine mw_aload_n (pc' := 1147) dL_law_1146 rfl rfl ?_
        refine mw_aload_n (pc' := 1148) dL_law_1147 rfl rfl ?_
        refine mw_iload_n (pc' := 1149) dL_law_1148 rfl rfl ?_
        refine mw_iconst (pc' := 1150) (v := 1) dL_law_1149 rfl (by decide) ?_
        refine mw_iadd (pc' := 1151) dL_law_1150 rfl ?_
        obtain ⟨o259, K⟩ := K
        refine mw_sld (pc' := 1152) dL_law_1151 rfl o259 ?_
        refine mw_aload_n (pc' := 1153) dL_law_1152 rfl rfl ?_
        refine mw_iload_n (pc' := 1154) dL_law_1153 rfl rfl ?_
        refine mw_iconst (pc' := 1155) (v := 2) dL_law_1154 rfl (by decide) ?_
        refine mw_iadd (pc' := 1156) dL_law_1155 rfl ?_
        obtain ⟨o260, K⟩ := K
        refine mw_sld (pc' := 1157) dL_law_1156 rfl o260 ?_
        refine mw_callV (pc' := 1160) (b' := (0, 0)) (b1 := (b1 + 9, b2 + 5760)) (av := [.inl (gX G ((v3 + 1).toNatClampNeg)), .inl (gX G ((v3 + 2).toNatClampNeg))]) (rest := []) dL_law_1157 rfl lkL_118 rfl rfl (Nat.le_of_ble_eq_true rfl) ⟨Nat.le_of_eq (Nat.zero_add _), Nat.le_of_eq (Nat.zero_add _)⟩ (skT_8 hS) ?_
        refine mC_mono (fun r h261 hr => ?_) K
        obtain ⟨x262, rfl, hS, K⟩ := hr
        show mW _ _ _ _ _ _ [.inl x262] _ _
        refine mw_aload_n (pc' := 1161) dL_law_1160 rfl rfl ?_
        refine mw_aload_n (pc' := 1162) dL_law_1161 rfl rfl ?_
        refine mw_iload_n (pc' := 1163) dL_law_1162 rfl rfl ?_
        refine mw_iconst (pc' := 1164) (v := 1) dL_law_1163 rfl (by decide) ?_
        refine mw_iadd (pc' := 1165) dL_law_1164 rfl ?_
        obtain ⟨o263, K⟩ := K
        refine mw_sld (pc' := 1166) dL_law_1165 rfl o263 ?_
        refine mw_aload_n (pc' := 1167) dL_law_1166 rfl rfl ?_
        refine mw_iload_n (pc' := 1168) dL_law_1167 rfl rfl ?_
        refine mw_iconst (pc' := 1169) (v := 2) dL_law_1168 rfl (by decide) ?_
        refine mw_iadd (pc' := 1170) dL_law_1169 rfl ?_
        obtain ⟨o264, K⟩ := K
        refine mw_sld (pc' := 1171) dL_law_1170 rfl o264 ?_
        refine mw_callV (pc' := 1174) (b' := (0, 0)) (b1 := (b1 + 9, b2 + 5760)) (av := [.inl (gX G ((v3 + 1).toNatClampNeg)), .inl (gX G ((v3 + 2).toNatClampNeg))]) (rest := [.inl x262]) dL_law_1171 rfl lkL_121 rfl rfl (Nat.le_of_ble_eq_true rfl) ⟨Nat.le_of_eq (Nat.zero_add _), Nat.le_of_eq (Nat.zero_add _)⟩ (skT_47 hS) ?_
        refine mC_mono (fun r h265 hr => ?_) K
        obtain ⟨x266, rfl, hS, K⟩ := hr
        show mW _ _ _ _ _ _ [.inl x266, .inl x262] _ _
        refine mw_icmp_eq (pc' := 1177) (tgt := 1202) dL_law_1174 rfl (by decide) (fun c267 => ?_) (fun c267 => ?_)
        · replace K := K.1 c267
          refine mw_iinc (pc' := 1205) (v := v3 + 7) dL_law_1202 rfl (by decide) rfl rfl ?_
          show mW _ _ _ _ _ [some (.inr (some 0)), some (.inr (some 8)), some (.inr (some 47)), some (.inl (v3 + 7))] _ _ _
          refine mw_goto (tgt := 18) dL_law_1205 (by decide) ?_
          exact K
        · replace K := K.2 c267
          refine mw_iconst (pc' := 1178) (v := 0) dL_law_1177 rfl (by decide) ?_
          exact mw_iret dL_law_1178 rfl (by decide) K
      · replace K := K.2.2.2.2.2.2.2.2.2.2.2.2.2.2.2.2.2.2.2.2.2.2.2.2.2 hv
        refine mw_tableIn (off := 1146) (tgt := 1179) dL_law_33 (by rw [hv]; decide) (by rw [hv]; decide) (by rw [hv]; rfl) (by decide) ?_
        refine mw_aload_n (pc' := 1180) dL_law_1179 rfl rfl ?_
        refine mw_aload_n (pc' := 1181) dL_law_1180 rfl rfl ?_
        refine mw_iload_n (pc' := 1182) dL_law_1181 rfl rfl ?_
        refine mw_iconst (pc' := 1183) (v := 1) dL_law_1182 rfl (by decide) ?_
        refine mw_iadd (pc' := 1184) dL_law_1183 rfl ?_
        obtain ⟨o268, K⟩ := K
        refine mw_sld (pc' := 1185) dL_law_1184 rfl o268 ?_
        refine mw_callV (pc' := 1188) (b' := (0, 0)) (b1 := (b1 + 9, b2 + 5760)) (av := [.inl (gX G ((v3 + 1).toNatClampNeg))]) (rest := []) dL_law_1185 rfl lkL_122 rfl rfl (Nat.le_of_ble_eq_true rfl) ⟨Nat.le_of_eq (Nat.zero_add _), Nat.le_of_eq (Nat.zero_add _)⟩ (skT_8 hS) ?_
        refine mC_mono (fun r h269 hr => ?_) K
        obtain ⟨x270, rfl, hS, K⟩ := hr
        show mW _ _ _ _ _ _ [.inl x270] _ _
        refine mw_aload_n (pc' := 1189) dL_law_1188 rfl rfl ?_
        refine mw_aload_n (pc' := 1190) dL_law_1189 rfl rfl ?_
        refine mw_iload_n (pc' := 1191) dL_law_1190 rfl rfl ?_
        refine mw_iconst (pc' := 1192) (v := 1) dL_law_1191 rfl (by decide) ?_
        refine mw_iadd (pc' := 1193) dL_law_1192 rfl ?_
        obtain ⟨o271, K⟩ := K
        refine mw_sld (pc' := 1194) dL_law_1193 rfl o271 ?_
        refine mw_callV (pc' := 1197) (b' := (0, 0)) (b1 := (b1 + 9, b2 + 5760)) (av := [.inl (gX G ((v3 + 1).toNatClampNeg))]) (rest := [.inl x270]) dL_law_1194 rfl lkL_125 rfl rfl (Nat.le_of_ble_eq_true rfl) ⟨Nat.le_of_eq (Nat.zero_add _), Nat.le_of_eq (Nat.zero_add _)⟩ (skT_47 hS) ?_
        refine mC_mono (fun r h272 hr => ?_) K
        obtain ⟨x273, rfl, hS, K⟩ := hr
        show mW _ _ _ _ _ _ [.inl x273, .inl x270] _ _
        refine mw_icmp_eq (pc' := 1200) (tgt := 1202) dL_law_1197 rfl (by decide) (fun c274 => ?_) (fun c274 => ?_)
        · replace K := K.1 c274
          refine mw_iinc (pc' := 1205) (v := v3 + 7) dL_law_1202 rfl (by decide) rfl rfl ?_
          show mW _ _ _ _ _ [some (.inr (some 0)), some (.inr (some 8)), some (.inr (some 47)), some (.inl (v3 + 7))] _ _ _
          refine mw_goto (tgt := 18) dL_law_1205 (by decide) ?_
          exact K
        · replace K := K.2 c274
          refine mw_iconst (pc' := 1201) (v := 0) dL_law_1200 rfl (by decide) ?_
          exact mw_iret dL_law_1201 rfl (by decide) K
