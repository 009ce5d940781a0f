theorem stray_eq {n r : Nat} {w s2 s3 : Nat → Nat} (hn : n ≤ 6) (hr8 : r ≤ 8) (hr : ∀ k, k < r → s2 k < n ∧ s3 k < n ∧ s2 k ≠ s3 k) {I : aI} (J : aJ) (h03 : I 0 3 = nI n) (h04 : I 0 4 = nI r) (h23 : ∀ k, k < r → I 2 k = nI (s2 k) ∧ I 3 k = nI (s3 k)) (hw : ∀ a, a < n → J 17 a = lN (w a)) :
    ∃ J', fX8_stray I J = some ((), I, J') ∧ (∀ a, a < n → J' 17 a = lN (stw r (fun a => dgr s2 s3 a r) w s2 s3 a)) ∧ ∀ q j, q ≠ 17 → q ≠ 18 → J' q j = J q j := by
  obtain ⟨dg, hdg⟩ : ∃ dg : Nat → Nat, dg = fun a => dgr s2 s3 a r := ⟨_, rfl⟩
  have dgle : ∀ a, dg a ≤ 8 := fun a => by rw [hdg]; exact Nat.le_trans (dgr_le s2 s3 a r) hr8
  rw [← hdg]
  -- the roads of one corner
  have inner : ∀ (k23 : Int32 → aI → aJ → Option (RT Unit)) (a : Nat) (X : Nat → Nat) (z : aJ), a < n → (∀ b, b < n → z 18 b = lN (X b)) → (∀ q j, q ≠ 18 → z q j = J q j) →
      ∃ z', LX8_stray_66 k23 128 (nI a) (nI (dg a)) 0 I z = k23 (nI (a + 1)) I z' ∧ (∀ b, b < n → z' 18 b = lN (X b + smN (fun k => Fw dg w s2 s3 a k b) r)) ∧ (∀ q j, q ≠ 18 → z' q j = J q j) := by
    intro k23 a X z ha hX hz
    refine sl (fun f k (y : aJ) => LX8_stray_66 k23 f (nI a) (nI (dg a)) (nI k) I y) r (fun k y => (∀ b, b < n → y 18 b = lN (X b + smN (fun k => Fw dg w s2 s3 a k b) k)) ∧ ∀ q j, q ≠ 18 → y q j = J q j)
      (fun x => ∃ z', x = k23 (nI (a + 1)) I z' ∧ (∀ b, b < n → z' 18 b = lN (X b + smN (fun k => Fw dg w s2 s3 a k b) r)) ∧ (∀ q j, q ≠ 18 → z' q j = J q j)) ?_ ?_ (f0 := 128) (by omega) z ⟨fun b hb => hX b hb, hz⟩
    · rintro f k y hk ⟨e1, e2⟩
      obtain ⟨q1, q2, q3⟩ := hr k hk
      obtain ⟨c2, c3⟩ := h23 k hk
      have l1 : nI (s2 k) = nI a ↔ s2 k = a := nI_eq (by omega) (by omega)
      have l2 : nI (s3 k) = nI a ↔ s3 k = a := nI_eq (by omega) (by omega)
      have hin8 : inb (nI k) 8 = true := inb_nI (by omega) (by decide)
      have ck : (nI k).toNatClampNeg = k := nI_clamp (by omega)
      have go : ∀ o, (s2 k = a ∧ o = s3 k) ∨ (s3 k = a ∧ o = s2 k) → BX8_stray_94 k23 (LX8_stray_66 k23 f) (nI a) (nI (dg a)) (nI k) I y = LX8_stray_66 k23 f (nI a) (nI (dg a)) (nI (k + 1)) I (pJ y 18 o (y 18 o + lN (per dg w a))) := by
        intro o ho
        have hd : 0 < dg a := by rw [hdg]; exact dgr_pos (k := k) (by omega) r hk
        have hd8 := dgle a
        unfold BX8_stray_94 BX8_stray_130
        rw [gd_t hin8, ck, c2, c3, nI_add, pk_sub (by omega), show s2 k + s3 k - a = o by omega, gd_t (inb_nI (show o < 6 by omega) (by decide)), gd_t (by simp [nI_ne0 hd (by omega)]), gd_t (inb_nI (show a < 6 by omega) (by decide)), nI_clamp (show o < 2 ^ 31 by omega), nI_clamp (show a < 2 ^ 31 by omega), show (840 : Int32) = nI 840 from rfl, pk_div (by decide) hd (by omega), nI_l (Nat.lt_of_le_of_lt (Nat.div_le_self 840 _) (by decide)), e2 17 a (by decide), hw a ha, lN_mul, nI_1, show 840 / dg a * w a = per dg w a from Nat.mul_comm _ _]
      have up : ∀ o, o < n → (∀ b, Fw dg w s2 s3 a k b = if o = b then per dg w a else 0) → (∀ b, b < n → (pJ y 18 o (y 18 o + lN (per dg w a))) 18 b = lN (X b + smN (fun k => Fw dg w s2 s3 a k b) (k + 1))) ∧ ∀ q j, q ≠ 18 → (pJ y 18 o (y 18 o + lN (per dg w a))) q j = J q j := by
        intro o ho hF
        refine ⟨fun b hb => ?_, fun q j hq => by rw [pJ_g, if_neg (fun x => hq x.1)]; exact e2 q j hq⟩
        show _ = lN (X b + (smN (fun k => Fw dg w s2 s3 a k b) k + Fw dg w s2 s3 a k b))
        rw [hF b, pJ_g]
        by_cases x : o = b
        · rw [if_pos ⟨rfl, x.symm⟩, if_pos x, x, e1 b hb, lN_add, Nat.add_assoc]
        · rw [if_neg (fun v => x v.2.symm), if_neg x, e1 b hb, Nat.add_zero]
      show ∃ s', HX8_stray_66 _ _ _ _ _ _ _ = _ ∧ _
      unfold HX8_stray_66
      rw [h04, if_neg (nI_ge hk (by omega)), gd_t hin8, ck, c2, c3]
      by_cases y2 : s2 k = a
      · rw [if_pos (l1.mpr y2), go (s3 k) (Or.inl ⟨y2, rfl⟩)]
        exact ⟨_, rfl, up (s3 k) q2 (fun b => by unfold Fw; rw [if_pos y2])⟩
      · rw [if_neg (fun v => y2 (l1.mp v))]
        by_cases y3 : s3 k = a
        · rw [if_pos (l2.mpr y3), go (s2 k) (Or.inr ⟨y3, rfl⟩)]
          exact ⟨_, rfl, up (s2 k) q1 (fun b => by unfold Fw; rw [if_neg y2, if_pos y3])⟩
        · rw [if_neg (fun v => y3 (l2.mp v))]
          unfold BX8_stray_130
          rw [nI_1]
          refine ⟨y, rfl, fun b hb => ?_, e2⟩
          show _ = lN (X b + (smN (fun k => Fw dg w s2 s3 a k b) k + Fw dg w s2 s3 a k b))
          rw [show Fw dg w s2 s3 a k b = 0 by unfold Fw; rw [if_neg y2, if_neg y3]]
          exact e1 b hb
    · rintro f y ⟨e1, e2⟩
      refine ⟨y, ?_, e1, e2⟩
      show HX8_stray_66 _ _ _ _ _ _ _ = _
      unfold HX8_stray_66
      rw [h04, if_pos (nI_le (by omega) (by omega)), nI_1]
  refine sl (fun f i (s : aJ) => LX8_stray_2 f (nI i) I s) 6 (fun i s => (∀ b, b < i → s 18 b = 0) ∧ ∀ q j, q ≠ 18 → s q j = J q j)
    (fun x => ∃ J', x = some ((), I, J') ∧ (∀ a, a < n → J' 17 a = lN (stw r dg w s2 s3 a)) ∧ ∀ q j, q ≠ 17 → q ≠ 18 → J' q j = J q j) ?_ ?_ (f0 := 128) (by decide) J ⟨fun b hb => absurd hb (Nat.not_lt_zero b), fun _ _ _ => rfl⟩
  · rintro f i s hi ⟨g1, g2⟩
    refine ⟨pJ s 18 i 0, ?_, fun a ha => ?_, fun q j hq => by rw [pJ_g, if_neg (fun z => hq z.1)]; exact g2 q j hq⟩
    · show HX8_stray_2 _ _ _ _ = _
      unfold HX8_stray_2
      rw [if_neg (show ¬ (6 : Int32) ≤ nI i from nI_ge (b := 6) hi (by decide)), gd_t (inb_nI hi (by decide)), nI_clamp (by omega), nI_1]
    · rw [pJ_g]
      by_cases z : a = i
      · rw [if_pos ⟨rfl, z⟩]
      · rw [if_neg (fun y => z y.2)]; exact g1 a (by omega)
  · rintro f s ⟨g1, g2⟩
    show ∃ J', HX8_stray_2 _ _ _ _ = _ ∧ _
    unfold HX8_stray_2
    rw [if_pos (show (6 : Int32) ≤ nI 6 from by decide)]
    refine sl (fun f a (z : aJ) => LX8_stray_23 f (nI a) I z) n (fun m z => (∀ b, b < n → z 18 b = lN (smN (fun a => (if a = b then (if dg a = 0 then w a * 840 else 0) else 0) + smN (fun k => Fw dg w s2 s3 a k b) r) m)) ∧ ∀ q j, q ≠ 18 → z q j = J q j)
      (fun x => ∃ J', x = some ((), I, J') ∧ (∀ a, a < n → J' 17 a = lN (stw r dg w s2 s3 a)) ∧ ∀ q j, q ≠ 17 → q ≠ 18 → J' q j = J q j) ?_ ?_ (f0 := 128) (by omega) s ⟨fun b hb => by rw [g1 b (by omega)]; rfl, g2⟩
    · rintro f a z ha ⟨e1, e2⟩
      have ra := roadsAt_eq (a := a) hn hr8 (fun k hk => ⟨(hr k hk).1, (hr k hk).2.1⟩) (by omega) z h04 h23
      rw [show dgr s2 s3 a r = dg a by rw [hdg]] at ra
      have hd8 := dgle a
      have hin : inb (nI a) 6 = true := inb_nI (by omega) (by decide)
      have ca : (nI a).toNatClampNeg = a := nI_clamp (by omega)
      have st : ∀ u, u = (if dg a = 0 then w a * 840 else 0) → ∃ z', BX8_stray_62 (LX8_stray_23 f) (nI a) (nI (dg a)) (lN u) (z 18 a) (nI a) I z = LX8_stray_23 f (nI (a + 1)) I z' ∧ (∀ b, b < n → z' 18 b = lN (smN (fun a => (if a = b then (if dg a = 0 then w a * 840 else 0) else 0) + smN (fun k => Fw dg w s2 s3 a k b) r) (a + 1))) ∧ ∀ q j, q ≠ 18 → z' q j = J q j := by
        intro u hu
        unfold BX8_stray_62
        rw [gd_t hin, ca]
        obtain ⟨z', v1, v2, v3⟩ := inner (LX8_stray_23 f) a (fun b => smN (fun a => (if a = b then (if dg a = 0 then w a * 840 else 0) else 0) + smN (fun k => Fw dg w s2 s3 a k b) r) a + (if a = b then (if dg a = 0 then w a * 840 else 0) else 0)) (pJ z 18 a (z 18 a + lN u)) ha (fun b hb => by
          rw [pJ_g]
          by_cases x : a = b
          · rw [if_pos ⟨rfl, x.symm⟩, if_pos x, x, e1 b hb, lN_add, hu, x]
          · rw [if_neg (fun v => x v.2.symm), if_neg x, e1 b hb, Nat.add_zero]) (fun q j hq => by rw [pJ_g, if_neg (fun x => hq x.1)]; exact e2 q j hq)
        refine ⟨z', v1, fun b hb => ?_, v3⟩
        rw [v2 b hb]
        exact congrArg lN (by simp only [smN]; omega)
      show ∃ s', HX8_stray_23 _ _ _ _ = _ ∧ _
      unfold HX8_stray_23
      rw [h03, if_neg (nI_ge ha (by omega)), bnd_t ra, gd_t hin, ca]
      by_cases q : dg a = 0
      · rw [if_pos (show nI (dg a) = 0 by rw [q]; rfl), e2 17 a (by decide), hw a ha, show (840 : Int64) = lN 840 from rfl, lN_mul]
        exact st _ (by rw [if_pos q, Nat.mul_comm])
      · rw [if_neg (nI_ne0 (by omega) (by omega))]
        exact st 0 (by rw [if_neg q])
    · rintro f z ⟨e1, e2⟩
      show ∃ J', HX8_stray_23 _ _ _ _ = _ ∧ _
      unfold HX8_stray_23
      rw [h03, if_pos (nI_le (by omega) (by omega))]
      refine sl (fun f i (y : aJ) => LX8_stray_144 f (nI i) I y) 6 (fun m y => (∀ a, a < m → y 17 a = z 18 a) ∧ ∀ q j, q ≠ 17 → y q j = z q j)
        (fun x => ∃ J', x = some ((), I, J') ∧ (∀ a, a < n → J' 17 a = lN (stw r dg w s2 s3 a)) ∧ ∀ q j, q ≠ 17 → q ≠ 18 → J' q j = J q j) ?_ ?_ (f0 := 128) (by decide) z ⟨fun b hb => absurd hb (Nat.not_lt_zero b), fun _ _ _ => rfl⟩
      · rintro f i y hi ⟨u1, u2⟩
        refine ⟨pJ y 17 i (z 18 i), ?_, fun a ha => ?_, fun q j hq => by rw [pJ_g, if_neg (fun x => hq x.1)]; exact u2 q j hq⟩
        · show HX8_stray_144 _ _ _ _ = _
          unfold HX8_stray_144
          rw [if_neg (show ¬ (6 : Int32) ≤ nI i from nI_ge (b := 6) hi (by decide)), gd_t (inb_nI hi (by decide)), nI_clamp (by omega), nI_1, u2 18 i (by decide)]
        · rw [pJ_g]
          by_cases x : a = i
          · rw [if_pos ⟨rfl, x⟩, x]
          · rw [if_neg (fun v => x v.2)]; exact u1 a (by omega)
      · rintro f y ⟨u1, u2⟩
        refine ⟨y, ?_, fun a ha => by rw [u1 a (by omega), e1 a ha, Fw_sum hr ha], fun q j h1 h2 => by rw [u2 q j h1]; exact e2 q j h2⟩
        show HX8_stray_144 _ _ _ _ = _
        unfold HX8_stray_144
        rw [if_pos (show (6 : Int32) ≤ nI 6 from by decide)]
