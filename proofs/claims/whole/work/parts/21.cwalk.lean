-- J7_fill_53178
set_option maxRecDepth 4000 in
theorem wHJ7_fill_53178_5 {M : MT} {V : VT}  (X : Cx M cS V cJ7_fill_53178 4 RJ7 none 0) {q : RT Unit} (hQ : PV M cS V q) (k5 : Nat → Nat → Int32 → Int32 → Int32 → aI → aJ → Option (RT Unit)) (hk5 : ∀ (e0 : Nat) (ne0 : Nat) (x1 : Int32) (x2 : Int32) (x3 : Int32) (he0 : okc cS e0 9 ne0) (I : aI) (J : aJ), k5 e0 ne0 x1 x2 x3 I J = some q → Wg M cS V 4 I J 5 [(0, .ref (V.2.2 e0)), (1, .int x1), (2, .int x2), (3, .int x3)] []) (e0 : Nat) (ne0 : Nat) (x1 : Int32) (x2 : Int32) (x3 : Int32) (he0 : okc cS e0 9 ne0) (I : aI) (J : aJ) (hf : HJ7_fill_53178_5  k5 e0 ne0 x1 x2 x3 I J = some q) : Wg M cS V 4 I J 5 [(0, .ref (V.2.2 e0)), (1, .int x1), (2, .int x2), (3, .int x3)] [] := by
  unfold HJ7_fill_53178_5 at hf
  refine g_iload_n X dJ7_fill_53178_5 2 rfl ?_
  refine g_iload_n X dJ7_fill_53178_6 3 rfl ?_
  refine g_icmp_ge X dJ7_fill_53178_7 (tgt := 20) (by decide) (fun hc1 => ?_) (fun hc1 => ?_)
  · rw [if_pos hc1] at hf
    cases hf
    exact g_vreturn X dJ7_fill_53178_20 hQ
  · rw [if_neg hc1] at hf
    refine g_aload_n X dJ7_fill_53178_10 0 rfl ?_
    refine g_iload_n X dJ7_fill_53178_11 2 rfl ?_
    refine g_iload_n X dJ7_fill_53178_12 1 rfl ?_
    obtain ⟨hg2, hf⟩ := gd_some hf
    refine g_iastore X dJ7_fill_53178_13 he0 hg2 ?_
    refine g_iinc X dJ7_fill_53178_14 2 rfl 1 rfl (by decide) [(2, .int (x2 + 1)), (0, .ref (V.2.2 e0)), (1, .int x1), (3, .int x3)] rfl ?_
    refine g_goto X dJ7_fill_53178_17 (tgt := 5) (by decide) ?_
    refine g_sub [1, 2, 0, 3] rfl ?_
    exact hk5 e0 ne0 x1 (x2 + 1) x3 he0 (pI I e0 (Int32.toNatClampNeg x2) x1) J hf
set_option maxRecDepth 4000 in
theorem wLJ7_fill_53178_5 {M : MT} {V : VT}  (X : Cx M cS V cJ7_fill_53178 4 RJ7 none 0) {q : RT Unit} (hQ : PV M cS V q)  : ∀ (n : Nat) (e0 : Nat) (ne0 : Nat) (x1 : Int32) (x2 : Int32) (x3 : Int32) (he0 : okc cS e0 9 ne0) (I : aI) (J : aJ), LJ7_fill_53178_5   n e0 ne0 x1 x2 x3 I J = some q → Wg M cS V 4 I J 5 [(0, .ref (V.2.2 e0)), (1, .int x1), (2, .int x2), (3, .int x3)] [] := by
  intro n
  induction n with
  | zero => intro e0 ne0 x1 x2 x3 he0 I J hf; cases hf
  | succ n ih => intro e0 ne0 x1 x2 x3 he0 I J hf; exact wHJ7_fill_53178_5  X hQ  (LJ7_fill_53178_5   n) ih e0 ne0 x1 x2 x3 he0 I J hf
set_option maxRecDepth 4000 in
theorem wJ7_fill_53178 {M : MT} {V : VT} (X : Cx M cS V cJ7_fill_53178 4 RJ7 none 0) {q : RT Unit} (hQ : PV M cS V q) (e0 n0 : Nat) (x1 : Int32) (h0 : okc cS e0 9 n0) (I : aI) (J : aJ) (hf : fJ7_fill_53178 e0 n0 x1 I J = some q) : Wg M cS V 4 I J 0 [(0, .ref (V.2.2 e0)), (1, .int x1)] [] := by
  unfold fJ7_fill_53178 at hf
  refine g_iconst X dJ7_fill_53178_0 (v := 0) rfl ?_
  refine g_istore_n X dJ7_fill_53178_1 (by decide) [(2, .int 0), (0, .ref (V.2.2 e0)), (1, .int x1)] rfl ?_
  refine g_aload_n X dJ7_fill_53178_2 1 rfl ?_
  refine g_alenI X dJ7_fill_53178_3 h0 ?_
  refine g_istore_n X dJ7_fill_53178_4 (by decide) [(3, .int (nI n0)), (2, .int 0), (0, .ref (V.2.2 e0)), (1, .int x1)] rfl ?_
  refine g_sub [2, 3, 1, 0] rfl ?_
  exact wLJ7_fill_53178_5  X hQ  128 e0 n0 x1 0 (nI n0) h0 I J hf
set_option maxRecDepth 4000 in
theorem cJ7_fill_53178_ok (l : Launch) (V : VT) (e0 n0 : Nat) (x1 : Int32) (h0 : okc cS e0 9 n0) (I : aI) (J : aJ) {q : RT Unit} (hf : fJ7_fill_53178 e0 n0 x1 I J = some q) : Met l yJ7_fill_53178 (.code yJ7_fill_53178 cJ7_fill_53178 4 none :: GG) (rmD 0) (va_Pc [.ref (V.2.2 e0), .int x1] (cQ cS V I J)) (QV cS V q) 0 0 (vAd cS V) :=
  met_V (by decide +kernel) rfl (Nat.le_of_ble_eq_true rfl) (fun _ _ X hQ => wJ7_fill_53178 X hQ e0 n0 x1 h0 I J hf)
-- X0_begin
set_option maxRecDepth 4000 in
theorem wX0_begin {M : MT} {V : VT} (X : Cx M cS V cX0_begin 2 RX0 none 1) {q : RT Unit} (hQ : PV M cS V q) (e0 : Nat) (x1 : Int32) (h0 : okc cS e0 0 0) (I : aI) (J : aJ) (hf : fX0_begin e0 x1 I J = some q) : Wg M cS V 2 I J 0 [(0, .ref (V.2.2 e0)), (1, .int x1)] [] := by
  unfold fX0_begin at hf
  refine g_aload_n X dX0_begin_0 0 rfl ?_
  refine g_iload_n X dX0_begin_1 1 rfl ?_
  refine g_putI X dX0_begin_2 h0 cl0 0 (by decide) m_205 rfl .int rfl rfl rfl (Nat.le_of_ble_eq_true rfl) (fun _ _ => rfl) ?_
  refine g_aload_n X dX0_begin_5 0 rfl ?_
  refine g_iconst X dX0_begin_6 (v := 0) rfl ?_
  refine g_putI X dX0_begin_7 h0 cl0 1 (by decide) m_208 rfl .int rfl rfl rfl (Nat.le_of_ble_eq_true rfl) (fun _ _ => rfl) ?_
  refine g_aload_n X dX0_begin_10 0 rfl ?_
  refine g_iconst X dX0_begin_11 (v := 0) rfl ?_
  refine g_putI X dX0_begin_12 h0 cl0 2 (by decide) m_210 rfl .int rfl rfl rfl (Nat.le_of_ble_eq_true rfl) (fun _ _ => rfl) ?_
  refine g_aload_n X dX0_begin_15 0 rfl ?_
  refine g_get X dX0_begin_16 h0 cl0 3 (by decide) m_211 rfl ?_
  refine g_iconst X dX0_begin_19 (v := 0) rfl ?_
  obtain ⟨r1, I1, J1, hb1, hf⟩ := bnd_some hf
  refine g_callS X dX0_begin_20 sw_X0_25 (As := [.ref (V.2.2 (e0 + 1)), .int 0]) rfl rfl (Nat.le_of_ble_eq_true rfl) (by decide) (cJ7_fill_53178_ok  M.2.1 V (e0 + 1) 6 0 (ok_ev h0) (pI (pI (pI I e0 0 x1) e0 1 0) e0 2 0) J hb1) (kV ?_)
  cases hf
  exact g_vreturn X dX0_begin_23 hQ
set_option maxRecDepth 4000 in
theorem cX0_begin_ok (l : Launch) (V : VT) (e0 : Nat) (x1 : Int32) (h0 : okc cS e0 0 0) (I : aI) (J : aJ) {q : RT Unit} (hf : fX0_begin e0 x1 I J = some q) : Met l yX0_begin (.code yX0_begin cX0_begin 2 none :: GG) (rmD 1) (va_Pc [.ref (V.2.2 e0), .int x1] (cQ cS V I J)) (QV cS V q) 0 0 (vAd cS V) :=
  met_V (by decide +kernel) rfl (Nat.le_of_ble_eq_true rfl) (fun _ _ X hQ => wX0_begin X hQ e0 x1 h0 I J hf)
-- X0_copy
set_option maxRecDepth 4000 in
theorem wX0_copy {M : MT} {V : VT} (X : Cx M cS V cX0_copy 2 RX0 none 1) {q : RT Unit} (hQ : PV M cS V q) (e0 : Nat) (e1 : Nat) (h0 : okc cS e0 0 0) (h1 : okc cS e1 0 0) (I : aI) (J : aJ) (hf : fX0_copy e0 e1 I J = some q) : Wg M cS V 2 I J 0 [(0, .ref (V.2.2 e0)), (1, .ref (V.2.2 e1))] [] := by
  unfold fX0_copy at hf
  refine g_aload_n X dX0_copy_0 0 rfl ?_
  refine g_aload_n X dX0_copy_1 1 rfl ?_
  refine g_get X dX0_copy_2 h1 cl0 0 (by decide) m_205 rfl ?_
  refine g_putI X dX0_copy_5 h0 cl0 0 (by decide) m_205 rfl .int rfl rfl rfl (Nat.le_of_ble_eq_true rfl) (fun _ _ => rfl) ?_
  refine g_aload_n X dX0_copy_8 0 rfl ?_
  refine g_aload_n X dX0_copy_9 1 rfl ?_
  refine g_get X dX0_copy_10 h1 cl0 1 (by decide) m_208 rfl ?_
  refine g_putI X dX0_copy_13 h0 cl0 1 (by decide) m_208 rfl .int rfl rfl rfl (Nat.le_of_ble_eq_true rfl) (fun _ _ => rfl) ?_
  refine g_aload_n X dX0_copy_16 0 rfl ?_
  refine g_aload_n X dX0_copy_17 1 rfl ?_
  refine g_get X dX0_copy_18 h1 cl0 2 (by decide) m_210 rfl ?_
  refine g_putI X dX0_copy_21 h0 cl0 2 (by decide) m_210 rfl .int rfl rfl rfl (Nat.le_of_ble_eq_true rfl) (fun _ _ => rfl) ?_
  refine g_aload_n X dX0_copy_24 1 rfl ?_
  refine g_get X dX0_copy_25 h1 cl0 3 (by decide) m_211 rfl ?_
  refine g_iconst X dX0_copy_28 (v := 0) rfl ?_
  refine g_aload_n X dX0_copy_29 0 rfl ?_
  refine g_get X dX0_copy_30 h0 cl0 3 (by decide) m_211 rfl ?_
  refine g_iconst X dX0_copy_33 (v := 0) rfl ?_
  refine g_bipush X dX0_copy_34 (v := 6) rfl ?_
  refine g_copyI X dX0_copy_36 m_656 m_658 m_657 m_87 (ok_ev h1) (ok_ev h0) (by decide) (by decide) ?_
  cases hf
  exact g_vreturn X dX0_copy_39 hQ
set_option maxRecDepth 4000 in
theorem cX0_copy_ok (l : Launch) (V : VT) (e0 : Nat) (e1 : Nat) (h0 : okc cS e0 0 0) (h1 : okc cS e1 0 0) (I : aI) (J : aJ) {q : RT Unit} (hf : fX0_copy e0 e1 I J = some q) : Met l yX0_copy (.code yX0_copy cX0_copy 2 none :: GG) (rmD 1) (va_Pc [.ref (V.2.2 e0), .ref (V.2.2 e1)] (cQ cS V I J)) (QV cS V q) 0 0 (vAd cS V) :=
  met_V (by decide +kernel) rfl (Nat.le_of_ble_eq_true rfl) (fun _ _ X hQ => wX0_copy X hQ e0 e1 h0 h1 I J hf)
-- X7_hasBit
set_option maxRecDepth 4000 in
theorem wBX7_hasBit_13 {M : MT} {V : VT}  (X : Cx M cS V cX7_hasBit 2 RX7 (some .boolean) 0) {q : RT Int32} (hQ : PI M cS V q)  (s0 : Int32)  (I : aI) (J : aJ) (hf : BX7_hasBit_13   s0 I J = some q) : Wg M cS V 2 I J 13 [] [.int s0] := by
  unfold BX7_hasBit_13 at hf
  obtain ⟨hg2, hf⟩ := gd_some hf
  cases hf
  exact g_zreturn X dX7_hasBit_13 (of_decide_eq_true hg2) hQ
set_option maxRecDepth 4000 in
theorem wX7_hasBit {M : MT} {V : VT} (X : Cx M cS V cX7_hasBit 2 RX7 (some .boolean) 0) {q : RT Int32} (hQ : PI M cS V q) (x0 : Int32) (x1 : Int32)  (I : aI) (J : aJ) (hf : fX7_hasBit x0 x1 I J = some q) : Wg M cS V 2 I J 0 [(0, .int x0), (1, .int x1)] [] := by
  unfold fX7_hasBit at hf
  refine g_iload_n X dX7_hasBit_0 0 rfl ?_
  refine g_iload_n X dX7_hasBit_1 1 rfl ?_
  refine g_ishr X dX7_hasBit_2 ?_
  refine g_iconst X dX7_hasBit_3 (v := 1) rfl ?_
  refine g_iand X dX7_hasBit_4 ?_
  refine g_if_eq X dX7_hasBit_5 (tgt := 12) (by decide) (fun hc1 => ?_) (fun hc1 => ?_)
  · rw [if_pos hc1] at hf
    refine g_iconst X dX7_hasBit_12 (v := 0) rfl ?_
    refine g_sub [] rfl ?_
    exact wBX7_hasBit_13  X hQ  0  I J hf
  · rw [if_neg hc1] at hf
    refine g_iconst X dX7_hasBit_8 (v := 1) rfl ?_
    refine g_goto X dX7_hasBit_9 (tgt := 13) (by decide) ?_
    refine g_sub [] rfl ?_
    exact wBX7_hasBit_13  X hQ  1  I J hf
set_option maxRecDepth 4000 in
theorem cX7_hasBit_ok (l : Launch) (V : VT) (x0 : Int32) (x1 : Int32)  (I : aI) (J : aJ) {q : RT Int32} (hf : fX7_hasBit x0 x1 I J = some q) : Met l yX7_hasBit (.code yX7_hasBit cX7_hasBit 2 (some .boolean) :: GG) (rmD 0) (va_Pc [.int x0, .int x1] (cQ cS V I J)) (QI cS V q) 0 0 (vAd cS V) :=
  met_I (by decide +kernel) rfl (Nat.le_of_ble_eq_true rfl) (fun _ _ X hQ => wX7_hasBit X hQ x0 x1  I J hf)
-- X0_countedBy
set_option maxRecDepth 4000 in
theorem wBX0_countedBy_27 {M : MT} {V : VT}  (X : Cx M cS V cX0_countedBy 4 RX0 (some .int) 1) {q : RT Int32} (hQ : PI M cS V q) (k4 : Nat → Int32 → Int32 → Int32 → aI → aJ → Option (RT Int32)) (hk4 : ∀ (e0 : Nat) (x1 : Int32) (x2 : Int32) (x3 : Int32) (he0 : okc cS e0 0 0) (I : aI) (J : aJ), k4 e0 x1 x2 x3 I J = some q → Wg M cS V 4 I J 4 [(0, .ref (V.2.2 e0)), (1, .int x1), (2, .int x2), (3, .int x3)] []) (e0 : Nat) (x1 : Int32) (x2 : Int32) (x3 : Int32) (he0 : okc cS e0 0 0) (I : aI) (J : aJ) (hf : BX0_countedBy_27  k4 e0 x1 x2 x3 I J = some q) : Wg M cS V 4 I J 27 [(0, .ref (V.2.2 e0)), (1, .int x1), (2, .int x2), (3, .int x3)] [] := by
  unfold BX0_countedBy_27 at hf
  refine g_iinc X dX0_countedBy_27 3 rfl 1 rfl (by decide) [(3, .int (x3 + 1)), (0, .ref (V.2.2 e0)), (1, .int x1), (2, .int x2)] rfl ?_
  refine g_goto X dX0_countedBy_30 (tgt := 4) (by decide) ?_
  refine g_sub [1, 2, 3, 0] rfl ?_
  exact hk4 e0 x1 x2 (x3 + 1) he0 I J hf
set_option maxRecDepth 4000 in
theorem wHX0_countedBy_4 {M : MT} {V : VT}  (X : Cx M cS V cX0_countedBy 4 RX0 (some .int) 1) {q : RT Int32} (hQ : PI M cS V q) (k4 : Nat → Int32 → Int32 → Int32 → aI → aJ → Option (RT Int32)) (hk4 : ∀ (e0 : Nat) (x1 : Int32) (x2 : Int32) (x3 : Int32) (he0 : okc cS e0 0 0) (I : aI) (J : aJ), k4 e0 x1 x2 x3 I J = some q → Wg M cS V 4 I J 4 [(0, .ref (V.2.2 e0)), (1, .int x1), (2, .int x2), (3, .int x3)] []) (e0 : Nat) (x1 : Int32) (x2 : Int32) (x3 : Int32) (he0 : okc cS e0 0 0) (I : aI) (J : aJ) (hf : HX0_countedBy_4  k4 e0 x1 x2 x3 I J = some q) : Wg M cS V 4 I J 4 [(0, .ref (V.2.2 e0)), (1, .int x1), (2, .int x2), (3, .int x3)] [] := by
  unfold HX0_countedBy_4 at hf
  refine g_iload_n X dX0_countedBy_4 3 rfl ?_
  refine g_bipush X dX0_countedBy_5 (v := 6) rfl ?_
  refine g_icmp_ge X dX0_countedBy_7 (tgt := 33) (by decide) (fun hc1 => ?_) (fun hc1 => ?_)
  · rw [if_pos hc1] at hf
    refine g_iload_n X dX0_countedBy_33 2 rfl ?_
    cases hf
    exact g_ireturn X dX0_countedBy_34 hQ
  · rw [if_neg hc1] at hf
    refine g_iload_n X dX0_countedBy_10 1 rfl ?_
    refine g_iload_n X dX0_countedBy_11 3 rfl ?_
    obtain ⟨r2, I2, J2, hb2, hf⟩ := bnd_some hf
    refine g_callN X dX0_countedBy_12 nw_hasBit (fun U h => h.1.2.2.1) (As := [.int x1, .int x3]) rfl rfl (Nat.le_of_ble_eq_true rfl) (by decide) (cX7_hasBit_ok  M.2.1 V x1 x3  I J hb2) (kI ?_)
    refine g_if_ne X dX0_countedBy_15 (tgt := 27) (by decide) (fun hc3 => ?_) (fun hc3 => ?_)
    · rw [if_neg hc3] at hf
      exact wBX0_countedBy_27  X hQ k4 hk4 e0 x1 x2 x3 he0 I2 J2 hf
    · rw [if_pos hc3] at hf
      refine g_iload_n X dX0_countedBy_18 2 rfl ?_
      refine g_aload_n X dX0_countedBy_19 0 rfl ?_
      refine g_get X dX0_countedBy_20 he0 cl0 3 (by decide) m_211 rfl ?_
      refine g_iload_n X dX0_countedBy_23 3 rfl ?_
      obtain ⟨hg4, hf⟩ := gd_some hf
      refine g_iaload X dX0_countedBy_24 (ok_ev he0) hg4 ?_
      refine g_iadd X dX0_countedBy_25 ?_
      refine g_istore_n X dX0_countedBy_26 (by decide) [(2, .int (x2 + (I2 (e0 + 1) (Int32.toNatClampNeg x3)))), (0, .ref (V.2.2 e0)), (1, .int x1), (3, .int x3)] rfl ?_
      refine g_sub [1, 2, 0, 3] rfl ?_
      exact wBX0_countedBy_27  X hQ k4 hk4 e0 x1 (x2 + (I2 (e0 + 1) (Int32.toNatClampNeg x3))) x3 he0 I2 J2 hf
set_option maxRecDepth 4000 in
theorem wLX0_countedBy_4 {M : MT} {V : VT}  (X : Cx M cS V cX0_countedBy 4 RX0 (some .int) 1) {q : RT Int32} (hQ : PI M cS V q)  : ∀ (n : Nat) (e0 : Nat) (x1 : Int32) (x2 : Int32) (x3 : Int32) (he0 : okc cS e0 0 0) (I : aI) (J : aJ), LX0_countedBy_4   n e0 x1 x2 x3 I J = some q → Wg M cS V 4 I J 4 [(0, .ref (V.2.2 e0)), (1, .int x1), (2, .int x2), (3, .int x3)] [] := by
  intro n
  induction n with
  | zero => intro e0 x1 x2 x3 he0 I J hf; cases hf
  | succ n ih => intro e0 x1 x2 x3 he0 I J hf; exact wHX0_countedBy_4  X hQ  (LX0_countedBy_4   n) ih e0 x1 x2 x3 he0 I J hf
set_option maxRecDepth 4000 in
theorem wX0_countedBy {M : MT} {V : VT} (X : Cx M cS V cX0_countedBy 4 RX0 (some .int) 1) {q : RT Int32} (hQ : PI M cS V q) (e0 : Nat) (x1 : Int32) (h0 : okc cS e0 0 0) (I : aI) (J : aJ) (hf : fX0_countedBy e0 x1 I J = some q) : Wg M cS V 4 I J 0 [(0, .ref (V.2.2 e0)), (1, .int x1)] [] := by
  unfold fX0_countedBy at hf
  refine g_iconst X dX0_countedBy_0 (v := 0) rfl ?_
  refine g_istore_n X dX0_countedBy_1 (by decide) [(2, .int 0), (0, .ref (V.2.2 e0)), (1, .int x1)] rfl ?_
  refine g_iconst X dX0_countedBy_2 (v := 0) rfl ?_
  refine g_istore_n X dX0_countedBy_3 (by decide) [(3, .int 0), (2, .int 0), (0, .ref (V.2.2 e0)), (1, .int x1)] rfl ?_
  refine g_sub [2, 3, 1, 0] rfl ?_
  exact wLX0_countedBy_4  X hQ  128 e0 x1 0 0 h0 I J hf
set_option maxRecDepth 4000 in
theorem cX0_countedBy_ok (l : Launch) (V : VT) (e0 : Nat) (x1 : Int32) (h0 : okc cS e0 0 0) (I : aI) (J : aJ) {q : RT Int32} (hf : fX0_countedBy e0 x1 I J = some q) : Met l yX0_countedBy (.code yX0_countedBy cX0_countedBy 4 (some .int) :: GG) (rmD 1) (va_Pc [.ref (V.2.2 e0), .int x1] (cQ cS V I J)) (QI cS V q) 0 0 (vAd cS V) :=
  met_I (by decide +kernel) rfl (Nat.le_of_ble_eq_true rfl) (fun _ _ X hQ => wX0_countedBy X hQ e0 x1 h0 I J hf)
-- X0_countedByAll
set_option maxRecDepth 4000 in
theorem wX0_countedByAll {M : MT} {V : VT} (X : Cx M cS V cX0_countedByAll 1 RX0 (some .int) 2) {q : RT Int32} (hQ : PI M cS V q) (e0 : Nat) (h0 : okc cS e0 0 0) (I : aI) (J : aJ) (hf : fX0_countedByAll e0 I J = some q) : Wg M cS V 1 I J 0 [(0, .ref (V.2.2 e0))] [] := by
  unfold fX0_countedByAll at hf
  refine g_aload_n X dX0_countedByAll_0 0 rfl ?_
  refine g_iconst X dX0_countedByAll_1 (v := 0) rfl ?_
  obtain ⟨r1, I1, J1, hb1, hf⟩ := bnd_some hf
  refine g_callV X dX0_countedByAll_2 cw_X0_74 (k := e0) (As := [.int 0]) (rcv h0 cl0) rfl rfl (Nat.le_of_ble_eq_true rfl) (by decide) (cX0_countedBy_ok  M.2.1 V e0 0 h0 I J hb1) (kI ?_)
  cases hf
  exact g_ireturn X dX0_countedByAll_5 hQ
set_option maxRecDepth 4000 in
theorem cX0_countedByAll_ok (l : Launch) (V : VT) (e0 : Nat) (h0 : okc cS e0 0 0) (I : aI) (J : aJ) {q : RT Int32} (hf : fX0_countedByAll e0 I J = some q) : Met l yX0_countedByAll (.code yX0_countedByAll cX0_countedByAll 1 (some .int) :: GG) (rmD 2) (va_Pc [.ref (V.2.2 e0)] (cQ cS V I J)) (QI cS V q) 0 0 (vAd cS V) :=
  met_I (by decide +kernel) rfl (Nat.le_of_ble_eq_true rfl) (fun _ _ X hQ => wX0_countedByAll X hQ e0 h0 I J hf)
-- X0_countedByUnserved
set_option maxRecDepth 4000 in
theorem wX0_countedByUnserved {M : MT} {V : VT} (X : Cx M cS V cX0_countedByUnserved 1 RX0 (some .int) 2) {q : RT Int32} (hQ : PI M cS V q) (e0 : Nat) (h0 : okc cS e0 0 0) (I : aI) (J : aJ) (hf : fX0_countedByUnserved e0 I J = some q) : Wg M cS V 1 I J 0 [(0, .ref (V.2.2 e0))] [] := by
  unfold fX0_countedByUnserved at hf
  refine g_aload_n X dX0_countedByUnserved_0 0 rfl ?_
  refine g_aload_n X dX0_countedByUnserved_1 0 rfl ?_
  refine g_get X dX0_countedByUnserved_2 h0 cl0 2 (by decide) m_210 rfl ?_
  obtain ⟨r1, I1, J1, hb1, hf⟩ := bnd_some hf
  refine g_callV X dX0_countedByUnserved_5 cw_X0_74 (k := e0) (As := [.int (I e0 2)]) (rcv h0 cl0) rfl rfl (Nat.le_of_ble_eq_true rfl) (by decide) (cX0_countedBy_ok  M.2.1 V e0 (I e0 2) h0 I J hb1) (kI ?_)
  cases hf
  exact g_ireturn X dX0_countedByUnserved_8 hQ
set_option maxRecDepth 4000 in
theorem cX0_countedByUnserved_ok (l : Launch) (V : VT) (e0 : Nat) (h0 : okc cS e0 0 0) (I : aI) (J : aJ) {q : RT Int32} (hf : fX0_countedByUnserved e0 I J = some q) : Met l yX0_countedByUnserved (.code yX0_countedByUnserved cX0_countedByUnserved 1 (some .int) :: GG) (rmD 2) (va_Pc [.ref (V.2.2 e0)] (cQ cS V I J)) (QI cS V q) 0 0 (vAd cS V) :=
  met_I (by decide +kernel) rfl (Nat.le_of_ble_eq_true rfl) (fun _ _ X hQ => wX0_countedByUnserved X hQ e0 h0 I J hf)
-- X0_forgo
set_option maxRecDepth 4000 in
theorem wX0_forgo {M : MT} {V : VT} (X : Cx M cS V cX0_forgo 2 RX0 none 0) {q : RT Unit} (hQ : PV M cS V q) (e0 : Nat) (x1 : Int32) (h0 : okc cS e0 0 0) (I : aI) (J : aJ) (hf : fX0_forgo e0 x1 I J = some q) : Wg M cS V 2 I J 0 [(0, .ref (V.2.2 e0)), (1, .int x1)] [] := by
  unfold fX0_forgo at hf
  refine g_aload_n X dX0_forgo_0 0 rfl ?_
  refine g_get X dX0_forgo_1 h0 cl0 3 (by decide) m_211 rfl ?_
  refine g_iload_n X dX0_forgo_4 1 rfl ?_
  refine g_iconst X dX0_forgo_5 (v := 0) rfl ?_
  obtain ⟨hg1, hf⟩ := gd_some hf
  refine g_iastore X dX0_forgo_6 (ok_ev h0) hg1 ?_
  refine g_aload_n X dX0_forgo_7 0 rfl ?_
  refine g_dup X dX0_forgo_8 rfl ?_
  refine g_get X dX0_forgo_9 h0 cl0 2 (by decide) m_210 rfl ?_
  refine g_iconst X dX0_forgo_12 (v := 1) rfl ?_
  refine g_iload_n X dX0_forgo_13 1 rfl ?_
  refine g_ishl X dX0_forgo_14 ?_
  refine g_iconst X dX0_forgo_15 (v := (-1)) rfl ?_
  refine g_ixor X dX0_forgo_16 ?_
  refine g_iand X dX0_forgo_17 ?_
  refine g_putI X dX0_forgo_18 h0 cl0 2 (by decide) m_210 rfl .int rfl rfl rfl (Nat.le_of_ble_eq_true rfl) (fun _ _ => rfl) ?_
  cases hf
  exact g_vreturn X dX0_forgo_21 hQ
set_option maxRecDepth 4000 in
theorem cX0_forgo_ok (l : Launch) (V : VT) (e0 : Nat) (x1 : Int32) (h0 : okc cS e0 0 0) (I : aI) (J : aJ) {q : RT Unit} (hf : fX0_forgo e0 x1 I J = some q) : Met l yX0_forgo (.code yX0_forgo cX0_forgo 2 none :: GG) (rmD 0) (va_Pc [.ref (V.2.2 e0), .int x1] (cQ cS V I J)) (QV cS V q) 0 0 (vAd cS V) :=
  met_V (by decide +kernel) rfl (Nat.le_of_ble_eq_true rfl) (fun _ _ X hQ => wX0_forgo X hQ e0 x1 h0 I J hf)
-- X0_isServed
set_option maxRecDepth 4000 in
theorem wX0_isServed {M : MT} {V : VT} (X : Cx M cS V cX0_isServed 2 RX0 (some .boolean) 1) {q : RT Int32} (hQ : PI M cS V q) (e0 : Nat) (x1 : Int32) (h0 : okc cS e0 0 0) (I : aI) (J : aJ) (hf : fX0_isServed e0 x1 I J = some q) : Wg M cS V 2 I J 0 [(0, .ref (V.2.2 e0)), (1, .int x1)] [] := by
  unfold fX0_isServed at hf
  refine g_aload_n X dX0_isServed_0 0 rfl ?_
  refine g_get X dX0_isServed_1 h0 cl0 2 (by decide) m_210 rfl ?_
  refine g_iload_n X dX0_isServed_4 1 rfl ?_
  obtain ⟨r1, I1, J1, hb1, hf⟩ := bnd_some hf
  refine g_callN X dX0_isServed_5 nw_hasBit (fun U h => h.1.2.2.1) (As := [.int (I e0 2), .int x1]) rfl rfl (Nat.le_of_ble_eq_true rfl) (by decide) (cX7_hasBit_ok  M.2.1 V (I e0 2) x1  I J hb1) (kI ?_)
  obtain ⟨hg2, hf⟩ := gd_some hf
  cases hf
  exact g_zreturn X dX0_isServed_8 (of_decide_eq_true hg2) hQ
set_option maxRecDepth 4000 in
theorem cX0_isServed_ok (l : Launch) (V : VT) (e0 : Nat) (x1 : Int32) (h0 : okc cS e0 0 0) (I : aI) (J : aJ) {q : RT Int32} (hf : fX0_isServed e0 x1 I J = some q) : Met l yX0_isServed (.code yX0_isServed cX0_isServed 2 (some .boolean) :: GG) (rmD 1) (va_Pc [.ref (V.2.2 e0), .int x1] (cQ cS V I J)) (QI cS V q) 0 0 (vAd cS V) :=
  met_I (by decide +kernel) rfl (Nat.le_of_ble_eq_true rfl) (fun _ _ X hQ => wX0_isServed X hQ e0 x1 h0 I J hf)
-- X1_countedAfter
set_option maxRecDepth 4000 in
theorem wBX1_countedAfter_67 {M : MT} {V : VT}  (X : Cx M cS V cX1_countedAfter 6 RX1 (some .int) 0) {q : RT Int32} (hQ : PI M cS V q)  (s0 : Int32)  (I : aI) (J : aJ) (hf : BX1_countedAfter_67   s0 I J = some q) : Wg M cS V 6 I J 67 [] [.int s0] := by
  unfold BX1_countedAfter_67 at hf
  cases hf
  exact g_ireturn X dX1_countedAfter_67 hQ
set_option maxRecDepth 4000 in
theorem wBX1_countedAfter_53 {M : MT} {V : VT}  (X : Cx M cS V cX1_countedAfter 6 RX1 (some .int) 0) {q : RT Int32} (hQ : PI M cS V q)  (x2 : Int32) (s0 : Int32)  (I : aI) (J : aJ) (hf : BX1_countedAfter_53   x2 s0 I J = some q) : Wg M cS V 6 I J 53 [(2, .int x2)] [.int s0] := by
  unfold BX1_countedAfter_53 at hf
  refine g_istore X dX1_countedAfter_53 (by decide) [(5, .int s0), (2, .int x2)] rfl ?_
  refine g_iload X dX1_countedAfter_55 0 rfl ?_
  refine g_if_eq X dX1_countedAfter_57 (tgt := 66) (by decide) (fun hc8 => ?_) (fun hc8 => ?_)
  · rw [if_pos hc8] at hf
    refine g_iload_n X dX1_countedAfter_66 1 rfl ?_
    refine g_sub [] rfl ?_
    exact wBX1_countedAfter_67  X hQ  x2  I J hf
  · rw [if_neg hc8] at hf
    refine g_iload_n X dX1_countedAfter_60 1 rfl ?_
    refine g_iconst X dX1_countedAfter_61 (v := 1) rfl ?_
    refine g_iadd X dX1_countedAfter_62 ?_
    refine g_goto X dX1_countedAfter_63 (tgt := 67) (by decide) ?_
    refine g_sub [] rfl ?_
    exact wBX1_countedAfter_67  X hQ  (x2 + 1)  I J hf
set_option maxRecDepth 4000 in
theorem wBX1_countedAfter_52 {M : MT} {V : VT}  (X : Cx M cS V cX1_countedAfter 6 RX1 (some .int) 0) {q : RT Int32} (hQ : PI M cS V q)  (x2 : Int32)  (I : aI) (J : aJ) (hf : BX1_countedAfter_52   x2 I J = some q) : Wg M cS V 6 I J 52 [(2, .int x2)] [] := by
  unfold BX1_countedAfter_52 at hf
  refine g_iconst X dX1_countedAfter_52 (v := 0) rfl ?_
  exact wBX1_countedAfter_53  X hQ  x2 0  I J hf
set_option maxRecDepth 4000 in
theorem wBX1_countedAfter_48 {M : MT} {V : VT}  (X : Cx M cS V cX1_countedAfter 6 RX1 (some .int) 0) {q : RT Int32} (hQ : PI M cS V q)  (x2 : Int32)  (I : aI) (J : aJ) (hf : BX1_countedAfter_48   x2 I J = some q) : Wg M cS V 6 I J 48 [(2, .int x2)] [] := by
  unfold BX1_countedAfter_48 at hf
  refine g_iconst X dX1_countedAfter_48 (v := 1) rfl ?_
  refine g_goto X dX1_countedAfter_49 (tgt := 53) (by decide) ?_
  exact wBX1_countedAfter_53  X hQ  x2 1  I J hf
set_option maxRecDepth 4000 in
theorem wBX1_countedAfter_19 {M : MT} {V : VT}  (X : Cx M cS V cX1_countedAfter 6 RX1 (some .int) 0) {q : RT Int32} (hQ : PI M cS V q)  (s0 : Int32)  (I : aI) (J : aJ) (hf : BX1_countedAfter_19   s0 I J = some q) : Wg M cS V 6 I J 19 [] [.int s0] := by
  unfold BX1_countedAfter_19 at hf
  cases hf
  exact g_ireturn X dX1_countedAfter_19 hQ
set_option maxRecDepth 4000 in
theorem wX1_countedAfter {M : MT} {V : VT} (X : Cx M cS V cX1_countedAfter 6 RX1 (some .int) 0) {q : RT Int32} (hQ : PI M cS V q) (e0 : Nat) (x1 : Int32) (x2 : Int32) (x3 : Int32) (x4 : Int32) (h0 : okc cS e0 1 0) (I : aI) (J : aJ) (hf : fX1_countedAfter e0 x1 x2 x3 x4 I J = some q) : Wg M cS V 6 I J 0 [(0, .ref (V.2.2 e0)), (1, .int x1), (2, .int x2), (3, .int x3), (4, .int x4)] [] := by
  unfold fX1_countedAfter at hf
  refine g_iload_n X dX1_countedAfter_0 3 rfl ?_
  refine g_if_ne X dX1_countedAfter_1 (tgt := 20) (by decide) (fun hc1 => ?_) (fun hc1 => ?_)
  · rw [if_neg hc1] at hf
    refine g_iload X dX1_countedAfter_20 4 rfl ?_
    refine g_aload_n X dX1_countedAfter_22 0 rfl ?_
    refine g_get X dX1_countedAfter_23 h0 cl1 3 (by decide) m_184 rfl ?_
    refine g_iload_n X dX1_countedAfter_26 1 rfl ?_
    obtain ⟨hg2, hf⟩ := gd_some hf
    refine g_iaload X dX1_countedAfter_27 ((ok_fk h0).2.2.1) hg2 ?_
    refine g_icmp_lt X dX1_countedAfter_28 (tgt := 52) (by decide) (fun hc3 => ?_) (fun hc3 => ?_)
    · rw [if_pos hc3] at hf
      refine g_sub [2] rfl ?_
      exact wBX1_countedAfter_52  X hQ  x2  I J hf
    · rw [if_neg hc3] at hf
      refine g_aload_n X dX1_countedAfter_31 0 rfl ?_
      refine g_get X dX1_countedAfter_32 h0 cl1 2 (by decide) m_182 rfl ?_
      refine g_iload_n X dX1_countedAfter_35 1 rfl ?_
      refine g_iaload X dX1_countedAfter_36 ((ok_fk h0).2.1) hg2 ?_
      refine g_iconst X dX1_countedAfter_37 (v := 2) rfl ?_
      refine g_icmp_ne X dX1_countedAfter_38 (tgt := 48) (by decide) (fun hc4 => ?_) (fun hc4 => ?_)
      · rw [if_neg hc4] at hf
        refine g_sub [2] rfl ?_
        exact wBX1_countedAfter_48  X hQ  x2  I J hf
      · rw [if_pos hc4] at hf
        refine g_iload X dX1_countedAfter_41 4 rfl ?_
        refine g_iconst X dX1_countedAfter_43 (v := 2) rfl ?_
        refine g_irem X dX1_countedAfter_44 (by decide) ?_
        refine g_if_eq X dX1_countedAfter_45 (tgt := 52) (by decide) (fun hc5 => ?_) (fun hc5 => ?_)
        · rw [if_pos hc5] at hf
          refine g_sub [2] rfl ?_
          exact wBX1_countedAfter_52  X hQ  x2  I J hf
        · rw [if_neg hc5] at hf
          refine g_sub [2] rfl ?_
          exact wBX1_countedAfter_48  X hQ  x2  I J hf
  · rw [if_pos hc1] at hf
    refine g_aload_n X dX1_countedAfter_4 0 rfl ?_
    refine g_get X dX1_countedAfter_5 h0 cl1 2 (by decide) m_182 rfl ?_
    refine g_iload_n X dX1_countedAfter_8 1 rfl ?_
    obtain ⟨hg6, hf⟩ := gd_some hf
    refine g_iaload X dX1_countedAfter_9 ((ok_fk h0).2.1) hg6 ?_
    refine g_iconst X dX1_countedAfter_10 (v := 3) rfl ?_
    refine g_icmp_ne X dX1_countedAfter_11 (tgt := 18) (by decide) (fun hc7 => ?_) (fun hc7 => ?_)
    · rw [if_neg hc7] at hf
      refine g_iload_n X dX1_countedAfter_18 2 rfl ?_
      refine g_sub [] rfl ?_
      exact wBX1_countedAfter_19  X hQ  x2  I J hf
    · rw [if_pos hc7] at hf
      refine g_iconst X dX1_countedAfter_14 (v := 0) rfl ?_
      refine g_goto X dX1_countedAfter_15 (tgt := 19) (by decide) ?_
      refine g_sub [] rfl ?_
      exact wBX1_countedAfter_19  X hQ  0  I J hf
set_option maxRecDepth 4000 in
theorem cX1_countedAfter_ok (l : Launch) (V : VT) (e0 : Nat) (x1 : Int32) (x2 : Int32) (x3 : Int32) (x4 : Int32) (h0 : okc cS e0 1 0) (I : aI) (J : aJ) {q : RT Int32} (hf : fX1_countedAfter e0 x1 x2 x3 x4 I J = some q) : Met l yX1_countedAfter (.code yX1_countedAfter cX1_countedAfter 6 (some .int) :: GG) (rmD 0) (va_Pc [.ref (V.2.2 e0), .int x1, .int x2, .int x3, .int x4] (cQ cS V I J)) (QI cS V q) 0 0 (vAd cS V) :=
  met_I (by decide +kernel) rfl (Nat.le_of_ble_eq_true rfl) (fun _ _ X hQ => wX1_countedAfter X hQ e0 x1 x2 x3 x4 h0 I J hf)
-- X1_needs
set_option maxRecDepth 4000 in
theorem wX1_needs {M : MT} {V : VT} (X : Cx M cS V cX1_needs 2 RX1 (some .int) 0) {q : RT Int32} (hQ : PI M cS V q) (e0 : Nat) (x1 : Int32) (h0 : okc cS e0 1 0) (I : aI) (J : aJ) (hf : fX1_needs e0 x1 I J = some q) : Wg M cS V 2 I J 0 [(0, .ref (V.2.2 e0)), (1, .int x1)] [] := by
  unfold fX1_needs at hf
  refine g_gneed X dX1_needs_0 m_556 ?_
  refine g_aload_n X dX1_needs_3 0 rfl ?_
  refine g_get X dX1_needs_4 h0 cl1 2 (by decide) m_182 rfl ?_
  refine g_iload_n X dX1_needs_7 1 rfl ?_
  obtain ⟨hg1, hf⟩ := gd_some hf
  refine g_iaload X dX1_needs_8 ((ok_fk h0).2.1) hg1 ?_
  obtain ⟨hg2, hf⟩ := gd_some hf
  refine g_iald100 X dX1_needs_9 hg2 ?_
  cases hf
  exact g_ireturn X dX1_needs_10 hQ
set_option maxRecDepth 4000 in
theorem cX1_needs_ok (l : Launch) (V : VT) (e0 : Nat) (x1 : Int32) (h0 : okc cS e0 1 0) (I : aI) (J : aJ) {q : RT Int32} (hf : fX1_needs e0 x1 I J = some q) : Met l yX1_needs (.code yX1_needs cX1_needs 2 (some .int) :: GG) (rmD 0) (va_Pc [.ref (V.2.2 e0), .int x1] (cQ cS V I J)) (QI cS V q) 0 0 (vAd cS V) :=
  met_I (by decide +kernel) rfl (Nat.le_of_ble_eq_true rfl) (fun _ _ X hQ => wX1_needs X hQ e0 x1 h0 I J hf)
-- X0_meet
set_option maxRecDepth 4000 in
theorem wBX0_meet_65 {M : MT} {V : VT}  (X : Cx M cS V cX0_meet 3 RX0 none 1) {q : RT Unit} (hQ : PV M cS V q)    (I : aI) (J : aJ) (hf : BX0_meet_65    I J = some q) : Wg M cS V 3 I J 65 [] [] := by
  unfold BX0_meet_65 at hf
  cases hf
  exact g_vreturn X dX0_meet_65 hQ
set_option maxRecDepth 4000 in
theorem wBX0_meet_31 {M : MT} {V : VT}  (X : Cx M cS V cX0_meet 3 RX0 none 1) {q : RT Unit} (hQ : PV M cS V q)  (e0 : Nat) (x1 : Int32) (e2 : Nat) (s0 : Int32) (s1 : Int32) (s2 : Int32) (t3 : Nat) (s4 : Int32) (t5 : Nat) (he0 : okc cS e0 0 0) (he2 : okc cS e2 1 0) (ht3 : okc cS t3 1 0) (ht5 : okc cS t5 9 6) (I : aI) (J : aJ) (hf : BX0_meet_31   e0 x1 e2 s0 s1 s2 t3 s4 t5 I J = some q) : Wg M cS V 3 I J 31 [(0, .ref (V.2.2 e0)), (1, .int x1), (2, .ref (V.2.2 e2))] [.int s0, .int s1, .int s2, .ref (V.2.2 t3), .int s4, .ref (V.2.2 t5)] := by
  unfold BX0_meet_31 at hf
  refine g_aload_n X dX0_meet_31 0 rfl ?_
  refine g_get X dX0_meet_32 he0 cl0 1 (by decide) m_208 rfl ?_
  obtain ⟨r3, I3, J3, hb3, hf⟩ := bnd_some hf
  refine g_callV X dX0_meet_35 cw_X0_67 (k := t3) (As := [.int s2, .int s1, .int s0, .int (I e0 1)]) (rcv ht3 cl1) rfl rfl (Nat.le_of_ble_eq_true rfl) (by decide) (cX1_countedAfter_ok  M.2.1 V t3 s2 s1 s0 (I e0 1) ht3 I J hb3) (kI ?_)
  obtain ⟨hg4, hf⟩ := gd_some hf
  refine g_iastore X dX0_meet_38 ht5 hg4 ?_
  refine g_aload_n X dX0_meet_39 0 rfl ?_
  refine g_get X dX0_meet_40 he0 cl0 3 (by decide) m_211 rfl ?_
  refine g_iload_n X dX0_meet_43 1 rfl ?_
  obtain ⟨hg5, hf⟩ := gd_some hf
  refine g_iaload X dX0_meet_44 (ok_ev he0) hg5 ?_
  refine g_aload_n X dX0_meet_45 2 rfl ?_
  refine g_iload_n X dX0_meet_46 1 rfl ?_
  obtain ⟨r6, I6, J6, hb6, hf⟩ := bnd_some hf
  refine g_callV X dX0_meet_47 cw_X0_71 (k := e2) (As := [.int x1]) (rcv he2 cl1) rfl rfl (Nat.le_of_ble_eq_true rfl) (by decide) (cX1_needs_ok  M.2.1 V e2 x1 he2 (pI I3 t5 (Int32.toNatClampNeg s4) r3) J3 hb6) (kI ?_)
  refine g_icmp_lt X dX0_meet_50 (tgt := 65) (by decide) (fun hc7 => ?_) (fun hc7 => ?_)
  · rw [if_pos hc7] at hf
    refine g_sub [] rfl ?_
    exact wBX0_meet_65  X hQ    I6 J6 hf
  · rw [if_neg hc7] at hf
    refine g_aload_n X dX0_meet_53 0 rfl ?_
    refine g_dup X dX0_meet_54 rfl ?_
    refine g_get X dX0_meet_55 he0 cl0 2 (by decide) m_210 rfl ?_
    refine g_iconst X dX0_meet_58 (v := 1) rfl ?_
    refine g_iload_n X dX0_meet_59 1 rfl ?_
    refine g_ishl X dX0_meet_60 ?_
    refine g_ior X dX0_meet_61 ?_
    refine g_putI X dX0_meet_62 he0 cl0 2 (by decide) m_210 rfl .int rfl rfl rfl (Nat.le_of_ble_eq_true rfl) (fun _ _ => rfl) ?_
    refine g_sub [] rfl ?_
    exact wBX0_meet_65  X hQ    (pI I6 e0 2 ((I6 e0 2) ||| (1 <<< (x1 &&& 31)))) J6 hf
set_option maxRecDepth 4000 in
theorem wX0_meet {M : MT} {V : VT} (X : Cx M cS V cX0_meet 3 RX0 none 1) {q : RT Unit} (hQ : PV M cS V q) (e0 : Nat) (x1 : Int32) (e2 : Nat) (h0 : okc cS e0 0 0) (h2 : okc cS e2 1 0) (I : aI) (J : aJ) (hf : fX0_meet e0 x1 e2 I J = some q) : Wg M cS V 3 I J 0 [(0, .ref (V.2.2 e0)), (1, .int x1), (2, .ref (V.2.2 e2))] [] := by
  unfold fX0_meet at hf
  refine g_aload_n X dX0_meet_0 0 rfl ?_
  refine g_get X dX0_meet_1 h0 cl0 3 (by decide) m_211 rfl ?_
  refine g_iload_n X dX0_meet_4 1 rfl ?_
  refine g_aload_n X dX0_meet_5 2 rfl ?_
  refine g_iload_n X dX0_meet_6 1 rfl ?_
  refine g_aload_n X dX0_meet_7 0 rfl ?_
  refine g_get X dX0_meet_8 h0 cl0 3 (by decide) m_211 rfl ?_
  refine g_iload_n X dX0_meet_11 1 rfl ?_
  obtain ⟨hg1, hf⟩ := gd_some hf
  refine g_iaload X dX0_meet_12 (ok_ev h0) hg1 ?_
  refine g_aload_n X dX0_meet_13 2 rfl ?_
  refine g_get X dX0_meet_14 h2 cl1 1 (by decide) m_181 rfl ?_
  refine g_iload_n X dX0_meet_17 1 rfl ?_
  refine g_iaload X dX0_meet_18 ((ok_fk h2).1) hg1 ?_
  refine g_aload_n X dX0_meet_19 0 rfl ?_
  refine g_get X dX0_meet_20 h0 cl0 0 (by decide) m_205 rfl ?_
  refine g_icmp_ne X dX0_meet_23 (tgt := 30) (by decide) (fun hc2 => ?_) (fun hc2 => ?_)
  · rw [if_neg hc2] at hf
    refine g_iconst X dX0_meet_30 (v := 0) rfl ?_
    exact wBX0_meet_31  X hQ  e0 x1 e2 0 (I (e0 + 1) (Int32.toNatClampNeg x1)) x1 e2 x1 (e0 + 1) h0 h2 h2 (ok_ev h0) I J hf
  · rw [if_pos hc2] at hf
    refine g_iconst X dX0_meet_26 (v := 1) rfl ?_
    refine g_goto X dX0_meet_27 (tgt := 31) (by decide) ?_
    exact wBX0_meet_31  X hQ  e0 x1 e2 1 (I (e0 + 1) (Int32.toNatClampNeg x1)) x1 e2 x1 (e0 + 1) h0 h2 h2 (ok_ev h0) I J hf
set_option maxRecDepth 4000 in
theorem cX0_meet_ok (l : Launch) (V : VT) (e0 : Nat) (x1 : Int32) (e2 : Nat) (h0 : okc cS e0 0 0) (h2 : okc cS e2 1 0) (I : aI) (J : aJ) {q : RT Unit} (hf : fX0_meet e0 x1 e2 I J = some q) : Met l yX0_meet (.code yX0_meet cX0_meet 3 none :: GG) (rmD 1) (va_Pc [.ref (V.2.2 e0), .int x1, .ref (V.2.2 e2)] (cQ cS V I J)) (QV cS V q) 0 0 (vAd cS V) :=
  met_V (by decide +kernel) rfl (Nat.le_of_ble_eq_true rfl) (fun _ _ X hQ => wX0_meet X hQ e0 x1 e2 h0 h2 I J hf)
-- J6_bitCount_0f7a4
set_option maxRecDepth 4000 in
theorem wJ6_bitCount_0f7a4 {M : MT} {V : VT} (X : Cx M cS V cJ6_bitCount_0f7a4 1 RJ6 (some .int) 0) {q : RT Int32} (hQ : PI M cS V q) (x0 : Int32)  (I : aI) (J : aJ) (hf : fJ6_bitCount_0f7a4 x0 I J = some q) : Wg M cS V 1 I J 0 [(0, .int x0)] [] := by
  unfold fJ6_bitCount_0f7a4 at hf
  refine g_iload_n X dJ6_bitCount_0f7a4_0 0 rfl ?_
  refine g_iload_n X dJ6_bitCount_0f7a4_1 0 rfl ?_
  refine g_iconst X dJ6_bitCount_0f7a4_2 (v := 1) rfl ?_
  refine g_iushr X dJ6_bitCount_0f7a4_3 ?_
  refine g_ldcw X dJ6_bitCount_0f7a4_4 m_618 ?_
  refine g_iand X dJ6_bitCount_0f7a4_7 ?_
  refine g_isub X dJ6_bitCount_0f7a4_8 ?_
  refine g_istore_n X dJ6_bitCount_0f7a4_9 (by decide) [(0, .int (x0 - (((x0.toUInt32 >>> (Int32.toUInt32 1 &&& Int32.toUInt32 31)).toInt32) &&& 1431655765)))] rfl ?_
  refine g_iload_n X dJ6_bitCount_0f7a4_10 0 rfl ?_
  refine g_ldcw X dJ6_bitCount_0f7a4_11 m_619 ?_
  refine g_iand X dJ6_bitCount_0f7a4_14 ?_
  refine g_iload_n X dJ6_bitCount_0f7a4_15 0 rfl ?_
  refine g_iconst X dJ6_bitCount_0f7a4_16 (v := 2) rfl ?_
  refine g_iushr X dJ6_bitCount_0f7a4_17 ?_
  refine g_ldcw X dJ6_bitCount_0f7a4_18 m_619 ?_
  refine g_iand X dJ6_bitCount_0f7a4_21 ?_
  refine g_iadd X dJ6_bitCount_0f7a4_22 ?_
  refine g_istore_n X dJ6_bitCount_0f7a4_23 (by decide) [(0, .int (((x0 - (((x0.toUInt32 >>> (Int32.toUInt32 1 &&& Int32.toUInt32 31)).toInt32) &&& 1431655765)) &&& 858993459) + ((((x0 - (((x0.toUInt32 >>> (Int32.toUInt32 1 &&& Int32.toUInt32 31)).toInt32) &&& 1431655765)).toUInt32 >>> (Int32.toUInt32 2 &&& Int32.toUInt32 31)).toInt32) &&& 858993459)))] rfl ?_
  refine g_iload_n X dJ6_bitCount_0f7a4_24 0 rfl ?_
  refine g_iload_n X dJ6_bitCount_0f7a4_25 0 rfl ?_
  refine g_iconst X dJ6_bitCount_0f7a4_26 (v := 4) rfl ?_
  refine g_iushr X dJ6_bitCount_0f7a4_27 ?_
  refine g_iadd X dJ6_bitCount_0f7a4_28 ?_
  refine g_ldcw X dJ6_bitCount_0f7a4_29 m_620 ?_
  refine g_iand X dJ6_bitCount_0f7a4_32 ?_
  refine g_istore_n X dJ6_bitCount_0f7a4_33 (by decide) [(0, .int (((((x0 - (((x0.toUInt32 >>> (Int32.toUInt32 1 &&& Int32.toUInt32 31)).toInt32) &&& 1431655765)) &&& 858993459) + ((((x0 - (((x0.toUInt32 >>> (Int32.toUInt32 1 &&& Int32.toUInt32 31)).toInt32) &&& 1431655765)).toUInt32 >>> (Int32.toUInt32 2 &&& Int32.toUInt32 31)).toInt32) &&& 858993459)) + (((((x0 - (((x0.toUInt32 >>> (Int32.toUInt32 1 &&& Int32.toUInt32 31)).toInt32) &&& 1431655765)) &&& 858993459) + ((((x0 - (((x0.toUInt32 >>> (Int32.toUInt32 1 &&& Int32.toUInt32 31)).toInt32) &&& 1431655765)).toUInt32 >>> (Int32.toUInt32 2 &&& Int32.toUInt32 31)).toInt32) &&& 858993459)).toUInt32 >>> (Int32.toUInt32 4 &&& Int32.toUInt32 31)).toInt32)) &&& 252645135))] rfl ?_
  refine g_iload_n X dJ6_bitCount_0f7a4_34 0 rfl ?_
  refine g_iload_n X dJ6_bitCount_0f7a4_35 0 rfl ?_
  refine g_bipush X dJ6_bitCount_0f7a4_36 (v := 8) rfl ?_
  refine g_iushr X dJ6_bitCount_0f7a4_38 ?_
  refine g_iadd X dJ6_bitCount_0f7a4_39 ?_
  refine g_istore_n X dJ6_bitCount_0f7a4_40 (by decide) [(0, .int ((((((x0 - (((x0.toUInt32 >>> (Int32.toUInt32 1 &&& Int32.toUInt32 31)).toInt32) &&& 1431655765)) &&& 858993459) + ((((x0 - (((x0.toUInt32 >>> (Int32.toUInt32 1 &&& Int32.toUInt32 31)).toInt32) &&& 1431655765)).toUInt32 >>> (Int32.toUInt32 2 &&& Int32.toUInt32 31)).toInt32) &&& 858993459)) + (((((x0 - (((x0.toUInt32 >>> (Int32.toUInt32 1 &&& Int32.toUInt32 31)).toInt32) &&& 1431655765)) &&& 858993459) + ((((x0 - (((x0.toUInt32 >>> (Int32.toUInt32 1 &&& Int32.toUInt32 31)).toInt32) &&& 1431655765)).toUInt32 >>> (Int32.toUInt32 2 &&& Int32.toUInt32 31)).toInt32) &&& 858993459)).toUInt32 >>> (Int32.toUInt32 4 &&& Int32.toUInt32 31)).toInt32)) &&& 252645135) + (((((((x0 - (((x0.toUInt32 >>> (Int32.toUInt32 1 &&& Int32.toUInt32 31)).toInt32) &&& 1431655765)) &&& 858993459) + ((((x0 - (((x0.toUInt32 >>> (Int32.toUInt32 1 &&& Int32.toUInt32 31)).toInt32) &&& 1431655765)).toUInt32 >>> (Int32.toUInt32 2 &&& Int32.toUInt32 31)).toInt32) &&& 858993459)) + (((((x0 - (((x0.toUInt32 >>> (Int32.toUInt32 1 &&& Int32.toUInt32 31)).toInt32) &&& 1431655765)) &&& 858993459) + ((((x0 - (((x0.toUInt32 >>> (Int32.toUInt32 1 &&& Int32.toUInt32 31)).toInt32) &&& 1431655765)).toUInt32 >>> (Int32.toUInt32 2 &&& Int32.toUInt32 31)).toInt32) &&& 858993459)).toUInt32 >>> (Int32.toUInt32 4 &&& Int32.toUInt32 31)).toInt32)) &&& 252645135).toUInt32 >>> (Int32.toUInt32 8 &&& Int32.toUInt32 31)).toInt32)))] rfl ?_
  refine g_iload_n X dJ6_bitCount_0f7a4_41 0 rfl ?_
  refine g_iload_n X dJ6_bitCount_0f7a4_42 0 rfl ?_
  refine g_bipush X dJ6_bitCount_0f7a4_43 (v := 16) rfl ?_
  refine g_iushr X dJ6_bitCount_0f7a4_45 ?_
  refine g_iadd X dJ6_bitCount_0f7a4_46 ?_
  refine g_istore_n X dJ6_bitCount_0f7a4_47 (by decide) [(0, .int (((((((x0 - (((x0.toUInt32 >>> (Int32.toUInt32 1 &&& Int32.toUInt32 31)).toInt32) &&& 1431655765)) &&& 858993459) + ((((x0 - (((x0.toUInt32 >>> (Int32.toUInt32 1 &&& Int32.toUInt32 31)).toInt32) &&& 1431655765)).toUInt32 >>> (Int32.toUInt32 2 &&& Int32.toUInt32 31)).toInt32) &&& 858993459)) + (((((x0 - (((x0.toUInt32 >>> (Int32.toUInt32 1 &&& Int32.toUInt32 31)).toInt32) &&& 1431655765)) &&& 858993459) + ((((x0 - (((x0.toUInt32 >>> (Int32.toUInt32 1 &&& Int32.toUInt32 31)).toInt32) &&& 1431655765)).toUInt32 >>> (Int32.toUInt32 2 &&& Int32.toUInt32 31)).toInt32) &&& 858993459)).toUInt32 >>> (Int32.toUInt32 4 &&& Int32.toUInt32 31)).toInt32)) &&& 252645135) + (((((((x0 - (((x0.toUInt32 >>> (Int32.toUInt32 1 &&& Int32.toUInt32 31)).toInt32) &&& 1431655765)) &&& 858993459) + ((((x0 - (((x0.toUInt32 >>> (Int32.toUInt32 1 &&& Int32.toUInt32 31)).toInt32) &&& 1431655765)).toUInt32 >>> (Int32.toUInt32 2 &&& Int32.toUInt32 31)).toInt32) &&& 858993459)) + (((((x0 - (((x0.toUInt32 >>> (Int32.toUInt32 1 &&& Int32.toUInt32 31)).toInt32) &&& 1431655765)) &&& 858993459) + ((((x0 - (((x0.toUInt32 >>> (Int32.toUInt32 1 &&& Int32.toUInt32 31)).toInt32) &&& 1431655765)).toUInt32 >>> (Int32.toUInt32 2 &&& Int32.toUInt32 31)).toInt32) &&& 858993459)).toUInt32 >>> (Int32.toUInt32 4 &&& Int32.toUInt32 31)).toInt32)) &&& 252645135).toUInt32 >>> (Int32.toUInt32 8 &&& Int32.toUInt32 31)).toInt32)) + ((((((((x0 - (((x0.toUInt32 >>> (Int32.toUInt32 1 &&& Int32.toUInt32 31)).toInt32) &&& 1431655765)) &&& 858993459) + ((((x0 - (((x0.toUInt32 >>> (Int32.toUInt32 1 &&& Int32.toUInt32 31)).toInt32) &&& 1431655765)).toUInt32 >>> (Int32.toUInt32 2 &&& Int32.toUInt32 31)).toInt32) &&& 858993459)) + (((((x0 - (((x0.toUInt32 >>> (Int32.toUInt32 1 &&& Int32.toUInt32 31)).toInt32) &&& 1431655765)) &&& 858993459) + ((((x0 - (((x0.toUInt32 >>> (Int32.toUInt32 1 &&& Int32.toUInt32 31)).toInt32) &&& 1431655765)).toUInt32 >>> (Int32.toUInt32 2 &&& Int32.toUInt32 31)).toInt32) &&& 858993459)).toUInt32 >>> (Int32.toUInt32 4 &&& Int32.toUInt32 31)).toInt32)) &&& 252645135) + (((((((x0 - (((x0.toUInt32 >>> (Int32.toUInt32 1 &&& Int32.toUInt32 31)).toInt32) &&& 1431655765)) &&& 858993459) + ((((x0 - (((x0.toUInt32 >>> (Int32.toUInt32 1 &&& Int32.toUInt32 31)).toInt32) &&& 1431655765)).toUInt32 >>> (Int32.toUInt32 2 &&& Int32.toUInt32 31)).toInt32) &&& 858993459)) + (((((x0 - (((x0.toUInt32 >>> (Int32.toUInt32 1 &&& Int32.toUInt32 31)).toInt32) &&& 1431655765)) &&& 858993459) + ((((x0 - (((x0.toUInt32 >>> (Int32.toUInt32 1 &&& Int32.toUInt32 31)).toInt32) &&& 1431655765)).toUInt32 >>> (Int32.toUInt32 2 &&& Int32.toUInt32 31)).toInt32) &&& 858993459)).toUInt32 >>> (Int32.toUInt32 4 &&& Int32.toUInt32 31)).toInt32)) &&& 252645135).toUInt32 >>> (Int32.toUInt32 8 &&& Int32.toUInt32 31)).toInt32)).toUInt32 >>> (Int32.toUInt32 16 &&& Int32.toUInt32 31)).toInt32)))] rfl ?_
  refine g_iload_n X dJ6_bitCount_0f7a4_48 0 rfl ?_
  refine g_bipush X dJ6_bitCount_0f7a4_49 (v := 63) rfl ?_
  refine g_iand X dJ6_bitCount_0f7a4_51 ?_
  cases hf
  exact g_ireturn X dJ6_bitCount_0f7a4_52 hQ
set_option maxRecDepth 4000 in
theorem cJ6_bitCount_0f7a4_ok (l : Launch) (V : VT) (x0 : Int32)  (I : aI) (J : aJ) {q : RT Int32} (hf : fJ6_bitCount_0f7a4 x0 I J = some q) : Met l yJ6_bitCount_0f7a4 (.code yJ6_bitCount_0f7a4 cJ6_bitCount_0f7a4 1 (some .int) :: GG) (rmD 0) (va_Pc [.int x0] (cQ cS V I J)) (QI cS V q) 0 0 (vAd cS V) :=
  met_I (by decide +kernel) rfl (Nat.le_of_ble_eq_true rfl) (fun _ _ X hQ => wJ6_bitCount_0f7a4 X hQ x0  I J hf)
-- X0_servedNumber
set_option maxRecDepth 4000 in
theorem wX0_servedNumber {M : MT} {V : VT} (X : Cx M cS V cX0_servedNumber 1 RX0 (some .int) 1) {q : RT Int32} (hQ : PI M cS V q) (e0 : Nat) (h0 : okc cS e0 0 0) (I : aI) (J : aJ) (hf : fX0_servedNumber e0 I J = some q) : Wg M cS V 1 I J 0 [(0, .ref (V.2.2 e0))] [] := by
  unfold fX0_servedNumber at hf
  refine g_aload_n X dX0_servedNumber_0 0 rfl ?_
  refine g_get X dX0_servedNumber_1 h0 cl0 2 (by decide) m_210 rfl ?_
  obtain ⟨r1, I1, J1, hb1, hf⟩ := bnd_some hf
  refine g_callS X dX0_servedNumber_4 sw_X0_41 (As := [.int (I e0 2)]) rfl rfl (Nat.le_of_ble_eq_true rfl) (by decide) (cJ6_bitCount_0f7a4_ok  M.2.1 V (I e0 2)  I J hb1) (kI ?_)
  cases hf
  exact g_ireturn X dX0_servedNumber_7 hQ
set_option maxRecDepth 4000 in
theorem cX0_servedNumber_ok (l : Launch) (V : VT) (e0 : Nat) (h0 : okc cS e0 0 0) (I : aI) (J : aJ) {q : RT Int32} (hf : fX0_servedNumber e0 I J = some q) : Met l yX0_servedNumber (.code yX0_servedNumber cX0_servedNumber 1 (some .int) :: GG) (rmD 1) (va_Pc [.ref (V.2.2 e0)] (cQ cS V I J)) (QI cS V q) 0 0 (vAd cS V) :=
  met_I (by decide +kernel) rfl (Nat.le_of_ble_eq_true rfl) (fun _ _ X hQ => wX0_servedNumber X hQ e0 h0 I J hf)
-- X0_pass
set_option maxRecDepth 4000 in
theorem wBX0_pass_48 {M : MT} {V : VT}  (X : Cx M cS V cX0_pass 5 RX0 (some .int) 2) {q : RT Int32} (hQ : PI M cS V q) (k23 : Nat → Nat → Int32 → Int32 → aI → aJ → Option (RT Int32)) (hk23 : ∀ (e0 : Nat) (e2 : Nat) (x3 : Int32) (x4 : Int32) (he0 : okc cS e0 0 0) (he2 : okc cS e2 1 0) (I : aI) (J : aJ), k23 e0 e2 x3 x4 I J = some q → Wg M cS V 5 I J 23 [(0, .ref (V.2.2 e0)), (2, .ref (V.2.2 e2)), (3, .int x3), (4, .int x4)] []) (e0 : Nat) (e2 : Nat) (x3 : Int32) (x4 : Int32) (he0 : okc cS e0 0 0) (he2 : okc cS e2 1 0) (I : aI) (J : aJ) (hf : BX0_pass_48  k23 e0 e2 x3 x4 I J = some q) : Wg M cS V 5 I J 48 [(0, .ref (V.2.2 e0)), (2, .ref (V.2.2 e2)), (3, .int x3), (4, .int x4)] [] := by
  unfold BX0_pass_48 at hf
  refine g_iinc X dX0_pass_48 3 rfl 1 rfl (by decide) [(4, .int (x4 + 1)), (0, .ref (V.2.2 e0)), (2, .ref (V.2.2 e2)), (3, .int x3)] rfl ?_
  refine g_goto X dX0_pass_51 (tgt := 23) (by decide) ?_
  refine g_sub [1, 2, 3, 0] rfl ?_
  exact hk23 e0 e2 x3 (x4 + 1) he0 he2 I J hf
set_option maxRecDepth 4000 in
theorem wHX0_pass_23 {M : MT} {V : VT}  (X : Cx M cS V cX0_pass 5 RX0 (some .int) 2) {q : RT Int32} (hQ : PI M cS V q) (k23 : Nat → Nat → Int32 → Int32 → aI → aJ → Option (RT Int32)) (hk23 : ∀ (e0 : Nat) (e2 : Nat) (x3 : Int32) (x4 : Int32) (he0 : okc cS e0 0 0) (he2 : okc cS e2 1 0) (I : aI) (J : aJ), k23 e0 e2 x3 x4 I J = some q → Wg M cS V 5 I J 23 [(0, .ref (V.2.2 e0)), (2, .ref (V.2.2 e2)), (3, .int x3), (4, .int x4)] []) (e0 : Nat) (e2 : Nat) (x3 : Int32) (x4 : Int32) (he0 : okc cS e0 0 0) (he2 : okc cS e2 1 0) (I : aI) (J : aJ) (hf : HX0_pass_23  k23 e0 e2 x3 x4 I J = some q) : Wg M cS V 5 I J 23 [(0, .ref (V.2.2 e0)), (2, .ref (V.2.2 e2)), (3, .int x3), (4, .int x4)] [] := by
  unfold HX0_pass_23 at hf
  refine g_iload X dX0_pass_23 3 rfl ?_
  refine g_aload_n X dX0_pass_25 1 rfl ?_
  refine g_get X dX0_pass_26 he2 cl1 0 (by decide) m_178 rfl ?_
  refine g_icmp_ge X dX0_pass_29 (tgt := 54) (by decide) (fun hc2 => ?_) (fun hc2 => ?_)
  · rw [if_pos hc2] at hf
    refine g_aload_n X dX0_pass_54 0 rfl ?_
    obtain ⟨r3, I3, J3, hb3, hf⟩ := bnd_some hf
    refine g_callV X dX0_pass_55 cw_X0_47 (k := e0) (As := []) (rcv he0 cl0) rfl rfl (Nat.le_of_ble_eq_true rfl) (by decide) (cX0_servedNumber_ok  M.2.1 V e0 he0 I J hb3) (kI ?_)
    refine g_iload_n X dX0_pass_58 2 rfl ?_
    refine g_isub X dX0_pass_59 ?_
    cases hf
    exact g_ireturn X dX0_pass_60 hQ
  · rw [if_neg hc2] at hf
    refine g_aload_n X dX0_pass_32 0 rfl ?_
    refine g_iload X dX0_pass_33 3 rfl ?_
    obtain ⟨r4, I4, J4, hb4, hf⟩ := bnd_some hf
    refine g_callV X dX0_pass_35 cw_X0_56 (k := e0) (As := [.int x4]) (rcv he0 cl0) rfl rfl (Nat.le_of_ble_eq_true rfl) (by decide) (cX0_isServed_ok  M.2.1 V e0 x4 he0 I J hb4) (kI ?_)
    refine g_if_ne X dX0_pass_38 (tgt := 48) (by decide) (fun hc5 => ?_) (fun hc5 => ?_)
    · rw [if_neg hc5] at hf
      exact wBX0_pass_48  X hQ k23 hk23 e0 e2 x3 x4 he0 he2 I4 J4 hf
    · rw [if_pos hc5] at hf
      refine g_aload_n X dX0_pass_41 0 rfl ?_
      refine g_iload X dX0_pass_42 3 rfl ?_
      refine g_aload_n X dX0_pass_44 1 rfl ?_
      obtain ⟨r6, I6, J6, hb6, hf⟩ := bnd_some hf
      refine g_callV X dX0_pass_45 cw_X0_60 (k := e0) (As := [.int x4, .ref (V.2.2 e2)]) (rcv he0 cl0) rfl rfl (Nat.le_of_ble_eq_true rfl) (by decide) (cX0_meet_ok  M.2.1 V e0 x4 e2 he0 he2 I4 J4 hb6) (kV ?_)
      exact wBX0_pass_48  X hQ k23 hk23 e0 e2 x3 x4 he0 he2 I6 J6 hf
set_option maxRecDepth 4000 in
theorem wLX0_pass_23 {M : MT} {V : VT}  (X : Cx M cS V cX0_pass 5 RX0 (some .int) 2) {q : RT Int32} (hQ : PI M cS V q)  : ∀ (n : Nat) (e0 : Nat) (e2 : Nat) (x3 : Int32) (x4 : Int32) (he0 : okc cS e0 0 0) (he2 : okc cS e2 1 0) (I : aI) (J : aJ), LX0_pass_23   n e0 e2 x3 x4 I J = some q → Wg M cS V 5 I J 23 [(0, .ref (V.2.2 e0)), (2, .ref (V.2.2 e2)), (3, .int x3), (4, .int x4)] [] := by
  intro n
  induction n with
  | zero => intro e0 e2 x3 x4 he0 he2 I J hf; cases hf
  | succ n ih => intro e0 e2 x3 x4 he0 he2 I J hf; exact wHX0_pass_23  X hQ  (LX0_pass_23   n) ih e0 e2 x3 x4 he0 he2 I J hf
set_option maxRecDepth 4000 in
theorem wX0_pass {M : MT} {V : VT} (X : Cx M cS V cX0_pass 5 RX0 (some .int) 2) {q : RT Int32} (hQ : PI M cS V q) (e0 : Nat) (x1 : Int32) (e2 : Nat) (h0 : okc cS e0 0 0) (h2 : okc cS e2 1 0) (I : aI) (J : aJ) (hf : fX0_pass e0 x1 e2 I J = some q) : Wg M cS V 5 I J 0 [(0, .ref (V.2.2 e0)), (1, .int x1), (2, .ref (V.2.2 e2))] [] := by
  unfold fX0_pass at hf
  refine g_aload_n X dX0_pass_0 0 rfl ?_
  obtain ⟨r1, I1, J1, hb1, hf⟩ := bnd_some hf
  refine g_callV X dX0_pass_1 cw_X0_47 (k := e0) (As := []) (rcv h0 cl0) rfl rfl (Nat.le_of_ble_eq_true rfl) (by decide) (cX0_servedNumber_ok  M.2.1 V e0 h0 I J hb1) (kI ?_)
  refine g_istore_n X dX0_pass_4 (by decide) [(3, .int r1), (0, .ref (V.2.2 e0)), (1, .int x1), (2, .ref (V.2.2 e2))] rfl ?_
  refine g_aload_n X dX0_pass_5 1 rfl ?_
  refine g_iload_n X dX0_pass_6 2 rfl ?_
  refine g_putI X dX0_pass_7 h0 cl0 0 (by decide) m_205 rfl .int rfl rfl rfl (Nat.le_of_ble_eq_true rfl) (fun _ _ => rfl) ?_
  refine g_aload_n X dX0_pass_10 1 rfl ?_
  refine g_dup X dX0_pass_11 rfl ?_
  refine g_get X dX0_pass_12 h0 cl0 1 (by decide) m_208 rfl ?_
  refine g_iconst X dX0_pass_15 (v := 1) rfl ?_
  refine g_iadd X dX0_pass_16 ?_
  refine g_putI X dX0_pass_17 h0 cl0 1 (by decide) m_208 rfl .int rfl rfl rfl (Nat.le_of_ble_eq_true rfl) (fun _ _ => rfl) ?_
  refine g_iconst X dX0_pass_20 (v := 0) rfl ?_
  refine g_istore X dX0_pass_21 (by decide) [(4, .int 0), (3, .int r1), (0, .ref (V.2.2 e0)), (1, .int x1), (2, .ref (V.2.2 e2))] rfl ?_
  refine g_sub [2, 4, 1, 0] rfl ?_
  exact wLX0_pass_23  X hQ  128 e0 e2 r1 0 h0 h2 (pI (pI I1 e0 0 x1) e0 1 (((pI I1 e0 0 x1) e0 1) + 1)) J1 hf
set_option maxRecDepth 4000 in
theorem cX0_pass_ok (l : Launch) (V : VT) (e0 : Nat) (x1 : Int32) (e2 : Nat) (h0 : okc cS e0 0 0) (h2 : okc cS e2 1 0) (I : aI) (J : aJ) {q : RT Int32} (hf : fX0_pass e0 x1 e2 I J = some q) : Met l yX0_pass (.code yX0_pass cX0_pass 5 (some .int) :: GG) (rmD 2) (va_Pc [.ref (V.2.2 e0), .int x1, .ref (V.2.2 e2)] (cQ cS V I J)) (QI cS V q) 0 0 (vAd cS V) :=
  met_I (by decide +kernel) rfl (Nat.le_of_ble_eq_true rfl) (fun _ _ X hQ => wX0_pass X hQ e0 x1 e2 h0 h2 I J hf)
-- X1_copy
set_option maxRecDepth 4000 in
theorem wX1_copy {M : MT} {V : VT} (X : Cx M cS V cX1_copy 2 RX1 none 1) {q : RT Unit} (hQ : PV M cS V q) (e0 : Nat) (e1 : Nat) (h0 : okc cS e0 1 0) (h1 : okc cS e1 1 0) (I : aI) (J : aJ) (hf : fX1_copy e0 e1 I J = some q) : Wg M cS V 2 I J 0 [(0, .ref (V.2.2 e0)), (1, .ref (V.2.2 e1))] [] := by
  unfold fX1_copy at hf
  refine g_aload_n X dX1_copy_0 0 rfl ?_
  refine g_aload_n X dX1_copy_1 1 rfl ?_
  refine g_get X dX1_copy_2 h1 cl1 0 (by decide) m_176 rfl ?_
  refine g_putI X dX1_copy_5 h0 cl1 0 (by decide) m_176 rfl .int rfl rfl rfl (Nat.le_of_ble_eq_true rfl) (fun _ _ => rfl) ?_
  refine g_aload_n X dX1_copy_8 1 rfl ?_
  refine g_get X dX1_copy_9 h1 cl1 1 (by decide) m_179 rfl ?_
  refine g_iconst X dX1_copy_12 (v := 0) rfl ?_
  refine g_aload_n X dX1_copy_13 0 rfl ?_
  refine g_get X dX1_copy_14 h0 cl1 1 (by decide) m_179 rfl ?_
  refine g_iconst X dX1_copy_17 (v := 0) rfl ?_
  refine g_bipush X dX1_copy_18 (v := 6) rfl ?_
  refine g_copyI X dX1_copy_20 m_767 m_658 m_657 m_87 ((ok_fk h1).1) ((ok_fk h0).1) (by decide) (by decide) ?_
  refine g_aload_n X dX1_copy_23 1 rfl ?_
  refine g_get X dX1_copy_24 h1 cl1 2 (by decide) m_182 rfl ?_
  refine g_iconst X dX1_copy_27 (v := 0) rfl ?_
  refine g_aload_n X dX1_copy_28 0 rfl ?_
  refine g_get X dX1_copy_29 h0 cl1 2 (by decide) m_182 rfl ?_
  refine g_iconst X dX1_copy_32 (v := 0) rfl ?_
  refine g_bipush X dX1_copy_33 (v := 6) rfl ?_
  refine g_copyI X dX1_copy_35 m_767 m_658 m_657 m_87 ((ok_fk h1).2.1) ((ok_fk h0).2.1) (by decide) (by decide) ?_
  refine g_aload_n X dX1_copy_38 1 rfl ?_
  refine g_get X dX1_copy_39 h1 cl1 3 (by decide) m_184 rfl ?_
  refine g_iconst X dX1_copy_42 (v := 0) rfl ?_
  refine g_aload_n X dX1_copy_43 0 rfl ?_
  refine g_get X dX1_copy_44 h0 cl1 3 (by decide) m_184 rfl ?_
  refine g_iconst X dX1_copy_47 (v := 0) rfl ?_
  refine g_bipush X dX1_copy_48 (v := 6) rfl ?_
  refine g_copyI X dX1_copy_50 m_767 m_658 m_657 m_87 ((ok_fk h1).2.2.1) ((ok_fk h0).2.2.1) (by decide) (by decide) ?_
  refine g_aload_n X dX1_copy_53 1 rfl ?_
  refine g_get X dX1_copy_54 h1 cl1 4 (by decide) m_186 rfl ?_
  refine g_iconst X dX1_copy_57 (v := 0) rfl ?_
  refine g_aload_n X dX1_copy_58 0 rfl ?_
  refine g_get X dX1_copy_59 h0 cl1 4 (by decide) m_186 rfl ?_
  refine g_iconst X dX1_copy_62 (v := 0) rfl ?_
  refine g_bipush X dX1_copy_63 (v := 6) rfl ?_
  refine g_copyI X dX1_copy_65 m_767 m_658 m_657 m_87 ((ok_fk h1).2.2.2) ((ok_fk h0).2.2.2) (by decide) (by decide) ?_
  cases hf
  exact g_vreturn X dX1_copy_68 hQ
set_option maxRecDepth 4000 in
theorem cX1_copy_ok (l : Launch) (V : VT) (e0 : Nat) (e1 : Nat) (h0 : okc cS e0 1 0) (h1 : okc cS e1 1 0) (I : aI) (J : aJ) {q : RT Unit} (hf : fX1_copy e0 e1 I J = some q) : Met l yX1_copy (.code yX1_copy cX1_copy 2 none :: GG) (rmD 1) (va_Pc [.ref (V.2.2 e0), .ref (V.2.2 e1)] (cQ cS V I J)) (QV cS V q) 0 0 (vAd cS V) :=
  met_V (by decide +kernel) rfl (Nat.le_of_ble_eq_true rfl) (fun _ _ X hQ => wX1_copy X hQ e0 e1 h0 h1 I J hf)
-- X1_isOfKind
set_option maxRecDepth 4000 in
theorem wBX1_isOfKind_34 {M : MT} {V : VT}  (X : Cx M cS V cX1_isOfKind 3 RX1 (some .boolean) 0) {q : RT Int32} (hQ : PI M cS V q)  (s0 : Int32)  (I : aI) (J : aJ) (hf : BX1_isOfKind_34   s0 I J = some q) : Wg M cS V 3 I J 34 [] [.int s0] := by
  unfold BX1_isOfKind_34 at hf
  obtain ⟨hg6, hf⟩ := gd_some hf
  cases hf
  exact g_zreturn X dX1_isOfKind_34 (of_decide_eq_true hg6) hQ
set_option maxRecDepth 4000 in
theorem wBX1_isOfKind_29 {M : MT} {V : VT}  (X : Cx M cS V cX1_isOfKind 3 RX1 (some .boolean) 0) {q : RT Int32} (hQ : PI M cS V q)    (I : aI) (J : aJ) (hf : BX1_isOfKind_29    I J = some q) : Wg M cS V 3 I J 29 [] [] := by
  unfold BX1_isOfKind_29 at hf
  refine g_iconst X dX1_isOfKind_29 (v := 1) rfl ?_
  refine g_goto X dX1_isOfKind_30 (tgt := 34) (by decide) ?_
  exact wBX1_isOfKind_34  X hQ  1  I J hf
set_option maxRecDepth 4000 in
theorem wBX1_isOfKind_33 {M : MT} {V : VT}  (X : Cx M cS V cX1_isOfKind 3 RX1 (some .boolean) 0) {q : RT Int32} (hQ : PI M cS V q)    (I : aI) (J : aJ) (hf : BX1_isOfKind_33    I J = some q) : Wg M cS V 3 I J 33 [] [] := by
  unfold BX1_isOfKind_33 at hf
  refine g_iconst X dX1_isOfKind_33 (v := 0) rfl ?_
  exact wBX1_isOfKind_34  X hQ  0  I J hf
set_option maxRecDepth 4000 in
theorem wX1_isOfKind {M : MT} {V : VT} (X : Cx M cS V cX1_isOfKind 3 RX1 (some .boolean) 0) {q : RT Int32} (hQ : PI M cS V q) (e0 : Nat) (x1 : Int32) (x2 : Int32) (h0 : okc cS e0 1 0) (I : aI) (J : aJ) (hf : fX1_isOfKind e0 x1 x2 I J = some q) : Wg M cS V 3 I J 0 [(0, .ref (V.2.2 e0)), (1, .int x1), (2, .int x2)] [] := by
  unfold fX1_isOfKind at hf
  refine g_iload_n X dX1_isOfKind_0 2 rfl ?_
  refine g_if_eq X dX1_isOfKind_1 (tgt := 29) (by decide) (fun hc1 => ?_) (fun hc1 => ?_)
  · rw [if_pos hc1] at hf
    refine g_sub [] rfl ?_
    exact wBX1_isOfKind_29  X hQ    I J hf
  · rw [if_neg hc1] at hf
    refine g_aload_n X dX1_isOfKind_4 0 rfl ?_
    refine g_get X dX1_isOfKind_5 h0 cl1 2 (by decide) m_182 rfl ?_
    refine g_iload_n X dX1_isOfKind_8 1 rfl ?_
    obtain ⟨hg2, hf⟩ := gd_some hf
    refine g_iaload X dX1_isOfKind_9 ((ok_fk h0).2.1) hg2 ?_
    refine g_iload_n X dX1_isOfKind_10 2 rfl ?_
    refine g_icmp_eq X dX1_isOfKind_11 (tgt := 29) (by decide) (fun hc3 => ?_) (fun hc3 => ?_)
    · rw [if_pos hc3] at hf
      refine g_sub [] rfl ?_
      exact wBX1_isOfKind_29  X hQ    I J hf
    · rw [if_neg hc3] at hf
      refine g_iload_n X dX1_isOfKind_14 2 rfl ?_
      refine g_iconst X dX1_isOfKind_15 (v := 1) rfl ?_
      refine g_icmp_ne X dX1_isOfKind_16 (tgt := 33) (by decide) (fun hc4 => ?_) (fun hc4 => ?_)
      · rw [if_neg hc4] at hf
        refine g_sub [] rfl ?_
        exact wBX1_isOfKind_33  X hQ    I J hf
      · rw [if_pos hc4] at hf
        refine g_aload_n X dX1_isOfKind_19 0 rfl ?_
        refine g_get X dX1_isOfKind_20 h0 cl1 2 (by decide) m_182 rfl ?_
        refine g_iload_n X dX1_isOfKind_23 1 rfl ?_
        refine g_iaload X dX1_isOfKind_24 ((ok_fk h0).2.1) hg2 ?_
        refine g_iconst X dX1_isOfKind_25 (v := 4) rfl ?_
        refine g_icmp_ne X dX1_isOfKind_26 (tgt := 33) (by decide) (fun hc5 => ?_) (fun hc5 => ?_)
        · rw [if_neg hc5] at hf
          refine g_sub [] rfl ?_
          exact wBX1_isOfKind_33  X hQ    I J hf
        · rw [if_pos hc5] at hf
          refine g_sub [] rfl ?_
          exact wBX1_isOfKind_29  X hQ    I J hf
set_option maxRecDepth 4000 in
theorem cX1_isOfKind_ok (l : Launch) (V : VT) (e0 : Nat) (x1 : Int32) (x2 : Int32) (h0 : okc cS e0 1 0) (I : aI) (J : aJ) {q : RT Int32} (hf : fX1_isOfKind e0 x1 x2 I J = some q) : Met l yX1_isOfKind (.code yX1_isOfKind cX1_isOfKind 3 (some .boolean) :: GG) (rmD 0) (va_Pc [.ref (V.2.2 e0), .int x1, .int x2] (cQ cS V I J)) (QI cS V q) 0 0 (vAd cS V) :=
  met_I (by decide +kernel) rfl (Nat.le_of_ble_eq_true rfl) (fun _ _ X hQ => wX1_isOfKind X hQ e0 x1 x2 h0 I J hf)
-- X3_personStart
set_option maxRecDepth 4000 in
theorem wX3_personStart {M : MT} {V : VT} (X : Cx M cS V cX3_personStart 2 RX3 (some .int) 0) {q : RT Int32} (hQ : PI M cS V q) (x1 : Int32)  (I : aI) (J : aJ) (hf : fX3_personStart x1 I J = some q) : Wg M cS V 2 I J 0 [(0, .ref (V.2.2 1)), (1, .int x1)] [] := by
  unfold fX3_personStart at hf
  refine g_aload_n X dX3_personStart_0 0 rfl ?_
  refine g_get X dX3_personStart_1 okC_1 cl3 4 (by decide) m_110 rfl ?_
  refine g_iconst X dX3_personStart_4 (v := 5) rfl ?_
  refine g_iload_n X dX3_personStart_5 1 rfl ?_
  refine g_imul X dX3_personStart_6 ?_
  refine g_iadd X dX3_personStart_7 ?_
  cases hf
  exact g_ireturn X dX3_personStart_8 hQ
set_option maxRecDepth 4000 in
theorem cX3_personStart_ok (l : Launch) (V : VT) (x1 : Int32)  (I : aI) (J : aJ) {q : RT Int32} (hf : fX3_personStart x1 I J = some q) : Met l yX3_personStart (.code yX3_personStart cX3_personStart 2 (some .int) :: GG) (rmD 0) (va_Pc [.ref (V.2.2 1), .int x1] (cQ cS V I J)) (QI cS V q) 0 0 (vAd cS V) :=
  met_I (by decide +kernel) rfl (Nat.le_of_ble_eq_true rfl) (fun _ _ X hQ => wX3_personStart X hQ x1  I J hf)
-- J0_isLatin1_aae02
set_option maxRecDepth 4000 in
theorem wBJ0_isLatin1_aae02_18 {M : MT} {V : VT}  (X : Cx M cS V cJ0_isLatin1_aae02 1 RJ0 (some .boolean) 0) {q : RT Int32} (hQ : PI M cS V q)  (s0 : Int32)  (I : aI) (J : aJ) (hf : BJ0_isLatin1_aae02_18   s0 I J = some q) : Wg M cS V 1 I J 18 [] [.int s0] := by
  unfold BJ0_isLatin1_aae02_18 at hf
  obtain ⟨hg3, hf⟩ := gd_some hf
  cases hf
  exact g_zreturn X dJ0_isLatin1_aae02_18 (of_decide_eq_true hg3) hQ
set_option maxRecDepth 4000 in
theorem wBJ0_isLatin1_aae02_17 {M : MT} {V : VT}  (X : Cx M cS V cJ0_isLatin1_aae02 1 RJ0 (some .boolean) 0) {q : RT Int32} (hQ : PI M cS V q)    (I : aI) (J : aJ) (hf : BJ0_isLatin1_aae02_17    I J = some q) : Wg M cS V 1 I J 17 [] [] := by
  unfold BJ0_isLatin1_aae02_17 at hf
  refine g_iconst X dJ0_isLatin1_aae02_17 (v := 0) rfl ?_
  exact wBJ0_isLatin1_aae02_18  X hQ  0  I J hf
set_option maxRecDepth 4000 in
theorem wJ0_isLatin1_aae02 {M : MT} {V : VT} (X : Cx M cS V cJ0_isLatin1_aae02 1 RJ0 (some .boolean) 0) {q : RT Int32} (hQ : PI M cS V q)   (I : aI) (J : aJ) (hf : fJ0_isLatin1_aae02  I J = some q) : Wg M cS V 1 I J 0 [(0, .ref (V.2.2 101))] [] := by
  unfold fJ0_isLatin1_aae02 at hf
  refine g_gcomp X dJ0_isLatin1_aae02_0 m_391 ?_
  refine g_if_eq X dJ0_isLatin1_aae02_3 (tgt := 17) (by decide) (fun hc1 => ?_) (fun hc1 => ?_)
  · rw [if_pos hc1] at hf
    refine g_sub [] rfl ?_
    exact wBJ0_isLatin1_aae02_17  X hQ    I J hf
  · rw [if_neg hc1] at hf
    refine g_aload_n X dJ0_isLatin1_aae02_6 0 rfl ?_
    refine g_gcoder X dJ0_isLatin1_aae02_7 m_1216 ?_
    refine g_if_ne X dJ0_isLatin1_aae02_10 (tgt := 17) (by decide) (fun hc2 => ?_) (fun hc2 => ?_)
    · rw [if_neg hc2] at hf
      refine g_sub [] rfl ?_
      exact wBJ0_isLatin1_aae02_17  X hQ    I J hf
    · rw [if_pos hc2] at hf
      refine g_iconst X dJ0_isLatin1_aae02_13 (v := 1) rfl ?_
      refine g_goto X dJ0_isLatin1_aae02_14 (tgt := 18) (by decide) ?_
      refine g_sub [] rfl ?_
      exact wBJ0_isLatin1_aae02_18  X hQ  1  I J hf
set_option maxRecDepth 4000 in
theorem cJ0_isLatin1_aae02_ok (l : Launch) (V : VT)   (I : aI) (J : aJ) {q : RT Int32} (hf : fJ0_isLatin1_aae02  I J = some q) : Met l yJ0_isLatin1_aae02 (.code yJ0_isLatin1_aae02 cJ0_isLatin1_aae02 1 (some .boolean) :: GG) (rmD 0) (va_Pc [.ref (V.2.2 101)] (cQ cS V I J)) (QI cS V q) 0 0 (vAd cS V) :=
  met_I (by decide +kernel) rfl (Nat.le_of_ble_eq_true rfl) (fun _ _ X hQ => wJ0_isLatin1_aae02 X hQ   I J hf)
-- J0_coder_7d493
set_option maxRecDepth 4000 in
theorem wBJ0_coder_7d493_14 {M : MT} {V : VT}  (X : Cx M cS V cJ0_coder_7d493 1 RJ0 (some .byte) 0) {q : RT Int32} (hQ : PI M cS V q)  (s0 : Int32)  (I : aI) (J : aJ) (hf : BJ0_coder_7d493_14   s0 I J = some q) : Wg M cS V 1 I J 14 [] [.int s0] := by
  unfold BJ0_coder_7d493_14 at hf
  obtain ⟨hg2, hf⟩ := gd_some hf
  cases hf
  exact g_breturn X dJ0_coder_7d493_14 (of_decide_eq_true hg2) hQ
set_option maxRecDepth 4000 in
theorem wJ0_coder_7d493 {M : MT} {V : VT} (X : Cx M cS V cJ0_coder_7d493 1 RJ0 (some .byte) 0) {q : RT Int32} (hQ : PI M cS V q)   (I : aI) (J : aJ) (hf : fJ0_coder_7d493  I J = some q) : Wg M cS V 1 I J 0 [(0, .ref (V.2.2 101))] [] := by
  unfold fJ0_coder_7d493 at hf
  refine g_gcomp X dJ0_coder_7d493_0 m_391 ?_
  refine g_if_eq X dJ0_coder_7d493_3 (tgt := 13) (by decide) (fun hc1 => ?_) (fun hc1 => ?_)
  · rw [if_pos hc1] at hf
    refine g_iconst X dJ0_coder_7d493_13 (v := 1) rfl ?_
    refine g_sub [] rfl ?_
    exact wBJ0_coder_7d493_14  X hQ  1  I J hf
  · rw [if_neg hc1] at hf
    refine g_aload_n X dJ0_coder_7d493_6 0 rfl ?_
    refine g_gcoder X dJ0_coder_7d493_7 m_1216 ?_
    refine g_goto X dJ0_coder_7d493_10 (tgt := 14) (by decide) ?_
    refine g_sub [] rfl ?_
    exact wBJ0_coder_7d493_14  X hQ  0  I J hf
set_option maxRecDepth 4000 in
theorem cJ0_coder_7d493_ok (l : Launch) (V : VT)   (I : aI) (J : aJ) {q : RT Int32} (hf : fJ0_coder_7d493  I J = some q) : Met l yJ0_coder_7d493 (.code yJ0_coder_7d493 cJ0_coder_7d493 1 (some .byte) :: GG) (rmD 0) (va_Pc [.ref (V.2.2 101)] (cQ cS V I J)) (QI cS V q) 0 0 (vAd cS V) :=
  met_I (by decide +kernel) rfl (Nat.le_of_ble_eq_true rfl) (fun _ _ X hQ => wJ0_coder_7d493 X hQ   I J hf)
-- J0_length_8abf5
set_option maxRecDepth 4000 in
theorem wJ0_length_8abf5 {M : MT} {V : VT} (X : Cx M cS V cJ0_length_8abf5 1 RJ0 (some .int) 1) {q : RT Int32} (hQ : PI M cS V q)   (I : aI) (J : aJ) (hf : fJ0_length_8abf5  I J = some q) : Wg M cS V 1 I J 0 [(0, .ref (V.2.2 101))] [] := by
  unfold fJ0_length_8abf5 at hf
  refine g_aload_n X dJ0_length_8abf5_0 0 rfl ?_
  refine g_gvalue X dJ0_length_8abf5_1 m_1217 ?_
  refine g_alen102 X dJ0_length_8abf5_4 ?_
  refine g_aload_n X dJ0_length_8abf5_5 0 rfl ?_
  obtain ⟨r1, I1, J1, hb1, hf⟩ := bnd_some hf
  refine g_callV X dJ0_length_8abf5_6 cw_J0_335 (k := 101) (As := []) rcv101 rfl rfl (Nat.le_of_ble_eq_true rfl) (by decide) (cJ0_coder_7d493_ok  M.2.1 V   I J hb1) (kI ?_)
  refine g_ishr X dJ0_length_8abf5_9 ?_
  cases hf
  exact g_ireturn X dJ0_length_8abf5_10 hQ
set_option maxRecDepth 4000 in
theorem cJ0_length_8abf5_ok (l : Launch) (V : VT)   (I : aI) (J : aJ) {q : RT Int32} (hf : fJ0_length_8abf5  I J = some q) : Met l yJ0_length_8abf5 (.code yJ0_length_8abf5 cJ0_length_8abf5 1 (some .int) :: GG) (rmD 1) (va_Pc [.ref (V.2.2 101)] (cQ cS V I J)) (QI cS V q) 0 0 (vAd cS V) :=
  met_I (by decide +kernel) rfl (Nat.le_of_ble_eq_true rfl) (fun _ _ X hQ => wJ0_length_8abf5 X hQ   I J hf)
-- J1_canEncode_9a6ad
set_option maxRecDepth 4000 in
theorem wBJ1_canEncode_9a6ad_16 {M : MT} {V : VT}  (X : Cx M cS V cJ1_canEncode_9a6ad 1 RJ1 (some .boolean) 0) {q : RT Int32} (hQ : PI M cS V q)  (s0 : Int32)  (I : aI) (J : aJ) (hf : BJ1_canEncode_9a6ad_16   s0 I J = some q) : Wg M cS V 1 I J 16 [] [.int s0] := by
  unfold BJ1_canEncode_9a6ad_16 at hf
  obtain ⟨hg3, hf⟩ := gd_some hf
  cases hf
  exact g_zreturn X dJ1_canEncode_9a6ad_16 (of_decide_eq_true hg3) hQ
set_option maxRecDepth 4000 in
theorem wBJ1_canEncode_9a6ad_15 {M : MT} {V : VT}  (X : Cx M cS V cJ1_canEncode_9a6ad 1 RJ1 (some .boolean) 0) {q : RT Int32} (hQ : PI M cS V q)    (I : aI) (J : aJ) (hf : BJ1_canEncode_9a6ad_15    I J = some q) : Wg M cS V 1 I J 15 [] [] := by
  unfold BJ1_canEncode_9a6ad_15 at hf
  refine g_iconst X dJ1_canEncode_9a6ad_15 (v := 0) rfl ?_
  exact wBJ1_canEncode_9a6ad_16  X hQ  0  I J hf
set_option maxRecDepth 4000 in
theorem wJ1_canEncode_9a6ad {M : MT} {V : VT} (X : Cx M cS V cJ1_canEncode_9a6ad 1 RJ1 (some .boolean) 0) {q : RT Int32} (hQ : PI M cS V q) (x0 : Int32)  (I : aI) (J : aJ) (hf : fJ1_canEncode_9a6ad x0 I J = some q) : Wg M cS V 1 I J 0 [(0, .int x0)] [] := by
  unfold fJ1_canEncode_9a6ad at hf
  refine g_iload_n X dJ1_canEncode_9a6ad_0 0 rfl ?_
  refine g_if_lt X dJ1_canEncode_9a6ad_1 (tgt := 15) (by decide) (fun hc1 => ?_) (fun hc1 => ?_)
  · rw [if_pos hc1] at hf
    refine g_sub [] rfl ?_
    exact wBJ1_canEncode_9a6ad_15  X hQ    I J hf
  · rw [if_neg hc1] at hf
    refine g_iload_n X dJ1_canEncode_9a6ad_4 0 rfl ?_
    refine g_sipush X dJ1_canEncode_9a6ad_5 (v := 255) rfl ?_
    refine g_icmp_gt X dJ1_canEncode_9a6ad_8 (tgt := 15) (by decide) (fun hc2 => ?_) (fun hc2 => ?_)
    · rw [if_pos hc2] at hf
      refine g_sub [] rfl ?_
      exact wBJ1_canEncode_9a6ad_15  X hQ    I J hf
    · rw [if_neg hc2] at hf
      refine g_iconst X dJ1_canEncode_9a6ad_11 (v := 1) rfl ?_
      refine g_goto X dJ1_canEncode_9a6ad_12 (tgt := 16) (by decide) ?_
      refine g_sub [] rfl ?_
      exact wBJ1_canEncode_9a6ad_16  X hQ  1  I J hf
set_option maxRecDepth 4000 in
theorem cJ1_canEncode_9a6ad_ok (l : Launch) (V : VT) (x0 : Int32)  (I : aI) (J : aJ) {q : RT Int32} (hf : fJ1_canEncode_9a6ad x0 I J = some q) : Met l yJ1_canEncode_9a6ad (.code yJ1_canEncode_9a6ad cJ1_canEncode_9a6ad 1 (some .boolean) :: GG) (rmD 0) (va_Pc [.int x0] (cQ cS V I J)) (QI cS V q) 0 0 (vAd cS V) :=
  met_I (by decide +kernel) rfl (Nat.le_of_ble_eq_true rfl) (fun _ _ X hQ => wJ1_canEncode_9a6ad X hQ x0  I J hf)
-- J1_indexOfChar_4cfef
set_option maxRecDepth 4000 in
theorem wHJ1_indexOfChar_4cfef_7 {M : MT} {V : VT}  (X : Cx M cS V cJ1_indexOfChar_4cfef 6 RJ1 (some .int) 0) {q : RT Int32} (hQ : PI M cS V q) (k7 : Int32 → Int32 → Int32 → aI → aJ → Option (RT Int32)) (hk7 : ∀ (x3 : Int32) (x4 : Int32) (x5 : Int32)  (I : aI) (J : aJ), k7 x3 x4 x5 I J = some q → Wg M cS V 6 I J 7 [(0, .ref (V.2.2 102)), (3, .int x3), (4, .int x4), (5, .int x5)] []) (x3 : Int32) (x4 : Int32) (x5 : Int32)  (I : aI) (J : aJ) (hf : HJ1_indexOfChar_4cfef_7  k7 x3 x4 x5 I J = some q) : Wg M cS V 6 I J 7 [(0, .ref (V.2.2 102)), (3, .int x3), (4, .int x4), (5, .int x5)] [] := by
  unfold HJ1_indexOfChar_4cfef_7 at hf
  refine g_iload X dJ1_indexOfChar_4cfef_7 3 rfl ?_
  refine g_iload_n X dJ1_indexOfChar_4cfef_9 1 rfl ?_
  refine g_icmp_ge X dJ1_indexOfChar_4cfef_10 (tgt := 31) (by decide) (fun hc1 => ?_) (fun hc1 => ?_)
  · rw [if_pos hc1] at hf
    refine g_iconst X dJ1_indexOfChar_4cfef_31 (v := (-1)) rfl ?_
    cases hf
    exact g_ireturn X dJ1_indexOfChar_4cfef_32 hQ
  · rw [if_neg hc1] at hf
    refine g_aload_n X dJ1_indexOfChar_4cfef_13 0 rfl ?_
    refine g_iload X dJ1_indexOfChar_4cfef_14 3 rfl ?_
    obtain ⟨hg2, hf⟩ := gd_some hf
    refine g_bald102 X dJ1_indexOfChar_4cfef_16 hg2 ?_
    refine g_iload X dJ1_indexOfChar_4cfef_17 2 rfl ?_
    refine g_icmp_ne X dJ1_indexOfChar_4cfef_19 (tgt := 25) (by decide) (fun hc3 => ?_) (fun hc3 => ?_)
    · rw [if_neg hc3] at hf
      refine g_iinc X dJ1_indexOfChar_4cfef_25 3 rfl 1 rfl (by decide) [(5, .int (x5 + 1)), (0, .ref (V.2.2 102)), (3, .int x3), (4, .int x4)] rfl ?_
      refine g_goto X dJ1_indexOfChar_4cfef_28 (tgt := 7) (by decide) ?_
      refine g_sub [1, 2, 3, 0] rfl ?_
      exact hk7 x3 x4 (x5 + 1)  I J hf
    · rw [if_pos hc3] at hf
      refine g_iload X dJ1_indexOfChar_4cfef_22 3 rfl ?_
      cases hf
      exact g_ireturn X dJ1_indexOfChar_4cfef_24 hQ
set_option maxRecDepth 4000 in
theorem wLJ1_indexOfChar_4cfef_7 {M : MT} {V : VT}  (X : Cx M cS V cJ1_indexOfChar_4cfef 6 RJ1 (some .int) 0) {q : RT Int32} (hQ : PI M cS V q)  : ∀ (n : Nat) (x3 : Int32) (x4 : Int32) (x5 : Int32)  (I : aI) (J : aJ), LJ1_indexOfChar_4cfef_7   n x3 x4 x5 I J = some q → Wg M cS V 6 I J 7 [(0, .ref (V.2.2 102)), (3, .int x3), (4, .int x4), (5, .int x5)] [] := by
  intro n
  induction n with
  | zero => intro x3 x4 x5  I J hf; cases hf
  | succ n ih => intro x3 x4 x5  I J hf; exact wHJ1_indexOfChar_4cfef_7  X hQ  (LJ1_indexOfChar_4cfef_7   n) ih x3 x4 x5  I J hf
set_option maxRecDepth 4000 in
theorem wJ1_indexOfChar_4cfef {M : MT} {V : VT} (X : Cx M cS V cJ1_indexOfChar_4cfef 6 RJ1 (some .int) 0) {q : RT Int32} (hQ : PI M cS V q) (x1 : Int32) (x2 : Int32) (x3 : Int32)  (I : aI) (J : aJ) (hf : fJ1_indexOfChar_4cfef x1 x2 x3 I J = some q) : Wg M cS V 6 I J 0 [(0, .ref (V.2.2 102)), (1, .int x1), (2, .int x2), (3, .int x3)] [] := by
  unfold fJ1_indexOfChar_4cfef at hf
  refine g_iload_n X dJ1_indexOfChar_4cfef_0 1 rfl ?_
  refine g_i2b X dJ1_indexOfChar_4cfef_1 ?_
  refine g_istore X dJ1_indexOfChar_4cfef_2 (by decide) [(4, .int ((Int32.toInt8 x1).toInt32)), (0, .ref (V.2.2 102)), (1, .int x1), (2, .int x2), (3, .int x3)] rfl ?_
  refine g_iload_n X dJ1_indexOfChar_4cfef_4 3 rfl ?_
  refine g_istore X dJ1_indexOfChar_4cfef_5 (by decide) [(5, .int x2), (4, .int ((Int32.toInt8 x1).toInt32)), (0, .ref (V.2.2 102)), (1, .int x1), (2, .int x2), (3, .int x3)] rfl ?_
  refine g_sub [2, 5, 1, 0] rfl ?_
  exact wLJ1_indexOfChar_4cfef_7  X hQ  128 x3 ((Int32.toInt8 x1).toInt32) x2  I J hf
set_option maxRecDepth 4000 in
theorem cJ1_indexOfChar_4cfef_ok (l : Launch) (V : VT) (x1 : Int32) (x2 : Int32) (x3 : Int32)  (I : aI) (J : aJ) {q : RT Int32} (hf : fJ1_indexOfChar_4cfef x1 x2 x3 I J = some q) : Met l yJ1_indexOfChar_4cfef (.code yJ1_indexOfChar_4cfef cJ1_indexOfChar_4cfef 6 (some .int) :: GG) (rmD 0) (va_Pc [.ref (V.2.2 102), .int x1, .int x2, .int x3] (cQ cS V I J)) (QI cS V q) 0 0 (vAd cS V) :=
  met_I (by decide +kernel) rfl (Nat.le_of_ble_eq_true rfl) (fun _ _ X hQ => wJ1_indexOfChar_4cfef X hQ x1 x2 x3  I J hf)
-- J1_indexOf_4cfef
set_option maxRecDepth 4000 in
theorem wJ1_indexOf_4cfef {M : MT} {V : VT} (X : Cx M cS V cJ1_indexOf_4cfef 4 RJ1 (some .int) 1) {q : RT Int32} (hQ : PI M cS V q) (x1 : Int32) (x2 : Int32) (x3 : Int32)  (I : aI) (J : aJ) (hf : fJ1_indexOf_4cfef x1 x2 x3 I J = some q) : Wg M cS V 4 I J 0 [(0, .ref (V.2.2 102)), (1, .int x1), (2, .int x2), (3, .int x3)] [] := by
  unfold fJ1_indexOf_4cfef at hf
  refine g_iload_n X dJ1_indexOf_4cfef_0 1 rfl ?_
  obtain ⟨r1, I1, J1, hb1, hf⟩ := bnd_some hf
  refine g_callS X dJ1_indexOf_4cfef_1 sw_J1_88 (As := [.int x1]) rfl rfl (Nat.le_of_ble_eq_true rfl) (by decide) (cJ1_canEncode_9a6ad_ok  M.2.1 V x1  I J hb1) (kI ?_)
  refine g_if_ne X dJ1_indexOf_4cfef_4 (tgt := 9) (by decide) (fun hc2 => ?_) (fun hc2 => ?_)
  · rw [if_neg hc2] at hf
    refine g_iload_n X dJ1_indexOf_4cfef_9 2 rfl ?_
    refine g_iconst X dJ1_indexOf_4cfef_10 (v := 0) rfl ?_
    refine g_mmax X dJ1_indexOf_4cfef_11 m_407 m_408 m_81 m_409 (Nat.le_of_ble_eq_true rfl) (by decide) ?_
    refine g_istore_n X dJ1_indexOf_4cfef_14 (by decide) [(2, .int (if x2 < 0 then 0 else x2)), (0, .ref (V.2.2 102)), (1, .int x1), (3, .int x3)] rfl ?_
    refine g_iload_n X dJ1_indexOf_4cfef_15 3 rfl ?_
    refine g_aload_n X dJ1_indexOf_4cfef_16 1 rfl ?_
    refine g_alen102 X dJ1_indexOf_4cfef_17 ?_
    refine g_mmin X dJ1_indexOf_4cfef_18 m_410 m_411 m_81 m_412 (Nat.le_of_ble_eq_true rfl) (by decide) ?_
    refine g_istore_n X dJ1_indexOf_4cfef_21 (by decide) [(3, .int (if 5 < x3 then 5 else x3)), (2, .int (if x2 < 0 then 0 else x2)), (0, .ref (V.2.2 102)), (1, .int x1)] rfl ?_
    refine g_iload_n X dJ1_indexOf_4cfef_22 1 rfl ?_
    refine g_iload_n X dJ1_indexOf_4cfef_23 0 rfl ?_
    refine g_icmp_lt X dJ1_indexOf_4cfef_24 (tgt := 29) (by decide) (fun hc3 => ?_) (fun hc3 => ?_)
    · rw [if_pos hc3] at hf
      refine g_aload_n X dJ1_indexOf_4cfef_29 2 rfl ?_
      refine g_iload_n X dJ1_indexOf_4cfef_30 3 rfl ?_
      refine g_iload_n X dJ1_indexOf_4cfef_31 1 rfl ?_
      refine g_iload_n X dJ1_indexOf_4cfef_32 0 rfl ?_
      obtain ⟨r4, I4, J4, hb4, hf⟩ := bnd_some hf
      refine g_callS X dJ1_indexOf_4cfef_33 sw_J1_95 (As := [.ref (V.2.2 102), .int x1, .int (if x2 < 0 then 0 else x2), .int (if 5 < x3 then 5 else x3)]) rfl rfl (Nat.le_of_ble_eq_true rfl) (by decide) (cJ1_indexOfChar_4cfef_ok  M.2.1 V x1 (if x2 < 0 then 0 else x2) (if 5 < x3 then 5 else x3)  I1 J1 hb4) (kI ?_)
      cases hf
      exact g_ireturn X dJ1_indexOf_4cfef_36 hQ
    · rw [if_neg hc3] at hf
      refine g_iconst X dJ1_indexOf_4cfef_27 (v := (-1)) rfl ?_
      cases hf
      exact g_ireturn X dJ1_indexOf_4cfef_28 hQ
  · rw [if_pos hc2] at hf
    refine g_iconst X dJ1_indexOf_4cfef_7 (v := (-1)) rfl ?_
    cases hf
    exact g_ireturn X dJ1_indexOf_4cfef_8 hQ
set_option maxRecDepth 4000 in
theorem cJ1_indexOf_4cfef_ok (l : Launch) (V : VT) (x1 : Int32) (x2 : Int32) (x3 : Int32)  (I : aI) (J : aJ) {q : RT Int32} (hf : fJ1_indexOf_4cfef x1 x2 x3 I J = some q) : Met l yJ1_indexOf_4cfef (.code yJ1_indexOf_4cfef cJ1_indexOf_4cfef 4 (some .int) :: GG) (rmD 1) (va_Pc [.ref (V.2.2 102), .int x1, .int x2, .int x3] (cQ cS V I J)) (QI cS V q) 0 0 (vAd cS V) :=
  met_I (by decide +kernel) rfl (Nat.le_of_ble_eq_true rfl) (fun _ _ X hQ => wJ1_indexOf_4cfef X hQ x1 x2 x3  I J hf)
-- J0_indexOf_7cf53
set_option maxRecDepth 4000 in
theorem wJ0_indexOf_7cf53 {M : MT} {V : VT} (X : Cx M cS V cJ0_indexOf_7cf53 3 RJ0 (some .int) 2) {q : RT Int32} (hQ : PI M cS V q) (x1 : Int32) (x2 : Int32)  (I : aI) (J : aJ) (hf : fJ0_indexOf_7cf53 x1 x2 I J = some q) : Wg M cS V 3 I J 0 [(0, .ref (V.2.2 101)), (1, .int x1), (2, .int x2)] [] := by
  unfold fJ0_indexOf_7cf53 at hf
  refine g_aload_n X dJ0_indexOf_7cf53_0 0 rfl ?_
  obtain ⟨r1, I1, J1, hb1, hf⟩ := bnd_some hf
  refine g_callV X dJ0_indexOf_7cf53_1 cw_J0_492 (k := 101) (As := []) rcv101 rfl rfl (Nat.le_of_ble_eq_true rfl) (by decide) (cJ0_isLatin1_aae02_ok  M.2.1 V   I J hb1) (kI ?_)
  refine g_if_eq X dJ0_indexOf_7cf53_4 (tgt := 23) (by decide) (fun hc2 => ?_) (fun hc2 => ?_)
  · rw [if_pos hc2] at hf
    cases hf
  · rw [if_neg hc2] at hf
    refine g_aload_n X dJ0_indexOf_7cf53_7 0 rfl ?_
    refine g_gvalue X dJ0_indexOf_7cf53_8 m_1217 ?_
    refine g_iload_n X dJ0_indexOf_7cf53_11 1 rfl ?_
    refine g_iload_n X dJ0_indexOf_7cf53_12 2 rfl ?_
    refine g_aload_n X dJ0_indexOf_7cf53_13 0 rfl ?_
    obtain ⟨r3, I3, J3, hb3, hf⟩ := bnd_some hf
    refine g_callV X dJ0_indexOf_7cf53_14 cw_J0_505 (k := 101) (As := []) rcv101 rfl rfl (Nat.le_of_ble_eq_true rfl) (by decide) (cJ0_length_8abf5_ok  M.2.1 V   I1 J1 hb3) (kI ?_)
    obtain ⟨r4, I4, J4, hb4, hf⟩ := bnd_some hf
    refine g_callS X dJ0_indexOf_7cf53_17 sw_J0_637 (As := [.ref (V.2.2 102), .int x1, .int x2, .int r3]) rfl rfl (Nat.le_of_ble_eq_true rfl) (by decide) (cJ1_indexOf_4cfef_ok  M.2.1 V x1 x2 r3  I3 J3 hb4) (kI ?_)
    refine g_goto X dJ0_indexOf_7cf53_20 (tgt := 36) (by decide) ?_
    cases hf
    exact g_ireturn X dJ0_indexOf_7cf53_36 hQ
set_option maxRecDepth 4000 in
theorem cJ0_indexOf_7cf53_ok (l : Launch) (V : VT) (x1 : Int32) (x2 : Int32)  (I : aI) (J : aJ) {q : RT Int32} (hf : fJ0_indexOf_7cf53 x1 x2 I J = some q) : Met l yJ0_indexOf_7cf53 (.code yJ0_indexOf_7cf53 cJ0_indexOf_7cf53 3 (some .int) :: GG) (rmD 2) (va_Pc [.ref (V.2.2 101), .int x1, .int x2] (cQ cS V I J)) (QI cS V q) 0 0 (vAd cS V) :=
  met_I (by decide +kernel) rfl (Nat.le_of_ble_eq_true rfl) (fun _ _ X hQ => wJ0_indexOf_7cf53 X hQ x1 x2  I J hf)
-- J0_indexOf_0f7a4
set_option maxRecDepth 4000 in
theorem wJ0_indexOf_0f7a4 {M : MT} {V : VT} (X : Cx M cS V cJ0_indexOf_0f7a4 2 RJ0 (some .int) 3) {q : RT Int32} (hQ : PI M cS V q) (x1 : Int32)  (I : aI) (J : aJ) (hf : fJ0_indexOf_0f7a4 x1 I J = some q) : Wg M cS V 2 I J 0 [(0, .ref (V.2.2 101)), (1, .int x1)] [] := by
  unfold fJ0_indexOf_0f7a4 at hf
  refine g_aload_n X dJ0_indexOf_0f7a4_0 0 rfl ?_
  refine g_iload_n X dJ0_indexOf_0f7a4_1 1 rfl ?_
  refine g_iconst X dJ0_indexOf_0f7a4_2 (v := 0) rfl ?_
  obtain ⟨r1, I1, J1, hb1, hf⟩ := bnd_some hf
  refine g_callV X dJ0_indexOf_0f7a4_3 cw_J0_633 (k := 101) (As := [.int x1, .int 0]) rcv101 rfl rfl (Nat.le_of_ble_eq_true rfl) (by decide) (cJ0_indexOf_7cf53_ok  M.2.1 V x1 0  I J hb1) (kI ?_)
  cases hf
  exact g_ireturn X dJ0_indexOf_0f7a4_6 hQ
set_option maxRecDepth 4000 in
theorem cJ0_indexOf_0f7a4_ok (l : Launch) (V : VT) (x1 : Int32)  (I : aI) (J : aJ) {q : RT Int32} (hf : fJ0_indexOf_0f7a4 x1 I J = some q) : Met l yJ0_indexOf_0f7a4 (.code yJ0_indexOf_0f7a4 cJ0_indexOf_0f7a4 2 (some .int) :: GG) (rmD 3) (va_Pc [.ref (V.2.2 101), .int x1] (cQ cS V I J)) (QI cS V q) 0 0 (vAd cS V) :=
  met_I (by decide +kernel) rfl (Nat.le_of_ble_eq_true rfl) (fun _ _ X hQ => wJ0_indexOf_0f7a4 X hQ x1  I J hf)
-- X3_kindAt
set_option maxRecDepth 4000 in
theorem wBX3_kindAt_28 {M : MT} {V : VT}  (X : Cx M cS V cX3_kindAt 2 RX3 (some .int) 4) {q : RT Int32} (hQ : PI M cS V q)  (s0 : Int32)  (I : aI) (J : aJ) (hf : BX3_kindAt_28   s0 I J = some q) : Wg M cS V 2 I J 28 [] [.int s0] := by
  unfold BX3_kindAt_28 at hf
  cases hf
  exact g_ireturn X dX3_kindAt_28 hQ
set_option maxRecDepth 4000 in
theorem wBX3_kindAt_27 {M : MT} {V : VT}  (X : Cx M cS V cX3_kindAt 2 RX3 (some .int) 4) {q : RT Int32} (hQ : PI M cS V q)    (I : aI) (J : aJ) (hf : BX3_kindAt_27    I J = some q) : Wg M cS V 2 I J 27 [] [] := by
  unfold BX3_kindAt_27 at hf
  refine g_iconst X dX3_kindAt_27 (v := (-1)) rfl ?_
  exact wBX3_kindAt_28  X hQ  (-1)  I J hf
set_option maxRecDepth 4000 in
theorem wX3_kindAt {M : MT} {V : VT} (X : Cx M cS V cX3_kindAt 2 RX3 (some .int) 4) {q : RT Int32} (hQ : PI M cS V q) (x1 : Int32)  (I : aI) (J : aJ) (hf : fX3_kindAt x1 I J = some q) : Wg M cS V 2 I J 0 [(0, .ref (V.2.2 1)), (1, .int x1)] [] := by
  unfold fX3_kindAt at hf
  refine g_iload_n X dX3_kindAt_0 1 rfl ?_
  refine g_if_lt X dX3_kindAt_1 (tgt := 27) (by decide) (fun hc1 => ?_) (fun hc1 => ?_)
  · rw [if_pos hc1] at hf
    refine g_sub [] rfl ?_
    exact wBX3_kindAt_27  X hQ    I J hf
  · rw [if_neg hc1] at hf
    refine g_iload_n X dX3_kindAt_4 1 rfl ?_
    refine g_aload_n X dX3_kindAt_5 0 rfl ?_
    refine g_get X dX3_kindAt_6 okC_1 cl3 1 (by decide) m_105 rfl ?_
    refine g_icmp_ge X dX3_kindAt_9 (tgt := 27) (by decide) (fun hc2 => ?_) (fun hc2 => ?_)
    · rw [if_pos hc2] at hf
      refine g_sub [] rfl ?_
      exact wBX3_kindAt_27  X hQ    I J hf
    · rw [if_neg hc2] at hf
      refine g_str X dX3_kindAt_12 ?_
      refine g_aload_n X dX3_kindAt_14 0 rfl ?_
      refine g_get X dX3_kindAt_15 okC_1 cl3 0 (by decide) m_102 rfl ?_
      refine g_iload_n X dX3_kindAt_18 1 rfl ?_
      obtain ⟨hg3, hf⟩ := gd_some hf
      refine g_iaload X dX3_kindAt_19 okC_2 hg3 ?_
      refine g_i2c X dX3_kindAt_20 ?_
      obtain ⟨r4, I4, J4, hb4, hf⟩ := bnd_some hf
      refine g_callV X dX3_kindAt_21 cw_X3_42 (k := 101) (As := [.int ((Int32.toUInt32 (I 2 (Int32.toNatClampNeg x1)) % 65536).toInt32)]) rcv101 rfl rfl (Nat.le_of_ble_eq_true rfl) (by decide) (cJ0_indexOf_0f7a4_ok  M.2.1 V ((Int32.toUInt32 (I 2 (Int32.toNatClampNeg x1)) % 65536).toInt32)  I J hb4) (kI ?_)
      refine g_goto X dX3_kindAt_24 (tgt := 28) (by decide) ?_
      refine g_sub [] rfl ?_
      exact wBX3_kindAt_28  X hQ  r4  I4 J4 hf
set_option maxRecDepth 4000 in
theorem cX3_kindAt_ok (l : Launch) (V : VT) (x1 : Int32)  (I : aI) (J : aJ) {q : RT Int32} (hf : fX3_kindAt x1 I J = some q) : Met l yX3_kindAt (.code yX3_kindAt cX3_kindAt 2 (some .int) :: GG) (rmD 4) (va_Pc [.ref (V.2.2 1), .int x1] (cQ cS V I J)) (QI cS V q) 0 0 (vAd cS V) :=
  met_I (by decide +kernel) rfl (Nat.le_of_ble_eq_true rfl) (fun _ _ X hQ => wX3_kindAt X hQ x1  I J hf)
-- X3_digitAt
set_option maxRecDepth 4000 in
theorem wBX3_digitAt_25 {M : MT} {V : VT}  (X : Cx M cS V cX3_digitAt 2 RX3 (some .int) 0) {q : RT Int32} (hQ : PI M cS V q)  (s0 : Int32)  (I : aI) (J : aJ) (hf : BX3_digitAt_25   s0 I J = some q) : Wg M cS V 2 I J 25 [] [.int s0] := by
  unfold BX3_digitAt_25 at hf
  cases hf
  exact g_ireturn X dX3_digitAt_25 hQ
set_option maxRecDepth 4000 in
theorem wBX3_digitAt_24 {M : MT} {V : VT}  (X : Cx M cS V cX3_digitAt 2 RX3 (some .int) 0) {q : RT Int32} (hQ : PI M cS V q)    (I : aI) (J : aJ) (hf : BX3_digitAt_24    I J = some q) : Wg M cS V 2 I J 24 [] [] := by
  unfold BX3_digitAt_24 at hf
  refine g_iconst X dX3_digitAt_24 (v := 0) rfl ?_
  exact wBX3_digitAt_25  X hQ  0  I J hf
set_option maxRecDepth 4000 in
theorem wX3_digitAt {M : MT} {V : VT} (X : Cx M cS V cX3_digitAt 2 RX3 (some .int) 0) {q : RT Int32} (hQ : PI M cS V q) (x1 : Int32)  (I : aI) (J : aJ) (hf : fX3_digitAt x1 I J = some q) : Wg M cS V 2 I J 0 [(0, .ref (V.2.2 1)), (1, .int x1)] [] := by
  unfold fX3_digitAt at hf
  refine g_iload_n X dX3_digitAt_0 1 rfl ?_
  refine g_if_lt X dX3_digitAt_1 (tgt := 24) (by decide) (fun hc1 => ?_) (fun hc1 => ?_)
  · rw [if_pos hc1] at hf
    refine g_sub [] rfl ?_
    exact wBX3_digitAt_24  X hQ    I J hf
  · rw [if_neg hc1] at hf
    refine g_iload_n X dX3_digitAt_4 1 rfl ?_
    refine g_aload_n X dX3_digitAt_5 0 rfl ?_
    refine g_get X dX3_digitAt_6 okC_1 cl3 1 (by decide) m_105 rfl ?_
    refine g_icmp_ge X dX3_digitAt_9 (tgt := 24) (by decide) (fun hc2 => ?_) (fun hc2 => ?_)
    · rw [if_pos hc2] at hf
      refine g_sub [] rfl ?_
      exact wBX3_digitAt_24  X hQ    I J hf
    · rw [if_neg hc2] at hf
      refine g_aload_n X dX3_digitAt_12 0 rfl ?_
      refine g_get X dX3_digitAt_13 okC_1 cl3 0 (by decide) m_102 rfl ?_
      refine g_iload_n X dX3_digitAt_16 1 rfl ?_
      obtain ⟨hg3, hf⟩ := gd_some hf
      refine g_iaload X dX3_digitAt_17 okC_2 hg3 ?_
      refine g_bipush X dX3_digitAt_18 (v := 48) rfl ?_
      refine g_isub X dX3_digitAt_20 ?_
      refine g_goto X dX3_digitAt_21 (tgt := 25) (by decide) ?_
      refine g_sub [] rfl ?_
      exact wBX3_digitAt_25  X hQ  ((I 2 (Int32.toNatClampNeg x1)) - 48)  I J hf
set_option maxRecDepth 4000 in
theorem cX3_digitAt_ok (l : Launch) (V : VT) (x1 : Int32)  (I : aI) (J : aJ) {q : RT Int32} (hf : fX3_digitAt x1 I J = some q) : Met l yX3_digitAt (.code yX3_digitAt cX3_digitAt 2 (some .int) :: GG) (rmD 0) (va_Pc [.ref (V.2.2 1), .int x1] (cQ cS V I J)) (QI cS V q) 0 0 (vAd cS V) :=
  met_I (by decide +kernel) rfl (Nat.le_of_ble_eq_true rfl) (fun _ _ X hQ => wX3_digitAt X hQ x1  I J hf)
-- X1_settle
set_option maxRecDepth 4000 in
theorem wHX1_settle_10 {M : MT} {V : VT}  (X : Cx M cS V cX1_settle 4 RX1 none 5) {q : RT Unit} (hQ : PV M cS V q) (k10 : Nat → Int32 → aI → aJ → Option (RT Unit)) (hk10 : ∀ (e0 : Nat) (x2 : Int32) (he0 : okc cS e0 1 0) (I : aI) (J : aJ), k10 e0 x2 I J = some q → Wg M cS V 4 I J 10 [(0, .ref (V.2.2 e0)), (1, .ref (V.2.2 1)), (2, .int x2)] []) (e0 : Nat) (x2 : Int32) (he0 : okc cS e0 1 0) (I : aI) (J : aJ) (hf : HX1_settle_10  k10 e0 x2 I J = some q) : Wg M cS V 4 I J 10 [(0, .ref (V.2.2 e0)), (1, .ref (V.2.2 1)), (2, .int x2)] [] := by
  unfold HX1_settle_10 at hf
  refine g_iload_n X dX1_settle_10 2 rfl ?_
  refine g_aload_n X dX1_settle_11 0 rfl ?_
  refine g_get X dX1_settle_12 he0 cl1 0 (by decide) m_176 rfl ?_
  refine g_icmp_ge X dX1_settle_15 (tgt := 80) (by decide) (fun hc1 => ?_) (fun hc1 => ?_)
  · rw [if_pos hc1] at hf
    cases hf
    exact g_vreturn X dX1_settle_80 hQ
  · rw [if_neg hc1] at hf
    refine g_aload_n X dX1_settle_18 1 rfl ?_
    refine g_iload_n X dX1_settle_19 2 rfl ?_
    obtain ⟨r2, I2, J2, hb2, hf⟩ := bnd_some hf
    refine g_callV X dX1_settle_20 cw_X1_33 (k := 1) (As := [.int x2]) (rcv okC_1 cl3) rfl rfl (Nat.le_of_ble_eq_true rfl) (by decide) (cX3_personStart_ok  M.2.1 V x2  I J hb2) (kI ?_)
    refine g_istore_n X dX1_settle_23 (by decide) [(3, .int r2), (0, .ref (V.2.2 e0)), (1, .ref (V.2.2 1)), (2, .int x2)] rfl ?_
    refine g_aload_n X dX1_settle_24 1 rfl ?_
    refine g_get X dX1_settle_25 he0 cl1 2 (by decide) m_182 rfl ?_
    refine g_iload_n X dX1_settle_28 3 rfl ?_
    refine g_aload_n X dX1_settle_29 2 rfl ?_
    refine g_iload_n X dX1_settle_30 0 rfl ?_
    obtain ⟨r3, I3, J3, hb3, hf⟩ := bnd_some hf
    refine g_callV X dX1_settle_31 cw_X1_37 (k := 1) (As := [.int r2]) (rcv okC_1 cl3) rfl rfl (Nat.le_of_ble_eq_true rfl) (by decide) (cX3_kindAt_ok  M.2.1 V r2  I2 J2 hb3) (kI ?_)
    obtain ⟨hg4, hf⟩ := gd_some hf
    refine g_iastore X dX1_settle_34 ((ok_fk he0).2.1) hg4 ?_
    refine g_aload_n X dX1_settle_35 1 rfl ?_
    refine g_get X dX1_settle_36 he0 cl1 1 (by decide) m_179 rfl ?_
    refine g_iload_n X dX1_settle_39 3 rfl ?_
    refine g_aload_n X dX1_settle_40 2 rfl ?_
    refine g_iload_n X dX1_settle_41 0 rfl ?_
    refine g_iconst X dX1_settle_42 (v := 1) rfl ?_
    refine g_iadd X dX1_settle_43 ?_
    obtain ⟨r5, I5, J5, hb5, hf⟩ := bnd_some hf
    refine g_callV X dX1_settle_44 cw_X1_40 (k := 1) (As := [.int (r2 + 1)]) (rcv okC_1 cl3) rfl rfl (Nat.le_of_ble_eq_true rfl) (by decide) (cX3_digitAt_ok  M.2.1 V (r2 + 1)  (pI I3 (e0 + 2) (Int32.toNatClampNeg x2) r3) J3 hb5) (kI ?_)
    refine g_iastore X dX1_settle_47 ((ok_fk he0).1) hg4 ?_
    refine g_aload_n X dX1_settle_48 1 rfl ?_
    refine g_get X dX1_settle_49 he0 cl1 3 (by decide) m_184 rfl ?_
    refine g_iload_n X dX1_settle_52 3 rfl ?_
    refine g_aload_n X dX1_settle_53 2 rfl ?_
    refine g_iload_n X dX1_settle_54 0 rfl ?_
    refine g_iconst X dX1_settle_55 (v := 2) rfl ?_
    refine g_iadd X dX1_settle_56 ?_
    obtain ⟨r6, I6, J6, hb6, hf⟩ := bnd_some hf
    refine g_callV X dX1_settle_57 cw_X1_40 (k := 1) (As := [.int (r2 + 2)]) (rcv okC_1 cl3) rfl rfl (Nat.le_of_ble_eq_true rfl) (by decide) (cX3_digitAt_ok  M.2.1 V (r2 + 2)  (pI I5 (e0 + 1) (Int32.toNatClampNeg x2) r5) J5 hb6) (kI ?_)
    refine g_iastore X dX1_settle_60 ((ok_fk he0).2.2.1) hg4 ?_
    refine g_aload_n X dX1_settle_61 1 rfl ?_
    refine g_get X dX1_settle_62 he0 cl1 4 (by decide) m_186 rfl ?_
    refine g_iload_n X dX1_settle_65 3 rfl ?_
    refine g_aload_n X dX1_settle_66 2 rfl ?_
    refine g_iload_n X dX1_settle_67 0 rfl ?_
    refine g_iconst X dX1_settle_68 (v := 3) rfl ?_
    refine g_iadd X dX1_settle_69 ?_
    obtain ⟨r7, I7, J7, hb7, hf⟩ := bnd_some hf
    refine g_callV X dX1_settle_70 cw_X1_40 (k := 1) (As := [.int (r2 + 3)]) (rcv okC_1 cl3) rfl rfl (Nat.le_of_ble_eq_true rfl) (by decide) (cX3_digitAt_ok  M.2.1 V (r2 + 3)  (pI I6 (e0 + 3) (Int32.toNatClampNeg x2) r6) J6 hb7) (kI ?_)
    refine g_iastore X dX1_settle_73 ((ok_fk he0).2.2.2) hg4 ?_
    refine g_iinc X dX1_settle_74 3 rfl 1 rfl (by decide) [(2, .int (x2 + 1)), (3, .int r2), (0, .ref (V.2.2 e0)), (1, .ref (V.2.2 1))] rfl ?_
    refine g_goto X dX1_settle_77 (tgt := 10) (by decide) ?_
    refine g_sub [2, 3, 0] rfl ?_
    exact hk10 e0 (x2 + 1) he0 (pI I7 (e0 + 4) (Int32.toNatClampNeg x2) r7) J7 hf
set_option maxRecDepth 4000 in
theorem wLX1_settle_10 {M : MT} {V : VT}  (X : Cx M cS V cX1_settle 4 RX1 none 5) {q : RT Unit} (hQ : PV M cS V q)  : ∀ (n : Nat) (e0 : Nat) (x2 : Int32) (he0 : okc cS e0 1 0) (I : aI) (J : aJ), LX1_settle_10   n e0 x2 I J = some q → Wg M cS V 4 I J 10 [(0, .ref (V.2.2 e0)), (1, .ref (V.2.2 1)), (2, .int x2)] [] := by
  intro n
  induction n with
  | zero => intro e0 x2 he0 I J hf; cases hf
  | succ n ih => intro e0 x2 he0 I J hf; exact wHX1_settle_10  X hQ  (LX1_settle_10   n) ih e0 x2 he0 I J hf
set_option maxRecDepth 4000 in
theorem wX1_settle {M : MT} {V : VT} (X : Cx M cS V cX1_settle 4 RX1 none 5) {q : RT Unit} (hQ : PV M cS V q) (e0 : Nat) (h0 : okc cS e0 1 0) (I : aI) (J : aJ) (hf : fX1_settle e0 I J = some q) : Wg M cS V 4 I J 0 [(0, .ref (V.2.2 e0)), (1, .ref (V.2.2 1))] [] := by
  unfold fX1_settle at hf
  refine g_aload_n X dX1_settle_0 0 rfl ?_
  refine g_aload_n X dX1_settle_1 1 rfl ?_
  refine g_get X dX1_settle_2 okC_1 cl3 3 (by decide) m_108 rfl ?_
  refine g_putI X dX1_settle_5 h0 cl1 0 (by decide) m_176 rfl .int rfl rfl rfl (Nat.le_of_ble_eq_true rfl) (fun _ _ => rfl) ?_
  refine g_iconst X dX1_settle_8 (v := 0) rfl ?_
  refine g_istore_n X dX1_settle_9 (by decide) [(2, .int 0), (0, .ref (V.2.2 e0)), (1, .ref (V.2.2 1))] rfl ?_
  refine g_sub [1, 2, 0] rfl ?_
  exact wLX1_settle_10  X hQ  128 e0 0 h0 (pI I e0 0 (I 1 3)) J hf
set_option maxRecDepth 4000 in
theorem cX1_settle_ok (l : Launch) (V : VT) (e0 : Nat) (h0 : okc cS e0 1 0) (I : aI) (J : aJ) {q : RT Unit} (hf : fX1_settle e0 I J = some q) : Met l yX1_settle (.code yX1_settle cX1_settle 4 none :: GG) (rmD 5) (va_Pc [.ref (V.2.2 e0), .ref (V.2.2 1)] (cQ cS V I J)) (QV cS V q) 0 0 (vAd cS V) :=
  met_V (by decide +kernel) rfl (Nat.le_of_ble_eq_true rfl) (fun _ _ X hQ => wX1_settle X hQ e0 h0 I J hf)
-- X1_whoLivesAt
set_option maxRecDepth 4000 in
theorem wBX1_whoLivesAt_28 {M : MT} {V : VT}  (X : Cx M cS V cX1_whoLivesAt 4 RX1 (some .int) 0) {q : RT Int32} (hQ : PI M cS V q) (k4 : Nat → Int32 → Int32 → Int32 → aI → aJ → Option (RT Int32)) (hk4 : ∀ (e0 : Nat) (x1 : Int32) (x2 : Int32) (x3 : Int32) (he0 : okc cS e0 1 0) (I : aI) (J : aJ), k4 e0 x1 x2 x3 I J = some q → Wg M cS V 4 I J 4 [(0, .ref (V.2.2 e0)), (1, .int x1), (2, .int x2), (3, .int x3)] []) (e0 : Nat) (x1 : Int32) (x2 : Int32) (x3 : Int32) (he0 : okc cS e0 1 0) (I : aI) (J : aJ) (hf : BX1_whoLivesAt_28  k4 e0 x1 x2 x3 I J = some q) : Wg M cS V 4 I J 28 [(0, .ref (V.2.2 e0)), (1, .int x1), (2, .int x2), (3, .int x3)] [] := by
  unfold BX1_whoLivesAt_28 at hf
  refine g_iinc X dX1_whoLivesAt_28 3 rfl 1 rfl (by decide) [(3, .int (x3 + 1)), (0, .ref (V.2.2 e0)), (1, .int x1), (2, .int x2)] rfl ?_
  refine g_goto X dX1_whoLivesAt_31 (tgt := 4) (by decide) ?_
  refine g_sub [1, 2, 3, 0] rfl ?_
  exact hk4 e0 x1 x2 (x3 + 1) he0 I J hf
set_option maxRecDepth 4000 in
theorem wHX1_whoLivesAt_4 {M : MT} {V : VT}  (X : Cx M cS V cX1_whoLivesAt 4 RX1 (some .int) 0) {q : RT Int32} (hQ : PI M cS V q) (k4 : Nat → Int32 → Int32 → Int32 → aI → aJ → Option (RT Int32)) (hk4 : ∀ (e0 : Nat) (x1 : Int32) (x2 : Int32) (x3 : Int32) (he0 : okc cS e0 1 0) (I : aI) (J : aJ), k4 e0 x1 x2 x3 I J = some q → Wg M cS V 4 I J 4 [(0, .ref (V.2.2 e0)), (1, .int x1), (2, .int x2), (3, .int x3)] []) (e0 : Nat) (x1 : Int32) (x2 : Int32) (x3 : Int32) (he0 : okc cS e0 1 0) (I : aI) (J : aJ) (hf : HX1_whoLivesAt_4  k4 e0 x1 x2 x3 I J = some q) : Wg M cS V 4 I J 4 [(0, .ref (V.2.2 e0)), (1, .int x1), (2, .int x2), (3, .int x3)] [] := by
  unfold HX1_whoLivesAt_4 at hf
  refine g_iload_n X dX1_whoLivesAt_4 3 rfl ?_
  refine g_aload_n X dX1_whoLivesAt_5 0 rfl ?_
  refine g_get X dX1_whoLivesAt_6 he0 cl1 0 (by decide) m_176 rfl ?_
  refine g_icmp_ge X dX1_whoLivesAt_9 (tgt := 34) (by decide) (fun hc1 => ?_) (fun hc1 => ?_)
  · rw [if_pos hc1] at hf
    refine g_iload_n X dX1_whoLivesAt_34 2 rfl ?_
    cases hf
    exact g_ireturn X dX1_whoLivesAt_35 hQ
  · rw [if_neg hc1] at hf
    refine g_aload_n X dX1_whoLivesAt_12 0 rfl ?_
    refine g_get X dX1_whoLivesAt_13 he0 cl1 1 (by decide) m_179 rfl ?_
    refine g_iload_n X dX1_whoLivesAt_16 3 rfl ?_
    obtain ⟨hg2, hf⟩ := gd_some hf
    refine g_iaload X dX1_whoLivesAt_17 ((ok_fk he0).1) hg2 ?_
    refine g_iload_n X dX1_whoLivesAt_18 1 rfl ?_
    refine g_icmp_ne X dX1_whoLivesAt_19 (tgt := 28) (by decide) (fun hc3 => ?_) (fun hc3 => ?_)
    · rw [if_neg hc3] at hf
      exact wBX1_whoLivesAt_28  X hQ k4 hk4 e0 x1 x2 x3 he0 I J hf
    · rw [if_pos hc3] at hf
      refine g_iload_n X dX1_whoLivesAt_22 2 rfl ?_
      refine g_iconst X dX1_whoLivesAt_23 (v := 1) rfl ?_
      refine g_iload_n X dX1_whoLivesAt_24 3 rfl ?_
      refine g_ishl X dX1_whoLivesAt_25 ?_
      refine g_ior X dX1_whoLivesAt_26 ?_
      refine g_istore_n X dX1_whoLivesAt_27 (by decide) [(2, .int (x2 ||| (1 <<< (x3 &&& 31)))), (0, .ref (V.2.2 e0)), (1, .int x1), (3, .int x3)] rfl ?_
      refine g_sub [1, 2, 0, 3] rfl ?_
      exact wBX1_whoLivesAt_28  X hQ k4 hk4 e0 x1 (x2 ||| (1 <<< (x3 &&& 31))) x3 he0 I J hf
set_option maxRecDepth 4000 in
theorem wLX1_whoLivesAt_4 {M : MT} {V : VT}  (X : Cx M cS V cX1_whoLivesAt 4 RX1 (some .int) 0) {q : RT Int32} (hQ : PI M cS V q)  : ∀ (n : Nat) (e0 : Nat) (x1 : Int32) (x2 : Int32) (x3 : Int32) (he0 : okc cS e0 1 0) (I : aI) (J : aJ), LX1_whoLivesAt_4   n e0 x1 x2 x3 I J = some q → Wg M cS V 4 I J 4 [(0, .ref (V.2.2 e0)), (1, .int x1), (2, .int x2), (3, .int x3)] [] := by
  intro n
  induction n with
  | zero => intro e0 x1 x2 x3 he0 I J hf; cases hf
  | succ n ih => intro e0 x1 x2 x3 he0 I J hf; exact wHX1_whoLivesAt_4  X hQ  (LX1_whoLivesAt_4   n) ih e0 x1 x2 x3 he0 I J hf
set_option maxRecDepth 4000 in
theorem wX1_whoLivesAt {M : MT} {V : VT} (X : Cx M cS V cX1_whoLivesAt 4 RX1 (some .int) 0) {q : RT Int32} (hQ : PI M cS V q) (e0 : Nat) (x1 : Int32) (h0 : okc cS e0 1 0) (I : aI) (J : aJ) (hf : fX1_whoLivesAt e0 x1 I J = some q) : Wg M cS V 4 I J 0 [(0, .ref (V.2.2 e0)), (1, .int x1)] [] := by
  unfold fX1_whoLivesAt at hf
  refine g_iconst X dX1_whoLivesAt_0 (v := 0) rfl ?_
  refine g_istore_n X dX1_whoLivesAt_1 (by decide) [(2, .int 0), (0, .ref (V.2.2 e0)), (1, .int x1)] rfl ?_
  refine g_iconst X dX1_whoLivesAt_2 (v := 0) rfl ?_
  refine g_istore_n X dX1_whoLivesAt_3 (by decide) [(3, .int 0), (2, .int 0), (0, .ref (V.2.2 e0)), (1, .int x1)] rfl ?_
  refine g_sub [2, 3, 1, 0] rfl ?_
  exact wLX1_whoLivesAt_4  X hQ  128 e0 x1 0 0 h0 I J hf
set_option maxRecDepth 4000 in
theorem cX1_whoLivesAt_ok (l : Launch) (V : VT) (e0 : Nat) (x1 : Int32) (h0 : okc cS e0 1 0) (I : aI) (J : aJ) {q : RT Int32} (hf : fX1_whoLivesAt e0 x1 I J = some q) : Met l yX1_whoLivesAt (.code yX1_whoLivesAt cX1_whoLivesAt 4 (some .int) :: GG) (rmD 0) (va_Pc [.ref (V.2.2 e0), .int x1] (cQ cS V I J)) (QI cS V q) 0 0 (vAd cS V) :=
  met_I (by decide +kernel) rfl (Nat.le_of_ble_eq_true rfl) (fun _ _ X hQ => wX1_whoLivesAt X hQ e0 x1 h0 I J hf)
-- X2_copy
set_option maxRecDepth 4000 in
theorem wHX2_copy_10 {M : MT} {V : VT}  (X : Cx M cS V cX2_copy 3 RX2 none 0) {q : RT Unit} (hQ : PV M cS V q) (k10 : Nat → Nat → Int32 → aI → aJ → Option (RT Unit)) (hk10 : ∀ (e0 : Nat) (e1 : Nat) (x2 : Int32) (he0 : okc cS e0 2 0) (he1 : okc cS e1 2 0) (I : aI) (J : aJ), k10 e0 e1 x2 I J = some q → Wg M cS V 3 I J 10 [(0, .ref (V.2.2 e0)), (1, .ref (V.2.2 e1)), (2, .int x2)] []) (e0 : Nat) (e1 : Nat) (x2 : Int32) (he0 : okc cS e0 2 0) (he1 : okc cS e1 2 0) (I : aI) (J : aJ) (hf : HX2_copy_10  k10 e0 e1 x2 I J = some q) : Wg M cS V 3 I J 10 [(0, .ref (V.2.2 e0)), (1, .ref (V.2.2 e1)), (2, .int x2)] [] := by
  unfold HX2_copy_10 at hf
  refine g_iload_n X dX2_copy_10 2 rfl ?_
  refine g_bipush X dX2_copy_11 (v := 6) rfl ?_
  refine g_icmp_ge X dX2_copy_13 (tgt := 46) (by decide) (fun hc1 => ?_) (fun hc1 => ?_)
  · rw [if_pos hc1] at hf
    cases hf
    exact g_vreturn X dX2_copy_46 hQ
  · rw [if_neg hc1] at hf
    refine g_aload_n X dX2_copy_16 0 rfl ?_
    refine g_get X dX2_copy_17 he0 cl2 1 (by decide) m_230 rfl ?_
    refine g_iload_n X dX2_copy_20 2 rfl ?_
    refine g_aload_n X dX2_copy_21 1 rfl ?_
    refine g_get X dX2_copy_22 he1 cl2 1 (by decide) m_230 rfl ?_
    refine g_iload_n X dX2_copy_25 2 rfl ?_
    obtain ⟨hg2, hf⟩ := gd_some hf
    refine g_iaload X dX2_copy_26 ((ok_hs he1).1) hg2 ?_
    refine g_iastore X dX2_copy_27 ((ok_hs he0).1) hg2 ?_
    refine g_aload_n X dX2_copy_28 0 rfl ?_
    refine g_get X dX2_copy_29 he0 cl2 2 (by decide) m_232 rfl ?_
    refine g_iload_n X dX2_copy_32 2 rfl ?_
    refine g_aload_n X dX2_copy_33 1 rfl ?_
    refine g_get X dX2_copy_34 he1 cl2 2 (by decide) m_232 rfl ?_
    refine g_iload_n X dX2_copy_37 2 rfl ?_
    refine g_baload X dX2_copy_38 ((ok_hs he1).2) hg2 ?_
    refine g_bastore X dX2_copy_39 ((ok_hs he0).2) hg2 ?_
    refine g_iinc X dX2_copy_40 2 rfl 1 rfl (by decide) [(2, .int (x2 + 1)), (0, .ref (V.2.2 e0)), (1, .ref (V.2.2 e1))] rfl ?_
    refine g_goto X dX2_copy_43 (tgt := 10) (by decide) ?_
    refine g_sub [1, 2, 0] rfl ?_
    exact hk10 e0 e1 (x2 + 1) he0 he1 (pI (pI I (e0 + 1) (Int32.toNatClampNeg x2) (I (e1 + 1) (Int32.toNatClampNeg x2))) (e0 + 2) (Int32.toNatClampNeg x2) (vp_nar .boolean ((pI I (e0 + 1) (Int32.toNatClampNeg x2) (I (e1 + 1) (Int32.toNatClampNeg x2))) (e1 + 2) (Int32.toNatClampNeg x2)))) J hf
set_option maxRecDepth 4000 in
theorem wLX2_copy_10 {M : MT} {V : VT}  (X : Cx M cS V cX2_copy 3 RX2 none 0) {q : RT Unit} (hQ : PV M cS V q)  : ∀ (n : Nat) (e0 : Nat) (e1 : Nat) (x2 : Int32) (he0 : okc cS e0 2 0) (he1 : okc cS e1 2 0) (I : aI) (J : aJ), LX2_copy_10   n e0 e1 x2 I J = some q → Wg M cS V 3 I J 10 [(0, .ref (V.2.2 e0)), (1, .ref (V.2.2 e1)), (2, .int x2)] [] := by
  intro n
  induction n with
  | zero => intro e0 e1 x2 he0 he1 I J hf; cases hf
  | succ n ih => intro e0 e1 x2 he0 he1 I J hf; exact wHX2_copy_10  X hQ  (LX2_copy_10   n) ih e0 e1 x2 he0 he1 I J hf
set_option maxRecDepth 4000 in
theorem wX2_copy {M : MT} {V : VT} (X : Cx M cS V cX2_copy 3 RX2 none 0) {q : RT Unit} (hQ : PV M cS V q) (e0 : Nat) (e1 : Nat) (h0 : okc cS e0 2 0) (h1 : okc cS e1 2 0) (I : aI) (J : aJ) (hf : fX2_copy e0 e1 I J = some q) : Wg M cS V 3 I J 0 [(0, .ref (V.2.2 e0)), (1, .ref (V.2.2 e1))] [] := by
  unfold fX2_copy at hf
  refine g_aload_n X dX2_copy_0 0 rfl ?_
  refine g_aload_n X dX2_copy_1 1 rfl ?_
  refine g_get X dX2_copy_2 h1 cl2 0 (by decide) m_228 rfl ?_
  refine g_putI X dX2_copy_5 h0 cl2 0 (by decide) m_228 rfl .int rfl rfl rfl (Nat.le_of_ble_eq_true rfl) (fun _ _ => rfl) ?_
  refine g_iconst X dX2_copy_8 (v := 0) rfl ?_
  refine g_istore_n X dX2_copy_9 (by decide) [(2, .int 0), (0, .ref (V.2.2 e0)), (1, .ref (V.2.2 e1))] rfl ?_
  refine g_sub [1, 2, 0] rfl ?_
  exact wLX2_copy_10  X hQ  128 e0 e1 0 h0 h1 (pI I e0 0 (I e1 0)) J hf
set_option maxRecDepth 4000 in
theorem cX2_copy_ok (l : Launch) (V : VT) (e0 : Nat) (e1 : Nat) (h0 : okc cS e0 2 0) (h1 : okc cS e1 2 0) (I : aI) (J : aJ) {q : RT Unit} (hf : fX2_copy e0 e1 I J = some q) : Met l yX2_copy (.code yX2_copy cX2_copy 3 none :: GG) (rmD 0) (va_Pc [.ref (V.2.2 e0), .ref (V.2.2 e1)] (cQ cS V I J)) (QV cS V q) 0 0 (vAd cS V) :=
  met_V (by decide +kernel) rfl (Nat.le_of_ble_eq_true rfl) (fun _ _ X hQ => wX2_copy X hQ e0 e1 h0 h1 I J hf)
-- X7_isWithin
set_option maxRecDepth 4000 in
theorem wBX7_isWithin_15 {M : MT} {V : VT}  (X : Cx M cS V cX7_isWithin 3 RX7 (some .boolean) 0) {q : RT Int32} (hQ : PI M cS V q)  (s0 : Int32)  (I : aI) (J : aJ) (hf : BX7_isWithin_15   s0 I J = some q) : Wg M cS V 3 I J 15 [] [.int s0] := by
  unfold BX7_isWithin_15 at hf
  obtain ⟨hg3, hf⟩ := gd_some hf
  cases hf
  exact g_zreturn X dX7_isWithin_15 (of_decide_eq_true hg3) hQ
set_option maxRecDepth 4000 in
theorem wBX7_isWithin_14 {M : MT} {V : VT}  (X : Cx M cS V cX7_isWithin 3 RX7 (some .boolean) 0) {q : RT Int32} (hQ : PI M cS V q)    (I : aI) (J : aJ) (hf : BX7_isWithin_14    I J = some q) : Wg M cS V 3 I J 14 [] [] := by
  unfold BX7_isWithin_14 at hf
  refine g_iconst X dX7_isWithin_14 (v := 0) rfl ?_
  exact wBX7_isWithin_15  X hQ  0  I J hf
set_option maxRecDepth 4000 in
theorem wX7_isWithin {M : MT} {V : VT} (X : Cx M cS V cX7_isWithin 3 RX7 (some .boolean) 0) {q : RT Int32} (hQ : PI M cS V q) (x0 : Int32) (x1 : Int32) (x2 : Int32)  (I : aI) (J : aJ) (hf : fX7_isWithin x0 x1 x2 I J = some q) : Wg M cS V 3 I J 0 [(0, .int x0), (1, .int x1), (2, .int x2)] [] := by
  unfold fX7_isWithin at hf
  refine g_iload_n X dX7_isWithin_0 0 rfl ?_
  refine g_iload_n X dX7_isWithin_1 1 rfl ?_
  refine g_icmp_lt X dX7_isWithin_2 (tgt := 14) (by decide) (fun hc1 => ?_) (fun hc1 => ?_)
  · rw [if_pos hc1] at hf
    refine g_sub [] rfl ?_
    exact wBX7_isWithin_14  X hQ    I J hf
  · rw [if_neg hc1] at hf
    refine g_iload_n X dX7_isWithin_5 0 rfl ?_
    refine g_iload_n X dX7_isWithin_6 2 rfl ?_
    refine g_icmp_gt X dX7_isWithin_7 (tgt := 14) (by decide) (fun hc2 => ?_) (fun hc2 => ?_)
    · rw [if_pos hc2] at hf
      refine g_sub [] rfl ?_
      exact wBX7_isWithin_14  X hQ    I J hf
    · rw [if_neg hc2] at hf
      refine g_iconst X dX7_isWithin_10 (v := 1) rfl ?_
      refine g_goto X dX7_isWithin_11 (tgt := 15) (by decide) ?_
      refine g_sub [] rfl ?_
      exact wBX7_isWithin_15  X hQ  1  I J hf
set_option maxRecDepth 4000 in
theorem cX7_isWithin_ok (l : Launch) (V : VT) (x0 : Int32) (x1 : Int32) (x2 : Int32)  (I : aI) (J : aJ) {q : RT Int32} (hf : fX7_isWithin x0 x1 x2 I J = some q) : Met l yX7_isWithin (.code yX7_isWithin cX7_isWithin 3 (some .boolean) :: GG) (rmD 0) (va_Pc [.int x0, .int x1, .int x2] (cQ cS V I J)) (QI cS V q) 0 0 (vAd cS V) :=
  met_I (by decide +kernel) rfl (Nat.le_of_ble_eq_true rfl) (fun _ _ X hQ => wX7_isWithin X hQ x0 x1 x2  I J hf)
-- X3_isCornerAt
set_option maxRecDepth 4000 in
theorem wX3_isCornerAt {M : MT} {V : VT} (X : Cx M cS V cX3_isCornerAt 2 RX3 (some .boolean) 1) {q : RT Int32} (hQ : PI M cS V q) (x1 : Int32)  (I : aI) (J : aJ) (hf : fX3_isCornerAt x1 I J = some q) : Wg M cS V 2 I J 0 [(0, .ref (V.2.2 1)), (1, .int x1)] [] := by
  unfold fX3_isCornerAt at hf
  refine g_aload_n X dX3_isCornerAt_0 0 rfl ?_
  refine g_iload_n X dX3_isCornerAt_1 1 rfl ?_
  obtain ⟨r1, I1, J1, hb1, hf⟩ := bnd_some hf
  refine g_callV X dX3_isCornerAt_2 cw_X3_56 (k := 1) (As := [.int x1]) (rcv okC_1 cl3) rfl rfl (Nat.le_of_ble_eq_true rfl) (by decide) (cX3_digitAt_ok  M.2.1 V x1  I J hb1) (kI ?_)
  refine g_iconst X dX3_isCornerAt_5 (v := 0) rfl ?_
  refine g_aload_n X dX3_isCornerAt_6 0 rfl ?_
  refine g_iconst X dX3_isCornerAt_7 (v := 0) rfl ?_
  obtain ⟨r2, I2, J2, hb2, hf⟩ := bnd_some hf
  refine g_callV X dX3_isCornerAt_8 cw_X3_56 (k := 1) (As := [.int 0]) (rcv okC_1 cl3) rfl rfl (Nat.le_of_ble_eq_true rfl) (by decide) (cX3_digitAt_ok  M.2.1 V 0  I1 J1 hb2) (kI ?_)
  refine g_iconst X dX3_isCornerAt_11 (v := 1) rfl ?_
  refine g_isub X dX3_isCornerAt_12 ?_
  obtain ⟨r3, I3, J3, hb3, hf⟩ := bnd_some hf
  refine g_callN X dX3_isCornerAt_13 nw_isWithin (fun U h => h.1.1) (As := [.int r1, .int 0, .int (r2 - 1)]) rfl rfl (Nat.le_of_ble_eq_true rfl) (by decide) (cX7_isWithin_ok  M.2.1 V r1 0 (r2 - 1)  I2 J2 hb3) (kI ?_)
  obtain ⟨hg4, hf⟩ := gd_some hf
  cases hf
  exact g_zreturn X dX3_isCornerAt_16 (of_decide_eq_true hg4) hQ
set_option maxRecDepth 4000 in
theorem cX3_isCornerAt_ok (l : Launch) (V : VT) (x1 : Int32)  (I : aI) (J : aJ) {q : RT Int32} (hf : fX3_isCornerAt x1 I J = some q) : Met l yX3_isCornerAt (.code yX3_isCornerAt cX3_isCornerAt 2 (some .boolean) :: GG) (rmD 1) (va_Pc [.ref (V.2.2 1), .int x1] (cQ cS V I J)) (QI cS V q) 0 0 (vAd cS V) :=
  met_I (by decide +kernel) rfl (Nat.le_of_ble_eq_true rfl) (fun _ _ X hQ => wX3_isCornerAt X hQ x1  I J hf)
-- X3_takesHead
set_option maxRecDepth 4000 in
theorem wBX3_takesHead_62 {M : MT} {V : VT}  (X : Cx M cS V cX3_takesHead 2 RX3 (some .boolean) 2) {q : RT Int32} (hQ : PI M cS V q)  (s0 : Int32)  (I : aI) (J : aJ) (hf : BX3_takesHead_62   s0 I J = some q) : Wg M cS V 2 I J 62 [] [.int s0] := by
  unfold BX3_takesHead_62 at hf
  obtain ⟨hg10, hf⟩ := gd_some hf
  cases hf
  exact g_zreturn X dX3_takesHead_62 (of_decide_eq_true hg10) hQ
set_option maxRecDepth 4000 in
theorem wX3_takesHead {M : MT} {V : VT} (X : Cx M cS V cX3_takesHead 2 RX3 (some .boolean) 2) {q : RT Int32} (hQ : PI M cS V q) (x1 : Int32)  (I : aI) (J : aJ) (hf : fX3_takesHead x1 I J = some q) : Wg M cS V 2 I J 0 [(0, .ref (V.2.2 1)), (1, .int x1)] [] := by
  unfold fX3_takesHead at hf
  refine g_iload_n X dX3_takesHead_0 1 rfl ?_
  by_cases hs1 : x1 = 0
  · rw [if_pos hs1] at hf
    refine g_look X dX3_takesHead_1 (by decide) (off := 27) (by rw [hs1]; decide) (tgt := 28) (by decide) ?_
    refine g_aload_n X dX3_takesHead_28 0 rfl ?_
    refine g_iconst X dX3_takesHead_29 (v := 0) rfl ?_
    obtain ⟨r2, I2, J2, hb2, hf⟩ := bnd_some hf
    refine g_callV X dX3_takesHead_30 cw_X3_56 (k := 1) (As := [.int 0]) (rcv okC_1 cl3) rfl rfl (Nat.le_of_ble_eq_true rfl) (by decide) (cX3_digitAt_ok  M.2.1 V 0  I J hb2) (kI ?_)
    refine g_iconst X dX3_takesHead_33 (v := 2) rfl ?_
    refine g_bipush X dX3_takesHead_34 (v := 6) rfl ?_
    obtain ⟨r3, I3, J3, hb3, hf⟩ := bnd_some hf
    refine g_callN X dX3_takesHead_36 nw_isWithin (fun U h => h.1.1) (As := [.int r2, .int 2, .int 6]) rfl rfl (Nat.le_of_ble_eq_true rfl) (by decide) (cX7_isWithin_ok  M.2.1 V r2 2 6  I2 J2 hb3) (kI ?_)
    obtain ⟨hg4, hf⟩ := gd_some hf
    cases hf
    exact g_zreturn X dX3_takesHead_39 (of_decide_eq_true hg4) hQ
  rw [if_neg hs1] at hf
  by_cases hs5 : x1 = 1
  · rw [if_pos hs5] at hf
    refine g_look X dX3_takesHead_1 (by decide) (off := 39) (by rw [hs5]; decide) (tgt := 40) (by decide) ?_
    refine g_aload_n X dX3_takesHead_40 0 rfl ?_
    refine g_iconst X dX3_takesHead_41 (v := 1) rfl ?_
    obtain ⟨r6, I6, J6, hb6, hf⟩ := bnd_some hf
    refine g_callV X dX3_takesHead_42 cw_X3_63 (k := 1) (As := [.int 1]) (rcv okC_1 cl3) rfl rfl (Nat.le_of_ble_eq_true rfl) (by decide) (cX3_isCornerAt_ok  M.2.1 V 1  I J hb6) (kI ?_)
    obtain ⟨hg7, hf⟩ := gd_some hf
    cases hf
    exact g_zreturn X dX3_takesHead_45 (of_decide_eq_true hg7) hQ
  rw [if_neg hs5] at hf
  refine g_look X dX3_takesHead_1 (by decide) (off := 45) (by show Op.lookupswitch.offset [(0, 27), (1, 39)] 45 _ = _; rw [lv_osw (a := 0) hs1 rfl, lv_osw (a := 1) hs5 rfl]; rfl) (tgt := 46) (by decide) ?_
  refine g_aload_n X dX3_takesHead_46 0 rfl ?_
  refine g_get X dX3_takesHead_47 okC_1 cl3 0 (by decide) m_102 rfl ?_
  refine g_iload_n X dX3_takesHead_50 1 rfl ?_
  obtain ⟨hg8, hf⟩ := gd_some hf
  refine g_iaload X dX3_takesHead_51 okC_2 hg8 ?_
  refine g_bipush X dX3_takesHead_52 (v := 59) rfl ?_
  refine g_icmp_ne X dX3_takesHead_54 (tgt := 61) (by decide) (fun hc9 => ?_) (fun hc9 => ?_)
  · rw [if_neg hc9] at hf
    refine g_iconst X dX3_takesHead_61 (v := 0) rfl ?_
    refine g_sub [] rfl ?_
    exact wBX3_takesHead_62  X hQ  0  I J hf
  · rw [if_pos hc9] at hf
    refine g_iconst X dX3_takesHead_57 (v := 1) rfl ?_
    refine g_goto X dX3_takesHead_58 (tgt := 62) (by decide) ?_
    refine g_sub [] rfl ?_
    exact wBX3_takesHead_62  X hQ  1  I J hf
set_option maxRecDepth 4000 in
theorem cX3_takesHead_ok (l : Launch) (V : VT) (x1 : Int32)  (I : aI) (J : aJ) {q : RT Int32} (hf : fX3_takesHead x1 I J = some q) : Met l yX3_takesHead (.code yX3_takesHead cX3_takesHead 2 (some .boolean) :: GG) (rmD 2) (va_Pc [.ref (V.2.2 1), .int x1] (cQ cS V I J)) (QI cS V q) 0 0 (vAd cS V) :=
  met_I (by decide +kernel) rfl (Nat.le_of_ble_eq_true rfl) (fun _ _ X hQ => wX3_takesHead X hQ x1  I J hf)
-- X3_takesRoads
set_option maxRecDepth 4000 in
theorem wBX3_takesRoads_107 {M : MT} {V : VT}  (X : Cx M cS V cX3_takesRoads 3 RX3 (some .boolean) 2) {q : RT Int32} (hQ : PI M cS V q)  (s0 : Int32)  (I : aI) (J : aJ) (hf : BX3_takesRoads_107   s0 I J = some q) : Wg M cS V 3 I J 107 [] [.int s0] := by
  unfold BX3_takesRoads_107 at hf
  obtain ⟨hg14, hf⟩ := gd_some hf
  cases hf
  exact g_zreturn X dX3_takesRoads_107 (of_decide_eq_true hg14) hQ
set_option maxRecDepth 4000 in
theorem wBX3_takesRoads_106 {M : MT} {V : VT}  (X : Cx M cS V cX3_takesRoads 3 RX3 (some .boolean) 2) {q : RT Int32} (hQ : PI M cS V q)    (I : aI) (J : aJ) (hf : BX3_takesRoads_106    I J = some q) : Wg M cS V 3 I J 106 [] [] := by
  unfold BX3_takesRoads_106 at hf
  refine g_iconst X dX3_takesRoads_106 (v := 0) rfl ?_
  exact wBX3_takesRoads_107  X hQ  0  I J hf
set_option maxRecDepth 4000 in
theorem wBX3_takesRoads_51 {M : MT} {V : VT}  (X : Cx M cS V cX3_takesRoads 3 RX3 (some .boolean) 2) {q : RT Int32} (hQ : PI M cS V q)  (s0 : Int32)  (I : aI) (J : aJ) (hf : BX3_takesRoads_51   s0 I J = some q) : Wg M cS V 3 I J 51 [] [.int s0] := by
  unfold BX3_takesRoads_51 at hf
  obtain ⟨hg15, hf⟩ := gd_some hf
  cases hf
  exact g_zreturn X dX3_takesRoads_51 (of_decide_eq_true hg15) hQ
set_option maxRecDepth 4000 in
theorem wBX3_takesRoads_50 {M : MT} {V : VT}  (X : Cx M cS V cX3_takesRoads 3 RX3 (some .boolean) 2) {q : RT Int32} (hQ : PI M cS V q)    (I : aI) (J : aJ) (hf : BX3_takesRoads_50    I J = some q) : Wg M cS V 3 I J 50 [] [] := by
  unfold BX3_takesRoads_50 at hf
  refine g_iconst X dX3_takesRoads_50 (v := 0) rfl ?_
  exact wBX3_takesRoads_51  X hQ  0  I J hf
set_option maxRecDepth 4000 in
theorem wX3_takesRoads {M : MT} {V : VT} (X : Cx M cS V cX3_takesRoads 3 RX3 (some .boolean) 2) {q : RT Int32} (hQ : PI M cS V q) (x1 : Int32)  (I : aI) (J : aJ) (hf : fX3_takesRoads x1 I J = some q) : Wg M cS V 3 I J 0 [(0, .ref (V.2.2 1)), (1, .int x1)] [] := by
  unfold fX3_takesRoads at hf
  refine g_iload_n X dX3_takesRoads_0 1 rfl ?_
  refine g_iconst X dX3_takesRoads_1 (v := 3) rfl ?_
  refine g_isub X dX3_takesRoads_2 ?_
  refine g_iconst X dX3_takesRoads_3 (v := 3) rfl ?_
  refine g_irem X dX3_takesRoads_4 (by decide) ?_
  refine g_istore_n X dX3_takesRoads_5 (by decide) [(2, .int ((x1 - 3) - (x1 - 3) / 3 * 3)), (0, .ref (V.2.2 1)), (1, .int x1)] rfl ?_
  refine g_iload_n X dX3_takesRoads_6 0 rfl ?_
  refine g_if_ne X dX3_takesRoads_7 (tgt := 16) (by decide) (fun hc1 => ?_) (fun hc1 => ?_)
  · rw [if_neg hc1] at hf
    refine g_iload_n X dX3_takesRoads_16 0 rfl ?_
    refine g_iconst X dX3_takesRoads_17 (v := 1) rfl ?_
    refine g_icmp_ne X dX3_takesRoads_18 (tgt := 52) (by decide) (fun hc2 => ?_) (fun hc2 => ?_)
    · rw [if_neg hc2] at hf
      refine g_aload_n X dX3_takesRoads_52 1 rfl ?_
      refine g_dup X dX3_takesRoads_53 rfl ?_
      refine g_get X dX3_takesRoads_54 okC_1 cl3 2 (by decide) m_106 rfl ?_
      refine g_iconst X dX3_takesRoads_57 (v := 1) rfl ?_
      refine g_iadd X dX3_takesRoads_58 ?_
      refine g_putI X dX3_takesRoads_59 okC_1 cl3 2 (by decide) m_106 rfl .int rfl rfl rfl (Nat.le_of_ble_eq_true rfl) (fun _ _ => rfl) ?_
      refine g_aload_n X dX3_takesRoads_62 1 rfl ?_
      refine g_get X dX3_takesRoads_63 okC_1 cl3 0 (by decide) m_102 rfl ?_
      refine g_iload_n X dX3_takesRoads_66 2 rfl ?_
      obtain ⟨hg3, hf⟩ := gd_some hf
      refine g_iaload X dX3_takesRoads_67 okC_2 hg3 ?_
      refine g_bipush X dX3_takesRoads_68 (v := 59) rfl ?_
      refine g_icmp_ne X dX3_takesRoads_70 (tgt := 82) (by decide) (fun hc4 => ?_) (fun hc4 => ?_)
      · rw [if_neg hc4] at hf
        refine g_aload_n X dX3_takesRoads_82 1 rfl ?_
        refine g_get X dX3_takesRoads_83 okC_1 cl3 0 (by decide) m_102 rfl ?_
        refine g_iload_n X dX3_takesRoads_86 2 rfl ?_
        refine g_iaload X dX3_takesRoads_87 okC_2 hg3 ?_
        refine g_bipush X dX3_takesRoads_88 (v := 44) rfl ?_
        refine g_icmp_ne X dX3_takesRoads_90 (tgt := 106) (by decide) (fun hc5 => ?_) (fun hc5 => ?_)
        · rw [if_neg hc5] at hf
          refine g_sub [] rfl ?_
          exact wBX3_takesRoads_106  X hQ    (pI I 1 2 ((I 1 2) + 1)) J hf
        · rw [if_pos hc5] at hf
          refine g_aload_n X dX3_takesRoads_93 1 rfl ?_
          refine g_get X dX3_takesRoads_94 okC_1 cl3 2 (by decide) m_106 rfl ?_
          refine g_bipush X dX3_takesRoads_97 (v := 8) rfl ?_
          refine g_icmp_ge X dX3_takesRoads_99 (tgt := 106) (by decide) (fun hc6 => ?_) (fun hc6 => ?_)
          · rw [if_pos hc6] at hf
            refine g_sub [] rfl ?_
            exact wBX3_takesRoads_106  X hQ    (pI I 1 2 ((I 1 2) + 1)) J hf
          · rw [if_neg hc6] at hf
            refine g_iconst X dX3_takesRoads_102 (v := 1) rfl ?_
            refine g_goto X dX3_takesRoads_103 (tgt := 107) (by decide) ?_
            refine g_sub [] rfl ?_
            exact wBX3_takesRoads_107  X hQ  1  (pI I 1 2 ((I 1 2) + 1)) J hf
      · rw [if_pos hc4] at hf
        refine g_aload_n X dX3_takesRoads_73 1 rfl ?_
        refine g_iload_n X dX3_takesRoads_74 2 rfl ?_
        refine g_iconst X dX3_takesRoads_75 (v := 1) rfl ?_
        refine g_iadd X dX3_takesRoads_76 ?_
        refine g_putI X dX3_takesRoads_77 okC_1 cl3 4 (by decide) m_110 rfl .int rfl rfl rfl (Nat.le_of_ble_eq_true rfl) (fun _ _ => rfl) ?_
        refine g_iconst X dX3_takesRoads_80 (v := 1) rfl ?_
        cases hf
        exact g_zreturn X dX3_takesRoads_81 (Or.inr rfl) hQ
    · rw [if_pos hc2] at hf
      refine g_aload_n X dX3_takesRoads_21 1 rfl ?_
      refine g_iload_n X dX3_takesRoads_22 2 rfl ?_
      obtain ⟨r7, I7, J7, hb7, hf⟩ := bnd_some hf
      refine g_callV X dX3_takesRoads_23 cw_X3_63 (k := 1) (As := [.int x1]) (rcv okC_1 cl3) rfl rfl (Nat.le_of_ble_eq_true rfl) (by decide) (cX3_isCornerAt_ok  M.2.1 V x1  I J hb7) (kI ?_)
      refine g_if_eq X dX3_takesRoads_26 (tgt := 50) (by decide) (fun hc8 => ?_) (fun hc8 => ?_)
      · rw [if_pos hc8] at hf
        refine g_sub [] rfl ?_
        exact wBX3_takesRoads_50  X hQ    I7 J7 hf
      · rw [if_neg hc8] at hf
        refine g_aload_n X dX3_takesRoads_29 1 rfl ?_
        refine g_get X dX3_takesRoads_30 okC_1 cl3 0 (by decide) m_102 rfl ?_
        refine g_iload_n X dX3_takesRoads_33 2 rfl ?_
        obtain ⟨hg9, hf⟩ := gd_some hf
        refine g_iaload X dX3_takesRoads_34 okC_2 hg9 ?_
        refine g_aload_n X dX3_takesRoads_35 1 rfl ?_
        refine g_get X dX3_takesRoads_36 okC_1 cl3 0 (by decide) m_102 rfl ?_
        refine g_iload_n X dX3_takesRoads_39 2 rfl ?_
        refine g_iconst X dX3_takesRoads_40 (v := 1) rfl ?_
        refine g_isub X dX3_takesRoads_41 ?_
        obtain ⟨hg10, hf⟩ := gd_some hf
        refine g_iaload X dX3_takesRoads_42 okC_2 hg10 ?_
        refine g_icmp_eq X dX3_takesRoads_43 (tgt := 50) (by decide) (fun hc11 => ?_) (fun hc11 => ?_)
        · rw [if_pos hc11] at hf
          refine g_sub [] rfl ?_
          exact wBX3_takesRoads_50  X hQ    I7 J7 hf
        · rw [if_neg hc11] at hf
          refine g_iconst X dX3_takesRoads_46 (v := 1) rfl ?_
          refine g_goto X dX3_takesRoads_47 (tgt := 51) (by decide) ?_
          refine g_sub [] rfl ?_
          exact wBX3_takesRoads_51  X hQ  1  I7 J7 hf
  · rw [if_pos hc1] at hf
    refine g_aload_n X dX3_takesRoads_10 1 rfl ?_
    refine g_iload_n X dX3_takesRoads_11 2 rfl ?_
    obtain ⟨r12, I12, J12, hb12, hf⟩ := bnd_some hf
    refine g_callV X dX3_takesRoads_12 cw_X3_63 (k := 1) (As := [.int x1]) (rcv okC_1 cl3) rfl rfl (Nat.le_of_ble_eq_true rfl) (by decide) (cX3_isCornerAt_ok  M.2.1 V x1  I J hb12) (kI ?_)
    obtain ⟨hg13, hf⟩ := gd_some hf
    cases hf
    exact g_zreturn X dX3_takesRoads_15 (of_decide_eq_true hg13) hQ
set_option maxRecDepth 4000 in
theorem cX3_takesRoads_ok (l : Launch) (V : VT) (x1 : Int32)  (I : aI) (J : aJ) {q : RT Int32} (hf : fX3_takesRoads x1 I J = some q) : Met l yX3_takesRoads (.code yX3_takesRoads cX3_takesRoads 3 (some .boolean) :: GG) (rmD 2) (va_Pc [.ref (V.2.2 1), .int x1] (cQ cS V I J)) (QI cS V q) 0 0 (vAd cS V) :=
  met_I (by decide +kernel) rfl (Nat.le_of_ble_eq_true rfl) (fun _ _ X hQ => wX3_takesRoads X hQ x1  I J hf)
-- X3_isDigitAt
set_option maxRecDepth 4000 in
theorem wX3_isDigitAt {M : MT} {V : VT} (X : Cx M cS V cX3_isDigitAt 2 RX3 (some .boolean) 1) {q : RT Int32} (hQ : PI M cS V q) (x1 : Int32)  (I : aI) (J : aJ) (hf : fX3_isDigitAt x1 I J = some q) : Wg M cS V 2 I J 0 [(0, .ref (V.2.2 1)), (1, .int x1)] [] := by
  unfold fX3_isDigitAt at hf
  refine g_aload_n X dX3_isDigitAt_0 0 rfl ?_
  refine g_iload_n X dX3_isDigitAt_1 1 rfl ?_
  obtain ⟨r1, I1, J1, hb1, hf⟩ := bnd_some hf
  refine g_callV X dX3_isDigitAt_2 cw_X3_56 (k := 1) (As := [.int x1]) (rcv okC_1 cl3) rfl rfl (Nat.le_of_ble_eq_true rfl) (by decide) (cX3_digitAt_ok  M.2.1 V x1  I J hb1) (kI ?_)
  refine g_iconst X dX3_isDigitAt_5 (v := 0) rfl ?_
  refine g_bipush X dX3_isDigitAt_6 (v := 9) rfl ?_
  obtain ⟨r2, I2, J2, hb2, hf⟩ := bnd_some hf
  refine g_callN X dX3_isDigitAt_8 nw_isWithin (fun U h => h.1.1) (As := [.int r1, .int 0, .int 9]) rfl rfl (Nat.le_of_ble_eq_true rfl) (by decide) (cX7_isWithin_ok  M.2.1 V r1 0 9  I1 J1 hb2) (kI ?_)
  obtain ⟨hg3, hf⟩ := gd_some hf
  cases hf
  exact g_zreturn X dX3_isDigitAt_11 (of_decide_eq_true hg3) hQ
set_option maxRecDepth 4000 in
theorem cX3_isDigitAt_ok (l : Launch) (V : VT) (x1 : Int32)  (I : aI) (J : aJ) {q : RT Int32} (hf : fX3_isDigitAt x1 I J = some q) : Met l yX3_isDigitAt (.code yX3_isDigitAt cX3_isDigitAt 2 (some .boolean) :: GG) (rmD 1) (va_Pc [.ref (V.2.2 1), .int x1] (cQ cS V I J)) (QI cS V q) 0 0 (vAd cS V) :=
  met_I (by decide +kernel) rfl (Nat.le_of_ble_eq_true rfl) (fun _ _ X hQ => wX3_isDigitAt X hQ x1  I J hf)
-- X3_takesPeople
set_option maxRecDepth 4000 in
theorem wBX3_takesPeople_54 {M : MT} {V : VT}  (X : Cx M cS V cX3_takesPeople 2 RX3 (some .boolean) 5) {q : RT Int32} (hQ : PI M cS V q)  (s0 : Int32)  (I : aI) (J : aJ) (hf : BX3_takesPeople_54   s0 I J = some q) : Wg M cS V 2 I J 54 [] [.int s0] := by
  unfold BX3_takesPeople_54 at hf
  obtain ⟨hg16, hf⟩ := gd_some hf
  cases hf
  exact g_zreturn X dX3_takesPeople_54 (of_decide_eq_true hg16) hQ
set_option maxRecDepth 4000 in
theorem wBX3_takesPeople_108 {M : MT} {V : VT}  (X : Cx M cS V cX3_takesPeople 2 RX3 (some .boolean) 5) {q : RT Int32} (hQ : PI M cS V q)  (s0 : Int32)  (I : aI) (J : aJ) (hf : BX3_takesPeople_108   s0 I J = some q) : Wg M cS V 2 I J 108 [] [.int s0] := by
  unfold BX3_takesPeople_108 at hf
  obtain ⟨hg17, hf⟩ := gd_some hf
  cases hf
  exact g_zreturn X dX3_takesPeople_108 (of_decide_eq_true hg17) hQ
set_option maxRecDepth 4000 in
theorem wBX3_takesPeople_107 {M : MT} {V : VT}  (X : Cx M cS V cX3_takesPeople 2 RX3 (some .boolean) 5) {q : RT Int32} (hQ : PI M cS V q)    (I : aI) (J : aJ) (hf : BX3_takesPeople_107    I J = some q) : Wg M cS V 2 I J 107 [] [] := by
  unfold BX3_takesPeople_107 at hf
  refine g_iconst X dX3_takesPeople_107 (v := 0) rfl ?_
  exact wBX3_takesPeople_108  X hQ  0  I J hf
set_option maxRecDepth 4000 in
theorem wX3_takesPeople {M : MT} {V : VT} (X : Cx M cS V cX3_takesPeople 2 RX3 (some .boolean) 5) {q : RT Int32} (hQ : PI M cS V q) (x1 : Int32)  (I : aI) (J : aJ) (hf : fX3_takesPeople x1 I J = some q) : Wg M cS V 2 I J 0 [(0, .ref (V.2.2 1)), (1, .int x1)] [] := by
  unfold fX3_takesPeople at hf
  refine g_iload_n X dX3_takesPeople_0 1 rfl ?_
  refine g_aload_n X dX3_takesPeople_1 0 rfl ?_
  refine g_get X dX3_takesPeople_2 okC_1 cl3 4 (by decide) m_110 rfl ?_
  refine g_isub X dX3_takesPeople_5 ?_
  refine g_iconst X dX3_takesPeople_6 (v := 5) rfl ?_
  refine g_irem X dX3_takesPeople_7 (by decide) ?_
  by_cases hs1 : ((x1 - (I 1 4)) - (x1 - (I 1 4)) / 5 * 5) = 0
  · rw [if_pos hs1] at hf
    refine g_tin X dX3_takesPeople_8 hs1 (by decide) (by decide) rfl (tgt := 40) (by decide) ?_
    refine g_aload_n X dX3_takesPeople_40 0 rfl ?_
    refine g_iload_n X dX3_takesPeople_41 1 rfl ?_
    obtain ⟨r2, I2, J2, hb2, hf⟩ := bnd_some hf
    refine g_callV X dX3_takesPeople_42 cw_X3_66 (k := 1) (As := [.int x1]) (rcv okC_1 cl3) rfl rfl (Nat.le_of_ble_eq_true rfl) (by decide) (cX3_kindAt_ok  M.2.1 V x1  I J hb2) (kI ?_)
    refine g_iconst X dX3_takesPeople_45 (v := (-1)) rfl ?_
    refine g_icmp_eq X dX3_takesPeople_46 (tgt := 53) (by decide) (fun hc3 => ?_) (fun hc3 => ?_)
    · rw [if_pos hc3] at hf
      refine g_iconst X dX3_takesPeople_53 (v := 0) rfl ?_
      refine g_sub [] rfl ?_
      exact wBX3_takesPeople_54  X hQ  0  I2 J2 hf
    · rw [if_neg hc3] at hf
      refine g_iconst X dX3_takesPeople_49 (v := 1) rfl ?_
      refine g_goto X dX3_takesPeople_50 (tgt := 54) (by decide) ?_
      refine g_sub [] rfl ?_
      exact wBX3_takesPeople_54  X hQ  1  I2 J2 hf
  rw [if_neg hs1] at hf
  by_cases hs4 : ((x1 - (I 1 4)) - (x1 - (I 1 4)) / 5 * 5) = 1
  · rw [if_pos hs4] at hf
    refine g_tin X dX3_takesPeople_8 hs4 (by decide) (by decide) rfl (tgt := 55) (by decide) ?_
    refine g_aload_n X dX3_takesPeople_55 0 rfl ?_
    refine g_iload_n X dX3_takesPeople_56 1 rfl ?_
    obtain ⟨r5, I5, J5, hb5, hf⟩ := bnd_some hf
    refine g_callV X dX3_takesPeople_57 cw_X3_63 (k := 1) (As := [.int x1]) (rcv okC_1 cl3) rfl rfl (Nat.le_of_ble_eq_true rfl) (by decide) (cX3_isCornerAt_ok  M.2.1 V x1  I J hb5) (kI ?_)
    obtain ⟨hg6, hf⟩ := gd_some hf
    cases hf
    exact g_zreturn X dX3_takesPeople_60 (of_decide_eq_true hg6) hQ
  rw [if_neg hs4] at hf
  by_cases hs7 : ((x1 - (I 1 4)) - (x1 - (I 1 4)) / 5 * 5) = 2
  · rw [if_pos hs7] at hf
    refine g_tin X dX3_takesPeople_8 hs7 (by decide) (by decide) rfl (tgt := 61) (by decide) ?_
    refine g_aload_n X dX3_takesPeople_61 0 rfl ?_
    refine g_iload_n X dX3_takesPeople_62 1 rfl ?_
    obtain ⟨r8, I8, J8, hb8, hf⟩ := bnd_some hf
    refine g_callV X dX3_takesPeople_63 cw_X3_69 (k := 1) (As := [.int x1]) (rcv okC_1 cl3) rfl rfl (Nat.le_of_ble_eq_true rfl) (by decide) (cX3_isDigitAt_ok  M.2.1 V x1  I J hb8) (kI ?_)
    obtain ⟨hg9, hf⟩ := gd_some hf
    cases hf
    exact g_zreturn X dX3_takesPeople_66 (of_decide_eq_true hg9) hQ
  rw [if_neg hs7] at hf
  by_cases hs10 : ((x1 - (I 1 4)) - (x1 - (I 1 4)) / 5 * 5) = 3
  · rw [if_pos hs10] at hf
    refine g_tin X dX3_takesPeople_8 hs10 (by decide) (by decide) rfl (tgt := 67) (by decide) ?_
    refine g_aload_n X dX3_takesPeople_67 0 rfl ?_
    refine g_dup X dX3_takesPeople_68 rfl ?_
    refine g_get X dX3_takesPeople_69 okC_1 cl3 3 (by decide) m_109 rfl ?_
    refine g_iconst X dX3_takesPeople_72 (v := 1) rfl ?_
    refine g_iadd X dX3_takesPeople_73 ?_
    refine g_putI X dX3_takesPeople_74 okC_1 cl3 3 (by decide) m_109 rfl .int rfl rfl rfl (Nat.le_of_ble_eq_true rfl) (fun _ _ => rfl) ?_
    refine g_aload_n X dX3_takesPeople_77 0 rfl ?_
    refine g_iload_n X dX3_takesPeople_78 1 rfl ?_
    obtain ⟨r11, I11, J11, hb11, hf⟩ := bnd_some hf
    refine g_callV X dX3_takesPeople_79 cw_X3_69 (k := 1) (As := [.int x1]) (rcv okC_1 cl3) rfl rfl (Nat.le_of_ble_eq_true rfl) (by decide) (cX3_isDigitAt_ok  M.2.1 V x1  (pI I 1 3 ((I 1 3) + 1)) J hb11) (kI ?_)
    obtain ⟨hg12, hf⟩ := gd_some hf
    cases hf
    exact g_zreturn X dX3_takesPeople_82 (of_decide_eq_true hg12) hQ
  rw [if_neg hs10] at hf
  refine g_tout X dX3_takesPeople_8 (by have a0 := lv_neT (a := 0) hs1 rfl; have a1 := lv_neT (a := 1) hs4 rfl; have a2 := lv_neT (a := 2) hs7 rfl; have a3 := lv_neT (a := 3) hs10 rfl; omega) (tgt := 83) (by decide) ?_
  refine g_aload_n X dX3_takesPeople_83 0 rfl ?_
  refine g_get X dX3_takesPeople_84 okC_1 cl3 0 (by decide) m_102 rfl ?_
  refine g_iload_n X dX3_takesPeople_87 1 rfl ?_
  obtain ⟨hg13, hf⟩ := gd_some hf
  refine g_iaload X dX3_takesPeople_88 okC_2 hg13 ?_
  refine g_bipush X dX3_takesPeople_89 (v := 44) rfl ?_
  refine g_icmp_ne X dX3_takesPeople_91 (tgt := 107) (by decide) (fun hc14 => ?_) (fun hc14 => ?_)
  · rw [if_neg hc14] at hf
    refine g_sub [] rfl ?_
    exact wBX3_takesPeople_107  X hQ    I J hf
  · rw [if_pos hc14] at hf
    refine g_aload_n X dX3_takesPeople_94 0 rfl ?_
    refine g_get X dX3_takesPeople_95 okC_1 cl3 3 (by decide) m_109 rfl ?_
    refine g_bipush X dX3_takesPeople_98 (v := 6) rfl ?_
    refine g_icmp_ge X dX3_takesPeople_100 (tgt := 107) (by decide) (fun hc15 => ?_) (fun hc15 => ?_)
    · rw [if_pos hc15] at hf
      refine g_sub [] rfl ?_
      exact wBX3_takesPeople_107  X hQ    I J hf
    · rw [if_neg hc15] at hf
      refine g_iconst X dX3_takesPeople_103 (v := 1) rfl ?_
      refine g_goto X dX3_takesPeople_104 (tgt := 108) (by decide) ?_
      refine g_sub [] rfl ?_
      exact wBX3_takesPeople_108  X hQ  1  I J hf
set_option maxRecDepth 4000 in
theorem cX3_takesPeople_ok (l : Launch) (V : VT) (x1 : Int32)  (I : aI) (J : aJ) {q : RT Int32} (hf : fX3_takesPeople x1 I J = some q) : Met l yX3_takesPeople (.code yX3_takesPeople cX3_takesPeople 2 (some .boolean) :: GG) (rmD 5) (va_Pc [.ref (V.2.2 1), .int x1] (cQ cS V I J)) (QI cS V q) 0 0 (vAd cS V) :=
  met_I (by decide +kernel) rfl (Nat.le_of_ble_eq_true rfl) (fun _ _ X hQ => wX3_takesPeople X hQ x1  I J hf)
-- X3_takes
set_option maxRecDepth 4000 in
theorem wBX3_takes_32 {M : MT} {V : VT}  (X : Cx M cS V cX3_takes 2 RX3 (some .boolean) 6) {q : RT Int32} (hQ : PI M cS V q)  (s0 : Int32)  (I : aI) (J : aJ) (hf : BX3_takes_32   s0 I J = some q) : Wg M cS V 2 I J 32 [] [.int s0] := by
  unfold BX3_takes_32 at hf
  obtain ⟨hg7, hf⟩ := gd_some hf
  cases hf
  exact g_zreturn X dX3_takes_32 (of_decide_eq_true hg7) hQ
set_option maxRecDepth 4000 in
theorem wX3_takes {M : MT} {V : VT} (X : Cx M cS V cX3_takes 2 RX3 (some .boolean) 6) {q : RT Int32} (hQ : PI M cS V q) (x1 : Int32)  (I : aI) (J : aJ) (hf : fX3_takes x1 I J = some q) : Wg M cS V 2 I J 0 [(0, .ref (V.2.2 1)), (1, .int x1)] [] := by
  unfold fX3_takes at hf
  refine g_iload_n X dX3_takes_0 1 rfl ?_
  refine g_iconst X dX3_takes_1 (v := 3) rfl ?_
  refine g_icmp_ge X dX3_takes_2 (tgt := 11) (by decide) (fun hc1 => ?_) (fun hc1 => ?_)
  · rw [if_pos hc1] at hf
    refine g_aload_n X dX3_takes_11 0 rfl ?_
    refine g_get X dX3_takes_12 okC_1 cl3 4 (by decide) m_110 rfl ?_
    refine g_iconst X dX3_takes_15 (v := (-1)) rfl ?_
    refine g_icmp_ne X dX3_takes_16 (tgt := 27) (by decide) (fun hc2 => ?_) (fun hc2 => ?_)
    · rw [if_neg hc2] at hf
      refine g_aload_n X dX3_takes_27 0 rfl ?_
      refine g_iload_n X dX3_takes_28 1 rfl ?_
      obtain ⟨r3, I3, J3, hb3, hf⟩ := bnd_some hf
      refine g_callV X dX3_takes_29 cw_X3_53 (k := 1) (As := [.int x1]) (rcv okC_1 cl3) rfl rfl (Nat.le_of_ble_eq_true rfl) (by decide) (cX3_takesPeople_ok  M.2.1 V x1  I J hb3) (kI ?_)
      refine g_sub [] rfl ?_
      exact wBX3_takes_32  X hQ  r3  I3 J3 hf
    · rw [if_pos hc2] at hf
      refine g_aload_n X dX3_takes_19 0 rfl ?_
      refine g_iload_n X dX3_takes_20 1 rfl ?_
      obtain ⟨r4, I4, J4, hb4, hf⟩ := bnd_some hf
      refine g_callV X dX3_takes_21 cw_X3_50 (k := 1) (As := [.int x1]) (rcv okC_1 cl3) rfl rfl (Nat.le_of_ble_eq_true rfl) (by decide) (cX3_takesRoads_ok  M.2.1 V x1  I J hb4) (kI ?_)
      refine g_goto X dX3_takes_24 (tgt := 32) (by decide) ?_
      refine g_sub [] rfl ?_
      exact wBX3_takes_32  X hQ  r4  I4 J4 hf
  · rw [if_neg hc1] at hf
    refine g_aload_n X dX3_takes_5 0 rfl ?_
    refine g_iload_n X dX3_takes_6 1 rfl ?_
    obtain ⟨r5, I5, J5, hb5, hf⟩ := bnd_some hf
    refine g_callV X dX3_takes_7 cw_X3_47 (k := 1) (As := [.int x1]) (rcv okC_1 cl3) rfl rfl (Nat.le_of_ble_eq_true rfl) (by decide) (cX3_takesHead_ok  M.2.1 V x1  I J hb5) (kI ?_)
    obtain ⟨hg6, hf⟩ := gd_some hf
    cases hf
    exact g_zreturn X dX3_takes_10 (of_decide_eq_true hg6) hQ
set_option maxRecDepth 4000 in
theorem cX3_takes_ok (l : Launch) (V : VT) (x1 : Int32)  (I : aI) (J : aJ) {q : RT Int32} (hf : fX3_takes x1 I J = some q) : Met l yX3_takes (.code yX3_takes cX3_takes 2 (some .boolean) :: GG) (rmD 6) (va_Pc [.ref (V.2.2 1), .int x1] (cQ cS V I J)) (QI cS V q) 0 0 (vAd cS V) :=
  met_I (by decide +kernel) rfl (Nat.le_of_ble_eq_true rfl) (fun _ _ X hQ => wX3_takes X hQ x1  I J hf)
-- X3_firstFault
set_option maxRecDepth 4000 in
theorem wHX3_firstFault_17 {M : MT} {V : VT}  (X : Cx M cS V cX3_firstFault 2 RX3 (some .int) 7) {q : RT Int32} (hQ : PI M cS V q) (k17 : Int32 → aI → aJ → Option (RT Int32)) (hk17 : ∀ (x1 : Int32)  (I : aI) (J : aJ), k17 x1 I J = some q → Wg M cS V 2 I J 17 [(0, .ref (V.2.2 1)), (1, .int x1)] []) (x1 : Int32)  (I : aI) (J : aJ) (hf : HX3_firstFault_17  k17 x1 I J = some q) : Wg M cS V 2 I J 17 [(0, .ref (V.2.2 1)), (1, .int x1)] [] := by
  unfold HX3_firstFault_17 at hf
  refine g_iload_n X dX3_firstFault_17 1 rfl ?_
  refine g_aload_n X dX3_firstFault_18 0 rfl ?_
  refine g_get X dX3_firstFault_19 okC_1 cl3 1 (by decide) m_105 rfl ?_
  refine g_icmp_ge X dX3_firstFault_22 (tgt := 41) (by decide) (fun hc1 => ?_) (fun hc1 => ?_)
  · rw [if_pos hc1] at hf
    refine g_aload_n X dX3_firstFault_41 0 rfl ?_
    refine g_get X dX3_firstFault_42 okC_1 cl3 1 (by decide) m_105 rfl ?_
    cases hf
    exact g_ireturn X dX3_firstFault_45 hQ
  · rw [if_neg hc1] at hf
    refine g_aload_n X dX3_firstFault_25 0 rfl ?_
    refine g_iload_n X dX3_firstFault_26 1 rfl ?_
    obtain ⟨r2, I2, J2, hb2, hf⟩ := bnd_some hf
    refine g_callV X dX3_firstFault_27 cw_X3_28 (k := 1) (As := [.int x1]) (rcv okC_1 cl3) rfl rfl (Nat.le_of_ble_eq_true rfl) (by decide) (cX3_takes_ok  M.2.1 V x1  I J hb2) (kI ?_)
    refine g_if_ne X dX3_firstFault_30 (tgt := 35) (by decide) (fun hc3 => ?_) (fun hc3 => ?_)
    · rw [if_neg hc3] at hf
      refine g_iinc X dX3_firstFault_35 1 rfl 1 rfl (by decide) [(1, .int (x1 + 1)), (0, .ref (V.2.2 1))] rfl ?_
      refine g_goto X dX3_firstFault_38 (tgt := 17) (by decide) ?_
      refine g_sub [1, 0] rfl ?_
      exact hk17 (x1 + 1)  I2 J2 hf
    · rw [if_pos hc3] at hf
      refine g_iload_n X dX3_firstFault_33 1 rfl ?_
      cases hf
      exact g_ireturn X dX3_firstFault_34 hQ
set_option maxRecDepth 4000 in
theorem wLX3_firstFault_17 {M : MT} {V : VT}  (X : Cx M cS V cX3_firstFault 2 RX3 (some .int) 7) {q : RT Int32} (hQ : PI M cS V q)  : ∀ (n : Nat) (x1 : Int32)  (I : aI) (J : aJ), LX3_firstFault_17   n x1 I J = some q → Wg M cS V 2 I J 17 [(0, .ref (V.2.2 1)), (1, .int x1)] [] := by
  intro n
  induction n with
  | zero => intro x1  I J hf; cases hf
  | succ n ih => intro x1  I J hf; exact wHX3_firstFault_17  X hQ  (LX3_firstFault_17   n) ih x1  I J hf
set_option maxRecDepth 4000 in
theorem wX3_firstFault {M : MT} {V : VT} (X : Cx M cS V cX3_firstFault 2 RX3 (some .int) 7) {q : RT Int32} (hQ : PI M cS V q)   (I : aI) (J : aJ) (hf : fX3_firstFault  I J = some q) : Wg M cS V 2 I J 0 [(0, .ref (V.2.2 1))] [] := by
  unfold fX3_firstFault at hf
  refine g_aload_n X dX3_firstFault_0 0 rfl ?_
  refine g_iconst X dX3_firstFault_1 (v := 0) rfl ?_
  refine g_putI X dX3_firstFault_2 okC_1 cl3 2 (by decide) m_106 rfl .int rfl rfl rfl (Nat.le_of_ble_eq_true rfl) (fun _ _ => rfl) ?_
  refine g_aload_n X dX3_firstFault_5 0 rfl ?_
  refine g_iconst X dX3_firstFault_6 (v := 0) rfl ?_
  refine g_putI X dX3_firstFault_7 okC_1 cl3 3 (by decide) m_109 rfl .int rfl rfl rfl (Nat.le_of_ble_eq_true rfl) (fun _ _ => rfl) ?_
  refine g_aload_n X dX3_firstFault_10 0 rfl ?_
  refine g_iconst X dX3_firstFault_11 (v := (-1)) rfl ?_
  refine g_putI X dX3_firstFault_12 okC_1 cl3 4 (by decide) m_110 rfl .int rfl rfl rfl (Nat.le_of_ble_eq_true rfl) (fun _ _ => rfl) ?_
  refine g_iconst X dX3_firstFault_15 (v := 0) rfl ?_
  refine g_istore_n X dX3_firstFault_16 (by decide) [(1, .int 0), (0, .ref (V.2.2 1))] rfl ?_
  refine g_sub [1, 0] rfl ?_
  exact wLX3_firstFault_17  X hQ  128 0  (pI (pI (pI I 1 2 0) 1 3 0) 1 4 (-1)) J hf
set_option maxRecDepth 4000 in
theorem cX3_firstFault_ok (l : Launch) (V : VT)   (I : aI) (J : aJ) {q : RT Int32} (hf : fX3_firstFault  I J = some q) : Met l yX3_firstFault (.code yX3_firstFault cX3_firstFault 2 (some .int) :: GG) (rmD 7) (va_Pc [.ref (V.2.2 1)] (cQ cS V I J)) (QI cS V q) 0 0 (vAd cS V) :=
  met_I (by decide +kernel) rfl (Nat.le_of_ble_eq_true rfl) (fun _ _ X hQ => wX3_firstFault X hQ   I J hf)
-- X3_isSuburb
set_option maxRecDepth 4000 in
theorem wBX3_isSuburb_41 {M : MT} {V : VT}  (X : Cx M cS V cX3_isSuburb 1 RX3 (some .boolean) 8) {q : RT Int32} (hQ : PI M cS V q)  (s0 : Int32)  (I : aI) (J : aJ) (hf : BX3_isSuburb_41   s0 I J = some q) : Wg M cS V 1 I J 41 [] [.int s0] := by
  unfold BX3_isSuburb_41 at hf
  obtain ⟨hg6, hf⟩ := gd_some hf
  cases hf
  exact g_zreturn X dX3_isSuburb_41 (of_decide_eq_true hg6) hQ
set_option maxRecDepth 4000 in
theorem wBX3_isSuburb_40 {M : MT} {V : VT}  (X : Cx M cS V cX3_isSuburb 1 RX3 (some .boolean) 8) {q : RT Int32} (hQ : PI M cS V q)    (I : aI) (J : aJ) (hf : BX3_isSuburb_40    I J = some q) : Wg M cS V 1 I J 40 [] [] := by
  unfold BX3_isSuburb_40 at hf
  refine g_iconst X dX3_isSuburb_40 (v := 0) rfl ?_
  exact wBX3_isSuburb_41  X hQ  0  I J hf
set_option maxRecDepth 4000 in
theorem wX3_isSuburb {M : MT} {V : VT} (X : Cx M cS V cX3_isSuburb 1 RX3 (some .boolean) 8) {q : RT Int32} (hQ : PI M cS V q)   (I : aI) (J : aJ) (hf : fX3_isSuburb  I J = some q) : Wg M cS V 1 I J 0 [(0, .ref (V.2.2 1))] [] := by
  unfold fX3_isSuburb at hf
  refine g_aload_n X dX3_isSuburb_0 0 rfl ?_
  obtain ⟨r1, I1, J1, hb1, hf⟩ := bnd_some hf
  refine g_callV X dX3_isSuburb_1 cw_X3_32 (k := 1) (As := []) (rcv okC_1 cl3) rfl rfl (Nat.le_of_ble_eq_true rfl) (by decide) (cX3_firstFault_ok  M.2.1 V   I J hb1) (kI ?_)
  refine g_aload_n X dX3_isSuburb_4 0 rfl ?_
  refine g_get X dX3_isSuburb_5 okC_1 cl3 1 (by decide) m_105 rfl ?_
  refine g_icmp_ne X dX3_isSuburb_8 (tgt := 40) (by decide) (fun hc2 => ?_) (fun hc2 => ?_)
  · rw [if_neg hc2] at hf
    refine g_sub [] rfl ?_
    exact wBX3_isSuburb_40  X hQ    I1 J1 hf
  · rw [if_pos hc2] at hf
    refine g_aload_n X dX3_isSuburb_11 0 rfl ?_
    refine g_get X dX3_isSuburb_12 okC_1 cl3 3 (by decide) m_109 rfl ?_
    refine g_iconst X dX3_isSuburb_15 (v := 2) rfl ?_
    refine g_icmp_lt X dX3_isSuburb_16 (tgt := 40) (by decide) (fun hc3 => ?_) (fun hc3 => ?_)
    · rw [if_pos hc3] at hf
      refine g_sub [] rfl ?_
      exact wBX3_isSuburb_40  X hQ    I1 J1 hf
    · rw [if_neg hc3] at hf
      refine g_aload_n X dX3_isSuburb_19 0 rfl ?_
      refine g_get X dX3_isSuburb_20 okC_1 cl3 1 (by decide) m_105 rfl ?_
      refine g_aload_n X dX3_isSuburb_23 0 rfl ?_
      refine g_aload_n X dX3_isSuburb_24 0 rfl ?_
      refine g_get X dX3_isSuburb_25 okC_1 cl3 3 (by decide) m_109 rfl ?_
      obtain ⟨r4, I4, J4, hb4, hf⟩ := bnd_some hf
      refine g_callV X dX3_isSuburb_28 cw_X3_36 (k := 1) (As := [.int (I1 1 3)]) (rcv okC_1 cl3) rfl rfl (Nat.le_of_ble_eq_true rfl) (by decide) (cX3_personStart_ok  M.2.1 V (I1 1 3)  I1 J1 hb4) (kI ?_)
      refine g_iconst X dX3_isSuburb_31 (v := 1) rfl ?_
      refine g_isub X dX3_isSuburb_32 ?_
      refine g_icmp_ne X dX3_isSuburb_33 (tgt := 40) (by decide) (fun hc5 => ?_) (fun hc5 => ?_)
      · rw [if_neg hc5] at hf
        refine g_sub [] rfl ?_
        exact wBX3_isSuburb_40  X hQ    I4 J4 hf
      · rw [if_pos hc5] at hf
        refine g_iconst X dX3_isSuburb_36 (v := 1) rfl ?_
        refine g_goto X dX3_isSuburb_37 (tgt := 41) (by decide) ?_
        refine g_sub [] rfl ?_
        exact wBX3_isSuburb_41  X hQ  1  I4 J4 hf
set_option maxRecDepth 4000 in
theorem cX3_isSuburb_ok (l : Launch) (V : VT)   (I : aI) (J : aJ) {q : RT Int32} (hf : fX3_isSuburb  I J = some q) : Met l yX3_isSuburb (.code yX3_isSuburb cX3_isSuburb 1 (some .boolean) :: GG) (rmD 8) (va_Pc [.ref (V.2.2 1)] (cQ cS V I J)) (QI cS V q) 0 0 (vAd cS V) :=
  met_I (by decide +kernel) rfl (Nat.le_of_ble_eq_true rfl) (fun _ _ X hQ => wX3_isSuburb X hQ   I J hf)
-- X3_roadStart
set_option maxRecDepth 4000 in
theorem wX3_roadStart {M : MT} {V : VT} (X : Cx M cS V cX3_roadStart 2 RX3 (some .int) 0) {q : RT Int32} (hQ : PI M cS V q) (x1 : Int32)  (I : aI) (J : aJ) (hf : fX3_roadStart x1 I J = some q) : Wg M cS V 2 I J 0 [(0, .ref (V.2.2 1)), (1, .int x1)] [] := by
  unfold fX3_roadStart at hf
  refine g_iconst X dX3_roadStart_0 (v := 3) rfl ?_
  refine g_iconst X dX3_roadStart_1 (v := 3) rfl ?_
  refine g_iload_n X dX3_roadStart_2 1 rfl ?_
  refine g_imul X dX3_roadStart_3 ?_
  refine g_iadd X dX3_roadStart_4 ?_
  cases hf
  exact g_ireturn X dX3_roadStart_5 hQ
set_option maxRecDepth 4000 in
theorem cX3_roadStart_ok (l : Launch) (V : VT) (x1 : Int32)  (I : aI) (J : aJ) {q : RT Int32} (hf : fX3_roadStart x1 I J = some q) : Met l yX3_roadStart (.code yX3_roadStart cX3_roadStart 2 (some .int) :: GG) (rmD 0) (va_Pc [.ref (V.2.2 1), .int x1] (cQ cS V I J)) (QI cS V q) 0 0 (vAd cS V) :=
  met_I (by decide +kernel) rfl (Nat.le_of_ble_eq_true rfl) (fun _ _ X hQ => wX3_roadStart X hQ x1  I J hf)
-- X4_judge
set_option maxRecDepth 4000 in
theorem wBX4_judge_68 {M : MT} {V : VT}  (X : Cx M cS V cX4_judge 4 RX4 none 3) {q : RT Unit} (hQ : PV M cS V q)    (I : aI) (J : aJ) (hf : BX4_judge_68    I J = some q) : Wg M cS V 4 I J 68 [] [] := by
  unfold BX4_judge_68 at hf
  cases hf
  exact g_vreturn X dX4_judge_68 hQ
set_option maxRecDepth 4000 in
theorem wBX4_judge_44 {M : MT} {V : VT}  (X : Cx M cS V cX4_judge 4 RX4 none 3) {q : RT Unit} (hQ : PV M cS V q)  (x2 : Int32) (x3 : Int32)  (I : aI) (J : aJ) (hf : BX4_judge_44   x2 x3 I J = some q) : Wg M cS V 4 I J 44 [(0, .ref (V.2.2 44)), (2, .int x2), (3, .int x3)] [] := by
  unfold BX4_judge_44 at hf
  refine g_aload_n X dX4_judge_44 0 rfl ?_
  refine g_iload_n X dX4_judge_45 1 rfl ?_
  refine g_putI X dX4_judge_46 okC_44 cl4 1 (by decide) m_253 rfl .int rfl rfl rfl (Nat.le_of_ble_eq_true rfl) (fun _ _ => rfl) ?_
  refine g_aload_n X dX4_judge_49 0 rfl ?_
  refine g_iload_n X dX4_judge_50 2 rfl ?_
  refine g_putI X dX4_judge_51 okC_44 cl4 2 (by decide) m_255 rfl .int rfl rfl rfl (Nat.le_of_ble_eq_true rfl) (fun _ _ => rfl) ?_
  refine g_aload_n X dX4_judge_54 0 rfl ?_
  refine g_get X dX4_judge_55 okC_44 cl4 3 (by decide) m_257 rfl ?_
  refine g_iconst X dX4_judge_58 (v := 0) rfl ?_
  refine g_aload_n X dX4_judge_59 0 rfl ?_
  refine g_get X dX4_judge_60 okC_44 cl4 0 (by decide) m_251 rfl ?_
  refine g_iconst X dX4_judge_63 (v := 0) rfl ?_
  refine g_iconst X dX4_judge_64 (v := 5) rfl ?_
  refine g_copyI X dX4_judge_65 m_676 m_658 m_657 m_87 okC_46 okC_45 (by decide) (by decide) ?_
  refine g_sub [] rfl ?_
  exact wBX4_judge_68  X hQ    (uI (pI (pI I 44 1 x2) 44 2 x3) 45 (va_cpy ((pI (pI I 44 1 x2) 44 2 x3) 46) ((pI (pI I 44 1 x2) 44 2 x3) 45) (Int32.toNatClampNeg 0) (Int32.toNatClampNeg 0) (Int32.toNatClampNeg 5))) J hf
set_option maxRecDepth 4000 in
theorem wX4_judge {M : MT} {V : VT} (X : Cx M cS V cX4_judge 4 RX4 none 3) {q : RT Unit} (hQ : PV M cS V q) (e1 : Nat) (h1 : okc cS e1 0 0) (I : aI) (J : aJ) (hf : fX4_judge e1 I J = some q) : Wg M cS V 4 I J 0 [(0, .ref (V.2.2 44)), (1, .ref (V.2.2 e1))] [] := by
  unfold fX4_judge at hf
  refine g_aload_n X dX4_judge_0 1 rfl ?_
  obtain ⟨r1, I1, J1, hb1, hf⟩ := bnd_some hf
  refine g_callV X dX4_judge_1 cw_X4_62 (k := e1) (As := []) (rcv h1 cl0) rfl rfl (Nat.le_of_ble_eq_true rfl) (by decide) (cX0_servedNumber_ok  M.2.1 V e1 h1 I J hb1) (kI ?_)
  refine g_aload_n X dX4_judge_4 0 rfl ?_
  refine g_get X dX4_judge_5 okC_44 cl4 4 (by decide) m_258 rfl ?_
  refine g_iconst X dX4_judge_8 (v := 0) rfl ?_
  refine g_aaloadE X dX4_judge_9 okC_47 (by decide : inb 0 6 = true) ?_
  obtain ⟨r2, I2, J2, hb2, hf⟩ := bnd_some hf
  refine g_callV X dX4_judge_10 cw_X4_62 (k := (47 + 1 + 2 * Int32.toNatClampNeg 0)) (As := []) (rcv (ok_tr (by decide : inb 0 6 = true)) cl0) rfl rfl (Nat.le_of_ble_eq_true rfl) (by decide) (cX0_servedNumber_ok  M.2.1 V (47 + 1 + 2 * Int32.toNatClampNeg 0) (ok_tr (by decide : inb 0 6 = true)) I1 J1 hb2) (kI ?_)
  refine g_isub X dX4_judge_13 ?_
  refine g_istore_n X dX4_judge_14 (by decide) [(2, .int (r1 - r2)), (0, .ref (V.2.2 44)), (1, .ref (V.2.2 e1))] rfl ?_
  refine g_aload_n X dX4_judge_15 2 rfl ?_
  obtain ⟨r3, I3, J3, hb3, hf⟩ := bnd_some hf
  refine g_callV X dX4_judge_16 cw_X4_66 (k := e1) (As := []) (rcv h1 cl0) rfl rfl (Nat.le_of_ble_eq_true rfl) (by decide) (cX0_countedByUnserved_ok  M.2.1 V e1 h1 I2 J2 hb3) (kI ?_)
  refine g_istore_n X dX4_judge_19 (by decide) [(3, .int r3), (2, .int (r1 - r2)), (0, .ref (V.2.2 44)), (1, .ref (V.2.2 e1))] rfl ?_
  refine g_iload_n X dX4_judge_20 1 rfl ?_
  refine g_aload_n X dX4_judge_21 2 rfl ?_
  refine g_get X dX4_judge_22 okC_44 cl4 1 (by decide) m_253 rfl ?_
  refine g_icmp_gt X dX4_judge_25 (tgt := 44) (by decide) (fun hc4 => ?_) (fun hc4 => ?_)
  · rw [if_pos hc4] at hf
    refine g_sub [2, 1, 0] rfl ?_
    exact wBX4_judge_44  X hQ  (r1 - r2) r3  I3 J3 hf
  · rw [if_neg hc4] at hf
    refine g_iload_n X dX4_judge_28 1 rfl ?_
    refine g_aload_n X dX4_judge_29 2 rfl ?_
    refine g_get X dX4_judge_30 okC_44 cl4 1 (by decide) m_253 rfl ?_
    refine g_icmp_ne X dX4_judge_33 (tgt := 68) (by decide) (fun hc5 => ?_) (fun hc5 => ?_)
    · rw [if_neg hc5] at hf
      refine g_sub [] rfl ?_
      exact wBX4_judge_68  X hQ    I3 J3 hf
    · rw [if_pos hc5] at hf
      refine g_iload_n X dX4_judge_36 0 rfl ?_
      refine g_aload_n X dX4_judge_37 2 rfl ?_
      refine g_get X dX4_judge_38 okC_44 cl4 2 (by decide) m_255 rfl ?_
      refine g_icmp_le X dX4_judge_41 (tgt := 68) (by decide) (fun hc6 => ?_) (fun hc6 => ?_)
      · rw [if_pos hc6] at hf
        refine g_sub [] rfl ?_
        exact wBX4_judge_68  X hQ    I3 J3 hf
      · rw [if_neg hc6] at hf
        refine g_sub [2, 1, 0] rfl ?_
        exact wBX4_judge_44  X hQ  (r1 - r2) r3  I3 J3 hf
set_option maxRecDepth 4000 in
theorem cX4_judge_ok (l : Launch) (V : VT) (e1 : Nat) (h1 : okc cS e1 0 0) (I : aI) (J : aJ) {q : RT Unit} (hf : fX4_judge e1 I J = some q) : Met l yX4_judge (.code yX4_judge cX4_judge 4 none :: GG) (rmD 3) (va_Pc [.ref (V.2.2 44), .ref (V.2.2 e1)] (cQ cS V I J)) (QV cS V q) 0 0 (vAd cS V) :=
  met_V (by decide +kernel) rfl (Nat.le_of_ble_eq_true rfl) (fun _ _ X hQ => wX4_judge X hQ e1 h1 I J hf)
-- X4_extend
set_option maxRecDepth 4000 in
theorem wBX4_extend_11 {M : MT} {V : VT} (fX : Nat → Int32 → Int32 → aI → aJ → Option (RT Unit)) {d' d : Nat} (hd0 : d' + 1 ≤ d) (hd1 : 4 ≤ d) (hX : ∀ (l : Launch) (V : VT) (e2 : Nat) (x3 : Int32) (x4 : Int32) (h2 : okc cS e2 1 0) (I : aI) (J : aJ) {q : RT Unit}, fX e2 x3 x4 I J = some q → Met l yX4_extend (.code yX4_extend cX4_extend 8 none :: GG) (rmD d') (va_Pc [.ref (V.2.2 44), .ref (V.2.2 3), .ref (V.2.2 e2), .int x3, .int x4] (cQ cS V I J)) (QV cS V q) 0 0 (vAd cS V)) (X : Cx M cS V cX4_extend 8 RX4 none d) {q : RT Unit} (hQ : PV M cS V q)  (x3 : Int32)  (I : aI) (J : aJ) (hf : BX4_extend_11 fX  x3 I J = some q) : Wg M cS V 8 I J 11 [(0, .ref (V.2.2 44)), (3, .int x3)] [] := by
  unfold BX4_extend_11 at hf
  refine g_aload_n X dX4_extend_11 0 rfl ?_
  refine g_aload_n X dX4_extend_12 0 rfl ?_
  refine g_get X dX4_extend_13 okC_44 cl4 4 (by decide) m_258 rfl ?_
  refine g_iload_n X dX4_extend_16 1 rfl ?_
  obtain ⟨hg5, hf⟩ := gd_some hf
  refine g_aaloadE X dX4_extend_17 okC_47 hg5 ?_
  obtain ⟨r6, I6, J6, hb6, hf⟩ := bnd_some hf
  refine g_callV X dX4_extend_18 cw_X4_40 (k := 44) (As := [.ref (V.2.2 (47 + 1 + 2 * Int32.toNatClampNeg x3))]) (rcv okC_44 cl4) rfl rfl (Nat.le_of_ble_eq_true rfl) (by omega) (cX4_judge_ok  M.2.1 V (47 + 1 + 2 * Int32.toNatClampNeg x3) (ok_tr hg5) I J hb6) (kV ?_)
  cases hf
  exact g_vreturn X dX4_extend_21 hQ
set_option maxRecDepth 4000 in
theorem wBX4_extend_105 {M : MT} {V : VT} (fX : Nat → Int32 → Int32 → aI → aJ → Option (RT Unit)) {d' d : Nat} (hd0 : d' + 1 ≤ d) (hd1 : 4 ≤ d) (hX : ∀ (l : Launch) (V : VT) (e2 : Nat) (x3 : Int32) (x4 : Int32) (h2 : okc cS e2 1 0) (I : aI) (J : aJ) {q : RT Unit}, fX e2 x3 x4 I J = some q → Met l yX4_extend (.code yX4_extend cX4_extend 8 none :: GG) (rmD d') (va_Pc [.ref (V.2.2 44), .ref (V.2.2 3), .ref (V.2.2 e2), .int x3, .int x4] (cQ cS V I J)) (QV cS V q) 0 0 (vAd cS V)) (X : Cx M cS V cX4_extend 8 RX4 none d) {q : RT Unit} (hQ : PV M cS V q) (k43 : Nat → Int32 → Int32 → Nat → Nat → Int32 → aI → aJ → Option (RT Unit)) (hk43 : ∀ (e2 : Nat) (x3 : Int32) (x4 : Int32) (e5 : Nat) (e6 : Nat) (x7 : Int32) (he2 : okc cS e2 1 0) (he5 : okc cS e5 0 0) (he6 : okc cS e6 0 0) (I : aI) (J : aJ), k43 e2 x3 x4 e5 e6 x7 I J = some q → Wg M cS V 8 I J 43 [(0, .ref (V.2.2 44)), (1, .ref (V.2.2 3)), (2, .ref (V.2.2 e2)), (3, .int x3), (4, .int x4), (5, .ref (V.2.2 e5)), (6, .ref (V.2.2 e6)), (7, .int x7)] []) (e2 : Nat) (x3 : Int32) (x4 : Int32) (e5 : Nat) (e6 : Nat) (x7 : Int32) (he2 : okc cS e2 1 0) (he5 : okc cS e5 0 0) (he6 : okc cS e6 0 0) (I : aI) (J : aJ) (hf : BX4_extend_105 fX k43 e2 x3 x4 e5 e6 x7 I J = some q) : Wg M cS V 8 I J 105 [(0, .ref (V.2.2 44)), (1, .ref (V.2.2 3)), (2, .ref (V.2.2 e2)), (3, .int x3), (4, .int x4), (5, .ref (V.2.2 e5)), (6, .ref (V.2.2 e6)), (7, .int x7)] [] := by
  unfold BX4_extend_105 at hf
  refine g_iinc X dX4_extend_105 7 rfl 1 rfl (by decide) [(7, .int (x7 + 1)), (0, .ref (V.2.2 44)), (1, .ref (V.2.2 3)), (2, .ref (V.2.2 e2)), (3, .int x3), (4, .int x4), (5, .ref (V.2.2 e5)), (6, .ref (V.2.2 e6))] rfl ?_
  refine g_goto X dX4_extend_108 (tgt := 43) (by decide) ?_
  refine g_sub [1, 2, 3, 4, 5, 6, 7, 0] rfl ?_
  exact hk43 e2 x3 x4 e5 e6 (x7 + 1) he2 he5 he6 I J hf
set_option maxRecDepth 4000 in
theorem wHX4_extend_43 {M : MT} {V : VT} (fX : Nat → Int32 → Int32 → aI → aJ → Option (RT Unit)) {d' d : Nat} (hd0 : d' + 1 ≤ d) (hd1 : 4 ≤ d) (hX : ∀ (l : Launch) (V : VT) (e2 : Nat) (x3 : Int32) (x4 : Int32) (h2 : okc cS e2 1 0) (I : aI) (J : aJ) {q : RT Unit}, fX e2 x3 x4 I J = some q → Met l yX4_extend (.code yX4_extend cX4_extend 8 none :: GG) (rmD d') (va_Pc [.ref (V.2.2 44), .ref (V.2.2 3), .ref (V.2.2 e2), .int x3, .int x4] (cQ cS V I J)) (QV cS V q) 0 0 (vAd cS V)) (X : Cx M cS V cX4_extend 8 RX4 none d) {q : RT Unit} (hQ : PV M cS V q) (k43 : Nat → Int32 → Int32 → Nat → Nat → Int32 → aI → aJ → Option (RT Unit)) (hk43 : ∀ (e2 : Nat) (x3 : Int32) (x4 : Int32) (e5 : Nat) (e6 : Nat) (x7 : Int32) (he2 : okc cS e2 1 0) (he5 : okc cS e5 0 0) (he6 : okc cS e6 0 0) (I : aI) (J : aJ), k43 e2 x3 x4 e5 e6 x7 I J = some q → Wg M cS V 8 I J 43 [(0, .ref (V.2.2 44)), (1, .ref (V.2.2 3)), (2, .ref (V.2.2 e2)), (3, .int x3), (4, .int x4), (5, .ref (V.2.2 e5)), (6, .ref (V.2.2 e6)), (7, .int x7)] []) (e2 : Nat) (x3 : Int32) (x4 : Int32) (e5 : Nat) (e6 : Nat) (x7 : Int32) (he2 : okc cS e2 1 0) (he5 : okc cS e5 0 0) (he6 : okc cS e6 0 0) (I : aI) (J : aJ) (hf : HX4_extend_43 fX k43 e2 x3 x4 e5 e6 x7 I J = some q) : Wg M cS V 8 I J 43 [(0, .ref (V.2.2 44)), (1, .ref (V.2.2 3)), (2, .ref (V.2.2 e2)), (3, .int x3), (4, .int x4), (5, .ref (V.2.2 e5)), (6, .ref (V.2.2 e6)), (7, .int x7)] [] := by
  unfold HX4_extend_43 at hf
  refine g_iload X dX4_extend_43 7 rfl ?_
  refine g_aload_n X dX4_extend_45 1 rfl ?_
  refine g_get X dX4_extend_46 okC_3 cl6 0 (by decide) m_132 rfl ?_
  refine g_icmp_ge X dX4_extend_49 (tgt := 111) (by decide) (fun hc7 => ?_) (fun hc7 => ?_)
  · rw [if_pos hc7] at hf
    cases hf
    exact g_vreturn X dX4_extend_111 hQ
  · rw [if_neg hc7] at hf
    refine g_aload_n X dX4_extend_52 1 rfl ?_
    refine g_get X dX4_extend_53 okC_3 cl6 4 (by decide) m_145 rfl ?_
    refine g_aload X dX4_extend_56 5 rfl ?_
    refine g_get X dX4_extend_58 he5 cl0 0 (by decide) m_206 rfl ?_
    obtain ⟨hg8, hf⟩ := gd_some hf
    refine g_iaload X dX4_extend_61 okC_6 hg8 ?_
    refine g_iload X dX4_extend_62 7 rfl ?_
    obtain ⟨r9, I9, J9, hb9, hf⟩ := bnd_some hf
    refine g_callN X dX4_extend_64 nw_hasBit (fun U h => h.1.2.2.2) (As := [.int (I 6 (Int32.toNatClampNeg (I e5 0))), .int x7]) rfl rfl (Nat.le_of_ble_eq_true rfl) (by omega) (cX7_hasBit_ok  M.2.1 V (I 6 (Int32.toNatClampNeg (I e5 0))) x7  I J hb9) (kI ?_)
    refine g_if_eq X dX4_extend_67 (tgt := 105) (by decide) (fun hc10 => ?_) (fun hc10 => ?_)
    · rw [if_pos hc10] at hf
      exact wBX4_extend_105 fX hd0 hd1 hX X hQ k43 hk43 e2 x3 x4 e5 e6 x7 he2 he5 he6 I9 J9 hf
    · rw [if_neg hc10] at hf
      refine g_aload_n X dX4_extend_70 0 rfl ?_
      refine g_get X dX4_extend_71 okC_44 cl4 3 (by decide) m_257 rfl ?_
      refine g_iload_n X dX4_extend_74 3 rfl ?_
      refine g_iload X dX4_extend_75 7 rfl ?_
      obtain ⟨hg11, hf⟩ := gd_some hf
      refine g_iastore X dX4_extend_77 okC_46 hg11 ?_
      refine g_aload X dX4_extend_78 6 rfl ?_
      refine g_aload X dX4_extend_80 5 rfl ?_
      obtain ⟨r12, I12, J12, hb12, hf⟩ := bnd_some hf
      refine g_callV X dX4_extend_82 cw_X4_32 (k := e6) (As := [.ref (V.2.2 e5)]) (rcv he6 cl0) rfl rfl (Nat.le_of_ble_eq_true rfl) (by omega) (cX0_copy_ok  M.2.1 V e6 e5 he6 he5 (pI I9 46 (Int32.toNatClampNeg x3) x7) J9 hb12) (kV ?_)
      refine g_aload X dX4_extend_85 6 rfl ?_
      refine g_iload X dX4_extend_87 7 rfl ?_
      refine g_aload_n X dX4_extend_89 2 rfl ?_
      obtain ⟨r13, I13, J13, hb13, hf⟩ := bnd_some hf
      refine g_callV X dX4_extend_90 cw_X4_58 (k := e6) (As := [.int x7, .ref (V.2.2 e2)]) (rcv he6 cl0) rfl rfl (Nat.le_of_ble_eq_true rfl) (by omega) (cX0_pass_ok  M.2.1 V e6 x7 e2 he6 he2 I12 J12 hb13) (kI ?_)
      refine g_pop X dX4_extend_93 rfl ?_
      refine g_aload_n X dX4_extend_94 0 rfl ?_
      refine g_aload_n X dX4_extend_95 1 rfl ?_
      refine g_aload_n X dX4_extend_96 2 rfl ?_
      refine g_iload_n X dX4_extend_97 3 rfl ?_
      refine g_iconst X dX4_extend_98 (v := 1) rfl ?_
      refine g_iadd X dX4_extend_99 ?_
      refine g_iload X dX4_extend_100 4 rfl ?_
      obtain ⟨r14, I14, J14, hb14, hf⟩ := bnd_some hf
      refine g_callV X dX4_extend_102 cw_X4_36 (k := 44) (As := [.ref (V.2.2 3), .ref (V.2.2 e2), .int (x3 + 1), .int x4]) (rcv okC_44 cl4) rfl rfl (Nat.le_of_ble_eq_true rfl) hd0 (hX M.2.1 V e2 (x3 + 1) x4 he2 I13 J13 hb14) (kV ?_)
      exact wBX4_extend_105 fX hd0 hd1 hX X hQ k43 hk43 e2 x3 x4 e5 e6 x7 he2 he5 he6 I14 J14 hf
set_option maxRecDepth 4000 in
theorem wLX4_extend_43 {M : MT} {V : VT} (fX : Nat → Int32 → Int32 → aI → aJ → Option (RT Unit)) {d' d : Nat} (hd0 : d' + 1 ≤ d) (hd1 : 4 ≤ d) (hX : ∀ (l : Launch) (V : VT) (e2 : Nat) (x3 : Int32) (x4 : Int32) (h2 : okc cS e2 1 0) (I : aI) (J : aJ) {q : RT Unit}, fX e2 x3 x4 I J = some q → Met l yX4_extend (.code yX4_extend cX4_extend 8 none :: GG) (rmD d') (va_Pc [.ref (V.2.2 44), .ref (V.2.2 3), .ref (V.2.2 e2), .int x3, .int x4] (cQ cS V I J)) (QV cS V q) 0 0 (vAd cS V)) (X : Cx M cS V cX4_extend 8 RX4 none d) {q : RT Unit} (hQ : PV M cS V q)  : ∀ (n : Nat) (e2 : Nat) (x3 : Int32) (x4 : Int32) (e5 : Nat) (e6 : Nat) (x7 : Int32) (he2 : okc cS e2 1 0) (he5 : okc cS e5 0 0) (he6 : okc cS e6 0 0) (I : aI) (J : aJ), LX4_extend_43 fX  n e2 x3 x4 e5 e6 x7 I J = some q → Wg M cS V 8 I J 43 [(0, .ref (V.2.2 44)), (1, .ref (V.2.2 3)), (2, .ref (V.2.2 e2)), (3, .int x3), (4, .int x4), (5, .ref (V.2.2 e5)), (6, .ref (V.2.2 e6)), (7, .int x7)] [] := by
  intro n
  induction n with
  | zero => intro e2 x3 x4 e5 e6 x7 he2 he5 he6 I J hf; cases hf
  | succ n ih => intro e2 x3 x4 e5 e6 x7 he2 he5 he6 I J hf; exact wHX4_extend_43 fX hd0 hd1 hX X hQ  (LX4_extend_43 fX  n) ih e2 x3 x4 e5 e6 x7 he2 he5 he6 I J hf
set_option maxRecDepth 4000 in
theorem wX4_extend {M : MT} {V : VT} (fX : Nat → Int32 → Int32 → aI → aJ → Option (RT Unit)) {d' d : Nat} (hd0 : d' + 1 ≤ d) (hd1 : 4 ≤ d) (hX : ∀ (l : Launch) (V : VT) (e2 : Nat) (x3 : Int32) (x4 : Int32) (h2 : okc cS e2 1 0) (I : aI) (J : aJ) {q : RT Unit}, fX e2 x3 x4 I J = some q → Met l yX4_extend (.code yX4_extend cX4_extend 8 none :: GG) (rmD d') (va_Pc [.ref (V.2.2 44), .ref (V.2.2 3), .ref (V.2.2 e2), .int x3, .int x4] (cQ cS V I J)) (QV cS V q) 0 0 (vAd cS V)) (X : Cx M cS V cX4_extend 8 RX4 none d) {q : RT Unit} (hQ : PV M cS V q) (e2 : Nat) (x3 : Int32) (x4 : Int32) (h2 : okc cS e2 1 0) (I : aI) (J : aJ) (hf : gX4_extend fX e2 x3 x4 I J = some q) : Wg M cS V 8 I J 0 [(0, .ref (V.2.2 44)), (1, .ref (V.2.2 3)), (2, .ref (V.2.2 e2)), (3, .int x3), (4, .int x4)] [] := by
  unfold gX4_extend at hf
  refine g_iload_n X dX4_extend_0 3 rfl ?_
  refine g_iload X dX4_extend_1 4 rfl ?_
  refine g_icmp_ge X dX4_extend_3 (tgt := 11) (by decide) (fun hc1 => ?_) (fun hc1 => ?_)
  · rw [if_pos hc1] at hf
    refine g_sub [0, 3] rfl ?_
    exact wBX4_extend_11 fX hd0 hd1 hX X hQ  x3  I J hf
  · rw [if_neg hc1] at hf
    refine g_iload_n X dX4_extend_6 3 rfl ?_
    refine g_iconst X dX4_extend_7 (v := 5) rfl ?_
    refine g_icmp_lt X dX4_extend_8 (tgt := 22) (by decide) (fun hc2 => ?_) (fun hc2 => ?_)
    · rw [if_pos hc2] at hf
      refine g_aload_n X dX4_extend_22 0 rfl ?_
      refine g_get X dX4_extend_23 okC_44 cl4 4 (by decide) m_258 rfl ?_
      refine g_iload_n X dX4_extend_26 3 rfl ?_
      obtain ⟨hg3, hf⟩ := gd_some hf
      refine g_aaloadE X dX4_extend_27 okC_47 hg3 ?_
      refine g_astore X dX4_extend_28 (by decide) [(5, .ref (V.2.2 (47 + 1 + 2 * Int32.toNatClampNeg x3))), (0, .ref (V.2.2 44)), (1, .ref (V.2.2 3)), (2, .ref (V.2.2 e2)), (3, .int x3), (4, .int x4)] rfl ?_
      refine g_aload_n X dX4_extend_30 1 rfl ?_
      refine g_get X dX4_extend_31 okC_44 cl4 4 (by decide) m_258 rfl ?_
      refine g_iload_n X dX4_extend_34 4 rfl ?_
      refine g_iconst X dX4_extend_35 (v := 1) rfl ?_
      refine g_iadd X dX4_extend_36 ?_
      obtain ⟨hg4, hf⟩ := gd_some hf
      refine g_aaloadE X dX4_extend_37 okC_47 hg4 ?_
      refine g_astore X dX4_extend_38 (by decide) [(6, .ref (V.2.2 (47 + 1 + 2 * Int32.toNatClampNeg (x3 + 1)))), (5, .ref (V.2.2 (47 + 1 + 2 * Int32.toNatClampNeg x3))), (0, .ref (V.2.2 44)), (1, .ref (V.2.2 3)), (2, .ref (V.2.2 e2)), (3, .int x3), (4, .int x4)] rfl ?_
      refine g_iconst X dX4_extend_40 (v := 0) rfl ?_
      refine g_istore X dX4_extend_41 (by decide) [(7, .int 0), (6, .ref (V.2.2 (47 + 1 + 2 * Int32.toNatClampNeg (x3 + 1)))), (5, .ref (V.2.2 (47 + 1 + 2 * Int32.toNatClampNeg x3))), (0, .ref (V.2.2 44)), (1, .ref (V.2.2 3)), (2, .ref (V.2.2 e2)), (3, .int x3), (4, .int x4)] rfl ?_
      refine g_sub [3, 4, 5, 6, 7, 2, 1, 0] rfl ?_
      exact wLX4_extend_43 fX hd0 hd1 hX X hQ  128 e2 x3 x4 (47 + 1 + 2 * Int32.toNatClampNeg x3) (47 + 1 + 2 * Int32.toNatClampNeg (x3 + 1)) 0 h2 (ok_tr hg3) (ok_tr hg4) I J hf
    · rw [if_neg hc2] at hf
      refine g_sub [0, 3] rfl ?_
      exact wBX4_extend_11 fX hd0 hd1 hX X hQ  x3  I J hf
set_option maxRecDepth 4000 in
theorem cX4_extend_ok : ∀ (n : Nat) (l : Launch) (V : VT) (e2 : Nat) (x3 : Int32) (x4 : Int32) (h2 : okc cS e2 1 0) (I : aI) (J : aJ) {q : RT Unit}, fX4_extend n e2 x3 x4 I J = some q → Met l yX4_extend (.code yX4_extend cX4_extend 8 none :: GG) (rmD (n + 4)) (va_Pc [.ref (V.2.2 44), .ref (V.2.2 3), .ref (V.2.2 e2), .int x3, .int x4] (cQ cS V I J)) (QV cS V q) 0 0 (vAd cS V) := by
  intro n
  induction n with
  | zero => intro l V e2 x3 x4 h2 I J q hf; cases hf
  | succ n ih => intro l V e2 x3 x4 h2 I J q hf; exact met_V (by decide +kernel) rfl (Nat.le_of_ble_eq_true rfl) (fun _ _ X hQ => wX4_extend (fX4_extend n) (by omega) (by omega) ih X hQ e2 x3 x4 h2 I J hf)
-- X4_run
set_option maxRecDepth 4000 in
theorem wX4_run {M : MT} {V : VT} (X : Cx M cS V cX4_run 5 RX4 none 12) {q : RT Unit} (hQ : PV M cS V q) (e2 : Nat) (e3 : Nat) (x4 : Int32) (h2 : okc cS e2 1 0) (h3 : okc cS e3 0 0) (I : aI) (J : aJ) (hf : fX4_run e2 e3 x4 I J = some q) : Wg M cS V 5 I J 0 [(0, .ref (V.2.2 44)), (1, .ref (V.2.2 3)), (2, .ref (V.2.2 e2)), (3, .ref (V.2.2 e3)), (4, .int x4)] [] := by
  unfold fX4_run at hf
  refine g_aload_n X dX4_run_0 0 rfl ?_
  refine g_iconst X dX4_run_1 (v := (-1)) rfl ?_
  refine g_putI X dX4_run_2 okC_44 cl4 1 (by decide) m_253 rfl .int rfl rfl rfl (Nat.le_of_ble_eq_true rfl) (fun _ _ => rfl) ?_
  refine g_aload_n X dX4_run_5 0 rfl ?_
  refine g_iconst X dX4_run_6 (v := (-1)) rfl ?_
  refine g_putI X dX4_run_7 okC_44 cl4 2 (by decide) m_255 rfl .int rfl rfl rfl (Nat.le_of_ble_eq_true rfl) (fun _ _ => rfl) ?_
  refine g_aload_n X dX4_run_10 0 rfl ?_
  refine g_get X dX4_run_11 okC_44 cl4 4 (by decide) m_258 rfl ?_
  refine g_iconst X dX4_run_14 (v := 0) rfl ?_
  refine g_aaloadE X dX4_run_15 okC_47 (by decide : inb 0 6 = true) ?_
  refine g_aload_n X dX4_run_16 3 rfl ?_
  obtain ⟨r1, I1, J1, hb1, hf⟩ := bnd_some hf
  refine g_callV X dX4_run_17 cw_X4_32 (k := (47 + 1 + 2 * Int32.toNatClampNeg 0)) (As := [.ref (V.2.2 e3)]) (rcv (ok_tr (by decide : inb 0 6 = true)) cl0) rfl rfl (Nat.le_of_ble_eq_true rfl) (by decide) (cX0_copy_ok  M.2.1 V (47 + 1 + 2 * Int32.toNatClampNeg 0) e3 (ok_tr (by decide : inb 0 6 = true)) h3 (pI (pI I 44 1 (-1)) 44 2 (-1)) J hb1) (kV ?_)
  refine g_aload_n X dX4_run_20 0 rfl ?_
  refine g_aload_n X dX4_run_21 1 rfl ?_
  refine g_aload_n X dX4_run_22 2 rfl ?_
  refine g_iconst X dX4_run_23 (v := 0) rfl ?_
  refine g_iload X dX4_run_24 4 rfl ?_
  obtain ⟨r2, I2, J2, hb2, hf⟩ := bnd_some hf
  refine g_callV X dX4_run_26 cw_X4_36 (k := 44) (As := [.ref (V.2.2 3), .ref (V.2.2 e2), .int 0, .int x4]) (rcv okC_44 cl4) rfl rfl (Nat.le_of_ble_eq_true rfl) (by decide) (cX4_extend_ok 7 M.2.1 V e2 0 x4 h2 I1 J1 hb2) (kV ?_)
  cases hf
  exact g_vreturn X dX4_run_29 hQ
set_option maxRecDepth 4000 in
theorem cX4_run_ok (l : Launch) (V : VT) (e2 : Nat) (e3 : Nat) (x4 : Int32) (h2 : okc cS e2 1 0) (h3 : okc cS e3 0 0) (I : aI) (J : aJ) {q : RT Unit} (hf : fX4_run e2 e3 x4 I J = some q) : Met l yX4_run (.code yX4_run cX4_run 5 none :: GG) (rmD 12) (va_Pc [.ref (V.2.2 44), .ref (V.2.2 3), .ref (V.2.2 e2), .ref (V.2.2 e3), .int x4] (cQ cS V I J)) (QV cS V q) 0 0 (vAd cS V) :=
  met_V (by decide +kernel) rfl (Nat.le_of_ble_eq_true rfl) (fun _ _ X hQ => wX4_run X hQ e2 e3 x4 h2 h3 I J hf)
-- X5_sharedPart
set_option maxRecDepth 4000 in
theorem wBX5_sharedPart_49 {M : MT} {V : VT}  (X : Cx M cS V cX5_sharedPart 9 RX5 (some .long) 1) {q : RT Int64} (hQ : PL M cS V q)  (x2 : Int64)  (I : aI) (J : aJ) (hf : BX5_sharedPart_49   x2 I J = some q) : Wg M cS V 9 I J 49 [(2, .long x2)] [] := by
  unfold BX5_sharedPart_49 at hf
  refine g_lload_n X dX5_sharedPart_49 0 rfl ?_
  refine g_lconst X dX5_sharedPart_50 (v := 1) rfl ?_
  refine g_mmaxl X dX5_sharedPart_51 m_708 m_709 m_81 m_710 (Nat.le_of_ble_eq_true rfl) (by decide) ?_
  cases hf
  exact g_lreturn X dX5_sharedPart_54 hQ
set_option maxRecDepth 4000 in
theorem wHX5_sharedPart_16 {M : MT} {V : VT}  (X : Cx M cS V cX5_sharedPart 9 RX5 (some .long) 1) {q : RT Int64} (hQ : PL M cS V q) (k16 : Int64 → Int64 → Int32 → aI → aJ → Option (RT Int64)) (hk16 : ∀ (x2 : Int64) (x4 : Int64) (x6 : Int32)  (I : aI) (J : aJ), k16 x2 x4 x6 I J = some q → Wg M cS V 9 I J 16 [(2, .long x2), (4, .long x4), (6, .int x6)] []) (x2 : Int64) (x4 : Int64) (x6 : Int32)  (I : aI) (J : aJ) (hf : HX5_sharedPart_16  k16 x2 x4 x6 I J = some q) : Wg M cS V 9 I J 16 [(2, .long x2), (4, .long x4), (6, .int x6)] [] := by
  unfold HX5_sharedPart_16 at hf
  refine g_iload X dX5_sharedPart_16 2 rfl ?_
  refine g_bipush X dX5_sharedPart_18 (v := 100) rfl ?_
  refine g_icmp_ge X dX5_sharedPart_20 (tgt := 49) (by decide) (fun hc2 => ?_) (fun hc2 => ?_)
  · rw [if_pos hc2] at hf
    refine g_sub [0] rfl ?_
    exact wBX5_sharedPart_49  X hQ  x2  I J hf
  · rw [if_neg hc2] at hf
    refine g_lload X dX5_sharedPart_23 1 rfl ?_
    refine g_lconst X dX5_sharedPart_25 (v := 0) rfl ?_
    refine g_lcmp X dX5_sharedPart_26 ?_
    refine g_if_eq X dX5_sharedPart_27 (tgt := 49) (by decide) (fun hc3 => ?_) (fun hc3 => ?_)
    · rw [if_pos hc3] at hf
      refine g_sub [0] rfl ?_
      exact wBX5_sharedPart_49  X hQ  x2  I J hf
    · rw [if_neg hc3] at hf
      refine g_lload_n X dX5_sharedPart_30 0 rfl ?_
      refine g_lload X dX5_sharedPart_31 1 rfl ?_
      obtain ⟨hg4, hf⟩ := gd_some hf
      refine g_lrem X dX5_sharedPart_33 (of_decide_eq_true hg4) ?_
      refine g_lstore X dX5_sharedPart_34 (by decide) [(7, .long (x2 - x2 / x4 * x4)), (2, .long x2), (4, .long x4), (6, .int x6)] rfl ?_
      refine g_lload X dX5_sharedPart_36 2 rfl ?_
      refine g_lstore_n X dX5_sharedPart_38 (by decide) [(2, .long x4), (7, .long (x2 - x2 / x4 * x4)), (4, .long x4), (6, .int x6)] rfl ?_
      refine g_lload X dX5_sharedPart_39 1 rfl ?_
      refine g_lstore X dX5_sharedPart_41 (by decide) [(4, .long (x2 - x2 / x4 * x4)), (2, .long x4), (7, .long (x2 - x2 / x4 * x4)), (6, .int x6)] rfl ?_
      refine g_iinc X dX5_sharedPart_43 3 rfl 1 rfl (by decide) [(6, .int (x6 + 1)), (4, .long (x2 - x2 / x4 * x4)), (2, .long x4), (7, .long (x2 - x2 / x4 * x4))] rfl ?_
      refine g_goto X dX5_sharedPart_46 (tgt := 16) (by decide) ?_
      refine g_sub [2, 1, 0] rfl ?_
      exact hk16 x4 (x2 - x2 / x4 * x4) (x6 + 1)  I J hf
set_option maxRecDepth 4000 in
theorem wLX5_sharedPart_16 {M : MT} {V : VT}  (X : Cx M cS V cX5_sharedPart 9 RX5 (some .long) 1) {q : RT Int64} (hQ : PL M cS V q)  : ∀ (n : Nat) (x2 : Int64) (x4 : Int64) (x6 : Int32)  (I : aI) (J : aJ), LX5_sharedPart_16   n x2 x4 x6 I J = some q → Wg M cS V 9 I J 16 [(2, .long x2), (4, .long x4), (6, .int x6)] [] := by
  intro n
  induction n with
  | zero => intro x2 x4 x6  I J hf; cases hf
  | succ n ih => intro x2 x4 x6  I J hf; exact wHX5_sharedPart_16  X hQ  (LX5_sharedPart_16   n) ih x2 x4 x6  I J hf
set_option maxRecDepth 4000 in
theorem wX5_sharedPart {M : MT} {V : VT} (X : Cx M cS V cX5_sharedPart 9 RX5 (some .long) 1) {q : RT Int64} (hQ : PL M cS V q) (x1 : Int32)  (I : aI) (J : aJ) (hf : fX5_sharedPart x1 I J = some q) : Wg M cS V 9 I J 0 [(0, .ref (V.2.2 60)), (1, .int x1)] [] := by
  unfold fX5_sharedPart at hf
  refine g_aload_n X dX5_sharedPart_0 0 rfl ?_
  refine g_get X dX5_sharedPart_1 okC_60 cl5 0 (by decide) m_276 rfl ?_
  refine g_lstore_n X dX5_sharedPart_4 (by decide) [(2, .long (J 60 0)), (0, .ref (V.2.2 60)), (1, .int x1)] rfl ?_
  refine g_aload_n X dX5_sharedPart_5 1 rfl ?_
  refine g_get X dX5_sharedPart_6 okC_60 cl5 1 (by decide) m_277 rfl ?_
  refine g_iload_n X dX5_sharedPart_9 2 rfl ?_
  obtain ⟨hg1, hf⟩ := gd_some hf
  refine g_laload X dX5_sharedPart_10 okC_61 hg1 ?_
  refine g_lstore X dX5_sharedPart_11 (by decide) [(4, .long (J 61 (Int32.toNatClampNeg x1))), (2, .long (J 60 0)), (0, .ref (V.2.2 60)), (1, .int x1)] rfl ?_
  refine g_iconst X dX5_sharedPart_13 (v := 0) rfl ?_
  refine g_istore X dX5_sharedPart_14 (by decide) [(6, .int 0), (4, .long (J 61 (Int32.toNatClampNeg x1))), (2, .long (J 60 0)), (0, .ref (V.2.2 60)), (1, .int x1)] rfl ?_
  refine g_sub [2, 1, 0] rfl ?_
  exact wLX5_sharedPart_16  X hQ  128 (J 60 0) (J 61 (Int32.toNatClampNeg x1)) 0  I J hf
set_option maxRecDepth 4000 in
theorem cX5_sharedPart_ok (l : Launch) (V : VT) (x1 : Int32)  (I : aI) (J : aJ) {q : RT Int64} (hf : fX5_sharedPart x1 I J = some q) : Met l yX5_sharedPart (.code yX5_sharedPart cX5_sharedPart 9 (some .long) :: GG) (rmD 1) (va_Pc [.ref (V.2.2 60), .int x1] (cQ cS V I J)) (QL cS V q) 0 0 (vAd cS V) :=
  met_L (by decide +kernel) rfl (Nat.le_of_ble_eq_true rfl) (fun _ _ X hQ => wX5_sharedPart X hQ x1  I J hf)
-- X5_above
set_option maxRecDepth 4000 in
theorem wX5_above {M : MT} {V : VT} (X : Cx M cS V cX5_above 2 RX5 (some .int) 2) {q : RT Int32} (hQ : PI M cS V q) (x1 : Int32)  (I : aI) (J : aJ) (hf : fX5_above x1 I J = some q) : Wg M cS V 2 I J 0 [(0, .ref (V.2.2 60)), (1, .int x1)] [] := by
  unfold fX5_above at hf
  refine g_aload_n X dX5_above_0 0 rfl ?_
  refine g_get X dX5_above_1 okC_60 cl5 1 (by decide) m_277 rfl ?_
  refine g_iload_n X dX5_above_4 1 rfl ?_
  obtain ⟨hg1, hf⟩ := gd_some hf
  refine g_laload X dX5_above_5 okC_61 hg1 ?_
  refine g_aload_n X dX5_above_6 0 rfl ?_
  refine g_iload_n X dX5_above_7 1 rfl ?_
  obtain ⟨r2, I2, J2, hb2, hf⟩ := bnd_some hf
  refine g_callV X dX5_above_8 cw_X5_34 (k := 60) (As := [.int x1]) (rcv okC_60 cl5) rfl rfl (Nat.le_of_ble_eq_true rfl) (by decide) (cX5_sharedPart_ok  M.2.1 V x1  I J hb2) (kL ?_)
  obtain ⟨hg3, hf⟩ := gd_some hf
  refine g_ldiv X dX5_above_11 (of_decide_eq_true hg3) ?_
  refine g_l2i X dX5_above_12 ?_
  cases hf
  exact g_ireturn X dX5_above_13 hQ
set_option maxRecDepth 4000 in
theorem cX5_above_ok (l : Launch) (V : VT) (x1 : Int32)  (I : aI) (J : aJ) {q : RT Int32} (hf : fX5_above x1 I J = some q) : Met l yX5_above (.code yX5_above cX5_above 2 (some .int) :: GG) (rmD 2) (va_Pc [.ref (V.2.2 60), .int x1] (cQ cS V I J)) (QI cS V q) 0 0 (vAd cS V) :=
  met_I (by decide +kernel) rfl (Nat.le_of_ble_eq_true rfl) (fun _ _ X hQ => wX5_above X hQ x1  I J hf)
-- X5_below
set_option maxRecDepth 4000 in
theorem wX5_below {M : MT} {V : VT} (X : Cx M cS V cX5_below 2 RX5 (some .int) 2) {q : RT Int32} (hQ : PI M cS V q) (x1 : Int32)  (I : aI) (J : aJ) (hf : fX5_below x1 I J = some q) : Wg M cS V 2 I J 0 [(0, .ref (V.2.2 60)), (1, .int x1)] [] := by
  unfold fX5_below at hf
  refine g_aload_n X dX5_below_0 0 rfl ?_
  refine g_get X dX5_below_1 okC_60 cl5 0 (by decide) m_276 rfl ?_
  refine g_aload_n X dX5_below_4 0 rfl ?_
  refine g_iload_n X dX5_below_5 1 rfl ?_
  obtain ⟨r1, I1, J1, hb1, hf⟩ := bnd_some hf
  refine g_callV X dX5_below_6 cw_X5_34 (k := 60) (As := [.int x1]) (rcv okC_60 cl5) rfl rfl (Nat.le_of_ble_eq_true rfl) (by decide) (cX5_sharedPart_ok  M.2.1 V x1  I J hb1) (kL ?_)
  obtain ⟨hg2, hf⟩ := gd_some hf
  refine g_ldiv X dX5_below_9 (of_decide_eq_true hg2) ?_
  refine g_l2i X dX5_below_10 ?_
  cases hf
  exact g_ireturn X dX5_below_11 hQ
set_option maxRecDepth 4000 in
theorem cX5_below_ok (l : Launch) (V : VT) (x1 : Int32)  (I : aI) (J : aJ) {q : RT Int32} (hf : fX5_below x1 I J = some q) : Met l yX5_below (.code yX5_below cX5_below 2 (some .int) :: GG) (rmD 2) (va_Pc [.ref (V.2.2 60), .int x1] (cQ cS V I J)) (QI cS V q) 0 0 (vAd cS V) :=
  met_I (by decide +kernel) rfl (Nat.le_of_ble_eq_true rfl) (fun _ _ X hQ => wX5_below X hQ x1  I J hf)
-- X5_partPerRoad
set_option maxRecDepth 4000 in
theorem wBX5_partPerRoad_28 {M : MT} {V : VT}  (X : Cx M cS V cX5_partPerRoad 4 RX5 (some .long) 0) {q : RT Int64} (hQ : PL M cS V q)  (s0 : Int64)  (I : aI) (J : aJ) (hf : BX5_partPerRoad_28   s0 I J = some q) : Wg M cS V 4 I J 28 [] [.long s0] := by
  unfold BX5_partPerRoad_28 at hf
  cases hf
  exact g_lreturn X dX5_partPerRoad_28 hQ
set_option maxRecDepth 4000 in
theorem wX5_partPerRoad {M : MT} {V : VT} (X : Cx M cS V cX5_partPerRoad 4 RX5 (some .long) 0) {q : RT Int64} (hQ : PL M cS V q) (x2 : Int32)  (I : aI) (J : aJ) (hf : fX5_partPerRoad x2 I J = some q) : Wg M cS V 4 I J 0 [(0, .ref (V.2.2 60)), (1, .ref (V.2.2 3)), (2, .int x2)] [] := by
  unfold fX5_partPerRoad at hf
  refine g_aload_n X dX5_partPerRoad_0 1 rfl ?_
  refine g_get X dX5_partPerRoad_1 okC_3 cl6 5 (by decide) m_148 rfl ?_
  refine g_iload_n X dX5_partPerRoad_4 2 rfl ?_
  obtain ⟨hg1, hf⟩ := gd_some hf
  refine g_iaload X dX5_partPerRoad_5 okC_7 hg1 ?_
  refine g_istore_n X dX5_partPerRoad_6 (by decide) [(3, .int (I 7 (Int32.toNatClampNeg x2))), (0, .ref (V.2.2 60)), (1, .ref (V.2.2 3)), (2, .int x2)] rfl ?_
  refine g_iload_n X dX5_partPerRoad_7 0 rfl ?_
  refine g_if_le X dX5_partPerRoad_8 (tgt := 27) (by decide) (fun hc2 => ?_) (fun hc2 => ?_)
  · rw [if_pos hc2] at hf
    refine g_lconst X dX5_partPerRoad_27 (v := 0) rfl ?_
    refine g_sub [] rfl ?_
    exact wBX5_partPerRoad_28  X hQ  0  I J hf
  · rw [if_neg hc2] at hf
    refine g_aload_n X dX5_partPerRoad_11 1 rfl ?_
    refine g_get X dX5_partPerRoad_12 okC_60 cl5 1 (by decide) m_277 rfl ?_
    refine g_iload_n X dX5_partPerRoad_15 3 rfl ?_
    refine g_laload X dX5_partPerRoad_16 okC_61 hg1 ?_
    refine g_ldc2 X dX5_partPerRoad_17 m_694 ?_
    refine g_iload_n X dX5_partPerRoad_20 0 rfl ?_
    refine g_i2l X dX5_partPerRoad_21 ?_
    obtain ⟨hg3, hf⟩ := gd_some hf
    refine g_ldiv X dX5_partPerRoad_22 (of_decide_eq_true hg3) ?_
    refine g_lmul X dX5_partPerRoad_23 ?_
    refine g_goto X dX5_partPerRoad_24 (tgt := 28) (by decide) ?_
    refine g_sub [] rfl ?_
    exact wBX5_partPerRoad_28  X hQ  ((J 61 (Int32.toNatClampNeg x2)) * (840 / (Int32.toInt64 (I 7 (Int32.toNatClampNeg x2)))))  I J hf
set_option maxRecDepth 4000 in
theorem cX5_partPerRoad_ok (l : Launch) (V : VT) (x2 : Int32)  (I : aI) (J : aJ) {q : RT Int64} (hf : fX5_partPerRoad x2 I J = some q) : Met l yX5_partPerRoad (.code yX5_partPerRoad cX5_partPerRoad 4 (some .long) :: GG) (rmD 0) (va_Pc [.ref (V.2.2 60), .ref (V.2.2 3), .int x2] (cQ cS V I J)) (QL cS V q) 0 0 (vAd cS V) :=
  met_L (by decide +kernel) rfl (Nat.le_of_ble_eq_true rfl) (fun _ _ X hQ => wX5_partPerRoad X hQ x2  I J hf)
-- J7_fill_d0a16
set_option maxRecDepth 4000 in
theorem wHJ7_fill_d0a16_6 {M : MT} {V : VT}  (X : Cx M cS V cJ7_fill_d0a16 5 RJ7 none 0) {q : RT Unit} (hQ : PV M cS V q) (k6 : Nat → Nat → Int64 → Int32 → Int32 → aI → aJ → Option (RT Unit)) (hk6 : ∀ (e0 : Nat) (ne0 : Nat) (x1 : Int64) (x3 : Int32) (x4 : Int32) (he0 : okc cS e0 10 ne0) (I : aI) (J : aJ), k6 e0 ne0 x1 x3 x4 I J = some q → Wg M cS V 5 I J 6 [(0, .ref (V.2.2 e0)), (1, .long x1), (3, .int x3), (4, .int x4)] []) (e0 : Nat) (ne0 : Nat) (x1 : Int64) (x3 : Int32) (x4 : Int32) (he0 : okc cS e0 10 ne0) (I : aI) (J : aJ) (hf : HJ7_fill_d0a16_6  k6 e0 ne0 x1 x3 x4 I J = some q) : Wg M cS V 5 I J 6 [(0, .ref (V.2.2 e0)), (1, .long x1), (3, .int x3), (4, .int x4)] [] := by
  unfold HJ7_fill_d0a16_6 at hf
  refine g_iload_n X dJ7_fill_d0a16_6 2 rfl ?_
  refine g_iload X dJ7_fill_d0a16_7 3 rfl ?_
  refine g_icmp_ge X dJ7_fill_d0a16_9 (tgt := 22) (by decide) (fun hc1 => ?_) (fun hc1 => ?_)
  · rw [if_pos hc1] at hf
    cases hf
    exact g_vreturn X dJ7_fill_d0a16_22 hQ
  · rw [if_neg hc1] at hf
    refine g_aload_n X dJ7_fill_d0a16_12 0 rfl ?_
    refine g_iload_n X dJ7_fill_d0a16_13 2 rfl ?_
    refine g_lload_n X dJ7_fill_d0a16_14 1 rfl ?_
    obtain ⟨hg2, hf⟩ := gd_some hf
    refine g_lastore X dJ7_fill_d0a16_15 he0 hg2 ?_
    refine g_iinc X dJ7_fill_d0a16_16 2 rfl 1 rfl (by decide) [(3, .int (x3 + 1)), (0, .ref (V.2.2 e0)), (1, .long x1), (4, .int x4)] rfl ?_
    refine g_goto X dJ7_fill_d0a16_19 (tgt := 6) (by decide) ?_
    refine g_sub [1, 2, 0, 3] rfl ?_
    exact hk6 e0 ne0 x1 (x3 + 1) x4 he0 I (pJ J e0 (Int32.toNatClampNeg x3) x1) hf
set_option maxRecDepth 4000 in
theorem wLJ7_fill_d0a16_6 {M : MT} {V : VT}  (X : Cx M cS V cJ7_fill_d0a16 5 RJ7 none 0) {q : RT Unit} (hQ : PV M cS V q)  : ∀ (n : Nat) (e0 : Nat) (ne0 : Nat) (x1 : Int64) (x3 : Int32) (x4 : Int32) (he0 : okc cS e0 10 ne0) (I : aI) (J : aJ), LJ7_fill_d0a16_6   n e0 ne0 x1 x3 x4 I J = some q → Wg M cS V 5 I J 6 [(0, .ref (V.2.2 e0)), (1, .long x1), (3, .int x3), (4, .int x4)] [] := by
  intro n
  induction n with
  | zero => intro e0 ne0 x1 x3 x4 he0 I J hf; cases hf
  | succ n ih => intro e0 ne0 x1 x3 x4 he0 I J hf; exact wHJ7_fill_d0a16_6  X hQ  (LJ7_fill_d0a16_6   n) ih e0 ne0 x1 x3 x4 he0 I J hf
set_option maxRecDepth 4000 in
theorem wJ7_fill_d0a16 {M : MT} {V : VT} (X : Cx M cS V cJ7_fill_d0a16 5 RJ7 none 0) {q : RT Unit} (hQ : PV M cS V q) (e0 n0 : Nat) (x1 : Int64) (h0 : okc cS e0 10 n0) (I : aI) (J : aJ) (hf : fJ7_fill_d0a16 e0 n0 x1 I J = some q) : Wg M cS V 5 I J 0 [(0, .ref (V.2.2 e0)), (1, .long x1)] [] := by
  unfold fJ7_fill_d0a16 at hf
  refine g_iconst X dJ7_fill_d0a16_0 (v := 0) rfl ?_
  refine g_istore_n X dJ7_fill_d0a16_1 (by decide) [(3, .int 0), (0, .ref (V.2.2 e0)), (1, .long x1)] rfl ?_
  refine g_aload_n X dJ7_fill_d0a16_2 1 rfl ?_
  refine g_alenJ X dJ7_fill_d0a16_3 h0 ?_
  refine g_istore X dJ7_fill_d0a16_4 (by decide) [(4, .int (nI n0)), (3, .int 0), (0, .ref (V.2.2 e0)), (1, .long x1)] rfl ?_
  refine g_sub [2, 3, 1, 0] rfl ?_
  exact wLJ7_fill_d0a16_6  X hQ  128 e0 n0 x1 0 (nI n0) h0 I J hf
set_option maxRecDepth 4000 in
theorem cJ7_fill_d0a16_ok (l : Launch) (V : VT) (e0 n0 : Nat) (x1 : Int64) (h0 : okc cS e0 10 n0) (I : aI) (J : aJ) {q : RT Unit} (hf : fJ7_fill_d0a16 e0 n0 x1 I J = some q) : Met l yJ7_fill_d0a16 (.code yJ7_fill_d0a16 cJ7_fill_d0a16 5 none :: GG) (rmD 0) (va_Pc [.ref (V.2.2 e0), .long x1] (cQ cS V I J)) (QV cS V q) 0 0 (vAd cS V) :=
  met_V (by decide +kernel) rfl (Nat.le_of_ble_eq_true rfl) (fun _ _ X hQ => wJ7_fill_d0a16 X hQ e0 n0 x1 h0 I J hf)
-- X5_scatter
set_option maxRecDepth 4000 in
theorem wHX5_scatter_47 {M : MT} {V : VT}  (X : Cx M cS V cX5_scatter 5 RX5 none 1) {q : RT Unit} (hQ : PV M cS V q) (k47 : Int32 → aI → aJ → Option (RT Unit)) (hk47 : ∀ (x2 : Int32)  (I : aI) (J : aJ), k47 x2 I J = some q → Wg M cS V 5 I J 47 [(0, .ref (V.2.2 60)), (1, .ref (V.2.2 3)), (2, .int x2)] []) (x2 : Int32)  (I : aI) (J : aJ) (hf : HX5_scatter_47  k47 x2 I J = some q) : Wg M cS V 5 I J 47 [(0, .ref (V.2.2 60)), (1, .ref (V.2.2 3)), (2, .int x2)] [] := by
  unfold HX5_scatter_47 at hf
  refine g_iload_n X dX5_scatter_47 2 rfl ?_
  refine g_aload_n X dX5_scatter_48 1 rfl ?_
  refine g_get X dX5_scatter_49 okC_3 cl6 1 (by decide) m_136 rfl ?_
  refine g_icmp_ge X dX5_scatter_52 (tgt := 108) (by decide) (fun hc4 => ?_) (fun hc4 => ?_)
  · rw [if_pos hc4] at hf
    refine g_aload_n X dX5_scatter_108 0 rfl ?_
    refine g_get X dX5_scatter_109 okC_60 cl5 2 (by decide) m_278 rfl ?_
    refine g_iconst X dX5_scatter_112 (v := 0) rfl ?_
    refine g_aload_n X dX5_scatter_113 0 rfl ?_
    refine g_get X dX5_scatter_114 okC_60 cl5 1 (by decide) m_277 rfl ?_
    refine g_iconst X dX5_scatter_117 (v := 0) rfl ?_
    refine g_aload_n X dX5_scatter_118 1 rfl ?_
    refine g_get X dX5_scatter_119 okC_3 cl6 0 (by decide) m_133 rfl ?_
    obtain ⟨hg5, hf⟩ := gd_some hf
    refine g_copyJ X dX5_scatter_122 m_699 m_658 m_657 m_87 okC_62 okC_61 hg5 (by decide) ?_
    cases hf
    exact g_vreturn X dX5_scatter_125 hQ
  · rw [if_neg hc4] at hf
    refine g_aload_n X dX5_scatter_55 1 rfl ?_
    refine g_get X dX5_scatter_56 okC_3 cl6 2 (by decide) m_139 rfl ?_
    refine g_iload_n X dX5_scatter_59 2 rfl ?_
    obtain ⟨hg6, hf⟩ := gd_some hf
    refine g_iaload X dX5_scatter_60 okC_4 hg6 ?_
    refine g_istore_n X dX5_scatter_61 (by decide) [(3, .int (I 4 (Int32.toNatClampNeg x2))), (0, .ref (V.2.2 60)), (1, .ref (V.2.2 3)), (2, .int x2)] rfl ?_
    refine g_aload_n X dX5_scatter_62 2 rfl ?_
    refine g_get X dX5_scatter_63 okC_3 cl6 3 (by decide) m_142 rfl ?_
    refine g_iload_n X dX5_scatter_66 3 rfl ?_
    refine g_iaload X dX5_scatter_67 okC_5 hg6 ?_
    refine g_istore X dX5_scatter_68 (by decide) [(4, .int (I 5 (Int32.toNatClampNeg x2))), (3, .int (I 4 (Int32.toNatClampNeg x2))), (0, .ref (V.2.2 60)), (1, .ref (V.2.2 3)), (2, .int x2)] rfl ?_
    refine g_aload_n X dX5_scatter_70 2 rfl ?_
    refine g_get X dX5_scatter_71 okC_60 cl5 2 (by decide) m_278 rfl ?_
    refine g_iload X dX5_scatter_74 0 rfl ?_
    refine g_dup2 X dX5_scatter_76 rfl rfl ?_
    obtain ⟨hg7, hf⟩ := gd_some hf
    refine g_laload X dX5_scatter_77 okC_62 hg7 ?_
    refine g_aload_n X dX5_scatter_78 2 rfl ?_
    refine g_aload_n X dX5_scatter_79 3 rfl ?_
    refine g_iload_n X dX5_scatter_80 1 rfl ?_
    obtain ⟨r8, I8, J8, hb8, hf⟩ := bnd_some hf
    refine g_callV X dX5_scatter_81 cw_X5_57 (k := 60) (As := [.ref (V.2.2 3), .int (I 4 (Int32.toNatClampNeg x2))]) (rcv okC_60 cl5) rfl rfl (Nat.le_of_ble_eq_true rfl) (by decide) (cX5_partPerRoad_ok  M.2.1 V (I 4 (Int32.toNatClampNeg x2))  I J hb8) (kL ?_)
    refine g_ladd X dX5_scatter_84 ?_
    refine g_lastore X dX5_scatter_85 okC_62 hg7 ?_
    refine g_aload_n X dX5_scatter_86 2 rfl ?_
    refine g_get X dX5_scatter_87 okC_60 cl5 2 (by decide) m_278 rfl ?_
    refine g_iload_n X dX5_scatter_90 1 rfl ?_
    refine g_dup2 X dX5_scatter_91 rfl rfl ?_
    obtain ⟨hg9, hf⟩ := gd_some hf
    refine g_laload X dX5_scatter_92 okC_62 hg9 ?_
    refine g_aload_n X dX5_scatter_93 2 rfl ?_
    refine g_aload_n X dX5_scatter_94 3 rfl ?_
    refine g_iload X dX5_scatter_95 0 rfl ?_
    obtain ⟨r10, I10, J10, hb10, hf⟩ := bnd_some hf
    refine g_callV X dX5_scatter_97 cw_X5_57 (k := 60) (As := [.ref (V.2.2 3), .int (I 5 (Int32.toNatClampNeg x2))]) (rcv okC_60 cl5) rfl rfl (Nat.le_of_ble_eq_true rfl) (by decide) (cX5_partPerRoad_ok  M.2.1 V (I 5 (Int32.toNatClampNeg x2))  I8 (pJ J8 62 (Int32.toNatClampNeg (I 5 (Int32.toNatClampNeg x2))) ((J 62 (Int32.toNatClampNeg (I 5 (Int32.toNatClampNeg x2)))) + r8)) hb10) (kL ?_)
    refine g_ladd X dX5_scatter_100 ?_
    refine g_lastore X dX5_scatter_101 okC_62 hg9 ?_
    refine g_iinc X dX5_scatter_102 4 rfl 1 rfl (by decide) [(2, .int (x2 + 1)), (4, .int (I 5 (Int32.toNatClampNeg x2))), (3, .int (I 4 (Int32.toNatClampNeg x2))), (0, .ref (V.2.2 60)), (1, .ref (V.2.2 3))] rfl ?_
    refine g_goto X dX5_scatter_105 (tgt := 47) (by decide) ?_
    refine g_sub [3, 4, 0] rfl ?_
    exact hk47 (x2 + 1)  I10 (pJ J10 62 (Int32.toNatClampNeg (I 4 (Int32.toNatClampNeg x2))) (((pJ J8 62 (Int32.toNatClampNeg (I 5 (Int32.toNatClampNeg x2))) ((J 62 (Int32.toNatClampNeg (I 5 (Int32.toNatClampNeg x2)))) + r8)) 62 (Int32.toNatClampNeg (I 4 (Int32.toNatClampNeg x2)))) + r10)) hf
set_option maxRecDepth 4000 in
theorem wLX5_scatter_47 {M : MT} {V : VT}  (X : Cx M cS V cX5_scatter 5 RX5 none 1) {q : RT Unit} (hQ : PV M cS V q)  : ∀ (n : Nat) (x2 : Int32)  (I : aI) (J : aJ), LX5_scatter_47   n x2 I J = some q → Wg M cS V 5 I J 47 [(0, .ref (V.2.2 60)), (1, .ref (V.2.2 3)), (2, .int x2)] [] := by
  intro n
  induction n with
  | zero => intro x2  I J hf; cases hf
  | succ n ih => intro x2  I J hf; exact wHX5_scatter_47  X hQ  (LX5_scatter_47   n) ih x2  I J hf
set_option maxRecDepth 4000 in
theorem wBX5_scatter_38 {M : MT} {V : VT}  (X : Cx M cS V cX5_scatter 5 RX5 none 1) {q : RT Unit} (hQ : PV M cS V q) (k2 : Int32 → aI → aJ → Option (RT Unit)) (hk2 : ∀ (x2 : Int32)  (I : aI) (J : aJ), k2 x2 I J = some q → Wg M cS V 5 I J 2 [(0, .ref (V.2.2 60)), (1, .ref (V.2.2 3)), (2, .int x2)] []) (x2 : Int32) (s0 : Int64) (s1 : Int32)  (I : aI) (J : aJ) (hf : BX5_scatter_38  k2 x2 s0 s1 I J = some q) : Wg M cS V 5 I J 38 [(0, .ref (V.2.2 60)), (1, .ref (V.2.2 3)), (2, .int x2)] [.long s0, .int s1, .ref (V.2.2 62)] := by
  unfold BX5_scatter_38 at hf
  obtain ⟨hg11, hf⟩ := gd_some hf
  refine g_lastore X dX5_scatter_38 okC_62 hg11 ?_
  refine g_iinc X dX5_scatter_39 2 rfl 1 rfl (by decide) [(2, .int (x2 + 1)), (0, .ref (V.2.2 60)), (1, .ref (V.2.2 3))] rfl ?_
  refine g_goto X dX5_scatter_42 (tgt := 2) (by decide) ?_
  refine g_sub [1, 2, 0] rfl ?_
  exact hk2 (x2 + 1)  I (pJ J 62 (Int32.toNatClampNeg s1) s0) hf
set_option maxRecDepth 4000 in
theorem wHX5_scatter_2 {M : MT} {V : VT}  (X : Cx M cS V cX5_scatter 5 RX5 none 1) {q : RT Unit} (hQ : PV M cS V q) (k2 : Int32 → aI → aJ → Option (RT Unit)) (hk2 : ∀ (x2 : Int32)  (I : aI) (J : aJ), k2 x2 I J = some q → Wg M cS V 5 I J 2 [(0, .ref (V.2.2 60)), (1, .ref (V.2.2 3)), (2, .int x2)] []) (x2 : Int32)  (I : aI) (J : aJ) (hf : HX5_scatter_2  k2 x2 I J = some q) : Wg M cS V 5 I J 2 [(0, .ref (V.2.2 60)), (1, .ref (V.2.2 3)), (2, .int x2)] [] := by
  unfold HX5_scatter_2 at hf
  refine g_iload_n X dX5_scatter_2 2 rfl ?_
  refine g_aload_n X dX5_scatter_3 1 rfl ?_
  refine g_get X dX5_scatter_4 okC_3 cl6 0 (by decide) m_133 rfl ?_
  refine g_icmp_ge X dX5_scatter_7 (tgt := 45) (by decide) (fun hc1 => ?_) (fun hc1 => ?_)
  · rw [if_pos hc1] at hf
    refine g_iconst X dX5_scatter_45 (v := 0) rfl ?_
    refine g_istore_n X dX5_scatter_46 (by decide) [(2, .int 0), (0, .ref (V.2.2 60)), (1, .ref (V.2.2 3))] rfl ?_
    refine g_sub [1, 2, 0] rfl ?_
    exact wLX5_scatter_47  X hQ  128 0  I J hf
  · rw [if_neg hc1] at hf
    refine g_aload_n X dX5_scatter_10 0 rfl ?_
    refine g_get X dX5_scatter_11 okC_60 cl5 2 (by decide) m_278 rfl ?_
    refine g_iload_n X dX5_scatter_14 2 rfl ?_
    refine g_aload_n X dX5_scatter_15 1 rfl ?_
    refine g_get X dX5_scatter_16 okC_3 cl6 5 (by decide) m_148 rfl ?_
    refine g_iload_n X dX5_scatter_19 2 rfl ?_
    obtain ⟨hg2, hf⟩ := gd_some hf
    refine g_iaload X dX5_scatter_20 okC_7 hg2 ?_
    refine g_if_ne X dX5_scatter_21 (tgt := 37) (by decide) (fun hc3 => ?_) (fun hc3 => ?_)
    · rw [if_neg hc3] at hf
      refine g_lconst X dX5_scatter_37 (v := 0) rfl ?_
      exact wBX5_scatter_38  X hQ k2 hk2 x2 0 x2  I J hf
    · rw [if_pos hc3] at hf
      refine g_aload_n X dX5_scatter_24 0 rfl ?_
      refine g_get X dX5_scatter_25 okC_60 cl5 1 (by decide) m_277 rfl ?_
      refine g_iload_n X dX5_scatter_28 2 rfl ?_
      refine g_laload X dX5_scatter_29 okC_61 hg2 ?_
      refine g_ldc2 X dX5_scatter_30 m_694 ?_
      refine g_lmul X dX5_scatter_33 ?_
      refine g_goto X dX5_scatter_34 (tgt := 38) (by decide) ?_
      exact wBX5_scatter_38  X hQ k2 hk2 x2 ((J 61 (Int32.toNatClampNeg x2)) * 840) x2  I J hf
set_option maxRecDepth 4000 in
theorem wLX5_scatter_2 {M : MT} {V : VT}  (X : Cx M cS V cX5_scatter 5 RX5 none 1) {q : RT Unit} (hQ : PV M cS V q)  : ∀ (n : Nat) (x2 : Int32)  (I : aI) (J : aJ), LX5_scatter_2   n x2 I J = some q → Wg M cS V 5 I J 2 [(0, .ref (V.2.2 60)), (1, .ref (V.2.2 3)), (2, .int x2)] [] := by
  intro n
  induction n with
  | zero => intro x2  I J hf; cases hf
  | succ n ih => intro x2  I J hf; exact wHX5_scatter_2  X hQ  (LX5_scatter_2   n) ih x2  I J hf
set_option maxRecDepth 4000 in
theorem wX5_scatter {M : MT} {V : VT} (X : Cx M cS V cX5_scatter 5 RX5 none 1) {q : RT Unit} (hQ : PV M cS V q)   (I : aI) (J : aJ) (hf : fX5_scatter  I J = some q) : Wg M cS V 5 I J 0 [(0, .ref (V.2.2 60)), (1, .ref (V.2.2 3))] [] := by
  unfold fX5_scatter at hf
  refine g_iconst X dX5_scatter_0 (v := 0) rfl ?_
  refine g_istore_n X dX5_scatter_1 (by decide) [(2, .int 0), (0, .ref (V.2.2 60)), (1, .ref (V.2.2 3))] rfl ?_
  refine g_sub [1, 2, 0] rfl ?_
  exact wLX5_scatter_2  X hQ  128 0  I J hf
set_option maxRecDepth 4000 in
theorem cX5_scatter_ok (l : Launch) (V : VT)   (I : aI) (J : aJ) {q : RT Unit} (hf : fX5_scatter  I J = some q) : Met l yX5_scatter (.code yX5_scatter cX5_scatter 5 none :: GG) (rmD 1) (va_Pc [.ref (V.2.2 60), .ref (V.2.2 3)] (cQ cS V I J)) (QV cS V q) 0 0 (vAd cS V) :=
  met_V (by decide +kernel) rfl (Nat.le_of_ble_eq_true rfl) (fun _ _ X hQ => wX5_scatter X hQ   I J hf)
-- X5_run
set_option maxRecDepth 4000 in
theorem wHX5_run_23 {M : MT} {V : VT}  (X : Cx M cS V cX5_run 5 RX5 none 2) {q : RT Unit} (hQ : PV M cS V q) (k23 : Int32 → Int32 → aI → aJ → Option (RT Unit)) (hk23 : ∀ (x3 : Int32) (x4 : Int32)  (I : aI) (J : aJ), k23 x3 x4 I J = some q → Wg M cS V 5 I J 23 [(0, .ref (V.2.2 60)), (1, .ref (V.2.2 3)), (3, .int x3), (4, .int x4)] []) (x3 : Int32) (x4 : Int32)  (I : aI) (J : aJ) (hf : HX5_run_23  k23 x3 x4 I J = some q) : Wg M cS V 5 I J 23 [(0, .ref (V.2.2 60)), (1, .ref (V.2.2 3)), (3, .int x3), (4, .int x4)] [] := by
  unfold HX5_run_23 at hf
  refine g_iload X dX5_run_23 3 rfl ?_
  refine g_iload_n X dX5_run_25 2 rfl ?_
  refine g_icmp_ge X dX5_run_26 (tgt := 52) (by decide) (fun hc3 => ?_) (fun hc3 => ?_)
  · rw [if_pos hc3] at hf
    cases hf
    exact g_vreturn X dX5_run_52 hQ
  · rw [if_neg hc3] at hf
    refine g_aload_n X dX5_run_29 0 rfl ?_
    refine g_aload_n X dX5_run_30 1 rfl ?_
    obtain ⟨r4, I4, J4, hb4, hf⟩ := bnd_some hf
    refine g_callV X dX5_run_31 cw_X5_28 (k := 60) (As := [.ref (V.2.2 3)]) (rcv okC_60 cl5) rfl rfl (Nat.le_of_ble_eq_true rfl) (by decide) (cX5_scatter_ok  M.2.1 V   I J hb4) (kV ?_)
    refine g_aload_n X dX5_run_34 0 rfl ?_
    refine g_dup X dX5_run_35 rfl ?_
    refine g_get X dX5_run_36 okC_60 cl5 0 (by decide) m_276 rfl ?_
    refine g_ldc2 X dX5_run_39 m_694 ?_
    refine g_lmul X dX5_run_42 ?_
    refine g_putJ X dX5_run_43 okC_60 cl5 0 (by decide) m_276 rfl .long rfl rfl rfl (Nat.le_of_ble_eq_true rfl) (fun _ _ => rfl) ?_
    refine g_iinc X dX5_run_46 3 rfl 1 rfl (by decide) [(4, .int (x4 + 1)), (0, .ref (V.2.2 60)), (1, .ref (V.2.2 3)), (3, .int x3)] rfl ?_
    refine g_goto X dX5_run_49 (tgt := 23) (by decide) ?_
    refine g_sub [1, 2, 3, 0] rfl ?_
    exact hk23 x3 (x4 + 1)  I4 (pJ J4 60 0 ((J4 60 0) * 840)) hf
set_option maxRecDepth 4000 in
theorem wLX5_run_23 {M : MT} {V : VT}  (X : Cx M cS V cX5_run 5 RX5 none 2) {q : RT Unit} (hQ : PV M cS V q)  : ∀ (n : Nat) (x3 : Int32) (x4 : Int32)  (I : aI) (J : aJ), LX5_run_23   n x3 x4 I J = some q → Wg M cS V 5 I J 23 [(0, .ref (V.2.2 60)), (1, .ref (V.2.2 3)), (3, .int x3), (4, .int x4)] [] := by
  intro n
  induction n with
  | zero => intro x3 x4  I J hf; cases hf
  | succ n ih => intro x3 x4  I J hf; exact wHX5_run_23  X hQ  (LX5_run_23   n) ih x3 x4  I J hf
set_option maxRecDepth 4000 in
theorem wX5_run {M : MT} {V : VT} (X : Cx M cS V cX5_run 5 RX5 none 2) {q : RT Unit} (hQ : PV M cS V q) (x2 : Int32) (x3 : Int32)  (I : aI) (J : aJ) (hf : fX5_run x2 x3 I J = some q) : Wg M cS V 5 I J 0 [(0, .ref (V.2.2 60)), (1, .ref (V.2.2 3)), (2, .int x2), (3, .int x3)] [] := by
  unfold fX5_run at hf
  refine g_aload_n X dX5_run_0 0 rfl ?_
  refine g_get X dX5_run_1 okC_60 cl5 1 (by decide) m_277 rfl ?_
  refine g_lconst X dX5_run_4 (v := 0) rfl ?_
  obtain ⟨r1, I1, J1, hb1, hf⟩ := bnd_some hf
  refine g_callS X dX5_run_5 sw_X5_18 (As := [.ref (V.2.2 61), .long 0]) rfl rfl (Nat.le_of_ble_eq_true rfl) (by decide) (cJ7_fill_d0a16_ok  M.2.1 V 61 6 0 okC_61 I J hb1) (kV ?_)
  refine g_aload_n X dX5_run_8 0 rfl ?_
  refine g_get X dX5_run_9 okC_60 cl5 1 (by decide) m_277 rfl ?_
  refine g_iload_n X dX5_run_12 2 rfl ?_
  refine g_lconst X dX5_run_13 (v := 1) rfl ?_
  obtain ⟨hg2, hf⟩ := gd_some hf
  refine g_lastore X dX5_run_14 okC_61 hg2 ?_
  refine g_aload_n X dX5_run_15 0 rfl ?_
  refine g_lconst X dX5_run_16 (v := 1) rfl ?_
  refine g_putJ X dX5_run_17 okC_60 cl5 0 (by decide) m_276 rfl .long rfl rfl rfl (Nat.le_of_ble_eq_true rfl) (fun _ _ => rfl) ?_
  refine g_iconst X dX5_run_20 (v := 0) rfl ?_
  refine g_istore X dX5_run_21 (by decide) [(4, .int 0), (0, .ref (V.2.2 60)), (1, .ref (V.2.2 3)), (2, .int x2), (3, .int x3)] rfl ?_
  refine g_sub [1, 2, 4, 0] rfl ?_
  exact wLX5_run_23  X hQ  128 x3 0  I1 (pJ (pJ J1 61 (Int32.toNatClampNeg x2) 1) 60 0 1) hf
set_option maxRecDepth 4000 in
theorem cX5_run_ok (l : Launch) (V : VT) (x2 : Int32) (x3 : Int32)  (I : aI) (J : aJ) {q : RT Unit} (hf : fX5_run x2 x3 I J = some q) : Met l yX5_run (.code yX5_run cX5_run 5 none :: GG) (rmD 2) (va_Pc [.ref (V.2.2 60), .ref (V.2.2 3), .int x2, .int x3] (cQ cS V I J)) (QV cS V q) 0 0 (vAd cS V) :=
  met_V (by decide +kernel) rfl (Nat.le_of_ble_eq_true rfl) (fun _ _ X hQ => wX5_run X hQ x2 x3  I J hf)
-- X6_alongRoad
set_option maxRecDepth 4000 in
theorem wBX6_alongRoad_37 {M : MT} {V : VT}  (X : Cx M cS V cX6_alongRoad 3 RX6 (some .int) 0) {q : RT Int32} (hQ : PI M cS V q)  (s0 : Int32)  (I : aI) (J : aJ) (hf : BX6_alongRoad_37   s0 I J = some q) : Wg M cS V 3 I J 37 [] [.int s0] := by
  unfold BX6_alongRoad_37 at hf
  cases hf
  exact g_ireturn X dX6_alongRoad_37 hQ
set_option maxRecDepth 4000 in
theorem wX6_alongRoad {M : MT} {V : VT} (X : Cx M cS V cX6_alongRoad 3 RX6 (some .int) 0) {q : RT Int32} (hQ : PI M cS V q) (x1 : Int32) (x2 : Int32)  (I : aI) (J : aJ) (hf : fX6_alongRoad x1 x2 I J = some q) : Wg M cS V 3 I J 0 [(0, .ref (V.2.2 3)), (1, .int x1), (2, .int x2)] [] := by
  unfold fX6_alongRoad at hf
  refine g_aload_n X dX6_alongRoad_0 0 rfl ?_
  refine g_get X dX6_alongRoad_1 okC_3 cl6 2 (by decide) m_138 rfl ?_
  refine g_iload_n X dX6_alongRoad_4 1 rfl ?_
  obtain ⟨hg1, hf⟩ := gd_some hf
  refine g_iaload X dX6_alongRoad_5 okC_4 hg1 ?_
  refine g_iload_n X dX6_alongRoad_6 2 rfl ?_
  refine g_icmp_ne X dX6_alongRoad_7 (tgt := 17) (by decide) (fun hc2 => ?_) (fun hc2 => ?_)
  · rw [if_neg hc2] at hf
    refine g_aload_n X dX6_alongRoad_17 0 rfl ?_
    refine g_get X dX6_alongRoad_18 okC_3 cl6 3 (by decide) m_141 rfl ?_
    refine g_iload_n X dX6_alongRoad_21 1 rfl ?_
    refine g_iaload X dX6_alongRoad_22 okC_5 hg1 ?_
    refine g_iload_n X dX6_alongRoad_23 2 rfl ?_
    refine g_icmp_ne X dX6_alongRoad_24 (tgt := 36) (by decide) (fun hc3 => ?_) (fun hc3 => ?_)
    · rw [if_neg hc3] at hf
      refine g_iload_n X dX6_alongRoad_36 2 rfl ?_
      refine g_sub [] rfl ?_
      exact wBX6_alongRoad_37  X hQ  x2  I J hf
    · rw [if_pos hc3] at hf
      refine g_aload_n X dX6_alongRoad_27 0 rfl ?_
      refine g_get X dX6_alongRoad_28 okC_3 cl6 2 (by decide) m_138 rfl ?_
      refine g_iload_n X dX6_alongRoad_31 1 rfl ?_
      refine g_iaload X dX6_alongRoad_32 okC_4 hg1 ?_
      refine g_goto X dX6_alongRoad_33 (tgt := 37) (by decide) ?_
      refine g_sub [] rfl ?_
      exact wBX6_alongRoad_37  X hQ  (I 4 (Int32.toNatClampNeg x1))  I J hf
  · rw [if_pos hc2] at hf
    refine g_aload_n X dX6_alongRoad_10 0 rfl ?_
    refine g_get X dX6_alongRoad_11 okC_3 cl6 3 (by decide) m_141 rfl ?_
    refine g_iload_n X dX6_alongRoad_14 1 rfl ?_
    refine g_iaload X dX6_alongRoad_15 okC_5 hg1 ?_
    cases hf
    exact g_ireturn X dX6_alongRoad_16 hQ
set_option maxRecDepth 4000 in
theorem cX6_alongRoad_ok (l : Launch) (V : VT) (x1 : Int32) (x2 : Int32)  (I : aI) (J : aJ) {q : RT Int32} (hf : fX6_alongRoad x1 x2 I J = some q) : Met l yX6_alongRoad (.code yX6_alongRoad cX6_alongRoad 3 (some .int) :: GG) (rmD 0) (va_Pc [.ref (V.2.2 3), .int x1, .int x2] (cQ cS V I J)) (QI cS V q) 0 0 (vAd cS V) :=
  met_I (by decide +kernel) rfl (Nat.le_of_ble_eq_true rfl) (fun _ _ X hQ => wX6_alongRoad X hQ x1 x2  I J hf)
-- X6_layRoad
set_option maxRecDepth 4000 in
theorem wX6_layRoad {M : MT} {V : VT} (X : Cx M cS V cX6_layRoad 4 RX6 none 0) {q : RT Unit} (hQ : PV M cS V q) (x1 : Int32) (x2 : Int32) (x3 : Int32)  (I : aI) (J : aJ) (hf : fX6_layRoad x1 x2 x3 I J = some q) : Wg M cS V 4 I J 0 [(0, .ref (V.2.2 3)), (1, .int x1), (2, .int x2), (3, .int x3)] [] := by
  unfold fX6_layRoad at hf
  refine g_aload_n X dX6_layRoad_0 0 rfl ?_
  refine g_get X dX6_layRoad_1 okC_3 cl6 2 (by decide) m_138 rfl ?_
  refine g_iload_n X dX6_layRoad_4 1 rfl ?_
  refine g_iload_n X dX6_layRoad_5 2 rfl ?_
  obtain ⟨hg1, hf⟩ := gd_some hf
  refine g_iastore X dX6_layRoad_6 okC_4 hg1 ?_
  refine g_aload_n X dX6_layRoad_7 0 rfl ?_
  refine g_get X dX6_layRoad_8 okC_3 cl6 3 (by decide) m_141 rfl ?_
  refine g_iload_n X dX6_layRoad_11 1 rfl ?_
  refine g_iload_n X dX6_layRoad_12 3 rfl ?_
  refine g_iastore X dX6_layRoad_13 okC_5 hg1 ?_
  refine g_aload_n X dX6_layRoad_14 0 rfl ?_
  refine g_get X dX6_layRoad_15 okC_3 cl6 4 (by decide) m_144 rfl ?_
  refine g_iload_n X dX6_layRoad_18 2 rfl ?_
  refine g_dup2 X dX6_layRoad_19 rfl rfl ?_
  obtain ⟨hg2, hf⟩ := gd_some hf
  refine g_iaload X dX6_layRoad_20 okC_6 hg2 ?_
  refine g_iconst X dX6_layRoad_21 (v := 1) rfl ?_
  refine g_iload_n X dX6_layRoad_22 3 rfl ?_
  refine g_ishl X dX6_layRoad_23 ?_
  refine g_ior X dX6_layRoad_24 ?_
  refine g_iastore X dX6_layRoad_25 okC_6 hg2 ?_
  refine g_aload_n X dX6_layRoad_26 0 rfl ?_
  refine g_get X dX6_layRoad_27 okC_3 cl6 4 (by decide) m_144 rfl ?_
  refine g_iload_n X dX6_layRoad_30 3 rfl ?_
  refine g_dup2 X dX6_layRoad_31 rfl rfl ?_
  obtain ⟨hg3, hf⟩ := gd_some hf
  refine g_iaload X dX6_layRoad_32 okC_6 hg3 ?_
  refine g_iconst X dX6_layRoad_33 (v := 1) rfl ?_
  refine g_iload_n X dX6_layRoad_34 2 rfl ?_
  refine g_ishl X dX6_layRoad_35 ?_
  refine g_ior X dX6_layRoad_36 ?_
  refine g_iastore X dX6_layRoad_37 okC_6 hg3 ?_
  refine g_aload_n X dX6_layRoad_38 0 rfl ?_
  refine g_get X dX6_layRoad_39 okC_3 cl6 5 (by decide) m_147 rfl ?_
  refine g_iload_n X dX6_layRoad_42 2 rfl ?_
  refine g_dup2 X dX6_layRoad_43 rfl rfl ?_
  refine g_iaload X dX6_layRoad_44 okC_7 hg2 ?_
  refine g_iconst X dX6_layRoad_45 (v := 1) rfl ?_
  refine g_iadd X dX6_layRoad_46 ?_
  refine g_iastore X dX6_layRoad_47 okC_7 hg2 ?_
  refine g_aload_n X dX6_layRoad_48 0 rfl ?_
  refine g_get X dX6_layRoad_49 okC_3 cl6 5 (by decide) m_147 rfl ?_
  refine g_iload_n X dX6_layRoad_52 3 rfl ?_
  refine g_dup2 X dX6_layRoad_53 rfl rfl ?_
  refine g_iaload X dX6_layRoad_54 okC_7 hg3 ?_
  refine g_iconst X dX6_layRoad_55 (v := 1) rfl ?_
  refine g_iadd X dX6_layRoad_56 ?_
  refine g_iastore X dX6_layRoad_57 okC_7 hg3 ?_
  cases hf
  exact g_vreturn X dX6_layRoad_58 hQ
set_option maxRecDepth 4000 in
theorem cX6_layRoad_ok (l : Launch) (V : VT) (x1 : Int32) (x2 : Int32) (x3 : Int32)  (I : aI) (J : aJ) {q : RT Unit} (hf : fX6_layRoad x1 x2 x3 I J = some q) : Met l yX6_layRoad (.code yX6_layRoad cX6_layRoad 4 none :: GG) (rmD 0) (va_Pc [.ref (V.2.2 3), .int x1, .int x2, .int x3] (cQ cS V I J)) (QV cS V q) 0 0 (vAd cS V) :=
  met_V (by decide +kernel) rfl (Nat.le_of_ble_eq_true rfl) (fun _ _ X hQ => wX6_layRoad X hQ x1 x2 x3  I J hf)
-- X6_spread
set_option maxRecDepth 4000 in
theorem wBX6_spread_29 {M : MT} {V : VT}  (X : Cx M cS V cX6_spread 4 RX6 (some .int) 1) {q : RT Int32} (hQ : PI M cS V q) (k4 : Int32 → Int32 → Int32 → aI → aJ → Option (RT Int32)) (hk4 : ∀ (x1 : Int32) (x2 : Int32) (x3 : Int32)  (I : aI) (J : aJ), k4 x1 x2 x3 I J = some q → Wg M cS V 4 I J 4 [(0, .ref (V.2.2 3)), (1, .int x1), (2, .int x2), (3, .int x3)] []) (x1 : Int32) (x2 : Int32) (x3 : Int32)  (I : aI) (J : aJ) (hf : BX6_spread_29  k4 x1 x2 x3 I J = some q) : Wg M cS V 4 I J 29 [(0, .ref (V.2.2 3)), (1, .int x1), (2, .int x2), (3, .int x3)] [] := by
  unfold BX6_spread_29 at hf
  refine g_iinc X dX6_spread_29 3 rfl 1 rfl (by decide) [(3, .int (x3 + 1)), (0, .ref (V.2.2 3)), (1, .int x1), (2, .int x2)] rfl ?_
  refine g_goto X dX6_spread_32 (tgt := 4) (by decide) ?_
  refine g_sub [1, 2, 3, 0] rfl ?_
  exact hk4 x1 x2 (x3 + 1)  I J hf
set_option maxRecDepth 4000 in
theorem wHX6_spread_4 {M : MT} {V : VT}  (X : Cx M cS V cX6_spread 4 RX6 (some .int) 1) {q : RT Int32} (hQ : PI M cS V q) (k4 : Int32 → Int32 → Int32 → aI → aJ → Option (RT Int32)) (hk4 : ∀ (x1 : Int32) (x2 : Int32) (x3 : Int32)  (I : aI) (J : aJ), k4 x1 x2 x3 I J = some q → Wg M cS V 4 I J 4 [(0, .ref (V.2.2 3)), (1, .int x1), (2, .int x2), (3, .int x3)] []) (x1 : Int32) (x2 : Int32) (x3 : Int32)  (I : aI) (J : aJ) (hf : HX6_spread_4  k4 x1 x2 x3 I J = some q) : Wg M cS V 4 I J 4 [(0, .ref (V.2.2 3)), (1, .int x1), (2, .int x2), (3, .int x3)] [] := by
  unfold HX6_spread_4 at hf
  refine g_iload_n X dX6_spread_4 3 rfl ?_
  refine g_aload_n X dX6_spread_5 0 rfl ?_
  refine g_get X dX6_spread_6 okC_3 cl6 0 (by decide) m_131 rfl ?_
  refine g_icmp_ge X dX6_spread_9 (tgt := 35) (by decide) (fun hc1 => ?_) (fun hc1 => ?_)
  · rw [if_pos hc1] at hf
    refine g_iload_n X dX6_spread_35 2 rfl ?_
    cases hf
    exact g_ireturn X dX6_spread_36 hQ
  · rw [if_neg hc1] at hf
    refine g_iload_n X dX6_spread_12 1 rfl ?_
    refine g_iload_n X dX6_spread_13 3 rfl ?_
    obtain ⟨r2, I2, J2, hb2, hf⟩ := bnd_some hf
    refine g_callN X dX6_spread_14 nw_hasBit (fun U h => h.1.2.1) (As := [.int x1, .int x3]) rfl rfl (Nat.le_of_ble_eq_true rfl) (by decide) (cX7_hasBit_ok  M.2.1 V x1 x3  I J hb2) (kI ?_)
    refine g_if_eq X dX6_spread_17 (tgt := 29) (by decide) (fun hc3 => ?_) (fun hc3 => ?_)
    · rw [if_pos hc3] at hf
      exact wBX6_spread_29  X hQ k4 hk4 x1 x2 x3  I2 J2 hf
    · rw [if_neg hc3] at hf
      refine g_iload_n X dX6_spread_20 2 rfl ?_
      refine g_aload_n X dX6_spread_21 0 rfl ?_
      refine g_get X dX6_spread_22 okC_3 cl6 4 (by decide) m_144 rfl ?_
      refine g_iload_n X dX6_spread_25 3 rfl ?_
      obtain ⟨hg4, hf⟩ := gd_some hf
      refine g_iaload X dX6_spread_26 okC_6 hg4 ?_
      refine g_ior X dX6_spread_27 ?_
      refine g_istore_n X dX6_spread_28 (by decide) [(2, .int (x2 ||| (I2 6 (Int32.toNatClampNeg x3)))), (0, .ref (V.2.2 3)), (1, .int x1), (3, .int x3)] rfl ?_
      refine g_sub [1, 2, 0, 3] rfl ?_
      exact wBX6_spread_29  X hQ k4 hk4 x1 (x2 ||| (I2 6 (Int32.toNatClampNeg x3))) x3  I2 J2 hf
set_option maxRecDepth 4000 in
theorem wLX6_spread_4 {M : MT} {V : VT}  (X : Cx M cS V cX6_spread 4 RX6 (some .int) 1) {q : RT Int32} (hQ : PI M cS V q)  : ∀ (n : Nat) (x1 : Int32) (x2 : Int32) (x3 : Int32)  (I : aI) (J : aJ), LX6_spread_4   n x1 x2 x3 I J = some q → Wg M cS V 4 I J 4 [(0, .ref (V.2.2 3)), (1, .int x1), (2, .int x2), (3, .int x3)] [] := by
  intro n
  induction n with
  | zero => intro x1 x2 x3  I J hf; cases hf
  | succ n ih => intro x1 x2 x3  I J hf; exact wHX6_spread_4  X hQ  (LX6_spread_4   n) ih x1 x2 x3  I J hf
set_option maxRecDepth 4000 in
theorem wX6_spread {M : MT} {V : VT} (X : Cx M cS V cX6_spread 4 RX6 (some .int) 1) {q : RT Int32} (hQ : PI M cS V q) (x1 : Int32)  (I : aI) (J : aJ) (hf : fX6_spread x1 I J = some q) : Wg M cS V 4 I J 0 [(0, .ref (V.2.2 3)), (1, .int x1)] [] := by
  unfold fX6_spread at hf
  refine g_iconst X dX6_spread_0 (v := 0) rfl ?_
  refine g_istore_n X dX6_spread_1 (by decide) [(2, .int 0), (0, .ref (V.2.2 3)), (1, .int x1)] rfl ?_
  refine g_iconst X dX6_spread_2 (v := 0) rfl ?_
  refine g_istore_n X dX6_spread_3 (by decide) [(3, .int 0), (2, .int 0), (0, .ref (V.2.2 3)), (1, .int x1)] rfl ?_
  refine g_sub [2, 3, 1, 0] rfl ?_
  exact wLX6_spread_4  X hQ  128 x1 0 0  I J hf
set_option maxRecDepth 4000 in
theorem cX6_spread_ok (l : Launch) (V : VT) (x1 : Int32)  (I : aI) (J : aJ) {q : RT Int32} (hf : fX6_spread x1 I J = some q) : Met l yX6_spread (.code yX6_spread cX6_spread 4 (some .int) :: GG) (rmD 1) (va_Pc [.ref (V.2.2 3), .int x1] (cQ cS V I J)) (QI cS V q) 0 0 (vAd cS V) :=
  met_I (by decide +kernel) rfl (Nat.le_of_ble_eq_true rfl) (fun _ _ X hQ => wX6_spread X hQ x1  I J hf)
-- X6_measureSteps
set_option maxRecDepth 4000 in
theorem wBX6_measureSteps_76 {M : MT} {V : VT}  (X : Cx M cS V cX6_measureSteps 6 RX6 none 2) {q : RT Unit} (hQ : PV M cS V q) (k25 : Int32 → Int32 → Int32 → aI → aJ → Option (RT Unit)) (hk25 : ∀ (x1 : Int32) (x2 : Int32) (x3 : Int32)  (I : aI) (J : aJ), k25 x1 x2 x3 I J = some q → Wg M cS V 6 I J 25 [(0, .ref (V.2.2 3)), (1, .int x1), (2, .int x2), (3, .int x3)] []) (k47 : Int32 → Int32 → Int32 → Int32 → Int32 → aI → aJ → Option (RT Unit)) (hk47 : ∀ (x1 : Int32) (x2 : Int32) (x3 : Int32) (x4 : Int32) (x5 : Int32)  (I : aI) (J : aJ), k47 x1 x2 x3 x4 x5 I J = some q → Wg M cS V 6 I J 47 [(0, .ref (V.2.2 3)), (1, .int x1), (2, .int x2), (3, .int x3), (4, .int x4), (5, .int x5)] []) (x1 : Int32) (x2 : Int32) (x3 : Int32) (x4 : Int32) (x5 : Int32)  (I : aI) (J : aJ) (hf : BX6_measureSteps_76  k25 k47 x1 x2 x3 x4 x5 I J = some q) : Wg M cS V 6 I J 76 [(0, .ref (V.2.2 3)), (1, .int x1), (2, .int x2), (3, .int x3), (4, .int x4), (5, .int x5)] [] := by
  unfold BX6_measureSteps_76 at hf
  refine g_iinc X dX6_measureSteps_76 5 rfl 1 rfl (by decide) [(5, .int (x5 + 1)), (0, .ref (V.2.2 3)), (1, .int x1), (2, .int x2), (3, .int x3), (4, .int x4)] rfl ?_
  refine g_goto X dX6_measureSteps_79 (tgt := 47) (by decide) ?_
  refine g_sub [1, 2, 3, 4, 5, 0] rfl ?_
  exact hk47 x1 x2 x3 x4 (x5 + 1)  I J hf
set_option maxRecDepth 4000 in
theorem wHX6_measureSteps_47 {M : MT} {V : VT}  (X : Cx M cS V cX6_measureSteps 6 RX6 none 2) {q : RT Unit} (hQ : PV M cS V q) (k25 : Int32 → Int32 → Int32 → aI → aJ → Option (RT Unit)) (hk25 : ∀ (x1 : Int32) (x2 : Int32) (x3 : Int32)  (I : aI) (J : aJ), k25 x1 x2 x3 I J = some q → Wg M cS V 6 I J 25 [(0, .ref (V.2.2 3)), (1, .int x1), (2, .int x2), (3, .int x3)] []) (k47 : Int32 → Int32 → Int32 → Int32 → Int32 → aI → aJ → Option (RT Unit)) (hk47 : ∀ (x1 : Int32) (x2 : Int32) (x3 : Int32) (x4 : Int32) (x5 : Int32)  (I : aI) (J : aJ), k47 x1 x2 x3 x4 x5 I J = some q → Wg M cS V 6 I J 47 [(0, .ref (V.2.2 3)), (1, .int x1), (2, .int x2), (3, .int x3), (4, .int x4), (5, .int x5)] []) (x1 : Int32) (x2 : Int32) (x3 : Int32) (x4 : Int32) (x5 : Int32)  (I : aI) (J : aJ) (hf : HX6_measureSteps_47  k25 k47 x1 x2 x3 x4 x5 I J = some q) : Wg M cS V 6 I J 47 [(0, .ref (V.2.2 3)), (1, .int x1), (2, .int x2), (3, .int x3), (4, .int x4), (5, .int x5)] [] := by
  unfold HX6_measureSteps_47 at hf
  refine g_iload X dX6_measureSteps_47 5 rfl ?_
  refine g_aload_n X dX6_measureSteps_49 0 rfl ?_
  refine g_get X dX6_measureSteps_50 okC_3 cl6 0 (by decide) m_131 rfl ?_
  refine g_icmp_ge X dX6_measureSteps_53 (tgt := 82) (by decide) (fun hc5 => ?_) (fun hc5 => ?_)
  · rw [if_pos hc5] at hf
    refine g_iload_n X dX6_measureSteps_82 2 rfl ?_
    refine g_iload X dX6_measureSteps_83 4 rfl ?_
    refine g_ior X dX6_measureSteps_85 ?_
    refine g_istore_n X dX6_measureSteps_86 (by decide) [(2, .int (x2 ||| x4)), (0, .ref (V.2.2 3)), (1, .int x1), (3, .int x3), (4, .int x4), (5, .int x5)] rfl ?_
    refine g_iinc X dX6_measureSteps_87 3 rfl 1 rfl (by decide) [(3, .int (x3 + 1)), (2, .int (x2 ||| x4)), (0, .ref (V.2.2 3)), (1, .int x1), (4, .int x4), (5, .int x5)] rfl ?_
    refine g_goto X dX6_measureSteps_90 (tgt := 25) (by decide) ?_
    refine g_sub [2, 3, 1, 0] rfl ?_
    exact hk25 x1 (x2 ||| x4) (x3 + 1)  I J hf
  · rw [if_neg hc5] at hf
    refine g_iload X dX6_measureSteps_56 4 rfl ?_
    refine g_iload X dX6_measureSteps_58 5 rfl ?_
    obtain ⟨r6, I6, J6, hb6, hf⟩ := bnd_some hf
    refine g_callN X dX6_measureSteps_60 nw_hasBit (fun U h => h.1.2.1) (As := [.int x4, .int x5]) rfl rfl (Nat.le_of_ble_eq_true rfl) (by decide) (cX7_hasBit_ok  M.2.1 V x4 x5  I J hb6) (kI ?_)
    refine g_if_eq X dX6_measureSteps_63 (tgt := 76) (by decide) (fun hc7 => ?_) (fun hc7 => ?_)
    · rw [if_pos hc7] at hf
      exact wBX6_measureSteps_76  X hQ k25 hk25 k47 hk47 x1 x2 x3 x4 x5  I6 J6 hf
    · rw [if_neg hc7] at hf
      refine g_aload_n X dX6_measureSteps_66 0 rfl ?_
      refine g_get X dX6_measureSteps_67 okC_3 cl6 6 (by decide) m_149 rfl ?_
      refine g_iload_n X dX6_measureSteps_70 1 rfl ?_
      obtain ⟨hg8, hf⟩ := gd_some hf
      refine g_aaloadG X dX6_measureSteps_71 okC_8 hg8 ?_
      refine g_iload X dX6_measureSteps_72 5 rfl ?_
      refine g_iload_n X dX6_measureSteps_74 3 rfl ?_
      obtain ⟨hg9, hf⟩ := gd_some hf
      refine g_iastore X dX6_measureSteps_75 (ok_st hg8) hg9 ?_
      exact wBX6_measureSteps_76  X hQ k25 hk25 k47 hk47 x1 x2 x3 x4 x5  (pI I6 (8 + 1 + Int32.toNatClampNeg x1) (Int32.toNatClampNeg x5) x3) J6 hf
set_option maxRecDepth 4000 in
theorem wLX6_measureSteps_47 {M : MT} {V : VT}  (X : Cx M cS V cX6_measureSteps 6 RX6 none 2) {q : RT Unit} (hQ : PV M cS V q) (k25 : Int32 → Int32 → Int32 → aI → aJ → Option (RT Unit)) (hk25 : ∀ (x1 : Int32) (x2 : Int32) (x3 : Int32)  (I : aI) (J : aJ), k25 x1 x2 x3 I J = some q → Wg M cS V 6 I J 25 [(0, .ref (V.2.2 3)), (1, .int x1), (2, .int x2), (3, .int x3)] []) : ∀ (n : Nat) (x1 : Int32) (x2 : Int32) (x3 : Int32) (x4 : Int32) (x5 : Int32)  (I : aI) (J : aJ), LX6_measureSteps_47  k25 n x1 x2 x3 x4 x5 I J = some q → Wg M cS V 6 I J 47 [(0, .ref (V.2.2 3)), (1, .int x1), (2, .int x2), (3, .int x3), (4, .int x4), (5, .int x5)] [] := by
  intro n
  induction n with
  | zero => intro x1 x2 x3 x4 x5  I J hf; cases hf
  | succ n ih => intro x1 x2 x3 x4 x5  I J hf; exact wHX6_measureSteps_47  X hQ k25 hk25 (LX6_measureSteps_47  k25 n) ih x1 x2 x3 x4 x5  I J hf
set_option maxRecDepth 4000 in
theorem wHX6_measureSteps_25 {M : MT} {V : VT}  (X : Cx M cS V cX6_measureSteps 6 RX6 none 2) {q : RT Unit} (hQ : PV M cS V q) (k25 : Int32 → Int32 → Int32 → aI → aJ → Option (RT Unit)) (hk25 : ∀ (x1 : Int32) (x2 : Int32) (x3 : Int32)  (I : aI) (J : aJ), k25 x1 x2 x3 I J = some q → Wg M cS V 6 I J 25 [(0, .ref (V.2.2 3)), (1, .int x1), (2, .int x2), (3, .int x3)] []) (x1 : Int32) (x2 : Int32) (x3 : Int32)  (I : aI) (J : aJ) (hf : HX6_measureSteps_25  k25 x1 x2 x3 I J = some q) : Wg M cS V 6 I J 25 [(0, .ref (V.2.2 3)), (1, .int x1), (2, .int x2), (3, .int x3)] [] := by
  unfold HX6_measureSteps_25 at hf
  refine g_iload_n X dX6_measureSteps_25 3 rfl ?_
  refine g_aload_n X dX6_measureSteps_26 0 rfl ?_
  refine g_get X dX6_measureSteps_27 okC_3 cl6 0 (by decide) m_131 rfl ?_
  refine g_icmp_ge X dX6_measureSteps_30 (tgt := 93) (by decide) (fun hc3 => ?_) (fun hc3 => ?_)
  · rw [if_pos hc3] at hf
    cases hf
    exact g_vreturn X dX6_measureSteps_93 hQ
  · rw [if_neg hc3] at hf
    refine g_aload_n X dX6_measureSteps_33 0 rfl ?_
    refine g_iload_n X dX6_measureSteps_34 2 rfl ?_
    obtain ⟨r4, I4, J4, hb4, hf⟩ := bnd_some hf
    refine g_callV X dX6_measureSteps_35 cw_X6_66 (k := 3) (As := [.int x2]) (rcv okC_3 cl6) rfl rfl (Nat.le_of_ble_eq_true rfl) (by decide) (cX6_spread_ok  M.2.1 V x2  I J hb4) (kI ?_)
    refine g_iload_n X dX6_measureSteps_38 2 rfl ?_
    refine g_iconst X dX6_measureSteps_39 (v := (-1)) rfl ?_
    refine g_ixor X dX6_measureSteps_40 ?_
    refine g_iand X dX6_measureSteps_41 ?_
    refine g_istore X dX6_measureSteps_42 (by decide) [(4, .int (r4 &&& (x2 ^^^ (-1)))), (0, .ref (V.2.2 3)), (1, .int x1), (2, .int x2), (3, .int x3)] rfl ?_
    refine g_iconst X dX6_measureSteps_44 (v := 0) rfl ?_
    refine g_istore X dX6_measureSteps_45 (by decide) [(5, .int 0), (4, .int (r4 &&& (x2 ^^^ (-1)))), (0, .ref (V.2.2 3)), (1, .int x1), (2, .int x2), (3, .int x3)] rfl ?_
    refine g_sub [2, 3, 4, 5, 1, 0] rfl ?_
    exact wLX6_measureSteps_47  X hQ k25 hk25 128 x1 x2 x3 (r4 &&& (x2 ^^^ (-1))) 0  I4 J4 hf
set_option maxRecDepth 4000 in
theorem wLX6_measureSteps_25 {M : MT} {V : VT}  (X : Cx M cS V cX6_measureSteps 6 RX6 none 2) {q : RT Unit} (hQ : PV M cS V q)  : ∀ (n : Nat) (x1 : Int32) (x2 : Int32) (x3 : Int32)  (I : aI) (J : aJ), LX6_measureSteps_25   n x1 x2 x3 I J = some q → Wg M cS V 6 I J 25 [(0, .ref (V.2.2 3)), (1, .int x1), (2, .int x2), (3, .int x3)] [] := by
  intro n
  induction n with
  | zero => intro x1 x2 x3  I J hf; cases hf
  | succ n ih => intro x1 x2 x3  I J hf; exact wHX6_measureSteps_25  X hQ  (LX6_measureSteps_25   n) ih x1 x2 x3  I J hf
set_option maxRecDepth 4000 in
theorem wX6_measureSteps {M : MT} {V : VT} (X : Cx M cS V cX6_measureSteps 6 RX6 none 2) {q : RT Unit} (hQ : PV M cS V q) (x1 : Int32)  (I : aI) (J : aJ) (hf : fX6_measureSteps x1 I J = some q) : Wg M cS V 6 I J 0 [(0, .ref (V.2.2 3)), (1, .int x1)] [] := by
  unfold fX6_measureSteps at hf
  refine g_aload_n X dX6_measureSteps_0 0 rfl ?_
  refine g_get X dX6_measureSteps_1 okC_3 cl6 6 (by decide) m_149 rfl ?_
  refine g_iload_n X dX6_measureSteps_4 1 rfl ?_
  obtain ⟨hg1, hf⟩ := gd_some hf
  refine g_aaloadG X dX6_measureSteps_5 okC_8 hg1 ?_
  refine g_iconst X dX6_measureSteps_6 (v := (-1)) rfl ?_
  obtain ⟨r2, I2, J2, hb2, hf⟩ := bnd_some hf
  refine g_callS X dX6_measureSteps_7 sw_X6_60 (As := [.ref (V.2.2 (8 + 1 + Int32.toNatClampNeg x1)), .int (-1)]) rfl rfl (Nat.le_of_ble_eq_true rfl) (by decide) (cJ7_fill_53178_ok  M.2.1 V (8 + 1 + Int32.toNatClampNeg x1) 6 (-1) (ok_st hg1) I J hb2) (kV ?_)
  refine g_iconst X dX6_measureSteps_10 (v := 1) rfl ?_
  refine g_iload_n X dX6_measureSteps_11 1 rfl ?_
  refine g_ishl X dX6_measureSteps_12 ?_
  refine g_istore_n X dX6_measureSteps_13 (by decide) [(2, .int (1 <<< (x1 &&& 31))), (0, .ref (V.2.2 3)), (1, .int x1)] rfl ?_
  refine g_aload_n X dX6_measureSteps_14 1 rfl ?_
  refine g_get X dX6_measureSteps_15 okC_3 cl6 6 (by decide) m_149 rfl ?_
  refine g_iload_n X dX6_measureSteps_18 2 rfl ?_
  refine g_aaloadG X dX6_measureSteps_19 okC_8 hg1 ?_
  refine g_iload_n X dX6_measureSteps_20 2 rfl ?_
  refine g_iconst X dX6_measureSteps_21 (v := 0) rfl ?_
  refine g_iastore X dX6_measureSteps_22 (ok_st hg1) hg1 ?_
  refine g_iconst X dX6_measureSteps_23 (v := 1) rfl ?_
  refine g_istore_n X dX6_measureSteps_24 (by decide) [(3, .int 1), (2, .int (1 <<< (x1 &&& 31))), (0, .ref (V.2.2 3)), (1, .int x1)] rfl ?_
  refine g_sub [2, 3, 1, 0] rfl ?_
  exact wLX6_measureSteps_25  X hQ  128 x1 (1 <<< (x1 &&& 31)) 1  (pI I2 (8 + 1 + Int32.toNatClampNeg x1) (Int32.toNatClampNeg x1) 0) J2 hf
set_option maxRecDepth 4000 in
theorem cX6_measureSteps_ok (l : Launch) (V : VT) (x1 : Int32)  (I : aI) (J : aJ) {q : RT Unit} (hf : fX6_measureSteps x1 I J = some q) : Met l yX6_measureSteps (.code yX6_measureSteps cX6_measureSteps 6 none :: GG) (rmD 2) (va_Pc [.ref (V.2.2 3), .int x1] (cQ cS V I J)) (QV cS V q) 0 0 (vAd cS V) :=
  met_V (by decide +kernel) rfl (Nat.le_of_ble_eq_true rfl) (fun _ _ X hQ => wX6_measureSteps X hQ x1  I J hf)
-- X6_canAnswer
set_option maxRecDepth 4000 in
theorem wBX6_canAnswer_51 {M : MT} {V : VT}  (X : Cx M cS V cX6_canAnswer 6 RX6 (some .boolean) 1) {q : RT Int32} (hQ : PI M cS V q) (k3 : Int32 → Int32 → Int32 → Int32 → aI → aJ → Option (RT Int32)) (hk3 : ∀ (x1 : Int32) (x2 : Int32) (x3 : Int32) (x4 : Int32)  (I : aI) (J : aJ), k3 x1 x2 x3 x4 I J = some q → Wg M cS V 6 I J 3 [(0, .ref (V.2.2 3)), (1, .int x1), (2, .int x2), (3, .int x3), (4, .int x4)] []) (x1 : Int32) (x2 : Int32) (x3 : Int32) (x4 : Int32)  (I : aI) (J : aJ) (hf : BX6_canAnswer_51  k3 x1 x2 x3 x4 I J = some q) : Wg M cS V 6 I J 51 [(0, .ref (V.2.2 3)), (1, .int x1), (2, .int x2), (3, .int x3), (4, .int x4)] [] := by
  unfold BX6_canAnswer_51 at hf
  refine g_iinc X dX6_canAnswer_51 4 rfl 1 rfl (by decide) [(4, .int (x4 + 1)), (0, .ref (V.2.2 3)), (1, .int x1), (2, .int x2), (3, .int x3)] rfl ?_
  refine g_goto X dX6_canAnswer_54 (tgt := 3) (by decide) ?_
  refine g_sub [1, 2, 3, 4, 0] rfl ?_
  exact hk3 x1 x2 x3 (x4 + 1)  I J hf
set_option maxRecDepth 4000 in
theorem wHX6_canAnswer_3 {M : MT} {V : VT}  (X : Cx M cS V cX6_canAnswer 6 RX6 (some .boolean) 1) {q : RT Int32} (hQ : PI M cS V q) (k3 : Int32 → Int32 → Int32 → Int32 → aI → aJ → Option (RT Int32)) (hk3 : ∀ (x1 : Int32) (x2 : Int32) (x3 : Int32) (x4 : Int32)  (I : aI) (J : aJ), k3 x1 x2 x3 x4 I J = some q → Wg M cS V 6 I J 3 [(0, .ref (V.2.2 3)), (1, .int x1), (2, .int x2), (3, .int x3), (4, .int x4)] []) (x1 : Int32) (x2 : Int32) (x3 : Int32) (x4 : Int32)  (I : aI) (J : aJ) (hf : HX6_canAnswer_3  k3 x1 x2 x3 x4 I J = some q) : Wg M cS V 6 I J 3 [(0, .ref (V.2.2 3)), (1, .int x1), (2, .int x2), (3, .int x3), (4, .int x4)] [] := by
  unfold HX6_canAnswer_3 at hf
  refine g_iload X dX6_canAnswer_3 4 rfl ?_
  refine g_aload_n X dX6_canAnswer_5 0 rfl ?_
  refine g_get X dX6_canAnswer_6 okC_3 cl6 0 (by decide) m_131 rfl ?_
  refine g_icmp_ge X dX6_canAnswer_9 (tgt := 57) (by decide) (fun hc1 => ?_) (fun hc1 => ?_)
  · rw [if_pos hc1] at hf
    refine g_iconst X dX6_canAnswer_57 (v := 0) rfl ?_
    cases hf
    exact g_zreturn X dX6_canAnswer_58 (Or.inl rfl) hQ
  · rw [if_neg hc1] at hf
    refine g_aload_n X dX6_canAnswer_12 0 rfl ?_
    refine g_get X dX6_canAnswer_13 okC_3 cl6 7 (by decide) m_151 rfl ?_
    refine g_iload_n X dX6_canAnswer_16 1 rfl ?_
    obtain ⟨hg2, hf⟩ := gd_some hf
    refine g_aaloadG X dX6_canAnswer_17 okC_15 hg2 ?_
    refine g_iload X dX6_canAnswer_18 4 rfl ?_
    obtain ⟨hg3, hf⟩ := gd_some hf
    refine g_iaload X dX6_canAnswer_20 (ok_ct hg2) hg3 ?_
    refine g_istore X dX6_canAnswer_21 (by decide) [(5, .int (I (15 + 1 + Int32.toNatClampNeg x1) (Int32.toNatClampNeg x4))), (0, .ref (V.2.2 3)), (1, .int x1), (2, .int x2), (3, .int x3), (4, .int x4)] rfl ?_
    refine g_aload_n X dX6_canAnswer_23 1 rfl ?_
    refine g_get X dX6_canAnswer_24 okC_3 cl6 4 (by decide) m_144 rfl ?_
    refine g_iload_n X dX6_canAnswer_27 3 rfl ?_
    obtain ⟨hg4, hf⟩ := gd_some hf
    refine g_iaload X dX6_canAnswer_28 okC_6 hg4 ?_
    refine g_iload X dX6_canAnswer_29 5 rfl ?_
    obtain ⟨r5, I5, J5, hb5, hf⟩ := bnd_some hf
    refine g_callN X dX6_canAnswer_31 nw_hasBit (fun U h => h.1.2.1) (As := [.int (I 6 (Int32.toNatClampNeg x2)), .int x4]) rfl rfl (Nat.le_of_ble_eq_true rfl) (by decide) (cX7_hasBit_ok  M.2.1 V (I 6 (Int32.toNatClampNeg x2)) x4  I J hb5) (kI ?_)
    refine g_if_eq X dX6_canAnswer_34 (tgt := 51) (by decide) (fun hc6 => ?_) (fun hc6 => ?_)
    · rw [if_pos hc6] at hf
      refine g_sub [1, 2, 3, 4, 5] rfl ?_
      exact wBX6_canAnswer_51  X hQ k3 hk3 x1 x2 x3 x4  I5 J5 hf
    · rw [if_neg hc6] at hf
      refine g_iload X dX6_canAnswer_37 0 rfl ?_
      refine g_iconst X dX6_canAnswer_39 (v := (-1)) rfl ?_
      refine g_icmp_eq X dX6_canAnswer_40 (tgt := 51) (by decide) (fun hc7 => ?_) (fun hc7 => ?_)
      · rw [if_pos hc7] at hf
        refine g_sub [1, 2, 3, 4, 5] rfl ?_
        exact wBX6_canAnswer_51  X hQ k3 hk3 x1 x2 x3 x4  I5 J5 hf
      · rw [if_neg hc7] at hf
        refine g_iload X dX6_canAnswer_43 0 rfl ?_
        refine g_iload_n X dX6_canAnswer_45 4 rfl ?_
        refine g_icmp_ge X dX6_canAnswer_46 (tgt := 51) (by decide) (fun hc8 => ?_) (fun hc8 => ?_)
        · rw [if_pos hc8] at hf
          refine g_sub [1, 2, 3, 4, 5] rfl ?_
          exact wBX6_canAnswer_51  X hQ k3 hk3 x1 x2 x3 x4  I5 J5 hf
        · rw [if_neg hc8] at hf
          refine g_iconst X dX6_canAnswer_49 (v := 1) rfl ?_
          cases hf
          exact g_zreturn X dX6_canAnswer_50 (Or.inr rfl) hQ
set_option maxRecDepth 4000 in
theorem wLX6_canAnswer_3 {M : MT} {V : VT}  (X : Cx M cS V cX6_canAnswer 6 RX6 (some .boolean) 1) {q : RT Int32} (hQ : PI M cS V q)  : ∀ (n : Nat) (x1 : Int32) (x2 : Int32) (x3 : Int32) (x4 : Int32)  (I : aI) (J : aJ), LX6_canAnswer_3   n x1 x2 x3 x4 I J = some q → Wg M cS V 6 I J 3 [(0, .ref (V.2.2 3)), (1, .int x1), (2, .int x2), (3, .int x3), (4, .int x4)] [] := by
  intro n
  induction n with
  | zero => intro x1 x2 x3 x4  I J hf; cases hf
  | succ n ih => intro x1 x2 x3 x4  I J hf; exact wHX6_canAnswer_3  X hQ  (LX6_canAnswer_3   n) ih x1 x2 x3 x4  I J hf
set_option maxRecDepth 4000 in
theorem wX6_canAnswer {M : MT} {V : VT} (X : Cx M cS V cX6_canAnswer 6 RX6 (some .boolean) 1) {q : RT Int32} (hQ : PI M cS V q) (x1 : Int32) (x2 : Int32) (x3 : Int32)  (I : aI) (J : aJ) (hf : fX6_canAnswer x1 x2 x3 I J = some q) : Wg M cS V 6 I J 0 [(0, .ref (V.2.2 3)), (1, .int x1), (2, .int x2), (3, .int x3)] [] := by
  unfold fX6_canAnswer at hf
  refine g_iconst X dX6_canAnswer_0 (v := 0) rfl ?_
  refine g_istore X dX6_canAnswer_1 (by decide) [(4, .int 0), (0, .ref (V.2.2 3)), (1, .int x1), (2, .int x2), (3, .int x3)] rfl ?_
  refine g_sub [1, 2, 3, 4, 0] rfl ?_
  exact wLX6_canAnswer_3  X hQ  128 x1 x2 x3 0  I J hf
set_option maxRecDepth 4000 in
theorem cX6_canAnswer_ok (l : Launch) (V : VT) (x1 : Int32) (x2 : Int32) (x3 : Int32)  (I : aI) (J : aJ) {q : RT Int32} (hf : fX6_canAnswer x1 x2 x3 I J = some q) : Met l yX6_canAnswer (.code yX6_canAnswer cX6_canAnswer 6 (some .boolean) :: GG) (rmD 1) (va_Pc [.ref (V.2.2 3), .int x1, .int x2, .int x3] (cQ cS V I J)) (QI cS V q) 0 0 (vAd cS V) :=
  met_I (by decide +kernel) rfl (Nat.le_of_ble_eq_true rfl) (fun _ _ X hQ => wX6_canAnswer X hQ x1 x2 x3  I J hf)
-- X6_isCaught
set_option maxRecDepth 4000 in
theorem wBX6_isCaught_39 {M : MT} {V : VT}  (X : Cx M cS V cX6_isCaught 5 RX6 (some .boolean) 2) {q : RT Int32} (hQ : PI M cS V q) (k3 : Int32 → Int32 → Int32 → Int32 → aI → aJ → Option (RT Int32)) (hk3 : ∀ (x1 : Int32) (x2 : Int32) (x3 : Int32) (x4 : Int32)  (I : aI) (J : aJ), k3 x1 x2 x3 x4 I J = some q → Wg M cS V 5 I J 3 [(0, .ref (V.2.2 3)), (1, .int x1), (2, .int x2), (3, .int x3), (4, .int x4)] []) (x1 : Int32) (x2 : Int32) (x3 : Int32) (x4 : Int32)  (I : aI) (J : aJ) (hf : BX6_isCaught_39  k3 x1 x2 x3 x4 I J = some q) : Wg M cS V 5 I J 39 [(0, .ref (V.2.2 3)), (1, .int x1), (2, .int x2), (3, .int x3), (4, .int x4)] [] := by
  unfold BX6_isCaught_39 at hf
  refine g_iinc X dX6_isCaught_39 4 rfl 1 rfl (by decide) [(4, .int (x4 + 1)), (0, .ref (V.2.2 3)), (1, .int x1), (2, .int x2), (3, .int x3)] rfl ?_
  refine g_goto X dX6_isCaught_42 (tgt := 3) (by decide) ?_
  refine g_sub [1, 2, 3, 4, 0] rfl ?_
  exact hk3 x1 x2 x3 (x4 + 1)  I J hf
set_option maxRecDepth 4000 in
theorem wHX6_isCaught_3 {M : MT} {V : VT}  (X : Cx M cS V cX6_isCaught 5 RX6 (some .boolean) 2) {q : RT Int32} (hQ : PI M cS V q) (k3 : Int32 → Int32 → Int32 → Int32 → aI → aJ → Option (RT Int32)) (hk3 : ∀ (x1 : Int32) (x2 : Int32) (x3 : Int32) (x4 : Int32)  (I : aI) (J : aJ), k3 x1 x2 x3 x4 I J = some q → Wg M cS V 5 I J 3 [(0, .ref (V.2.2 3)), (1, .int x1), (2, .int x2), (3, .int x3), (4, .int x4)] []) (x1 : Int32) (x2 : Int32) (x3 : Int32) (x4 : Int32)  (I : aI) (J : aJ) (hf : HX6_isCaught_3  k3 x1 x2 x3 x4 I J = some q) : Wg M cS V 5 I J 3 [(0, .ref (V.2.2 3)), (1, .int x1), (2, .int x2), (3, .int x3), (4, .int x4)] [] := by
  unfold HX6_isCaught_3 at hf
  refine g_iload X dX6_isCaught_3 4 rfl ?_
  refine g_aload_n X dX6_isCaught_5 0 rfl ?_
  refine g_get X dX6_isCaught_6 okC_3 cl6 0 (by decide) m_131 rfl ?_
  refine g_icmp_ge X dX6_isCaught_9 (tgt := 45) (by decide) (fun hc1 => ?_) (fun hc1 => ?_)
  · rw [if_pos hc1] at hf
    refine g_iconst X dX6_isCaught_45 (v := 1) rfl ?_
    cases hf
    exact g_zreturn X dX6_isCaught_46 (Or.inr rfl) hQ
  · rw [if_neg hc1] at hf
    refine g_aload_n X dX6_isCaught_12 0 rfl ?_
    refine g_get X dX6_isCaught_13 okC_3 cl6 4 (by decide) m_144 rfl ?_
    refine g_iload_n X dX6_isCaught_16 1 rfl ?_
    obtain ⟨hg2, hf⟩ := gd_some hf
    refine g_iaload X dX6_isCaught_17 okC_6 hg2 ?_
    refine g_iload X dX6_isCaught_18 4 rfl ?_
    obtain ⟨r3, I3, J3, hb3, hf⟩ := bnd_some hf
    refine g_callN X dX6_isCaught_20 nw_hasBit (fun U h => h.1.2.1) (As := [.int (I 6 (Int32.toNatClampNeg x1)), .int x4]) rfl rfl (Nat.le_of_ble_eq_true rfl) (by decide) (cX7_hasBit_ok  M.2.1 V (I 6 (Int32.toNatClampNeg x1)) x4  I J hb3) (kI ?_)
    refine g_if_eq X dX6_isCaught_23 (tgt := 39) (by decide) (fun hc4 => ?_) (fun hc4 => ?_)
    · rw [if_pos hc4] at hf
      exact wBX6_isCaught_39  X hQ k3 hk3 x1 x2 x3 x4  I3 J3 hf
    · rw [if_neg hc4] at hf
      refine g_aload_n X dX6_isCaught_26 0 rfl ?_
      refine g_iload X dX6_isCaught_27 4 rfl ?_
      refine g_iload_n X dX6_isCaught_29 2 rfl ?_
      refine g_iload_n X dX6_isCaught_30 3 rfl ?_
      obtain ⟨r5, I5, J5, hb5, hf⟩ := bnd_some hf
      refine g_callV X dX6_isCaught_31 cw_X6_81 (k := 3) (As := [.int x4, .int x2, .int x3]) (rcv okC_3 cl6) rfl rfl (Nat.le_of_ble_eq_true rfl) (by decide) (cX6_canAnswer_ok  M.2.1 V x4 x2 x3  I3 J3 hb5) (kI ?_)
      refine g_if_ne X dX6_isCaught_34 (tgt := 39) (by decide) (fun hc6 => ?_) (fun hc6 => ?_)
      · rw [if_neg hc6] at hf
        exact wBX6_isCaught_39  X hQ k3 hk3 x1 x2 x3 x4  I5 J5 hf
      · rw [if_pos hc6] at hf
        refine g_iconst X dX6_isCaught_37 (v := 0) rfl ?_
        cases hf
        exact g_zreturn X dX6_isCaught_38 (Or.inl rfl) hQ
set_option maxRecDepth 4000 in
theorem wLX6_isCaught_3 {M : MT} {V : VT}  (X : Cx M cS V cX6_isCaught 5 RX6 (some .boolean) 2) {q : RT Int32} (hQ : PI M cS V q)  : ∀ (n : Nat) (x1 : Int32) (x2 : Int32) (x3 : Int32) (x4 : Int32)  (I : aI) (J : aJ), LX6_isCaught_3   n x1 x2 x3 x4 I J = some q → Wg M cS V 5 I J 3 [(0, .ref (V.2.2 3)), (1, .int x1), (2, .int x2), (3, .int x3), (4, .int x4)] [] := by
  intro n
  induction n with
  | zero => intro x1 x2 x3 x4  I J hf; cases hf
  | succ n ih => intro x1 x2 x3 x4  I J hf; exact wHX6_isCaught_3  X hQ  (LX6_isCaught_3   n) ih x1 x2 x3 x4  I J hf
set_option maxRecDepth 4000 in
theorem wX6_isCaught {M : MT} {V : VT} (X : Cx M cS V cX6_isCaught 5 RX6 (some .boolean) 2) {q : RT Int32} (hQ : PI M cS V q) (x1 : Int32) (x2 : Int32) (x3 : Int32)  (I : aI) (J : aJ) (hf : fX6_isCaught x1 x2 x3 I J = some q) : Wg M cS V 5 I J 0 [(0, .ref (V.2.2 3)), (1, .int x1), (2, .int x2), (3, .int x3)] [] := by
  unfold fX6_isCaught at hf
  refine g_iconst X dX6_isCaught_0 (v := 0) rfl ?_
  refine g_istore X dX6_isCaught_1 (by decide) [(4, .int 0), (0, .ref (V.2.2 3)), (1, .int x1), (2, .int x2), (3, .int x3)] rfl ?_
  refine g_sub [1, 2, 3, 4, 0] rfl ?_
  exact wLX6_isCaught_3  X hQ  128 x1 x2 x3 0  I J hf
set_option maxRecDepth 4000 in
theorem cX6_isCaught_ok (l : Launch) (V : VT) (x1 : Int32) (x2 : Int32) (x3 : Int32)  (I : aI) (J : aJ) {q : RT Int32} (hf : fX6_isCaught x1 x2 x3 I J = some q) : Met l yX6_isCaught (.code yX6_isCaught cX6_isCaught 5 (some .boolean) :: GG) (rmD 2) (va_Pc [.ref (V.2.2 3), .int x1, .int x2, .int x3] (cQ cS V I J)) (QI cS V q) 0 0 (vAd cS V) :=
  met_I (by decide +kernel) rfl (Nat.le_of_ble_eq_true rfl) (fun _ _ X hQ => wX6_isCaught X hQ x1 x2 x3  I J hf)
-- X6_findCatches
set_option maxRecDepth 4000 in
theorem wBX6_findCatches_60 {M : MT} {V : VT}  (X : Cx M cS V cX6_findCatches 5 RX6 (some .boolean) 3) {q : RT Int32} (hQ : PI M cS V q) (k4 : Int32 → Int32 → Int32 → aI → aJ → Option (RT Int32)) (hk4 : ∀ (x1 : Int32) (x2 : Int32) (x3 : Int32)  (I : aI) (J : aJ), k4 x1 x2 x3 I J = some q → Wg M cS V 5 I J 4 [(0, .ref (V.2.2 3)), (1, .int x1), (2, .int x2), (3, .int x3)] []) (k15 : Int32 → Int32 → Int32 → Int32 → aI → aJ → Option (RT Int32)) (hk15 : ∀ (x1 : Int32) (x2 : Int32) (x3 : Int32) (x4 : Int32)  (I : aI) (J : aJ), k15 x1 x2 x3 x4 I J = some q → Wg M cS V 5 I J 15 [(0, .ref (V.2.2 3)), (1, .int x1), (2, .int x2), (3, .int x3), (4, .int x4)] []) (x1 : Int32) (x2 : Int32) (x3 : Int32) (x4 : Int32)  (I : aI) (J : aJ) (hf : BX6_findCatches_60  k4 k15 x1 x2 x3 x4 I J = some q) : Wg M cS V 5 I J 60 [(0, .ref (V.2.2 3)), (1, .int x1), (2, .int x2), (3, .int x3), (4, .int x4)] [] := by
  unfold BX6_findCatches_60 at hf
  refine g_iinc X dX6_findCatches_60 4 rfl 1 rfl (by decide) [(4, .int (x4 + 1)), (0, .ref (V.2.2 3)), (1, .int x1), (2, .int x2), (3, .int x3)] rfl ?_
  refine g_goto X dX6_findCatches_63 (tgt := 15) (by decide) ?_
  refine g_sub [1, 2, 3, 4, 0] rfl ?_
  exact hk15 x1 x2 x3 (x4 + 1)  I J hf
set_option maxRecDepth 4000 in
theorem wHX6_findCatches_15 {M : MT} {V : VT}  (X : Cx M cS V cX6_findCatches 5 RX6 (some .boolean) 3) {q : RT Int32} (hQ : PI M cS V q) (k4 : Int32 → Int32 → Int32 → aI → aJ → Option (RT Int32)) (hk4 : ∀ (x1 : Int32) (x2 : Int32) (x3 : Int32)  (I : aI) (J : aJ), k4 x1 x2 x3 I J = some q → Wg M cS V 5 I J 4 [(0, .ref (V.2.2 3)), (1, .int x1), (2, .int x2), (3, .int x3)] []) (k15 : Int32 → Int32 → Int32 → Int32 → aI → aJ → Option (RT Int32)) (hk15 : ∀ (x1 : Int32) (x2 : Int32) (x3 : Int32) (x4 : Int32)  (I : aI) (J : aJ), k15 x1 x2 x3 x4 I J = some q → Wg M cS V 5 I J 15 [(0, .ref (V.2.2 3)), (1, .int x1), (2, .int x2), (3, .int x3), (4, .int x4)] []) (x1 : Int32) (x2 : Int32) (x3 : Int32) (x4 : Int32)  (I : aI) (J : aJ) (hf : HX6_findCatches_15  k4 k15 x1 x2 x3 x4 I J = some q) : Wg M cS V 5 I J 15 [(0, .ref (V.2.2 3)), (1, .int x1), (2, .int x2), (3, .int x3), (4, .int x4)] [] := by
  unfold HX6_findCatches_15 at hf
  refine g_iload X dX6_findCatches_15 4 rfl ?_
  refine g_aload_n X dX6_findCatches_17 0 rfl ?_
  refine g_get X dX6_findCatches_18 okC_3 cl6 0 (by decide) m_131 rfl ?_
  refine g_icmp_ge X dX6_findCatches_21 (tgt := 66) (by decide) (fun hc3 => ?_) (fun hc3 => ?_)
  · rw [if_pos hc3] at hf
    refine g_iinc X dX6_findCatches_66 3 rfl 1 rfl (by decide) [(3, .int (x3 + 1)), (0, .ref (V.2.2 3)), (1, .int x1), (2, .int x2), (4, .int x4)] rfl ?_
    refine g_goto X dX6_findCatches_69 (tgt := 4) (by decide) ?_
    refine g_sub [1, 2, 3, 0] rfl ?_
    exact hk4 x1 x2 (x3 + 1)  I J hf
  · rw [if_neg hc3] at hf
    refine g_aload_n X dX6_findCatches_24 0 rfl ?_
    refine g_get X dX6_findCatches_25 okC_3 cl6 7 (by decide) m_151 rfl ?_
    refine g_iload_n X dX6_findCatches_28 3 rfl ?_
    obtain ⟨hg4, hf⟩ := gd_some hf
    refine g_aaloadG X dX6_findCatches_29 okC_15 hg4 ?_
    refine g_iload X dX6_findCatches_30 4 rfl ?_
    obtain ⟨hg5, hf⟩ := gd_some hf
    refine g_iaload X dX6_findCatches_32 (ok_ct hg4) hg5 ?_
    refine g_iconst X dX6_findCatches_33 (v := (-1)) rfl ?_
    refine g_icmp_ne X dX6_findCatches_34 (tgt := 60) (by decide) (fun hc6 => ?_) (fun hc6 => ?_)
    · rw [if_neg hc6] at hf
      exact wBX6_findCatches_60  X hQ k4 hk4 k15 hk15 x1 x2 x3 x4  I J hf
    · rw [if_pos hc6] at hf
      refine g_aload_n X dX6_findCatches_37 0 rfl ?_
      refine g_iload_n X dX6_findCatches_38 3 rfl ?_
      refine g_iload X dX6_findCatches_39 4 rfl ?_
      refine g_iload_n X dX6_findCatches_41 1 rfl ?_
      obtain ⟨r7, I7, J7, hb7, hf⟩ := bnd_some hf
      refine g_callV X dX6_findCatches_42 cw_X6_77 (k := 3) (As := [.int x3, .int x4, .int x1]) (rcv okC_3 cl6) rfl rfl (Nat.le_of_ble_eq_true rfl) (by decide) (cX6_isCaught_ok  M.2.1 V x3 x4 x1  I J hb7) (kI ?_)
      refine g_if_eq X dX6_findCatches_45 (tgt := 60) (by decide) (fun hc8 => ?_) (fun hc8 => ?_)
      · rw [if_pos hc8] at hf
        exact wBX6_findCatches_60  X hQ k4 hk4 k15 hk15 x1 x2 x3 x4  I7 J7 hf
      · rw [if_neg hc8] at hf
        refine g_aload_n X dX6_findCatches_48 0 rfl ?_
        refine g_get X dX6_findCatches_49 okC_3 cl6 7 (by decide) m_151 rfl ?_
        refine g_iload_n X dX6_findCatches_52 3 rfl ?_
        refine g_aaloadG X dX6_findCatches_53 okC_15 hg4 ?_
        refine g_iload X dX6_findCatches_54 4 rfl ?_
        refine g_iload_n X dX6_findCatches_56 1 rfl ?_
        refine g_iastore X dX6_findCatches_57 (ok_ct hg4) hg5 ?_
        refine g_iconst X dX6_findCatches_58 (v := 1) rfl ?_
        refine g_istore_n X dX6_findCatches_59 (by decide) [(2, .int 1), (0, .ref (V.2.2 3)), (1, .int x1), (3, .int x3), (4, .int x4)] rfl ?_
        refine g_sub [1, 2, 0, 3, 4] rfl ?_
        exact wBX6_findCatches_60  X hQ k4 hk4 k15 hk15 x1 1 x3 x4  (pI I7 (15 + 1 + Int32.toNatClampNeg x3) (Int32.toNatClampNeg x4) x1) J7 hf
set_option maxRecDepth 4000 in
theorem wLX6_findCatches_15 {M : MT} {V : VT}  (X : Cx M cS V cX6_findCatches 5 RX6 (some .boolean) 3) {q : RT Int32} (hQ : PI M cS V q) (k4 : Int32 → Int32 → Int32 → aI → aJ → Option (RT Int32)) (hk4 : ∀ (x1 : Int32) (x2 : Int32) (x3 : Int32)  (I : aI) (J : aJ), k4 x1 x2 x3 I J = some q → Wg M cS V 5 I J 4 [(0, .ref (V.2.2 3)), (1, .int x1), (2, .int x2), (3, .int x3)] []) : ∀ (n : Nat) (x1 : Int32) (x2 : Int32) (x3 : Int32) (x4 : Int32)  (I : aI) (J : aJ), LX6_findCatches_15  k4 n x1 x2 x3 x4 I J = some q → Wg M cS V 5 I J 15 [(0, .ref (V.2.2 3)), (1, .int x1), (2, .int x2), (3, .int x3), (4, .int x4)] [] := by
  intro n
  induction n with
  | zero => intro x1 x2 x3 x4  I J hf; cases hf
  | succ n ih => intro x1 x2 x3 x4  I J hf; exact wHX6_findCatches_15  X hQ k4 hk4 (LX6_findCatches_15  k4 n) ih x1 x2 x3 x4  I J hf
set_option maxRecDepth 4000 in
theorem wHX6_findCatches_4 {M : MT} {V : VT}  (X : Cx M cS V cX6_findCatches 5 RX6 (some .boolean) 3) {q : RT Int32} (hQ : PI M cS V q) (k4 : Int32 → Int32 → Int32 → aI → aJ → Option (RT Int32)) (hk4 : ∀ (x1 : Int32) (x2 : Int32) (x3 : Int32)  (I : aI) (J : aJ), k4 x1 x2 x3 I J = some q → Wg M cS V 5 I J 4 [(0, .ref (V.2.2 3)), (1, .int x1), (2, .int x2), (3, .int x3)] []) (x1 : Int32) (x2 : Int32) (x3 : Int32)  (I : aI) (J : aJ) (hf : HX6_findCatches_4  k4 x1 x2 x3 I J = some q) : Wg M cS V 5 I J 4 [(0, .ref (V.2.2 3)), (1, .int x1), (2, .int x2), (3, .int x3)] [] := by
  unfold HX6_findCatches_4 at hf
  refine g_iload_n X dX6_findCatches_4 3 rfl ?_
  refine g_aload_n X dX6_findCatches_5 0 rfl ?_
  refine g_get X dX6_findCatches_6 okC_3 cl6 0 (by decide) m_131 rfl ?_
  refine g_icmp_ge X dX6_findCatches_9 (tgt := 72) (by decide) (fun hc1 => ?_) (fun hc1 => ?_)
  · rw [if_pos hc1] at hf
    refine g_iload_n X dX6_findCatches_72 2 rfl ?_
    obtain ⟨hg2, hf⟩ := gd_some hf
    cases hf
    exact g_zreturn X dX6_findCatches_73 (of_decide_eq_true hg2) hQ
  · rw [if_neg hc1] at hf
    refine g_iconst X dX6_findCatches_12 (v := 0) rfl ?_
    refine g_istore X dX6_findCatches_13 (by decide) [(4, .int 0), (0, .ref (V.2.2 3)), (1, .int x1), (2, .int x2), (3, .int x3)] rfl ?_
    refine g_sub [1, 2, 3, 4, 0] rfl ?_
    exact wLX6_findCatches_15  X hQ k4 hk4 128 x1 x2 x3 0  I J hf
set_option maxRecDepth 4000 in
theorem wLX6_findCatches_4 {M : MT} {V : VT}  (X : Cx M cS V cX6_findCatches 5 RX6 (some .boolean) 3) {q : RT Int32} (hQ : PI M cS V q)  : ∀ (n : Nat) (x1 : Int32) (x2 : Int32) (x3 : Int32)  (I : aI) (J : aJ), LX6_findCatches_4   n x1 x2 x3 I J = some q → Wg M cS V 5 I J 4 [(0, .ref (V.2.2 3)), (1, .int x1), (2, .int x2), (3, .int x3)] [] := by
  intro n
  induction n with
  | zero => intro x1 x2 x3  I J hf; cases hf
  | succ n ih => intro x1 x2 x3  I J hf; exact wHX6_findCatches_4  X hQ  (LX6_findCatches_4   n) ih x1 x2 x3  I J hf
set_option maxRecDepth 4000 in
theorem wX6_findCatches {M : MT} {V : VT} (X : Cx M cS V cX6_findCatches 5 RX6 (some .boolean) 3) {q : RT Int32} (hQ : PI M cS V q) (x1 : Int32)  (I : aI) (J : aJ) (hf : fX6_findCatches x1 I J = some q) : Wg M cS V 5 I J 0 [(0, .ref (V.2.2 3)), (1, .int x1)] [] := by
  unfold fX6_findCatches at hf
  refine g_iconst X dX6_findCatches_0 (v := 0) rfl ?_
  refine g_istore_n X dX6_findCatches_1 (by decide) [(2, .int 0), (0, .ref (V.2.2 3)), (1, .int x1)] rfl ?_
  refine g_iconst X dX6_findCatches_2 (v := 0) rfl ?_
  refine g_istore_n X dX6_findCatches_3 (by decide) [(3, .int 0), (2, .int 0), (0, .ref (V.2.2 3)), (1, .int x1)] rfl ?_
  refine g_sub [2, 3, 1, 0] rfl ?_
  exact wLX6_findCatches_4  X hQ  128 x1 0 0  I J hf
set_option maxRecDepth 4000 in
theorem cX6_findCatches_ok (l : Launch) (V : VT) (x1 : Int32)  (I : aI) (J : aJ) {q : RT Int32} (hf : fX6_findCatches x1 I J = some q) : Met l yX6_findCatches (.code yX6_findCatches cX6_findCatches 5 (some .boolean) :: GG) (rmD 3) (va_Pc [.ref (V.2.2 3), .int x1] (cQ cS V I J)) (QI cS V q) 0 0 (vAd cS V) :=
  met_I (by decide +kernel) rfl (Nat.le_of_ble_eq_true rfl) (fun _ _ X hQ => wX6_findCatches X hQ x1  I J hf)
-- X6_measureCatches
set_option maxRecDepth 4000 in
theorem wBX6_measureCatches_61 {M : MT} {V : VT}  (X : Cx M cS V cX6_measureCatches 3 RX6 none 4) {q : RT Unit} (hQ : PV M cS V q)    (I : aI) (J : aJ) (hf : BX6_measureCatches_61    I J = some q) : Wg M cS V 3 I J 61 [] [] := by
  unfold BX6_measureCatches_61 at hf
  cases hf
  exact g_vreturn X dX6_measureCatches_61 hQ
set_option maxRecDepth 4000 in
theorem wHX6_measureCatches_39 {M : MT} {V : VT}  (X : Cx M cS V cX6_measureCatches 3 RX6 none 4) {q : RT Unit} (hQ : PV M cS V q) (k39 : Int32 → Int32 → aI → aJ → Option (RT Unit)) (hk39 : ∀ (x1 : Int32) (x2 : Int32)  (I : aI) (J : aJ), k39 x1 x2 I J = some q → Wg M cS V 3 I J 39 [(0, .ref (V.2.2 3)), (1, .int x1), (2, .int x2)] []) (x1 : Int32) (x2 : Int32)  (I : aI) (J : aJ) (hf : HX6_measureCatches_39  k39 x1 x2 I J = some q) : Wg M cS V 3 I J 39 [(0, .ref (V.2.2 3)), (1, .int x1), (2, .int x2)] [] := by
  unfold HX6_measureCatches_39 at hf
  refine g_iload_n X dX6_measureCatches_39 2 rfl ?_
  refine g_bipush X dX6_measureCatches_40 (v := 40) rfl ?_
  refine g_icmp_gt X dX6_measureCatches_42 (tgt := 61) (by decide) (fun hc4 => ?_) (fun hc4 => ?_)
  · rw [if_pos hc4] at hf
    refine g_sub [] rfl ?_
    exact wBX6_measureCatches_61  X hQ    I J hf
  · rw [if_neg hc4] at hf
    refine g_iload_n X dX6_measureCatches_45 1 rfl ?_
    refine g_if_eq X dX6_measureCatches_46 (tgt := 61) (by decide) (fun hc5 => ?_) (fun hc5 => ?_)
    · rw [if_pos hc5] at hf
      refine g_sub [] rfl ?_
      exact wBX6_measureCatches_61  X hQ    I J hf
    · rw [if_neg hc5] at hf
      refine g_aload_n X dX6_measureCatches_49 0 rfl ?_
      refine g_iload_n X dX6_measureCatches_50 2 rfl ?_
      obtain ⟨r6, I6, J6, hb6, hf⟩ := bnd_some hf
      refine g_callV X dX6_measureCatches_51 cw_X6_73 (k := 3) (As := [.int x2]) (rcv okC_3 cl6) rfl rfl (Nat.le_of_ble_eq_true rfl) (by decide) (cX6_findCatches_ok  M.2.1 V x2  I J hb6) (kI ?_)
      refine g_istore_n X dX6_measureCatches_54 (by decide) [(1, .int r6), (0, .ref (V.2.2 3)), (2, .int x2)] rfl ?_
      refine g_iinc X dX6_measureCatches_55 2 rfl 1 rfl (by decide) [(2, .int (x2 + 1)), (1, .int r6), (0, .ref (V.2.2 3))] rfl ?_
      refine g_goto X dX6_measureCatches_58 (tgt := 39) (by decide) ?_
      refine g_sub [2, 1, 0] rfl ?_
      exact hk39 r6 (x2 + 1)  I6 J6 hf
set_option maxRecDepth 4000 in
theorem wLX6_measureCatches_39 {M : MT} {V : VT}  (X : Cx M cS V cX6_measureCatches 3 RX6 none 4) {q : RT Unit} (hQ : PV M cS V q)  : ∀ (n : Nat) (x1 : Int32) (x2 : Int32)  (I : aI) (J : aJ), LX6_measureCatches_39   n x1 x2 I J = some q → Wg M cS V 3 I J 39 [(0, .ref (V.2.2 3)), (1, .int x1), (2, .int x2)] [] := by
  intro n
  induction n with
  | zero => intro x1 x2  I J hf; cases hf
  | succ n ih => intro x1 x2  I J hf; exact wHX6_measureCatches_39  X hQ  (LX6_measureCatches_39   n) ih x1 x2  I J hf
set_option maxRecDepth 4000 in
theorem wHX6_measureCatches_2 {M : MT} {V : VT}  (X : Cx M cS V cX6_measureCatches 3 RX6 none 4) {q : RT Unit} (hQ : PV M cS V q) (k2 : Int32 → aI → aJ → Option (RT Unit)) (hk2 : ∀ (x1 : Int32)  (I : aI) (J : aJ), k2 x1 I J = some q → Wg M cS V 3 I J 2 [(0, .ref (V.2.2 3)), (1, .int x1)] []) (x1 : Int32)  (I : aI) (J : aJ) (hf : HX6_measureCatches_2  k2 x1 I J = some q) : Wg M cS V 3 I J 2 [(0, .ref (V.2.2 3)), (1, .int x1)] [] := by
  unfold HX6_measureCatches_2 at hf
  refine g_iload_n X dX6_measureCatches_2 1 rfl ?_
  refine g_aload_n X dX6_measureCatches_3 0 rfl ?_
  refine g_get X dX6_measureCatches_4 okC_3 cl6 0 (by decide) m_131 rfl ?_
  refine g_icmp_ge X dX6_measureCatches_7 (tgt := 35) (by decide) (fun hc1 => ?_) (fun hc1 => ?_)
  · rw [if_pos hc1] at hf
    refine g_iconst X dX6_measureCatches_35 (v := 1) rfl ?_
    refine g_istore_n X dX6_measureCatches_36 (by decide) [(1, .int 1), (0, .ref (V.2.2 3))] rfl ?_
    refine g_iconst X dX6_measureCatches_37 (v := 1) rfl ?_
    refine g_istore_n X dX6_measureCatches_38 (by decide) [(2, .int 1), (1, .int 1), (0, .ref (V.2.2 3))] rfl ?_
    refine g_sub [2, 1, 0] rfl ?_
    exact wLX6_measureCatches_39  X hQ  128 1 1  I J hf
  · rw [if_neg hc1] at hf
    refine g_aload_n X dX6_measureCatches_10 0 rfl ?_
    refine g_get X dX6_measureCatches_11 okC_3 cl6 7 (by decide) m_151 rfl ?_
    refine g_iload_n X dX6_measureCatches_14 1 rfl ?_
    obtain ⟨hg2, hf⟩ := gd_some hf
    refine g_aaloadG X dX6_measureCatches_15 okC_15 hg2 ?_
    refine g_iconst X dX6_measureCatches_16 (v := (-1)) rfl ?_
    obtain ⟨r3, I3, J3, hb3, hf⟩ := bnd_some hf
    refine g_callS X dX6_measureCatches_17 sw_X6_60 (As := [.ref (V.2.2 (15 + 1 + Int32.toNatClampNeg x1)), .int (-1)]) rfl rfl (Nat.le_of_ble_eq_true rfl) (by decide) (cJ7_fill_53178_ok  M.2.1 V (15 + 1 + Int32.toNatClampNeg x1) 6 (-1) (ok_ct hg2) I J hb3) (kV ?_)
    refine g_aload_n X dX6_measureCatches_20 0 rfl ?_
    refine g_get X dX6_measureCatches_21 okC_3 cl6 7 (by decide) m_151 rfl ?_
    refine g_iload_n X dX6_measureCatches_24 1 rfl ?_
    refine g_aaloadG X dX6_measureCatches_25 okC_15 hg2 ?_
    refine g_iload_n X dX6_measureCatches_26 1 rfl ?_
    refine g_iconst X dX6_measureCatches_27 (v := 0) rfl ?_
    refine g_iastore X dX6_measureCatches_28 (ok_ct hg2) hg2 ?_
    refine g_iinc X dX6_measureCatches_29 1 rfl 1 rfl (by decide) [(1, .int (x1 + 1)), (0, .ref (V.2.2 3))] rfl ?_
    refine g_goto X dX6_measureCatches_32 (tgt := 2) (by decide) ?_
    refine g_sub [1, 0] rfl ?_
    exact hk2 (x1 + 1)  (pI I3 (15 + 1 + Int32.toNatClampNeg x1) (Int32.toNatClampNeg x1) 0) J3 hf
set_option maxRecDepth 4000 in
theorem wLX6_measureCatches_2 {M : MT} {V : VT}  (X : Cx M cS V cX6_measureCatches 3 RX6 none 4) {q : RT Unit} (hQ : PV M cS V q)  : ∀ (n : Nat) (x1 : Int32)  (I : aI) (J : aJ), LX6_measureCatches_2   n x1 I J = some q → Wg M cS V 3 I J 2 [(0, .ref (V.2.2 3)), (1, .int x1)] [] := by
  intro n
  induction n with
  | zero => intro x1  I J hf; cases hf
  | succ n ih => intro x1  I J hf; exact wHX6_measureCatches_2  X hQ  (LX6_measureCatches_2   n) ih x1  I J hf
set_option maxRecDepth 4000 in
theorem wX6_measureCatches {M : MT} {V : VT} (X : Cx M cS V cX6_measureCatches 3 RX6 none 4) {q : RT Unit} (hQ : PV M cS V q)   (I : aI) (J : aJ) (hf : fX6_measureCatches  I J = some q) : Wg M cS V 3 I J 0 [(0, .ref (V.2.2 3))] [] := by
  unfold fX6_measureCatches at hf
  refine g_iconst X dX6_measureCatches_0 (v := 0) rfl ?_
  refine g_istore_n X dX6_measureCatches_1 (by decide) [(1, .int 0), (0, .ref (V.2.2 3))] rfl ?_
  refine g_sub [1, 0] rfl ?_
  exact wLX6_measureCatches_2  X hQ  128 0  I J hf
set_option maxRecDepth 4000 in
theorem cX6_measureCatches_ok (l : Launch) (V : VT)   (I : aI) (J : aJ) {q : RT Unit} (hf : fX6_measureCatches  I J = some q) : Met l yX6_measureCatches (.code yX6_measureCatches cX6_measureCatches 3 none :: GG) (rmD 4) (va_Pc [.ref (V.2.2 3)] (cQ cS V I J)) (QV cS V q) 0 0 (vAd cS V) :=
  met_V (by decide +kernel) rfl (Nat.le_of_ble_eq_true rfl) (fun _ _ X hQ => wX6_measureCatches X hQ   I J hf)
-- X6_build
set_option maxRecDepth 4000 in
theorem wHX6_build_90 {M : MT} {V : VT}  (X : Cx M cS V cX6_build 4 RX6 none 5) {q : RT Unit} (hQ : PV M cS V q) (k90 : Int32 → aI → aJ → Option (RT Unit)) (hk90 : ∀ (x2 : Int32)  (I : aI) (J : aJ), k90 x2 I J = some q → Wg M cS V 4 I J 90 [(0, .ref (V.2.2 3)), (2, .int x2)] []) (x2 : Int32)  (I : aI) (J : aJ) (hf : HX6_build_90  k90 x2 I J = some q) : Wg M cS V 4 I J 90 [(0, .ref (V.2.2 3)), (2, .int x2)] [] := by
  unfold HX6_build_90 at hf
  refine g_iload_n X dX6_build_90 1 rfl ?_
  refine g_aload_n X dX6_build_91 0 rfl ?_
  refine g_get X dX6_build_92 okC_3 cl6 0 (by decide) m_131 rfl ?_
  refine g_icmp_ge X dX6_build_95 (tgt := 109) (by decide) (fun hc9 => ?_) (fun hc9 => ?_)
  · rw [if_pos hc9] at hf
    refine g_aload_n X dX6_build_109 0 rfl ?_
    obtain ⟨r10, I10, J10, hb10, hf⟩ := bnd_some hf
    refine g_callV X dX6_build_110 cw_X6_57 (k := 3) (As := []) (rcv okC_3 cl6) rfl rfl (Nat.le_of_ble_eq_true rfl) (by decide) (cX6_measureCatches_ok  M.2.1 V   I J hb10) (kV ?_)
    cases hf
    exact g_vreturn X dX6_build_113 hQ
  · rw [if_neg hc9] at hf
    refine g_aload_n X dX6_build_98 0 rfl ?_
    refine g_iload_n X dX6_build_99 1 rfl ?_
    obtain ⟨r11, I11, J11, hb11, hf⟩ := bnd_some hf
    refine g_callV X dX6_build_100 cw_X6_53 (k := 3) (As := [.int x2]) (rcv okC_3 cl6) rfl rfl (Nat.le_of_ble_eq_true rfl) (by decide) (cX6_measureSteps_ok  M.2.1 V x2  I J hb11) (kV ?_)
    refine g_iinc X dX6_build_103 1 rfl 1 rfl (by decide) [(2, .int (x2 + 1)), (0, .ref (V.2.2 3))] rfl ?_
    refine g_goto X dX6_build_106 (tgt := 90) (by decide) ?_
    refine g_sub [1, 0] rfl ?_
    exact hk90 (x2 + 1)  I11 J11 hf
set_option maxRecDepth 4000 in
theorem wLX6_build_90 {M : MT} {V : VT}  (X : Cx M cS V cX6_build 4 RX6 none 5) {q : RT Unit} (hQ : PV M cS V q)  : ∀ (n : Nat) (x2 : Int32)  (I : aI) (J : aJ), LX6_build_90   n x2 I J = some q → Wg M cS V 4 I J 90 [(0, .ref (V.2.2 3)), (2, .int x2)] [] := by
  intro n
  induction n with
  | zero => intro x2  I J hf; cases hf
  | succ n ih => intro x2  I J hf; exact wHX6_build_90  X hQ  (LX6_build_90   n) ih x2  I J hf
set_option maxRecDepth 4000 in
theorem wHX6_build_51 {M : MT} {V : VT}  (X : Cx M cS V cX6_build 4 RX6 none 5) {q : RT Unit} (hQ : PV M cS V q) (k51 : Int32 → aI → aJ → Option (RT Unit)) (hk51 : ∀ (x2 : Int32)  (I : aI) (J : aJ), k51 x2 I J = some q → Wg M cS V 4 I J 51 [(0, .ref (V.2.2 3)), (1, .ref (V.2.2 1)), (2, .int x2)] []) (x2 : Int32)  (I : aI) (J : aJ) (hf : HX6_build_51  k51 x2 I J = some q) : Wg M cS V 4 I J 51 [(0, .ref (V.2.2 3)), (1, .ref (V.2.2 1)), (2, .int x2)] [] := by
  unfold HX6_build_51 at hf
  refine g_iload_n X dX6_build_51 2 rfl ?_
  refine g_aload_n X dX6_build_52 0 rfl ?_
  refine g_get X dX6_build_53 okC_3 cl6 1 (by decide) m_135 rfl ?_
  refine g_icmp_ge X dX6_build_56 (tgt := 88) (by decide) (fun hc4 => ?_) (fun hc4 => ?_)
  · rw [if_pos hc4] at hf
    refine g_iconst X dX6_build_88 (v := 0) rfl ?_
    refine g_istore_n X dX6_build_89 (by decide) [(2, .int 0), (0, .ref (V.2.2 3)), (1, .ref (V.2.2 1))] rfl ?_
    refine g_sub [1, 0] rfl ?_
    exact wLX6_build_90  X hQ  128 0  I J hf
  · rw [if_neg hc4] at hf
    refine g_aload_n X dX6_build_59 1 rfl ?_
    refine g_iload_n X dX6_build_60 2 rfl ?_
    obtain ⟨r5, I5, J5, hb5, hf⟩ := bnd_some hf
    refine g_callV X dX6_build_61 cw_X6_46 (k := 1) (As := [.int x2]) (rcv okC_1 cl3) rfl rfl (Nat.le_of_ble_eq_true rfl) (by decide) (cX3_roadStart_ok  M.2.1 V x2  I J hb5) (kI ?_)
    refine g_istore_n X dX6_build_64 (by decide) [(3, .int r5), (0, .ref (V.2.2 3)), (1, .ref (V.2.2 1)), (2, .int x2)] rfl ?_
    refine g_aload_n X dX6_build_65 1 rfl ?_
    refine g_iload_n X dX6_build_66 3 rfl ?_
    refine g_aload_n X dX6_build_67 2 rfl ?_
    refine g_iload_n X dX6_build_68 0 rfl ?_
    obtain ⟨r6, I6, J6, hb6, hf⟩ := bnd_some hf
    refine g_callV X dX6_build_69 cw_X6_32 (k := 1) (As := [.int r5]) (rcv okC_1 cl3) rfl rfl (Nat.le_of_ble_eq_true rfl) (by decide) (cX3_digitAt_ok  M.2.1 V r5  I5 J5 hb6) (kI ?_)
    refine g_aload_n X dX6_build_72 2 rfl ?_
    refine g_iload_n X dX6_build_73 0 rfl ?_
    refine g_iconst X dX6_build_74 (v := 1) rfl ?_
    refine g_iadd X dX6_build_75 ?_
    obtain ⟨r7, I7, J7, hb7, hf⟩ := bnd_some hf
    refine g_callV X dX6_build_76 cw_X6_32 (k := 1) (As := [.int (r5 + 1)]) (rcv okC_1 cl3) rfl rfl (Nat.le_of_ble_eq_true rfl) (by decide) (cX3_digitAt_ok  M.2.1 V (r5 + 1)  I6 J6 hb7) (kI ?_)
    obtain ⟨r8, I8, J8, hb8, hf⟩ := bnd_some hf
    refine g_callV X dX6_build_79 cw_X6_49 (k := 3) (As := [.int x2, .int r6, .int r7]) (rcv okC_3 cl6) rfl rfl (Nat.le_of_ble_eq_true rfl) (by decide) (cX6_layRoad_ok  M.2.1 V x2 r6 r7  I7 J7 hb8) (kV ?_)
    refine g_iinc X dX6_build_82 3 rfl 1 rfl (by decide) [(2, .int (x2 + 1)), (3, .int r5), (0, .ref (V.2.2 3)), (1, .ref (V.2.2 1))] rfl ?_
    refine g_goto X dX6_build_85 (tgt := 51) (by decide) ?_
    refine g_sub [2, 3, 0] rfl ?_
    exact hk51 (x2 + 1)  I8 J8 hf
set_option maxRecDepth 4000 in
theorem wLX6_build_51 {M : MT} {V : VT}  (X : Cx M cS V cX6_build 4 RX6 none 5) {q : RT Unit} (hQ : PV M cS V q)  : ∀ (n : Nat) (x2 : Int32)  (I : aI) (J : aJ), LX6_build_51   n x2 I J = some q → Wg M cS V 4 I J 51 [(0, .ref (V.2.2 3)), (1, .ref (V.2.2 1)), (2, .int x2)] [] := by
  intro n
  induction n with
  | zero => intro x2  I J hf; cases hf
  | succ n ih => intro x2  I J hf; exact wHX6_build_51  X hQ  (LX6_build_51   n) ih x2  I J hf
set_option maxRecDepth 4000 in
theorem wHX6_build_19 {M : MT} {V : VT}  (X : Cx M cS V cX6_build 4 RX6 none 5) {q : RT Unit} (hQ : PV M cS V q) (k19 : Int32 → aI → aJ → Option (RT Unit)) (hk19 : ∀ (x2 : Int32)  (I : aI) (J : aJ), k19 x2 I J = some q → Wg M cS V 4 I J 19 [(0, .ref (V.2.2 3)), (1, .ref (V.2.2 1)), (2, .int x2)] []) (x2 : Int32)  (I : aI) (J : aJ) (hf : HX6_build_19  k19 x2 I J = some q) : Wg M cS V 4 I J 19 [(0, .ref (V.2.2 3)), (1, .ref (V.2.2 1)), (2, .int x2)] [] := by
  unfold HX6_build_19 at hf
  refine g_iload_n X dX6_build_19 2 rfl ?_
  refine g_aload_n X dX6_build_20 0 rfl ?_
  refine g_get X dX6_build_21 okC_3 cl6 0 (by decide) m_131 rfl ?_
  refine g_icmp_ge X dX6_build_24 (tgt := 49) (by decide) (fun hc2 => ?_) (fun hc2 => ?_)
  · rw [if_pos hc2] at hf
    refine g_iconst X dX6_build_49 (v := 0) rfl ?_
    refine g_istore_n X dX6_build_50 (by decide) [(2, .int 0), (0, .ref (V.2.2 3)), (1, .ref (V.2.2 1))] rfl ?_
    refine g_sub [1, 2, 0] rfl ?_
    exact wLX6_build_51  X hQ  128 0  I J hf
  · rw [if_neg hc2] at hf
    refine g_aload_n X dX6_build_27 0 rfl ?_
    refine g_get X dX6_build_28 okC_3 cl6 4 (by decide) m_144 rfl ?_
    refine g_iload_n X dX6_build_31 2 rfl ?_
    refine g_iconst X dX6_build_32 (v := 1) rfl ?_
    refine g_iload_n X dX6_build_33 2 rfl ?_
    refine g_ishl X dX6_build_34 ?_
    obtain ⟨hg3, hf⟩ := gd_some hf
    refine g_iastore X dX6_build_35 okC_6 hg3 ?_
    refine g_aload_n X dX6_build_36 0 rfl ?_
    refine g_get X dX6_build_37 okC_3 cl6 5 (by decide) m_147 rfl ?_
    refine g_iload_n X dX6_build_40 2 rfl ?_
    refine g_iconst X dX6_build_41 (v := 0) rfl ?_
    refine g_iastore X dX6_build_42 okC_7 hg3 ?_
    refine g_iinc X dX6_build_43 2 rfl 1 rfl (by decide) [(2, .int (x2 + 1)), (0, .ref (V.2.2 3)), (1, .ref (V.2.2 1))] rfl ?_
    refine g_goto X dX6_build_46 (tgt := 19) (by decide) ?_
    refine g_sub [1, 2, 0] rfl ?_
    exact hk19 (x2 + 1)  (pI (pI I 6 (Int32.toNatClampNeg x2) (1 <<< (x2 &&& 31))) 7 (Int32.toNatClampNeg x2) 0) J hf
set_option maxRecDepth 4000 in
theorem wLX6_build_19 {M : MT} {V : VT}  (X : Cx M cS V cX6_build 4 RX6 none 5) {q : RT Unit} (hQ : PV M cS V q)  : ∀ (n : Nat) (x2 : Int32)  (I : aI) (J : aJ), LX6_build_19   n x2 I J = some q → Wg M cS V 4 I J 19 [(0, .ref (V.2.2 3)), (1, .ref (V.2.2 1)), (2, .int x2)] [] := by
  intro n
  induction n with
  | zero => intro x2  I J hf; cases hf
  | succ n ih => intro x2  I J hf; exact wHX6_build_19  X hQ  (LX6_build_19   n) ih x2  I J hf
set_option maxRecDepth 4000 in
theorem wX6_build {M : MT} {V : VT} (X : Cx M cS V cX6_build 4 RX6 none 5) {q : RT Unit} (hQ : PV M cS V q)   (I : aI) (J : aJ) (hf : fX6_build  I J = some q) : Wg M cS V 4 I J 0 [(0, .ref (V.2.2 3)), (1, .ref (V.2.2 1))] [] := by
  unfold fX6_build at hf
  refine g_aload_n X dX6_build_0 0 rfl ?_
  refine g_aload_n X dX6_build_1 1 rfl ?_
  refine g_iconst X dX6_build_2 (v := 0) rfl ?_
  obtain ⟨r1, I1, J1, hb1, hf⟩ := bnd_some hf
  refine g_callV X dX6_build_3 cw_X6_32 (k := 1) (As := [.int 0]) (rcv okC_1 cl3) rfl rfl (Nat.le_of_ble_eq_true rfl) (by decide) (cX3_digitAt_ok  M.2.1 V 0  I J hb1) (kI ?_)
  refine g_putI X dX6_build_6 okC_3 cl6 0 (by decide) m_131 rfl .int rfl rfl rfl (Nat.le_of_ble_eq_true rfl) (fun _ _ => rfl) ?_
  refine g_aload_n X dX6_build_9 0 rfl ?_
  refine g_aload_n X dX6_build_10 1 rfl ?_
  refine g_get X dX6_build_11 okC_1 cl3 2 (by decide) m_107 rfl ?_
  refine g_putI X dX6_build_14 okC_3 cl6 1 (by decide) m_135 rfl .int rfl rfl rfl (Nat.le_of_ble_eq_true rfl) (fun _ _ => rfl) ?_
  refine g_iconst X dX6_build_17 (v := 0) rfl ?_
  refine g_istore_n X dX6_build_18 (by decide) [(2, .int 0), (0, .ref (V.2.2 3)), (1, .ref (V.2.2 1))] rfl ?_
  refine g_sub [1, 2, 0] rfl ?_
  exact wLX6_build_19  X hQ  128 0  (pI (pI I1 3 0 r1) 3 1 ((pI I1 3 0 r1) 1 2)) J1 hf
set_option maxRecDepth 4000 in
theorem cX6_build_ok (l : Launch) (V : VT)   (I : aI) (J : aJ) {q : RT Unit} (hf : fX6_build  I J = some q) : Met l yX6_build (.code yX6_build cX6_build 4 none :: GG) (rmD 5) (va_Pc [.ref (V.2.2 3), .ref (V.2.2 1)] (cQ cS V I J)) (QV cS V q) 0 0 (vAd cS V) :=
  met_V (by decide +kernel) rfl (Nat.le_of_ble_eq_true rfl) (fun _ _ X hQ => wX6_build X hQ   I J hf)
-- X7_isPerson
set_option maxRecDepth 4000 in
theorem wX7_isPerson {M : MT} {V : VT} (X : Cx M cS V cX7_isPerson 2 RX7 (some .boolean) 1) {q : RT Int32} (hQ : PI M cS V q) (x1 : Int32)  (I : aI) (J : aJ) (hf : fX7_isPerson x1 I J = some q) : Wg M cS V 2 I J 0 [(0, .ref (V.2.2 0)), (1, .int x1)] [] := by
  unfold fX7_isPerson at hf
  refine g_iload_n X dX7_isPerson_0 1 rfl ?_
  refine g_iconst X dX7_isPerson_1 (v := 0) rfl ?_
  refine g_aload_n X dX7_isPerson_2 0 rfl ?_
  refine g_get X dX7_isPerson_3 okC_0 cl7 2 (by decide) m_289 rfl ?_
  refine g_get X dX7_isPerson_6 okC_22 cl1 0 (by decide) m_177 rfl ?_
  refine g_iconst X dX7_isPerson_9 (v := 1) rfl ?_
  refine g_isub X dX7_isPerson_10 ?_
  obtain ⟨r1, I1, J1, hb1, hf⟩ := bnd_some hf
  refine g_callS X dX7_isPerson_11 sw_X7_70 (As := [.int x1, .int 0, .int ((I 22 0) - 1)]) rfl rfl (Nat.le_of_ble_eq_true rfl) (by decide) (cX7_isWithin_ok  M.2.1 V x1 0 ((I 22 0) - 1)  I J hb1) (kI ?_)
  obtain ⟨hg2, hf⟩ := gd_some hf
  cases hf
  exact g_zreturn X dX7_isPerson_14 (of_decide_eq_true hg2) hQ
set_option maxRecDepth 4000 in
theorem cX7_isPerson_ok (l : Launch) (V : VT) (x1 : Int32)  (I : aI) (J : aJ) {q : RT Int32} (hf : fX7_isPerson x1 I J = some q) : Met l yX7_isPerson (.code yX7_isPerson cX7_isPerson 2 (some .boolean) :: GG) (rmD 1) (va_Pc [.ref (V.2.2 0), .int x1] (cQ cS V I J)) (QI cS V q) 0 0 (vAd cS V) :=
  met_I (by decide +kernel) rfl (Nat.le_of_ble_eq_true rfl) (fun _ _ X hQ => wX7_isPerson X hQ x1  I J hf)
-- X7_as
set_option maxRecDepth 4000 in
theorem wBX7_as_40 {M : MT} {V : VT}  (X : Cx M cS V cX7_as 3 RX7 (some .int) 2) {q : RT Int32} (hQ : PI M cS V q)  (s0 : Int32)  (I : aI) (J : aJ) (hf : BX7_as_40   s0 I J = some q) : Wg M cS V 3 I J 40 [] [.int s0] := by
  unfold BX7_as_40 at hf
  cases hf
  exact g_ireturn X dX7_as_40 hQ
set_option maxRecDepth 4000 in
theorem wX7_as {M : MT} {V : VT} (X : Cx M cS V cX7_as 3 RX7 (some .int) 2) {q : RT Int32} (hQ : PI M cS V q) (x1 : Int32) (x2 : Int32)  (I : aI) (J : aJ) (hf : fX7_as x1 x2 I J = some q) : Wg M cS V 3 I J 0 [(0, .ref (V.2.2 0)), (1, .int x1), (2, .int x2)] [] := by
  unfold fX7_as at hf
  refine g_aload_n X dX7_as_0 0 rfl ?_
  refine g_iload_n X dX7_as_1 1 rfl ?_
  obtain ⟨r1, I1, J1, hb1, hf⟩ := bnd_some hf
  refine g_callV X dX7_as_2 cw_X7_114 (k := 0) (As := [.int x1]) (rcv okC_0 cl7) rfl rfl (Nat.le_of_ble_eq_true rfl) (by decide) (cX7_isPerson_ok  M.2.1 V x1  I J hb1) (kI ?_)
  refine g_if_ne X dX7_as_5 (tgt := 11) (by decide) (fun hc2 => ?_) (fun hc2 => ?_)
  · rw [if_neg hc2] at hf
    refine g_iload_n X dX7_as_11 2 rfl ?_
    refine g_iconst X dX7_as_12 (v := 0) rfl ?_
    refine g_iconst X dX7_as_13 (v := 4) rfl ?_
    obtain ⟨r3, I3, J3, hb3, hf⟩ := bnd_some hf
    refine g_callS X dX7_as_14 sw_X7_70 (As := [.int x2, .int 0, .int 4]) rfl rfl (Nat.le_of_ble_eq_true rfl) (by decide) (cX7_isWithin_ok  M.2.1 V x2 0 4  I1 J1 hb3) (kI ?_)
    refine g_if_ne X dX7_as_17 (tgt := 23) (by decide) (fun hc4 => ?_) (fun hc4 => ?_)
    · rw [if_neg hc4] at hf
      refine g_aload_n X dX7_as_23 0 rfl ?_
      refine g_get X dX7_as_24 okC_0 cl7 2 (by decide) m_289 rfl ?_
      refine g_iload_n X dX7_as_27 1 rfl ?_
      refine g_iload_n X dX7_as_28 2 rfl ?_
      obtain ⟨r5, I5, J5, hb5, hf⟩ := bnd_some hf
      refine g_callV X dX7_as_29 cw_X7_145 (k := 22) (As := [.int x1, .int x2]) (rcv okC_22 cl1) rfl rfl (Nat.le_of_ble_eq_true rfl) (by decide) (cX1_isOfKind_ok  M.2.1 V 22 x1 x2 okC_22 I3 J3 hb5) (kI ?_)
      refine g_if_eq X dX7_as_32 (tgt := 39) (by decide) (fun hc6 => ?_) (fun hc6 => ?_)
      · rw [if_pos hc6] at hf
        refine g_iconst X dX7_as_39 (v := (-1)) rfl ?_
        refine g_sub [] rfl ?_
        exact wBX7_as_40  X hQ  (-1)  I5 J5 hf
      · rw [if_neg hc6] at hf
        refine g_iload_n X dX7_as_35 1 rfl ?_
        refine g_goto X dX7_as_36 (tgt := 40) (by decide) ?_
        refine g_sub [] rfl ?_
        exact wBX7_as_40  X hQ  x1  I5 J5 hf
    · rw [if_pos hc4] at hf
      refine g_bipush X dX7_as_20 (v := (-102)) rfl ?_
      cases hf
      exact g_ireturn X dX7_as_22 hQ
  · rw [if_pos hc2] at hf
    refine g_bipush X dX7_as_8 (v := (-101)) rfl ?_
    cases hf
    exact g_ireturn X dX7_as_10 hQ
set_option maxRecDepth 4000 in
theorem cX7_as_ok (l : Launch) (V : VT) (x1 : Int32) (x2 : Int32)  (I : aI) (J : aJ) {q : RT Int32} (hf : fX7_as x1 x2 I J = some q) : Met l yX7_as (.code yX7_as cX7_as 3 (some .int) :: GG) (rmD 2) (va_Pc [.ref (V.2.2 0), .int x1, .int x2] (cQ cS V I J)) (QI cS V q) 0 0 (vAd cS V) :=
  met_I (by decide +kernel) rfl (Nat.le_of_ble_eq_true rfl) (fun _ _ X hQ => wX7_as X hQ x1 x2  I J hf)
-- X7_hasSuburb
set_option maxRecDepth 4000 in
theorem wBX7_hasSuburb_12 {M : MT} {V : VT}  (X : Cx M cS V cX7_hasSuburb 1 RX7 (some .boolean) 0) {q : RT Int32} (hQ : PI M cS V q)  (s0 : Int32)  (I : aI) (J : aJ) (hf : BX7_hasSuburb_12   s0 I J = some q) : Wg M cS V 1 I J 12 [] [.int s0] := by
  unfold BX7_hasSuburb_12 at hf
  obtain ⟨hg2, hf⟩ := gd_some hf
  cases hf
  exact g_zreturn X dX7_hasSuburb_12 (of_decide_eq_true hg2) hQ
set_option maxRecDepth 4000 in
theorem wX7_hasSuburb {M : MT} {V : VT} (X : Cx M cS V cX7_hasSuburb 1 RX7 (some .boolean) 0) {q : RT Int32} (hQ : PI M cS V q)   (I : aI) (J : aJ) (hf : fX7_hasSuburb  I J = some q) : Wg M cS V 1 I J 0 [(0, .ref (V.2.2 0))] [] := by
  unfold fX7_hasSuburb at hf
  refine g_aload_n X dX7_hasSuburb_0 0 rfl ?_
  refine g_get X dX7_hasSuburb_1 okC_0 cl7 12 (by decide) m_299 rfl ?_
  refine g_if_le X dX7_hasSuburb_4 (tgt := 11) (by decide) (fun hc1 => ?_) (fun hc1 => ?_)
  · rw [if_pos hc1] at hf
    refine g_iconst X dX7_hasSuburb_11 (v := 0) rfl ?_
    refine g_sub [] rfl ?_
    exact wBX7_hasSuburb_12  X hQ  0  I J hf
  · rw [if_neg hc1] at hf
    refine g_iconst X dX7_hasSuburb_7 (v := 1) rfl ?_
    refine g_goto X dX7_hasSuburb_8 (tgt := 12) (by decide) ?_
    refine g_sub [] rfl ?_
    exact wBX7_hasSuburb_12  X hQ  1  I J hf
set_option maxRecDepth 4000 in
theorem cX7_hasSuburb_ok (l : Launch) (V : VT)   (I : aI) (J : aJ) {q : RT Int32} (hf : fX7_hasSuburb  I J = some q) : Met l yX7_hasSuburb (.code yX7_hasSuburb cX7_hasSuburb 1 (some .boolean) :: GG) (rmD 0) (va_Pc [.ref (V.2.2 0)] (cQ cS V I J)) (QI cS V q) 0 0 (vAd cS V) :=
  met_I (by decide +kernel) rfl (Nat.le_of_ble_eq_true rfl) (fun _ _ X hQ => wX7_hasSuburb X hQ   I J hf)
-- X7_earshot
set_option maxRecDepth 4000 in
theorem wBX7_earshot_68 {M : MT} {V : VT}  (X : Cx M cS V cX7_earshot 6 RX7 (some .int) 0) {q : RT Int32} (hQ : PI M cS V q) (k15 : Int32 → Int32 → Int32 → Int32 → aI → aJ → Option (RT Int32)) (hk15 : ∀ (x1 : Int32) (x2 : Int32) (x3 : Int32) (x4 : Int32)  (I : aI) (J : aJ), k15 x1 x2 x3 x4 I J = some q → Wg M cS V 6 I J 15 [(0, .ref (V.2.2 0)), (1, .int x1), (2, .int x2), (3, .int x3), (4, .int x4)] []) (x1 : Int32) (x2 : Int32) (x3 : Int32) (x4 : Int32)  (I : aI) (J : aJ) (hf : BX7_earshot_68  k15 x1 x2 x3 x4 I J = some q) : Wg M cS V 6 I J 68 [(0, .ref (V.2.2 0)), (1, .int x1), (2, .int x2), (3, .int x3), (4, .int x4)] [] := by
  unfold BX7_earshot_68 at hf
  refine g_iinc X dX7_earshot_68 4 rfl 1 rfl (by decide) [(4, .int (x4 + 1)), (0, .ref (V.2.2 0)), (1, .int x1), (2, .int x2), (3, .int x3)] rfl ?_
  refine g_goto X dX7_earshot_71 (tgt := 15) (by decide) ?_
  refine g_sub [1, 2, 3, 4, 0] rfl ?_
  exact hk15 x1 x2 x3 (x4 + 1)  I J hf
set_option maxRecDepth 4000 in
theorem wHX7_earshot_15 {M : MT} {V : VT}  (X : Cx M cS V cX7_earshot 6 RX7 (some .int) 0) {q : RT Int32} (hQ : PI M cS V q) (k15 : Int32 → Int32 → Int32 → Int32 → aI → aJ → Option (RT Int32)) (hk15 : ∀ (x1 : Int32) (x2 : Int32) (x3 : Int32) (x4 : Int32)  (I : aI) (J : aJ), k15 x1 x2 x3 x4 I J = some q → Wg M cS V 6 I J 15 [(0, .ref (V.2.2 0)), (1, .int x1), (2, .int x2), (3, .int x3), (4, .int x4)] []) (x1 : Int32) (x2 : Int32) (x3 : Int32) (x4 : Int32)  (I : aI) (J : aJ) (hf : HX7_earshot_15  k15 x1 x2 x3 x4 I J = some q) : Wg M cS V 6 I J 15 [(0, .ref (V.2.2 0)), (1, .int x1), (2, .int x2), (3, .int x3), (4, .int x4)] [] := by
  unfold HX7_earshot_15 at hf
  refine g_iload X dX7_earshot_15 4 rfl ?_
  refine g_aload_n X dX7_earshot_17 0 rfl ?_
  refine g_get X dX7_earshot_18 okC_0 cl7 1 (by decide) m_288 rfl ?_
  refine g_get X dX7_earshot_21 okC_3 cl6 0 (by decide) m_134 rfl ?_
  refine g_icmp_ge X dX7_earshot_24 (tgt := 74) (by decide) (fun hc2 => ?_) (fun hc2 => ?_)
  · rw [if_pos hc2] at hf
    refine g_iload_n X dX7_earshot_74 2 rfl ?_
    cases hf
    exact g_ireturn X dX7_earshot_75 hQ
  · rw [if_neg hc2] at hf
    refine g_aload_n X dX7_earshot_27 0 rfl ?_
    refine g_get X dX7_earshot_28 okC_0 cl7 1 (by decide) m_288 rfl ?_
    refine g_get X dX7_earshot_31 okC_3 cl6 6 (by decide) m_150 rfl ?_
    refine g_iload_n X dX7_earshot_34 3 rfl ?_
    obtain ⟨hg3, hf⟩ := gd_some hf
    refine g_aaloadG X dX7_earshot_35 okC_8 hg3 ?_
    refine g_iload X dX7_earshot_36 4 rfl ?_
    obtain ⟨hg4, hf⟩ := gd_some hf
    refine g_iaload X dX7_earshot_38 (ok_st hg3) hg4 ?_
    refine g_istore X dX7_earshot_39 (by decide) [(5, .int (I (8 + 1 + Int32.toNatClampNeg x3) (Int32.toNatClampNeg x4))), (0, .ref (V.2.2 0)), (1, .int x1), (2, .int x2), (3, .int x3), (4, .int x4)] rfl ?_
    refine g_iload X dX7_earshot_41 0 rfl ?_
    refine g_iconst X dX7_earshot_43 (v := (-1)) rfl ?_
    refine g_icmp_eq X dX7_earshot_44 (tgt := 68) (by decide) (fun hc5 => ?_) (fun hc5 => ?_)
    · rw [if_pos hc5] at hf
      refine g_sub [1, 2, 3, 4, 5] rfl ?_
      exact wBX7_earshot_68  X hQ k15 hk15 x1 x2 x3 x4  I J hf
    · rw [if_neg hc5] at hf
      refine g_iload X dX7_earshot_47 0 rfl ?_
      refine g_aload_n X dX7_earshot_49 1 rfl ?_
      refine g_get X dX7_earshot_50 okC_0 cl7 2 (by decide) m_289 rfl ?_
      refine g_get X dX7_earshot_53 okC_22 cl1 4 (by decide) m_187 rfl ?_
      refine g_iload_n X dX7_earshot_56 2 rfl ?_
      obtain ⟨hg6, hf⟩ := gd_some hf
      refine g_iaload X dX7_earshot_57 okC_26 hg6 ?_
      refine g_icmp_gt X dX7_earshot_58 (tgt := 68) (by decide) (fun hc7 => ?_) (fun hc7 => ?_)
      · rw [if_pos hc7] at hf
        refine g_sub [1, 2, 3, 4, 5] rfl ?_
        exact wBX7_earshot_68  X hQ k15 hk15 x1 x2 x3 x4  I J hf
      · rw [if_neg hc7] at hf
        refine g_iload_n X dX7_earshot_61 3 rfl ?_
        refine g_iconst X dX7_earshot_62 (v := 1) rfl ?_
        refine g_iload X dX7_earshot_63 5 rfl ?_
        refine g_ishl X dX7_earshot_65 ?_
        refine g_ior X dX7_earshot_66 ?_
        refine g_istore_n X dX7_earshot_67 (by decide) [(2, .int (x2 ||| (1 <<< (x4 &&& 31)))), (5, .int (I (8 + 1 + Int32.toNatClampNeg x3) (Int32.toNatClampNeg x4))), (0, .ref (V.2.2 0)), (1, .int x1), (3, .int x3), (4, .int x4)] rfl ?_
        refine g_sub [2, 3, 0, 4, 5] rfl ?_
        exact wBX7_earshot_68  X hQ k15 hk15 x1 (x2 ||| (1 <<< (x4 &&& 31))) x3 x4  I J hf
set_option maxRecDepth 4000 in
theorem wLX7_earshot_15 {M : MT} {V : VT}  (X : Cx M cS V cX7_earshot 6 RX7 (some .int) 0) {q : RT Int32} (hQ : PI M cS V q)  : ∀ (n : Nat) (x1 : Int32) (x2 : Int32) (x3 : Int32) (x4 : Int32)  (I : aI) (J : aJ), LX7_earshot_15   n x1 x2 x3 x4 I J = some q → Wg M cS V 6 I J 15 [(0, .ref (V.2.2 0)), (1, .int x1), (2, .int x2), (3, .int x3), (4, .int x4)] [] := by
  intro n
  induction n with
  | zero => intro x1 x2 x3 x4  I J hf; cases hf
  | succ n ih => intro x1 x2 x3 x4  I J hf; exact wHX7_earshot_15  X hQ  (LX7_earshot_15   n) ih x1 x2 x3 x4  I J hf
set_option maxRecDepth 4000 in
theorem wX7_earshot {M : MT} {V : VT} (X : Cx M cS V cX7_earshot 6 RX7 (some .int) 0) {q : RT Int32} (hQ : PI M cS V q) (x1 : Int32)  (I : aI) (J : aJ) (hf : fX7_earshot x1 I J = some q) : Wg M cS V 6 I J 0 [(0, .ref (V.2.2 0)), (1, .int x1)] [] := by
  unfold fX7_earshot at hf
  refine g_iconst X dX7_earshot_0 (v := 0) rfl ?_
  refine g_istore_n X dX7_earshot_1 (by decide) [(2, .int 0), (0, .ref (V.2.2 0)), (1, .int x1)] rfl ?_
  refine g_aload_n X dX7_earshot_2 1 rfl ?_
  refine g_get X dX7_earshot_3 okC_0 cl7 2 (by decide) m_289 rfl ?_
  refine g_get X dX7_earshot_6 okC_22 cl1 1 (by decide) m_180 rfl ?_
  refine g_iload_n X dX7_earshot_9 2 rfl ?_
  obtain ⟨hg1, hf⟩ := gd_some hf
  refine g_iaload X dX7_earshot_10 okC_23 hg1 ?_
  refine g_istore_n X dX7_earshot_11 (by decide) [(3, .int (I 23 (Int32.toNatClampNeg x1))), (2, .int 0), (0, .ref (V.2.2 0)), (1, .int x1)] rfl ?_
  refine g_iconst X dX7_earshot_12 (v := 0) rfl ?_
  refine g_istore X dX7_earshot_13 (by decide) [(4, .int 0), (3, .int (I 23 (Int32.toNatClampNeg x1))), (2, .int 0), (0, .ref (V.2.2 0)), (1, .int x1)] rfl ?_
  refine g_sub [3, 4, 2, 1, 0] rfl ?_
  exact wLX7_earshot_15  X hQ  128 x1 0 (I 23 (Int32.toNatClampNeg x1)) 0  I J hf
set_option maxRecDepth 4000 in
theorem cX7_earshot_ok (l : Launch) (V : VT) (x1 : Int32)  (I : aI) (J : aJ) {q : RT Int32} (hf : fX7_earshot x1 I J = some q) : Met l yX7_earshot (.code yX7_earshot cX7_earshot 6 (some .int) :: GG) (rmD 0) (va_Pc [.ref (V.2.2 0), .int x1] (cQ cS V I J)) (QI cS V q) 0 0 (vAd cS V) :=
  met_I (by decide +kernel) rfl (Nat.le_of_ble_eq_true rfl) (fun _ _ X hQ => wX7_earshot X hQ x1  I J hf)
-- X7_possibleCorners
set_option maxRecDepth 4000 in
theorem wBX7_possibleCorners_59 {M : MT} {V : VT}  (X : Cx M cS V cX7_possibleCorners 4 RX7 (some .int) 1) {q : RT Int32} (hQ : PI M cS V q) (k14 : Int32 → Int32 → aI → aJ → Option (RT Int32)) (hk14 : ∀ (x1 : Int32) (x2 : Int32)  (I : aI) (J : aJ), k14 x1 x2 I J = some q → Wg M cS V 4 I J 14 [(0, .ref (V.2.2 0)), (1, .int x1), (2, .int x2)] []) (x2 : Int32) (s0 : Int32) (s1 : Int32)  (I : aI) (J : aJ) (hf : BX7_possibleCorners_59  k14 x2 s0 s1 I J = some q) : Wg M cS V 4 I J 59 [(0, .ref (V.2.2 0)), (2, .int x2)] [.int s0, .int s1] := by
  unfold BX7_possibleCorners_59 at hf
  refine g_iand X dX7_possibleCorners_59 ?_
  refine g_istore_n X dX7_possibleCorners_60 (by decide) [(1, .int (s1 &&& s0)), (0, .ref (V.2.2 0)), (2, .int x2)] rfl ?_
  refine g_iinc X dX7_possibleCorners_61 2 rfl 1 rfl (by decide) [(2, .int (x2 + 1)), (1, .int (s1 &&& s0)), (0, .ref (V.2.2 0))] rfl ?_
  refine g_goto X dX7_possibleCorners_64 (tgt := 14) (by decide) ?_
  refine g_sub [2, 1, 0] rfl ?_
  exact hk14 (s1 &&& s0) (x2 + 1)  I J hf
set_option maxRecDepth 4000 in
theorem wHX7_possibleCorners_14 {M : MT} {V : VT}  (X : Cx M cS V cX7_possibleCorners 4 RX7 (some .int) 1) {q : RT Int32} (hQ : PI M cS V q) (k14 : Int32 → Int32 → aI → aJ → Option (RT Int32)) (hk14 : ∀ (x1 : Int32) (x2 : Int32)  (I : aI) (J : aJ), k14 x1 x2 I J = some q → Wg M cS V 4 I J 14 [(0, .ref (V.2.2 0)), (1, .int x1), (2, .int x2)] []) (x1 : Int32) (x2 : Int32)  (I : aI) (J : aJ) (hf : HX7_possibleCorners_14  k14 x1 x2 I J = some q) : Wg M cS V 4 I J 14 [(0, .ref (V.2.2 0)), (1, .int x1), (2, .int x2)] [] := by
  unfold HX7_possibleCorners_14 at hf
  refine g_iload_n X dX7_possibleCorners_14 2 rfl ?_
  refine g_aload_n X dX7_possibleCorners_15 0 rfl ?_
  refine g_get X dX7_possibleCorners_16 okC_0 cl7 7 (by decide) m_294 rfl ?_
  refine g_get X dX7_possibleCorners_19 okC_38 cl2 0 (by decide) m_229 rfl ?_
  refine g_icmp_ge X dX7_possibleCorners_22 (tgt := 67) (by decide) (fun hc1 => ?_) (fun hc1 => ?_)
  · rw [if_pos hc1] at hf
    refine g_iload_n X dX7_possibleCorners_67 1 rfl ?_
    cases hf
    exact g_ireturn X dX7_possibleCorners_68 hQ
  · rw [if_neg hc1] at hf
    refine g_aload_n X dX7_possibleCorners_25 0 rfl ?_
    refine g_aload_n X dX7_possibleCorners_26 0 rfl ?_
    refine g_get X dX7_possibleCorners_27 okC_0 cl7 7 (by decide) m_294 rfl ?_
    refine g_get X dX7_possibleCorners_30 okC_38 cl2 1 (by decide) m_231 rfl ?_
    refine g_iload_n X dX7_possibleCorners_33 2 rfl ?_
    obtain ⟨hg2, hf⟩ := gd_some hf
    refine g_iaload X dX7_possibleCorners_34 okC_39 hg2 ?_
    obtain ⟨r3, I3, J3, hb3, hf⟩ := bnd_some hf
    refine g_callV X dX7_possibleCorners_35 cw_X7_292 (k := 0) (As := [.int (I 39 (Int32.toNatClampNeg x2))]) (rcv okC_0 cl7) rfl rfl (Nat.le_of_ble_eq_true rfl) (by decide) (cX7_earshot_ok  M.2.1 V (I 39 (Int32.toNatClampNeg x2))  I J hb3) (kI ?_)
    refine g_istore_n X dX7_possibleCorners_38 (by decide) [(3, .int r3), (0, .ref (V.2.2 0)), (1, .int x1), (2, .int x2)] rfl ?_
    refine g_iload_n X dX7_possibleCorners_39 2 rfl ?_
    refine g_aload_n X dX7_possibleCorners_40 1 rfl ?_
    refine g_get X dX7_possibleCorners_41 okC_0 cl7 7 (by decide) m_294 rfl ?_
    refine g_get X dX7_possibleCorners_44 okC_38 cl2 2 (by decide) m_233 rfl ?_
    refine g_iload_n X dX7_possibleCorners_47 3 rfl ?_
    refine g_baload X dX7_possibleCorners_48 okC_40 hg2 ?_
    refine g_if_eq X dX7_possibleCorners_49 (tgt := 56) (by decide) (fun hc4 => ?_) (fun hc4 => ?_)
    · rw [if_pos hc4] at hf
      refine g_iload_n X dX7_possibleCorners_56 0 rfl ?_
      refine g_iconst X dX7_possibleCorners_57 (v := (-1)) rfl ?_
      refine g_ixor X dX7_possibleCorners_58 ?_
      refine g_sub [1, 3] rfl ?_
      exact wBX7_possibleCorners_59  X hQ k14 hk14 x2 (r3 ^^^ (-1)) x1  I3 J3 hf
    · rw [if_neg hc4] at hf
      refine g_iload_n X dX7_possibleCorners_52 0 rfl ?_
      refine g_goto X dX7_possibleCorners_53 (tgt := 59) (by decide) ?_
      refine g_sub [1, 3] rfl ?_
      exact wBX7_possibleCorners_59  X hQ k14 hk14 x2 r3 x1  I3 J3 hf
set_option maxRecDepth 4000 in
theorem wLX7_possibleCorners_14 {M : MT} {V : VT}  (X : Cx M cS V cX7_possibleCorners 4 RX7 (some .int) 1) {q : RT Int32} (hQ : PI M cS V q)  : ∀ (n : Nat) (x1 : Int32) (x2 : Int32)  (I : aI) (J : aJ), LX7_possibleCorners_14   n x1 x2 I J = some q → Wg M cS V 4 I J 14 [(0, .ref (V.2.2 0)), (1, .int x1), (2, .int x2)] [] := by
  intro n
  induction n with
  | zero => intro x1 x2  I J hf; cases hf
  | succ n ih => intro x1 x2  I J hf; exact wHX7_possibleCorners_14  X hQ  (LX7_possibleCorners_14   n) ih x1 x2  I J hf
set_option maxRecDepth 4000 in
theorem wX7_possibleCorners {M : MT} {V : VT} (X : Cx M cS V cX7_possibleCorners 4 RX7 (some .int) 1) {q : RT Int32} (hQ : PI M cS V q)   (I : aI) (J : aJ) (hf : fX7_possibleCorners  I J = some q) : Wg M cS V 4 I J 0 [(0, .ref (V.2.2 0))] [] := by
  unfold fX7_possibleCorners at hf
  refine g_iconst X dX7_possibleCorners_0 (v := 1) rfl ?_
  refine g_aload_n X dX7_possibleCorners_1 0 rfl ?_
  refine g_get X dX7_possibleCorners_2 okC_0 cl7 1 (by decide) m_288 rfl ?_
  refine g_get X dX7_possibleCorners_5 okC_3 cl6 0 (by decide) m_134 rfl ?_
  refine g_ishl X dX7_possibleCorners_8 ?_
  refine g_iconst X dX7_possibleCorners_9 (v := 1) rfl ?_
  refine g_isub X dX7_possibleCorners_10 ?_
  refine g_istore_n X dX7_possibleCorners_11 (by decide) [(1, .int ((1 <<< ((I 3 0) &&& 31)) - 1)), (0, .ref (V.2.2 0))] rfl ?_
  refine g_iconst X dX7_possibleCorners_12 (v := 0) rfl ?_
  refine g_istore_n X dX7_possibleCorners_13 (by decide) [(2, .int 0), (1, .int ((1 <<< ((I 3 0) &&& 31)) - 1)), (0, .ref (V.2.2 0))] rfl ?_
  refine g_sub [2, 1, 0] rfl ?_
  exact wLX7_possibleCorners_14  X hQ  128 ((1 <<< ((I 3 0) &&& 31)) - 1) 0  I J hf
set_option maxRecDepth 4000 in
theorem cX7_possibleCorners_ok (l : Launch) (V : VT)   (I : aI) (J : aJ) {q : RT Int32} (hf : fX7_possibleCorners  I J = some q) : Met l yX7_possibleCorners (.code yX7_possibleCorners cX7_possibleCorners 4 (some .int) :: GG) (rmD 1) (va_Pc [.ref (V.2.2 0)] (cQ cS V I J)) (QI cS V q) 0 0 (vAd cS V) :=
  met_I (by decide +kernel) rfl (Nat.le_of_ble_eq_true rfl) (fun _ _ X hQ => wX7_possibleCorners X hQ   I J hf)
-- X7_bestWitness
set_option maxRecDepth 4000 in
theorem wBX7_bestWitness_71 {M : MT} {V : VT}  (X : Cx M cS V cX7_bestWitness 8 RX7 (some .int) 1) {q : RT Int32} (hQ : PI M cS V q) (k21 : Int32 → Int32 → Int32 → Int32 → Int32 → aI → aJ → Option (RT Int32)) (hk21 : ∀ (x1 : Int32) (x2 : Int32) (x3 : Int32) (x4 : Int32) (x5 : Int32)  (I : aI) (J : aJ), k21 x1 x2 x3 x4 x5 I J = some q → Wg M cS V 8 I J 21 [(0, .ref (V.2.2 0)), (1, .int x1), (2, .int x2), (3, .int x3), (4, .int x4), (5, .int x5)] []) (x1 : Int32) (x2 : Int32) (x3 : Int32) (x4 : Int32) (x5 : Int32)  (I : aI) (J : aJ) (hf : BX7_bestWitness_71  k21 x1 x2 x3 x4 x5 I J = some q) : Wg M cS V 8 I J 71 [(0, .ref (V.2.2 0)), (1, .int x1), (2, .int x2), (3, .int x3), (4, .int x4), (5, .int x5)] [] := by
  unfold BX7_bestWitness_71 at hf
  refine g_iinc X dX7_bestWitness_71 5 rfl 1 rfl (by decide) [(5, .int (x5 + 1)), (0, .ref (V.2.2 0)), (1, .int x1), (2, .int x2), (3, .int x3), (4, .int x4)] rfl ?_
  refine g_goto X dX7_bestWitness_74 (tgt := 21) (by decide) ?_
  refine g_sub [1, 2, 3, 4, 5, 0] rfl ?_
  exact hk21 x1 x2 x3 x4 (x5 + 1)  I J hf
set_option maxRecDepth 4000 in
theorem wHX7_bestWitness_21 {M : MT} {V : VT}  (X : Cx M cS V cX7_bestWitness 8 RX7 (some .int) 1) {q : RT Int32} (hQ : PI M cS V q) (k21 : Int32 → Int32 → Int32 → Int32 → Int32 → aI → aJ → Option (RT Int32)) (hk21 : ∀ (x1 : Int32) (x2 : Int32) (x3 : Int32) (x4 : Int32) (x5 : Int32)  (I : aI) (J : aJ), k21 x1 x2 x3 x4 x5 I J = some q → Wg M cS V 8 I J 21 [(0, .ref (V.2.2 0)), (1, .int x1), (2, .int x2), (3, .int x3), (4, .int x4), (5, .int x5)] []) (x1 : Int32) (x2 : Int32) (x3 : Int32) (x4 : Int32) (x5 : Int32)  (I : aI) (J : aJ) (hf : HX7_bestWitness_21  k21 x1 x2 x3 x4 x5 I J = some q) : Wg M cS V 8 I J 21 [(0, .ref (V.2.2 0)), (1, .int x1), (2, .int x2), (3, .int x3), (4, .int x4), (5, .int x5)] [] := by
  unfold HX7_bestWitness_21 at hf
  refine g_iload X dX7_bestWitness_21 5 rfl ?_
  refine g_aload_n X dX7_bestWitness_23 0 rfl ?_
  refine g_get X dX7_bestWitness_24 okC_0 cl7 2 (by decide) m_289 rfl ?_
  refine g_get X dX7_bestWitness_27 okC_22 cl1 0 (by decide) m_177 rfl ?_
  refine g_icmp_ge X dX7_bestWitness_30 (tgt := 77) (by decide) (fun hc3 => ?_) (fun hc3 => ?_)
  · rw [if_pos hc3] at hf
    refine g_iload_n X dX7_bestWitness_77 3 rfl ?_
    cases hf
    exact g_ireturn X dX7_bestWitness_78 hQ
  · rw [if_neg hc3] at hf
    refine g_iload_n X dX7_bestWitness_33 1 rfl ?_
    refine g_aload_n X dX7_bestWitness_34 0 rfl ?_
    refine g_iload X dX7_bestWitness_35 5 rfl ?_
    obtain ⟨r4, I4, J4, hb4, hf⟩ := bnd_some hf
    refine g_callV X dX7_bestWitness_37 cw_X7_292 (k := 0) (As := [.int x5]) (rcv okC_0 cl7) rfl rfl (Nat.le_of_ble_eq_true rfl) (by decide) (cX7_earshot_ok  M.2.1 V x5  I J hb4) (kI ?_)
    refine g_iand X dX7_bestWitness_40 ?_
    obtain ⟨r5, I5, J5, hb5, hf⟩ := bnd_some hf
    refine g_callS X dX7_bestWitness_41 sw_X7_299 (As := [.int (x1 &&& r4)]) rfl rfl (Nat.le_of_ble_eq_true rfl) (by decide) (cJ6_bitCount_0f7a4_ok  M.2.1 V (x1 &&& r4)  I4 J4 hb5) (kI ?_)
    refine g_istore X dX7_bestWitness_44 (by decide) [(6, .int r5), (0, .ref (V.2.2 0)), (1, .int x1), (2, .int x2), (3, .int x3), (4, .int x4), (5, .int x5)] rfl ?_
    refine g_iload X dX7_bestWitness_46 0 rfl ?_
    refine g_iload_n X dX7_bestWitness_48 3 rfl ?_
    refine g_iload X dX7_bestWitness_49 0 rfl ?_
    refine g_isub X dX7_bestWitness_51 ?_
    refine g_mmax X dX7_bestWitness_52 m_740 m_408 m_81 m_409 (Nat.le_of_ble_eq_true rfl) (by decide) ?_
    refine g_istore X dX7_bestWitness_55 (by decide) [(7, .int (if r5 < (x2 - r5) then (x2 - r5) else r5)), (6, .int r5), (0, .ref (V.2.2 0)), (1, .int x1), (2, .int x2), (3, .int x3), (4, .int x4), (5, .int x5)] rfl ?_
    refine g_iload X dX7_bestWitness_57 0 rfl ?_
    refine g_iload X dX7_bestWitness_59 6 rfl ?_
    refine g_icmp_ge X dX7_bestWitness_61 (tgt := 71) (by decide) (fun hc6 => ?_) (fun hc6 => ?_)
    · rw [if_pos hc6] at hf
      refine g_sub [2, 3, 4, 5, 6, 7] rfl ?_
      exact wBX7_bestWitness_71  X hQ k21 hk21 x1 x2 x3 x4 x5  I5 J5 hf
    · rw [if_neg hc6] at hf
      refine g_iload X dX7_bestWitness_64 0 rfl ?_
      refine g_istore X dX7_bestWitness_66 (by decide) [(4, .int (if r5 < (x2 - r5) then (x2 - r5) else r5)), (7, .int (if r5 < (x2 - r5) then (x2 - r5) else r5)), (6, .int r5), (0, .ref (V.2.2 0)), (1, .int x1), (2, .int x2), (3, .int x3), (5, .int x5)] rfl ?_
      refine g_iload X dX7_bestWitness_68 7 rfl ?_
      refine g_istore_n X dX7_bestWitness_70 (by decide) [(3, .int x5), (4, .int (if r5 < (x2 - r5) then (x2 - r5) else r5)), (7, .int (if r5 < (x2 - r5) then (x2 - r5) else r5)), (6, .int r5), (0, .ref (V.2.2 0)), (1, .int x1), (2, .int x2), (5, .int x5)] rfl ?_
      refine g_sub [4, 5, 6, 0, 1, 7] rfl ?_
      exact wBX7_bestWitness_71  X hQ k21 hk21 x1 x2 x5 (if r5 < (x2 - r5) then (x2 - r5) else r5) x5  I5 J5 hf
set_option maxRecDepth 4000 in
theorem wLX7_bestWitness_21 {M : MT} {V : VT}  (X : Cx M cS V cX7_bestWitness 8 RX7 (some .int) 1) {q : RT Int32} (hQ : PI M cS V q)  : ∀ (n : Nat) (x1 : Int32) (x2 : Int32) (x3 : Int32) (x4 : Int32) (x5 : Int32)  (I : aI) (J : aJ), LX7_bestWitness_21   n x1 x2 x3 x4 x5 I J = some q → Wg M cS V 8 I J 21 [(0, .ref (V.2.2 0)), (1, .int x1), (2, .int x2), (3, .int x3), (4, .int x4), (5, .int x5)] [] := by
  intro n
  induction n with
  | zero => intro x1 x2 x3 x4 x5  I J hf; cases hf
  | succ n ih => intro x1 x2 x3 x4 x5  I J hf; exact wHX7_bestWitness_21  X hQ  (LX7_bestWitness_21   n) ih x1 x2 x3 x4 x5  I J hf
set_option maxRecDepth 4000 in
theorem wX7_bestWitness {M : MT} {V : VT} (X : Cx M cS V cX7_bestWitness 8 RX7 (some .int) 1) {q : RT Int32} (hQ : PI M cS V q) (x1 : Int32)  (I : aI) (J : aJ) (hf : fX7_bestWitness x1 I J = some q) : Wg M cS V 8 I J 0 [(0, .ref (V.2.2 0)), (1, .int x1)] [] := by
  unfold fX7_bestWitness at hf
  refine g_iload_n X dX7_bestWitness_0 1 rfl ?_
  obtain ⟨r1, I1, J1, hb1, hf⟩ := bnd_some hf
  refine g_callS X dX7_bestWitness_1 sw_X7_299 (As := [.int x1]) rfl rfl (Nat.le_of_ble_eq_true rfl) (by decide) (cJ6_bitCount_0f7a4_ok  M.2.1 V x1  I J hb1) (kI ?_)
  refine g_istore_n X dX7_bestWitness_4 (by decide) [(2, .int r1), (0, .ref (V.2.2 0)), (1, .int x1)] rfl ?_
  refine g_iload_n X dX7_bestWitness_5 0 rfl ?_
  refine g_if_ne X dX7_bestWitness_6 (tgt := 11) (by decide) (fun hc2 => ?_) (fun hc2 => ?_)
  · rw [if_neg hc2] at hf
    refine g_iconst X dX7_bestWitness_11 (v := (-1)) rfl ?_
    refine g_istore_n X dX7_bestWitness_12 (by decide) [(3, .int (-1)), (2, .int r1), (0, .ref (V.2.2 0)), (1, .int x1)] rfl ?_
    refine g_iload_n X dX7_bestWitness_13 1 rfl ?_
    refine g_iconst X dX7_bestWitness_14 (v := 1) rfl ?_
    refine g_iadd X dX7_bestWitness_15 ?_
    refine g_istore X dX7_bestWitness_16 (by decide) [(4, .int (r1 + 1)), (3, .int (-1)), (2, .int r1), (0, .ref (V.2.2 0)), (1, .int x1)] rfl ?_
    refine g_iconst X dX7_bestWitness_18 (v := 0) rfl ?_
    refine g_istore X dX7_bestWitness_19 (by decide) [(5, .int 0), (4, .int (r1 + 1)), (3, .int (-1)), (2, .int r1), (0, .ref (V.2.2 0)), (1, .int x1)] rfl ?_
    refine g_sub [4, 5, 3, 2, 1, 0] rfl ?_
    exact wLX7_bestWitness_21  X hQ  128 x1 r1 (-1) (r1 + 1) 0  I1 J1 hf
  · rw [if_pos hc2] at hf
    refine g_iconst X dX7_bestWitness_9 (v := (-1)) rfl ?_
    cases hf
    exact g_ireturn X dX7_bestWitness_10 hQ
set_option maxRecDepth 4000 in
theorem cX7_bestWitness_ok (l : Launch) (V : VT) (x1 : Int32)  (I : aI) (J : aJ) {q : RT Int32} (hf : fX7_bestWitness x1 I J = some q) : Met l yX7_bestWitness (.code yX7_bestWitness cX7_bestWitness 8 (some .int) :: GG) (rmD 1) (va_Pc [.ref (V.2.2 0), .int x1] (cQ cS V I J)) (QI cS V q) 0 0 (vAd cS V) :=
  met_I (by decide +kernel) rfl (Nat.le_of_ble_eq_true rfl) (fun _ _ X hQ => wX7_bestWitness X hQ x1  I J hf)
-- X7_ask
set_option maxRecDepth 4000 in
theorem wBX7_ask_20 {M : MT} {V : VT}  (X : Cx M cS V cX7_ask 1 RX7 (some .int) 2) {q : RT Int32} (hQ : PI M cS V q)  (s0 : Int32)  (I : aI) (J : aJ) (hf : BX7_ask_20   s0 I J = some q) : Wg M cS V 1 I J 20 [] [.int s0] := by
  unfold BX7_ask_20 at hf
  cases hf
  exact g_ireturn X dX7_ask_20 hQ
set_option maxRecDepth 4000 in
theorem wX7_ask {M : MT} {V : VT} (X : Cx M cS V cX7_ask 1 RX7 (some .int) 2) {q : RT Int32} (hQ : PI M cS V q)   (I : aI) (J : aJ) (hf : fX7_ask  I J = some q) : Wg M cS V 1 I J 0 [(0, .ref (V.2.2 0))] [] := by
  unfold fX7_ask at hf
  refine g_aload_n X dX7_ask_0 0 rfl ?_
  obtain ⟨r1, I1, J1, hb1, hf⟩ := bnd_some hf
  refine g_callV X dX7_ask_1 cw_X7_190 (k := 0) (As := []) (rcv okC_0 cl7) rfl rfl (Nat.le_of_ble_eq_true rfl) (by decide) (cX7_hasSuburb_ok  M.2.1 V   I J hb1) (kI ?_)
  refine g_if_eq X dX7_ask_4 (tgt := 18) (by decide) (fun hc2 => ?_) (fun hc2 => ?_)
  · rw [if_pos hc2] at hf
    refine g_bipush X dX7_ask_18 (v := (-103)) rfl ?_
    refine g_sub [] rfl ?_
    exact wBX7_ask_20  X hQ  (-103)  I1 J1 hf
  · rw [if_neg hc2] at hf
    refine g_aload_n X dX7_ask_7 0 rfl ?_
    refine g_aload_n X dX7_ask_8 0 rfl ?_
    obtain ⟨r3, I3, J3, hb3, hf⟩ := bnd_some hf
    refine g_callV X dX7_ask_9 cw_X7_225 (k := 0) (As := []) (rcv okC_0 cl7) rfl rfl (Nat.le_of_ble_eq_true rfl) (by decide) (cX7_possibleCorners_ok  M.2.1 V   I1 J1 hb3) (kI ?_)
    obtain ⟨r4, I4, J4, hb4, hf⟩ := bnd_some hf
    refine g_callV X dX7_ask_12 cw_X7_228 (k := 0) (As := [.int r3]) (rcv okC_0 cl7) rfl rfl (Nat.le_of_ble_eq_true rfl) (by decide) (cX7_bestWitness_ok  M.2.1 V r3  I3 J3 hb4) (kI ?_)
    refine g_goto X dX7_ask_15 (tgt := 20) (by decide) ?_
    refine g_sub [] rfl ?_
    exact wBX7_ask_20  X hQ  r4  I4 J4 hf
set_option maxRecDepth 4000 in
theorem cX7_ask_ok (l : Launch) (V : VT)   (I : aI) (J : aJ) {q : RT Int32} (hf : fX7_ask  I J = some q) : Met l yX7_ask (.code yX7_ask cX7_ask 1 (some .int) :: GG) (rmD 2) (va_Pc [.ref (V.2.2 0)] (cQ cS V I J)) (QI cS V q) 0 0 (vAd cS V) :=
  met_I (by decide +kernel) rfl (Nat.le_of_ble_eq_true rfl) (fun _ _ X hQ => wX7_ask X hQ   I J hf)
-- X7_blank
set_option maxRecDepth 4000 in
theorem wX7_blank {M : MT} {V : VT} (X : Cx M cS V cX7_blank 2 RX7 (some .int) 0) {q : RT Int32} (hQ : PI M cS V q)   (I : aI) (J : aJ) (hf : fX7_blank  I J = some q) : Wg M cS V 2 I J 0 [(0, .ref (V.2.2 0))] [] := by
  unfold fX7_blank at hf
  refine g_aload_n X dX7_blank_0 0 rfl ?_
  refine g_get X dX7_blank_1 okC_0 cl7 0 (by decide) m_287 rfl ?_
  refine g_get X dX7_blank_4 okC_1 cl3 1 (by decide) m_104 rfl ?_
  refine g_istore_n X dX7_blank_7 (by decide) [(1, .int (I 1 1)), (0, .ref (V.2.2 0))] rfl ?_
  refine g_aload_n X dX7_blank_8 1 rfl ?_
  refine g_get X dX7_blank_9 okC_0 cl7 0 (by decide) m_287 rfl ?_
  refine g_iconst X dX7_blank_12 (v := 0) rfl ?_
  refine g_putI X dX7_blank_13 okC_1 cl3 1 (by decide) m_104 rfl .int rfl rfl rfl (Nat.le_of_ble_eq_true rfl) (fun _ _ => rfl) ?_
  refine g_iload_n X dX7_blank_16 0 rfl ?_
  cases hf
  exact g_ireturn X dX7_blank_17 hQ
set_option maxRecDepth 4000 in
theorem cX7_blank_ok (l : Launch) (V : VT)   (I : aI) (J : aJ) {q : RT Int32} (hf : fX7_blank  I J = some q) : Met l yX7_blank (.code yX7_blank cX7_blank 2 (some .int) :: GG) (rmD 0) (va_Pc [.ref (V.2.2 0)] (cQ cS V I J)) (QI cS V q) 0 0 (vAd cS V) :=
  met_I (by decide +kernel) rfl (Nat.le_of_ble_eq_true rfl) (fun _ _ X hQ => wX7_blank X hQ   I J hf)
-- X7_call
set_option maxRecDepth 4000 in
theorem wBX7_call_41 {M : MT} {V : VT}  (X : Cx M cS V cX7_call 6 RX7 (some .int) 2) {q : RT Int32} (hQ : PI M cS V q)    (I : aI) (J : aJ) (hf : BX7_call_41    I J = some q) : Wg M cS V 6 I J 41 [] [] := by
  unfold BX7_call_41 at hf
  refine g_bipush X dX7_call_41 (v := (-102)) rfl ?_
  cases hf
  exact g_ireturn X dX7_call_43 hQ
set_option maxRecDepth 4000 in
theorem wX7_call {M : MT} {V : VT} (X : Cx M cS V cX7_call 6 RX7 (some .int) 2) {q : RT Int32} (hQ : PI M cS V q) (x1 : Int32) (x2 : Int32) (x3 : Int32) (x4 : Int32)  (I : aI) (J : aJ) (hf : fX7_call x1 x2 x3 x4 I J = some q) : Wg M cS V 6 I J 0 [(0, .ref (V.2.2 0)), (1, .int x1), (2, .int x2), (3, .int x3), (4, .int x4)] [] := by
  unfold fX7_call at hf
  refine g_aload_n X dX7_call_0 0 rfl ?_
  refine g_iload_n X dX7_call_1 1 rfl ?_
  obtain ⟨r1, I1, J1, hb1, hf⟩ := bnd_some hf
  refine g_callV X dX7_call_2 cw_X7_114 (k := 0) (As := [.int x1]) (rcv okC_0 cl7) rfl rfl (Nat.le_of_ble_eq_true rfl) (by decide) (cX7_isPerson_ok  M.2.1 V x1  I J hb1) (kI ?_)
  refine g_if_ne X dX7_call_5 (tgt := 11) (by decide) (fun hc2 => ?_) (fun hc2 => ?_)
  · rw [if_neg hc2] at hf
    refine g_iload_n X dX7_call_11 2 rfl ?_
    refine g_iconst X dX7_call_12 (v := 0) rfl ?_
    refine g_iconst X dX7_call_13 (v := 4) rfl ?_
    obtain ⟨r3, I3, J3, hb3, hf⟩ := bnd_some hf
    refine g_callS X dX7_call_14 sw_X7_70 (As := [.int x2, .int 0, .int 4]) rfl rfl (Nat.le_of_ble_eq_true rfl) (by decide) (cX7_isWithin_ok  M.2.1 V x2 0 4  I1 J1 hb3) (kI ?_)
    refine g_if_eq X dX7_call_17 (tgt := 41) (by decide) (fun hc4 => ?_) (fun hc4 => ?_)
    · rw [if_pos hc4] at hf
      refine g_sub [] rfl ?_
      exact wBX7_call_41  X hQ    I3 J3 hf
    · rw [if_neg hc4] at hf
      refine g_iload_n X dX7_call_20 3 rfl ?_
      refine g_iconst X dX7_call_21 (v := 0) rfl ?_
      refine g_bipush X dX7_call_22 (v := 9) rfl ?_
      obtain ⟨r5, I5, J5, hb5, hf⟩ := bnd_some hf
      refine g_callS X dX7_call_24 sw_X7_70 (As := [.int x3, .int 0, .int 9]) rfl rfl (Nat.le_of_ble_eq_true rfl) (by decide) (cX7_isWithin_ok  M.2.1 V x3 0 9  I3 J3 hb5) (kI ?_)
      refine g_if_eq X dX7_call_27 (tgt := 41) (by decide) (fun hc6 => ?_) (fun hc6 => ?_)
      · rw [if_pos hc6] at hf
        refine g_sub [] rfl ?_
        exact wBX7_call_41  X hQ    I5 J5 hf
      · rw [if_neg hc6] at hf
        refine g_iload X dX7_call_30 4 rfl ?_
        refine g_iconst X dX7_call_32 (v := 0) rfl ?_
        refine g_bipush X dX7_call_33 (v := 9) rfl ?_
        obtain ⟨r7, I7, J7, hb7, hf⟩ := bnd_some hf
        refine g_callS X dX7_call_35 sw_X7_70 (As := [.int x4, .int 0, .int 9]) rfl rfl (Nat.le_of_ble_eq_true rfl) (by decide) (cX7_isWithin_ok  M.2.1 V x4 0 9  I5 J5 hb7) (kI ?_)
        refine g_if_ne X dX7_call_38 (tgt := 44) (by decide) (fun hc8 => ?_) (fun hc8 => ?_)
        · rw [if_neg hc8] at hf
          refine g_aload_n X dX7_call_44 0 rfl ?_
          refine g_get X dX7_call_45 okC_0 cl7 2 (by decide) m_289 rfl ?_
          refine g_get X dX7_call_48 okC_22 cl1 2 (by decide) m_183 rfl ?_
          refine g_iload_n X dX7_call_51 1 rfl ?_
          obtain ⟨hg9, hf⟩ := gd_some hf
          refine g_iaload X dX7_call_52 okC_24 hg9 ?_
          refine g_istore X dX7_call_53 (by decide) [(5, .int (I7 24 (Int32.toNatClampNeg x1))), (0, .ref (V.2.2 0)), (1, .int x1), (2, .int x2), (3, .int x3), (4, .int x4)] rfl ?_
          refine g_aload_n X dX7_call_55 1 rfl ?_
          refine g_get X dX7_call_56 okC_0 cl7 2 (by decide) m_289 rfl ?_
          refine g_get X dX7_call_59 okC_22 cl1 2 (by decide) m_183 rfl ?_
          refine g_iload_n X dX7_call_62 2 rfl ?_
          refine g_iload_n X dX7_call_63 3 rfl ?_
          refine g_iastore X dX7_call_64 okC_24 hg9 ?_
          refine g_aload_n X dX7_call_65 1 rfl ?_
          refine g_get X dX7_call_66 okC_0 cl7 2 (by decide) m_289 rfl ?_
          refine g_get X dX7_call_69 okC_22 cl1 3 (by decide) m_185 rfl ?_
          refine g_iload_n X dX7_call_72 2 rfl ?_
          refine g_iload_n X dX7_call_73 4 rfl ?_
          refine g_iastore X dX7_call_74 okC_25 hg9 ?_
          refine g_aload_n X dX7_call_75 1 rfl ?_
          refine g_get X dX7_call_76 okC_0 cl7 2 (by decide) m_289 rfl ?_
          refine g_get X dX7_call_79 okC_22 cl1 4 (by decide) m_187 rfl ?_
          refine g_iload_n X dX7_call_82 2 rfl ?_
          refine g_iload X dX7_call_83 5 rfl ?_
          refine g_iastore X dX7_call_85 okC_26 hg9 ?_
          refine g_aload_n X dX7_call_86 1 rfl ?_
          refine g_get X dX7_call_87 okC_0 cl7 4 (by decide) m_291 rfl ?_
          refine g_iload_n X dX7_call_90 2 rfl ?_
          obtain ⟨r10, I10, J10, hb10, hf⟩ := bnd_some hf
          refine g_callV X dX7_call_91 cw_X7_187 (k := 32) (As := [.int x1]) (rcv okC_32 cl0) rfl rfl (Nat.le_of_ble_eq_true rfl) (by decide) (cX0_forgo_ok  M.2.1 V 32 x1 okC_32 (pI (pI (pI I7 24 (Int32.toNatClampNeg x1) x2) 25 (Int32.toNatClampNeg x1) x3) 26 (Int32.toNatClampNeg x1) x4) J7 hb10) (kV ?_)
          refine g_iload X dX7_call_94 0 rfl ?_
          cases hf
          exact g_ireturn X dX7_call_96 hQ
        · rw [if_pos hc8] at hf
          refine g_sub [] rfl ?_
          exact wBX7_call_41  X hQ    I7 J7 hf
  · rw [if_pos hc2] at hf
    refine g_bipush X dX7_call_8 (v := (-101)) rfl ?_
    cases hf
    exact g_ireturn X dX7_call_10 hQ
set_option maxRecDepth 4000 in
theorem cX7_call_ok (l : Launch) (V : VT) (x1 : Int32) (x2 : Int32) (x3 : Int32) (x4 : Int32)  (I : aI) (J : aJ) {q : RT Int32} (hf : fX7_call x1 x2 x3 x4 I J = some q) : Met l yX7_call (.code yX7_call cX7_call 6 (some .int) :: GG) (rmD 2) (va_Pc [.ref (V.2.2 0), .int x1, .int x2, .int x3, .int x4] (cQ cS V I J)) (QI cS V q) 0 0 (vAd cS V) :=
  met_I (by decide +kernel) rfl (Nat.le_of_ble_eq_true rfl) (fun _ _ X hQ => wX7_call X hQ x1 x2 x3 x4  I J hf)
-- X7_isCorner
set_option maxRecDepth 4000 in
theorem wX7_isCorner {M : MT} {V : VT} (X : Cx M cS V cX7_isCorner 2 RX7 (some .boolean) 1) {q : RT Int32} (hQ : PI M cS V q) (x1 : Int32)  (I : aI) (J : aJ) (hf : fX7_isCorner x1 I J = some q) : Wg M cS V 2 I J 0 [(0, .ref (V.2.2 0)), (1, .int x1)] [] := by
  unfold fX7_isCorner at hf
  refine g_iload_n X dX7_isCorner_0 1 rfl ?_
  refine g_iconst X dX7_isCorner_1 (v := 0) rfl ?_
  refine g_aload_n X dX7_isCorner_2 0 rfl ?_
  refine g_get X dX7_isCorner_3 okC_0 cl7 1 (by decide) m_288 rfl ?_
  refine g_get X dX7_isCorner_6 okC_3 cl6 0 (by decide) m_134 rfl ?_
  refine g_iconst X dX7_isCorner_9 (v := 1) rfl ?_
  refine g_isub X dX7_isCorner_10 ?_
  obtain ⟨r1, I1, J1, hb1, hf⟩ := bnd_some hf
  refine g_callS X dX7_isCorner_11 sw_X7_70 (As := [.int x1, .int 0, .int ((I 3 0) - 1)]) rfl rfl (Nat.le_of_ble_eq_true rfl) (by decide) (cX7_isWithin_ok  M.2.1 V x1 0 ((I 3 0) - 1)  I J hb1) (kI ?_)
  obtain ⟨hg2, hf⟩ := gd_some hf
  cases hf
  exact g_zreturn X dX7_isCorner_14 (of_decide_eq_true hg2) hQ
set_option maxRecDepth 4000 in
theorem cX7_isCorner_ok (l : Launch) (V : VT) (x1 : Int32)  (I : aI) (J : aJ) {q : RT Int32} (hf : fX7_isCorner x1 I J = some q) : Met l yX7_isCorner (.code yX7_isCorner cX7_isCorner 2 (some .boolean) :: GG) (rmD 1) (va_Pc [.ref (V.2.2 0), .int x1] (cQ cS V I J)) (QI cS V q) 0 0 (vAd cS V) :=
  met_I (by decide +kernel) rfl (Nat.le_of_ble_eq_true rfl) (fun _ _ X hQ => wX7_isCorner X hQ x1  I J hf)
-- X7_corner
set_option maxRecDepth 4000 in
theorem wX7_corner {M : MT} {V : VT} (X : Cx M cS V cX7_corner 3 RX7 (some .int) 2) {q : RT Int32} (hQ : PI M cS V q) (x1 : Int32) (x2 : Int32)  (I : aI) (J : aJ) (hf : fX7_corner x1 x2 I J = some q) : Wg M cS V 3 I J 0 [(0, .ref (V.2.2 0)), (1, .int x1), (2, .int x2)] [] := by
  unfold fX7_corner at hf
  refine g_aload_n X dX7_corner_0 0 rfl ?_
  refine g_iload_n X dX7_corner_1 1 rfl ?_
  obtain ⟨r1, I1, J1, hb1, hf⟩ := bnd_some hf
  refine g_callV X dX7_corner_2 cw_X7_158 (k := 0) (As := [.int x1]) (rcv okC_0 cl7) rfl rfl (Nat.le_of_ble_eq_true rfl) (by decide) (cX7_isCorner_ok  M.2.1 V x1  I J hb1) (kI ?_)
  refine g_if_ne X dX7_corner_5 (tgt := 11) (by decide) (fun hc2 => ?_) (fun hc2 => ?_)
  · rw [if_neg hc2] at hf
    refine g_iload_n X dX7_corner_11 2 rfl ?_
    refine g_iconst X dX7_corner_12 (v := 0) rfl ?_
    refine g_iconst X dX7_corner_13 (v := 3) rfl ?_
    obtain ⟨r3, I3, J3, hb3, hf⟩ := bnd_some hf
    refine g_callS X dX7_corner_14 sw_X7_70 (As := [.int x2, .int 0, .int 3]) rfl rfl (Nat.le_of_ble_eq_true rfl) (by decide) (cX7_isWithin_ok  M.2.1 V x2 0 3  I1 J1 hb3) (kI ?_)
    refine g_if_ne X dX7_corner_17 (tgt := 23) (by decide) (fun hc4 => ?_) (fun hc4 => ?_)
    · rw [if_neg hc4] at hf
      refine g_iload_n X dX7_corner_23 2 rfl ?_
      by_cases hs5 : x2 = 0
      · rw [if_pos hs5] at hf
        refine g_tin X dX7_corner_24 hs5 (by decide) (by decide) rfl (tgt := 52) (by decide) ?_
        refine g_aload_n X dX7_corner_52 0 rfl ?_
        refine g_get X dX7_corner_53 okC_0 cl7 1 (by decide) m_288 rfl ?_
        refine g_get X dX7_corner_56 okC_3 cl6 4 (by decide) m_146 rfl ?_
        refine g_iload_n X dX7_corner_59 1 rfl ?_
        obtain ⟨hg6, hf⟩ := gd_some hf
        refine g_iaload X dX7_corner_60 okC_6 hg6 ?_
        refine g_iconst X dX7_corner_61 (v := 1) rfl ?_
        refine g_iload_n X dX7_corner_62 1 rfl ?_
        refine g_ishl X dX7_corner_63 ?_
        refine g_iconst X dX7_corner_64 (v := (-1)) rfl ?_
        refine g_ixor X dX7_corner_65 ?_
        refine g_iand X dX7_corner_66 ?_
        cases hf
        exact g_ireturn X dX7_corner_67 hQ
      rw [if_neg hs5] at hf
      by_cases hs7 : x2 = 1
      · rw [if_pos hs7] at hf
        refine g_tin X dX7_corner_24 hs7 (by decide) (by decide) rfl (tgt := 68) (by decide) ?_
        refine g_aload_n X dX7_corner_68 0 rfl ?_
        refine g_get X dX7_corner_69 okC_0 cl7 2 (by decide) m_289 rfl ?_
        refine g_iload_n X dX7_corner_72 1 rfl ?_
        obtain ⟨r8, I8, J8, hb8, hf⟩ := bnd_some hf
        refine g_callV X dX7_corner_73 cw_X7_164 (k := 22) (As := [.int x1]) (rcv okC_22 cl1) rfl rfl (Nat.le_of_ble_eq_true rfl) (by decide) (cX1_whoLivesAt_ok  M.2.1 V 22 x1 okC_22 I3 J3 hb8) (kI ?_)
        cases hf
        exact g_ireturn X dX7_corner_76 hQ
      rw [if_neg hs7] at hf
      by_cases hs9 : x2 = 2
      · rw [if_pos hs9] at hf
        refine g_tin X dX7_corner_24 hs9 (by decide) (by decide) rfl (tgt := 77) (by decide) ?_
        refine g_aload_n X dX7_corner_77 0 rfl ?_
        refine g_get X dX7_corner_78 okC_0 cl7 1 (by decide) m_288 rfl ?_
        refine g_get X dX7_corner_81 okC_3 cl6 6 (by decide) m_150 rfl ?_
        refine g_iload_n X dX7_corner_84 1 rfl ?_
        obtain ⟨hg10, hf⟩ := gd_some hf
        refine g_aaloadG X dX7_corner_85 okC_8 hg10 ?_
        refine g_aload_n X dX7_corner_86 0 rfl ?_
        refine g_get X dX7_corner_87 okC_0 cl7 4 (by decide) m_291 rfl ?_
        refine g_get X dX7_corner_90 okC_32 cl0 0 (by decide) m_207 rfl ?_
        obtain ⟨hg11, hf⟩ := gd_some hf
        refine g_iaload X dX7_corner_93 (ok_st hg10) hg11 ?_
        cases hf
        exact g_ireturn X dX7_corner_94 hQ
      rw [if_neg hs9] at hf
      refine g_tout X dX7_corner_24 (by have a0 := lv_neT (a := 0) hs5 rfl; have a1 := lv_neT (a := 1) hs7 rfl; have a2 := lv_neT (a := 2) hs9 rfl; omega) (tgt := 95) (by decide) ?_
      refine g_aload_n X dX7_corner_95 0 rfl ?_
      refine g_get X dX7_corner_96 okC_0 cl7 1 (by decide) m_288 rfl ?_
      refine g_get X dX7_corner_99 okC_3 cl6 7 (by decide) m_152 rfl ?_
      refine g_aload_n X dX7_corner_102 0 rfl ?_
      refine g_get X dX7_corner_103 okC_0 cl7 4 (by decide) m_291 rfl ?_
      refine g_get X dX7_corner_106 okC_32 cl0 0 (by decide) m_207 rfl ?_
      obtain ⟨hg12, hf⟩ := gd_some hf
      refine g_aaloadG X dX7_corner_109 okC_15 hg12 ?_
      refine g_iload_n X dX7_corner_110 1 rfl ?_
      obtain ⟨hg13, hf⟩ := gd_some hf
      refine g_iaload X dX7_corner_111 (ok_ct hg12) hg13 ?_
      cases hf
      exact g_ireturn X dX7_corner_112 hQ
    · rw [if_pos hc4] at hf
      refine g_bipush X dX7_corner_20 (v := (-102)) rfl ?_
      cases hf
      exact g_ireturn X dX7_corner_22 hQ
  · rw [if_pos hc2] at hf
    refine g_bipush X dX7_corner_8 (v := (-101)) rfl ?_
    cases hf
    exact g_ireturn X dX7_corner_10 hQ
set_option maxRecDepth 4000 in
theorem cX7_corner_ok (l : Launch) (V : VT) (x1 : Int32) (x2 : Int32)  (I : aI) (J : aJ) {q : RT Int32} (hf : fX7_corner x1 x2 I J = some q) : Met l yX7_corner (.code yX7_corner cX7_corner 3 (some .int) :: GG) (rmD 2) (va_Pc [.ref (V.2.2 0), .int x1, .int x2] (cQ cS V I J)) (QI cS V q) 0 0 (vAd cS V) :=
  met_I (by decide +kernel) rfl (Nat.le_of_ble_eq_true rfl) (fun _ _ X hQ => wX7_corner X hQ x1 x2  I J hf)
-- X7_hearsVan
set_option maxRecDepth 4000 in
theorem wX7_hearsVan {M : MT} {V : VT} (X : Cx M cS V cX7_hearsVan 2 RX7 (some .boolean) 1) {q : RT Int32} (hQ : PI M cS V q) (x1 : Int32)  (I : aI) (J : aJ) (hf : fX7_hearsVan x1 I J = some q) : Wg M cS V 2 I J 0 [(0, .ref (V.2.2 0)), (1, .int x1)] [] := by
  unfold fX7_hearsVan at hf
  refine g_aload_n X dX7_hearsVan_0 0 rfl ?_
  refine g_iload_n X dX7_hearsVan_1 1 rfl ?_
  obtain ⟨r1, I1, J1, hb1, hf⟩ := bnd_some hf
  refine g_callV X dX7_hearsVan_2 cw_X7_292 (k := 0) (As := [.int x1]) (rcv okC_0 cl7) rfl rfl (Nat.le_of_ble_eq_true rfl) (by decide) (cX7_earshot_ok  M.2.1 V x1  I J hb1) (kI ?_)
  refine g_aload_n X dX7_hearsVan_5 0 rfl ?_
  refine g_get X dX7_hearsVan_6 okC_0 cl7 4 (by decide) m_291 rfl ?_
  refine g_get X dX7_hearsVan_9 okC_32 cl0 0 (by decide) m_207 rfl ?_
  obtain ⟨r2, I2, J2, hb2, hf⟩ := bnd_some hf
  refine g_callS X dX7_hearsVan_12 sw_X7_177 (As := [.int r1, .int (I1 32 0)]) rfl rfl (Nat.le_of_ble_eq_true rfl) (by decide) (cX7_hasBit_ok  M.2.1 V r1 (I1 32 0)  I1 J1 hb2) (kI ?_)
  obtain ⟨hg3, hf⟩ := gd_some hf
  cases hf
  exact g_zreturn X dX7_hearsVan_15 (of_decide_eq_true hg3) hQ
set_option maxRecDepth 4000 in
theorem cX7_hearsVan_ok (l : Launch) (V : VT) (x1 : Int32)  (I : aI) (J : aJ) {q : RT Int32} (hf : fX7_hearsVan x1 I J = some q) : Met l yX7_hearsVan (.code yX7_hearsVan cX7_hearsVan 2 (some .boolean) :: GG) (rmD 1) (va_Pc [.ref (V.2.2 0), .int x1] (cQ cS V I J)) (QI cS V q) 0 0 (vAd cS V) :=
  met_I (by decide +kernel) rfl (Nat.le_of_ble_eq_true rfl) (fun _ _ X hQ => wX7_hearsVan X hQ x1  I J hf)
-- X7_hearersNumber
set_option maxRecDepth 4000 in
theorem wBX7_hearersNumber_29 {M : MT} {V : VT}  (X : Cx M cS V cX7_hearersNumber 3 RX7 (some .int) 2) {q : RT Int32} (hQ : PI M cS V q) (k4 : Int32 → Int32 → aI → aJ → Option (RT Int32)) (hk4 : ∀ (x1 : Int32) (x2 : Int32)  (I : aI) (J : aJ), k4 x1 x2 I J = some q → Wg M cS V 3 I J 4 [(0, .ref (V.2.2 0)), (1, .int x1), (2, .int x2)] []) (x2 : Int32) (s0 : Int32) (s1 : Int32)  (I : aI) (J : aJ) (hf : BX7_hearersNumber_29  k4 x2 s0 s1 I J = some q) : Wg M cS V 3 I J 29 [(0, .ref (V.2.2 0)), (2, .int x2)] [.int s0, .int s1] := by
  unfold BX7_hearersNumber_29 at hf
  refine g_iadd X dX7_hearersNumber_29 ?_
  refine g_istore_n X dX7_hearersNumber_30 (by decide) [(1, .int (s1 + s0)), (0, .ref (V.2.2 0)), (2, .int x2)] rfl ?_
  refine g_iinc X dX7_hearersNumber_31 2 rfl 1 rfl (by decide) [(2, .int (x2 + 1)), (1, .int (s1 + s0)), (0, .ref (V.2.2 0))] rfl ?_
  refine g_goto X dX7_hearersNumber_34 (tgt := 4) (by decide) ?_
  refine g_sub [2, 1, 0] rfl ?_
  exact hk4 (s1 + s0) (x2 + 1)  I J hf
set_option maxRecDepth 4000 in
theorem wHX7_hearersNumber_4 {M : MT} {V : VT}  (X : Cx M cS V cX7_hearersNumber 3 RX7 (some .int) 2) {q : RT Int32} (hQ : PI M cS V q) (k4 : Int32 → Int32 → aI → aJ → Option (RT Int32)) (hk4 : ∀ (x1 : Int32) (x2 : Int32)  (I : aI) (J : aJ), k4 x1 x2 I J = some q → Wg M cS V 3 I J 4 [(0, .ref (V.2.2 0)), (1, .int x1), (2, .int x2)] []) (x1 : Int32) (x2 : Int32)  (I : aI) (J : aJ) (hf : HX7_hearersNumber_4  k4 x1 x2 I J = some q) : Wg M cS V 3 I J 4 [(0, .ref (V.2.2 0)), (1, .int x1), (2, .int x2)] [] := by
  unfold HX7_hearersNumber_4 at hf
  refine g_iload_n X dX7_hearersNumber_4 2 rfl ?_
  refine g_aload_n X dX7_hearersNumber_5 0 rfl ?_
  refine g_get X dX7_hearersNumber_6 okC_0 cl7 2 (by decide) m_289 rfl ?_
  refine g_get X dX7_hearersNumber_9 okC_22 cl1 0 (by decide) m_177 rfl ?_
  refine g_icmp_ge X dX7_hearersNumber_12 (tgt := 37) (by decide) (fun hc1 => ?_) (fun hc1 => ?_)
  · rw [if_pos hc1] at hf
    refine g_iload_n X dX7_hearersNumber_37 1 rfl ?_
    cases hf
    exact g_ireturn X dX7_hearersNumber_38 hQ
  · rw [if_neg hc1] at hf
    refine g_iload_n X dX7_hearersNumber_15 1 rfl ?_
    refine g_aload_n X dX7_hearersNumber_16 0 rfl ?_
    refine g_iload_n X dX7_hearersNumber_17 2 rfl ?_
    obtain ⟨r2, I2, J2, hb2, hf⟩ := bnd_some hf
    refine g_callV X dX7_hearersNumber_18 cw_X7_139 (k := 0) (As := [.int x2]) (rcv okC_0 cl7) rfl rfl (Nat.le_of_ble_eq_true rfl) (by decide) (cX7_hearsVan_ok  M.2.1 V x2  I J hb2) (kI ?_)
    refine g_if_eq X dX7_hearersNumber_21 (tgt := 28) (by decide) (fun hc3 => ?_) (fun hc3 => ?_)
    · rw [if_pos hc3] at hf
      refine g_iconst X dX7_hearersNumber_28 (v := 0) rfl ?_
      refine g_sub [0, 2] rfl ?_
      exact wBX7_hearersNumber_29  X hQ k4 hk4 x2 0 x1  I2 J2 hf
    · rw [if_neg hc3] at hf
      refine g_iconst X dX7_hearersNumber_24 (v := 1) rfl ?_
      refine g_goto X dX7_hearersNumber_25 (tgt := 29) (by decide) ?_
      refine g_sub [0, 2] rfl ?_
      exact wBX7_hearersNumber_29  X hQ k4 hk4 x2 1 x1  I2 J2 hf
set_option maxRecDepth 4000 in
theorem wLX7_hearersNumber_4 {M : MT} {V : VT}  (X : Cx M cS V cX7_hearersNumber 3 RX7 (some .int) 2) {q : RT Int32} (hQ : PI M cS V q)  : ∀ (n : Nat) (x1 : Int32) (x2 : Int32)  (I : aI) (J : aJ), LX7_hearersNumber_4   n x1 x2 I J = some q → Wg M cS V 3 I J 4 [(0, .ref (V.2.2 0)), (1, .int x1), (2, .int x2)] [] := by
  intro n
  induction n with
  | zero => intro x1 x2  I J hf; cases hf
  | succ n ih => intro x1 x2  I J hf; exact wHX7_hearersNumber_4  X hQ  (LX7_hearersNumber_4   n) ih x1 x2  I J hf
set_option maxRecDepth 4000 in
theorem wX7_hearersNumber {M : MT} {V : VT} (X : Cx M cS V cX7_hearersNumber 3 RX7 (some .int) 2) {q : RT Int32} (hQ : PI M cS V q)   (I : aI) (J : aJ) (hf : fX7_hearersNumber  I J = some q) : Wg M cS V 3 I J 0 [(0, .ref (V.2.2 0))] [] := by
  unfold fX7_hearersNumber at hf
  refine g_iconst X dX7_hearersNumber_0 (v := 0) rfl ?_
  refine g_istore_n X dX7_hearersNumber_1 (by decide) [(1, .int 0), (0, .ref (V.2.2 0))] rfl ?_
  refine g_iconst X dX7_hearersNumber_2 (v := 0) rfl ?_
  refine g_istore_n X dX7_hearersNumber_3 (by decide) [(2, .int 0), (1, .int 0), (0, .ref (V.2.2 0))] rfl ?_
  refine g_sub [2, 1, 0] rfl ?_
  exact wLX7_hearersNumber_4  X hQ  128 0 0  I J hf
set_option maxRecDepth 4000 in
theorem cX7_hearersNumber_ok (l : Launch) (V : VT)   (I : aI) (J : aJ) {q : RT Int32} (hf : fX7_hearersNumber  I J = some q) : Met l yX7_hearersNumber (.code yX7_hearersNumber cX7_hearersNumber 3 (some .int) :: GG) (rmD 2) (va_Pc [.ref (V.2.2 0)] (cQ cS V I J)) (QI cS V q) 0 0 (vAd cS V) :=
  met_I (by decide +kernel) rfl (Nat.le_of_ble_eq_true rfl) (fun _ _ X hQ => wX7_hearersNumber X hQ   I J hf)
-- X7_count
set_option maxRecDepth 4000 in
theorem wX7_count {M : MT} {V : VT} (X : Cx M cS V cX7_count 2 RX7 (some .int) 3) {q : RT Int32} (hQ : PI M cS V q) (x1 : Int32)  (I : aI) (J : aJ) (hf : fX7_count x1 I J = some q) : Wg M cS V 2 I J 0 [(0, .ref (V.2.2 0)), (1, .int x1)] [] := by
  unfold fX7_count at hf
  refine g_iload_n X dX7_count_0 1 rfl ?_
  by_cases hs1 : x1 = 0
  · rw [if_pos hs1] at hf
    refine g_tin X dX7_count_1 hs1 (by decide) (by decide) rfl (tgt := 64) (by decide) ?_
    refine g_aload_n X dX7_count_64 0 rfl ?_
    refine g_get X dX7_count_65 okC_0 cl7 1 (by decide) m_288 rfl ?_
    refine g_get X dX7_count_68 okC_3 cl6 0 (by decide) m_134 rfl ?_
    cases hf
    exact g_ireturn X dX7_count_71 hQ
  rw [if_neg hs1] at hf
  by_cases hs2 : x1 = 1
  · rw [if_pos hs2] at hf
    refine g_tin X dX7_count_1 hs2 (by decide) (by decide) rfl (tgt := 72) (by decide) ?_
    refine g_aload_n X dX7_count_72 0 rfl ?_
    refine g_get X dX7_count_73 okC_0 cl7 1 (by decide) m_288 rfl ?_
    refine g_get X dX7_count_76 okC_3 cl6 1 (by decide) m_137 rfl ?_
    cases hf
    exact g_ireturn X dX7_count_79 hQ
  rw [if_neg hs2] at hf
  by_cases hs3 : x1 = 2
  · rw [if_pos hs3] at hf
    refine g_tin X dX7_count_1 hs3 (by decide) (by decide) rfl (tgt := 80) (by decide) ?_
    refine g_aload_n X dX7_count_80 0 rfl ?_
    refine g_get X dX7_count_81 okC_0 cl7 2 (by decide) m_289 rfl ?_
    refine g_get X dX7_count_84 okC_22 cl1 0 (by decide) m_177 rfl ?_
    cases hf
    exact g_ireturn X dX7_count_87 hQ
  rw [if_neg hs3] at hf
  by_cases hs4 : x1 = 3
  · rw [if_pos hs4] at hf
    refine g_tin X dX7_count_1 hs4 (by decide) (by decide) rfl (tgt := 88) (by decide) ?_
    refine g_aload_n X dX7_count_88 0 rfl ?_
    refine g_get X dX7_count_89 okC_0 cl7 4 (by decide) m_291 rfl ?_
    refine g_get X dX7_count_92 okC_32 cl0 0 (by decide) m_207 rfl ?_
    cases hf
    exact g_ireturn X dX7_count_95 hQ
  rw [if_neg hs4] at hf
  by_cases hs5 : x1 = 4
  · rw [if_pos hs5] at hf
    refine g_tin X dX7_count_1 hs5 (by decide) (by decide) rfl (tgt := 96) (by decide) ?_
    refine g_aload_n X dX7_count_96 0 rfl ?_
    refine g_get X dX7_count_97 okC_0 cl7 4 (by decide) m_291 rfl ?_
    refine g_get X dX7_count_100 okC_32 cl0 1 (by decide) m_209 rfl ?_
    cases hf
    exact g_ireturn X dX7_count_103 hQ
  rw [if_neg hs5] at hf
  by_cases hs6 : x1 = 5
  · rw [if_pos hs6] at hf
    refine g_tin X dX7_count_1 hs6 (by decide) (by decide) rfl (tgt := 104) (by decide) ?_
    refine g_aload_n X dX7_count_104 0 rfl ?_
    refine g_get X dX7_count_105 okC_0 cl7 4 (by decide) m_291 rfl ?_
    obtain ⟨r7, I7, J7, hb7, hf⟩ := bnd_some hf
    refine g_callV X dX7_count_108 cw_X7_239 (k := 32) (As := []) (rcv okC_32 cl0) rfl rfl (Nat.le_of_ble_eq_true rfl) (by decide) (cX0_servedNumber_ok  M.2.1 V 32 okC_32 I J hb7) (kI ?_)
    cases hf
    exact g_ireturn X dX7_count_111 hQ
  rw [if_neg hs6] at hf
  by_cases hs8 : x1 = 6
  · rw [if_pos hs8] at hf
    refine g_tin X dX7_count_1 hs8 (by decide) (by decide) rfl (tgt := 112) (by decide) ?_
    refine g_aload_n X dX7_count_112 0 rfl ?_
    refine g_get X dX7_count_113 okC_0 cl7 4 (by decide) m_291 rfl ?_
    obtain ⟨r9, I9, J9, hb9, hf⟩ := bnd_some hf
    refine g_callV X dX7_count_116 cw_X7_251 (k := 32) (As := []) (rcv okC_32 cl0) rfl rfl (Nat.le_of_ble_eq_true rfl) (by decide) (cX0_countedByAll_ok  M.2.1 V 32 okC_32 I J hb9) (kI ?_)
    cases hf
    exact g_ireturn X dX7_count_119 hQ
  rw [if_neg hs8] at hf
  by_cases hs10 : x1 = 7
  · rw [if_pos hs10] at hf
    refine g_tin X dX7_count_1 hs10 (by decide) (by decide) rfl (tgt := 120) (by decide) ?_
    refine g_aload_n X dX7_count_120 0 rfl ?_
    obtain ⟨r11, I11, J11, hb11, hf⟩ := bnd_some hf
    refine g_callV X dX7_count_121 cw_X7_254 (k := 0) (As := []) (rcv okC_0 cl7) rfl rfl (Nat.le_of_ble_eq_true rfl) (by decide) (cX7_hearersNumber_ok  M.2.1 V   I J hb11) (kI ?_)
    cases hf
    exact g_ireturn X dX7_count_124 hQ
  rw [if_neg hs10] at hf
  by_cases hs12 : x1 = 8
  · rw [if_pos hs12] at hf
    refine g_tin X dX7_count_1 hs12 (by decide) (by decide) rfl (tgt := 125) (by decide) ?_
    refine g_aload_n X dX7_count_125 0 rfl ?_
    refine g_get X dX7_count_126 okC_0 cl7 7 (by decide) m_294 rfl ?_
    refine g_get X dX7_count_129 okC_38 cl2 0 (by decide) m_229 rfl ?_
    cases hf
    exact g_ireturn X dX7_count_132 hQ
  rw [if_neg hs12] at hf
  by_cases hs13 : x1 = 9
  · rw [if_pos hs13] at hf
    refine g_tin X dX7_count_1 hs13 (by decide) (by decide) rfl (tgt := 133) (by decide) ?_
    refine g_aload_n X dX7_count_133 0 rfl ?_
    refine g_get X dX7_count_134 okC_0 cl7 0 (by decide) m_287 rfl ?_
    refine g_get X dX7_count_137 okC_1 cl3 1 (by decide) m_104 rfl ?_
    cases hf
    exact g_ireturn X dX7_count_140 hQ
  rw [if_neg hs13] at hf
  by_cases hs14 : x1 = 10
  · rw [if_pos hs14] at hf
    refine g_tin X dX7_count_1 hs14 (by decide) (by decide) rfl (tgt := 141) (by decide) ?_
    refine g_aload_n X dX7_count_141 0 rfl ?_
    refine g_get X dX7_count_142 okC_0 cl7 12 (by decide) m_299 rfl ?_
    cases hf
    exact g_ireturn X dX7_count_145 hQ
  rw [if_neg hs14] at hf
  by_cases hs15 : x1 = 11
  · rw [if_pos hs15] at hf
    refine g_tin X dX7_count_1 hs15 (by decide) (by decide) rfl (tgt := 146) (by decide) ?_
    refine g_aload_n X dX7_count_146 0 rfl ?_
    refine g_get X dX7_count_147 okC_0 cl7 13 (by decide) m_300 rfl ?_
    cases hf
    exact g_ireturn X dX7_count_150 hQ
  rw [if_neg hs15] at hf
  refine g_tout X dX7_count_1 (by have a0 := lv_neT (a := 0) hs1 rfl; have a1 := lv_neT (a := 1) hs2 rfl; have a2 := lv_neT (a := 2) hs3 rfl; have a3 := lv_neT (a := 3) hs4 rfl; have a4 := lv_neT (a := 4) hs5 rfl; have a5 := lv_neT (a := 5) hs6 rfl; have a6 := lv_neT (a := 6) hs8 rfl; have a7 := lv_neT (a := 7) hs10 rfl; have a8 := lv_neT (a := 8) hs12 rfl; have a9 := lv_neT (a := 9) hs13 rfl; have a10 := lv_neT (a := 10) hs14 rfl; have a11 := lv_neT (a := 11) hs15 rfl; omega) (tgt := 151) (by decide) ?_
  refine g_bipush X dX7_count_151 (v := (-102)) rfl ?_
  cases hf
  exact g_ireturn X dX7_count_153 hQ
set_option maxRecDepth 4000 in
theorem cX7_count_ok (l : Launch) (V : VT) (x1 : Int32)  (I : aI) (J : aJ) {q : RT Int32} (hf : fX7_count x1 I J = some q) : Met l yX7_count (.code yX7_count cX7_count 2 (some .int) :: GG) (rmD 3) (va_Pc [.ref (V.2.2 0), .int x1] (cQ cS V I J)) (QI cS V q) 0 0 (vAd cS V) :=
  met_I (by decide +kernel) rfl (Nat.le_of_ble_eq_true rfl) (fun _ _ X hQ => wX7_count X hQ x1  I J hf)
-- X7_soonest
set_option maxRecDepth 4000 in
theorem wBX7_soonest_83 {M : MT} {V : VT}  (X : Cx M cS V cX7_soonest 5 RX7 (some .int) 2) {q : RT Int32} (hQ : PI M cS V q) (k59 : Int32 → Int32 → Int32 → Int32 → aI → aJ → Option (RT Int32)) (hk59 : ∀ (x1 : Int32) (x2 : Int32) (x3 : Int32) (x4 : Int32)  (I : aI) (J : aJ), k59 x1 x2 x3 x4 I J = some q → Wg M cS V 5 I J 59 [(0, .ref (V.2.2 0)), (1, .int x1), (2, .int x2), (3, .int x3), (4, .int x4)] []) (x1 : Int32) (x2 : Int32) (x4 : Int32) (s0 : Int32) (s1 : Int32) (s2 : Int32)  (I : aI) (J : aJ) (hf : BX7_soonest_83  k59 x1 x2 x4 s0 s1 s2 I J = some q) : Wg M cS V 5 I J 83 [(0, .ref (V.2.2 0)), (1, .int x1), (2, .int x2), (4, .int x4)] [.int s0, .int s1, .int s2, .ref (V.2.2 22)] := by
  unfold BX7_soonest_83 at hf
  refine g_aload_n X dX7_soonest_83 0 rfl ?_
  refine g_get X dX7_soonest_84 okC_0 cl7 4 (by decide) m_291 rfl ?_
  refine g_get X dX7_soonest_87 okC_32 cl0 1 (by decide) m_209 rfl ?_
  refine g_iload X dX7_soonest_90 3 rfl ?_
  refine g_iadd X dX7_soonest_92 ?_
  obtain ⟨r9, I9, J9, hb9, hf⟩ := bnd_some hf
  refine g_callV X dX7_soonest_93 cw_X7_295 (k := 22) (As := [.int s2, .int s1, .int s0, .int ((I 32 1) + x4)]) (rcv okC_22 cl1) rfl rfl (Nat.le_of_ble_eq_true rfl) (by decide) (cX1_countedAfter_ok  M.2.1 V 22 s2 s1 s0 ((I 32 1) + x4) okC_22 I J hb9) (kI ?_)
  refine g_istore_n X dX7_soonest_96 (by decide) [(3, .int r9), (0, .ref (V.2.2 0)), (1, .int x1), (2, .int x2), (4, .int x4)] rfl ?_
  refine g_iload_n X dX7_soonest_97 0 rfl ?_
  refine g_aload_n X dX7_soonest_98 1 rfl ?_
  refine g_get X dX7_soonest_99 okC_0 cl7 2 (by decide) m_289 rfl ?_
  refine g_iload_n X dX7_soonest_102 2 rfl ?_
  obtain ⟨r10, I10, J10, hb10, hf⟩ := bnd_some hf
  refine g_callV X dX7_soonest_103 cw_X7_136 (k := 22) (As := [.int x1]) (rcv okC_22 cl1) rfl rfl (Nat.le_of_ble_eq_true rfl) (by decide) (cX1_needs_ok  M.2.1 V 22 x1 okC_22 I9 J9 hb10) (kI ?_)
  refine g_icmp_lt X dX7_soonest_106 (tgt := 112) (by decide) (fun hc11 => ?_) (fun hc11 => ?_)
  · rw [if_pos hc11] at hf
    refine g_iinc X dX7_soonest_112 4 rfl 1 rfl (by decide) [(4, .int (x4 + 1)), (3, .int r9), (0, .ref (V.2.2 0)), (1, .int x1), (2, .int x2)] rfl ?_
    refine g_goto X dX7_soonest_115 (tgt := 59) (by decide) ?_
    refine g_sub [2, 3, 4, 1, 0] rfl ?_
    exact hk59 x1 x2 r9 (x4 + 1)  I10 J10 hf
  · rw [if_neg hc11] at hf
    refine g_iload X dX7_soonest_109 4 rfl ?_
    cases hf
    exact g_ireturn X dX7_soonest_111 hQ
set_option maxRecDepth 4000 in
theorem wHX7_soonest_59 {M : MT} {V : VT}  (X : Cx M cS V cX7_soonest 5 RX7 (some .int) 2) {q : RT Int32} (hQ : PI M cS V q) (k59 : Int32 → Int32 → Int32 → Int32 → aI → aJ → Option (RT Int32)) (hk59 : ∀ (x1 : Int32) (x2 : Int32) (x3 : Int32) (x4 : Int32)  (I : aI) (J : aJ), k59 x1 x2 x3 x4 I J = some q → Wg M cS V 5 I J 59 [(0, .ref (V.2.2 0)), (1, .int x1), (2, .int x2), (3, .int x3), (4, .int x4)] []) (x1 : Int32) (x2 : Int32) (x3 : Int32) (x4 : Int32)  (I : aI) (J : aJ) (hf : HX7_soonest_59  k59 x1 x2 x3 x4 I J = some q) : Wg M cS V 5 I J 59 [(0, .ref (V.2.2 0)), (1, .int x1), (2, .int x2), (3, .int x3), (4, .int x4)] [] := by
  unfold HX7_soonest_59 at hf
  refine g_iload X dX7_soonest_59 4 rfl ?_
  refine g_bipush X dX7_soonest_61 (v := 40) rfl ?_
  refine g_icmp_gt X dX7_soonest_63 (tgt := 118) (by decide) (fun hc7 => ?_) (fun hc7 => ?_)
  · rw [if_pos hc7] at hf
    refine g_iconst X dX7_soonest_118 (v := (-1)) rfl ?_
    cases hf
    exact g_ireturn X dX7_soonest_119 hQ
  · rw [if_neg hc7] at hf
    refine g_aload_n X dX7_soonest_66 0 rfl ?_
    refine g_get X dX7_soonest_67 okC_0 cl7 2 (by decide) m_289 rfl ?_
    refine g_iload_n X dX7_soonest_70 1 rfl ?_
    refine g_iload_n X dX7_soonest_71 3 rfl ?_
    refine g_iload X dX7_soonest_72 4 rfl ?_
    refine g_iload_n X dX7_soonest_74 2 rfl ?_
    refine g_icmp_lt X dX7_soonest_75 (tgt := 82) (by decide) (fun hc8 => ?_) (fun hc8 => ?_)
    · rw [if_pos hc8] at hf
      refine g_iconst X dX7_soonest_82 (v := 0) rfl ?_
      refine g_sub [0, 1, 2, 4] rfl ?_
      exact wBX7_soonest_83  X hQ k59 hk59 x1 x2 x4 0 x3 x1  I J hf
    · rw [if_neg hc8] at hf
      refine g_iconst X dX7_soonest_78 (v := 1) rfl ?_
      refine g_goto X dX7_soonest_79 (tgt := 83) (by decide) ?_
      refine g_sub [0, 1, 2, 4] rfl ?_
      exact wBX7_soonest_83  X hQ k59 hk59 x1 x2 x4 1 x3 x1  I J hf
set_option maxRecDepth 4000 in
theorem wLX7_soonest_59 {M : MT} {V : VT}  (X : Cx M cS V cX7_soonest 5 RX7 (some .int) 2) {q : RT Int32} (hQ : PI M cS V q)  : ∀ (n : Nat) (x1 : Int32) (x2 : Int32) (x3 : Int32) (x4 : Int32)  (I : aI) (J : aJ), LX7_soonest_59   n x1 x2 x3 x4 I J = some q → Wg M cS V 5 I J 59 [(0, .ref (V.2.2 0)), (1, .int x1), (2, .int x2), (3, .int x3), (4, .int x4)] [] := by
  intro n
  induction n with
  | zero => intro x1 x2 x3 x4  I J hf; cases hf
  | succ n ih => intro x1 x2 x3 x4  I J hf; exact wHX7_soonest_59  X hQ  (LX7_soonest_59   n) ih x1 x2 x3 x4  I J hf
set_option maxRecDepth 4000 in
theorem wX7_soonest {M : MT} {V : VT} (X : Cx M cS V cX7_soonest 5 RX7 (some .int) 2) {q : RT Int32} (hQ : PI M cS V q) (x1 : Int32)  (I : aI) (J : aJ) (hf : fX7_soonest x1 I J = some q) : Wg M cS V 5 I J 0 [(0, .ref (V.2.2 0)), (1, .int x1)] [] := by
  unfold fX7_soonest at hf
  refine g_aload_n X dX7_soonest_0 0 rfl ?_
  refine g_get X dX7_soonest_1 okC_0 cl7 4 (by decide) m_291 rfl ?_
  refine g_iload_n X dX7_soonest_4 1 rfl ?_
  obtain ⟨r1, I1, J1, hb1, hf⟩ := bnd_some hf
  refine g_callV X dX7_soonest_5 cw_X7_130 (k := 32) (As := [.int x1]) (rcv okC_32 cl0) rfl rfl (Nat.le_of_ble_eq_true rfl) (by decide) (cX0_isServed_ok  M.2.1 V 32 x1 okC_32 I J hb1) (kI ?_)
  refine g_if_eq X dX7_soonest_8 (tgt := 13) (by decide) (fun hc2 => ?_) (fun hc2 => ?_)
  · rw [if_pos hc2] at hf
    refine g_aload_n X dX7_soonest_13 0 rfl ?_
    refine g_get X dX7_soonest_14 okC_0 cl7 1 (by decide) m_288 rfl ?_
    refine g_get X dX7_soonest_17 okC_3 cl6 6 (by decide) m_150 rfl ?_
    refine g_aload_n X dX7_soonest_20 0 rfl ?_
    refine g_get X dX7_soonest_21 okC_0 cl7 4 (by decide) m_291 rfl ?_
    refine g_get X dX7_soonest_24 okC_32 cl0 0 (by decide) m_207 rfl ?_
    obtain ⟨hg3, hf⟩ := gd_some hf
    refine g_aaloadG X dX7_soonest_27 okC_8 hg3 ?_
    refine g_aload_n X dX7_soonest_28 0 rfl ?_
    refine g_get X dX7_soonest_29 okC_0 cl7 2 (by decide) m_289 rfl ?_
    refine g_get X dX7_soonest_32 okC_22 cl1 1 (by decide) m_180 rfl ?_
    refine g_iload_n X dX7_soonest_35 1 rfl ?_
    obtain ⟨hg4, hf⟩ := gd_some hf
    refine g_iaload X dX7_soonest_36 okC_23 hg4 ?_
    obtain ⟨hg5, hf⟩ := gd_some hf
    refine g_iaload X dX7_soonest_37 (ok_st hg3) hg5 ?_
    refine g_istore_n X dX7_soonest_38 (by decide) [(2, .int (I1 (8 + 1 + Int32.toNatClampNeg (I1 32 0)) (Int32.toNatClampNeg (I1 23 (Int32.toNatClampNeg x1))))), (0, .ref (V.2.2 0)), (1, .int x1)] rfl ?_
    refine g_iload_n X dX7_soonest_39 0 rfl ?_
    refine g_iconst X dX7_soonest_40 (v := (-1)) rfl ?_
    refine g_icmp_ne X dX7_soonest_41 (tgt := 46) (by decide) (fun hc6 => ?_) (fun hc6 => ?_)
    · rw [if_neg hc6] at hf
      refine g_aload_n X dX7_soonest_46 1 rfl ?_
      refine g_get X dX7_soonest_47 okC_0 cl7 4 (by decide) m_291 rfl ?_
      refine g_get X dX7_soonest_50 okC_32 cl0 3 (by decide) m_212 rfl ?_
      refine g_iload_n X dX7_soonest_53 2 rfl ?_
      refine g_iaload X dX7_soonest_54 okC_33 hg4 ?_
      refine g_istore_n X dX7_soonest_55 (by decide) [(3, .int (I1 33 (Int32.toNatClampNeg x1))), (2, .int (I1 (8 + 1 + Int32.toNatClampNeg (I1 32 0)) (Int32.toNatClampNeg (I1 23 (Int32.toNatClampNeg x1))))), (0, .ref (V.2.2 0)), (1, .int x1)] rfl ?_
      refine g_iconst X dX7_soonest_56 (v := 1) rfl ?_
      refine g_istore X dX7_soonest_57 (by decide) [(4, .int 1), (3, .int (I1 33 (Int32.toNatClampNeg x1))), (2, .int (I1 (8 + 1 + Int32.toNatClampNeg (I1 32 0)) (Int32.toNatClampNeg (I1 23 (Int32.toNatClampNeg x1))))), (0, .ref (V.2.2 0)), (1, .int x1)] rfl ?_
      refine g_sub [3, 4, 2, 1, 0] rfl ?_
      exact wLX7_soonest_59  X hQ  128 x1 (I1 (8 + 1 + Int32.toNatClampNeg (I1 32 0)) (Int32.toNatClampNeg (I1 23 (Int32.toNatClampNeg x1)))) (I1 33 (Int32.toNatClampNeg x1)) 1  I1 J1 hf
    · rw [if_pos hc6] at hf
      refine g_iconst X dX7_soonest_44 (v := (-1)) rfl ?_
      cases hf
      exact g_ireturn X dX7_soonest_45 hQ
  · rw [if_neg hc2] at hf
    refine g_iconst X dX7_soonest_11 (v := 0) rfl ?_
    cases hf
    exact g_ireturn X dX7_soonest_12 hQ
set_option maxRecDepth 4000 in
theorem cX7_soonest_ok (l : Launch) (V : VT) (x1 : Int32)  (I : aI) (J : aJ) {q : RT Int32} (hf : fX7_soonest x1 I J = some q) : Met l yX7_soonest (.code yX7_soonest cX7_soonest 5 (some .int) :: GG) (rmD 2) (va_Pc [.ref (V.2.2 0), .int x1] (cQ cS V I J)) (QI cS V q) 0 0 (vAd cS V) :=
  met_I (by decide +kernel) rfl (Nat.le_of_ble_eq_true rfl) (fun _ _ X hQ => wX7_soonest X hQ x1  I J hf)
-- X7_person
set_option maxRecDepth 4000 in
theorem wBX7_person_128 {M : MT} {V : VT}  (X : Cx M cS V cX7_person 3 RX7 (some .int) 3) {q : RT Int32} (hQ : PI M cS V q)  (s0 : Int32)  (I : aI) (J : aJ) (hf : BX7_person_128   s0 I J = some q) : Wg M cS V 3 I J 128 [] [.int s0] := by
  unfold BX7_person_128 at hf
  cases hf
  exact g_ireturn X dX7_person_128 hQ
set_option maxRecDepth 4000 in
theorem wBX7_person_161 {M : MT} {V : VT}  (X : Cx M cS V cX7_person 3 RX7 (some .int) 3) {q : RT Int32} (hQ : PI M cS V q)  (s0 : Int32)  (I : aI) (J : aJ) (hf : BX7_person_161   s0 I J = some q) : Wg M cS V 3 I J 161 [] [.int s0] := by
  unfold BX7_person_161 at hf
  cases hf
  exact g_ireturn X dX7_person_161 hQ
set_option maxRecDepth 4000 in
theorem wX7_person {M : MT} {V : VT} (X : Cx M cS V cX7_person 3 RX7 (some .int) 3) {q : RT Int32} (hQ : PI M cS V q) (x1 : Int32) (x2 : Int32)  (I : aI) (J : aJ) (hf : fX7_person x1 x2 I J = some q) : Wg M cS V 3 I J 0 [(0, .ref (V.2.2 0)), (1, .int x1), (2, .int x2)] [] := by
  unfold fX7_person at hf
  refine g_aload_n X dX7_person_0 0 rfl ?_
  refine g_iload_n X dX7_person_1 1 rfl ?_
  obtain ⟨r1, I1, J1, hb1, hf⟩ := bnd_some hf
  refine g_callV X dX7_person_2 cw_X7_114 (k := 0) (As := [.int x1]) (rcv okC_0 cl7) rfl rfl (Nat.le_of_ble_eq_true rfl) (by decide) (cX7_isPerson_ok  M.2.1 V x1  I J hb1) (kI ?_)
  refine g_if_ne X dX7_person_5 (tgt := 11) (by decide) (fun hc2 => ?_) (fun hc2 => ?_)
  · rw [if_neg hc2] at hf
    refine g_iload_n X dX7_person_11 2 rfl ?_
    refine g_iconst X dX7_person_12 (v := 0) rfl ?_
    refine g_bipush X dX7_person_13 (v := 8) rfl ?_
    obtain ⟨r3, I3, J3, hb3, hf⟩ := bnd_some hf
    refine g_callS X dX7_person_15 sw_X7_70 (As := [.int x2, .int 0, .int 8]) rfl rfl (Nat.le_of_ble_eq_true rfl) (by decide) (cX7_isWithin_ok  M.2.1 V x2 0 8  I1 J1 hb3) (kI ?_)
    refine g_if_ne X dX7_person_18 (tgt := 24) (by decide) (fun hc4 => ?_) (fun hc4 => ?_)
    · rw [if_neg hc4] at hf
      refine g_iload_n X dX7_person_24 2 rfl ?_
      by_cases hs5 : x2 = 0
      · rw [if_pos hs5] at hf
        refine g_tin X dX7_person_25 hs5 (by decide) (by decide) rfl (tgt := 72) (by decide) ?_
        refine g_aload_n X dX7_person_72 0 rfl ?_
        refine g_get X dX7_person_73 okC_0 cl7 2 (by decide) m_289 rfl ?_
        refine g_get X dX7_person_76 okC_22 cl1 2 (by decide) m_183 rfl ?_
        refine g_iload_n X dX7_person_79 1 rfl ?_
        obtain ⟨hg6, hf⟩ := gd_some hf
        refine g_iaload X dX7_person_80 okC_24 hg6 ?_
        cases hf
        exact g_ireturn X dX7_person_81 hQ
      rw [if_neg hs5] at hf
      by_cases hs7 : x2 = 1
      · rw [if_pos hs7] at hf
        refine g_tin X dX7_person_25 hs7 (by decide) (by decide) rfl (tgt := 82) (by decide) ?_
        refine g_aload_n X dX7_person_82 0 rfl ?_
        refine g_get X dX7_person_83 okC_0 cl7 2 (by decide) m_289 rfl ?_
        refine g_get X dX7_person_86 okC_22 cl1 1 (by decide) m_180 rfl ?_
        refine g_iload_n X dX7_person_89 1 rfl ?_
        obtain ⟨hg8, hf⟩ := gd_some hf
        refine g_iaload X dX7_person_90 okC_23 hg8 ?_
        cases hf
        exact g_ireturn X dX7_person_91 hQ
      rw [if_neg hs7] at hf
      by_cases hs9 : x2 = 2
      · rw [if_pos hs9] at hf
        refine g_tin X dX7_person_25 hs9 (by decide) (by decide) rfl (tgt := 92) (by decide) ?_
        refine g_aload_n X dX7_person_92 0 rfl ?_
        refine g_get X dX7_person_93 okC_0 cl7 2 (by decide) m_289 rfl ?_
        refine g_get X dX7_person_96 okC_22 cl1 3 (by decide) m_185 rfl ?_
        refine g_iload_n X dX7_person_99 1 rfl ?_
        obtain ⟨hg10, hf⟩ := gd_some hf
        refine g_iaload X dX7_person_100 okC_25 hg10 ?_
        cases hf
        exact g_ireturn X dX7_person_101 hQ
      rw [if_neg hs9] at hf
      by_cases hs11 : x2 = 3
      · rw [if_pos hs11] at hf
        refine g_tin X dX7_person_25 hs11 (by decide) (by decide) rfl (tgt := 102) (by decide) ?_
        refine g_aload_n X dX7_person_102 0 rfl ?_
        refine g_get X dX7_person_103 okC_0 cl7 2 (by decide) m_289 rfl ?_
        refine g_get X dX7_person_106 okC_22 cl1 4 (by decide) m_187 rfl ?_
        refine g_iload_n X dX7_person_109 1 rfl ?_
        obtain ⟨hg12, hf⟩ := gd_some hf
        refine g_iaload X dX7_person_110 okC_26 hg12 ?_
        cases hf
        exact g_ireturn X dX7_person_111 hQ
      rw [if_neg hs11] at hf
      by_cases hs13 : x2 = 4
      · rw [if_pos hs13] at hf
        refine g_tin X dX7_person_25 hs13 (by decide) (by decide) rfl (tgt := 112) (by decide) ?_
        refine g_aload_n X dX7_person_112 0 rfl ?_
        refine g_get X dX7_person_113 okC_0 cl7 4 (by decide) m_291 rfl ?_
        refine g_iload_n X dX7_person_116 1 rfl ?_
        obtain ⟨r14, I14, J14, hb14, hf⟩ := bnd_some hf
        refine g_callV X dX7_person_117 cw_X7_130 (k := 32) (As := [.int x1]) (rcv okC_32 cl0) rfl rfl (Nat.le_of_ble_eq_true rfl) (by decide) (cX0_isServed_ok  M.2.1 V 32 x1 okC_32 I3 J3 hb14) (kI ?_)
        refine g_if_eq X dX7_person_120 (tgt := 127) (by decide) (fun hc15 => ?_) (fun hc15 => ?_)
        · rw [if_pos hc15] at hf
          refine g_iconst X dX7_person_127 (v := 0) rfl ?_
          refine g_sub [] rfl ?_
          exact wBX7_person_128  X hQ  0  I14 J14 hf
        · rw [if_neg hc15] at hf
          refine g_iconst X dX7_person_123 (v := 1) rfl ?_
          refine g_goto X dX7_person_124 (tgt := 128) (by decide) ?_
          refine g_sub [] rfl ?_
          exact wBX7_person_128  X hQ  1  I14 J14 hf
      rw [if_neg hs13] at hf
      by_cases hs16 : x2 = 5
      · rw [if_pos hs16] at hf
        refine g_tin X dX7_person_25 hs16 (by decide) (by decide) rfl (tgt := 129) (by decide) ?_
        refine g_aload_n X dX7_person_129 0 rfl ?_
        refine g_get X dX7_person_130 okC_0 cl7 4 (by decide) m_291 rfl ?_
        refine g_get X dX7_person_133 okC_32 cl0 3 (by decide) m_212 rfl ?_
        refine g_iload_n X dX7_person_136 1 rfl ?_
        obtain ⟨hg17, hf⟩ := gd_some hf
        refine g_iaload X dX7_person_137 okC_33 hg17 ?_
        cases hf
        exact g_ireturn X dX7_person_138 hQ
      rw [if_neg hs16] at hf
      by_cases hs18 : x2 = 6
      · rw [if_pos hs18] at hf
        refine g_tin X dX7_person_25 hs18 (by decide) (by decide) rfl (tgt := 139) (by decide) ?_
        refine g_aload_n X dX7_person_139 0 rfl ?_
        refine g_get X dX7_person_140 okC_0 cl7 2 (by decide) m_289 rfl ?_
        refine g_iload_n X dX7_person_143 1 rfl ?_
        obtain ⟨r19, I19, J19, hb19, hf⟩ := bnd_some hf
        refine g_callV X dX7_person_144 cw_X7_136 (k := 22) (As := [.int x1]) (rcv okC_22 cl1) rfl rfl (Nat.le_of_ble_eq_true rfl) (by decide) (cX1_needs_ok  M.2.1 V 22 x1 okC_22 I3 J3 hb19) (kI ?_)
        cases hf
        exact g_ireturn X dX7_person_147 hQ
      rw [if_neg hs18] at hf
      by_cases hs20 : x2 = 7
      · rw [if_pos hs20] at hf
        refine g_tin X dX7_person_25 hs20 (by decide) (by decide) rfl (tgt := 148) (by decide) ?_
        refine g_aload_n X dX7_person_148 0 rfl ?_
        refine g_iload_n X dX7_person_149 1 rfl ?_
        obtain ⟨r21, I21, J21, hb21, hf⟩ := bnd_some hf
        refine g_callV X dX7_person_150 cw_X7_139 (k := 0) (As := [.int x1]) (rcv okC_0 cl7) rfl rfl (Nat.le_of_ble_eq_true rfl) (by decide) (cX7_hearsVan_ok  M.2.1 V x1  I3 J3 hb21) (kI ?_)
        refine g_if_eq X dX7_person_153 (tgt := 160) (by decide) (fun hc22 => ?_) (fun hc22 => ?_)
        · rw [if_pos hc22] at hf
          refine g_iconst X dX7_person_160 (v := 0) rfl ?_
          refine g_sub [] rfl ?_
          exact wBX7_person_161  X hQ  0  I21 J21 hf
        · rw [if_neg hc22] at hf
          refine g_iconst X dX7_person_156 (v := 1) rfl ?_
          refine g_goto X dX7_person_157 (tgt := 161) (by decide) ?_
          refine g_sub [] rfl ?_
          exact wBX7_person_161  X hQ  1  I21 J21 hf
      rw [if_neg hs20] at hf
      refine g_tout X dX7_person_25 (by have a0 := lv_neT (a := 0) hs5 rfl; have a1 := lv_neT (a := 1) hs7 rfl; have a2 := lv_neT (a := 2) hs9 rfl; have a3 := lv_neT (a := 3) hs11 rfl; have a4 := lv_neT (a := 4) hs13 rfl; have a5 := lv_neT (a := 5) hs16 rfl; have a6 := lv_neT (a := 6) hs18 rfl; have a7 := lv_neT (a := 7) hs20 rfl; omega) (tgt := 162) (by decide) ?_
      refine g_aload_n X dX7_person_162 0 rfl ?_
      refine g_iload_n X dX7_person_163 1 rfl ?_
      obtain ⟨r23, I23, J23, hb23, hf⟩ := bnd_some hf
      refine g_callV X dX7_person_164 cw_X7_142 (k := 0) (As := [.int x1]) (rcv okC_0 cl7) rfl rfl (Nat.le_of_ble_eq_true rfl) (by decide) (cX7_soonest_ok  M.2.1 V x1  I3 J3 hb23) (kI ?_)
      cases hf
      exact g_ireturn X dX7_person_167 hQ
    · rw [if_pos hc4] at hf
      refine g_bipush X dX7_person_21 (v := (-102)) rfl ?_
      cases hf
      exact g_ireturn X dX7_person_23 hQ
  · rw [if_pos hc2] at hf
    refine g_bipush X dX7_person_8 (v := (-101)) rfl ?_
    cases hf
    exact g_ireturn X dX7_person_10 hQ
set_option maxRecDepth 4000 in
theorem cX7_person_ok (l : Launch) (V : VT) (x1 : Int32) (x2 : Int32)  (I : aI) (J : aJ) {q : RT Int32} (hf : fX7_person x1 x2 I J = some q) : Met l yX7_person (.code yX7_person cX7_person 3 (some .int) :: GG) (rmD 3) (va_Pc [.ref (V.2.2 0), .int x1, .int x2] (cQ cS V I J)) (QI cS V q) 0 0 (vAd cS V) :=
  met_I (by decide +kernel) rfl (Nat.le_of_ble_eq_true rfl) (fun _ _ X hQ => wX7_person X hQ x1 x2  I J hf)
-- X7_mix
set_option maxRecDepth 4000 in
theorem wX7_mix {M : MT} {V : VT} (X : Cx M cS V cX7_mix 4 RX7 (some .long) 0) {q : RT Int64} (hQ : PL M cS V q) (x0 : Int64) (x2 : Int64)  (I : aI) (J : aJ) (hf : fX7_mix x0 x2 I J = some q) : Wg M cS V 4 I J 0 [(0, .long x0), (2, .long x2)] [] := by
  unfold fX7_mix at hf
  refine g_ldc2 X dX7_mix_0 m_801 ?_
  refine g_lload_n X dX7_mix_3 0 rfl ?_
  refine g_lmul X dX7_mix_4 ?_
  refine g_lload_n X dX7_mix_5 1 rfl ?_
  refine g_ladd X dX7_mix_6 ?_
  cases hf
  exact g_lreturn X dX7_mix_7 hQ
set_option maxRecDepth 4000 in
theorem cX7_mix_ok (l : Launch) (V : VT) (x0 : Int64) (x2 : Int64)  (I : aI) (J : aJ) {q : RT Int64} (hf : fX7_mix x0 x2 I J = some q) : Met l yX7_mix (.code yX7_mix cX7_mix 4 (some .long) :: GG) (rmD 0) (va_Pc [.long x0, .long x2] (cQ cS V I J)) (QL cS V q) 0 0 (vAd cS V) :=
  met_L (by decide +kernel) rfl (Nat.le_of_ble_eq_true rfl) (fun _ _ X hQ => wX7_mix X hQ x0 x2  I J hf)
-- X7_odds
set_option maxRecDepth 4000 in
theorem wBX7_odds_29 {M : MT} {V : VT}  (X : Cx M cS V cX7_odds 4 RX7 (some .int) 3) {q : RT Int32} (hQ : PI M cS V q)    (I : aI) (J : aJ) (hf : BX7_odds_29    I J = some q) : Wg M cS V 4 I J 29 [] [] := by
  unfold BX7_odds_29 at hf
  refine g_bipush X dX7_odds_29 (v := (-102)) rfl ?_
  cases hf
  exact g_ireturn X dX7_odds_31 hQ
set_option maxRecDepth 4000 in
theorem wBX7_odds_90 {M : MT} {V : VT}  (X : Cx M cS V cX7_odds 4 RX7 (some .int) 3) {q : RT Int32} (hQ : PI M cS V q)  (s0 : Int32)  (I : aI) (J : aJ) (hf : BX7_odds_90   s0 I J = some q) : Wg M cS V 4 I J 90 [] [.int s0] := by
  unfold BX7_odds_90 at hf
  cases hf
  exact g_ireturn X dX7_odds_90 hQ
set_option maxRecDepth 4000 in
theorem wX7_odds {M : MT} {V : VT} (X : Cx M cS V cX7_odds 4 RX7 (some .int) 3) {q : RT Int32} (hQ : PI M cS V q) (x1 : Int32) (x2 : Int32) (x3 : Int32)  (I : aI) (J : aJ) (hf : fX7_odds x1 x2 x3 I J = some q) : Wg M cS V 4 I J 0 [(0, .ref (V.2.2 0)), (1, .int x1), (2, .int x2), (3, .int x3)] [] := by
  unfold fX7_odds at hf
  refine g_aload_n X dX7_odds_0 0 rfl ?_
  refine g_iload_n X dX7_odds_1 1 rfl ?_
  obtain ⟨r1, I1, J1, hb1, hf⟩ := bnd_some hf
  refine g_callV X dX7_odds_2 cw_X7_114 (k := 0) (As := [.int x1]) (rcv okC_0 cl7) rfl rfl (Nat.le_of_ble_eq_true rfl) (by decide) (cX7_isPerson_ok  M.2.1 V x1  I J hb1) (kI ?_)
  refine g_if_ne X dX7_odds_5 (tgt := 11) (by decide) (fun hc2 => ?_) (fun hc2 => ?_)
  · rw [if_neg hc2] at hf
    refine g_iload_n X dX7_odds_11 2 rfl ?_
    refine g_iconst X dX7_odds_12 (v := 1) rfl ?_
    refine g_iconst X dX7_odds_13 (v := 4) rfl ?_
    obtain ⟨r3, I3, J3, hb3, hf⟩ := bnd_some hf
    refine g_callS X dX7_odds_14 sw_X7_70 (As := [.int x2, .int 1, .int 4]) rfl rfl (Nat.le_of_ble_eq_true rfl) (by decide) (cX7_isWithin_ok  M.2.1 V x2 1 4  I1 J1 hb3) (kI ?_)
    refine g_if_eq X dX7_odds_17 (tgt := 29) (by decide) (fun hc4 => ?_) (fun hc4 => ?_)
    · rw [if_pos hc4] at hf
      refine g_sub [] rfl ?_
      exact wBX7_odds_29  X hQ    I3 J3 hf
    · rw [if_neg hc4] at hf
      refine g_iload_n X dX7_odds_20 3 rfl ?_
      refine g_iconst X dX7_odds_21 (v := 0) rfl ?_
      refine g_iconst X dX7_odds_22 (v := 1) rfl ?_
      obtain ⟨r5, I5, J5, hb5, hf⟩ := bnd_some hf
      refine g_callS X dX7_odds_23 sw_X7_70 (As := [.int x3, .int 0, .int 1]) rfl rfl (Nat.le_of_ble_eq_true rfl) (by decide) (cX7_isWithin_ok  M.2.1 V x3 0 1  I3 J3 hb5) (kI ?_)
      refine g_if_ne X dX7_odds_26 (tgt := 32) (by decide) (fun hc6 => ?_) (fun hc6 => ?_)
      · rw [if_neg hc6] at hf
        refine g_aload_n X dX7_odds_32 0 rfl ?_
        refine g_get X dX7_odds_33 okC_0 cl7 10 (by decide) m_297 rfl ?_
        refine g_aload_n X dX7_odds_36 0 rfl ?_
        refine g_get X dX7_odds_37 okC_0 cl7 1 (by decide) m_288 rfl ?_
        refine g_aload_n X dX7_odds_40 0 rfl ?_
        refine g_get X dX7_odds_41 okC_0 cl7 4 (by decide) m_291 rfl ?_
        refine g_get X dX7_odds_44 okC_32 cl0 0 (by decide) m_207 rfl ?_
        refine g_iload_n X dX7_odds_47 2 rfl ?_
        obtain ⟨r7, I7, J7, hb7, hf⟩ := bnd_some hf
        refine g_callV X dX7_odds_48 cw_X7_209 (k := 60) (As := [.ref (V.2.2 3), .int (I5 32 0), .int x2]) (rcv okC_60 cl5) rfl rfl (Nat.le_of_ble_eq_true rfl) (by decide) (cX5_run_ok  M.2.1 V (I5 32 0) x2  I5 J5 hb7) (kV ?_)
        refine g_iload_n X dX7_odds_51 3 rfl ?_
        refine g_if_ne X dX7_odds_52 (tgt := 74) (by decide) (fun hc8 => ?_) (fun hc8 => ?_)
        · rw [if_neg hc8] at hf
          refine g_aload_n X dX7_odds_74 0 rfl ?_
          refine g_get X dX7_odds_75 okC_0 cl7 10 (by decide) m_297 rfl ?_
          refine g_aload_n X dX7_odds_78 0 rfl ?_
          refine g_get X dX7_odds_79 okC_0 cl7 2 (by decide) m_289 rfl ?_
          refine g_get X dX7_odds_82 okC_22 cl1 1 (by decide) m_180 rfl ?_
          refine g_iload_n X dX7_odds_85 1 rfl ?_
          obtain ⟨hg9, hf⟩ := gd_some hf
          refine g_iaload X dX7_odds_86 okC_23 hg9 ?_
          obtain ⟨r10, I10, J10, hb10, hf⟩ := bnd_some hf
          refine g_callV X dX7_odds_87 cw_X7_215 (k := 60) (As := [.int (I7 23 (Int32.toNatClampNeg x1))]) (rcv okC_60 cl5) rfl rfl (Nat.le_of_ble_eq_true rfl) (by decide) (cX5_below_ok  M.2.1 V (I7 23 (Int32.toNatClampNeg x1))  I7 J7 hb10) (kI ?_)
          refine g_sub [] rfl ?_
          exact wBX7_odds_90  X hQ  r10  I10 J10 hf
        · rw [if_pos hc8] at hf
          refine g_aload_n X dX7_odds_55 0 rfl ?_
          refine g_get X dX7_odds_56 okC_0 cl7 10 (by decide) m_297 rfl ?_
          refine g_aload_n X dX7_odds_59 0 rfl ?_
          refine g_get X dX7_odds_60 okC_0 cl7 2 (by decide) m_289 rfl ?_
          refine g_get X dX7_odds_63 okC_22 cl1 1 (by decide) m_180 rfl ?_
          refine g_iload_n X dX7_odds_66 1 rfl ?_
          obtain ⟨hg11, hf⟩ := gd_some hf
          refine g_iaload X dX7_odds_67 okC_23 hg11 ?_
          obtain ⟨r12, I12, J12, hb12, hf⟩ := bnd_some hf
          refine g_callV X dX7_odds_68 cw_X7_212 (k := 60) (As := [.int (I7 23 (Int32.toNatClampNeg x1))]) (rcv okC_60 cl5) rfl rfl (Nat.le_of_ble_eq_true rfl) (by decide) (cX5_above_ok  M.2.1 V (I7 23 (Int32.toNatClampNeg x1))  I7 J7 hb12) (kI ?_)
          refine g_goto X dX7_odds_71 (tgt := 90) (by decide) ?_
          refine g_sub [] rfl ?_
          exact wBX7_odds_90  X hQ  r12  I12 J12 hf
      · rw [if_pos hc6] at hf
        refine g_sub [] rfl ?_
        exact wBX7_odds_29  X hQ    I5 J5 hf
  · rw [if_pos hc2] at hf
    refine g_bipush X dX7_odds_8 (v := (-101)) rfl ?_
    cases hf
    exact g_ireturn X dX7_odds_10 hQ
set_option maxRecDepth 4000 in
theorem cX7_odds_ok (l : Launch) (V : VT) (x1 : Int32) (x2 : Int32) (x3 : Int32)  (I : aI) (J : aJ) {q : RT Int32} (hf : fX7_odds x1 x2 x3 I J = some q) : Met l yX7_odds (.code yX7_odds cX7_odds 4 (some .int) :: GG) (rmD 3) (va_Pc [.ref (V.2.2 0), .int x1, .int x2, .int x3] (cQ cS V I J)) (QI cS V q) 0 0 (vAd cS V) :=
  met_I (by decide +kernel) rfl (Nat.le_of_ble_eq_true rfl) (fun _ _ X hQ => wX7_odds X hQ x1 x2 x3  I J hf)
-- X7_digestOfPeople
set_option maxRecDepth 4000 in
theorem wHX7_digestOfPeople_20 {M : MT} {V : VT}  (X : Cx M cS V cX7_digestOfPeople 7 RX7 (some .long) 4) {q : RT Int64} (hQ : PL M cS V q) (k5 : Int64 → Int32 → aI → aJ → Option (RT Int64)) (hk5 : ∀ (x3 : Int64) (x5 : Int32)  (I : aI) (J : aJ), k5 x3 x5 I J = some q → Wg M cS V 7 I J 5 [(0, .ref (V.2.2 0)), (3, .long x3), (5, .int x5)] []) (k20 : Int64 → Int32 → Int32 → aI → aJ → Option (RT Int64)) (hk20 : ∀ (x3 : Int64) (x5 : Int32) (x6 : Int32)  (I : aI) (J : aJ), k20 x3 x5 x6 I J = some q → Wg M cS V 7 I J 20 [(0, .ref (V.2.2 0)), (3, .long x3), (5, .int x5), (6, .int x6)] []) (x3 : Int64) (x5 : Int32) (x6 : Int32)  (I : aI) (J : aJ) (hf : HX7_digestOfPeople_20  k5 k20 x3 x5 x6 I J = some q) : Wg M cS V 7 I J 20 [(0, .ref (V.2.2 0)), (3, .long x3), (5, .int x5), (6, .int x6)] [] := by
  unfold HX7_digestOfPeople_20 at hf
  refine g_iload X dX7_digestOfPeople_20 3 rfl ?_
  refine g_bipush X dX7_digestOfPeople_22 (v := 9) rfl ?_
  refine g_icmp_ge X dX7_digestOfPeople_24 (tgt := 47) (by decide) (fun hc2 => ?_) (fun hc2 => ?_)
  · rw [if_pos hc2] at hf
    refine g_lload_n X dX7_digestOfPeople_47 1 rfl ?_
    refine g_aload_n X dX7_digestOfPeople_48 0 rfl ?_
    refine g_iload X dX7_digestOfPeople_49 2 rfl ?_
    refine g_iconst X dX7_digestOfPeople_51 (v := 2) rfl ?_
    refine g_iconst X dX7_digestOfPeople_52 (v := 0) rfl ?_
    obtain ⟨r3, I3, J3, hb3, hf⟩ := bnd_some hf
    refine g_callV X dX7_digestOfPeople_53 cw_X7_282 (k := 0) (As := [.int x5, .int 2, .int 0]) (rcv okC_0 cl7) rfl rfl (Nat.le_of_ble_eq_true rfl) (by decide) (cX7_odds_ok  M.2.1 V x5 2 0  I J hb3) (kI ?_)
    refine g_i2l X dX7_digestOfPeople_56 ?_
    obtain ⟨r4, I4, J4, hb4, hf⟩ := bnd_some hf
    refine g_callS X dX7_digestOfPeople_57 sw_X7_269 (As := [.long x3, .long (Int32.toInt64 r3)]) rfl rfl (Nat.le_of_ble_eq_true rfl) (by decide) (cX7_mix_ok  M.2.1 V x3 (Int32.toInt64 r3)  I3 J3 hb4) (kL ?_)
    refine g_aload_n X dX7_digestOfPeople_60 0 rfl ?_
    refine g_iload X dX7_digestOfPeople_61 2 rfl ?_
    refine g_iconst X dX7_digestOfPeople_63 (v := 2) rfl ?_
    refine g_iconst X dX7_digestOfPeople_64 (v := 1) rfl ?_
    obtain ⟨r5, I5, J5, hb5, hf⟩ := bnd_some hf
    refine g_callV X dX7_digestOfPeople_65 cw_X7_282 (k := 0) (As := [.int x5, .int 2, .int 1]) (rcv okC_0 cl7) rfl rfl (Nat.le_of_ble_eq_true rfl) (by decide) (cX7_odds_ok  M.2.1 V x5 2 1  I4 J4 hb5) (kI ?_)
    refine g_i2l X dX7_digestOfPeople_68 ?_
    obtain ⟨r6, I6, J6, hb6, hf⟩ := bnd_some hf
    refine g_callS X dX7_digestOfPeople_69 sw_X7_269 (As := [.long r4, .long (Int32.toInt64 r5)]) rfl rfl (Nat.le_of_ble_eq_true rfl) (by decide) (cX7_mix_ok  M.2.1 V r4 (Int32.toInt64 r5)  I5 J5 hb6) (kL ?_)
    refine g_lstore_n X dX7_digestOfPeople_72 (by decide) [(3, .long r6), (0, .ref (V.2.2 0)), (5, .int x5), (6, .int x6)] rfl ?_
    refine g_iinc X dX7_digestOfPeople_73 2 rfl 1 rfl (by decide) [(5, .int (x5 + 1)), (3, .long r6), (0, .ref (V.2.2 0)), (6, .int x6)] rfl ?_
    refine g_goto X dX7_digestOfPeople_76 (tgt := 5) (by decide) ?_
    refine g_sub [2, 1, 0] rfl ?_
    exact hk5 r6 (x5 + 1)  I6 J6 hf
  · rw [if_neg hc2] at hf
    refine g_lload_n X dX7_digestOfPeople_27 1 rfl ?_
    refine g_aload_n X dX7_digestOfPeople_28 0 rfl ?_
    refine g_iload X dX7_digestOfPeople_29 2 rfl ?_
    refine g_iload X dX7_digestOfPeople_31 3 rfl ?_
    obtain ⟨r7, I7, J7, hb7, hf⟩ := bnd_some hf
    refine g_callV X dX7_digestOfPeople_33 cw_X7_279 (k := 0) (As := [.int x5, .int x6]) (rcv okC_0 cl7) rfl rfl (Nat.le_of_ble_eq_true rfl) (by decide) (cX7_person_ok  M.2.1 V x5 x6  I J hb7) (kI ?_)
    refine g_i2l X dX7_digestOfPeople_36 ?_
    obtain ⟨r8, I8, J8, hb8, hf⟩ := bnd_some hf
    refine g_callS X dX7_digestOfPeople_37 sw_X7_269 (As := [.long x3, .long (Int32.toInt64 r7)]) rfl rfl (Nat.le_of_ble_eq_true rfl) (by decide) (cX7_mix_ok  M.2.1 V x3 (Int32.toInt64 r7)  I7 J7 hb8) (kL ?_)
    refine g_lstore_n X dX7_digestOfPeople_40 (by decide) [(3, .long r8), (0, .ref (V.2.2 0)), (5, .int x5), (6, .int x6)] rfl ?_
    refine g_iinc X dX7_digestOfPeople_41 3 rfl 1 rfl (by decide) [(6, .int (x6 + 1)), (3, .long r8), (0, .ref (V.2.2 0)), (5, .int x5)] rfl ?_
    refine g_goto X dX7_digestOfPeople_44 (tgt := 20) (by decide) ?_
    refine g_sub [2, 1, 3, 0] rfl ?_
    exact hk20 r8 x5 (x6 + 1)  I8 J8 hf
set_option maxRecDepth 4000 in
theorem wLX7_digestOfPeople_20 {M : MT} {V : VT}  (X : Cx M cS V cX7_digestOfPeople 7 RX7 (some .long) 4) {q : RT Int64} (hQ : PL M cS V q) (k5 : Int64 → Int32 → aI → aJ → Option (RT Int64)) (hk5 : ∀ (x3 : Int64) (x5 : Int32)  (I : aI) (J : aJ), k5 x3 x5 I J = some q → Wg M cS V 7 I J 5 [(0, .ref (V.2.2 0)), (3, .long x3), (5, .int x5)] []) : ∀ (n : Nat) (x3 : Int64) (x5 : Int32) (x6 : Int32)  (I : aI) (J : aJ), LX7_digestOfPeople_20  k5 n x3 x5 x6 I J = some q → Wg M cS V 7 I J 20 [(0, .ref (V.2.2 0)), (3, .long x3), (5, .int x5), (6, .int x6)] [] := by
  intro n
  induction n with
  | zero => intro x3 x5 x6  I J hf; cases hf
  | succ n ih => intro x3 x5 x6  I J hf; exact wHX7_digestOfPeople_20  X hQ k5 hk5 (LX7_digestOfPeople_20  k5 n) ih x3 x5 x6  I J hf
set_option maxRecDepth 4000 in
theorem wHX7_digestOfPeople_5 {M : MT} {V : VT}  (X : Cx M cS V cX7_digestOfPeople 7 RX7 (some .long) 4) {q : RT Int64} (hQ : PL M cS V q) (k5 : Int64 → Int32 → aI → aJ → Option (RT Int64)) (hk5 : ∀ (x3 : Int64) (x5 : Int32)  (I : aI) (J : aJ), k5 x3 x5 I J = some q → Wg M cS V 7 I J 5 [(0, .ref (V.2.2 0)), (3, .long x3), (5, .int x5)] []) (x3 : Int64) (x5 : Int32)  (I : aI) (J : aJ) (hf : HX7_digestOfPeople_5  k5 x3 x5 I J = some q) : Wg M cS V 7 I J 5 [(0, .ref (V.2.2 0)), (3, .long x3), (5, .int x5)] [] := by
  unfold HX7_digestOfPeople_5 at hf
  refine g_iload X dX7_digestOfPeople_5 2 rfl ?_
  refine g_aload_n X dX7_digestOfPeople_7 0 rfl ?_
  refine g_get X dX7_digestOfPeople_8 okC_0 cl7 2 (by decide) m_289 rfl ?_
  refine g_get X dX7_digestOfPeople_11 okC_22 cl1 0 (by decide) m_177 rfl ?_
  refine g_icmp_ge X dX7_digestOfPeople_14 (tgt := 79) (by decide) (fun hc1 => ?_) (fun hc1 => ?_)
  · rw [if_pos hc1] at hf
    refine g_lload_n X dX7_digestOfPeople_79 1 rfl ?_
    cases hf
    exact g_lreturn X dX7_digestOfPeople_80 hQ
  · rw [if_neg hc1] at hf
    refine g_iconst X dX7_digestOfPeople_17 (v := 0) rfl ?_
    refine g_istore X dX7_digestOfPeople_18 (by decide) [(6, .int 0), (0, .ref (V.2.2 0)), (3, .long x3), (5, .int x5)] rfl ?_
    refine g_sub [1, 2, 3, 0] rfl ?_
    exact wLX7_digestOfPeople_20  X hQ k5 hk5 128 x3 x5 0  I J hf
set_option maxRecDepth 4000 in
theorem wLX7_digestOfPeople_5 {M : MT} {V : VT}  (X : Cx M cS V cX7_digestOfPeople 7 RX7 (some .long) 4) {q : RT Int64} (hQ : PL M cS V q)  : ∀ (n : Nat) (x3 : Int64) (x5 : Int32)  (I : aI) (J : aJ), LX7_digestOfPeople_5   n x3 x5 I J = some q → Wg M cS V 7 I J 5 [(0, .ref (V.2.2 0)), (3, .long x3), (5, .int x5)] [] := by
  intro n
  induction n with
  | zero => intro x3 x5  I J hf; cases hf
  | succ n ih => intro x3 x5  I J hf; exact wHX7_digestOfPeople_5  X hQ  (LX7_digestOfPeople_5   n) ih x3 x5  I J hf
set_option maxRecDepth 4000 in
theorem wX7_digestOfPeople {M : MT} {V : VT} (X : Cx M cS V cX7_digestOfPeople 7 RX7 (some .long) 4) {q : RT Int64} (hQ : PL M cS V q) (x1 : Int64)  (I : aI) (J : aJ) (hf : fX7_digestOfPeople x1 I J = some q) : Wg M cS V 7 I J 0 [(0, .ref (V.2.2 0)), (1, .long x1)] [] := by
  unfold fX7_digestOfPeople at hf
  refine g_lload_n X dX7_digestOfPeople_0 1 rfl ?_
  refine g_lstore_n X dX7_digestOfPeople_1 (by decide) [(3, .long x1), (0, .ref (V.2.2 0)), (1, .long x1)] rfl ?_
  refine g_iconst X dX7_digestOfPeople_2 (v := 0) rfl ?_
  refine g_istore X dX7_digestOfPeople_3 (by decide) [(5, .int 0), (3, .long x1), (0, .ref (V.2.2 0)), (1, .long x1)] rfl ?_
  refine g_sub [2, 1, 0] rfl ?_
  exact wLX7_digestOfPeople_5  X hQ  128 x1 0  I J hf
set_option maxRecDepth 4000 in
theorem cX7_digestOfPeople_ok (l : Launch) (V : VT) (x1 : Int64)  (I : aI) (J : aJ) {q : RT Int64} (hf : fX7_digestOfPeople x1 I J = some q) : Met l yX7_digestOfPeople (.code yX7_digestOfPeople cX7_digestOfPeople 7 (some .long) :: GG) (rmD 4) (va_Pc [.ref (V.2.2 0), .long x1] (cQ cS V I J)) (QL cS V q) 0 0 (vAd cS V) :=
  met_L (by decide +kernel) rfl (Nat.le_of_ble_eq_true rfl) (fun _ _ X hQ => wX7_digestOfPeople X hQ x1  I J hf)
-- X7_road
set_option maxRecDepth 4000 in
theorem wBX7_road_57 {M : MT} {V : VT}  (X : Cx M cS V cX7_road 3 RX7 (some .int) 1) {q : RT Int32} (hQ : PI M cS V q)  (s0 : Int32)  (I : aI) (J : aJ) (hf : BX7_road_57   s0 I J = some q) : Wg M cS V 3 I J 57 [] [.int s0] := by
  unfold BX7_road_57 at hf
  cases hf
  exact g_ireturn X dX7_road_57 hQ
set_option maxRecDepth 4000 in
theorem wX7_road {M : MT} {V : VT} (X : Cx M cS V cX7_road 3 RX7 (some .int) 1) {q : RT Int32} (hQ : PI M cS V q) (x1 : Int32) (x2 : Int32)  (I : aI) (J : aJ) (hf : fX7_road x1 x2 I J = some q) : Wg M cS V 3 I J 0 [(0, .ref (V.2.2 0)), (1, .int x1), (2, .int x2)] [] := by
  unfold fX7_road at hf
  refine g_iload_n X dX7_road_0 1 rfl ?_
  refine g_iconst X dX7_road_1 (v := 0) rfl ?_
  refine g_aload_n X dX7_road_2 0 rfl ?_
  refine g_get X dX7_road_3 okC_0 cl7 1 (by decide) m_288 rfl ?_
  refine g_get X dX7_road_6 okC_3 cl6 1 (by decide) m_137 rfl ?_
  refine g_iconst X dX7_road_9 (v := 1) rfl ?_
  refine g_isub X dX7_road_10 ?_
  obtain ⟨r1, I1, J1, hb1, hf⟩ := bnd_some hf
  refine g_callS X dX7_road_11 sw_X7_70 (As := [.int x1, .int 0, .int ((I 3 1) - 1)]) rfl rfl (Nat.le_of_ble_eq_true rfl) (by decide) (cX7_isWithin_ok  M.2.1 V x1 0 ((I 3 1) - 1)  I J hb1) (kI ?_)
  refine g_if_ne X dX7_road_14 (tgt := 20) (by decide) (fun hc2 => ?_) (fun hc2 => ?_)
  · rw [if_neg hc2] at hf
    refine g_iload_n X dX7_road_20 2 rfl ?_
    refine g_iconst X dX7_road_21 (v := 0) rfl ?_
    refine g_iconst X dX7_road_22 (v := 1) rfl ?_
    obtain ⟨r3, I3, J3, hb3, hf⟩ := bnd_some hf
    refine g_callS X dX7_road_23 sw_X7_70 (As := [.int x2, .int 0, .int 1]) rfl rfl (Nat.le_of_ble_eq_true rfl) (by decide) (cX7_isWithin_ok  M.2.1 V x2 0 1  I1 J1 hb3) (kI ?_)
    refine g_if_ne X dX7_road_26 (tgt := 32) (by decide) (fun hc4 => ?_) (fun hc4 => ?_)
    · rw [if_neg hc4] at hf
      refine g_iload_n X dX7_road_32 2 rfl ?_
      refine g_if_ne X dX7_road_33 (tgt := 48) (by decide) (fun hc5 => ?_) (fun hc5 => ?_)
      · rw [if_neg hc5] at hf
        refine g_aload_n X dX7_road_48 0 rfl ?_
        refine g_get X dX7_road_49 okC_0 cl7 1 (by decide) m_288 rfl ?_
        refine g_get X dX7_road_52 okC_3 cl6 3 (by decide) m_143 rfl ?_
        refine g_iload_n X dX7_road_55 1 rfl ?_
        obtain ⟨hg6, hf⟩ := gd_some hf
        refine g_iaload X dX7_road_56 okC_5 hg6 ?_
        refine g_sub [] rfl ?_
        exact wBX7_road_57  X hQ  (I3 5 (Int32.toNatClampNeg x1))  I3 J3 hf
      · rw [if_pos hc5] at hf
        refine g_aload_n X dX7_road_36 0 rfl ?_
        refine g_get X dX7_road_37 okC_0 cl7 1 (by decide) m_288 rfl ?_
        refine g_get X dX7_road_40 okC_3 cl6 2 (by decide) m_140 rfl ?_
        refine g_iload_n X dX7_road_43 1 rfl ?_
        obtain ⟨hg7, hf⟩ := gd_some hf
        refine g_iaload X dX7_road_44 okC_4 hg7 ?_
        refine g_goto X dX7_road_45 (tgt := 57) (by decide) ?_
        refine g_sub [] rfl ?_
        exact wBX7_road_57  X hQ  (I3 4 (Int32.toNatClampNeg x1))  I3 J3 hf
    · rw [if_pos hc4] at hf
      refine g_bipush X dX7_road_29 (v := (-102)) rfl ?_
      cases hf
      exact g_ireturn X dX7_road_31 hQ
  · rw [if_pos hc2] at hf
    refine g_bipush X dX7_road_17 (v := (-101)) rfl ?_
    cases hf
    exact g_ireturn X dX7_road_19 hQ
set_option maxRecDepth 4000 in
theorem cX7_road_ok (l : Launch) (V : VT) (x1 : Int32) (x2 : Int32)  (I : aI) (J : aJ) {q : RT Int32} (hf : fX7_road x1 x2 I J = some q) : Met l yX7_road (.code yX7_road cX7_road 3 (some .int) :: GG) (rmD 1) (va_Pc [.ref (V.2.2 0), .int x1, .int x2] (cQ cS V I J)) (QI cS V q) 0 0 (vAd cS V) :=
  met_I (by decide +kernel) rfl (Nat.le_of_ble_eq_true rfl) (fun _ _ X hQ => wX7_road X hQ x1 x2  I J hf)
-- X7_digestOfStreets
set_option maxRecDepth 4000 in
theorem wHX7_digestOfStreets_70 {M : MT} {V : VT}  (X : Cx M cS V cX7_digestOfStreets 7 RX7 (some .long) 3) {q : RT Int64} (hQ : PL M cS V q) (k55 : Int64 → Int32 → aI → aJ → Option (RT Int64)) (hk55 : ∀ (x3 : Int64) (x5 : Int32)  (I : aI) (J : aJ), k55 x3 x5 I J = some q → Wg M cS V 7 I J 55 [(0, .ref (V.2.2 0)), (3, .long x3), (5, .int x5)] []) (k70 : Int64 → Int32 → Int32 → aI → aJ → Option (RT Int64)) (hk70 : ∀ (x3 : Int64) (x5 : Int32) (x6 : Int32)  (I : aI) (J : aJ), k70 x3 x5 x6 I J = some q → Wg M cS V 7 I J 70 [(0, .ref (V.2.2 0)), (3, .long x3), (5, .int x5), (6, .int x6)] []) (x3 : Int64) (x5 : Int32) (x6 : Int32)  (I : aI) (J : aJ) (hf : HX7_digestOfStreets_70  k55 k70 x3 x5 x6 I J = some q) : Wg M cS V 7 I J 70 [(0, .ref (V.2.2 0)), (3, .long x3), (5, .int x5), (6, .int x6)] [] := by
  unfold HX7_digestOfStreets_70 at hf
  refine g_iload X dX7_digestOfStreets_70 3 rfl ?_
  refine g_iconst X dX7_digestOfStreets_72 (v := 4) rfl ?_
  refine g_icmp_ge X dX7_digestOfStreets_73 (tgt := 96) (by decide) (fun hc3 => ?_) (fun hc3 => ?_)
  · rw [if_pos hc3] at hf
    refine g_iinc X dX7_digestOfStreets_96 2 rfl 1 rfl (by decide) [(5, .int (x5 + 1)), (0, .ref (V.2.2 0)), (3, .long x3), (6, .int x6)] rfl ?_
    refine g_goto X dX7_digestOfStreets_99 (tgt := 55) (by decide) ?_
    refine g_sub [1, 2, 0] rfl ?_
    exact hk55 x3 (x5 + 1)  I J hf
  · rw [if_neg hc3] at hf
    refine g_lload_n X dX7_digestOfStreets_76 1 rfl ?_
    refine g_aload_n X dX7_digestOfStreets_77 0 rfl ?_
    refine g_iload X dX7_digestOfStreets_78 2 rfl ?_
    refine g_iload X dX7_digestOfStreets_80 3 rfl ?_
    obtain ⟨r4, I4, J4, hb4, hf⟩ := bnd_some hf
    refine g_callV X dX7_digestOfStreets_82 cw_X7_289 (k := 0) (As := [.int x5, .int x6]) (rcv okC_0 cl7) rfl rfl (Nat.le_of_ble_eq_true rfl) (by decide) (cX7_corner_ok  M.2.1 V x5 x6  I J hb4) (kI ?_)
    refine g_i2l X dX7_digestOfStreets_85 ?_
    obtain ⟨r5, I5, J5, hb5, hf⟩ := bnd_some hf
    refine g_callS X dX7_digestOfStreets_86 sw_X7_269 (As := [.long x3, .long (Int32.toInt64 r4)]) rfl rfl (Nat.le_of_ble_eq_true rfl) (by decide) (cX7_mix_ok  M.2.1 V x3 (Int32.toInt64 r4)  I4 J4 hb5) (kL ?_)
    refine g_lstore_n X dX7_digestOfStreets_89 (by decide) [(3, .long r5), (0, .ref (V.2.2 0)), (5, .int x5), (6, .int x6)] rfl ?_
    refine g_iinc X dX7_digestOfStreets_90 3 rfl 1 rfl (by decide) [(6, .int (x6 + 1)), (3, .long r5), (0, .ref (V.2.2 0)), (5, .int x5)] rfl ?_
    refine g_goto X dX7_digestOfStreets_93 (tgt := 70) (by decide) ?_
    refine g_sub [2, 1, 3, 0] rfl ?_
    exact hk70 r5 x5 (x6 + 1)  I5 J5 hf
set_option maxRecDepth 4000 in
theorem wLX7_digestOfStreets_70 {M : MT} {V : VT}  (X : Cx M cS V cX7_digestOfStreets 7 RX7 (some .long) 3) {q : RT Int64} (hQ : PL M cS V q) (k55 : Int64 → Int32 → aI → aJ → Option (RT Int64)) (hk55 : ∀ (x3 : Int64) (x5 : Int32)  (I : aI) (J : aJ), k55 x3 x5 I J = some q → Wg M cS V 7 I J 55 [(0, .ref (V.2.2 0)), (3, .long x3), (5, .int x5)] []) : ∀ (n : Nat) (x3 : Int64) (x5 : Int32) (x6 : Int32)  (I : aI) (J : aJ), LX7_digestOfStreets_70  k55 n x3 x5 x6 I J = some q → Wg M cS V 7 I J 70 [(0, .ref (V.2.2 0)), (3, .long x3), (5, .int x5), (6, .int x6)] [] := by
  intro n
  induction n with
  | zero => intro x3 x5 x6  I J hf; cases hf
  | succ n ih => intro x3 x5 x6  I J hf; exact wHX7_digestOfStreets_70  X hQ k55 hk55 (LX7_digestOfStreets_70  k55 n) ih x3 x5 x6  I J hf
set_option maxRecDepth 4000 in
theorem wHX7_digestOfStreets_55 {M : MT} {V : VT}  (X : Cx M cS V cX7_digestOfStreets 7 RX7 (some .long) 3) {q : RT Int64} (hQ : PL M cS V q) (k55 : Int64 → Int32 → aI → aJ → Option (RT Int64)) (hk55 : ∀ (x3 : Int64) (x5 : Int32)  (I : aI) (J : aJ), k55 x3 x5 I J = some q → Wg M cS V 7 I J 55 [(0, .ref (V.2.2 0)), (3, .long x3), (5, .int x5)] []) (x3 : Int64) (x5 : Int32)  (I : aI) (J : aJ) (hf : HX7_digestOfStreets_55  k55 x3 x5 I J = some q) : Wg M cS V 7 I J 55 [(0, .ref (V.2.2 0)), (3, .long x3), (5, .int x5)] [] := by
  unfold HX7_digestOfStreets_55 at hf
  refine g_iload X dX7_digestOfStreets_55 2 rfl ?_
  refine g_aload_n X dX7_digestOfStreets_57 0 rfl ?_
  refine g_get X dX7_digestOfStreets_58 okC_0 cl7 1 (by decide) m_288 rfl ?_
  refine g_get X dX7_digestOfStreets_61 okC_3 cl6 0 (by decide) m_134 rfl ?_
  refine g_icmp_ge X dX7_digestOfStreets_64 (tgt := 102) (by decide) (fun hc2 => ?_) (fun hc2 => ?_)
  · rw [if_pos hc2] at hf
    refine g_lload_n X dX7_digestOfStreets_102 1 rfl ?_
    cases hf
    exact g_lreturn X dX7_digestOfStreets_103 hQ
  · rw [if_neg hc2] at hf
    refine g_iconst X dX7_digestOfStreets_67 (v := 0) rfl ?_
    refine g_istore X dX7_digestOfStreets_68 (by decide) [(6, .int 0), (0, .ref (V.2.2 0)), (3, .long x3), (5, .int x5)] rfl ?_
    refine g_sub [1, 2, 3, 0] rfl ?_
    exact wLX7_digestOfStreets_70  X hQ k55 hk55 128 x3 x5 0  I J hf
set_option maxRecDepth 4000 in
theorem wLX7_digestOfStreets_55 {M : MT} {V : VT}  (X : Cx M cS V cX7_digestOfStreets 7 RX7 (some .long) 3) {q : RT Int64} (hQ : PL M cS V q)  : ∀ (n : Nat) (x3 : Int64) (x5 : Int32)  (I : aI) (J : aJ), LX7_digestOfStreets_55   n x3 x5 I J = some q → Wg M cS V 7 I J 55 [(0, .ref (V.2.2 0)), (3, .long x3), (5, .int x5)] [] := by
  intro n
  induction n with
  | zero => intro x3 x5  I J hf; cases hf
  | succ n ih => intro x3 x5  I J hf; exact wHX7_digestOfStreets_55  X hQ  (LX7_digestOfStreets_55   n) ih x3 x5  I J hf
set_option maxRecDepth 4000 in
theorem wHX7_digestOfStreets_20 {M : MT} {V : VT}  (X : Cx M cS V cX7_digestOfStreets 7 RX7 (some .long) 3) {q : RT Int64} (hQ : PL M cS V q) (k5 : Int64 → Int32 → aI → aJ → Option (RT Int64)) (hk5 : ∀ (x3 : Int64) (x5 : Int32)  (I : aI) (J : aJ), k5 x3 x5 I J = some q → Wg M cS V 7 I J 5 [(0, .ref (V.2.2 0)), (3, .long x3), (5, .int x5)] []) (k20 : Int64 → Int32 → Int32 → aI → aJ → Option (RT Int64)) (hk20 : ∀ (x3 : Int64) (x5 : Int32) (x6 : Int32)  (I : aI) (J : aJ), k20 x3 x5 x6 I J = some q → Wg M cS V 7 I J 20 [(0, .ref (V.2.2 0)), (3, .long x3), (5, .int x5), (6, .int x6)] []) (x3 : Int64) (x5 : Int32) (x6 : Int32)  (I : aI) (J : aJ) (hf : HX7_digestOfStreets_20  k5 k20 x3 x5 x6 I J = some q) : Wg M cS V 7 I J 20 [(0, .ref (V.2.2 0)), (3, .long x3), (5, .int x5), (6, .int x6)] [] := by
  unfold HX7_digestOfStreets_20 at hf
  refine g_iload X dX7_digestOfStreets_20 3 rfl ?_
  refine g_iconst X dX7_digestOfStreets_22 (v := 2) rfl ?_
  refine g_icmp_ge X dX7_digestOfStreets_23 (tgt := 46) (by decide) (fun hc6 => ?_) (fun hc6 => ?_)
  · rw [if_pos hc6] at hf
    refine g_iinc X dX7_digestOfStreets_46 2 rfl 1 rfl (by decide) [(5, .int (x5 + 1)), (0, .ref (V.2.2 0)), (3, .long x3), (6, .int x6)] rfl ?_
    refine g_goto X dX7_digestOfStreets_49 (tgt := 5) (by decide) ?_
    refine g_sub [1, 2, 0] rfl ?_
    exact hk5 x3 (x5 + 1)  I J hf
  · rw [if_neg hc6] at hf
    refine g_lload_n X dX7_digestOfStreets_26 1 rfl ?_
    refine g_aload_n X dX7_digestOfStreets_27 0 rfl ?_
    refine g_iload X dX7_digestOfStreets_28 2 rfl ?_
    refine g_iload X dX7_digestOfStreets_30 3 rfl ?_
    obtain ⟨r7, I7, J7, hb7, hf⟩ := bnd_some hf
    refine g_callV X dX7_digestOfStreets_32 cw_X7_286 (k := 0) (As := [.int x5, .int x6]) (rcv okC_0 cl7) rfl rfl (Nat.le_of_ble_eq_true rfl) (by decide) (cX7_road_ok  M.2.1 V x5 x6  I J hb7) (kI ?_)
    refine g_i2l X dX7_digestOfStreets_35 ?_
    obtain ⟨r8, I8, J8, hb8, hf⟩ := bnd_some hf
    refine g_callS X dX7_digestOfStreets_36 sw_X7_269 (As := [.long x3, .long (Int32.toInt64 r7)]) rfl rfl (Nat.le_of_ble_eq_true rfl) (by decide) (cX7_mix_ok  M.2.1 V x3 (Int32.toInt64 r7)  I7 J7 hb8) (kL ?_)
    refine g_lstore_n X dX7_digestOfStreets_39 (by decide) [(3, .long r8), (0, .ref (V.2.2 0)), (5, .int x5), (6, .int x6)] rfl ?_
    refine g_iinc X dX7_digestOfStreets_40 3 rfl 1 rfl (by decide) [(6, .int (x6 + 1)), (3, .long r8), (0, .ref (V.2.2 0)), (5, .int x5)] rfl ?_
    refine g_goto X dX7_digestOfStreets_43 (tgt := 20) (by decide) ?_
    refine g_sub [2, 1, 3, 0] rfl ?_
    exact hk20 r8 x5 (x6 + 1)  I8 J8 hf
set_option maxRecDepth 4000 in
theorem wLX7_digestOfStreets_20 {M : MT} {V : VT}  (X : Cx M cS V cX7_digestOfStreets 7 RX7 (some .long) 3) {q : RT Int64} (hQ : PL M cS V q) (k5 : Int64 → Int32 → aI → aJ → Option (RT Int64)) (hk5 : ∀ (x3 : Int64) (x5 : Int32)  (I : aI) (J : aJ), k5 x3 x5 I J = some q → Wg M cS V 7 I J 5 [(0, .ref (V.2.2 0)), (3, .long x3), (5, .int x5)] []) : ∀ (n : Nat) (x3 : Int64) (x5 : Int32) (x6 : Int32)  (I : aI) (J : aJ), LX7_digestOfStreets_20  k5 n x3 x5 x6 I J = some q → Wg M cS V 7 I J 20 [(0, .ref (V.2.2 0)), (3, .long x3), (5, .int x5), (6, .int x6)] [] := by
  intro n
  induction n with
  | zero => intro x3 x5 x6  I J hf; cases hf
  | succ n ih => intro x3 x5 x6  I J hf; exact wHX7_digestOfStreets_20  X hQ k5 hk5 (LX7_digestOfStreets_20  k5 n) ih x3 x5 x6  I J hf
set_option maxRecDepth 4000 in
theorem wHX7_digestOfStreets_5 {M : MT} {V : VT}  (X : Cx M cS V cX7_digestOfStreets 7 RX7 (some .long) 3) {q : RT Int64} (hQ : PL M cS V q) (k5 : Int64 → Int32 → aI → aJ → Option (RT Int64)) (hk5 : ∀ (x3 : Int64) (x5 : Int32)  (I : aI) (J : aJ), k5 x3 x5 I J = some q → Wg M cS V 7 I J 5 [(0, .ref (V.2.2 0)), (3, .long x3), (5, .int x5)] []) (x3 : Int64) (x5 : Int32)  (I : aI) (J : aJ) (hf : HX7_digestOfStreets_5  k5 x3 x5 I J = some q) : Wg M cS V 7 I J 5 [(0, .ref (V.2.2 0)), (3, .long x3), (5, .int x5)] [] := by
  unfold HX7_digestOfStreets_5 at hf
  refine g_iload X dX7_digestOfStreets_5 2 rfl ?_
  refine g_aload_n X dX7_digestOfStreets_7 0 rfl ?_
  refine g_get X dX7_digestOfStreets_8 okC_0 cl7 1 (by decide) m_288 rfl ?_
  refine g_get X dX7_digestOfStreets_11 okC_3 cl6 1 (by decide) m_137 rfl ?_
  refine g_icmp_ge X dX7_digestOfStreets_14 (tgt := 52) (by decide) (fun hc1 => ?_) (fun hc1 => ?_)
  · rw [if_pos hc1] at hf
    refine g_iconst X dX7_digestOfStreets_52 (v := 0) rfl ?_
    refine g_istore X dX7_digestOfStreets_53 (by decide) [(5, .int 0), (0, .ref (V.2.2 0)), (3, .long x3)] rfl ?_
    refine g_sub [1, 2, 0] rfl ?_
    exact wLX7_digestOfStreets_55  X hQ  128 x3 0  I J hf
  · rw [if_neg hc1] at hf
    refine g_iconst X dX7_digestOfStreets_17 (v := 0) rfl ?_
    refine g_istore X dX7_digestOfStreets_18 (by decide) [(6, .int 0), (0, .ref (V.2.2 0)), (3, .long x3), (5, .int x5)] rfl ?_
    refine g_sub [1, 2, 3, 0] rfl ?_
    exact wLX7_digestOfStreets_20  X hQ k5 hk5 128 x3 x5 0  I J hf
set_option maxRecDepth 4000 in
theorem wLX7_digestOfStreets_5 {M : MT} {V : VT}  (X : Cx M cS V cX7_digestOfStreets 7 RX7 (some .long) 3) {q : RT Int64} (hQ : PL M cS V q)  : ∀ (n : Nat) (x3 : Int64) (x5 : Int32)  (I : aI) (J : aJ), LX7_digestOfStreets_5   n x3 x5 I J = some q → Wg M cS V 7 I J 5 [(0, .ref (V.2.2 0)), (3, .long x3), (5, .int x5)] [] := by
  intro n
  induction n with
  | zero => intro x3 x5  I J hf; cases hf
  | succ n ih => intro x3 x5  I J hf; exact wHX7_digestOfStreets_5  X hQ  (LX7_digestOfStreets_5   n) ih x3 x5  I J hf
set_option maxRecDepth 4000 in
theorem wX7_digestOfStreets {M : MT} {V : VT} (X : Cx M cS V cX7_digestOfStreets 7 RX7 (some .long) 3) {q : RT Int64} (hQ : PL M cS V q) (x1 : Int64)  (I : aI) (J : aJ) (hf : fX7_digestOfStreets x1 I J = some q) : Wg M cS V 7 I J 0 [(0, .ref (V.2.2 0)), (1, .long x1)] [] := by
  unfold fX7_digestOfStreets at hf
  refine g_lload_n X dX7_digestOfStreets_0 1 rfl ?_
  refine g_lstore_n X dX7_digestOfStreets_1 (by decide) [(3, .long x1), (0, .ref (V.2.2 0)), (1, .long x1)] rfl ?_
  refine g_iconst X dX7_digestOfStreets_2 (v := 0) rfl ?_
  refine g_istore X dX7_digestOfStreets_3 (by decide) [(5, .int 0), (3, .long x1), (0, .ref (V.2.2 0)), (1, .long x1)] rfl ?_
  refine g_sub [2, 1, 0] rfl ?_
  exact wLX7_digestOfStreets_5  X hQ  128 x1 0  I J hf
set_option maxRecDepth 4000 in
theorem cX7_digestOfStreets_ok (l : Launch) (V : VT) (x1 : Int64)  (I : aI) (J : aJ) {q : RT Int64} (hf : fX7_digestOfStreets x1 I J = some q) : Met l yX7_digestOfStreets (.code yX7_digestOfStreets cX7_digestOfStreets 7 (some .long) :: GG) (rmD 3) (va_Pc [.ref (V.2.2 0), .long x1] (cQ cS V I J)) (QL cS V q) 0 0 (vAd cS V) :=
  met_L (by decide +kernel) rfl (Nat.le_of_ble_eq_true rfl) (fun _ _ X hQ => wX7_digestOfStreets X hQ x1  I J hf)
-- X7_places
set_option maxRecDepth 4000 in
theorem wBX7_places_16 {M : MT} {V : VT}  (X : Cx M cS V cX7_places 1 RX7 (some .int) 2) {q : RT Int32} (hQ : PI M cS V q)  (s0 : Int32)  (I : aI) (J : aJ) (hf : BX7_places_16   s0 I J = some q) : Wg M cS V 1 I J 16 [] [.int s0] := by
  unfold BX7_places_16 at hf
  cases hf
  exact g_ireturn X dX7_places_16 hQ
set_option maxRecDepth 4000 in
theorem wX7_places {M : MT} {V : VT} (X : Cx M cS V cX7_places 1 RX7 (some .int) 2) {q : RT Int32} (hQ : PI M cS V q)   (I : aI) (J : aJ) (hf : fX7_places  I J = some q) : Wg M cS V 1 I J 0 [(0, .ref (V.2.2 0))] [] := by
  unfold fX7_places at hf
  refine g_aload_n X dX7_places_0 0 rfl ?_
  obtain ⟨r1, I1, J1, hb1, hf⟩ := bnd_some hf
  refine g_callV X dX7_places_1 cw_X7_190 (k := 0) (As := []) (rcv okC_0 cl7) rfl rfl (Nat.le_of_ble_eq_true rfl) (by decide) (cX7_hasSuburb_ok  M.2.1 V   I J hb1) (kI ?_)
  refine g_if_eq X dX7_places_4 (tgt := 14) (by decide) (fun hc2 => ?_) (fun hc2 => ?_)
  · rw [if_pos hc2] at hf
    refine g_bipush X dX7_places_14 (v := (-103)) rfl ?_
    refine g_sub [] rfl ?_
    exact wBX7_places_16  X hQ  (-103)  I1 J1 hf
  · rw [if_neg hc2] at hf
    refine g_aload_n X dX7_places_7 0 rfl ?_
    obtain ⟨r3, I3, J3, hb3, hf⟩ := bnd_some hf
    refine g_callV X dX7_places_8 cw_X7_225 (k := 0) (As := []) (rcv okC_0 cl7) rfl rfl (Nat.le_of_ble_eq_true rfl) (by decide) (cX7_possibleCorners_ok  M.2.1 V   I1 J1 hb3) (kI ?_)
    refine g_goto X dX7_places_11 (tgt := 16) (by decide) ?_
    refine g_sub [] rfl ?_
    exact wBX7_places_16  X hQ  r3  I3 J3 hf
set_option maxRecDepth 4000 in
theorem cX7_places_ok (l : Launch) (V : VT)   (I : aI) (J : aJ) {q : RT Int32} (hf : fX7_places  I J = some q) : Met l yX7_places (.code yX7_places cX7_places 1 (some .int) :: GG) (rmD 2) (va_Pc [.ref (V.2.2 0)] (cQ cS V I J)) (QI cS V q) 0 0 (vAd cS V) :=
  met_I (by decide +kernel) rfl (Nat.le_of_ble_eq_true rfl) (fun _ _ X hQ => wX7_places X hQ   I J hf)
-- X7_digest
set_option maxRecDepth 4000 in
theorem wHX7_digest_75 {M : MT} {V : VT}  (X : Cx M cS V cX7_digest 4 RX7 (some .long) 5) {q : RT Int64} (hQ : PL M cS V q) (k75 : Int64 → Int32 → aI → aJ → Option (RT Int64)) (hk75 : ∀ (x1 : Int64) (x3 : Int32)  (I : aI) (J : aJ), k75 x1 x3 I J = some q → Wg M cS V 4 I J 75 [(0, .ref (V.2.2 0)), (1, .long x1), (3, .int x3)] []) (x1 : Int64) (x3 : Int32)  (I : aI) (J : aJ) (hf : HX7_digest_75  k75 x1 x3 I J = some q) : Wg M cS V 4 I J 75 [(0, .ref (V.2.2 0)), (1, .long x1), (3, .int x3)] [] := by
  unfold HX7_digest_75 at hf
  refine g_iload_n X dX7_digest_75 2 rfl ?_
  refine g_bipush X dX7_digest_76 (v := 12) rfl ?_
  refine g_icmp_ge X dX7_digest_78 (tgt := 98) (by decide) (fun hc12 => ?_) (fun hc12 => ?_)
  · rw [if_pos hc12] at hf
    refine g_lload_n X dX7_digest_98 1 rfl ?_
    cases hf
    exact g_lreturn X dX7_digest_99 hQ
  · rw [if_neg hc12] at hf
    refine g_lload_n X dX7_digest_81 1 rfl ?_
    refine g_aload_n X dX7_digest_82 0 rfl ?_
    refine g_iload_n X dX7_digest_83 2 rfl ?_
    obtain ⟨r13, I13, J13, hb13, hf⟩ := bnd_some hf
    refine g_callV X dX7_digest_84 cw_X7_276 (k := 0) (As := [.int x3]) (rcv okC_0 cl7) rfl rfl (Nat.le_of_ble_eq_true rfl) (by decide) (cX7_count_ok  M.2.1 V x3  I J hb13) (kI ?_)
    refine g_i2l X dX7_digest_87 ?_
    obtain ⟨r14, I14, J14, hb14, hf⟩ := bnd_some hf
    refine g_callS X dX7_digest_88 sw_X7_269 (As := [.long x1, .long (Int32.toInt64 r13)]) rfl rfl (Nat.le_of_ble_eq_true rfl) (by decide) (cX7_mix_ok  M.2.1 V x1 (Int32.toInt64 r13)  I13 J13 hb14) (kL ?_)
    refine g_lstore_n X dX7_digest_91 (by decide) [(1, .long r14), (0, .ref (V.2.2 0)), (3, .int x3)] rfl ?_
    refine g_iinc X dX7_digest_92 2 rfl 1 rfl (by decide) [(3, .int (x3 + 1)), (1, .long r14), (0, .ref (V.2.2 0))] rfl ?_
    refine g_goto X dX7_digest_95 (tgt := 75) (by decide) ?_
    refine g_sub [2, 1, 0] rfl ?_
    exact hk75 r14 (x3 + 1)  I14 J14 hf
set_option maxRecDepth 4000 in
theorem wLX7_digest_75 {M : MT} {V : VT}  (X : Cx M cS V cX7_digest 4 RX7 (some .long) 5) {q : RT Int64} (hQ : PL M cS V q)  : ∀ (n : Nat) (x1 : Int64) (x3 : Int32)  (I : aI) (J : aJ), LX7_digest_75   n x1 x3 I J = some q → Wg M cS V 4 I J 75 [(0, .ref (V.2.2 0)), (1, .long x1), (3, .int x3)] [] := by
  intro n
  induction n with
  | zero => intro x1 x3  I J hf; cases hf
  | succ n ih => intro x1 x3  I J hf; exact wHX7_digest_75  X hQ  (LX7_digest_75   n) ih x1 x3  I J hf
set_option maxRecDepth 4000 in
theorem wHX7_digest_41 {M : MT} {V : VT}  (X : Cx M cS V cX7_digest 4 RX7 (some .long) 5) {q : RT Int64} (hQ : PL M cS V q) (k41 : Int64 → Int32 → aI → aJ → Option (RT Int64)) (hk41 : ∀ (x1 : Int64) (x3 : Int32)  (I : aI) (J : aJ), k41 x1 x3 I J = some q → Wg M cS V 4 I J 41 [(0, .ref (V.2.2 0)), (1, .long x1), (3, .int x3)] []) (x1 : Int64) (x3 : Int32)  (I : aI) (J : aJ) (hf : HX7_digest_41  k41 x1 x3 I J = some q) : Wg M cS V 4 I J 41 [(0, .ref (V.2.2 0)), (1, .long x1), (3, .int x3)] [] := by
  unfold HX7_digest_41 at hf
  refine g_iload_n X dX7_digest_41 2 rfl ?_
  refine g_aload_n X dX7_digest_42 0 rfl ?_
  refine g_get X dX7_digest_43 okC_0 cl7 0 (by decide) m_287 rfl ?_
  refine g_get X dX7_digest_46 okC_1 cl3 1 (by decide) m_104 rfl ?_
  refine g_icmp_ge X dX7_digest_49 (tgt := 73) (by decide) (fun hc9 => ?_) (fun hc9 => ?_)
  · rw [if_pos hc9] at hf
    refine g_iconst X dX7_digest_73 (v := 0) rfl ?_
    refine g_istore_n X dX7_digest_74 (by decide) [(3, .int 0), (0, .ref (V.2.2 0)), (1, .long x1)] rfl ?_
    refine g_sub [1, 2, 0] rfl ?_
    exact wLX7_digest_75  X hQ  128 x1 0  I J hf
  · rw [if_neg hc9] at hf
    refine g_lload_n X dX7_digest_52 1 rfl ?_
    refine g_aload_n X dX7_digest_53 0 rfl ?_
    refine g_get X dX7_digest_54 okC_0 cl7 0 (by decide) m_287 rfl ?_
    refine g_get X dX7_digest_57 okC_1 cl3 0 (by decide) m_103 rfl ?_
    refine g_iload_n X dX7_digest_60 2 rfl ?_
    obtain ⟨hg10, hf⟩ := gd_some hf
    refine g_iaload X dX7_digest_61 okC_2 hg10 ?_
    refine g_i2l X dX7_digest_62 ?_
    obtain ⟨r11, I11, J11, hb11, hf⟩ := bnd_some hf
    refine g_callS X dX7_digest_63 sw_X7_269 (As := [.long x1, .long (Int32.toInt64 (I 2 (Int32.toNatClampNeg x3)))]) rfl rfl (Nat.le_of_ble_eq_true rfl) (by decide) (cX7_mix_ok  M.2.1 V x1 (Int32.toInt64 (I 2 (Int32.toNatClampNeg x3)))  I J hb11) (kL ?_)
    refine g_lstore_n X dX7_digest_66 (by decide) [(1, .long r11), (0, .ref (V.2.2 0)), (3, .int x3)] rfl ?_
    refine g_iinc X dX7_digest_67 2 rfl 1 rfl (by decide) [(3, .int (x3 + 1)), (1, .long r11), (0, .ref (V.2.2 0))] rfl ?_
    refine g_goto X dX7_digest_70 (tgt := 41) (by decide) ?_
    refine g_sub [2, 1, 0] rfl ?_
    exact hk41 r11 (x3 + 1)  I11 J11 hf
set_option maxRecDepth 4000 in
theorem wLX7_digest_41 {M : MT} {V : VT}  (X : Cx M cS V cX7_digest 4 RX7 (some .long) 5) {q : RT Int64} (hQ : PL M cS V q)  : ∀ (n : Nat) (x1 : Int64) (x3 : Int32)  (I : aI) (J : aJ), LX7_digest_41   n x1 x3 I J = some q → Wg M cS V 4 I J 41 [(0, .ref (V.2.2 0)), (1, .long x1), (3, .int x3)] [] := by
  intro n
  induction n with
  | zero => intro x1 x3  I J hf; cases hf
  | succ n ih => intro x1 x3  I J hf; exact wHX7_digest_41  X hQ  (LX7_digest_41   n) ih x1 x3  I J hf
set_option maxRecDepth 4000 in
theorem wBX7_digest_39 {M : MT} {V : VT}  (X : Cx M cS V cX7_digest 4 RX7 (some .long) 5) {q : RT Int64} (hQ : PL M cS V q)  (x1 : Int64)  (I : aI) (J : aJ) (hf : BX7_digest_39   x1 I J = some q) : Wg M cS V 4 I J 39 [(0, .ref (V.2.2 0)), (1, .long x1)] [] := by
  unfold BX7_digest_39 at hf
  refine g_iconst X dX7_digest_39 (v := 0) rfl ?_
  refine g_istore_n X dX7_digest_40 (by decide) [(3, .int 0), (0, .ref (V.2.2 0)), (1, .long x1)] rfl ?_
  refine g_sub [1, 2, 0] rfl ?_
  exact wLX7_digest_41  X hQ  128 x1 0  I J hf
set_option maxRecDepth 4000 in
theorem wX7_digest {M : MT} {V : VT} (X : Cx M cS V cX7_digest 4 RX7 (some .long) 5) {q : RT Int64} (hQ : PL M cS V q)   (I : aI) (J : aJ) (hf : fX7_digest  I J = some q) : Wg M cS V 4 I J 0 [(0, .ref (V.2.2 0))] [] := by
  unfold fX7_digest at hf
  refine g_aload_n X dX7_digest_0 0 rfl ?_
  refine g_ldc2 X dX7_digest_1 m_792 ?_
  obtain ⟨r1, I1, J1, hb1, hf⟩ := bnd_some hf
  refine g_callV X dX7_digest_4 cw_X7_259 (k := 0) (As := [.long 1237]) (rcv okC_0 cl7) rfl rfl (Nat.le_of_ble_eq_true rfl) (by decide) (cX7_digestOfPeople_ok  M.2.1 V 1237  I J hb1) (kL ?_)
  refine g_lstore_n X dX7_digest_7 (by decide) [(1, .long r1), (0, .ref (V.2.2 0))] rfl ?_
  refine g_aload_n X dX7_digest_8 1 rfl ?_
  refine g_lload_n X dX7_digest_9 0 rfl ?_
  obtain ⟨r2, I2, J2, hb2, hf⟩ := bnd_some hf
  refine g_callV X dX7_digest_10 cw_X7_263 (k := 0) (As := [.long r1]) (rcv okC_0 cl7) rfl rfl (Nat.le_of_ble_eq_true rfl) (by decide) (cX7_digestOfStreets_ok  M.2.1 V r1  I1 J1 hb2) (kL ?_)
  refine g_lstore_n X dX7_digest_13 (by decide) [(1, .long r2), (0, .ref (V.2.2 0))] rfl ?_
  refine g_aload_n X dX7_digest_14 1 rfl ?_
  obtain ⟨r3, I3, J3, hb3, hf⟩ := bnd_some hf
  refine g_callV X dX7_digest_15 cw_X7_190 (k := 0) (As := []) (rcv okC_0 cl7) rfl rfl (Nat.le_of_ble_eq_true rfl) (by decide) (cX7_hasSuburb_ok  M.2.1 V   I2 J2 hb3) (kI ?_)
  refine g_if_eq X dX7_digest_18 (tgt := 39) (by decide) (fun hc4 => ?_) (fun hc4 => ?_)
  · rw [if_pos hc4] at hf
    refine g_sub [1, 0] rfl ?_
    exact wBX7_digest_39  X hQ  r2  I3 J3 hf
  · rw [if_neg hc4] at hf
    refine g_lload_n X dX7_digest_21 0 rfl ?_
    refine g_aload_n X dX7_digest_22 1 rfl ?_
    obtain ⟨r5, I5, J5, hb5, hf⟩ := bnd_some hf
    refine g_callV X dX7_digest_23 cw_X7_266 (k := 0) (As := []) (rcv okC_0 cl7) rfl rfl (Nat.le_of_ble_eq_true rfl) (by decide) (cX7_places_ok  M.2.1 V   I3 J3 hb5) (kI ?_)
    refine g_i2l X dX7_digest_26 ?_
    obtain ⟨r6, I6, J6, hb6, hf⟩ := bnd_some hf
    refine g_callS X dX7_digest_27 sw_X7_269 (As := [.long r2, .long (Int32.toInt64 r5)]) rfl rfl (Nat.le_of_ble_eq_true rfl) (by decide) (cX7_mix_ok  M.2.1 V r2 (Int32.toInt64 r5)  I5 J5 hb6) (kL ?_)
    refine g_aload_n X dX7_digest_30 1 rfl ?_
    obtain ⟨r7, I7, J7, hb7, hf⟩ := bnd_some hf
    refine g_callV X dX7_digest_31 cw_X7_273 (k := 0) (As := []) (rcv okC_0 cl7) rfl rfl (Nat.le_of_ble_eq_true rfl) (by decide) (cX7_ask_ok  M.2.1 V   I6 J6 hb7) (kI ?_)
    refine g_i2l X dX7_digest_34 ?_
    obtain ⟨r8, I8, J8, hb8, hf⟩ := bnd_some hf
    refine g_callS X dX7_digest_35 sw_X7_269 (As := [.long r6, .long (Int32.toInt64 r7)]) rfl rfl (Nat.le_of_ble_eq_true rfl) (by decide) (cX7_mix_ok  M.2.1 V r6 (Int32.toInt64 r7)  I7 J7 hb8) (kL ?_)
    refine g_lstore_n X dX7_digest_38 (by decide) [(1, .long r8), (0, .ref (V.2.2 0))] rfl ?_
    refine g_sub [1, 0] rfl ?_
    exact wBX7_digest_39  X hQ  r8  I8 J8 hf
set_option maxRecDepth 4000 in
theorem cX7_digest_ok (l : Launch) (V : VT)   (I : aI) (J : aJ) {q : RT Int64} (hf : fX7_digest  I J = some q) : Met l yX7_digest (.code yX7_digest cX7_digest 4 (some .long) :: GG) (rmD 5) (va_Pc [.ref (V.2.2 0)] (cQ cS V I J)) (QL cS V q) 0 0 (vAd cS V) :=
  met_L (by decide +kernel) rfl (Nat.le_of_ble_eq_true rfl) (fun _ _ X hQ => wX7_digest X hQ   I J hf)
-- X7_drift
set_option maxRecDepth 4000 in
theorem wBX7_drift_87 {M : MT} {V : VT}  (X : Cx M cS V cX7_drift 7 RX7 (some .int) 3) {q : RT Int32} (hQ : PI M cS V q)  (x3 : Int64)  (I : aI) (J : aJ) (hf : BX7_drift_87   x3 I J = some q) : Wg M cS V 7 I J 87 [(3, .long x3)] [] := by
  unfold BX7_drift_87 at hf
  refine g_lload_n X dX7_drift_87 0 rfl ?_
  refine g_l2i X dX7_drift_88 ?_
  cases hf
  exact g_ireturn X dX7_drift_89 hQ
set_option maxRecDepth 4000 in
theorem wHX7_drift_6 {M : MT} {V : VT}  (X : Cx M cS V cX7_drift 7 RX7 (some .int) 3) {q : RT Int32} (hQ : PI M cS V q) (k6 : Int32 → Int64 → Int32 → aI → aJ → Option (RT Int32)) (hk6 : ∀ (x1 : Int32) (x3 : Int64) (x5 : Int32)  (I : aI) (J : aJ), k6 x1 x3 x5 I J = some q → Wg M cS V 7 I J 6 [(0, .ref (V.2.2 0)), (1, .int x1), (3, .long x3), (5, .int x5)] []) (x1 : Int32) (x3 : Int64) (x5 : Int32)  (I : aI) (J : aJ) (hf : HX7_drift_6  k6 x1 x3 x5 I J = some q) : Wg M cS V 7 I J 6 [(0, .ref (V.2.2 0)), (1, .int x1), (3, .long x3), (5, .int x5)] [] := by
  unfold HX7_drift_6 at hf
  refine g_iload X dX7_drift_6 3 rfl ?_
  refine g_iload_n X dX7_drift_8 1 rfl ?_
  refine g_icmp_ge X dX7_drift_9 (tgt := 87) (by decide) (fun hc1 => ?_) (fun hc1 => ?_)
  · rw [if_pos hc1] at hf
    refine g_sub [2] rfl ?_
    exact wBX7_drift_87  X hQ  x3  I J hf
  · rw [if_neg hc1] at hf
    refine g_aload_n X dX7_drift_12 0 rfl ?_
    refine g_get X dX7_drift_13 okC_0 cl7 1 (by decide) m_288 rfl ?_
    refine g_get X dX7_drift_16 okC_3 cl6 1 (by decide) m_137 rfl ?_
    refine g_if_le X dX7_drift_19 (tgt := 87) (by decide) (fun hc2 => ?_) (fun hc2 => ?_)
    · rw [if_pos hc2] at hf
      refine g_sub [2] rfl ?_
      exact wBX7_drift_87  X hQ  x3  I J hf
    · rw [if_neg hc2] at hf
      refine g_ldc2 X dX7_drift_22 m_750 ?_
      refine g_lload_n X dX7_drift_25 2 rfl ?_
      refine g_lmul X dX7_drift_26 ?_
      refine g_ldc2 X dX7_drift_27 m_751 ?_
      refine g_ladd X dX7_drift_30 ?_
      refine g_ldc2 X dX7_drift_31 m_752 ?_
      refine g_land X dX7_drift_34 ?_
      refine g_lstore_n X dX7_drift_35 (by decide) [(3, .long (((1103515245 * x3) + 12345) &&& 2147483647)), (0, .ref (V.2.2 0)), (1, .int x1), (5, .int x5)] rfl ?_
      refine g_lload_n X dX7_drift_36 0 rfl ?_
      refine g_ldc2 X dX7_drift_37 m_753 ?_
      refine g_ldiv X dX7_drift_40 (by decide) ?_
      refine g_aload_n X dX7_drift_41 1 rfl ?_
      refine g_get X dX7_drift_42 okC_0 cl7 1 (by decide) m_288 rfl ?_
      refine g_get X dX7_drift_45 okC_3 cl6 1 (by decide) m_137 rfl ?_
      refine g_i2l X dX7_drift_48 ?_
      obtain ⟨hg3, hf⟩ := gd_some hf
      refine g_lrem X dX7_drift_49 (of_decide_eq_true hg3) ?_
      refine g_l2i X dX7_drift_50 ?_
      refine g_istore X dX7_drift_51 (by decide) [(6, .int (Int64.toInt32 (((((1103515245 * x3) + 12345) &&& 2147483647) / 65536) - ((((1103515245 * x3) + 12345) &&& 2147483647) / 65536) / (Int32.toInt64 (I 3 1)) * (Int32.toInt64 (I 3 1))))), (3, .long (((1103515245 * x3) + 12345) &&& 2147483647)), (0, .ref (V.2.2 0)), (1, .int x1), (5, .int x5)] rfl ?_
      refine g_aload_n X dX7_drift_53 2 rfl ?_
      refine g_get X dX7_drift_54 okC_0 cl7 6 (by decide) m_293 rfl ?_
      refine g_aload_n X dX7_drift_57 2 rfl ?_
      refine g_get X dX7_drift_58 okC_0 cl7 1 (by decide) m_288 rfl ?_
      refine g_iload X dX7_drift_61 0 rfl ?_
      refine g_aload_n X dX7_drift_63 2 rfl ?_
      refine g_get X dX7_drift_64 okC_0 cl7 6 (by decide) m_293 rfl ?_
      refine g_get X dX7_drift_67 okC_36 cl0 0 (by decide) m_207 rfl ?_
      obtain ⟨r4, I4, J4, hb4, hf⟩ := bnd_some hf
      refine g_callV X dX7_drift_70 cw_X7_317 (k := 3) (As := [.int (Int64.toInt32 (((((1103515245 * x3) + 12345) &&& 2147483647) / 65536) - ((((1103515245 * x3) + 12345) &&& 2147483647) / 65536) / (Int32.toInt64 (I 3 1)) * (Int32.toInt64 (I 3 1)))), .int (I 36 0)]) (rcv okC_3 cl6) rfl rfl (Nat.le_of_ble_eq_true rfl) (by decide) (cX6_alongRoad_ok  M.2.1 V (Int64.toInt32 (((((1103515245 * x3) + 12345) &&& 2147483647) / 65536) - ((((1103515245 * x3) + 12345) &&& 2147483647) / 65536) / (Int32.toInt64 (I 3 1)) * (Int32.toInt64 (I 3 1)))) (I 36 0)  I J hb4) (kI ?_)
      refine g_aload_n X dX7_drift_73 2 rfl ?_
      refine g_get X dX7_drift_74 okC_0 cl7 2 (by decide) m_289 rfl ?_
      obtain ⟨r5, I5, J5, hb5, hf⟩ := bnd_some hf
      refine g_callV X dX7_drift_77 cw_X7_183 (k := 36) (As := [.int r4, .ref (V.2.2 22)]) (rcv okC_36 cl0) rfl rfl (Nat.le_of_ble_eq_true rfl) (by decide) (cX0_pass_ok  M.2.1 V 36 r4 22 okC_36 okC_22 I4 J4 hb5) (kI ?_)
      refine g_pop X dX7_drift_80 rfl ?_
      refine g_iinc X dX7_drift_81 4 rfl 1 rfl (by decide) [(5, .int (x5 + 1)), (6, .int (Int64.toInt32 (((((1103515245 * x3) + 12345) &&& 2147483647) / 65536) - ((((1103515245 * x3) + 12345) &&& 2147483647) / 65536) / (Int32.toInt64 (I 3 1)) * (Int32.toInt64 (I 3 1))))), (3, .long (((1103515245 * x3) + 12345) &&& 2147483647)), (0, .ref (V.2.2 0)), (1, .int x1)] rfl ?_
      refine g_goto X dX7_drift_84 (tgt := 6) (by decide) ?_
      refine g_sub [3, 4, 2, 0] rfl ?_
      exact hk6 x1 (((1103515245 * x3) + 12345) &&& 2147483647) (x5 + 1)  I5 J5 hf
set_option maxRecDepth 4000 in
theorem wLX7_drift_6 {M : MT} {V : VT}  (X : Cx M cS V cX7_drift 7 RX7 (some .int) 3) {q : RT Int32} (hQ : PI M cS V q)  : ∀ (n : Nat) (x1 : Int32) (x3 : Int64) (x5 : Int32)  (I : aI) (J : aJ), LX7_drift_6   n x1 x3 x5 I J = some q → Wg M cS V 7 I J 6 [(0, .ref (V.2.2 0)), (1, .int x1), (3, .long x3), (5, .int x5)] [] := by
  intro n
  induction n with
  | zero => intro x1 x3 x5  I J hf; cases hf
  | succ n ih => intro x1 x3 x5  I J hf; exact wHX7_drift_6  X hQ  (LX7_drift_6   n) ih x1 x3 x5  I J hf
set_option maxRecDepth 4000 in
theorem wX7_drift {M : MT} {V : VT} (X : Cx M cS V cX7_drift 7 RX7 (some .int) 3) {q : RT Int32} (hQ : PI M cS V q) (x1 : Int32) (x2 : Int32)  (I : aI) (J : aJ) (hf : fX7_drift x1 x2 I J = some q) : Wg M cS V 7 I J 0 [(0, .ref (V.2.2 0)), (1, .int x1), (2, .int x2)] [] := by
  unfold fX7_drift at hf
  refine g_iload_n X dX7_drift_0 2 rfl ?_
  refine g_i2l X dX7_drift_1 ?_
  refine g_lstore_n X dX7_drift_2 (by decide) [(3, .long (Int32.toInt64 x2)), (0, .ref (V.2.2 0)), (1, .int x1), (2, .int x2)] rfl ?_
  refine g_iconst X dX7_drift_3 (v := 0) rfl ?_
  refine g_istore X dX7_drift_4 (by decide) [(5, .int 0), (3, .long (Int32.toInt64 x2)), (0, .ref (V.2.2 0)), (1, .int x1), (2, .int x2)] rfl ?_
  refine g_sub [2, 3, 1, 0] rfl ?_
  exact wLX7_drift_6  X hQ  128 x1 (Int32.toInt64 x2) 0  I J hf
set_option maxRecDepth 4000 in
theorem cX7_drift_ok (l : Launch) (V : VT) (x1 : Int32) (x2 : Int32)  (I : aI) (J : aJ) {q : RT Int32} (hf : fX7_drift x1 x2 I J = some q) : Met l yX7_drift (.code yX7_drift cX7_drift 7 (some .int) :: GG) (rmD 3) (va_Pc [.ref (V.2.2 0), .int x1, .int x2] (cQ cS V I J)) (QI cS V q) 0 0 (vAd cS V) :=
  met_I (by decide +kernel) rfl (Nat.le_of_ble_eq_true rfl) (fun _ _ X hQ => wX7_drift X hQ x1 x2  I J hf)
-- X7_evenings
set_option maxRecDepth 4000 in
theorem wBX7_evenings_23 {M : MT} {V : VT}  (X : Cx M cS V cX7_evenings 5 RX7 (some .int) 4) {q : RT Int32} (hQ : PI M cS V q)    (I : aI) (J : aJ) (hf : BX7_evenings_23    I J = some q) : Wg M cS V 5 I J 23 [] [] := by
  unfold BX7_evenings_23 at hf
  refine g_bipush X dX7_evenings_23 (v := (-102)) rfl ?_
  cases hf
  exact g_ireturn X dX7_evenings_25 hQ
set_option maxRecDepth 4000 in
theorem wBX7_evenings_92 {M : MT} {V : VT}  (X : Cx M cS V cX7_evenings 5 RX7 (some .int) 4) {q : RT Int32} (hQ : PI M cS V q)  (s0 : Int32)  (I : aI) (J : aJ) (hf : BX7_evenings_92   s0 I J = some q) : Wg M cS V 5 I J 92 [] [.int s0] := by
  unfold BX7_evenings_92 at hf
  cases hf
  exact g_ireturn X dX7_evenings_92 hQ
set_option maxRecDepth 4000 in
theorem wX7_evenings {M : MT} {V : VT} (X : Cx M cS V cX7_evenings 5 RX7 (some .int) 4) {q : RT Int32} (hQ : PI M cS V q) (x1 : Int32) (x2 : Int32) (x3 : Int32)  (I : aI) (J : aJ) (hf : fX7_evenings x1 x2 x3 I J = some q) : Wg M cS V 5 I J 0 [(0, .ref (V.2.2 0)), (1, .int x1), (2, .int x2), (3, .int x3)] [] := by
  unfold fX7_evenings at hf
  refine g_iload_n X dX7_evenings_0 1 rfl ?_
  refine g_iconst X dX7_evenings_1 (v := 1) rfl ?_
  refine g_bipush X dX7_evenings_2 (v := 60) rfl ?_
  obtain ⟨r1, I1, J1, hb1, hf⟩ := bnd_some hf
  refine g_callS X dX7_evenings_4 sw_X7_70 (As := [.int x1, .int 1, .int 60]) rfl rfl (Nat.le_of_ble_eq_true rfl) (by decide) (cX7_isWithin_ok  M.2.1 V x1 1 60  I J hb1) (kI ?_)
  refine g_if_eq X dX7_evenings_7 (tgt := 23) (by decide) (fun hc2 => ?_) (fun hc2 => ?_)
  · rw [if_pos hc2] at hf
    refine g_sub [] rfl ?_
    exact wBX7_evenings_23  X hQ    I1 J1 hf
  · rw [if_neg hc2] at hf
    refine g_iload_n X dX7_evenings_10 2 rfl ?_
    refine g_if_lt X dX7_evenings_11 (tgt := 23) (by decide) (fun hc3 => ?_) (fun hc3 => ?_)
    · rw [if_pos hc3] at hf
      refine g_sub [] rfl ?_
      exact wBX7_evenings_23  X hQ    I1 J1 hf
    · rw [if_neg hc3] at hf
      refine g_iload_n X dX7_evenings_14 3 rfl ?_
      refine g_iconst X dX7_evenings_15 (v := 0) rfl ?_
      refine g_iconst X dX7_evenings_16 (v := 2) rfl ?_
      obtain ⟨r4, I4, J4, hb4, hf⟩ := bnd_some hf
      refine g_callS X dX7_evenings_17 sw_X7_70 (As := [.int x3, .int 0, .int 2]) rfl rfl (Nat.le_of_ble_eq_true rfl) (by decide) (cX7_isWithin_ok  M.2.1 V x3 0 2  I1 J1 hb4) (kI ?_)
      refine g_if_ne X dX7_evenings_20 (tgt := 26) (by decide) (fun hc5 => ?_) (fun hc5 => ?_)
      · rw [if_neg hc5] at hf
        refine g_aload_n X dX7_evenings_26 0 rfl ?_
        obtain ⟨r6, I6, J6, hb6, hf⟩ := bnd_some hf
        refine g_callV X dX7_evenings_27 cw_X7_190 (k := 0) (As := []) (rcv okC_0 cl7) rfl rfl (Nat.le_of_ble_eq_true rfl) (by decide) (cX7_hasSuburb_ok  M.2.1 V   I4 J4 hb6) (kI ?_)
        refine g_if_ne X dX7_evenings_30 (tgt := 36) (by decide) (fun hc7 => ?_) (fun hc7 => ?_)
        · rw [if_neg hc7] at hf
          refine g_aload_n X dX7_evenings_36 0 rfl ?_
          refine g_get X dX7_evenings_37 okC_0 cl7 6 (by decide) m_293 rfl ?_
          refine g_aload_n X dX7_evenings_40 0 rfl ?_
          refine g_get X dX7_evenings_41 okC_0 cl7 4 (by decide) m_291 rfl ?_
          obtain ⟨r8, I8, J8, hb8, hf⟩ := bnd_some hf
          refine g_callV X dX7_evenings_44 cw_X7_231 (k := 36) (As := [.ref (V.2.2 32)]) (rcv okC_36 cl0) rfl rfl (Nat.le_of_ble_eq_true rfl) (by decide) (cX0_copy_ok  M.2.1 V 36 32 okC_36 okC_32 I6 J6 hb8) (kV ?_)
          refine g_aload_n X dX7_evenings_47 0 rfl ?_
          refine g_iload_n X dX7_evenings_48 1 rfl ?_
          refine g_iload_n X dX7_evenings_49 2 rfl ?_
          obtain ⟨r9, I9, J9, hb9, hf⟩ := bnd_some hf
          refine g_callV X dX7_evenings_50 cw_X7_235 (k := 0) (As := [.int x1, .int x2]) (rcv okC_0 cl7) rfl rfl (Nat.le_of_ble_eq_true rfl) (by decide) (cX7_drift_ok  M.2.1 V x1 x2  I8 J8 hb9) (kI ?_)
          refine g_istore X dX7_evenings_53 (by decide) [(4, .int r9), (0, .ref (V.2.2 0)), (1, .int x1), (2, .int x2), (3, .int x3)] rfl ?_
          refine g_iload_n X dX7_evenings_55 4 rfl ?_
          refine g_iconst X dX7_evenings_56 (v := 2) rfl ?_
          refine g_icmp_ne X dX7_evenings_57 (tgt := 63) (by decide) (fun hc10 => ?_) (fun hc10 => ?_)
          · rw [if_neg hc10] at hf
            refine g_iload_n X dX7_evenings_63 4 rfl ?_
            refine g_if_ne X dX7_evenings_64 (tgt := 85) (by decide) (fun hc11 => ?_) (fun hc11 => ?_)
            · rw [if_neg hc11] at hf
              refine g_aload_n X dX7_evenings_85 1 rfl ?_
              refine g_get X dX7_evenings_86 okC_0 cl7 6 (by decide) m_293 rfl ?_
              refine g_get X dX7_evenings_89 okC_36 cl0 0 (by decide) m_207 rfl ?_
              refine g_sub [] rfl ?_
              exact wBX7_evenings_92  X hQ  (I9 36 0)  I9 J9 hf
            · rw [if_pos hc11] at hf
              refine g_aload_n X dX7_evenings_67 1 rfl ?_
              refine g_get X dX7_evenings_68 okC_0 cl7 6 (by decide) m_293 rfl ?_
              obtain ⟨r12, I12, J12, hb12, hf⟩ := bnd_some hf
              refine g_callV X dX7_evenings_71 cw_X7_239 (k := 36) (As := []) (rcv okC_36 cl0) rfl rfl (Nat.le_of_ble_eq_true rfl) (by decide) (cX0_servedNumber_ok  M.2.1 V 36 okC_36 I9 J9 hb12) (kI ?_)
              refine g_aload_n X dX7_evenings_74 1 rfl ?_
              refine g_get X dX7_evenings_75 okC_0 cl7 4 (by decide) m_291 rfl ?_
              obtain ⟨r13, I13, J13, hb13, hf⟩ := bnd_some hf
              refine g_callV X dX7_evenings_78 cw_X7_239 (k := 32) (As := []) (rcv okC_32 cl0) rfl rfl (Nat.le_of_ble_eq_true rfl) (by decide) (cX0_servedNumber_ok  M.2.1 V 32 okC_32 I12 J12 hb13) (kI ?_)
              refine g_isub X dX7_evenings_81 ?_
              refine g_goto X dX7_evenings_82 (tgt := 92) (by decide) ?_
              refine g_sub [] rfl ?_
              exact wBX7_evenings_92  X hQ  (r12 - r13)  I13 J13 hf
          · rw [if_pos hc10] at hf
            refine g_iload X dX7_evenings_60 0 rfl ?_
            cases hf
            exact g_ireturn X dX7_evenings_62 hQ
        · rw [if_pos hc7] at hf
          refine g_bipush X dX7_evenings_33 (v := (-103)) rfl ?_
          cases hf
          exact g_ireturn X dX7_evenings_35 hQ
      · rw [if_pos hc5] at hf
        refine g_sub [] rfl ?_
        exact wBX7_evenings_23  X hQ    I4 J4 hf
set_option maxRecDepth 4000 in
theorem cX7_evenings_ok (l : Launch) (V : VT) (x1 : Int32) (x2 : Int32) (x3 : Int32)  (I : aI) (J : aJ) {q : RT Int32} (hf : fX7_evenings x1 x2 x3 I J = some q) : Met l yX7_evenings (.code yX7_evenings cX7_evenings 5 (some .int) :: GG) (rmD 4) (va_Pc [.ref (V.2.2 0), .int x1, .int x2, .int x3] (cQ cS V I J)) (QI cS V q) 0 0 (vAd cS V) :=
  met_I (by decide +kernel) rfl (Nat.le_of_ble_eq_true rfl) (fun _ _ X hQ => wX7_evenings X hQ x1 x2 x3  I J hf)
-- X7_far
set_option maxRecDepth 4000 in
theorem wBX7_far_16 {M : MT} {V : VT}  (X : Cx M cS V cX7_far 3 RX7 (some .int) 2) {q : RT Int32} (hQ : PI M cS V q)    (I : aI) (J : aJ) (hf : BX7_far_16    I J = some q) : Wg M cS V 3 I J 16 [] [] := by
  unfold BX7_far_16 at hf
  refine g_bipush X dX7_far_16 (v := (-101)) rfl ?_
  cases hf
  exact g_ireturn X dX7_far_18 hQ
set_option maxRecDepth 4000 in
theorem wX7_far {M : MT} {V : VT} (X : Cx M cS V cX7_far 3 RX7 (some .int) 2) {q : RT Int32} (hQ : PI M cS V q) (x1 : Int32) (x2 : Int32)  (I : aI) (J : aJ) (hf : fX7_far x1 x2 I J = some q) : Wg M cS V 3 I J 0 [(0, .ref (V.2.2 0)), (1, .int x1), (2, .int x2)] [] := by
  unfold fX7_far at hf
  refine g_aload_n X dX7_far_0 0 rfl ?_
  refine g_iload_n X dX7_far_1 1 rfl ?_
  obtain ⟨r1, I1, J1, hb1, hf⟩ := bnd_some hf
  refine g_callV X dX7_far_2 cw_X7_158 (k := 0) (As := [.int x1]) (rcv okC_0 cl7) rfl rfl (Nat.le_of_ble_eq_true rfl) (by decide) (cX7_isCorner_ok  M.2.1 V x1  I J hb1) (kI ?_)
  refine g_if_eq X dX7_far_5 (tgt := 16) (by decide) (fun hc2 => ?_) (fun hc2 => ?_)
  · rw [if_pos hc2] at hf
    refine g_sub [] rfl ?_
    exact wBX7_far_16  X hQ    I1 J1 hf
  · rw [if_neg hc2] at hf
    refine g_aload_n X dX7_far_8 0 rfl ?_
    refine g_iload_n X dX7_far_9 2 rfl ?_
    obtain ⟨r3, I3, J3, hb3, hf⟩ := bnd_some hf
    refine g_callV X dX7_far_10 cw_X7_158 (k := 0) (As := [.int x2]) (rcv okC_0 cl7) rfl rfl (Nat.le_of_ble_eq_true rfl) (by decide) (cX7_isCorner_ok  M.2.1 V x2  I1 J1 hb3) (kI ?_)
    refine g_if_ne X dX7_far_13 (tgt := 19) (by decide) (fun hc4 => ?_) (fun hc4 => ?_)
    · rw [if_neg hc4] at hf
      refine g_aload_n X dX7_far_19 0 rfl ?_
      refine g_get X dX7_far_20 okC_0 cl7 1 (by decide) m_288 rfl ?_
      refine g_get X dX7_far_23 okC_3 cl6 6 (by decide) m_150 rfl ?_
      refine g_iload_n X dX7_far_26 1 rfl ?_
      obtain ⟨hg5, hf⟩ := gd_some hf
      refine g_aaloadG X dX7_far_27 okC_8 hg5 ?_
      refine g_iload_n X dX7_far_28 2 rfl ?_
      obtain ⟨hg6, hf⟩ := gd_some hf
      refine g_iaload X dX7_far_29 (ok_st hg5) hg6 ?_
      cases hf
      exact g_ireturn X dX7_far_30 hQ
    · rw [if_pos hc4] at hf
      refine g_sub [] rfl ?_
      exact wBX7_far_16  X hQ    I3 J3 hf
set_option maxRecDepth 4000 in
theorem cX7_far_ok (l : Launch) (V : VT) (x1 : Int32) (x2 : Int32)  (I : aI) (J : aJ) {q : RT Int32} (hf : fX7_far x1 x2 I J = some q) : Met l yX7_far (.code yX7_far cX7_far 3 (some .int) :: GG) (rmD 2) (va_Pc [.ref (V.2.2 0), .int x1, .int x2] (cQ cS V I J)) (QI cS V q) 0 0 (vAd cS V) :=
  met_I (by decide +kernel) rfl (Nat.le_of_ble_eq_true rfl) (fun _ _ X hQ => wX7_far X hQ x1 x2  I J hf)
-- X7_fault
set_option maxRecDepth 4000 in
theorem wX7_fault {M : MT} {V : VT} (X : Cx M cS V cX7_fault 1 RX7 (some .int) 8) {q : RT Int32} (hQ : PI M cS V q)   (I : aI) (J : aJ) (hf : fX7_fault  I J = some q) : Wg M cS V 1 I J 0 [(0, .ref (V.2.2 0))] [] := by
  unfold fX7_fault at hf
  refine g_aload_n X dX7_fault_0 0 rfl ?_
  refine g_get X dX7_fault_1 okC_0 cl7 0 (by decide) m_287 rfl ?_
  obtain ⟨r1, I1, J1, hb1, hf⟩ := bnd_some hf
  refine g_callV X dX7_fault_4 cw_X7_82 (k := 1) (As := []) (rcv okC_1 cl3) rfl rfl (Nat.le_of_ble_eq_true rfl) (by decide) (cX3_firstFault_ok  M.2.1 V   I J hb1) (kI ?_)
  cases hf
  exact g_ireturn X dX7_fault_7 hQ
set_option maxRecDepth 4000 in
theorem cX7_fault_ok (l : Launch) (V : VT)   (I : aI) (J : aJ) {q : RT Int32} (hf : fX7_fault  I J = some q) : Met l yX7_fault (.code yX7_fault cX7_fault 1 (some .int) :: GG) (rmD 8) (va_Pc [.ref (V.2.2 0)] (cQ cS V I J)) (QI cS V q) 0 0 (vAd cS V) :=
  met_I (by decide +kernel) rfl (Nat.le_of_ble_eq_true rfl) (fun _ _ X hQ => wX7_fault X hQ   I J hf)
-- X7_forget
set_option maxRecDepth 4000 in
theorem wX7_forget {M : MT} {V : VT} (X : Cx M cS V cX7_forget 2 RX7 (some .int) 0) {q : RT Int32} (hQ : PI M cS V q)   (I : aI) (J : aJ) (hf : fX7_forget  I J = some q) : Wg M cS V 2 I J 0 [(0, .ref (V.2.2 0))] [] := by
  unfold fX7_forget at hf
  refine g_aload_n X dX7_forget_0 0 rfl ?_
  refine g_get X dX7_forget_1 okC_0 cl7 7 (by decide) m_294 rfl ?_
  refine g_get X dX7_forget_4 okC_38 cl2 0 (by decide) m_229 rfl ?_
  refine g_istore_n X dX7_forget_7 (by decide) [(1, .int (I 38 0)), (0, .ref (V.2.2 0))] rfl ?_
  refine g_aload_n X dX7_forget_8 1 rfl ?_
  refine g_get X dX7_forget_9 okC_0 cl7 7 (by decide) m_294 rfl ?_
  refine g_iconst X dX7_forget_12 (v := 0) rfl ?_
  refine g_putI X dX7_forget_13 okC_38 cl2 0 (by decide) m_229 rfl .int rfl rfl rfl (Nat.le_of_ble_eq_true rfl) (fun _ _ => rfl) ?_
  refine g_iload_n X dX7_forget_16 0 rfl ?_
  cases hf
  exact g_ireturn X dX7_forget_17 hQ
set_option maxRecDepth 4000 in
theorem cX7_forget_ok (l : Launch) (V : VT)   (I : aI) (J : aJ) {q : RT Int32} (hf : fX7_forget  I J = some q) : Met l yX7_forget (.code yX7_forget cX7_forget 2 (some .int) :: GG) (rmD 0) (va_Pc [.ref (V.2.2 0)] (cQ cS V I J)) (QI cS V q) 0 0 (vAd cS V) :=
  met_I (by decide +kernel) rfl (Nat.le_of_ble_eq_true rfl) (fun _ _ X hQ => wX7_forget X hQ   I J hf)
-- X7_go
set_option maxRecDepth 4000 in
theorem wX7_go {M : MT} {V : VT} (X : Cx M cS V cX7_go 2 RX7 (some .int) 3) {q : RT Int32} (hQ : PI M cS V q) (x1 : Int32)  (I : aI) (J : aJ) (hf : fX7_go x1 I J = some q) : Wg M cS V 2 I J 0 [(0, .ref (V.2.2 0)), (1, .int x1)] [] := by
  unfold fX7_go at hf
  refine g_aload_n X dX7_go_0 0 rfl ?_
  refine g_iload_n X dX7_go_1 1 rfl ?_
  obtain ⟨r1, I1, J1, hb1, hf⟩ := bnd_some hf
  refine g_callV X dX7_go_2 cw_X7_158 (k := 0) (As := [.int x1]) (rcv okC_0 cl7) rfl rfl (Nat.le_of_ble_eq_true rfl) (by decide) (cX7_isCorner_ok  M.2.1 V x1  I J hb1) (kI ?_)
  refine g_if_ne X dX7_go_5 (tgt := 11) (by decide) (fun hc2 => ?_) (fun hc2 => ?_)
  · rw [if_neg hc2] at hf
    refine g_aload_n X dX7_go_11 0 rfl ?_
    refine g_get X dX7_go_12 okC_0 cl7 1 (by decide) m_288 rfl ?_
    refine g_get X dX7_go_15 okC_3 cl6 4 (by decide) m_146 rfl ?_
    refine g_aload_n X dX7_go_18 0 rfl ?_
    refine g_get X dX7_go_19 okC_0 cl7 4 (by decide) m_291 rfl ?_
    refine g_get X dX7_go_22 okC_32 cl0 0 (by decide) m_207 rfl ?_
    obtain ⟨hg3, hf⟩ := gd_some hf
    refine g_iaload X dX7_go_25 okC_6 hg3 ?_
    refine g_iload_n X dX7_go_26 1 rfl ?_
    obtain ⟨r4, I4, J4, hb4, hf⟩ := bnd_some hf
    refine g_callS X dX7_go_27 sw_X7_177 (As := [.int (I1 6 (Int32.toNatClampNeg (I1 32 0))), .int x1]) rfl rfl (Nat.le_of_ble_eq_true rfl) (by decide) (cX7_hasBit_ok  M.2.1 V (I1 6 (Int32.toNatClampNeg (I1 32 0))) x1  I1 J1 hb4) (kI ?_)
    refine g_if_ne X dX7_go_30 (tgt := 36) (by decide) (fun hc5 => ?_) (fun hc5 => ?_)
    · rw [if_neg hc5] at hf
      refine g_aload_n X dX7_go_36 0 rfl ?_
      refine g_get X dX7_go_37 okC_0 cl7 4 (by decide) m_291 rfl ?_
      refine g_get X dX7_go_40 okC_32 cl0 1 (by decide) m_209 rfl ?_
      refine g_iconst X dX7_go_43 (v := 1) rfl ?_
      refine g_iadd X dX7_go_44 ?_
      refine g_sipush X dX7_go_45 (v := 1000) rfl ?_
      refine g_icmp_lt X dX7_go_48 (tgt := 54) (by decide) (fun hc6 => ?_) (fun hc6 => ?_)
      · rw [if_pos hc6] at hf
        refine g_aload_n X dX7_go_54 0 rfl ?_
        refine g_get X dX7_go_55 okC_0 cl7 4 (by decide) m_291 rfl ?_
        refine g_iload_n X dX7_go_58 1 rfl ?_
        refine g_aload_n X dX7_go_59 0 rfl ?_
        refine g_get X dX7_go_60 okC_0 cl7 2 (by decide) m_289 rfl ?_
        obtain ⟨r7, I7, J7, hb7, hf⟩ := bnd_some hf
        refine g_callV X dX7_go_63 cw_X7_183 (k := 32) (As := [.int x1, .ref (V.2.2 22)]) (rcv okC_32 cl0) rfl rfl (Nat.le_of_ble_eq_true rfl) (by decide) (cX0_pass_ok  M.2.1 V 32 x1 22 okC_32 okC_22 I4 J4 hb7) (kI ?_)
        cases hf
        exact g_ireturn X dX7_go_66 hQ
      · rw [if_neg hc6] at hf
        refine g_bipush X dX7_go_51 (v := (-104)) rfl ?_
        cases hf
        exact g_ireturn X dX7_go_53 hQ
    · rw [if_pos hc5] at hf
      refine g_bipush X dX7_go_33 (v := (-103)) rfl ?_
      cases hf
      exact g_ireturn X dX7_go_35 hQ
  · rw [if_pos hc2] at hf
    refine g_bipush X dX7_go_8 (v := (-101)) rfl ?_
    cases hf
    exact g_ireturn X dX7_go_10 hQ
set_option maxRecDepth 4000 in
theorem cX7_go_ok (l : Launch) (V : VT) (x1 : Int32)  (I : aI) (J : aJ) {q : RT Int32} (hf : fX7_go x1 I J = some q) : Met l yX7_go (.code yX7_go cX7_go 2 (some .int) :: GG) (rmD 3) (va_Pc [.ref (V.2.2 0), .int x1] (cQ cS V I J)) (QI cS V q) 0 0 (vAd cS V) :=
  met_I (by decide +kernel) rfl (Nat.le_of_ble_eq_true rfl) (fun _ _ X hQ => wX7_go X hQ x1  I J hf)
-- X7_image
set_option maxRecDepth 4000 in
theorem wX7_image {M : MT} {V : VT} (X : Cx M cS V cX7_image 1 RX7 (some .int) 2) {q : RT Int32} (hQ : PI M cS V q)   (I : aI) (J : aJ) (hf : fX7_image  I J = some q) : Wg M cS V 1 I J 0 [(0, .ref (V.2.2 0))] [] := by
  unfold fX7_image at hf
  refine g_aload_n X dX7_image_0 0 rfl ?_
  obtain ⟨r1, I1, J1, hb1, hf⟩ := bnd_some hf
  refine g_callV X dX7_image_1 cw_X7_190 (k := 0) (As := []) (rcv okC_0 cl7) rfl rfl (Nat.le_of_ble_eq_true rfl) (by decide) (cX7_hasSuburb_ok  M.2.1 V   I J hb1) (kI ?_)
  refine g_if_ne X dX7_image_4 (tgt := 10) (by decide) (fun hc2 => ?_) (fun hc2 => ?_)
  · rw [if_neg hc2] at hf
    refine g_aload_n X dX7_image_10 0 rfl ?_
    refine g_get X dX7_image_11 okC_0 cl7 3 (by decide) m_290 rfl ?_
    refine g_aload_n X dX7_image_14 0 rfl ?_
    refine g_get X dX7_image_15 okC_0 cl7 2 (by decide) m_289 rfl ?_
    obtain ⟨r3, I3, J3, hb3, hf⟩ := bnd_some hf
    refine g_callV X dX7_image_18 cw_X7_242 (k := 27) (As := [.ref (V.2.2 22)]) (rcv okC_27 cl1) rfl rfl (Nat.le_of_ble_eq_true rfl) (by decide) (cX1_copy_ok  M.2.1 V 27 22 okC_27 okC_22 I1 J1 hb3) (kV ?_)
    refine g_aload_n X dX7_image_21 0 rfl ?_
    refine g_get X dX7_image_22 okC_0 cl7 5 (by decide) m_292 rfl ?_
    refine g_aload_n X dX7_image_25 0 rfl ?_
    refine g_get X dX7_image_26 okC_0 cl7 4 (by decide) m_291 rfl ?_
    obtain ⟨r4, I4, J4, hb4, hf⟩ := bnd_some hf
    refine g_callV X dX7_image_29 cw_X7_231 (k := 34) (As := [.ref (V.2.2 32)]) (rcv okC_34 cl0) rfl rfl (Nat.le_of_ble_eq_true rfl) (by decide) (cX0_copy_ok  M.2.1 V 34 32 okC_34 okC_32 I3 J3 hb4) (kV ?_)
    refine g_aload_n X dX7_image_32 0 rfl ?_
    refine g_get X dX7_image_33 okC_0 cl7 8 (by decide) m_295 rfl ?_
    refine g_aload_n X dX7_image_36 0 rfl ?_
    refine g_get X dX7_image_37 okC_0 cl7 7 (by decide) m_294 rfl ?_
    obtain ⟨r5, I5, J5, hb5, hf⟩ := bnd_some hf
    refine g_callV X dX7_image_40 cw_X7_245 (k := 41) (As := [.ref (V.2.2 38)]) (rcv okC_41 cl2) rfl rfl (Nat.le_of_ble_eq_true rfl) (by decide) (cX2_copy_ok  M.2.1 V 41 38 okC_41 okC_38 I4 J4 hb5) (kV ?_)
    refine g_aload_n X dX7_image_43 0 rfl ?_
    refine g_iconst X dX7_image_44 (v := 1) rfl ?_
    refine g_putI X dX7_image_45 okC_0 cl7 11 (by decide) m_298 rfl .boolean rfl rfl rfl (Nat.le_of_ble_eq_true rfl) (fun _ _ => rfl) ?_
    refine g_aload_n X dX7_image_48 0 rfl ?_
    refine g_get X dX7_image_49 okC_0 cl7 4 (by decide) m_291 rfl ?_
    refine g_get X dX7_image_52 okC_32 cl0 1 (by decide) m_209 rfl ?_
    cases hf
    exact g_ireturn X dX7_image_55 hQ
  · rw [if_pos hc2] at hf
    refine g_bipush X dX7_image_7 (v := (-103)) rfl ?_
    cases hf
    exact g_ireturn X dX7_image_9 hQ
set_option maxRecDepth 4000 in
theorem cX7_image_ok (l : Launch) (V : VT)   (I : aI) (J : aJ) {q : RT Int32} (hf : fX7_image  I J = some q) : Met l yX7_image (.code yX7_image cX7_image 1 (some .int) :: GG) (rmD 2) (va_Pc [.ref (V.2.2 0)] (cQ cS V I J)) (QI cS V q) 0 0 (vAd cS V) :=
  met_I (by decide +kernel) rfl (Nat.le_of_ble_eq_true rfl) (fun _ _ X hQ => wX7_image X hQ   I J hf)
-- X7_letter
set_option maxRecDepth 4000 in
theorem wX7_letter {M : MT} {V : VT} (X : Cx M cS V cX7_letter 2 RX7 (some .int) 1) {q : RT Int32} (hQ : PI M cS V q) (x1 : Int32)  (I : aI) (J : aJ) (hf : fX7_letter x1 I J = some q) : Wg M cS V 2 I J 0 [(0, .ref (V.2.2 0)), (1, .int x1)] [] := by
  unfold fX7_letter at hf
  refine g_iload_n X dX7_letter_0 1 rfl ?_
  refine g_iconst X dX7_letter_1 (v := 1) rfl ?_
  refine g_bipush X dX7_letter_2 (v := 126) rfl ?_
  obtain ⟨r1, I1, J1, hb1, hf⟩ := bnd_some hf
  refine g_callS X dX7_letter_4 sw_X7_70 (As := [.int x1, .int 1, .int 126]) rfl rfl (Nat.le_of_ble_eq_true rfl) (by decide) (cX7_isWithin_ok  M.2.1 V x1 1 126  I J hb1) (kI ?_)
  refine g_if_ne X dX7_letter_7 (tgt := 13) (by decide) (fun hc2 => ?_) (fun hc2 => ?_)
  · rw [if_neg hc2] at hf
    refine g_aload_n X dX7_letter_13 0 rfl ?_
    refine g_get X dX7_letter_14 okC_0 cl7 0 (by decide) m_287 rfl ?_
    refine g_get X dX7_letter_17 okC_1 cl3 1 (by decide) m_104 rfl ?_
    refine g_bipush X dX7_letter_20 (v := 60) rfl ?_
    refine g_icmp_lt X dX7_letter_22 (tgt := 28) (by decide) (fun hc3 => ?_) (fun hc3 => ?_)
    · rw [if_pos hc3] at hf
      refine g_aload_n X dX7_letter_28 0 rfl ?_
      refine g_get X dX7_letter_29 okC_0 cl7 0 (by decide) m_287 rfl ?_
      refine g_get X dX7_letter_32 okC_1 cl3 0 (by decide) m_103 rfl ?_
      refine g_aload_n X dX7_letter_35 0 rfl ?_
      refine g_get X dX7_letter_36 okC_0 cl7 0 (by decide) m_287 rfl ?_
      refine g_get X dX7_letter_39 okC_1 cl3 1 (by decide) m_104 rfl ?_
      refine g_iload_n X dX7_letter_42 1 rfl ?_
      obtain ⟨hg4, hf⟩ := gd_some hf
      refine g_iastore X dX7_letter_43 okC_2 hg4 ?_
      refine g_aload_n X dX7_letter_44 0 rfl ?_
      refine g_get X dX7_letter_45 okC_0 cl7 0 (by decide) m_287 rfl ?_
      refine g_dup X dX7_letter_48 rfl ?_
      refine g_get X dX7_letter_49 okC_1 cl3 1 (by decide) m_104 rfl ?_
      refine g_iconst X dX7_letter_52 (v := 1) rfl ?_
      refine g_iadd X dX7_letter_53 ?_
      refine g_putI X dX7_letter_54 okC_1 cl3 1 (by decide) m_104 rfl .int rfl rfl rfl (Nat.le_of_ble_eq_true rfl) (fun _ _ => rfl) ?_
      refine g_aload_n X dX7_letter_57 0 rfl ?_
      refine g_get X dX7_letter_58 okC_0 cl7 0 (by decide) m_287 rfl ?_
      refine g_get X dX7_letter_61 okC_1 cl3 1 (by decide) m_104 rfl ?_
      cases hf
      exact g_ireturn X dX7_letter_64 hQ
    · rw [if_neg hc3] at hf
      refine g_bipush X dX7_letter_25 (v := (-104)) rfl ?_
      cases hf
      exact g_ireturn X dX7_letter_27 hQ
  · rw [if_pos hc2] at hf
    refine g_bipush X dX7_letter_10 (v := (-102)) rfl ?_
    cases hf
    exact g_ireturn X dX7_letter_12 hQ
set_option maxRecDepth 4000 in
theorem cX7_letter_ok (l : Launch) (V : VT) (x1 : Int32)  (I : aI) (J : aJ) {q : RT Int32} (hf : fX7_letter x1 I J = some q) : Met l yX7_letter (.code yX7_letter cX7_letter 2 (some .int) :: GG) (rmD 1) (va_Pc [.ref (V.2.2 0), .int x1] (cQ cS V I J)) (QI cS V q) 0 0 (vAd cS V) :=
  met_I (by decide +kernel) rfl (Nat.le_of_ble_eq_true rfl) (fun _ _ X hQ => wX7_letter X hQ x1  I J hf)
-- X7_restore
set_option maxRecDepth 4000 in
theorem wX7_restore {M : MT} {V : VT} (X : Cx M cS V cX7_restore 1 RX7 (some .int) 2) {q : RT Int32} (hQ : PI M cS V q)   (I : aI) (J : aJ) (hf : fX7_restore  I J = some q) : Wg M cS V 1 I J 0 [(0, .ref (V.2.2 0))] [] := by
  unfold fX7_restore at hf
  refine g_aload_n X dX7_restore_0 0 rfl ?_
  refine g_get X dX7_restore_1 okC_0 cl7 11 (by decide) m_298 rfl ?_
  refine g_if_ne X dX7_restore_4 (tgt := 10) (by decide) (fun hc1 => ?_) (fun hc1 => ?_)
  · rw [if_neg hc1] at hf
    refine g_aload_n X dX7_restore_10 0 rfl ?_
    refine g_get X dX7_restore_11 okC_0 cl7 2 (by decide) m_289 rfl ?_
    refine g_aload_n X dX7_restore_14 0 rfl ?_
    refine g_get X dX7_restore_15 okC_0 cl7 3 (by decide) m_290 rfl ?_
    obtain ⟨r2, I2, J2, hb2, hf⟩ := bnd_some hf
    refine g_callV X dX7_restore_18 cw_X7_242 (k := 22) (As := [.ref (V.2.2 27)]) (rcv okC_22 cl1) rfl rfl (Nat.le_of_ble_eq_true rfl) (by decide) (cX1_copy_ok  M.2.1 V 22 27 okC_22 okC_27 I J hb2) (kV ?_)
    refine g_aload_n X dX7_restore_21 0 rfl ?_
    refine g_get X dX7_restore_22 okC_0 cl7 4 (by decide) m_291 rfl ?_
    refine g_aload_n X dX7_restore_25 0 rfl ?_
    refine g_get X dX7_restore_26 okC_0 cl7 5 (by decide) m_292 rfl ?_
    obtain ⟨r3, I3, J3, hb3, hf⟩ := bnd_some hf
    refine g_callV X dX7_restore_29 cw_X7_231 (k := 32) (As := [.ref (V.2.2 34)]) (rcv okC_32 cl0) rfl rfl (Nat.le_of_ble_eq_true rfl) (by decide) (cX0_copy_ok  M.2.1 V 32 34 okC_32 okC_34 I2 J2 hb3) (kV ?_)
    refine g_aload_n X dX7_restore_32 0 rfl ?_
    refine g_get X dX7_restore_33 okC_0 cl7 7 (by decide) m_294 rfl ?_
    refine g_aload_n X dX7_restore_36 0 rfl ?_
    refine g_get X dX7_restore_37 okC_0 cl7 8 (by decide) m_295 rfl ?_
    obtain ⟨r4, I4, J4, hb4, hf⟩ := bnd_some hf
    refine g_callV X dX7_restore_40 cw_X7_245 (k := 38) (As := [.ref (V.2.2 41)]) (rcv okC_38 cl2) rfl rfl (Nat.le_of_ble_eq_true rfl) (by decide) (cX2_copy_ok  M.2.1 V 38 41 okC_38 okC_41 I3 J3 hb4) (kV ?_)
    refine g_aload_n X dX7_restore_43 0 rfl ?_
    refine g_get X dX7_restore_44 okC_0 cl7 4 (by decide) m_291 rfl ?_
    refine g_get X dX7_restore_47 okC_32 cl0 1 (by decide) m_209 rfl ?_
    cases hf
    exact g_ireturn X dX7_restore_50 hQ
  · rw [if_pos hc1] at hf
    refine g_bipush X dX7_restore_7 (v := (-103)) rfl ?_
    cases hf
    exact g_ireturn X dX7_restore_9 hQ
set_option maxRecDepth 4000 in
theorem cX7_restore_ok (l : Launch) (V : VT)   (I : aI) (J : aJ) {q : RT Int32} (hf : fX7_restore  I J = some q) : Met l yX7_restore (.code yX7_restore cX7_restore 1 (some .int) :: GG) (rmD 2) (va_Pc [.ref (V.2.2 0)] (cQ cS V I J)) (QI cS V q) 0 0 (vAd cS V) :=
  met_I (by decide +kernel) rfl (Nat.le_of_ble_eq_true rfl) (fun _ _ X hQ => wX7_restore X hQ   I J hf)
-- X7_round
set_option maxRecDepth 4000 in
theorem wBX7_round_31 {M : MT} {V : VT}  (X : Cx M cS V cX7_round 5 RX7 (some .int) 13) {q : RT Int32} (hQ : PI M cS V q)    (I : aI) (J : aJ) (hf : BX7_round_31    I J = some q) : Wg M cS V 5 I J 31 [] [] := by
  unfold BX7_round_31 at hf
  refine g_bipush X dX7_round_31 (v := (-102)) rfl ?_
  cases hf
  exact g_ireturn X dX7_round_33 hQ
set_option maxRecDepth 4000 in
theorem wBX7_round_50 {M : MT} {V : VT}  (X : Cx M cS V cX7_round 5 RX7 (some .int) 13) {q : RT Int32} (hQ : PI M cS V q)    (I : aI) (J : aJ) (hf : BX7_round_50    I J = some q) : Wg M cS V 5 I J 50 [] [] := by
  unfold BX7_round_50 at hf
  refine g_bipush X dX7_round_50 (v := (-103)) rfl ?_
  cases hf
  exact g_ireturn X dX7_round_52 hQ
set_option maxRecDepth 4000 in
theorem wBX7_round_135 {M : MT} {V : VT}  (X : Cx M cS V cX7_round 5 RX7 (some .int) 13) {q : RT Int32} (hQ : PI M cS V q)  (s0 : Int32)  (I : aI) (J : aJ) (hf : BX7_round_135   s0 I J = some q) : Wg M cS V 5 I J 135 [] [.int s0] := by
  unfold BX7_round_135 at hf
  cases hf
  exact g_ireturn X dX7_round_135 hQ
set_option maxRecDepth 4000 in
theorem wBX7_round_113 {M : MT} {V : VT}  (X : Cx M cS V cX7_round 5 RX7 (some .int) 13) {q : RT Int32} (hQ : PI M cS V q)  (s0 : Int32)  (I : aI) (J : aJ) (hf : BX7_round_113   s0 I J = some q) : Wg M cS V 5 I J 113 [] [.int s0] := by
  unfold BX7_round_113 at hf
  cases hf
  exact g_ireturn X dX7_round_113 hQ
set_option maxRecDepth 4000 in
theorem wBX7_round_34 {M : MT} {V : VT}  (X : Cx M cS V cX7_round 5 RX7 (some .int) 13) {q : RT Int32} (hQ : PI M cS V q)  (x1 : Int32) (x2 : Int32) (x3 : Int32)  (I : aI) (J : aJ) (hf : BX7_round_34   x1 x2 x3 I J = some q) : Wg M cS V 5 I J 34 [(0, .ref (V.2.2 0)), (1, .int x1), (2, .int x2), (3, .int x3)] [] := by
  unfold BX7_round_34 at hf
  refine g_aload_n X dX7_round_34 0 rfl ?_
  obtain ⟨r7, I7, J7, hb7, hf⟩ := bnd_some hf
  refine g_callV X dX7_round_35 cw_X7_190 (k := 0) (As := []) (rcv okC_0 cl7) rfl rfl (Nat.le_of_ble_eq_true rfl) (by decide) (cX7_hasSuburb_ok  M.2.1 V   I J hb7) (kI ?_)
  refine g_if_eq X dX7_round_38 (tgt := 50) (by decide) (fun hc8 => ?_) (fun hc8 => ?_)
  · rw [if_pos hc8] at hf
    refine g_sub [] rfl ?_
    exact wBX7_round_50  X hQ    I7 J7 hf
  · rw [if_neg hc8] at hf
    refine g_aload_n X dX7_round_41 0 rfl ?_
    refine g_get X dX7_round_42 okC_0 cl7 13 (by decide) m_300 rfl ?_
    refine g_bipush X dX7_round_45 (v := 20) rfl ?_
    refine g_icmp_lt X dX7_round_47 (tgt := 53) (by decide) (fun hc9 => ?_) (fun hc9 => ?_)
    · rw [if_pos hc9] at hf
      refine g_aload_n X dX7_round_53 0 rfl ?_
      refine g_dup X dX7_round_54 rfl ?_
      refine g_get X dX7_round_55 okC_0 cl7 13 (by decide) m_300 rfl ?_
      refine g_iconst X dX7_round_58 (v := 1) rfl ?_
      refine g_iadd X dX7_round_59 ?_
      refine g_putI X dX7_round_60 okC_0 cl7 13 (by decide) m_300 rfl .int rfl rfl rfl (Nat.le_of_ble_eq_true rfl) (fun _ _ => rfl) ?_
      refine g_aload_n X dX7_round_63 0 rfl ?_
      refine g_get X dX7_round_64 okC_0 cl7 9 (by decide) m_296 rfl ?_
      refine g_aload_n X dX7_round_67 0 rfl ?_
      refine g_get X dX7_round_68 okC_0 cl7 1 (by decide) m_288 rfl ?_
      refine g_aload_n X dX7_round_71 0 rfl ?_
      refine g_get X dX7_round_72 okC_0 cl7 2 (by decide) m_289 rfl ?_
      refine g_aload_n X dX7_round_75 0 rfl ?_
      refine g_get X dX7_round_76 okC_0 cl7 4 (by decide) m_291 rfl ?_
      refine g_iload_n X dX7_round_79 1 rfl ?_
      obtain ⟨r10, I10, J10, hb10, hf⟩ := bnd_some hf
      refine g_callV X dX7_round_80 cw_X7_196 (k := 44) (As := [.ref (V.2.2 3), .ref (V.2.2 22), .ref (V.2.2 32), .int x1]) (rcv okC_44 cl4) rfl rfl (Nat.le_of_ble_eq_true rfl) (by decide) (cX4_run_ok  M.2.1 V 22 32 x1 okC_22 okC_32 (pI I7 0 13 ((I7 0 13) + 1)) J7 hb10) (kV ?_)
      refine g_iload_n X dX7_round_83 3 rfl ?_
      refine g_if_eq X dX7_round_84 (tgt := 114) (by decide) (fun hc11 => ?_) (fun hc11 => ?_)
      · rw [if_pos hc11] at hf
        refine g_iload_n X dX7_round_114 2 rfl ?_
        refine g_if_ne X dX7_round_115 (tgt := 128) (by decide) (fun hc12 => ?_) (fun hc12 => ?_)
        · rw [if_neg hc12] at hf
          refine g_aload_n X dX7_round_128 0 rfl ?_
          refine g_get X dX7_round_129 okC_0 cl7 9 (by decide) m_296 rfl ?_
          refine g_get X dX7_round_132 okC_44 cl4 2 (by decide) m_256 rfl ?_
          refine g_sub [] rfl ?_
          exact wBX7_round_135  X hQ  (I10 44 2)  I10 J10 hf
        · rw [if_pos hc12] at hf
          refine g_aload_n X dX7_round_118 0 rfl ?_
          refine g_get X dX7_round_119 okC_0 cl7 9 (by decide) m_296 rfl ?_
          refine g_get X dX7_round_122 okC_44 cl4 1 (by decide) m_254 rfl ?_
          refine g_goto X dX7_round_125 (tgt := 135) (by decide) ?_
          refine g_sub [] rfl ?_
          exact wBX7_round_135  X hQ  (I10 44 1)  I10 J10 hf
      · rw [if_neg hc11] at hf
        refine g_iload_n X dX7_round_87 2 rfl ?_
        refine g_bipush X dX7_round_88 (v := 10) rfl ?_
        refine g_isub X dX7_round_90 ?_
        refine g_istore X dX7_round_91 (by decide) [(4, .int (x2 - 10)), (0, .ref (V.2.2 0)), (1, .int x1), (2, .int x2), (3, .int x3)] rfl ?_
        refine g_iload X dX7_round_93 0 rfl ?_
        refine g_iload_n X dX7_round_95 2 rfl ?_
        refine g_icmp_ge X dX7_round_96 (tgt := 112) (by decide) (fun hc13 => ?_) (fun hc13 => ?_)
        · rw [if_pos hc13] at hf
          refine g_iconst X dX7_round_112 (v := (-1)) rfl ?_
          refine g_sub [] rfl ?_
          exact wBX7_round_113  X hQ  (-1)  I10 J10 hf
        · rw [if_neg hc13] at hf
          refine g_aload_n X dX7_round_99 1 rfl ?_
          refine g_get X dX7_round_100 okC_0 cl7 9 (by decide) m_296 rfl ?_
          refine g_get X dX7_round_103 okC_44 cl4 0 (by decide) m_252 rfl ?_
          refine g_iload X dX7_round_106 0 rfl ?_
          obtain ⟨hg14, hf⟩ := gd_some hf
          refine g_iaload X dX7_round_108 okC_45 hg14 ?_
          refine g_goto X dX7_round_109 (tgt := 113) (by decide) ?_
          refine g_sub [] rfl ?_
          exact wBX7_round_113  X hQ  (I10 45 (Int32.toNatClampNeg (x2 - 10)))  I10 J10 hf
    · rw [if_neg hc9] at hf
      refine g_sub [] rfl ?_
      exact wBX7_round_50  X hQ    I7 J7 hf
set_option maxRecDepth 4000 in
theorem wX7_round {M : MT} {V : VT} (X : Cx M cS V cX7_round 5 RX7 (some .int) 13) {q : RT Int32} (hQ : PI M cS V q) (x1 : Int32) (x2 : Int32)  (I : aI) (J : aJ) (hf : fX7_round x1 x2 I J = some q) : Wg M cS V 5 I J 0 [(0, .ref (V.2.2 0)), (1, .int x1), (2, .int x2)] [] := by
  unfold fX7_round at hf
  refine g_iload_n X dX7_round_0 2 rfl ?_
  refine g_bipush X dX7_round_1 (v := 10) rfl ?_
  refine g_bipush X dX7_round_3 (v := 14) rfl ?_
  obtain ⟨r1, I1, J1, hb1, hf⟩ := bnd_some hf
  refine g_callS X dX7_round_5 sw_X7_70 (As := [.int x2, .int 10, .int 14]) rfl rfl (Nat.le_of_ble_eq_true rfl) (by decide) (cX7_isWithin_ok  M.2.1 V x2 10 14  I J hb1) (kI ?_)
  refine g_istore_n X dX7_round_8 (by decide) [(3, .int r1), (0, .ref (V.2.2 0)), (1, .int x1), (2, .int x2)] rfl ?_
  refine g_iload_n X dX7_round_9 2 rfl ?_
  refine g_iconst X dX7_round_10 (v := 1) rfl ?_
  refine g_iconst X dX7_round_11 (v := 5) rfl ?_
  obtain ⟨r2, I2, J2, hb2, hf⟩ := bnd_some hf
  refine g_callS X dX7_round_12 sw_X7_70 (As := [.int x1, .int 1, .int 5]) rfl rfl (Nat.le_of_ble_eq_true rfl) (by decide) (cX7_isWithin_ok  M.2.1 V x1 1 5  I1 J1 hb2) (kI ?_)
  refine g_if_eq X dX7_round_15 (tgt := 31) (by decide) (fun hc3 => ?_) (fun hc3 => ?_)
  · rw [if_pos hc3] at hf
    refine g_sub [] rfl ?_
    exact wBX7_round_31  X hQ    I2 J2 hf
  · rw [if_neg hc3] at hf
    refine g_iload_n X dX7_round_18 3 rfl ?_
    refine g_iconst X dX7_round_19 (v := 0) rfl ?_
    refine g_iconst X dX7_round_20 (v := 1) rfl ?_
    obtain ⟨r4, I4, J4, hb4, hf⟩ := bnd_some hf
    refine g_callS X dX7_round_21 sw_X7_70 (As := [.int x2, .int 0, .int 1]) rfl rfl (Nat.le_of_ble_eq_true rfl) (by decide) (cX7_isWithin_ok  M.2.1 V x2 0 1  I2 J2 hb4) (kI ?_)
    refine g_if_ne X dX7_round_24 (tgt := 34) (by decide) (fun hc5 => ?_) (fun hc5 => ?_)
    · rw [if_neg hc5] at hf
      refine g_sub [1, 2, 3, 0] rfl ?_
      exact wBX7_round_34  X hQ  x1 x2 r1  I4 J4 hf
    · rw [if_pos hc5] at hf
      refine g_iload_n X dX7_round_27 0 rfl ?_
      refine g_if_ne X dX7_round_28 (tgt := 34) (by decide) (fun hc6 => ?_) (fun hc6 => ?_)
      · rw [if_neg hc6] at hf
        refine g_sub [1, 2, 3, 0] rfl ?_
        exact wBX7_round_34  X hQ  x1 x2 r1  I4 J4 hf
      · rw [if_pos hc6] at hf
        refine g_sub [] rfl ?_
        exact wBX7_round_31  X hQ    I4 J4 hf
set_option maxRecDepth 4000 in
theorem cX7_round_ok (l : Launch) (V : VT) (x1 : Int32) (x2 : Int32)  (I : aI) (J : aJ) {q : RT Int32} (hf : fX7_round x1 x2 I J = some q) : Met l yX7_round (.code yX7_round cX7_round 5 (some .int) :: GG) (rmD 13) (va_Pc [.ref (V.2.2 0), .int x1, .int x2] (cQ cS V I J)) (QI cS V q) 0 0 (vAd cS V) :=
  met_I (by decide +kernel) rfl (Nat.le_of_ble_eq_true rfl) (fun _ _ X hQ => wX7_round X hQ x1 x2  I J hf)
-- X7_see
set_option maxRecDepth 4000 in
theorem wX7_see {M : MT} {V : VT} (X : Cx M cS V cX7_see 3 RX7 (some .int) 2) {q : RT Int32} (hQ : PI M cS V q) (x1 : Int32) (x2 : Int32)  (I : aI) (J : aJ) (hf : fX7_see x1 x2 I J = some q) : Wg M cS V 3 I J 0 [(0, .ref (V.2.2 0)), (1, .int x1), (2, .int x2)] [] := by
  unfold fX7_see at hf
  refine g_aload_n X dX7_see_0 0 rfl ?_
  refine g_iload_n X dX7_see_1 1 rfl ?_
  obtain ⟨r1, I1, J1, hb1, hf⟩ := bnd_some hf
  refine g_callV X dX7_see_2 cw_X7_114 (k := 0) (As := [.int x1]) (rcv okC_0 cl7) rfl rfl (Nat.le_of_ble_eq_true rfl) (by decide) (cX7_isPerson_ok  M.2.1 V x1  I J hb1) (kI ?_)
  refine g_if_ne X dX7_see_5 (tgt := 11) (by decide) (fun hc2 => ?_) (fun hc2 => ?_)
  · rw [if_neg hc2] at hf
    refine g_aload_n X dX7_see_11 0 rfl ?_
    refine g_get X dX7_see_12 okC_0 cl7 7 (by decide) m_294 rfl ?_
    refine g_get X dX7_see_15 okC_38 cl2 0 (by decide) m_229 rfl ?_
    refine g_bipush X dX7_see_18 (v := 6) rfl ?_
    refine g_icmp_lt X dX7_see_20 (tgt := 26) (by decide) (fun hc3 => ?_) (fun hc3 => ?_)
    · rw [if_pos hc3] at hf
      refine g_aload_n X dX7_see_26 0 rfl ?_
      refine g_get X dX7_see_27 okC_0 cl7 7 (by decide) m_294 rfl ?_
      refine g_get X dX7_see_30 okC_38 cl2 1 (by decide) m_231 rfl ?_
      refine g_aload_n X dX7_see_33 0 rfl ?_
      refine g_get X dX7_see_34 okC_0 cl7 7 (by decide) m_294 rfl ?_
      refine g_get X dX7_see_37 okC_38 cl2 0 (by decide) m_229 rfl ?_
      refine g_iload_n X dX7_see_40 1 rfl ?_
      obtain ⟨hg4, hf⟩ := gd_some hf
      refine g_iastore X dX7_see_41 okC_39 hg4 ?_
      refine g_aload_n X dX7_see_42 0 rfl ?_
      refine g_get X dX7_see_43 okC_0 cl7 7 (by decide) m_294 rfl ?_
      refine g_get X dX7_see_46 okC_38 cl2 2 (by decide) m_233 rfl ?_
      refine g_aload_n X dX7_see_49 0 rfl ?_
      refine g_get X dX7_see_50 okC_0 cl7 7 (by decide) m_294 rfl ?_
      refine g_get X dX7_see_53 okC_38 cl2 0 (by decide) m_229 rfl ?_
      refine g_iload_n X dX7_see_56 2 rfl ?_
      obtain ⟨hg5, hf⟩ := gd_some hf
      refine g_bastore X dX7_see_57 okC_40 hg5 ?_
      refine g_aload_n X dX7_see_58 0 rfl ?_
      refine g_get X dX7_see_59 okC_0 cl7 7 (by decide) m_294 rfl ?_
      refine g_dup X dX7_see_62 rfl ?_
      refine g_get X dX7_see_63 okC_38 cl2 0 (by decide) m_229 rfl ?_
      refine g_iconst X dX7_see_66 (v := 1) rfl ?_
      refine g_iadd X dX7_see_67 ?_
      refine g_putI X dX7_see_68 okC_38 cl2 0 (by decide) m_229 rfl .int rfl rfl rfl (Nat.le_of_ble_eq_true rfl) (fun _ _ => rfl) ?_
      refine g_aload_n X dX7_see_71 0 rfl ?_
      refine g_get X dX7_see_72 okC_0 cl7 7 (by decide) m_294 rfl ?_
      refine g_get X dX7_see_75 okC_38 cl2 0 (by decide) m_229 rfl ?_
      cases hf
      exact g_ireturn X dX7_see_78 hQ
    · rw [if_neg hc3] at hf
      refine g_bipush X dX7_see_23 (v := (-104)) rfl ?_
      cases hf
      exact g_ireturn X dX7_see_25 hQ
  · rw [if_pos hc2] at hf
    refine g_bipush X dX7_see_8 (v := (-101)) rfl ?_
    cases hf
    exact g_ireturn X dX7_see_10 hQ
set_option maxRecDepth 4000 in
theorem cX7_see_ok (l : Launch) (V : VT) (x1 : Int32) (x2 : Int32)  (I : aI) (J : aJ) {q : RT Int32} (hf : fX7_see x1 x2 I J = some q) : Met l yX7_see (.code yX7_see cX7_see 3 (some .int) :: GG) (rmD 2) (va_Pc [.ref (V.2.2 0), .int x1, .int x2] (cQ cS V I J)) (QI cS V q) 0 0 (vAd cS V) :=
  met_I (by decide +kernel) rfl (Nat.le_of_ble_eq_true rfl) (fun _ _ X hQ => wX7_see X hQ x1 x2  I J hf)
-- X7_stand
set_option maxRecDepth 4000 in
theorem wX7_stand {M : MT} {V : VT} (X : Cx M cS V cX7_stand 3 RX7 (some .int) 2) {q : RT Int32} (hQ : PI M cS V q) (x1 : Int32)  (I : aI) (J : aJ) (hf : fX7_stand x1 I J = some q) : Wg M cS V 3 I J 0 [(0, .ref (V.2.2 0)), (1, .int x1)] [] := by
  unfold fX7_stand at hf
  refine g_aload_n X dX7_stand_0 0 rfl ?_
  refine g_iload_n X dX7_stand_1 1 rfl ?_
  obtain ⟨r1, I1, J1, hb1, hf⟩ := bnd_some hf
  refine g_callV X dX7_stand_2 cw_X7_158 (k := 0) (As := [.int x1]) (rcv okC_0 cl7) rfl rfl (Nat.le_of_ble_eq_true rfl) (by decide) (cX7_isCorner_ok  M.2.1 V x1  I J hb1) (kI ?_)
  refine g_if_ne X dX7_stand_5 (tgt := 11) (by decide) (fun hc2 => ?_) (fun hc2 => ?_)
  · rw [if_neg hc2] at hf
    refine g_aload_n X dX7_stand_11 0 rfl ?_
    refine g_get X dX7_stand_12 okC_0 cl7 4 (by decide) m_291 rfl ?_
    refine g_get X dX7_stand_15 okC_32 cl0 0 (by decide) m_207 rfl ?_
    refine g_istore_n X dX7_stand_18 (by decide) [(2, .int (I1 32 0)), (0, .ref (V.2.2 0)), (1, .int x1)] rfl ?_
    refine g_aload_n X dX7_stand_19 1 rfl ?_
    refine g_get X dX7_stand_20 okC_0 cl7 4 (by decide) m_291 rfl ?_
    refine g_iload_n X dX7_stand_23 2 rfl ?_
    refine g_putI X dX7_stand_24 okC_32 cl0 0 (by decide) m_207 rfl .int rfl rfl rfl (Nat.le_of_ble_eq_true rfl) (fun _ _ => rfl) ?_
    refine g_iload_n X dX7_stand_27 0 rfl ?_
    cases hf
    exact g_ireturn X dX7_stand_28 hQ
  · rw [if_pos hc2] at hf
    refine g_bipush X dX7_stand_8 (v := (-101)) rfl ?_
    cases hf
    exact g_ireturn X dX7_stand_10 hQ
set_option maxRecDepth 4000 in
theorem cX7_stand_ok (l : Launch) (V : VT) (x1 : Int32)  (I : aI) (J : aJ) {q : RT Int32} (hf : fX7_stand x1 I J = some q) : Met l yX7_stand (.code yX7_stand cX7_stand 3 (some .int) :: GG) (rmD 2) (va_Pc [.ref (V.2.2 0), .int x1] (cQ cS V I J)) (QI cS V q) 0 0 (vAd cS V) :=
  met_I (by decide +kernel) rfl (Nat.le_of_ble_eq_true rfl) (fun _ _ X hQ => wX7_stand X hQ x1  I J hf)
-- X7_suburb
set_option maxRecDepth 4000 in
theorem wX7_suburb {M : MT} {V : VT} (X : Cx M cS V cX7_suburb 1 RX7 (some .int) 9) {q : RT Int32} (hQ : PI M cS V q)   (I : aI) (J : aJ) (hf : fX7_suburb  I J = some q) : Wg M cS V 1 I J 0 [(0, .ref (V.2.2 0))] [] := by
  unfold fX7_suburb at hf
  refine g_aload_n X dX7_suburb_0 0 rfl ?_
  refine g_get X dX7_suburb_1 okC_0 cl7 0 (by decide) m_287 rfl ?_
  obtain ⟨r1, I1, J1, hb1, hf⟩ := bnd_some hf
  refine g_callV X dX7_suburb_4 cw_X7_86 (k := 1) (As := []) (rcv okC_1 cl3) rfl rfl (Nat.le_of_ble_eq_true rfl) (by decide) (cX3_isSuburb_ok  M.2.1 V   I J hb1) (kI ?_)
  refine g_if_ne X dX7_suburb_7 (tgt := 13) (by decide) (fun hc2 => ?_) (fun hc2 => ?_)
  · rw [if_neg hc2] at hf
    refine g_aload_n X dX7_suburb_13 0 rfl ?_
    refine g_get X dX7_suburb_14 okC_0 cl7 1 (by decide) m_288 rfl ?_
    refine g_aload_n X dX7_suburb_17 0 rfl ?_
    refine g_get X dX7_suburb_18 okC_0 cl7 0 (by decide) m_287 rfl ?_
    obtain ⟨r3, I3, J3, hb3, hf⟩ := bnd_some hf
    refine g_callV X dX7_suburb_21 cw_X7_90 (k := 3) (As := [.ref (V.2.2 1)]) (rcv okC_3 cl6) rfl rfl (Nat.le_of_ble_eq_true rfl) (by decide) (cX6_build_ok  M.2.1 V   I1 J1 hb3) (kV ?_)
    refine g_aload_n X dX7_suburb_24 0 rfl ?_
    refine g_get X dX7_suburb_25 okC_0 cl7 2 (by decide) m_289 rfl ?_
    refine g_aload_n X dX7_suburb_28 0 rfl ?_
    refine g_get X dX7_suburb_29 okC_0 cl7 0 (by decide) m_287 rfl ?_
    obtain ⟨r4, I4, J4, hb4, hf⟩ := bnd_some hf
    refine g_callV X dX7_suburb_32 cw_X7_94 (k := 22) (As := [.ref (V.2.2 1)]) (rcv okC_22 cl1) rfl rfl (Nat.le_of_ble_eq_true rfl) (by decide) (cX1_settle_ok  M.2.1 V 22 okC_22 I3 J3 hb4) (kV ?_)
    refine g_aload_n X dX7_suburb_35 0 rfl ?_
    refine g_get X dX7_suburb_36 okC_0 cl7 4 (by decide) m_291 rfl ?_
    refine g_aload_n X dX7_suburb_39 0 rfl ?_
    refine g_get X dX7_suburb_40 okC_0 cl7 0 (by decide) m_287 rfl ?_
    refine g_iconst X dX7_suburb_43 (v := 1) rfl ?_
    obtain ⟨r5, I5, J5, hb5, hf⟩ := bnd_some hf
    refine g_callV X dX7_suburb_44 cw_X7_97 (k := 1) (As := [.int 1]) (rcv okC_1 cl3) rfl rfl (Nat.le_of_ble_eq_true rfl) (by decide) (cX3_digitAt_ok  M.2.1 V 1  I4 J4 hb5) (kI ?_)
    obtain ⟨r6, I6, J6, hb6, hf⟩ := bnd_some hf
    refine g_callV X dX7_suburb_47 cw_X7_101 (k := 32) (As := [.int r5]) (rcv okC_32 cl0) rfl rfl (Nat.le_of_ble_eq_true rfl) (by decide) (cX0_begin_ok  M.2.1 V 32 r5 okC_32 I5 J5 hb6) (kV ?_)
    refine g_aload_n X dX7_suburb_50 0 rfl ?_
    refine g_get X dX7_suburb_51 okC_0 cl7 7 (by decide) m_294 rfl ?_
    refine g_iconst X dX7_suburb_54 (v := 0) rfl ?_
    refine g_putI X dX7_suburb_55 okC_38 cl2 0 (by decide) m_229 rfl .int rfl rfl rfl (Nat.le_of_ble_eq_true rfl) (fun _ _ => rfl) ?_
    refine g_aload_n X dX7_suburb_58 0 rfl ?_
    refine g_iconst X dX7_suburb_59 (v := 0) rfl ?_
    refine g_putI X dX7_suburb_60 okC_0 cl7 11 (by decide) m_298 rfl .boolean rfl rfl rfl (Nat.le_of_ble_eq_true rfl) (fun _ _ => rfl) ?_
    refine g_aload_n X dX7_suburb_63 0 rfl ?_
    refine g_dup X dX7_suburb_64 rfl ?_
    refine g_get X dX7_suburb_65 okC_0 cl7 12 (by decide) m_299 rfl ?_
    refine g_iconst X dX7_suburb_68 (v := 1) rfl ?_
    refine g_iadd X dX7_suburb_69 ?_
    refine g_putI X dX7_suburb_70 okC_0 cl7 12 (by decide) m_299 rfl .int rfl rfl rfl (Nat.le_of_ble_eq_true rfl) (fun _ _ => rfl) ?_
    refine g_aload_n X dX7_suburb_73 0 rfl ?_
    refine g_get X dX7_suburb_74 okC_0 cl7 0 (by decide) m_287 rfl ?_
    refine g_iconst X dX7_suburb_77 (v := 0) rfl ?_
    refine g_putI X dX7_suburb_78 okC_1 cl3 1 (by decide) m_104 rfl .int rfl rfl rfl (Nat.le_of_ble_eq_true rfl) (fun _ _ => rfl) ?_
    refine g_aload_n X dX7_suburb_81 0 rfl ?_
    refine g_get X dX7_suburb_82 okC_0 cl7 2 (by decide) m_289 rfl ?_
    refine g_get X dX7_suburb_85 okC_22 cl1 0 (by decide) m_177 rfl ?_
    cases hf
    exact g_ireturn X dX7_suburb_88 hQ
  · rw [if_pos hc2] at hf
    refine g_bipush X dX7_suburb_10 (v := (-103)) rfl ?_
    cases hf
    exact g_ireturn X dX7_suburb_12 hQ
set_option maxRecDepth 4000 in
theorem cX7_suburb_ok (l : Launch) (V : VT)   (I : aI) (J : aJ) {q : RT Int32} (hf : fX7_suburb  I J = some q) : Met l yX7_suburb (.code yX7_suburb cX7_suburb 1 (some .int) :: GG) (rmD 9) (va_Pc [.ref (V.2.2 0)] (cQ cS V I J)) (QI cS V q) 0 0 (vAd cS V) :=
  met_I (by decide +kernel) rfl (Nat.le_of_ble_eq_true rfl) (fun _ _ X hQ => wX7_suburb X hQ   I J hf)
