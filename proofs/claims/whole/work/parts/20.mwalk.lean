-- X8_in
set_option maxRecDepth 4000 in
theorem wBX8_in_18 {M : MT} {V : VT}  (X : Cx M mS V cX8_in 6 RX8 (some .boolean) 0) {q : RT Int32} (hQ : PI M mS V q)  (s0 : Int32)  (I : aI) (J : aJ) (hf : BX8_in_18   s0 I J = some q) : Wg M mS V 6 I J 18 [] [.int s0] := by
  unfold BX8_in_18 at hf
  obtain ⟨hg3, hf⟩ := gd_some hf
  cases hf
  exact g_zreturn X dX8_in_18 (of_decide_eq_true hg3) hQ
set_option maxRecDepth 4000 in
theorem wBX8_in_17 {M : MT} {V : VT}  (X : Cx M mS V cX8_in 6 RX8 (some .boolean) 0) {q : RT Int32} (hQ : PI M mS V q)    (I : aI) (J : aJ) (hf : BX8_in_17    I J = some q) : Wg M mS V 6 I J 17 [] [] := by
  unfold BX8_in_17 at hf
  refine g_iconst X dX8_in_17 (v := 0) rfl ?_
  exact wBX8_in_18  X hQ  0  I J hf
set_option maxRecDepth 4000 in
theorem wX8_in {M : MT} {V : VT} (X : Cx M mS V cX8_in 6 RX8 (some .boolean) 0) {q : RT Int32} (hQ : PI M mS V q) (x0 : Int64) (x2 : Int64) (x4 : Int64)  (I : aI) (J : aJ) (hf : fX8_in x0 x2 x4 I J = some q) : Wg M mS V 6 I J 0 [(0, .long x0), (2, .long x2), (4, .long x4)] [] := by
  unfold fX8_in at hf
  refine g_lload_n X dX8_in_0 0 rfl ?_
  refine g_lload_n X dX8_in_1 1 rfl ?_
  refine g_lcmp X dX8_in_2 ?_
  refine g_if_lt X dX8_in_3 (tgt := 17) (by decide) (fun hc1 => ?_) (fun hc1 => ?_)
  · rw [if_pos hc1] at hf
    refine g_sub [] rfl ?_
    exact wBX8_in_17  X hQ    I J hf
  · rw [if_neg hc1] at hf
    refine g_lload_n X dX8_in_6 0 rfl ?_
    refine g_lload X dX8_in_7 2 rfl ?_
    refine g_lcmp X dX8_in_9 ?_
    refine g_if_gt X dX8_in_10 (tgt := 17) (by decide) (fun hc2 => ?_) (fun hc2 => ?_)
    · rw [if_pos hc2] at hf
      refine g_sub [] rfl ?_
      exact wBX8_in_17  X hQ    I J hf
    · rw [if_neg hc2] at hf
      refine g_iconst X dX8_in_13 (v := 1) rfl ?_
      refine g_goto X dX8_in_14 (tgt := 18) (by decide) ?_
      refine g_sub [] rfl ?_
      exact wBX8_in_18  X hQ  1  I J hf
set_option maxRecDepth 4000 in
theorem cX8_in_ok (l : Launch) (V : VT) (x0 : Int64) (x2 : Int64) (x4 : Int64)  (I : aI) (J : aJ) {q : RT Int32} (hf : fX8_in x0 x2 x4 I J = some q) : Met l yX8_in (.code yX8_in cX8_in 6 (some .boolean) :: GG) (rmD 0) (va_Pc [.long x0, .long x2, .long x4] (cQ mS V I J)) (QI mS V q) 0 0 (vAd mS V) :=
  met_I (by decide +kernel) rfl (Nat.le_of_ble_eq_true rfl) (fun _ _ X hQ => wX8_in X hQ x0 x2 x4  I J hf)
-- X8_isPerson
set_option maxRecDepth 4000 in
theorem wX8_isPerson {M : MT} {V : VT} (X : Cx M mS V cX8_isPerson 2 RX8 (some .boolean) 1) {q : RT Int32} (hQ : PI M mS V q) (x1 : Int32)  (I : aI) (J : aJ) (hf : fX8_isPerson x1 I J = some q) : Wg M mS V 2 I J 0 [(0, .ref (V.2.2 0)), (1, .int x1)] [] := by
  unfold fX8_isPerson at hf
  refine g_iload_n X dX8_isPerson_0 1 rfl ?_
  refine g_i2l X dX8_isPerson_1 ?_
  refine g_lconst X dX8_isPerson_2 (v := 0) rfl ?_
  refine g_aload_n X dX8_isPerson_3 0 rfl ?_
  refine g_get X dX8_isPerson_4 okM_0 cl8 5 (by decide) m_823 rfl ?_
  refine g_iconst X dX8_isPerson_7 (v := 1) rfl ?_
  refine g_isub X dX8_isPerson_8 ?_
  refine g_i2l X dX8_isPerson_9 ?_
  obtain ⟨r1, I1, J1, hb1, hf⟩ := bnd_some hf
  refine g_callS X dX8_isPerson_10 sw_X8_92 (As := [.long (Int32.toInt64 x1), .long 0, .long (Int32.toInt64 ((I 0 5) - 1))]) rfl rfl (Nat.le_of_ble_eq_true rfl) (by decide) (cX8_in_ok  M.2.1 V (Int32.toInt64 x1) 0 (Int32.toInt64 ((I 0 5) - 1))  I J hb1) (kI ?_)
  obtain ⟨hg2, hf⟩ := gd_some hf
  cases hf
  exact g_zreturn X dX8_isPerson_13 (of_decide_eq_true hg2) hQ
set_option maxRecDepth 4000 in
theorem cX8_isPerson_ok (l : Launch) (V : VT) (x1 : Int32)  (I : aI) (J : aJ) {q : RT Int32} (hf : fX8_isPerson x1 I J = some q) : Met l yX8_isPerson (.code yX8_isPerson cX8_isPerson 2 (some .boolean) :: GG) (rmD 1) (va_Pc [.ref (V.2.2 0), .int x1] (cQ mS V I J)) (QI mS V q) 0 0 (vAd mS V) :=
  met_I (by decide +kernel) rfl (Nat.le_of_ble_eq_true rfl) (fun _ _ X hQ => wX8_isPerson X hQ x1  I J hf)
-- X8_as
set_option maxRecDepth 4000 in
theorem wBX8_as_70 {M : MT} {V : VT}  (X : Cx M mS V cX8_as 4 RX8 (some .int) 2) {q : RT Int32} (hQ : PI M mS V q)  (s0 : Int32)  (I : aI) (J : aJ) (hf : BX8_as_70   s0 I J = some q) : Wg M mS V 4 I J 70 [] [.int s0] := by
  unfold BX8_as_70 at hf
  cases hf
  exact g_ireturn X dX8_as_70 hQ
set_option maxRecDepth 4000 in
theorem wBX8_as_60 {M : MT} {V : VT}  (X : Cx M mS V cX8_as 4 RX8 (some .int) 2) {q : RT Int32} (hQ : PI M mS V q)  (x1 : Int32) (s0 : Int32)  (I : aI) (J : aJ) (hf : BX8_as_60   x1 s0 I J = some q) : Wg M mS V 4 I J 60 [(1, .int x1)] [.int s0] := by
  unfold BX8_as_60 at hf
  refine g_istore_n X dX8_as_60 (by decide) [(3, .int s0), (1, .int x1)] rfl ?_
  refine g_iload_n X dX8_as_61 0 rfl ?_
  refine g_if_eq X dX8_as_62 (tgt := 69) (by decide) (fun hc10 => ?_) (fun hc10 => ?_)
  · rw [if_pos hc10] at hf
    refine g_iconst X dX8_as_69 (v := (-1)) rfl ?_
    refine g_sub [] rfl ?_
    exact wBX8_as_70  X hQ  (-1)  I J hf
  · rw [if_neg hc10] at hf
    refine g_iload_n X dX8_as_65 1 rfl ?_
    refine g_goto X dX8_as_66 (tgt := 70) (by decide) ?_
    refine g_sub [] rfl ?_
    exact wBX8_as_70  X hQ  x1  I J hf
set_option maxRecDepth 4000 in
theorem wBX8_as_55 {M : MT} {V : VT}  (X : Cx M mS V cX8_as 4 RX8 (some .int) 2) {q : RT Int32} (hQ : PI M mS V q)  (x1 : Int32)  (I : aI) (J : aJ) (hf : BX8_as_55   x1 I J = some q) : Wg M mS V 4 I J 55 [(1, .int x1)] [] := by
  unfold BX8_as_55 at hf
  refine g_iconst X dX8_as_55 (v := 1) rfl ?_
  refine g_goto X dX8_as_56 (tgt := 60) (by decide) ?_
  exact wBX8_as_60  X hQ  x1 1  I J hf
set_option maxRecDepth 4000 in
theorem wBX8_as_59 {M : MT} {V : VT}  (X : Cx M mS V cX8_as 4 RX8 (some .int) 2) {q : RT Int32} (hQ : PI M mS V q)  (x1 : Int32)  (I : aI) (J : aJ) (hf : BX8_as_59   x1 I J = some q) : Wg M mS V 4 I J 59 [(1, .int x1)] [] := by
  unfold BX8_as_59 at hf
  refine g_iconst X dX8_as_59 (v := 0) rfl ?_
  exact wBX8_as_60  X hQ  x1 0  I J hf
set_option maxRecDepth 4000 in
theorem wX8_as {M : MT} {V : VT} (X : Cx M mS V cX8_as 4 RX8 (some .int) 2) {q : RT Int32} (hQ : PI M mS V q) (x1 : Int32) (x2 : Int32)  (I : aI) (J : aJ) (hf : fX8_as x1 x2 I J = some q) : Wg M mS V 4 I J 0 [(0, .ref (V.2.2 0)), (1, .int x1), (2, .int x2)] [] := by
  unfold fX8_as at hf
  refine g_aload_n X dX8_as_0 0 rfl ?_
  refine g_iload_n X dX8_as_1 1 rfl ?_
  obtain ⟨r1, I1, J1, hb1, hf⟩ := bnd_some hf
  refine g_callV X dX8_as_2 cw_X8_175 (k := 0) (As := [.int x1]) (rcv okM_0 cl8) rfl rfl (Nat.le_of_ble_eq_true rfl) (by decide) (cX8_isPerson_ok  M.2.1 V x1  I J hb1) (kI ?_)
  refine g_if_ne X dX8_as_5 (tgt := 11) (by decide) (fun hc2 => ?_) (fun hc2 => ?_)
  · rw [if_neg hc2] at hf
    refine g_iload_n X dX8_as_11 2 rfl ?_
    refine g_i2l X dX8_as_12 ?_
    refine g_lconst X dX8_as_13 (v := 0) rfl ?_
    refine g_ldc2 X dX8_as_14 m_1031 ?_
    obtain ⟨r3, I3, J3, hb3, hf⟩ := bnd_some hf
    refine g_callS X dX8_as_17 sw_X8_92 (As := [.long (Int32.toInt64 x2), .long 0, .long 4]) rfl rfl (Nat.le_of_ble_eq_true rfl) (by decide) (cX8_in_ok  M.2.1 V (Int32.toInt64 x2) 0 4  I1 J1 hb3) (kI ?_)
    refine g_if_ne X dX8_as_20 (tgt := 26) (by decide) (fun hc4 => ?_) (fun hc4 => ?_)
    · rw [if_neg hc4] at hf
      refine g_iload_n X dX8_as_26 2 rfl ?_
      refine g_if_eq X dX8_as_27 (tgt := 55) (by decide) (fun hc5 => ?_) (fun hc5 => ?_)
      · rw [if_pos hc5] at hf
        refine g_sub [1] rfl ?_
        exact wBX8_as_55  X hQ  x1  I3 J3 hf
      · rw [if_neg hc5] at hf
        refine g_iload_n X dX8_as_30 2 rfl ?_
        refine g_aload_n X dX8_as_31 0 rfl ?_
        refine g_get X dX8_as_32 okM_0 cl8 11 (by decide) m_829 rfl ?_
        refine g_iload_n X dX8_as_35 1 rfl ?_
        obtain ⟨hg6, hf⟩ := gd_some hf
        refine g_iaload X dX8_as_36 okM_4 hg6 ?_
        refine g_icmp_eq X dX8_as_37 (tgt := 55) (by decide) (fun hc7 => ?_) (fun hc7 => ?_)
        · rw [if_pos hc7] at hf
          refine g_sub [1] rfl ?_
          exact wBX8_as_55  X hQ  x1  I3 J3 hf
        · rw [if_neg hc7] at hf
          refine g_iload_n X dX8_as_40 2 rfl ?_
          refine g_iconst X dX8_as_41 (v := 1) rfl ?_
          refine g_icmp_ne X dX8_as_42 (tgt := 59) (by decide) (fun hc8 => ?_) (fun hc8 => ?_)
          · rw [if_neg hc8] at hf
            refine g_sub [1] rfl ?_
            exact wBX8_as_59  X hQ  x1  I3 J3 hf
          · rw [if_pos hc8] at hf
            refine g_aload_n X dX8_as_45 0 rfl ?_
            refine g_get X dX8_as_46 okM_0 cl8 11 (by decide) m_829 rfl ?_
            refine g_iload_n X dX8_as_49 1 rfl ?_
            refine g_iaload X dX8_as_50 okM_4 hg6 ?_
            refine g_iconst X dX8_as_51 (v := 4) rfl ?_
            refine g_icmp_ne X dX8_as_52 (tgt := 59) (by decide) (fun hc9 => ?_) (fun hc9 => ?_)
            · rw [if_neg hc9] at hf
              refine g_sub [1] rfl ?_
              exact wBX8_as_59  X hQ  x1  I3 J3 hf
            · rw [if_pos hc9] at hf
              refine g_sub [1] rfl ?_
              exact wBX8_as_55  X hQ  x1  I3 J3 hf
    · rw [if_pos hc4] at hf
      refine g_bipush X dX8_as_23 (v := (-102)) rfl ?_
      cases hf
      exact g_ireturn X dX8_as_25 hQ
  · rw [if_pos hc2] at hf
    refine g_bipush X dX8_as_8 (v := (-101)) rfl ?_
    cases hf
    exact g_ireturn X dX8_as_10 hQ
set_option maxRecDepth 4000 in
theorem cX8_as_ok (l : Launch) (V : VT) (x1 : Int32) (x2 : Int32)  (I : aI) (J : aJ) {q : RT Int32} (hf : fX8_as x1 x2 I J = some q) : Met l yX8_as (.code yX8_as cX8_as 4 (some .int) :: GG) (rmD 2) (va_Pc [.ref (V.2.2 0), .int x1, .int x2] (cQ mS V I J)) (QI mS V q) 0 0 (vAd mS V) :=
  met_I (by decide +kernel) rfl (Nat.le_of_ble_eq_true rfl) (fun _ _ X hQ => wX8_as X hQ x1 x2  I J hf)
-- X8_lacks
set_option maxRecDepth 4000 in
theorem wBX8_lacks_12 {M : MT} {V : VT}  (X : Cx M mS V cX8_lacks 1 RX8 (some .boolean) 0) {q : RT Int32} (hQ : PI M mS V q)  (s0 : Int32)  (I : aI) (J : aJ) (hf : BX8_lacks_12   s0 I J = some q) : Wg M mS V 1 I J 12 [] [.int s0] := by
  unfold BX8_lacks_12 at hf
  obtain ⟨hg2, hf⟩ := gd_some hf
  cases hf
  exact g_zreturn X dX8_lacks_12 (of_decide_eq_true hg2) hQ
set_option maxRecDepth 4000 in
theorem wX8_lacks {M : MT} {V : VT} (X : Cx M mS V cX8_lacks 1 RX8 (some .boolean) 0) {q : RT Int32} (hQ : PI M mS V q)   (I : aI) (J : aJ) (hf : fX8_lacks  I J = some q) : Wg M mS V 1 I J 0 [(0, .ref (V.2.2 0))] [] := by
  unfold fX8_lacks at hf
  refine g_aload_n X dX8_lacks_0 0 rfl ?_
  refine g_get X dX8_lacks_1 okM_0 cl8 5 (by decide) m_823 rfl ?_
  refine g_if_ne X dX8_lacks_4 (tgt := 11) (by decide) (fun hc1 => ?_) (fun hc1 => ?_)
  · rw [if_neg hc1] at hf
    refine g_iconst X dX8_lacks_11 (v := 0) rfl ?_
    refine g_sub [] rfl ?_
    exact wBX8_lacks_12  X hQ  0  I J hf
  · rw [if_pos hc1] at hf
    refine g_iconst X dX8_lacks_7 (v := 1) rfl ?_
    refine g_goto X dX8_lacks_8 (tgt := 12) (by decide) ?_
    refine g_sub [] rfl ?_
    exact wBX8_lacks_12  X hQ  1  I J hf
set_option maxRecDepth 4000 in
theorem cX8_lacks_ok (l : Launch) (V : VT)   (I : aI) (J : aJ) {q : RT Int32} (hf : fX8_lacks  I J = some q) : Met l yX8_lacks (.code yX8_lacks cX8_lacks 1 (some .boolean) :: GG) (rmD 0) (va_Pc [.ref (V.2.2 0)] (cQ mS V I J)) (QI mS V q) 0 0 (vAd mS V) :=
  met_I (by decide +kernel) rfl (Nat.le_of_ble_eq_true rfl) (fun _ _ X hQ => wX8_lacks X hQ   I J hf)
-- X8_hearsAt
set_option maxRecDepth 4000 in
theorem wBX8_hearsAt_30 {M : MT} {V : VT}  (X : Cx M mS V cX8_hearsAt 3 RX8 (some .int) 0) {q : RT Int32} (hQ : PI M mS V q)  (s0 : Int32)  (I : aI) (J : aJ) (hf : BX8_hearsAt_30   s0 I J = some q) : Wg M mS V 3 I J 30 [] [.int s0] := by
  unfold BX8_hearsAt_30 at hf
  cases hf
  exact g_ireturn X dX8_hearsAt_30 hQ
set_option maxRecDepth 4000 in
theorem wX8_hearsAt {M : MT} {V : VT} (X : Cx M mS V cX8_hearsAt 3 RX8 (some .int) 0) {q : RT Int32} (hQ : PI M mS V q) (x1 : Int32) (x2 : Int32)  (I : aI) (J : aJ) (hf : fX8_hearsAt x1 x2 I J = some q) : Wg M mS V 3 I J 0 [(0, .ref (V.2.2 0)), (1, .int x1), (2, .int x2)] [] := by
  unfold fX8_hearsAt at hf
  refine g_aload_n X dX8_hearsAt_0 0 rfl ?_
  refine g_get X dX8_hearsAt_1 okM_0 cl8 17 (by decide) m_835 rfl ?_
  refine g_bipush X dX8_hearsAt_4 (v := 6) rfl ?_
  refine g_aload_n X dX8_hearsAt_6 0 rfl ?_
  refine g_get X dX8_hearsAt_7 okM_0 cl8 12 (by decide) m_830 rfl ?_
  refine g_iload_n X dX8_hearsAt_10 1 rfl ?_
  obtain ⟨hg1, hf⟩ := gd_some hf
  refine g_iaload X dX8_hearsAt_11 okM_5 hg1 ?_
  refine g_imul X dX8_hearsAt_12 ?_
  refine g_iload_n X dX8_hearsAt_13 2 rfl ?_
  refine g_iadd X dX8_hearsAt_14 ?_
  obtain ⟨hg2, hf⟩ := gd_some hf
  refine g_iaload X dX8_hearsAt_15 okM_10 hg2 ?_
  refine g_aload_n X dX8_hearsAt_16 0 rfl ?_
  refine g_get X dX8_hearsAt_17 okM_0 cl8 14 (by decide) m_832 rfl ?_
  refine g_iload_n X dX8_hearsAt_20 1 rfl ?_
  refine g_iaload X dX8_hearsAt_21 okM_7 hg1 ?_
  refine g_icmp_gt X dX8_hearsAt_22 (tgt := 29) (by decide) (fun hc3 => ?_) (fun hc3 => ?_)
  · rw [if_pos hc3] at hf
    refine g_iconst X dX8_hearsAt_29 (v := 0) rfl ?_
    refine g_sub [] rfl ?_
    exact wBX8_hearsAt_30  X hQ  0  I J hf
  · rw [if_neg hc3] at hf
    refine g_iconst X dX8_hearsAt_25 (v := 1) rfl ?_
    refine g_goto X dX8_hearsAt_26 (tgt := 30) (by decide) ?_
    refine g_sub [] rfl ?_
    exact wBX8_hearsAt_30  X hQ  1  I J hf
set_option maxRecDepth 4000 in
theorem cX8_hearsAt_ok (l : Launch) (V : VT) (x1 : Int32) (x2 : Int32)  (I : aI) (J : aJ) {q : RT Int32} (hf : fX8_hearsAt x1 x2 I J = some q) : Met l yX8_hearsAt (.code yX8_hearsAt cX8_hearsAt 3 (some .int) :: GG) (rmD 0) (va_Pc [.ref (V.2.2 0), .int x1, .int x2] (cQ mS V I J)) (QI mS V q) 0 0 (vAd mS V) :=
  met_I (by decide +kernel) rfl (Nat.le_of_ble_eq_true rfl) (fun _ _ X hQ => wX8_hearsAt X hQ x1 x2  I J hf)
-- X8_placesOf
set_option maxRecDepth 4000 in
theorem wBX8_placesOf_80 {M : MT} {V : VT}  (X : Cx M mS V cX8_placesOf 5 RX8 (some .int) 1) {q : RT Int32} (hQ : PI M mS V q) (k4 : Int32 → Int32 → aI → aJ → Option (RT Int32)) (hk4 : ∀ (x1 : Int32) (x2 : Int32)  (I : aI) (J : aJ), k4 x1 x2 I J = some q → Wg M mS V 5 I J 4 [(0, .ref (V.2.2 0)), (1, .int x1), (2, .int x2)] []) (x2 : Int32) (s0 : Int32) (s1 : Int32)  (I : aI) (J : aJ) (hf : BX8_placesOf_80  k4 x2 s0 s1 I J = some q) : Wg M mS V 5 I J 80 [(0, .ref (V.2.2 0)), (2, .int x2)] [.int s0, .int s1] := by
  unfold BX8_placesOf_80 at hf
  refine g_ior X dX8_placesOf_80 ?_
  refine g_istore_n X dX8_placesOf_81 (by decide) [(1, .int (s1 ||| s0)), (0, .ref (V.2.2 0)), (2, .int x2)] rfl ?_
  refine g_iinc X dX8_placesOf_82 2 rfl 1 rfl (by decide) [(2, .int (x2 + 1)), (1, .int (s1 ||| s0)), (0, .ref (V.2.2 0))] rfl ?_
  refine g_goto X dX8_placesOf_85 (tgt := 4) (by decide) ?_
  refine g_sub [2, 1, 0] rfl ?_
  exact hk4 (s1 ||| s0) (x2 + 1)  I J hf
set_option maxRecDepth 4000 in
theorem wBX8_placesOf_61 {M : MT} {V : VT}  (X : Cx M mS V cX8_placesOf 5 RX8 (some .int) 1) {q : RT Int32} (hQ : PI M mS V q) (k4 : Int32 → Int32 → aI → aJ → Option (RT Int32)) (hk4 : ∀ (x1 : Int32) (x2 : Int32)  (I : aI) (J : aJ), k4 x1 x2 I J = some q → Wg M mS V 5 I J 4 [(0, .ref (V.2.2 0)), (1, .int x1), (2, .int x2)] []) (k17 : Int32 → Int32 → Int32 → Int32 → aI → aJ → Option (RT Int32)) (hk17 : ∀ (x1 : Int32) (x2 : Int32) (x3 : Int32) (x4 : Int32)  (I : aI) (J : aJ), k17 x1 x2 x3 x4 I J = some q → Wg M mS V 5 I J 17 [(0, .ref (V.2.2 0)), (1, .int x1), (2, .int x2), (3, .int x3), (4, .int x4)] []) (x1 : Int32) (x2 : Int32) (x4 : Int32) (s0 : Int32)  (I : aI) (J : aJ) (hf : BX8_placesOf_61  k4 k17 x1 x2 x4 s0 I J = some q) : Wg M mS V 5 I J 61 [(0, .ref (V.2.2 0)), (1, .int x1), (2, .int x2), (4, .int x4)] [.int s0] := by
  unfold BX8_placesOf_61 at hf
  refine g_istore_n X dX8_placesOf_61 (by decide) [(3, .int s0), (0, .ref (V.2.2 0)), (1, .int x1), (2, .int x2), (4, .int x4)] rfl ?_
  refine g_iinc X dX8_placesOf_62 4 rfl 2 rfl (by decide) [(4, .int (x4 + 2)), (3, .int s0), (0, .ref (V.2.2 0)), (1, .int x1), (2, .int x2)] rfl ?_
  refine g_goto X dX8_placesOf_65 (tgt := 17) (by decide) ?_
  refine g_sub [2, 3, 4, 1, 0] rfl ?_
  exact hk17 x1 x2 s0 (x4 + 2)  I J hf
set_option maxRecDepth 4000 in
theorem wBX8_placesOf_60 {M : MT} {V : VT}  (X : Cx M mS V cX8_placesOf 5 RX8 (some .int) 1) {q : RT Int32} (hQ : PI M mS V q) (k4 : Int32 → Int32 → aI → aJ → Option (RT Int32)) (hk4 : ∀ (x1 : Int32) (x2 : Int32)  (I : aI) (J : aJ), k4 x1 x2 I J = some q → Wg M mS V 5 I J 4 [(0, .ref (V.2.2 0)), (1, .int x1), (2, .int x2)] []) (k17 : Int32 → Int32 → Int32 → Int32 → aI → aJ → Option (RT Int32)) (hk17 : ∀ (x1 : Int32) (x2 : Int32) (x3 : Int32) (x4 : Int32)  (I : aI) (J : aJ), k17 x1 x2 x3 x4 I J = some q → Wg M mS V 5 I J 17 [(0, .ref (V.2.2 0)), (1, .int x1), (2, .int x2), (3, .int x3), (4, .int x4)] []) (x1 : Int32) (x2 : Int32) (x4 : Int32)  (I : aI) (J : aJ) (hf : BX8_placesOf_60  k4 k17 x1 x2 x4 I J = some q) : Wg M mS V 5 I J 60 [(0, .ref (V.2.2 0)), (1, .int x1), (2, .int x2), (4, .int x4)] [] := by
  unfold BX8_placesOf_60 at hf
  refine g_iconst X dX8_placesOf_60 (v := 0) rfl ?_
  exact wBX8_placesOf_61  X hQ k4 hk4 k17 hk17 x1 x2 x4 0  I J hf
set_option maxRecDepth 4000 in
theorem wHX8_placesOf_17 {M : MT} {V : VT}  (X : Cx M mS V cX8_placesOf 5 RX8 (some .int) 1) {q : RT Int32} (hQ : PI M mS V q) (k4 : Int32 → Int32 → aI → aJ → Option (RT Int32)) (hk4 : ∀ (x1 : Int32) (x2 : Int32)  (I : aI) (J : aJ), k4 x1 x2 I J = some q → Wg M mS V 5 I J 4 [(0, .ref (V.2.2 0)), (1, .int x1), (2, .int x2)] []) (k17 : Int32 → Int32 → Int32 → Int32 → aI → aJ → Option (RT Int32)) (hk17 : ∀ (x1 : Int32) (x2 : Int32) (x3 : Int32) (x4 : Int32)  (I : aI) (J : aJ), k17 x1 x2 x3 x4 I J = some q → Wg M mS V 5 I J 17 [(0, .ref (V.2.2 0)), (1, .int x1), (2, .int x2), (3, .int x3), (4, .int x4)] []) (x1 : Int32) (x2 : Int32) (x3 : Int32) (x4 : Int32)  (I : aI) (J : aJ) (hf : HX8_placesOf_17  k4 k17 x1 x2 x3 x4 I J = some q) : Wg M mS V 5 I J 17 [(0, .ref (V.2.2 0)), (1, .int x1), (2, .int x2), (3, .int x3), (4, .int x4)] [] := by
  unfold HX8_placesOf_17 at hf
  refine g_iload X dX8_placesOf_17 4 rfl ?_
  refine g_iconst X dX8_placesOf_19 (v := 2) rfl ?_
  refine g_aload_n X dX8_placesOf_20 0 rfl ?_
  refine g_get X dX8_placesOf_21 okM_0 cl8 27 (by decide) m_845 rfl ?_
  refine g_imul X dX8_placesOf_24 ?_
  refine g_icmp_ge X dX8_placesOf_25 (tgt := 68) (by decide) (fun hc2 => ?_) (fun hc2 => ?_)
  · rw [if_pos hc2] at hf
    refine g_iload_n X dX8_placesOf_68 1 rfl ?_
    refine g_iload_n X dX8_placesOf_69 3 rfl ?_
    refine g_if_eq X dX8_placesOf_70 (tgt := 79) (by decide) (fun hc3 => ?_) (fun hc3 => ?_)
    · rw [if_pos hc3] at hf
      refine g_iconst X dX8_placesOf_79 (v := 0) rfl ?_
      refine g_sub [0, 2] rfl ?_
      exact wBX8_placesOf_80  X hQ k4 hk4 x2 0 x1  I J hf
    · rw [if_neg hc3] at hf
      refine g_iconst X dX8_placesOf_73 (v := 1) rfl ?_
      refine g_iload_n X dX8_placesOf_74 2 rfl ?_
      refine g_ishl X dX8_placesOf_75 ?_
      refine g_goto X dX8_placesOf_76 (tgt := 80) (by decide) ?_
      refine g_sub [0, 2] rfl ?_
      exact wBX8_placesOf_80  X hQ k4 hk4 x2 (1 <<< (x2 &&& 31)) x1  I J hf
  · rw [if_neg hc2] at hf
    refine g_iload_n X dX8_placesOf_28 3 rfl ?_
    refine g_if_eq X dX8_placesOf_29 (tgt := 60) (by decide) (fun hc4 => ?_) (fun hc4 => ?_)
    · rw [if_pos hc4] at hf
      refine g_sub [0, 1, 2, 4] rfl ?_
      exact wBX8_placesOf_60  X hQ k4 hk4 k17 hk17 x1 x2 x4  I J hf
    · rw [if_neg hc4] at hf
      refine g_aload_n X dX8_placesOf_32 0 rfl ?_
      refine g_aload_n X dX8_placesOf_33 0 rfl ?_
      refine g_get X dX8_placesOf_34 okM_0 cl8 28 (by decide) m_846 rfl ?_
      refine g_iload X dX8_placesOf_37 4 rfl ?_
      obtain ⟨hg5, hf⟩ := gd_some hf
      refine g_iaload X dX8_placesOf_39 okM_19 hg5 ?_
      refine g_iload_n X dX8_placesOf_40 2 rfl ?_
      obtain ⟨r6, I6, J6, hb6, hf⟩ := bnd_some hf
      refine g_callV X dX8_placesOf_41 cw_X8_250 (k := 0) (As := [.int (I 19 (Int32.toNatClampNeg x4)), .int x2]) (rcv okM_0 cl8) rfl rfl (Nat.le_of_ble_eq_true rfl) (by decide) (cX8_hearsAt_ok  M.2.1 V (I 19 (Int32.toNatClampNeg x4)) x2  I J hb6) (kI ?_)
      refine g_aload_n X dX8_placesOf_44 0 rfl ?_
      refine g_get X dX8_placesOf_45 okM_0 cl8 28 (by decide) m_846 rfl ?_
      refine g_iload X dX8_placesOf_48 4 rfl ?_
      refine g_iconst X dX8_placesOf_50 (v := 1) rfl ?_
      refine g_iadd X dX8_placesOf_51 ?_
      obtain ⟨hg7, hf⟩ := gd_some hf
      refine g_iaload X dX8_placesOf_52 okM_19 hg7 ?_
      refine g_icmp_ne X dX8_placesOf_53 (tgt := 60) (by decide) (fun hc8 => ?_) (fun hc8 => ?_)
      · rw [if_neg hc8] at hf
        refine g_sub [0, 1, 2, 4] rfl ?_
        exact wBX8_placesOf_60  X hQ k4 hk4 k17 hk17 x1 x2 x4  I6 J6 hf
      · rw [if_pos hc8] at hf
        refine g_iconst X dX8_placesOf_56 (v := 1) rfl ?_
        refine g_goto X dX8_placesOf_57 (tgt := 61) (by decide) ?_
        refine g_sub [0, 1, 2, 4] rfl ?_
        exact wBX8_placesOf_61  X hQ k4 hk4 k17 hk17 x1 x2 x4 1  I6 J6 hf
set_option maxRecDepth 4000 in
theorem wLX8_placesOf_17 {M : MT} {V : VT}  (X : Cx M mS V cX8_placesOf 5 RX8 (some .int) 1) {q : RT Int32} (hQ : PI M mS V q) (k4 : Int32 → Int32 → aI → aJ → Option (RT Int32)) (hk4 : ∀ (x1 : Int32) (x2 : Int32)  (I : aI) (J : aJ), k4 x1 x2 I J = some q → Wg M mS V 5 I J 4 [(0, .ref (V.2.2 0)), (1, .int x1), (2, .int x2)] []) : ∀ (n : Nat) (x1 : Int32) (x2 : Int32) (x3 : Int32) (x4 : Int32)  (I : aI) (J : aJ), LX8_placesOf_17  k4 n x1 x2 x3 x4 I J = some q → Wg M mS V 5 I J 17 [(0, .ref (V.2.2 0)), (1, .int x1), (2, .int x2), (3, .int x3), (4, .int x4)] [] := by
  intro n
  induction n with
  | zero => intro x1 x2 x3 x4  I J hf; cases hf
  | succ n ih => intro x1 x2 x3 x4  I J hf; exact wHX8_placesOf_17  X hQ k4 hk4 (LX8_placesOf_17  k4 n) ih x1 x2 x3 x4  I J hf
set_option maxRecDepth 4000 in
theorem wHX8_placesOf_4 {M : MT} {V : VT}  (X : Cx M mS V cX8_placesOf 5 RX8 (some .int) 1) {q : RT Int32} (hQ : PI M mS V q) (k4 : Int32 → Int32 → aI → aJ → Option (RT Int32)) (hk4 : ∀ (x1 : Int32) (x2 : Int32)  (I : aI) (J : aJ), k4 x1 x2 I J = some q → Wg M mS V 5 I J 4 [(0, .ref (V.2.2 0)), (1, .int x1), (2, .int x2)] []) (x1 : Int32) (x2 : Int32)  (I : aI) (J : aJ) (hf : HX8_placesOf_4  k4 x1 x2 I J = some q) : Wg M mS V 5 I J 4 [(0, .ref (V.2.2 0)), (1, .int x1), (2, .int x2)] [] := by
  unfold HX8_placesOf_4 at hf
  refine g_iload_n X dX8_placesOf_4 2 rfl ?_
  refine g_aload_n X dX8_placesOf_5 0 rfl ?_
  refine g_get X dX8_placesOf_6 okM_0 cl8 3 (by decide) m_821 rfl ?_
  refine g_icmp_ge X dX8_placesOf_9 (tgt := 88) (by decide) (fun hc1 => ?_) (fun hc1 => ?_)
  · rw [if_pos hc1] at hf
    refine g_iload_n X dX8_placesOf_88 1 rfl ?_
    cases hf
    exact g_ireturn X dX8_placesOf_89 hQ
  · rw [if_neg hc1] at hf
    refine g_iconst X dX8_placesOf_12 (v := 1) rfl ?_
    refine g_istore_n X dX8_placesOf_13 (by decide) [(3, .int 1), (0, .ref (V.2.2 0)), (1, .int x1), (2, .int x2)] rfl ?_
    refine g_iconst X dX8_placesOf_14 (v := 0) rfl ?_
    refine g_istore X dX8_placesOf_15 (by decide) [(4, .int 0), (3, .int 1), (0, .ref (V.2.2 0)), (1, .int x1), (2, .int x2)] rfl ?_
    refine g_sub [2, 3, 4, 1, 0] rfl ?_
    exact wLX8_placesOf_17  X hQ k4 hk4 128 x1 x2 1 0  I J hf
set_option maxRecDepth 4000 in
theorem wLX8_placesOf_4 {M : MT} {V : VT}  (X : Cx M mS V cX8_placesOf 5 RX8 (some .int) 1) {q : RT Int32} (hQ : PI M mS V q)  : ∀ (n : Nat) (x1 : Int32) (x2 : Int32)  (I : aI) (J : aJ), LX8_placesOf_4   n x1 x2 I J = some q → Wg M mS V 5 I J 4 [(0, .ref (V.2.2 0)), (1, .int x1), (2, .int x2)] [] := by
  intro n
  induction n with
  | zero => intro x1 x2  I J hf; cases hf
  | succ n ih => intro x1 x2  I J hf; exact wHX8_placesOf_4  X hQ  (LX8_placesOf_4   n) ih x1 x2  I J hf
set_option maxRecDepth 4000 in
theorem wX8_placesOf {M : MT} {V : VT} (X : Cx M mS V cX8_placesOf 5 RX8 (some .int) 1) {q : RT Int32} (hQ : PI M mS V q)   (I : aI) (J : aJ) (hf : fX8_placesOf  I J = some q) : Wg M mS V 5 I J 0 [(0, .ref (V.2.2 0))] [] := by
  unfold fX8_placesOf at hf
  refine g_iconst X dX8_placesOf_0 (v := 0) rfl ?_
  refine g_istore_n X dX8_placesOf_1 (by decide) [(1, .int 0), (0, .ref (V.2.2 0))] rfl ?_
  refine g_iconst X dX8_placesOf_2 (v := 0) rfl ?_
  refine g_istore_n X dX8_placesOf_3 (by decide) [(2, .int 0), (1, .int 0), (0, .ref (V.2.2 0))] rfl ?_
  refine g_sub [2, 1, 0] rfl ?_
  exact wLX8_placesOf_4  X hQ  128 0 0  I J hf
set_option maxRecDepth 4000 in
theorem cX8_placesOf_ok (l : Launch) (V : VT)   (I : aI) (J : aJ) {q : RT Int32} (hf : fX8_placesOf  I J = some q) : Met l yX8_placesOf (.code yX8_placesOf cX8_placesOf 5 (some .int) :: GG) (rmD 1) (va_Pc [.ref (V.2.2 0)] (cQ mS V I J)) (QI mS V q) 0 0 (vAd mS V) :=
  met_I (by decide +kernel) rfl (Nat.le_of_ble_eq_true rfl) (fun _ _ X hQ => wX8_placesOf X hQ   I J hf)
-- X8_askOf
set_option maxRecDepth 4000 in
theorem wBX8_askOf_140 {M : MT} {V : VT}  (X : Cx M mS V cX8_askOf 9 RX8 (some .int) 2) {q : RT Int32} (hQ : PI M mS V q)  (x2 : Int32)  (I : aI) (J : aJ) (hf : BX8_askOf_140   x2 I J = some q) : Wg M mS V 9 I J 140 [(2, .int x2)] [] := by
  unfold BX8_askOf_140 at hf
  refine g_iload_n X dX8_askOf_140 0 rfl ?_
  cases hf
  exact g_ireturn X dX8_askOf_141 hQ
set_option maxRecDepth 4000 in
theorem wBX8_askOf_133 {M : MT} {V : VT}  (X : Cx M mS V cX8_askOf 9 RX8 (some .int) 2) {q : RT Int32} (hQ : PI M mS V q) (k13 : Int32 → Int32 → Int32 → Int32 → aI → aJ → Option (RT Int32)) (hk13 : ∀ (x1 : Int32) (x2 : Int32) (x3 : Int32) (x4 : Int32)  (I : aI) (J : aJ), k13 x1 x2 x3 x4 I J = some q → Wg M mS V 9 I J 13 [(0, .ref (V.2.2 0)), (1, .int x1), (2, .int x2), (3, .int x3), (4, .int x4)] []) (x1 : Int32) (x2 : Int32) (x4 : Int32) (s0 : Int32)  (I : aI) (J : aJ) (hf : BX8_askOf_133  k13 x1 x2 x4 s0 I J = some q) : Wg M mS V 9 I J 133 [(0, .ref (V.2.2 0)), (1, .int x1), (2, .int x2), (4, .int x4)] [.int s0] := by
  unfold BX8_askOf_133 at hf
  refine g_istore_n X dX8_askOf_133 (by decide) [(3, .int s0), (0, .ref (V.2.2 0)), (1, .int x1), (2, .int x2), (4, .int x4)] rfl ?_
  refine g_iinc X dX8_askOf_134 4 rfl 1 rfl (by decide) [(4, .int (x4 + 1)), (3, .int s0), (0, .ref (V.2.2 0)), (1, .int x1), (2, .int x2)] rfl ?_
  refine g_goto X dX8_askOf_137 (tgt := 13) (by decide) ?_
  refine g_sub [2, 3, 4, 1, 0] rfl ?_
  exact hk13 x1 x2 s0 (x4 + 1)  I J hf
set_option maxRecDepth 4000 in
theorem wBX8_askOf_120 {M : MT} {V : VT}  (X : Cx M mS V cX8_askOf 9 RX8 (some .int) 2) {q : RT Int32} (hQ : PI M mS V q) (k13 : Int32 → Int32 → Int32 → Int32 → aI → aJ → Option (RT Int32)) (hk13 : ∀ (x1 : Int32) (x2 : Int32) (x3 : Int32) (x4 : Int32)  (I : aI) (J : aJ), k13 x1 x2 x3 x4 I J = some q → Wg M mS V 9 I J 13 [(0, .ref (V.2.2 0)), (1, .int x1), (2, .int x2), (3, .int x3), (4, .int x4)] []) (x1 : Int32) (x3 : Int32) (x4 : Int32) (x7 : Int32) (s0 : Int32)  (I : aI) (J : aJ) (hf : BX8_askOf_120  k13 x1 x3 x4 x7 s0 I J = some q) : Wg M mS V 9 I J 120 [(0, .ref (V.2.2 0)), (1, .int x1), (3, .int x3), (4, .int x4), (7, .int x7)] [.int s0] := by
  unfold BX8_askOf_120 at hf
  refine g_istore_n X dX8_askOf_120 (by decide) [(2, .int s0), (0, .ref (V.2.2 0)), (1, .int x1), (3, .int x3), (4, .int x4), (7, .int x7)] rfl ?_
  refine g_iload X dX8_askOf_121 5 rfl ?_
  refine g_iload_n X dX8_askOf_123 3 rfl ?_
  refine g_icmp_ge X dX8_askOf_124 (tgt := 132) (by decide) (fun hc9 => ?_) (fun hc9 => ?_)
  · rw [if_pos hc9] at hf
    refine g_iload_n X dX8_askOf_132 3 rfl ?_
    refine g_sub [1, 2, 0, 4] rfl ?_
    exact wBX8_askOf_133  X hQ k13 hk13 x1 s0 x4 x3  I J hf
  · rw [if_neg hc9] at hf
    refine g_iload X dX8_askOf_127 5 rfl ?_
    refine g_goto X dX8_askOf_129 (tgt := 133) (by decide) ?_
    refine g_sub [1, 2, 0, 4] rfl ?_
    exact wBX8_askOf_133  X hQ k13 hk13 x1 s0 x4 x7  I J hf
set_option maxRecDepth 4000 in
theorem wBX8_askOf_106 {M : MT} {V : VT}  (X : Cx M mS V cX8_askOf 9 RX8 (some .int) 2) {q : RT Int32} (hQ : PI M mS V q) (k13 : Int32 → Int32 → Int32 → Int32 → aI → aJ → Option (RT Int32)) (hk13 : ∀ (x1 : Int32) (x2 : Int32) (x3 : Int32) (x4 : Int32)  (I : aI) (J : aJ), k13 x1 x2 x3 x4 I J = some q → Wg M mS V 9 I J 13 [(0, .ref (V.2.2 0)), (1, .int x1), (2, .int x2), (3, .int x3), (4, .int x4)] []) (x1 : Int32) (x2 : Int32) (x3 : Int32) (x4 : Int32) (s0 : Int32)  (I : aI) (J : aJ) (hf : BX8_askOf_106  k13 x1 x2 x3 x4 s0 I J = some q) : Wg M mS V 9 I J 106 [(0, .ref (V.2.2 0)), (1, .int x1), (2, .int x2), (3, .int x3), (4, .int x4)] [.int s0] := by
  unfold BX8_askOf_106 at hf
  refine g_istore X dX8_askOf_106 (by decide) [(7, .int s0), (0, .ref (V.2.2 0)), (1, .int x1), (2, .int x2), (3, .int x3), (4, .int x4)] rfl ?_
  refine g_iload X dX8_askOf_108 0 rfl ?_
  refine g_iload_n X dX8_askOf_110 4 rfl ?_
  refine g_icmp_ge X dX8_askOf_111 (tgt := 119) (by decide) (fun hc8 => ?_) (fun hc8 => ?_)
  · rw [if_pos hc8] at hf
    refine g_iload_n X dX8_askOf_119 3 rfl ?_
    refine g_sub [1, 2, 4, 5, 0] rfl ?_
    exact wBX8_askOf_120  X hQ k13 hk13 x1 x3 x4 s0 x2  I J hf
  · rw [if_neg hc8] at hf
    refine g_iload X dX8_askOf_114 5 rfl ?_
    refine g_goto X dX8_askOf_116 (tgt := 120) (by decide) ?_
    refine g_sub [1, 2, 4, 5, 0] rfl ?_
    exact wBX8_askOf_120  X hQ k13 hk13 x1 x3 x4 s0 x4  I J hf
set_option maxRecDepth 4000 in
theorem wHX8_askOf_35 {M : MT} {V : VT}  (X : Cx M mS V cX8_askOf 9 RX8 (some .int) 2) {q : RT Int32} (hQ : PI M mS V q) (k13 : Int32 → Int32 → Int32 → Int32 → aI → aJ → Option (RT Int32)) (hk13 : ∀ (x1 : Int32) (x2 : Int32) (x3 : Int32) (x4 : Int32)  (I : aI) (J : aJ), k13 x1 x2 x3 x4 I J = some q → Wg M mS V 9 I J 13 [(0, .ref (V.2.2 0)), (1, .int x1), (2, .int x2), (3, .int x3), (4, .int x4)] []) (k35 : Int32 → Int32 → Int32 → Int32 → Int32 → Int32 → Int32 → aI → aJ → Option (RT Int32)) (hk35 : ∀ (x1 : Int32) (x2 : Int32) (x3 : Int32) (x4 : Int32) (x5 : Int32) (x6 : Int32) (x7 : Int32)  (I : aI) (J : aJ), k35 x1 x2 x3 x4 x5 x6 x7 I J = some q → Wg M mS V 9 I J 35 [(0, .ref (V.2.2 0)), (1, .int x1), (2, .int x2), (3, .int x3), (4, .int x4), (5, .int x5), (6, .int x6), (7, .int x7)] []) (x1 : Int32) (x2 : Int32) (x3 : Int32) (x4 : Int32) (x5 : Int32) (x6 : Int32) (x7 : Int32)  (I : aI) (J : aJ) (hf : HX8_askOf_35  k13 k35 x1 x2 x3 x4 x5 x6 x7 I J = some q) : Wg M mS V 9 I J 35 [(0, .ref (V.2.2 0)), (1, .int x1), (2, .int x2), (3, .int x3), (4, .int x4), (5, .int x5), (6, .int x6), (7, .int x7)] [] := by
  unfold HX8_askOf_35 at hf
  refine g_iload X dX8_askOf_35 7 rfl ?_
  refine g_aload_n X dX8_askOf_37 0 rfl ?_
  refine g_get X dX8_askOf_38 okM_0 cl8 3 (by decide) m_821 rfl ?_
  refine g_icmp_ge X dX8_askOf_41 (tgt := 92) (by decide) (fun hc4 => ?_) (fun hc4 => ?_)
  · rw [if_pos hc4] at hf
    refine g_iload X dX8_askOf_92 5 rfl ?_
    refine g_iload X dX8_askOf_94 6 rfl ?_
    refine g_icmp_le X dX8_askOf_96 (tgt := 104) (by decide) (fun hc5 => ?_) (fun hc5 => ?_)
    · rw [if_pos hc5] at hf
      refine g_iload X dX8_askOf_104 6 rfl ?_
      refine g_sub [0, 1, 2, 3, 4] rfl ?_
      exact wBX8_askOf_106  X hQ k13 hk13 x1 x2 x3 x4 x6  I J hf
    · rw [if_neg hc5] at hf
      refine g_iload X dX8_askOf_99 5 rfl ?_
      refine g_goto X dX8_askOf_101 (tgt := 106) (by decide) ?_
      refine g_sub [0, 1, 2, 3, 4] rfl ?_
      exact wBX8_askOf_106  X hQ k13 hk13 x1 x2 x3 x4 x5  I J hf
  · rw [if_neg hc4] at hf
    refine g_iload_n X dX8_askOf_44 1 rfl ?_
    refine g_iload X dX8_askOf_45 7 rfl ?_
    refine g_ishr X dX8_askOf_47 ?_
    refine g_iconst X dX8_askOf_48 (v := 1) rfl ?_
    refine g_iand X dX8_askOf_49 ?_
    refine g_istore X dX8_askOf_50 (by decide) [(8, .int ((x1 >>> (x7 &&& 31)) &&& 1)), (0, .ref (V.2.2 0)), (1, .int x1), (2, .int x2), (3, .int x3), (4, .int x4), (5, .int x5), (6, .int x6), (7, .int x7)] rfl ?_
    refine g_iload X dX8_askOf_52 6 rfl ?_
    refine g_iload X dX8_askOf_54 0 rfl ?_
    refine g_aload_n X dX8_askOf_56 1 rfl ?_
    refine g_iload X dX8_askOf_57 5 rfl ?_
    refine g_iload X dX8_askOf_59 8 rfl ?_
    obtain ⟨r6, I6, J6, hb6, hf⟩ := bnd_some hf
    refine g_callV X dX8_askOf_61 cw_X8_250 (k := 0) (As := [.int x4, .int x7]) (rcv okM_0 cl8) rfl rfl (Nat.le_of_ble_eq_true rfl) (by decide) (cX8_hearsAt_ok  M.2.1 V x4 x7  I J hb6) (kI ?_)
    refine g_imul X dX8_askOf_64 ?_
    refine g_iadd X dX8_askOf_65 ?_
    refine g_istore X dX8_askOf_66 (by decide) [(5, .int (x5 + (((x1 >>> (x7 &&& 31)) &&& 1) * r6))), (8, .int ((x1 >>> (x7 &&& 31)) &&& 1)), (0, .ref (V.2.2 0)), (1, .int x1), (2, .int x2), (3, .int x3), (4, .int x4), (6, .int x6), (7, .int x7)] rfl ?_
    refine g_iload X dX8_askOf_68 7 rfl ?_
    refine g_iload X dX8_askOf_70 1 rfl ?_
    refine g_iconst X dX8_askOf_72 (v := 1) rfl ?_
    refine g_aload_n X dX8_askOf_73 2 rfl ?_
    refine g_iload X dX8_askOf_74 6 rfl ?_
    refine g_iload X dX8_askOf_76 8 rfl ?_
    obtain ⟨r7, I7, J7, hb7, hf⟩ := bnd_some hf
    refine g_callV X dX8_askOf_78 cw_X8_250 (k := 0) (As := [.int x4, .int x7]) (rcv okM_0 cl8) rfl rfl (Nat.le_of_ble_eq_true rfl) (by decide) (cX8_hearsAt_ok  M.2.1 V x4 x7  I6 J6 hb7) (kI ?_)
    refine g_isub X dX8_askOf_81 ?_
    refine g_imul X dX8_askOf_82 ?_
    refine g_iadd X dX8_askOf_83 ?_
    refine g_istore X dX8_askOf_84 (by decide) [(6, .int (x6 + (((x1 >>> (x7 &&& 31)) &&& 1) * (1 - r7)))), (5, .int (x5 + (((x1 >>> (x7 &&& 31)) &&& 1) * r6))), (8, .int ((x1 >>> (x7 &&& 31)) &&& 1)), (0, .ref (V.2.2 0)), (1, .int x1), (2, .int x2), (3, .int x3), (4, .int x4), (7, .int x7)] rfl ?_
    refine g_iinc X dX8_askOf_86 8 rfl 1 rfl (by decide) [(7, .int (x7 + 1)), (6, .int (x6 + (((x1 >>> (x7 &&& 31)) &&& 1) * (1 - r7)))), (5, .int (x5 + (((x1 >>> (x7 &&& 31)) &&& 1) * r6))), (8, .int ((x1 >>> (x7 &&& 31)) &&& 1)), (0, .ref (V.2.2 0)), (1, .int x1), (2, .int x2), (3, .int x3), (4, .int x4)] rfl ?_
    refine g_goto X dX8_askOf_89 (tgt := 35) (by decide) ?_
    refine g_sub [4, 5, 6, 7, 8, 2, 1, 0] rfl ?_
    exact hk35 x1 x2 x3 x4 (x5 + (((x1 >>> (x7 &&& 31)) &&& 1) * r6)) (x6 + (((x1 >>> (x7 &&& 31)) &&& 1) * (1 - r7))) (x7 + 1)  I7 J7 hf
set_option maxRecDepth 4000 in
theorem wLX8_askOf_35 {M : MT} {V : VT}  (X : Cx M mS V cX8_askOf 9 RX8 (some .int) 2) {q : RT Int32} (hQ : PI M mS V q) (k13 : Int32 → Int32 → Int32 → Int32 → aI → aJ → Option (RT Int32)) (hk13 : ∀ (x1 : Int32) (x2 : Int32) (x3 : Int32) (x4 : Int32)  (I : aI) (J : aJ), k13 x1 x2 x3 x4 I J = some q → Wg M mS V 9 I J 13 [(0, .ref (V.2.2 0)), (1, .int x1), (2, .int x2), (3, .int x3), (4, .int x4)] []) : ∀ (n : Nat) (x1 : Int32) (x2 : Int32) (x3 : Int32) (x4 : Int32) (x5 : Int32) (x6 : Int32) (x7 : Int32)  (I : aI) (J : aJ), LX8_askOf_35  k13 n x1 x2 x3 x4 x5 x6 x7 I J = some q → Wg M mS V 9 I J 35 [(0, .ref (V.2.2 0)), (1, .int x1), (2, .int x2), (3, .int x3), (4, .int x4), (5, .int x5), (6, .int x6), (7, .int x7)] [] := by
  intro n
  induction n with
  | zero => intro x1 x2 x3 x4 x5 x6 x7  I J hf; cases hf
  | succ n ih => intro x1 x2 x3 x4 x5 x6 x7  I J hf; exact wHX8_askOf_35  X hQ k13 hk13 (LX8_askOf_35  k13 n) ih x1 x2 x3 x4 x5 x6 x7  I J hf
set_option maxRecDepth 4000 in
theorem wHX8_askOf_13 {M : MT} {V : VT}  (X : Cx M mS V cX8_askOf 9 RX8 (some .int) 2) {q : RT Int32} (hQ : PI M mS V q) (k13 : Int32 → Int32 → Int32 → Int32 → aI → aJ → Option (RT Int32)) (hk13 : ∀ (x1 : Int32) (x2 : Int32) (x3 : Int32) (x4 : Int32)  (I : aI) (J : aJ), k13 x1 x2 x3 x4 I J = some q → Wg M mS V 9 I J 13 [(0, .ref (V.2.2 0)), (1, .int x1), (2, .int x2), (3, .int x3), (4, .int x4)] []) (x1 : Int32) (x2 : Int32) (x3 : Int32) (x4 : Int32)  (I : aI) (J : aJ) (hf : HX8_askOf_13  k13 x1 x2 x3 x4 I J = some q) : Wg M mS V 9 I J 13 [(0, .ref (V.2.2 0)), (1, .int x1), (2, .int x2), (3, .int x3), (4, .int x4)] [] := by
  unfold HX8_askOf_13 at hf
  refine g_iload X dX8_askOf_13 4 rfl ?_
  refine g_aload_n X dX8_askOf_15 0 rfl ?_
  refine g_get X dX8_askOf_16 okM_0 cl8 5 (by decide) m_823 rfl ?_
  refine g_icmp_ge X dX8_askOf_19 (tgt := 140) (by decide) (fun hc2 => ?_) (fun hc2 => ?_)
  · rw [if_pos hc2] at hf
    refine g_sub [2] rfl ?_
    exact wBX8_askOf_140  X hQ  x2  I J hf
  · rw [if_neg hc2] at hf
    refine g_iload_n X dX8_askOf_22 1 rfl ?_
    refine g_if_eq X dX8_askOf_23 (tgt := 140) (by decide) (fun hc3 => ?_) (fun hc3 => ?_)
    · rw [if_pos hc3] at hf
      refine g_sub [2] rfl ?_
      exact wBX8_askOf_140  X hQ  x2  I J hf
    · rw [if_neg hc3] at hf
      refine g_iconst X dX8_askOf_26 (v := 0) rfl ?_
      refine g_istore X dX8_askOf_27 (by decide) [(5, .int 0), (0, .ref (V.2.2 0)), (1, .int x1), (2, .int x2), (3, .int x3), (4, .int x4)] rfl ?_
      refine g_iconst X dX8_askOf_29 (v := 0) rfl ?_
      refine g_istore X dX8_askOf_30 (by decide) [(6, .int 0), (5, .int 0), (0, .ref (V.2.2 0)), (1, .int x1), (2, .int x2), (3, .int x3), (4, .int x4)] rfl ?_
      refine g_iconst X dX8_askOf_32 (v := 0) rfl ?_
      refine g_istore X dX8_askOf_33 (by decide) [(7, .int 0), (6, .int 0), (5, .int 0), (0, .ref (V.2.2 0)), (1, .int x1), (2, .int x2), (3, .int x3), (4, .int x4)] rfl ?_
      refine g_sub [3, 4, 5, 6, 7, 2, 1, 0] rfl ?_
      exact wLX8_askOf_35  X hQ k13 hk13 128 x1 x2 x3 x4 0 0 0  I J hf
set_option maxRecDepth 4000 in
theorem wLX8_askOf_13 {M : MT} {V : VT}  (X : Cx M mS V cX8_askOf 9 RX8 (some .int) 2) {q : RT Int32} (hQ : PI M mS V q)  : ∀ (n : Nat) (x1 : Int32) (x2 : Int32) (x3 : Int32) (x4 : Int32)  (I : aI) (J : aJ), LX8_askOf_13   n x1 x2 x3 x4 I J = some q → Wg M mS V 9 I J 13 [(0, .ref (V.2.2 0)), (1, .int x1), (2, .int x2), (3, .int x3), (4, .int x4)] [] := by
  intro n
  induction n with
  | zero => intro x1 x2 x3 x4  I J hf; cases hf
  | succ n ih => intro x1 x2 x3 x4  I J hf; exact wHX8_askOf_13  X hQ  (LX8_askOf_13   n) ih x1 x2 x3 x4  I J hf
set_option maxRecDepth 4000 in
theorem wX8_askOf {M : MT} {V : VT} (X : Cx M mS V cX8_askOf 9 RX8 (some .int) 2) {q : RT Int32} (hQ : PI M mS V q)   (I : aI) (J : aJ) (hf : fX8_askOf  I J = some q) : Wg M mS V 9 I J 0 [(0, .ref (V.2.2 0))] [] := by
  unfold fX8_askOf at hf
  refine g_aload_n X dX8_askOf_0 0 rfl ?_
  obtain ⟨r1, I1, J1, hb1, hf⟩ := bnd_some hf
  refine g_callV X dX8_askOf_1 cw_X8_253 (k := 0) (As := []) (rcv okM_0 cl8) rfl rfl (Nat.le_of_ble_eq_true rfl) (by decide) (cX8_placesOf_ok  M.2.1 V   I J hb1) (kI ?_)
  refine g_istore_n X dX8_askOf_4 (by decide) [(1, .int r1), (0, .ref (V.2.2 0))] rfl ?_
  refine g_iconst X dX8_askOf_5 (v := (-1)) rfl ?_
  refine g_istore_n X dX8_askOf_6 (by decide) [(2, .int (-1)), (1, .int r1), (0, .ref (V.2.2 0))] rfl ?_
  refine g_bipush X dX8_askOf_7 (v := 7) rfl ?_
  refine g_istore_n X dX8_askOf_9 (by decide) [(3, .int 7), (2, .int (-1)), (1, .int r1), (0, .ref (V.2.2 0))] rfl ?_
  refine g_iconst X dX8_askOf_10 (v := 0) rfl ?_
  refine g_istore X dX8_askOf_11 (by decide) [(4, .int 0), (3, .int 7), (2, .int (-1)), (1, .int r1), (0, .ref (V.2.2 0))] rfl ?_
  refine g_sub [4, 3, 2, 1, 0] rfl ?_
  exact wLX8_askOf_13  X hQ  128 r1 (-1) 7 0  I1 J1 hf
set_option maxRecDepth 4000 in
theorem cX8_askOf_ok (l : Launch) (V : VT)   (I : aI) (J : aJ) {q : RT Int32} (hf : fX8_askOf  I J = some q) : Met l yX8_askOf (.code yX8_askOf cX8_askOf 9 (some .int) :: GG) (rmD 2) (va_Pc [.ref (V.2.2 0)] (cQ mS V I J)) (QI mS V q) 0 0 (vAd mS V) :=
  met_I (by decide +kernel) rfl (Nat.le_of_ble_eq_true rfl) (fun _ _ X hQ => wX8_askOf X hQ   I J hf)
-- X8_ask
set_option maxRecDepth 4000 in
theorem wBX8_ask_16 {M : MT} {V : VT}  (X : Cx M mS V cX8_ask 1 RX8 (some .int) 3) {q : RT Int32} (hQ : PI M mS V q)  (s0 : Int32)  (I : aI) (J : aJ) (hf : BX8_ask_16   s0 I J = some q) : Wg M mS V 1 I J 16 [] [.int s0] := by
  unfold BX8_ask_16 at hf
  cases hf
  exact g_ireturn X dX8_ask_16 hQ
set_option maxRecDepth 4000 in
theorem wX8_ask {M : MT} {V : VT} (X : Cx M mS V cX8_ask 1 RX8 (some .int) 3) {q : RT Int32} (hQ : PI M mS V q)   (I : aI) (J : aJ) (hf : fX8_ask  I J = some q) : Wg M mS V 1 I J 0 [(0, .ref (V.2.2 0))] [] := by
  unfold fX8_ask at hf
  refine g_aload_n X dX8_ask_0 0 rfl ?_
  obtain ⟨r1, I1, J1, hb1, hf⟩ := bnd_some hf
  refine g_callV X dX8_ask_1 cw_X8_229 (k := 0) (As := []) (rcv okM_0 cl8) rfl rfl (Nat.le_of_ble_eq_true rfl) (by decide) (cX8_lacks_ok  M.2.1 V   I J hb1) (kI ?_)
  refine g_if_eq X dX8_ask_4 (tgt := 12) (by decide) (fun hc2 => ?_) (fun hc2 => ?_)
  · rw [if_pos hc2] at hf
    refine g_aload_n X dX8_ask_12 0 rfl ?_
    obtain ⟨r3, I3, J3, hb3, hf⟩ := bnd_some hf
    refine g_callV X dX8_ask_13 cw_X8_256 (k := 0) (As := []) (rcv okM_0 cl8) rfl rfl (Nat.le_of_ble_eq_true rfl) (by decide) (cX8_askOf_ok  M.2.1 V   I1 J1 hb3) (kI ?_)
    refine g_sub [] rfl ?_
    exact wBX8_ask_16  X hQ  r3  I3 J3 hf
  · rw [if_neg hc2] at hf
    refine g_bipush X dX8_ask_7 (v := (-103)) rfl ?_
    refine g_goto X dX8_ask_9 (tgt := 16) (by decide) ?_
    refine g_sub [] rfl ?_
    exact wBX8_ask_16  X hQ  (-103)  I1 J1 hf
set_option maxRecDepth 4000 in
theorem cX8_ask_ok (l : Launch) (V : VT)   (I : aI) (J : aJ) {q : RT Int32} (hf : fX8_ask  I J = some q) : Met l yX8_ask (.code yX8_ask cX8_ask 1 (some .int) :: GG) (rmD 3) (va_Pc [.ref (V.2.2 0)] (cQ mS V I J)) (QI mS V q) 0 0 (vAd mS V) :=
  met_I (by decide +kernel) rfl (Nat.le_of_ble_eq_true rfl) (fun _ _ X hQ => wX8_ask X hQ   I J hf)
-- X8_copy
set_option maxRecDepth 4000 in
theorem wHX8_copy_2 {M : MT} {V : VT}  (X : Cx M mS V cX8_copy 3 RX8 none 0) {q : RT Unit} (hQ : PV M mS V q) (k2 : Nat → Nat → Nat → Nat → Int32 → aI → aJ → Option (RT Unit)) (hk2 : ∀ (e0 : Nat) (ne0 : Nat) (e1 : Nat) (ne1 : Nat) (x2 : Int32) (he0 : okc mS e0 9 ne0) (he1 : okc mS e1 9 ne1) (I : aI) (J : aJ), k2 e0 ne0 e1 ne1 x2 I J = some q → Wg M mS V 3 I J 2 [(0, .ref (V.2.2 e0)), (1, .ref (V.2.2 e1)), (2, .int x2)] []) (e0 : Nat) (ne0 : Nat) (e1 : Nat) (ne1 : Nat) (x2 : Int32) (he0 : okc mS e0 9 ne0) (he1 : okc mS e1 9 ne1) (I : aI) (J : aJ) (hf : HX8_copy_2  k2 e0 ne0 e1 ne1 x2 I J = some q) : Wg M mS V 3 I J 2 [(0, .ref (V.2.2 e0)), (1, .ref (V.2.2 e1)), (2, .int x2)] [] := by
  unfold HX8_copy_2 at hf
  refine g_iload_n X dX8_copy_2 2 rfl ?_
  refine g_aload_n X dX8_copy_3 0 rfl ?_
  refine g_alenI X dX8_copy_4 he0 ?_
  refine g_icmp_ge X dX8_copy_5 (tgt := 20) (by decide) (fun hc1 => ?_) (fun hc1 => ?_)
  · rw [if_pos hc1] at hf
    cases hf
    exact g_vreturn X dX8_copy_20 hQ
  · rw [if_neg hc1] at hf
    refine g_aload_n X dX8_copy_8 1 rfl ?_
    refine g_iload_n X dX8_copy_9 2 rfl ?_
    refine g_aload_n X dX8_copy_10 0 rfl ?_
    refine g_iload_n X dX8_copy_11 2 rfl ?_
    obtain ⟨hg2, hf⟩ := gd_some hf
    refine g_iaload X dX8_copy_12 he0 hg2 ?_
    obtain ⟨hg3, hf⟩ := gd_some hf
    refine g_iastore X dX8_copy_13 he1 hg3 ?_
    refine g_iinc X dX8_copy_14 2 rfl 1 rfl (by decide) [(2, .int (x2 + 1)), (0, .ref (V.2.2 e0)), (1, .ref (V.2.2 e1))] rfl ?_
    refine g_goto X dX8_copy_17 (tgt := 2) (by decide) ?_
    refine g_sub [1, 2, 0] rfl ?_
    exact hk2 e0 ne0 e1 ne1 (x2 + 1) he0 he1 (pI I e1 (Int32.toNatClampNeg x2) (I e0 (Int32.toNatClampNeg x2))) J hf
set_option maxRecDepth 4000 in
theorem wLX8_copy_2 {M : MT} {V : VT}  (X : Cx M mS V cX8_copy 3 RX8 none 0) {q : RT Unit} (hQ : PV M mS V q)  : ∀ (n : Nat) (e0 : Nat) (ne0 : Nat) (e1 : Nat) (ne1 : Nat) (x2 : Int32) (he0 : okc mS e0 9 ne0) (he1 : okc mS e1 9 ne1) (I : aI) (J : aJ), LX8_copy_2   n e0 ne0 e1 ne1 x2 I J = some q → Wg M mS V 3 I J 2 [(0, .ref (V.2.2 e0)), (1, .ref (V.2.2 e1)), (2, .int x2)] [] := by
  intro n
  induction n with
  | zero => intro e0 ne0 e1 ne1 x2 he0 he1 I J hf; cases hf
  | succ n ih => intro e0 ne0 e1 ne1 x2 he0 he1 I J hf; exact wHX8_copy_2  X hQ  (LX8_copy_2   n) ih e0 ne0 e1 ne1 x2 he0 he1 I J hf
set_option maxRecDepth 4000 in
theorem wX8_copy {M : MT} {V : VT} (X : Cx M mS V cX8_copy 3 RX8 none 0) {q : RT Unit} (hQ : PV M mS V q) (e0 n0 : Nat) (e1 n1 : Nat) (h0 : okc mS e0 9 n0) (h1 : okc mS e1 9 n1) (I : aI) (J : aJ) (hf : fX8_copy e0 n0 e1 n1 I J = some q) : Wg M mS V 3 I J 0 [(0, .ref (V.2.2 e0)), (1, .ref (V.2.2 e1))] [] := by
  unfold fX8_copy at hf
  refine g_iconst X dX8_copy_0 (v := 0) rfl ?_
  refine g_istore_n X dX8_copy_1 (by decide) [(2, .int 0), (0, .ref (V.2.2 e0)), (1, .ref (V.2.2 e1))] rfl ?_
  refine g_sub [1, 2, 0] rfl ?_
  exact wLX8_copy_2  X hQ  128 e0 n0 e1 n1 0 h0 h1 I J hf
set_option maxRecDepth 4000 in
theorem cX8_copy_ok (l : Launch) (V : VT) (e0 n0 : Nat) (e1 n1 : Nat) (h0 : okc mS e0 9 n0) (h1 : okc mS e1 9 n1) (I : aI) (J : aJ) {q : RT Unit} (hf : fX8_copy e0 n0 e1 n1 I J = some q) : Met l yX8_copy (.code yX8_copy cX8_copy 3 none :: GG) (rmD 0) (va_Pc [.ref (V.2.2 e0), .ref (V.2.2 e1)] (cQ mS V I J)) (QV mS V q) 0 0 (vAd mS V) :=
  met_V (by decide +kernel) rfl (Nat.le_of_ble_eq_true rfl) (fun _ _ X hQ => wX8_copy X hQ e0 n0 e1 n1 h0 h1 I J hf)
-- X8_begin
set_option maxRecDepth 4000 in
theorem wX8_begin {M : MT} {V : VT} (X : Cx M mS V cX8_begin 1 RX8 none 1) {q : RT Unit} (hQ : PV M mS V q)   (I : aI) (J : aJ) (hf : fX8_begin  I J = some q) : Wg M mS V 1 I J 0 [(0, .ref (V.2.2 0))] [] := by
  unfold fX8_begin at hf
  refine g_aload_n X dX8_begin_0 0 rfl ?_
  refine g_get X dX8_begin_1 okM_0 cl8 15 (by decide) m_833 rfl ?_
  refine g_aload_n X dX8_begin_4 0 rfl ?_
  refine g_get X dX8_begin_5 okM_0 cl8 18 (by decide) m_836 rfl ?_
  obtain ⟨r1, I1, J1, hb1, hf⟩ := bnd_some hf
  refine g_callS X dX8_begin_8 sw_X8_155 (As := [.ref (V.2.2 8), .ref (V.2.2 11)]) rfl rfl (Nat.le_of_ble_eq_true rfl) (by decide) (cX8_copy_ok  M.2.1 V 8 6 11 6 okM_8 okM_11 I J hb1) (kV ?_)
  refine g_aload_n X dX8_begin_11 0 rfl ?_
  refine g_get X dX8_begin_12 okM_0 cl8 16 (by decide) m_834 rfl ?_
  refine g_aload_n X dX8_begin_15 0 rfl ?_
  refine g_get X dX8_begin_16 okM_0 cl8 19 (by decide) m_837 rfl ?_
  obtain ⟨r2, I2, J2, hb2, hf⟩ := bnd_some hf
  refine g_callS X dX8_begin_19 sw_X8_155 (As := [.ref (V.2.2 9), .ref (V.2.2 12)]) rfl rfl (Nat.le_of_ble_eq_true rfl) (by decide) (cX8_copy_ok  M.2.1 V 9 6 12 6 okM_9 okM_12 I1 J1 hb2) (kV ?_)
  cases hf
  exact g_vreturn X dX8_begin_22 hQ
set_option maxRecDepth 4000 in
theorem cX8_begin_ok (l : Launch) (V : VT)   (I : aI) (J : aJ) {q : RT Unit} (hf : fX8_begin  I J = some q) : Met l yX8_begin (.code yX8_begin cX8_begin 1 none :: GG) (rmD 1) (va_Pc [.ref (V.2.2 0)] (cQ mS V I J)) (QV mS V q) 0 0 (vAd mS V) :=
  met_V (by decide +kernel) rfl (Nat.le_of_ble_eq_true rfl) (fun _ _ X hQ => wX8_begin X hQ   I J hf)
-- X8_blank
set_option maxRecDepth 4000 in
theorem wX8_blank {M : MT} {V : VT} (X : Cx M mS V cX8_blank 2 RX8 (some .int) 0) {q : RT Int32} (hQ : PI M mS V q)   (I : aI) (J : aJ) (hf : fX8_blank  I J = some q) : Wg M mS V 2 I J 0 [(0, .ref (V.2.2 0))] [] := by
  unfold fX8_blank at hf
  refine g_aload_n X dX8_blank_0 0 rfl ?_
  refine g_get X dX8_blank_1 okM_0 cl8 1 (by decide) m_819 rfl ?_
  refine g_istore_n X dX8_blank_4 (by decide) [(1, .int (I 0 1)), (0, .ref (V.2.2 0))] rfl ?_
  refine g_aload_n X dX8_blank_5 1 rfl ?_
  refine g_iconst X dX8_blank_6 (v := 0) rfl ?_
  refine g_putI X dX8_blank_7 okM_0 cl8 1 (by decide) m_819 rfl .int rfl rfl rfl (Nat.le_of_ble_eq_true rfl) (fun _ _ => rfl) ?_
  refine g_iload_n X dX8_blank_10 0 rfl ?_
  cases hf
  exact g_ireturn X dX8_blank_11 hQ
set_option maxRecDepth 4000 in
theorem cX8_blank_ok (l : Launch) (V : VT)   (I : aI) (J : aJ) {q : RT Int32} (hf : fX8_blank  I J = some q) : Met l yX8_blank (.code yX8_blank cX8_blank 2 (some .int) :: GG) (rmD 0) (va_Pc [.ref (V.2.2 0)] (cQ mS V I J)) (QI mS V q) 0 0 (vAd mS V) :=
  met_I (by decide +kernel) rfl (Nat.le_of_ble_eq_true rfl) (fun _ _ X hQ => wX8_blank X hQ   I J hf)
-- X8_call
set_option maxRecDepth 4000 in
theorem wBX8_call_48 {M : MT} {V : VT}  (X : Cx M mS V cX8_call 6 RX8 (some .int) 2) {q : RT Int32} (hQ : PI M mS V q)    (I : aI) (J : aJ) (hf : BX8_call_48    I J = some q) : Wg M mS V 6 I J 48 [] [] := by
  unfold BX8_call_48 at hf
  refine g_bipush X dX8_call_48 (v := (-102)) rfl ?_
  cases hf
  exact g_ireturn X dX8_call_50 hQ
set_option maxRecDepth 4000 in
theorem wX8_call {M : MT} {V : VT} (X : Cx M mS V cX8_call 6 RX8 (some .int) 2) {q : RT Int32} (hQ : PI M mS V q) (x1 : Int32) (x2 : Int32) (x3 : Int32) (x4 : Int32)  (I : aI) (J : aJ) (hf : fX8_call x1 x2 x3 x4 I J = some q) : Wg M mS V 6 I J 0 [(0, .ref (V.2.2 0)), (1, .int x1), (2, .int x2), (3, .int x3), (4, .int x4)] [] := by
  unfold fX8_call at hf
  refine g_aload_n X dX8_call_0 0 rfl ?_
  refine g_iload_n X dX8_call_1 1 rfl ?_
  obtain ⟨r1, I1, J1, hb1, hf⟩ := bnd_some hf
  refine g_callV X dX8_call_2 cw_X8_175 (k := 0) (As := [.int x1]) (rcv okM_0 cl8) rfl rfl (Nat.le_of_ble_eq_true rfl) (by decide) (cX8_isPerson_ok  M.2.1 V x1  I J hb1) (kI ?_)
  refine g_if_ne X dX8_call_5 (tgt := 11) (by decide) (fun hc2 => ?_) (fun hc2 => ?_)
  · rw [if_neg hc2] at hf
    refine g_iload_n X dX8_call_11 2 rfl ?_
    refine g_i2l X dX8_call_12 ?_
    refine g_lconst X dX8_call_13 (v := 0) rfl ?_
    refine g_ldc2 X dX8_call_14 m_1031 ?_
    obtain ⟨r3, I3, J3, hb3, hf⟩ := bnd_some hf
    refine g_callS X dX8_call_17 sw_X8_92 (As := [.long (Int32.toInt64 x2), .long 0, .long 4]) rfl rfl (Nat.le_of_ble_eq_true rfl) (by decide) (cX8_in_ok  M.2.1 V (Int32.toInt64 x2) 0 4  I1 J1 hb3) (kI ?_)
    refine g_if_eq X dX8_call_20 (tgt := 48) (by decide) (fun hc4 => ?_) (fun hc4 => ?_)
    · rw [if_pos hc4] at hf
      refine g_sub [] rfl ?_
      exact wBX8_call_48  X hQ    I3 J3 hf
    · rw [if_neg hc4] at hf
      refine g_iload_n X dX8_call_23 3 rfl ?_
      refine g_i2l X dX8_call_24 ?_
      refine g_lconst X dX8_call_25 (v := 0) rfl ?_
      refine g_ldc2 X dX8_call_26 m_1096 ?_
      obtain ⟨r5, I5, J5, hb5, hf⟩ := bnd_some hf
      refine g_callS X dX8_call_29 sw_X8_92 (As := [.long (Int32.toInt64 x3), .long 0, .long 9]) rfl rfl (Nat.le_of_ble_eq_true rfl) (by decide) (cX8_in_ok  M.2.1 V (Int32.toInt64 x3) 0 9  I3 J3 hb5) (kI ?_)
      refine g_if_eq X dX8_call_32 (tgt := 48) (by decide) (fun hc6 => ?_) (fun hc6 => ?_)
      · rw [if_pos hc6] at hf
        refine g_sub [] rfl ?_
        exact wBX8_call_48  X hQ    I5 J5 hf
      · rw [if_neg hc6] at hf
        refine g_iload X dX8_call_35 4 rfl ?_
        refine g_i2l X dX8_call_37 ?_
        refine g_lconst X dX8_call_38 (v := 0) rfl ?_
        refine g_ldc2 X dX8_call_39 m_1096 ?_
        obtain ⟨r7, I7, J7, hb7, hf⟩ := bnd_some hf
        refine g_callS X dX8_call_42 sw_X8_92 (As := [.long (Int32.toInt64 x4), .long 0, .long 9]) rfl rfl (Nat.le_of_ble_eq_true rfl) (by decide) (cX8_in_ok  M.2.1 V (Int32.toInt64 x4) 0 9  I5 J5 hb7) (kI ?_)
        refine g_if_ne X dX8_call_45 (tgt := 51) (by decide) (fun hc8 => ?_) (fun hc8 => ?_)
        · rw [if_neg hc8] at hf
          refine g_aload_n X dX8_call_51 0 rfl ?_
          refine g_get X dX8_call_52 okM_0 cl8 11 (by decide) m_829 rfl ?_
          refine g_iload_n X dX8_call_55 1 rfl ?_
          obtain ⟨hg9, hf⟩ := gd_some hf
          refine g_iaload X dX8_call_56 okM_4 hg9 ?_
          refine g_istore X dX8_call_57 (by decide) [(5, .int (I7 4 (Int32.toNatClampNeg x1))), (0, .ref (V.2.2 0)), (1, .int x1), (2, .int x2), (3, .int x3), (4, .int x4)] rfl ?_
          refine g_aload_n X dX8_call_59 1 rfl ?_
          refine g_get X dX8_call_60 okM_0 cl8 11 (by decide) m_829 rfl ?_
          refine g_iload_n X dX8_call_63 2 rfl ?_
          refine g_iload_n X dX8_call_64 3 rfl ?_
          refine g_iastore X dX8_call_65 okM_4 hg9 ?_
          refine g_aload_n X dX8_call_66 1 rfl ?_
          refine g_get X dX8_call_67 okM_0 cl8 13 (by decide) m_831 rfl ?_
          refine g_iload_n X dX8_call_70 2 rfl ?_
          refine g_iload_n X dX8_call_71 4 rfl ?_
          refine g_iastore X dX8_call_72 okM_6 hg9 ?_
          refine g_aload_n X dX8_call_73 1 rfl ?_
          refine g_get X dX8_call_74 okM_0 cl8 14 (by decide) m_832 rfl ?_
          refine g_iload_n X dX8_call_77 2 rfl ?_
          refine g_iload X dX8_call_78 5 rfl ?_
          refine g_iastore X dX8_call_80 okM_7 hg9 ?_
          refine g_aload_n X dX8_call_81 1 rfl ?_
          refine g_get X dX8_call_82 okM_0 cl8 15 (by decide) m_833 rfl ?_
          refine g_iload_n X dX8_call_85 2 rfl ?_
          refine g_iconst X dX8_call_86 (v := 0) rfl ?_
          refine g_iastore X dX8_call_87 okM_8 hg9 ?_
          refine g_aload_n X dX8_call_88 1 rfl ?_
          refine g_get X dX8_call_89 okM_0 cl8 16 (by decide) m_834 rfl ?_
          refine g_iload_n X dX8_call_92 2 rfl ?_
          refine g_iconst X dX8_call_93 (v := 0) rfl ?_
          refine g_iastore X dX8_call_94 okM_9 hg9 ?_
          refine g_iload X dX8_call_95 0 rfl ?_
          cases hf
          exact g_ireturn X dX8_call_97 hQ
        · rw [if_pos hc8] at hf
          refine g_sub [] rfl ?_
          exact wBX8_call_48  X hQ    I7 J7 hf
  · rw [if_pos hc2] at hf
    refine g_bipush X dX8_call_8 (v := (-101)) rfl ?_
    cases hf
    exact g_ireturn X dX8_call_10 hQ
set_option maxRecDepth 4000 in
theorem cX8_call_ok (l : Launch) (V : VT) (x1 : Int32) (x2 : Int32) (x3 : Int32) (x4 : Int32)  (I : aI) (J : aJ) {q : RT Int32} (hf : fX8_call x1 x2 x3 x4 I J = some q) : Met l yX8_call (.code yX8_call cX8_call 6 (some .int) :: GG) (rmD 2) (va_Pc [.ref (V.2.2 0), .int x1, .int x2, .int x3, .int x4] (cQ mS V I J)) (QI mS V q) 0 0 (vAd mS V) :=
  met_I (by decide +kernel) rfl (Nat.le_of_ble_eq_true rfl) (fun _ _ X hQ => wX8_call X hQ x1 x2 x3 x4  I J hf)
-- X8_isNext
set_option maxRecDepth 4000 in
theorem wBX8_isNext_20 {M : MT} {V : VT}  (X : Cx M mS V cX8_isNext 3 RX8 (some .boolean) 0) {q : RT Int32} (hQ : PI M mS V q)  (s0 : Int32)  (I : aI) (J : aJ) (hf : BX8_isNext_20   s0 I J = some q) : Wg M mS V 3 I J 20 [] [.int s0] := by
  unfold BX8_isNext_20 at hf
  obtain ⟨hg3, hf⟩ := gd_some hf
  cases hf
  exact g_zreturn X dX8_isNext_20 (of_decide_eq_true hg3) hQ
set_option maxRecDepth 4000 in
theorem wX8_isNext {M : MT} {V : VT} (X : Cx M mS V cX8_isNext 3 RX8 (some .boolean) 0) {q : RT Int32} (hQ : PI M mS V q) (x1 : Int32) (x2 : Int32)  (I : aI) (J : aJ) (hf : fX8_isNext x1 x2 I J = some q) : Wg M mS V 3 I J 0 [(0, .ref (V.2.2 0)), (1, .int x1), (2, .int x2)] [] := by
  unfold fX8_isNext at hf
  refine g_aload_n X dX8_isNext_0 0 rfl ?_
  refine g_get X dX8_isNext_1 okM_0 cl8 17 (by decide) m_835 rfl ?_
  refine g_bipush X dX8_isNext_4 (v := 6) rfl ?_
  refine g_iload_n X dX8_isNext_6 1 rfl ?_
  refine g_imul X dX8_isNext_7 ?_
  refine g_iload_n X dX8_isNext_8 2 rfl ?_
  refine g_iadd X dX8_isNext_9 ?_
  obtain ⟨hg1, hf⟩ := gd_some hf
  refine g_iaload X dX8_isNext_10 okM_10 hg1 ?_
  refine g_iconst X dX8_isNext_11 (v := 2) rfl ?_
  refine g_icmp_ge X dX8_isNext_12 (tgt := 19) (by decide) (fun hc2 => ?_) (fun hc2 => ?_)
  · rw [if_pos hc2] at hf
    refine g_iconst X dX8_isNext_19 (v := 0) rfl ?_
    refine g_sub [] rfl ?_
    exact wBX8_isNext_20  X hQ  0  I J hf
  · rw [if_neg hc2] at hf
    refine g_iconst X dX8_isNext_15 (v := 1) rfl ?_
    refine g_goto X dX8_isNext_16 (tgt := 20) (by decide) ?_
    refine g_sub [] rfl ?_
    exact wBX8_isNext_20  X hQ  1  I J hf
set_option maxRecDepth 4000 in
theorem cX8_isNext_ok (l : Launch) (V : VT) (x1 : Int32) (x2 : Int32)  (I : aI) (J : aJ) {q : RT Int32} (hf : fX8_isNext x1 x2 I J = some q) : Met l yX8_isNext (.code yX8_isNext cX8_isNext 3 (some .boolean) :: GG) (rmD 0) (va_Pc [.ref (V.2.2 0), .int x1, .int x2] (cQ mS V I J)) (QI mS V q) 0 0 (vAd mS V) :=
  met_I (by decide +kernel) rfl (Nat.le_of_ble_eq_true rfl) (fun _ _ X hQ => wX8_isNext X hQ x1 x2  I J hf)
-- X8_canCatch
set_option maxRecDepth 4000 in
theorem wBX8_canCatch_49 {M : MT} {V : VT}  (X : Cx M mS V cX8_canCatch 5 RX8 (some .boolean) 1) {q : RT Int32} (hQ : PI M mS V q) (k5 : Int32 → Int32 → Int32 → Int32 → aI → aJ → Option (RT Int32)) (hk5 : ∀ (x1 : Int32) (x2 : Int32) (x3 : Int32) (x4 : Int32)  (I : aI) (J : aJ), k5 x1 x2 x3 x4 I J = some q → Wg M mS V 5 I J 5 [(0, .ref (V.2.2 0)), (1, .int x1), (2, .int x2), (3, .int x3), (4, .int x4)] []) (x1 : Int32) (x2 : Int32) (x4 : Int32) (s0 : Int32)  (I : aI) (J : aJ) (hf : BX8_canCatch_49  k5 x1 x2 x4 s0 I J = some q) : Wg M mS V 5 I J 49 [(0, .ref (V.2.2 0)), (1, .int x1), (2, .int x2), (4, .int x4)] [.int s0] := by
  unfold BX8_canCatch_49 at hf
  refine g_istore_n X dX8_canCatch_49 (by decide) [(3, .int s0), (0, .ref (V.2.2 0)), (1, .int x1), (2, .int x2), (4, .int x4)] rfl ?_
  refine g_iinc X dX8_canCatch_50 4 rfl 1 rfl (by decide) [(4, .int (x4 + 1)), (3, .int s0), (0, .ref (V.2.2 0)), (1, .int x1), (2, .int x2)] rfl ?_
  refine g_goto X dX8_canCatch_53 (tgt := 5) (by decide) ?_
  refine g_sub [2, 3, 4, 1, 0] rfl ?_
  exact hk5 x1 x2 s0 (x4 + 1)  I J hf
set_option maxRecDepth 4000 in
theorem wBX8_canCatch_44 {M : MT} {V : VT}  (X : Cx M mS V cX8_canCatch 5 RX8 (some .boolean) 1) {q : RT Int32} (hQ : PI M mS V q) (k5 : Int32 → Int32 → Int32 → Int32 → aI → aJ → Option (RT Int32)) (hk5 : ∀ (x1 : Int32) (x2 : Int32) (x3 : Int32) (x4 : Int32)  (I : aI) (J : aJ), k5 x1 x2 x3 x4 I J = some q → Wg M mS V 5 I J 5 [(0, .ref (V.2.2 0)), (1, .int x1), (2, .int x2), (3, .int x3), (4, .int x4)] []) (x1 : Int32) (x2 : Int32) (x4 : Int32)  (I : aI) (J : aJ) (hf : BX8_canCatch_44  k5 x1 x2 x4 I J = some q) : Wg M mS V 5 I J 44 [(0, .ref (V.2.2 0)), (1, .int x1), (2, .int x2), (4, .int x4)] [] := by
  unfold BX8_canCatch_44 at hf
  refine g_iconst X dX8_canCatch_44 (v := 1) rfl ?_
  refine g_goto X dX8_canCatch_45 (tgt := 49) (by decide) ?_
  exact wBX8_canCatch_49  X hQ k5 hk5 x1 x2 x4 1  I J hf
set_option maxRecDepth 4000 in
theorem wBX8_canCatch_48 {M : MT} {V : VT}  (X : Cx M mS V cX8_canCatch 5 RX8 (some .boolean) 1) {q : RT Int32} (hQ : PI M mS V q) (k5 : Int32 → Int32 → Int32 → Int32 → aI → aJ → Option (RT Int32)) (hk5 : ∀ (x1 : Int32) (x2 : Int32) (x3 : Int32) (x4 : Int32)  (I : aI) (J : aJ), k5 x1 x2 x3 x4 I J = some q → Wg M mS V 5 I J 5 [(0, .ref (V.2.2 0)), (1, .int x1), (2, .int x2), (3, .int x3), (4, .int x4)] []) (x1 : Int32) (x2 : Int32) (x4 : Int32)  (I : aI) (J : aJ) (hf : BX8_canCatch_48  k5 x1 x2 x4 I J = some q) : Wg M mS V 5 I J 48 [(0, .ref (V.2.2 0)), (1, .int x1), (2, .int x2), (4, .int x4)] [] := by
  unfold BX8_canCatch_48 at hf
  refine g_iconst X dX8_canCatch_48 (v := 0) rfl ?_
  exact wBX8_canCatch_49  X hQ k5 hk5 x1 x2 x4 0  I J hf
set_option maxRecDepth 4000 in
theorem wHX8_canCatch_5 {M : MT} {V : VT}  (X : Cx M mS V cX8_canCatch 5 RX8 (some .boolean) 1) {q : RT Int32} (hQ : PI M mS V q) (k5 : Int32 → Int32 → Int32 → Int32 → aI → aJ → Option (RT Int32)) (hk5 : ∀ (x1 : Int32) (x2 : Int32) (x3 : Int32) (x4 : Int32)  (I : aI) (J : aJ), k5 x1 x2 x3 x4 I J = some q → Wg M mS V 5 I J 5 [(0, .ref (V.2.2 0)), (1, .int x1), (2, .int x2), (3, .int x3), (4, .int x4)] []) (x1 : Int32) (x2 : Int32) (x3 : Int32) (x4 : Int32)  (I : aI) (J : aJ) (hf : HX8_canCatch_5  k5 x1 x2 x3 x4 I J = some q) : Wg M mS V 5 I J 5 [(0, .ref (V.2.2 0)), (1, .int x1), (2, .int x2), (3, .int x3), (4, .int x4)] [] := by
  unfold HX8_canCatch_5 at hf
  refine g_iload X dX8_canCatch_5 4 rfl ?_
  refine g_aload_n X dX8_canCatch_7 0 rfl ?_
  refine g_get X dX8_canCatch_8 okM_0 cl8 3 (by decide) m_821 rfl ?_
  refine g_icmp_ge X dX8_canCatch_11 (tgt := 56) (by decide) (fun hc1 => ?_) (fun hc1 => ?_)
  · rw [if_pos hc1] at hf
    refine g_iload_n X dX8_canCatch_56 3 rfl ?_
    obtain ⟨hg2, hf⟩ := gd_some hf
    cases hf
    exact g_zreturn X dX8_canCatch_57 (of_decide_eq_true hg2) hQ
  · rw [if_neg hc1] at hf
    refine g_iload_n X dX8_canCatch_14 3 rfl ?_
    refine g_if_ne X dX8_canCatch_15 (tgt := 44) (by decide) (fun hc3 => ?_) (fun hc3 => ?_)
    · rw [if_neg hc3] at hf
      refine g_sub [0, 1, 2, 4] rfl ?_
      exact wBX8_canCatch_44  X hQ k5 hk5 x1 x2 x4  I J hf
    · rw [if_pos hc3] at hf
      refine g_aload_n X dX8_canCatch_18 0 rfl ?_
      refine g_iload_n X dX8_canCatch_19 2 rfl ?_
      refine g_iload X dX8_canCatch_20 4 rfl ?_
      obtain ⟨r4, I4, J4, hb4, hf⟩ := bnd_some hf
      refine g_callV X dX8_canCatch_22 cw_X8_166 (k := 0) (As := [.int x2, .int x4]) (rcv okM_0 cl8) rfl rfl (Nat.le_of_ble_eq_true rfl) (by decide) (cX8_isNext_ok  M.2.1 V x2 x4  I J hb4) (kI ?_)
      refine g_if_eq X dX8_canCatch_25 (tgt := 48) (by decide) (fun hc5 => ?_) (fun hc5 => ?_)
      · rw [if_pos hc5] at hf
        refine g_sub [0, 1, 2, 4] rfl ?_
        exact wBX8_canCatch_48  X hQ k5 hk5 x1 x2 x4  I4 J4 hf
      · rw [if_neg hc5] at hf
        refine g_aload_n X dX8_canCatch_28 0 rfl ?_
        refine g_get X dX8_canCatch_29 okM_0 cl8 22 (by decide) m_840 rfl ?_
        refine g_bipush X dX8_canCatch_32 (v := 6) rfl ?_
        refine g_iload_n X dX8_canCatch_34 1 rfl ?_
        refine g_imul X dX8_canCatch_35 ?_
        refine g_iload X dX8_canCatch_36 4 rfl ?_
        refine g_iadd X dX8_canCatch_38 ?_
        obtain ⟨hg6, hf⟩ := gd_some hf
        refine g_iaload X dX8_canCatch_39 okM_15 hg6 ?_
        refine g_iconst X dX8_canCatch_40 (v := 1) rfl ?_
        refine g_icmp_ne X dX8_canCatch_41 (tgt := 48) (by decide) (fun hc7 => ?_) (fun hc7 => ?_)
        · rw [if_neg hc7] at hf
          refine g_sub [0, 1, 2, 4] rfl ?_
          exact wBX8_canCatch_48  X hQ k5 hk5 x1 x2 x4  I4 J4 hf
        · rw [if_pos hc7] at hf
          refine g_sub [0, 1, 2, 4] rfl ?_
          exact wBX8_canCatch_44  X hQ k5 hk5 x1 x2 x4  I4 J4 hf
set_option maxRecDepth 4000 in
theorem wLX8_canCatch_5 {M : MT} {V : VT}  (X : Cx M mS V cX8_canCatch 5 RX8 (some .boolean) 1) {q : RT Int32} (hQ : PI M mS V q)  : ∀ (n : Nat) (x1 : Int32) (x2 : Int32) (x3 : Int32) (x4 : Int32)  (I : aI) (J : aJ), LX8_canCatch_5   n x1 x2 x3 x4 I J = some q → Wg M mS V 5 I J 5 [(0, .ref (V.2.2 0)), (1, .int x1), (2, .int x2), (3, .int x3), (4, .int x4)] [] := by
  intro n
  induction n with
  | zero => intro x1 x2 x3 x4  I J hf; cases hf
  | succ n ih => intro x1 x2 x3 x4  I J hf; exact wHX8_canCatch_5  X hQ  (LX8_canCatch_5   n) ih x1 x2 x3 x4  I J hf
set_option maxRecDepth 4000 in
theorem wX8_canCatch {M : MT} {V : VT} (X : Cx M mS V cX8_canCatch 5 RX8 (some .boolean) 1) {q : RT Int32} (hQ : PI M mS V q) (x1 : Int32) (x2 : Int32)  (I : aI) (J : aJ) (hf : fX8_canCatch x1 x2 I J = some q) : Wg M mS V 5 I J 0 [(0, .ref (V.2.2 0)), (1, .int x1), (2, .int x2)] [] := by
  unfold fX8_canCatch at hf
  refine g_iconst X dX8_canCatch_0 (v := 0) rfl ?_
  refine g_istore_n X dX8_canCatch_1 (by decide) [(3, .int 0), (0, .ref (V.2.2 0)), (1, .int x1), (2, .int x2)] rfl ?_
  refine g_iconst X dX8_canCatch_2 (v := 0) rfl ?_
  refine g_istore X dX8_canCatch_3 (by decide) [(4, .int 0), (3, .int 0), (0, .ref (V.2.2 0)), (1, .int x1), (2, .int x2)] rfl ?_
  refine g_sub [2, 3, 4, 1, 0] rfl ?_
  exact wLX8_canCatch_5  X hQ  128 x1 x2 0 0  I J hf
set_option maxRecDepth 4000 in
theorem cX8_canCatch_ok (l : Launch) (V : VT) (x1 : Int32) (x2 : Int32)  (I : aI) (J : aJ) {q : RT Int32} (hf : fX8_canCatch x1 x2 I J = some q) : Met l yX8_canCatch (.code yX8_canCatch cX8_canCatch 5 (some .boolean) :: GG) (rmD 1) (va_Pc [.ref (V.2.2 0), .int x1, .int x2] (cQ mS V I J)) (QI mS V q) 0 0 (vAd mS V) :=
  met_I (by decide +kernel) rfl (Nat.le_of_ble_eq_true rfl) (fun _ _ X hQ => wX8_canCatch X hQ x1 x2  I J hf)
-- X8_isSure
set_option maxRecDepth 4000 in
theorem wBX8_isSure_43 {M : MT} {V : VT}  (X : Cx M mS V cX8_isSure 5 RX8 (some .boolean) 2) {q : RT Int32} (hQ : PI M mS V q) (k5 : Int32 → Int32 → Int32 → Int32 → aI → aJ → Option (RT Int32)) (hk5 : ∀ (x1 : Int32) (x2 : Int32) (x3 : Int32) (x4 : Int32)  (I : aI) (J : aJ), k5 x1 x2 x3 x4 I J = some q → Wg M mS V 5 I J 5 [(0, .ref (V.2.2 0)), (1, .int x1), (2, .int x2), (3, .int x3), (4, .int x4)] []) (x1 : Int32) (x2 : Int32) (x4 : Int32) (s0 : Int32)  (I : aI) (J : aJ) (hf : BX8_isSure_43  k5 x1 x2 x4 s0 I J = some q) : Wg M mS V 5 I J 43 [(0, .ref (V.2.2 0)), (1, .int x1), (2, .int x2), (4, .int x4)] [.int s0] := by
  unfold BX8_isSure_43 at hf
  refine g_istore_n X dX8_isSure_43 (by decide) [(3, .int s0), (0, .ref (V.2.2 0)), (1, .int x1), (2, .int x2), (4, .int x4)] rfl ?_
  refine g_iinc X dX8_isSure_44 4 rfl 1 rfl (by decide) [(4, .int (x4 + 1)), (3, .int s0), (0, .ref (V.2.2 0)), (1, .int x1), (2, .int x2)] rfl ?_
  refine g_goto X dX8_isSure_47 (tgt := 5) (by decide) ?_
  refine g_sub [2, 3, 4, 1, 0] rfl ?_
  exact hk5 x1 x2 s0 (x4 + 1)  I J hf
set_option maxRecDepth 4000 in
theorem wBX8_isSure_42 {M : MT} {V : VT}  (X : Cx M mS V cX8_isSure 5 RX8 (some .boolean) 2) {q : RT Int32} (hQ : PI M mS V q) (k5 : Int32 → Int32 → Int32 → Int32 → aI → aJ → Option (RT Int32)) (hk5 : ∀ (x1 : Int32) (x2 : Int32) (x3 : Int32) (x4 : Int32)  (I : aI) (J : aJ), k5 x1 x2 x3 x4 I J = some q → Wg M mS V 5 I J 5 [(0, .ref (V.2.2 0)), (1, .int x1), (2, .int x2), (3, .int x3), (4, .int x4)] []) (x1 : Int32) (x2 : Int32) (x4 : Int32)  (I : aI) (J : aJ) (hf : BX8_isSure_42  k5 x1 x2 x4 I J = some q) : Wg M mS V 5 I J 42 [(0, .ref (V.2.2 0)), (1, .int x1), (2, .int x2), (4, .int x4)] [] := by
  unfold BX8_isSure_42 at hf
  refine g_iconst X dX8_isSure_42 (v := 0) rfl ?_
  exact wBX8_isSure_43  X hQ k5 hk5 x1 x2 x4 0  I J hf
set_option maxRecDepth 4000 in
theorem wBX8_isSure_38 {M : MT} {V : VT}  (X : Cx M mS V cX8_isSure 5 RX8 (some .boolean) 2) {q : RT Int32} (hQ : PI M mS V q) (k5 : Int32 → Int32 → Int32 → Int32 → aI → aJ → Option (RT Int32)) (hk5 : ∀ (x1 : Int32) (x2 : Int32) (x3 : Int32) (x4 : Int32)  (I : aI) (J : aJ), k5 x1 x2 x3 x4 I J = some q → Wg M mS V 5 I J 5 [(0, .ref (V.2.2 0)), (1, .int x1), (2, .int x2), (3, .int x3), (4, .int x4)] []) (x1 : Int32) (x2 : Int32) (x4 : Int32)  (I : aI) (J : aJ) (hf : BX8_isSure_38  k5 x1 x2 x4 I J = some q) : Wg M mS V 5 I J 38 [(0, .ref (V.2.2 0)), (1, .int x1), (2, .int x2), (4, .int x4)] [] := by
  unfold BX8_isSure_38 at hf
  refine g_iconst X dX8_isSure_38 (v := 1) rfl ?_
  refine g_goto X dX8_isSure_39 (tgt := 43) (by decide) ?_
  exact wBX8_isSure_43  X hQ k5 hk5 x1 x2 x4 1  I J hf
set_option maxRecDepth 4000 in
theorem wHX8_isSure_5 {M : MT} {V : VT}  (X : Cx M mS V cX8_isSure 5 RX8 (some .boolean) 2) {q : RT Int32} (hQ : PI M mS V q) (k5 : Int32 → Int32 → Int32 → Int32 → aI → aJ → Option (RT Int32)) (hk5 : ∀ (x1 : Int32) (x2 : Int32) (x3 : Int32) (x4 : Int32)  (I : aI) (J : aJ), k5 x1 x2 x3 x4 I J = some q → Wg M mS V 5 I J 5 [(0, .ref (V.2.2 0)), (1, .int x1), (2, .int x2), (3, .int x3), (4, .int x4)] []) (x1 : Int32) (x2 : Int32) (x3 : Int32) (x4 : Int32)  (I : aI) (J : aJ) (hf : HX8_isSure_5  k5 x1 x2 x3 x4 I J = some q) : Wg M mS V 5 I J 5 [(0, .ref (V.2.2 0)), (1, .int x1), (2, .int x2), (3, .int x3), (4, .int x4)] [] := by
  unfold HX8_isSure_5 at hf
  refine g_iload X dX8_isSure_5 4 rfl ?_
  refine g_aload_n X dX8_isSure_7 0 rfl ?_
  refine g_get X dX8_isSure_8 okM_0 cl8 3 (by decide) m_821 rfl ?_
  refine g_icmp_ge X dX8_isSure_11 (tgt := 50) (by decide) (fun hc1 => ?_) (fun hc1 => ?_)
  · rw [if_pos hc1] at hf
    refine g_iload_n X dX8_isSure_50 3 rfl ?_
    obtain ⟨hg2, hf⟩ := gd_some hf
    cases hf
    exact g_zreturn X dX8_isSure_51 (of_decide_eq_true hg2) hQ
  · rw [if_neg hc1] at hf
    refine g_iload_n X dX8_isSure_14 3 rfl ?_
    refine g_if_eq X dX8_isSure_15 (tgt := 42) (by decide) (fun hc3 => ?_) (fun hc3 => ?_)
    · rw [if_pos hc3] at hf
      refine g_sub [0, 1, 2, 4] rfl ?_
      exact wBX8_isSure_42  X hQ k5 hk5 x1 x2 x4  I J hf
    · rw [if_neg hc3] at hf
      refine g_aload_n X dX8_isSure_18 0 rfl ?_
      refine g_iload_n X dX8_isSure_19 1 rfl ?_
      refine g_iload X dX8_isSure_20 4 rfl ?_
      obtain ⟨r4, I4, J4, hb4, hf⟩ := bnd_some hf
      refine g_callV X dX8_isSure_22 cw_X8_166 (k := 0) (As := [.int x1, .int x4]) (rcv okM_0 cl8) rfl rfl (Nat.le_of_ble_eq_true rfl) (by decide) (cX8_isNext_ok  M.2.1 V x1 x4  I J hb4) (kI ?_)
      refine g_if_eq X dX8_isSure_25 (tgt := 38) (by decide) (fun hc5 => ?_) (fun hc5 => ?_)
      · rw [if_pos hc5] at hf
        refine g_sub [0, 1, 2, 4] rfl ?_
        exact wBX8_isSure_38  X hQ k5 hk5 x1 x2 x4  I4 J4 hf
      · rw [if_neg hc5] at hf
        refine g_aload_n X dX8_isSure_28 0 rfl ?_
        refine g_iload X dX8_isSure_29 4 rfl ?_
        refine g_iload_n X dX8_isSure_31 2 rfl ?_
        obtain ⟨r6, I6, J6, hb6, hf⟩ := bnd_some hf
        refine g_callV X dX8_isSure_32 cw_X8_184 (k := 0) (As := [.int x4, .int x2]) (rcv okM_0 cl8) rfl rfl (Nat.le_of_ble_eq_true rfl) (by decide) (cX8_canCatch_ok  M.2.1 V x4 x2  I4 J4 hb6) (kI ?_)
        refine g_if_eq X dX8_isSure_35 (tgt := 42) (by decide) (fun hc7 => ?_) (fun hc7 => ?_)
        · rw [if_pos hc7] at hf
          refine g_sub [0, 1, 2, 4] rfl ?_
          exact wBX8_isSure_42  X hQ k5 hk5 x1 x2 x4  I6 J6 hf
        · rw [if_neg hc7] at hf
          refine g_sub [0, 1, 2, 4] rfl ?_
          exact wBX8_isSure_38  X hQ k5 hk5 x1 x2 x4  I6 J6 hf
set_option maxRecDepth 4000 in
theorem wLX8_isSure_5 {M : MT} {V : VT}  (X : Cx M mS V cX8_isSure 5 RX8 (some .boolean) 2) {q : RT Int32} (hQ : PI M mS V q)  : ∀ (n : Nat) (x1 : Int32) (x2 : Int32) (x3 : Int32) (x4 : Int32)  (I : aI) (J : aJ), LX8_isSure_5   n x1 x2 x3 x4 I J = some q → Wg M mS V 5 I J 5 [(0, .ref (V.2.2 0)), (1, .int x1), (2, .int x2), (3, .int x3), (4, .int x4)] [] := by
  intro n
  induction n with
  | zero => intro x1 x2 x3 x4  I J hf; cases hf
  | succ n ih => intro x1 x2 x3 x4  I J hf; exact wHX8_isSure_5  X hQ  (LX8_isSure_5   n) ih x1 x2 x3 x4  I J hf
set_option maxRecDepth 4000 in
theorem wX8_isSure {M : MT} {V : VT} (X : Cx M mS V cX8_isSure 5 RX8 (some .boolean) 2) {q : RT Int32} (hQ : PI M mS V q) (x1 : Int32) (x2 : Int32)  (I : aI) (J : aJ) (hf : fX8_isSure x1 x2 I J = some q) : Wg M mS V 5 I J 0 [(0, .ref (V.2.2 0)), (1, .int x1), (2, .int x2)] [] := by
  unfold fX8_isSure at hf
  refine g_iconst X dX8_isSure_0 (v := 1) rfl ?_
  refine g_istore_n X dX8_isSure_1 (by decide) [(3, .int 1), (0, .ref (V.2.2 0)), (1, .int x1), (2, .int x2)] rfl ?_
  refine g_iconst X dX8_isSure_2 (v := 0) rfl ?_
  refine g_istore X dX8_isSure_3 (by decide) [(4, .int 0), (3, .int 1), (0, .ref (V.2.2 0)), (1, .int x1), (2, .int x2)] rfl ?_
  refine g_sub [2, 3, 4, 1, 0] rfl ?_
  exact wLX8_isSure_5  X hQ  128 x1 x2 1 0  I J hf
set_option maxRecDepth 4000 in
theorem cX8_isSure_ok (l : Launch) (V : VT) (x1 : Int32) (x2 : Int32)  (I : aI) (J : aJ) {q : RT Int32} (hf : fX8_isSure x1 x2 I J = some q) : Met l yX8_isSure (.code yX8_isSure cX8_isSure 5 (some .boolean) :: GG) (rmD 2) (va_Pc [.ref (V.2.2 0), .int x1, .int x2] (cQ mS V I J)) (QI mS V q) 0 0 (vAd mS V) :=
  met_I (by decide +kernel) rfl (Nat.le_of_ble_eq_true rfl) (fun _ _ X hQ => wX8_isSure X hQ x1 x2  I J hf)
-- X8_catchOf
set_option maxRecDepth 4000 in
theorem wBX8_catchOf_141 {M : MT} {V : VT}  (X : Cx M mS V cX8_catchOf 5 RX8 (some .int) 3) {q : RT Int32} (hQ : PI M mS V q) (k38 : Int32 → Int32 → aI → aJ → Option (RT Int32)) (hk38 : ∀ (x1 : Int32) (x2 : Int32)  (I : aI) (J : aJ), k38 x1 x2 I J = some q → Wg M mS V 5 I J 38 [(0, .ref (V.2.2 0)), (1, .int x1), (2, .int x2)] []) (k66 : Int32 → Int32 → Int32 → aI → aJ → Option (RT Int32)) (hk66 : ∀ (x1 : Int32) (x2 : Int32) (x3 : Int32)  (I : aI) (J : aJ), k66 x1 x2 x3 I J = some q → Wg M mS V 5 I J 66 [(0, .ref (V.2.2 0)), (1, .int x1), (2, .int x2), (3, .int x3)] []) (x1 : Int32) (x2 : Int32) (x3 : Int32) (s0 : Int32) (s1 : Int32)  (I : aI) (J : aJ) (hf : BX8_catchOf_141  k38 k66 x1 x2 x3 s0 s1 I J = some q) : Wg M mS V 5 I J 141 [(0, .ref (V.2.2 0)), (1, .int x1), (2, .int x2), (3, .int x3)] [.int s0, .int s1, .ref (V.2.2 16)] := by
  unfold BX8_catchOf_141 at hf
  obtain ⟨hg15, hf⟩ := gd_some hf
  refine g_iastore X dX8_catchOf_141 okM_16 hg15 ?_
  refine g_iinc X dX8_catchOf_142 3 rfl 1 rfl (by decide) [(3, .int (x3 + 1)), (0, .ref (V.2.2 0)), (1, .int x1), (2, .int x2)] rfl ?_
  refine g_goto X dX8_catchOf_145 (tgt := 66) (by decide) ?_
  refine g_sub [1, 2, 3, 0] rfl ?_
  exact hk66 x1 x2 (x3 + 1)  (pI I 16 (Int32.toNatClampNeg s1) s0) J hf
set_option maxRecDepth 4000 in
theorem wBX8_catchOf_136 {M : MT} {V : VT}  (X : Cx M mS V cX8_catchOf 5 RX8 (some .int) 3) {q : RT Int32} (hQ : PI M mS V q) (k38 : Int32 → Int32 → aI → aJ → Option (RT Int32)) (hk38 : ∀ (x1 : Int32) (x2 : Int32)  (I : aI) (J : aJ), k38 x1 x2 I J = some q → Wg M mS V 5 I J 38 [(0, .ref (V.2.2 0)), (1, .int x1), (2, .int x2)] []) (k66 : Int32 → Int32 → Int32 → aI → aJ → Option (RT Int32)) (hk66 : ∀ (x1 : Int32) (x2 : Int32) (x3 : Int32)  (I : aI) (J : aJ), k66 x1 x2 x3 I J = some q → Wg M mS V 5 I J 66 [(0, .ref (V.2.2 0)), (1, .int x1), (2, .int x2), (3, .int x3)] []) (x1 : Int32) (x2 : Int32) (x3 : Int32) (s0 : Int32)  (I : aI) (J : aJ) (hf : BX8_catchOf_136  k38 k66 x1 x2 x3 s0 I J = some q) : Wg M mS V 5 I J 136 [(0, .ref (V.2.2 0)), (1, .int x1), (2, .int x2), (3, .int x3)] [.int s0, .ref (V.2.2 16)] := by
  unfold BX8_catchOf_136 at hf
  refine g_iconst X dX8_catchOf_136 (v := 1) rfl ?_
  refine g_goto X dX8_catchOf_137 (tgt := 141) (by decide) ?_
  exact wBX8_catchOf_141  X hQ k38 hk38 k66 hk66 x1 x2 x3 1 s0  I J hf
set_option maxRecDepth 4000 in
theorem wBX8_catchOf_140 {M : MT} {V : VT}  (X : Cx M mS V cX8_catchOf 5 RX8 (some .int) 3) {q : RT Int32} (hQ : PI M mS V q) (k38 : Int32 → Int32 → aI → aJ → Option (RT Int32)) (hk38 : ∀ (x1 : Int32) (x2 : Int32)  (I : aI) (J : aJ), k38 x1 x2 I J = some q → Wg M mS V 5 I J 38 [(0, .ref (V.2.2 0)), (1, .int x1), (2, .int x2)] []) (k66 : Int32 → Int32 → Int32 → aI → aJ → Option (RT Int32)) (hk66 : ∀ (x1 : Int32) (x2 : Int32) (x3 : Int32)  (I : aI) (J : aJ), k66 x1 x2 x3 I J = some q → Wg M mS V 5 I J 66 [(0, .ref (V.2.2 0)), (1, .int x1), (2, .int x2), (3, .int x3)] []) (x1 : Int32) (x2 : Int32) (x3 : Int32) (s0 : Int32)  (I : aI) (J : aJ) (hf : BX8_catchOf_140  k38 k66 x1 x2 x3 s0 I J = some q) : Wg M mS V 5 I J 140 [(0, .ref (V.2.2 0)), (1, .int x1), (2, .int x2), (3, .int x3)] [.int s0, .ref (V.2.2 16)] := by
  unfold BX8_catchOf_140 at hf
  refine g_iconst X dX8_catchOf_140 (v := 0) rfl ?_
  exact wBX8_catchOf_141  X hQ k38 hk38 k66 hk66 x1 x2 x3 0 s0  I J hf
set_option maxRecDepth 4000 in
theorem wBX8_catchOf_99 {M : MT} {V : VT}  (X : Cx M mS V cX8_catchOf 5 RX8 (some .int) 3) {q : RT Int32} (hQ : PI M mS V q) (k38 : Int32 → Int32 → aI → aJ → Option (RT Int32)) (hk38 : ∀ (x1 : Int32) (x2 : Int32)  (I : aI) (J : aJ), k38 x1 x2 I J = some q → Wg M mS V 5 I J 38 [(0, .ref (V.2.2 0)), (1, .int x1), (2, .int x2)] []) (k66 : Int32 → Int32 → Int32 → aI → aJ → Option (RT Int32)) (hk66 : ∀ (x1 : Int32) (x2 : Int32) (x3 : Int32)  (I : aI) (J : aJ), k66 x1 x2 x3 I J = some q → Wg M mS V 5 I J 66 [(0, .ref (V.2.2 0)), (1, .int x1), (2, .int x2), (3, .int x3)] []) (x1 : Int32) (x2 : Int32) (x3 : Int32) (s0 : Int32)  (I : aI) (J : aJ) (hf : BX8_catchOf_99  k38 k66 x1 x2 x3 s0 I J = some q) : Wg M mS V 5 I J 99 [(0, .ref (V.2.2 0)), (1, .int x1), (2, .int x2), (3, .int x3)] [.int s0] := by
  unfold BX8_catchOf_99 at hf
  refine g_istore X dX8_catchOf_99 (by decide) [(4, .int s0), (0, .ref (V.2.2 0)), (1, .int x1), (2, .int x2), (3, .int x3)] rfl ?_
  refine g_aload_n X dX8_catchOf_101 1 rfl ?_
  refine g_get X dX8_catchOf_102 okM_0 cl8 23 (by decide) m_841 rfl ?_
  refine g_iload_n X dX8_catchOf_105 4 rfl ?_
  refine g_aload_n X dX8_catchOf_106 1 rfl ?_
  refine g_get X dX8_catchOf_107 okM_0 cl8 22 (by decide) m_840 rfl ?_
  refine g_iload_n X dX8_catchOf_110 4 rfl ?_
  obtain ⟨hg10, hf⟩ := gd_some hf
  refine g_iaload X dX8_catchOf_111 okM_15 hg10 ?_
  refine g_iconst X dX8_catchOf_112 (v := 1) rfl ?_
  refine g_icmp_eq X dX8_catchOf_113 (tgt := 136) (by decide) (fun hc11 => ?_) (fun hc11 => ?_)
  · rw [if_pos hc11] at hf
    refine g_sub [1, 2, 3, 4] rfl ?_
    exact wBX8_catchOf_136  X hQ k38 hk38 k66 hk66 x1 x2 x3 x3  I J hf
  · rw [if_neg hc11] at hf
    refine g_iload X dX8_catchOf_116 0 rfl ?_
    refine g_if_eq X dX8_catchOf_118 (tgt := 140) (by decide) (fun hc12 => ?_) (fun hc12 => ?_)
    · rw [if_pos hc12] at hf
      refine g_sub [1, 2, 3, 4] rfl ?_
      exact wBX8_catchOf_140  X hQ k38 hk38 k66 hk66 x1 x2 x3 x3  I J hf
    · rw [if_neg hc12] at hf
      refine g_aload_n X dX8_catchOf_121 1 rfl ?_
      refine g_iload_n X dX8_catchOf_122 4 rfl ?_
      refine g_bipush X dX8_catchOf_123 (v := 6) rfl ?_
      refine g_idiv X dX8_catchOf_125 (by decide) ?_
      refine g_iload_n X dX8_catchOf_126 4 rfl ?_
      refine g_bipush X dX8_catchOf_127 (v := 6) rfl ?_
      refine g_irem X dX8_catchOf_129 (by decide) ?_
      obtain ⟨r13, I13, J13, hb13, hf⟩ := bnd_some hf
      refine g_callV X dX8_catchOf_130 cw_X8_187 (k := 0) (As := [.int (x3 / 6), .int (x3 - x3 / 6 * 6)]) (rcv okM_0 cl8) rfl rfl (Nat.le_of_ble_eq_true rfl) (by decide) (cX8_isSure_ok  M.2.1 V (x3 / 6) (x3 - x3 / 6 * 6)  I J hb13) (kI ?_)
      refine g_if_eq X dX8_catchOf_133 (tgt := 140) (by decide) (fun hc14 => ?_) (fun hc14 => ?_)
      · rw [if_pos hc14] at hf
        refine g_sub [1, 2, 3, 4] rfl ?_
        exact wBX8_catchOf_140  X hQ k38 hk38 k66 hk66 x1 x2 x3 x3  I13 J13 hf
      · rw [if_neg hc14] at hf
        refine g_sub [1, 2, 3, 4] rfl ?_
        exact wBX8_catchOf_136  X hQ k38 hk38 k66 hk66 x1 x2 x3 x3  I13 J13 hf
set_option maxRecDepth 4000 in
theorem wBX8_catchOf_98 {M : MT} {V : VT}  (X : Cx M mS V cX8_catchOf 5 RX8 (some .int) 3) {q : RT Int32} (hQ : PI M mS V q) (k38 : Int32 → Int32 → aI → aJ → Option (RT Int32)) (hk38 : ∀ (x1 : Int32) (x2 : Int32)  (I : aI) (J : aJ), k38 x1 x2 I J = some q → Wg M mS V 5 I J 38 [(0, .ref (V.2.2 0)), (1, .int x1), (2, .int x2)] []) (k66 : Int32 → Int32 → Int32 → aI → aJ → Option (RT Int32)) (hk66 : ∀ (x1 : Int32) (x2 : Int32) (x3 : Int32)  (I : aI) (J : aJ), k66 x1 x2 x3 I J = some q → Wg M mS V 5 I J 66 [(0, .ref (V.2.2 0)), (1, .int x1), (2, .int x2), (3, .int x3)] []) (x1 : Int32) (x2 : Int32) (x3 : Int32)  (I : aI) (J : aJ) (hf : BX8_catchOf_98  k38 k66 x1 x2 x3 I J = some q) : Wg M mS V 5 I J 98 [(0, .ref (V.2.2 0)), (1, .int x1), (2, .int x2), (3, .int x3)] [] := by
  unfold BX8_catchOf_98 at hf
  refine g_iconst X dX8_catchOf_98 (v := 0) rfl ?_
  exact wBX8_catchOf_99  X hQ k38 hk38 k66 hk66 x1 x2 x3 0  I J hf
set_option maxRecDepth 4000 in
theorem wHX8_catchOf_66 {M : MT} {V : VT}  (X : Cx M mS V cX8_catchOf 5 RX8 (some .int) 3) {q : RT Int32} (hQ : PI M mS V q) (k38 : Int32 → Int32 → aI → aJ → Option (RT Int32)) (hk38 : ∀ (x1 : Int32) (x2 : Int32)  (I : aI) (J : aJ), k38 x1 x2 I J = some q → Wg M mS V 5 I J 38 [(0, .ref (V.2.2 0)), (1, .int x1), (2, .int x2)] []) (k66 : Int32 → Int32 → Int32 → aI → aJ → Option (RT Int32)) (hk66 : ∀ (x1 : Int32) (x2 : Int32) (x3 : Int32)  (I : aI) (J : aJ), k66 x1 x2 x3 I J = some q → Wg M mS V 5 I J 66 [(0, .ref (V.2.2 0)), (1, .int x1), (2, .int x2), (3, .int x3)] []) (x1 : Int32) (x2 : Int32) (x3 : Int32)  (I : aI) (J : aJ) (hf : HX8_catchOf_66  k38 k66 x1 x2 x3 I J = some q) : Wg M mS V 5 I J 66 [(0, .ref (V.2.2 0)), (1, .int x1), (2, .int x2), (3, .int x3)] [] := by
  unfold HX8_catchOf_66 at hf
  refine g_iload_n X dX8_catchOf_66 3 rfl ?_
  refine g_bipush X dX8_catchOf_67 (v := 36) rfl ?_
  refine g_icmp_ge X dX8_catchOf_69 (tgt := 148) (by decide) (fun hc6 => ?_) (fun hc6 => ?_)
  · rw [if_pos hc6] at hf
    refine g_aload_n X dX8_catchOf_148 0 rfl ?_
    refine g_get X dX8_catchOf_149 okM_0 cl8 23 (by decide) m_841 rfl ?_
    refine g_aload_n X dX8_catchOf_152 0 rfl ?_
    refine g_get X dX8_catchOf_153 okM_0 cl8 22 (by decide) m_840 rfl ?_
    obtain ⟨r7, I7, J7, hb7, hf⟩ := bnd_some hf
    refine g_callS X dX8_catchOf_156 sw_X8_155 (As := [.ref (V.2.2 16), .ref (V.2.2 15)]) rfl rfl (Nat.le_of_ble_eq_true rfl) (by decide) (cX8_copy_ok  M.2.1 V 16 36 15 36 okM_16 okM_15 I J hb7) (kV ?_)
    refine g_iinc X dX8_catchOf_159 2 rfl 1 rfl (by decide) [(2, .int (x2 + 1)), (0, .ref (V.2.2 0)), (1, .int x1), (3, .int x3)] rfl ?_
    refine g_goto X dX8_catchOf_162 (tgt := 38) (by decide) ?_
    refine g_sub [1, 2, 0] rfl ?_
    exact hk38 x1 (x2 + 1)  I7 J7 hf
  · rw [if_neg hc6] at hf
    refine g_iload_n X dX8_catchOf_72 3 rfl ?_
    refine g_bipush X dX8_catchOf_73 (v := 6) rfl ?_
    refine g_idiv X dX8_catchOf_75 (by decide) ?_
    refine g_aload_n X dX8_catchOf_76 0 rfl ?_
    refine g_get X dX8_catchOf_77 okM_0 cl8 3 (by decide) m_821 rfl ?_
    refine g_icmp_ge X dX8_catchOf_80 (tgt := 98) (by decide) (fun hc8 => ?_) (fun hc8 => ?_)
    · rw [if_pos hc8] at hf
      exact wBX8_catchOf_98  X hQ k38 hk38 k66 hk66 x1 x2 x3  I J hf
    · rw [if_neg hc8] at hf
      refine g_iload_n X dX8_catchOf_83 3 rfl ?_
      refine g_bipush X dX8_catchOf_84 (v := 6) rfl ?_
      refine g_irem X dX8_catchOf_86 (by decide) ?_
      refine g_aload_n X dX8_catchOf_87 0 rfl ?_
      refine g_get X dX8_catchOf_88 okM_0 cl8 3 (by decide) m_821 rfl ?_
      refine g_icmp_ge X dX8_catchOf_91 (tgt := 98) (by decide) (fun hc9 => ?_) (fun hc9 => ?_)
      · rw [if_pos hc9] at hf
        exact wBX8_catchOf_98  X hQ k38 hk38 k66 hk66 x1 x2 x3  I J hf
      · rw [if_neg hc9] at hf
        refine g_iconst X dX8_catchOf_94 (v := 1) rfl ?_
        refine g_goto X dX8_catchOf_95 (tgt := 99) (by decide) ?_
        exact wBX8_catchOf_99  X hQ k38 hk38 k66 hk66 x1 x2 x3 1  I J hf
set_option maxRecDepth 4000 in
theorem wLX8_catchOf_66 {M : MT} {V : VT}  (X : Cx M mS V cX8_catchOf 5 RX8 (some .int) 3) {q : RT Int32} (hQ : PI M mS V q) (k38 : Int32 → Int32 → aI → aJ → Option (RT Int32)) (hk38 : ∀ (x1 : Int32) (x2 : Int32)  (I : aI) (J : aJ), k38 x1 x2 I J = some q → Wg M mS V 5 I J 38 [(0, .ref (V.2.2 0)), (1, .int x1), (2, .int x2)] []) : ∀ (n : Nat) (x1 : Int32) (x2 : Int32) (x3 : Int32)  (I : aI) (J : aJ), LX8_catchOf_66  k38 n x1 x2 x3 I J = some q → Wg M mS V 5 I J 66 [(0, .ref (V.2.2 0)), (1, .int x1), (2, .int x2), (3, .int x3)] [] := by
  intro n
  induction n with
  | zero => intro x1 x2 x3  I J hf; cases hf
  | succ n ih => intro x1 x2 x3  I J hf; exact wHX8_catchOf_66  X hQ k38 hk38 (LX8_catchOf_66  k38 n) ih x1 x2 x3  I J hf
set_option maxRecDepth 4000 in
theorem wHX8_catchOf_38 {M : MT} {V : VT}  (X : Cx M mS V cX8_catchOf 5 RX8 (some .int) 3) {q : RT Int32} (hQ : PI M mS V q) (k38 : Int32 → Int32 → aI → aJ → Option (RT Int32)) (hk38 : ∀ (x1 : Int32) (x2 : Int32)  (I : aI) (J : aJ), k38 x1 x2 I J = some q → Wg M mS V 5 I J 38 [(0, .ref (V.2.2 0)), (1, .int x1), (2, .int x2)] []) (x1 : Int32) (x2 : Int32)  (I : aI) (J : aJ) (hf : HX8_catchOf_38  k38 x1 x2 I J = some q) : Wg M mS V 5 I J 38 [(0, .ref (V.2.2 0)), (1, .int x1), (2, .int x2)] [] := by
  unfold HX8_catchOf_38 at hf
  refine g_iload_n X dX8_catchOf_38 2 rfl ?_
  refine g_bipush X dX8_catchOf_39 (v := 41) rfl ?_
  refine g_icmp_ge X dX8_catchOf_41 (tgt := 165) (by decide) (fun hc3 => ?_) (fun hc3 => ?_)
  · rw [if_pos hc3] at hf
    refine g_iconst X dX8_catchOf_165 (v := (-1)) rfl ?_
    cases hf
    exact g_ireturn X dX8_catchOf_166 hQ
  · rw [if_neg hc3] at hf
    refine g_aload_n X dX8_catchOf_44 0 rfl ?_
    refine g_get X dX8_catchOf_45 okM_0 cl8 22 (by decide) m_840 rfl ?_
    refine g_bipush X dX8_catchOf_48 (v := 6) rfl ?_
    refine g_aload_n X dX8_catchOf_50 0 rfl ?_
    refine g_get X dX8_catchOf_51 okM_0 cl8 6 (by decide) m_824 rfl ?_
    refine g_imul X dX8_catchOf_54 ?_
    refine g_iload_n X dX8_catchOf_55 1 rfl ?_
    refine g_iadd X dX8_catchOf_56 ?_
    obtain ⟨hg4, hf⟩ := gd_some hf
    refine g_iaload X dX8_catchOf_57 okM_15 hg4 ?_
    refine g_iconst X dX8_catchOf_58 (v := 1) rfl ?_
    refine g_icmp_ne X dX8_catchOf_59 (tgt := 64) (by decide) (fun hc5 => ?_) (fun hc5 => ?_)
    · rw [if_neg hc5] at hf
      refine g_iconst X dX8_catchOf_64 (v := 0) rfl ?_
      refine g_istore_n X dX8_catchOf_65 (by decide) [(3, .int 0), (0, .ref (V.2.2 0)), (1, .int x1), (2, .int x2)] rfl ?_
      refine g_sub [1, 2, 3, 0] rfl ?_
      exact wLX8_catchOf_66  X hQ k38 hk38 128 x1 x2 0  I J hf
    · rw [if_pos hc5] at hf
      refine g_iload_n X dX8_catchOf_62 2 rfl ?_
      cases hf
      exact g_ireturn X dX8_catchOf_63 hQ
set_option maxRecDepth 4000 in
theorem wLX8_catchOf_38 {M : MT} {V : VT}  (X : Cx M mS V cX8_catchOf 5 RX8 (some .int) 3) {q : RT Int32} (hQ : PI M mS V q)  : ∀ (n : Nat) (x1 : Int32) (x2 : Int32)  (I : aI) (J : aJ), LX8_catchOf_38   n x1 x2 I J = some q → Wg M mS V 5 I J 38 [(0, .ref (V.2.2 0)), (1, .int x1), (2, .int x2)] [] := by
  intro n
  induction n with
  | zero => intro x1 x2  I J hf; cases hf
  | succ n ih => intro x1 x2  I J hf; exact wHX8_catchOf_38  X hQ  (LX8_catchOf_38   n) ih x1 x2  I J hf
set_option maxRecDepth 4000 in
theorem wBX8_catchOf_29 {M : MT} {V : VT}  (X : Cx M mS V cX8_catchOf 5 RX8 (some .int) 3) {q : RT Int32} (hQ : PI M mS V q) (k2 : Int32 → Int32 → aI → aJ → Option (RT Int32)) (hk2 : ∀ (x1 : Int32) (x2 : Int32)  (I : aI) (J : aJ), k2 x1 x2 I J = some q → Wg M mS V 5 I J 2 [(0, .ref (V.2.2 0)), (1, .int x1), (2, .int x2)] []) (x1 : Int32) (x2 : Int32) (s0 : Int32) (s1 : Int32)  (I : aI) (J : aJ) (hf : BX8_catchOf_29  k2 x1 x2 s0 s1 I J = some q) : Wg M mS V 5 I J 29 [(0, .ref (V.2.2 0)), (1, .int x1), (2, .int x2)] [.int s0, .int s1, .ref (V.2.2 15)] := by
  unfold BX8_catchOf_29 at hf
  obtain ⟨hg16, hf⟩ := gd_some hf
  refine g_iastore X dX8_catchOf_29 okM_15 hg16 ?_
  refine g_iinc X dX8_catchOf_30 2 rfl 1 rfl (by decide) [(2, .int (x2 + 1)), (0, .ref (V.2.2 0)), (1, .int x1)] rfl ?_
  refine g_goto X dX8_catchOf_33 (tgt := 2) (by decide) ?_
  refine g_sub [1, 2, 0] rfl ?_
  exact hk2 x1 (x2 + 1)  (pI I 15 (Int32.toNatClampNeg s1) s0) J hf
set_option maxRecDepth 4000 in
theorem wHX8_catchOf_2 {M : MT} {V : VT}  (X : Cx M mS V cX8_catchOf 5 RX8 (some .int) 3) {q : RT Int32} (hQ : PI M mS V q) (k2 : Int32 → Int32 → aI → aJ → Option (RT Int32)) (hk2 : ∀ (x1 : Int32) (x2 : Int32)  (I : aI) (J : aJ), k2 x1 x2 I J = some q → Wg M mS V 5 I J 2 [(0, .ref (V.2.2 0)), (1, .int x1), (2, .int x2)] []) (x1 : Int32) (x2 : Int32)  (I : aI) (J : aJ) (hf : HX8_catchOf_2  k2 x1 x2 I J = some q) : Wg M mS V 5 I J 2 [(0, .ref (V.2.2 0)), (1, .int x1), (2, .int x2)] [] := by
  unfold HX8_catchOf_2 at hf
  refine g_iload_n X dX8_catchOf_2 2 rfl ?_
  refine g_bipush X dX8_catchOf_3 (v := 36) rfl ?_
  refine g_icmp_ge X dX8_catchOf_5 (tgt := 36) (by decide) (fun hc1 => ?_) (fun hc1 => ?_)
  · rw [if_pos hc1] at hf
    refine g_iconst X dX8_catchOf_36 (v := 0) rfl ?_
    refine g_istore_n X dX8_catchOf_37 (by decide) [(2, .int 0), (0, .ref (V.2.2 0)), (1, .int x1)] rfl ?_
    refine g_sub [1, 2, 0] rfl ?_
    exact wLX8_catchOf_38  X hQ  128 x1 0  I J hf
  · rw [if_neg hc1] at hf
    refine g_aload_n X dX8_catchOf_8 0 rfl ?_
    refine g_get X dX8_catchOf_9 okM_0 cl8 22 (by decide) m_840 rfl ?_
    refine g_iload_n X dX8_catchOf_12 2 rfl ?_
    refine g_iload_n X dX8_catchOf_13 2 rfl ?_
    refine g_bipush X dX8_catchOf_14 (v := 6) rfl ?_
    refine g_idiv X dX8_catchOf_16 (by decide) ?_
    refine g_iload_n X dX8_catchOf_17 2 rfl ?_
    refine g_bipush X dX8_catchOf_18 (v := 6) rfl ?_
    refine g_irem X dX8_catchOf_20 (by decide) ?_
    refine g_icmp_ne X dX8_catchOf_21 (tgt := 28) (by decide) (fun hc2 => ?_) (fun hc2 => ?_)
    · rw [if_neg hc2] at hf
      refine g_iconst X dX8_catchOf_28 (v := 0) rfl ?_
      exact wBX8_catchOf_29  X hQ k2 hk2 x1 x2 0 x2  I J hf
    · rw [if_pos hc2] at hf
      refine g_iconst X dX8_catchOf_24 (v := 1) rfl ?_
      refine g_goto X dX8_catchOf_25 (tgt := 29) (by decide) ?_
      exact wBX8_catchOf_29  X hQ k2 hk2 x1 x2 1 x2  I J hf
set_option maxRecDepth 4000 in
theorem wLX8_catchOf_2 {M : MT} {V : VT}  (X : Cx M mS V cX8_catchOf 5 RX8 (some .int) 3) {q : RT Int32} (hQ : PI M mS V q)  : ∀ (n : Nat) (x1 : Int32) (x2 : Int32)  (I : aI) (J : aJ), LX8_catchOf_2   n x1 x2 I J = some q → Wg M mS V 5 I J 2 [(0, .ref (V.2.2 0)), (1, .int x1), (2, .int x2)] [] := by
  intro n
  induction n with
  | zero => intro x1 x2  I J hf; cases hf
  | succ n ih => intro x1 x2  I J hf; exact wHX8_catchOf_2  X hQ  (LX8_catchOf_2   n) ih x1 x2  I J hf
set_option maxRecDepth 4000 in
theorem wX8_catchOf {M : MT} {V : VT} (X : Cx M mS V cX8_catchOf 5 RX8 (some .int) 3) {q : RT Int32} (hQ : PI M mS V q) (x1 : Int32)  (I : aI) (J : aJ) (hf : fX8_catchOf x1 I J = some q) : Wg M mS V 5 I J 0 [(0, .ref (V.2.2 0)), (1, .int x1)] [] := by
  unfold fX8_catchOf at hf
  refine g_iconst X dX8_catchOf_0 (v := 0) rfl ?_
  refine g_istore_n X dX8_catchOf_1 (by decide) [(2, .int 0), (0, .ref (V.2.2 0)), (1, .int x1)] rfl ?_
  refine g_sub [1, 2, 0] rfl ?_
  exact wLX8_catchOf_2  X hQ  128 x1 0  I J hf
set_option maxRecDepth 4000 in
theorem cX8_catchOf_ok (l : Launch) (V : VT) (x1 : Int32)  (I : aI) (J : aJ) {q : RT Int32} (hf : fX8_catchOf x1 I J = some q) : Met l yX8_catchOf (.code yX8_catchOf cX8_catchOf 5 (some .int) :: GG) (rmD 3) (va_Pc [.ref (V.2.2 0), .int x1] (cQ mS V I J)) (QI mS V q) 0 0 (vAd mS V) :=
  met_I (by decide +kernel) rfl (Nat.le_of_ble_eq_true rfl) (fun _ _ X hQ => wX8_catchOf X hQ x1  I J hf)
-- X8_isCorner
set_option maxRecDepth 4000 in
theorem wX8_isCorner {M : MT} {V : VT} (X : Cx M mS V cX8_isCorner 2 RX8 (some .boolean) 1) {q : RT Int32} (hQ : PI M mS V q) (x1 : Int32)  (I : aI) (J : aJ) (hf : fX8_isCorner x1 I J = some q) : Wg M mS V 2 I J 0 [(0, .ref (V.2.2 0)), (1, .int x1)] [] := by
  unfold fX8_isCorner at hf
  refine g_iload_n X dX8_isCorner_0 1 rfl ?_
  refine g_i2l X dX8_isCorner_1 ?_
  refine g_lconst X dX8_isCorner_2 (v := 0) rfl ?_
  refine g_aload_n X dX8_isCorner_3 0 rfl ?_
  refine g_get X dX8_isCorner_4 okM_0 cl8 3 (by decide) m_821 rfl ?_
  refine g_iconst X dX8_isCorner_7 (v := 1) rfl ?_
  refine g_isub X dX8_isCorner_8 ?_
  refine g_i2l X dX8_isCorner_9 ?_
  obtain ⟨r1, I1, J1, hb1, hf⟩ := bnd_some hf
  refine g_callS X dX8_isCorner_10 sw_X8_92 (As := [.long (Int32.toInt64 x1), .long 0, .long (Int32.toInt64 ((I 0 3) - 1))]) rfl rfl (Nat.le_of_ble_eq_true rfl) (by decide) (cX8_in_ok  M.2.1 V (Int32.toInt64 x1) 0 (Int32.toInt64 ((I 0 3) - 1))  I J hb1) (kI ?_)
  obtain ⟨hg2, hf⟩ := gd_some hf
  cases hf
  exact g_zreturn X dX8_isCorner_13 (of_decide_eq_true hg2) hQ
set_option maxRecDepth 4000 in
theorem cX8_isCorner_ok (l : Launch) (V : VT) (x1 : Int32)  (I : aI) (J : aJ) {q : RT Int32} (hf : fX8_isCorner x1 I J = some q) : Met l yX8_isCorner (.code yX8_isCorner cX8_isCorner 2 (some .boolean) :: GG) (rmD 1) (va_Pc [.ref (V.2.2 0), .int x1] (cQ mS V I J)) (QI mS V q) 0 0 (vAd mS V) :=
  met_I (by decide +kernel) rfl (Nat.le_of_ble_eq_true rfl) (fun _ _ X hQ => wX8_isCorner X hQ x1  I J hf)
-- X8_nextTo
set_option maxRecDepth 4000 in
theorem wBX8_nextTo_35 {M : MT} {V : VT}  (X : Cx M mS V cX8_nextTo 4 RX8 (some .int) 0) {q : RT Int32} (hQ : PI M mS V q) (k4 : Int32 → Int32 → Int32 → aI → aJ → Option (RT Int32)) (hk4 : ∀ (x1 : Int32) (x2 : Int32) (x3 : Int32)  (I : aI) (J : aJ), k4 x1 x2 x3 I J = some q → Wg M mS V 4 I J 4 [(0, .ref (V.2.2 0)), (1, .int x1), (2, .int x2), (3, .int x3)] []) (x1 : Int32) (x3 : Int32) (s0 : Int32) (s1 : Int32)  (I : aI) (J : aJ) (hf : BX8_nextTo_35  k4 x1 x3 s0 s1 I J = some q) : Wg M mS V 4 I J 35 [(0, .ref (V.2.2 0)), (1, .int x1), (3, .int x3)] [.int s0, .int s1] := by
  unfold BX8_nextTo_35 at hf
  refine g_ior X dX8_nextTo_35 ?_
  refine g_istore_n X dX8_nextTo_36 (by decide) [(2, .int (s1 ||| s0)), (0, .ref (V.2.2 0)), (1, .int x1), (3, .int x3)] rfl ?_
  refine g_iinc X dX8_nextTo_37 3 rfl 1 rfl (by decide) [(3, .int (x3 + 1)), (2, .int (s1 ||| s0)), (0, .ref (V.2.2 0)), (1, .int x1)] rfl ?_
  refine g_goto X dX8_nextTo_40 (tgt := 4) (by decide) ?_
  refine g_sub [2, 3, 1, 0] rfl ?_
  exact hk4 x1 (s1 ||| s0) (x3 + 1)  I J hf
set_option maxRecDepth 4000 in
theorem wHX8_nextTo_4 {M : MT} {V : VT}  (X : Cx M mS V cX8_nextTo 4 RX8 (some .int) 0) {q : RT Int32} (hQ : PI M mS V q) (k4 : Int32 → Int32 → Int32 → aI → aJ → Option (RT Int32)) (hk4 : ∀ (x1 : Int32) (x2 : Int32) (x3 : Int32)  (I : aI) (J : aJ), k4 x1 x2 x3 I J = some q → Wg M mS V 4 I J 4 [(0, .ref (V.2.2 0)), (1, .int x1), (2, .int x2), (3, .int x3)] []) (x1 : Int32) (x2 : Int32) (x3 : Int32)  (I : aI) (J : aJ) (hf : HX8_nextTo_4  k4 x1 x2 x3 I J = some q) : Wg M mS V 4 I J 4 [(0, .ref (V.2.2 0)), (1, .int x1), (2, .int x2), (3, .int x3)] [] := by
  unfold HX8_nextTo_4 at hf
  refine g_iload_n X dX8_nextTo_4 3 rfl ?_
  refine g_aload_n X dX8_nextTo_5 0 rfl ?_
  refine g_get X dX8_nextTo_6 okM_0 cl8 3 (by decide) m_821 rfl ?_
  refine g_icmp_ge X dX8_nextTo_9 (tgt := 43) (by decide) (fun hc1 => ?_) (fun hc1 => ?_)
  · rw [if_pos hc1] at hf
    refine g_iload_n X dX8_nextTo_43 2 rfl ?_
    cases hf
    exact g_ireturn X dX8_nextTo_44 hQ
  · rw [if_neg hc1] at hf
    refine g_iload_n X dX8_nextTo_12 2 rfl ?_
    refine g_aload_n X dX8_nextTo_13 0 rfl ?_
    refine g_get X dX8_nextTo_14 okM_0 cl8 17 (by decide) m_835 rfl ?_
    refine g_bipush X dX8_nextTo_17 (v := 6) rfl ?_
    refine g_iload_n X dX8_nextTo_19 1 rfl ?_
    refine g_imul X dX8_nextTo_20 ?_
    refine g_iload_n X dX8_nextTo_21 3 rfl ?_
    refine g_iadd X dX8_nextTo_22 ?_
    obtain ⟨hg2, hf⟩ := gd_some hf
    refine g_iaload X dX8_nextTo_23 okM_10 hg2 ?_
    refine g_iconst X dX8_nextTo_24 (v := 1) rfl ?_
    refine g_icmp_ne X dX8_nextTo_25 (tgt := 34) (by decide) (fun hc3 => ?_) (fun hc3 => ?_)
    · rw [if_neg hc3] at hf
      refine g_iconst X dX8_nextTo_34 (v := 0) rfl ?_
      refine g_sub [0, 1, 3] rfl ?_
      exact wBX8_nextTo_35  X hQ k4 hk4 x1 x3 0 x2  I J hf
    · rw [if_pos hc3] at hf
      refine g_iconst X dX8_nextTo_28 (v := 1) rfl ?_
      refine g_iload_n X dX8_nextTo_29 3 rfl ?_
      refine g_ishl X dX8_nextTo_30 ?_
      refine g_goto X dX8_nextTo_31 (tgt := 35) (by decide) ?_
      refine g_sub [0, 1, 3] rfl ?_
      exact wBX8_nextTo_35  X hQ k4 hk4 x1 x3 (1 <<< (x3 &&& 31)) x2  I J hf
set_option maxRecDepth 4000 in
theorem wLX8_nextTo_4 {M : MT} {V : VT}  (X : Cx M mS V cX8_nextTo 4 RX8 (some .int) 0) {q : RT Int32} (hQ : PI M mS V q)  : ∀ (n : Nat) (x1 : Int32) (x2 : Int32) (x3 : Int32)  (I : aI) (J : aJ), LX8_nextTo_4   n x1 x2 x3 I J = some q → Wg M mS V 4 I J 4 [(0, .ref (V.2.2 0)), (1, .int x1), (2, .int x2), (3, .int x3)] [] := by
  intro n
  induction n with
  | zero => intro x1 x2 x3  I J hf; cases hf
  | succ n ih => intro x1 x2 x3  I J hf; exact wHX8_nextTo_4  X hQ  (LX8_nextTo_4   n) ih x1 x2 x3  I J hf
set_option maxRecDepth 4000 in
theorem wX8_nextTo {M : MT} {V : VT} (X : Cx M mS V cX8_nextTo 4 RX8 (some .int) 0) {q : RT Int32} (hQ : PI M mS V q) (x1 : Int32)  (I : aI) (J : aJ) (hf : fX8_nextTo x1 I J = some q) : Wg M mS V 4 I J 0 [(0, .ref (V.2.2 0)), (1, .int x1)] [] := by
  unfold fX8_nextTo at hf
  refine g_iconst X dX8_nextTo_0 (v := 0) rfl ?_
  refine g_istore_n X dX8_nextTo_1 (by decide) [(2, .int 0), (0, .ref (V.2.2 0)), (1, .int x1)] rfl ?_
  refine g_iconst X dX8_nextTo_2 (v := 0) rfl ?_
  refine g_istore_n X dX8_nextTo_3 (by decide) [(3, .int 0), (2, .int 0), (0, .ref (V.2.2 0)), (1, .int x1)] rfl ?_
  refine g_sub [2, 3, 1, 0] rfl ?_
  exact wLX8_nextTo_4  X hQ  128 x1 0 0  I J hf
set_option maxRecDepth 4000 in
theorem cX8_nextTo_ok (l : Launch) (V : VT) (x1 : Int32)  (I : aI) (J : aJ) {q : RT Int32} (hf : fX8_nextTo x1 I J = some q) : Met l yX8_nextTo (.code yX8_nextTo cX8_nextTo 4 (some .int) :: GG) (rmD 0) (va_Pc [.ref (V.2.2 0), .int x1] (cQ mS V I J)) (QI mS V q) 0 0 (vAd mS V) :=
  met_I (by decide +kernel) rfl (Nat.le_of_ble_eq_true rfl) (fun _ _ X hQ => wX8_nextTo X hQ x1  I J hf)
-- X8_whoAt
set_option maxRecDepth 4000 in
theorem wBX8_whoAt_30 {M : MT} {V : VT}  (X : Cx M mS V cX8_whoAt 4 RX8 (some .int) 0) {q : RT Int32} (hQ : PI M mS V q) (k4 : Int32 → Int32 → Int32 → aI → aJ → Option (RT Int32)) (hk4 : ∀ (x1 : Int32) (x2 : Int32) (x3 : Int32)  (I : aI) (J : aJ), k4 x1 x2 x3 I J = some q → Wg M mS V 4 I J 4 [(0, .ref (V.2.2 0)), (1, .int x1), (2, .int x2), (3, .int x3)] []) (x1 : Int32) (x3 : Int32) (s0 : Int32) (s1 : Int32)  (I : aI) (J : aJ) (hf : BX8_whoAt_30  k4 x1 x3 s0 s1 I J = some q) : Wg M mS V 4 I J 30 [(0, .ref (V.2.2 0)), (1, .int x1), (3, .int x3)] [.int s0, .int s1] := by
  unfold BX8_whoAt_30 at hf
  refine g_ior X dX8_whoAt_30 ?_
  refine g_istore_n X dX8_whoAt_31 (by decide) [(2, .int (s1 ||| s0)), (0, .ref (V.2.2 0)), (1, .int x1), (3, .int x3)] rfl ?_
  refine g_iinc X dX8_whoAt_32 3 rfl 1 rfl (by decide) [(3, .int (x3 + 1)), (2, .int (s1 ||| s0)), (0, .ref (V.2.2 0)), (1, .int x1)] rfl ?_
  refine g_goto X dX8_whoAt_35 (tgt := 4) (by decide) ?_
  refine g_sub [2, 3, 1, 0] rfl ?_
  exact hk4 x1 (s1 ||| s0) (x3 + 1)  I J hf
set_option maxRecDepth 4000 in
theorem wHX8_whoAt_4 {M : MT} {V : VT}  (X : Cx M mS V cX8_whoAt 4 RX8 (some .int) 0) {q : RT Int32} (hQ : PI M mS V q) (k4 : Int32 → Int32 → Int32 → aI → aJ → Option (RT Int32)) (hk4 : ∀ (x1 : Int32) (x2 : Int32) (x3 : Int32)  (I : aI) (J : aJ), k4 x1 x2 x3 I J = some q → Wg M mS V 4 I J 4 [(0, .ref (V.2.2 0)), (1, .int x1), (2, .int x2), (3, .int x3)] []) (x1 : Int32) (x2 : Int32) (x3 : Int32)  (I : aI) (J : aJ) (hf : HX8_whoAt_4  k4 x1 x2 x3 I J = some q) : Wg M mS V 4 I J 4 [(0, .ref (V.2.2 0)), (1, .int x1), (2, .int x2), (3, .int x3)] [] := by
  unfold HX8_whoAt_4 at hf
  refine g_iload_n X dX8_whoAt_4 3 rfl ?_
  refine g_aload_n X dX8_whoAt_5 0 rfl ?_
  refine g_get X dX8_whoAt_6 okM_0 cl8 5 (by decide) m_823 rfl ?_
  refine g_icmp_ge X dX8_whoAt_9 (tgt := 38) (by decide) (fun hc1 => ?_) (fun hc1 => ?_)
  · rw [if_pos hc1] at hf
    refine g_iload_n X dX8_whoAt_38 2 rfl ?_
    cases hf
    exact g_ireturn X dX8_whoAt_39 hQ
  · rw [if_neg hc1] at hf
    refine g_iload_n X dX8_whoAt_12 2 rfl ?_
    refine g_aload_n X dX8_whoAt_13 0 rfl ?_
    refine g_get X dX8_whoAt_14 okM_0 cl8 12 (by decide) m_830 rfl ?_
    refine g_iload_n X dX8_whoAt_17 3 rfl ?_
    obtain ⟨hg2, hf⟩ := gd_some hf
    refine g_iaload X dX8_whoAt_18 okM_5 hg2 ?_
    refine g_iload_n X dX8_whoAt_19 1 rfl ?_
    refine g_icmp_ne X dX8_whoAt_20 (tgt := 29) (by decide) (fun hc3 => ?_) (fun hc3 => ?_)
    · rw [if_neg hc3] at hf
      refine g_iconst X dX8_whoAt_29 (v := 0) rfl ?_
      refine g_sub [0, 1, 3] rfl ?_
      exact wBX8_whoAt_30  X hQ k4 hk4 x1 x3 0 x2  I J hf
    · rw [if_pos hc3] at hf
      refine g_iconst X dX8_whoAt_23 (v := 1) rfl ?_
      refine g_iload_n X dX8_whoAt_24 3 rfl ?_
      refine g_ishl X dX8_whoAt_25 ?_
      refine g_goto X dX8_whoAt_26 (tgt := 30) (by decide) ?_
      refine g_sub [0, 1, 3] rfl ?_
      exact wBX8_whoAt_30  X hQ k4 hk4 x1 x3 (1 <<< (x3 &&& 31)) x2  I J hf
set_option maxRecDepth 4000 in
theorem wLX8_whoAt_4 {M : MT} {V : VT}  (X : Cx M mS V cX8_whoAt 4 RX8 (some .int) 0) {q : RT Int32} (hQ : PI M mS V q)  : ∀ (n : Nat) (x1 : Int32) (x2 : Int32) (x3 : Int32)  (I : aI) (J : aJ), LX8_whoAt_4   n x1 x2 x3 I J = some q → Wg M mS V 4 I J 4 [(0, .ref (V.2.2 0)), (1, .int x1), (2, .int x2), (3, .int x3)] [] := by
  intro n
  induction n with
  | zero => intro x1 x2 x3  I J hf; cases hf
  | succ n ih => intro x1 x2 x3  I J hf; exact wHX8_whoAt_4  X hQ  (LX8_whoAt_4   n) ih x1 x2 x3  I J hf
set_option maxRecDepth 4000 in
theorem wX8_whoAt {M : MT} {V : VT} (X : Cx M mS V cX8_whoAt 4 RX8 (some .int) 0) {q : RT Int32} (hQ : PI M mS V q) (x1 : Int32)  (I : aI) (J : aJ) (hf : fX8_whoAt x1 I J = some q) : Wg M mS V 4 I J 0 [(0, .ref (V.2.2 0)), (1, .int x1)] [] := by
  unfold fX8_whoAt at hf
  refine g_iconst X dX8_whoAt_0 (v := 0) rfl ?_
  refine g_istore_n X dX8_whoAt_1 (by decide) [(2, .int 0), (0, .ref (V.2.2 0)), (1, .int x1)] rfl ?_
  refine g_iconst X dX8_whoAt_2 (v := 0) rfl ?_
  refine g_istore_n X dX8_whoAt_3 (by decide) [(3, .int 0), (2, .int 0), (0, .ref (V.2.2 0)), (1, .int x1)] rfl ?_
  refine g_sub [2, 3, 1, 0] rfl ?_
  exact wLX8_whoAt_4  X hQ  128 x1 0 0  I J hf
set_option maxRecDepth 4000 in
theorem cX8_whoAt_ok (l : Launch) (V : VT) (x1 : Int32)  (I : aI) (J : aJ) {q : RT Int32} (hf : fX8_whoAt x1 I J = some q) : Met l yX8_whoAt (.code yX8_whoAt cX8_whoAt 4 (some .int) :: GG) (rmD 0) (va_Pc [.ref (V.2.2 0), .int x1] (cQ mS V I J)) (QI mS V q) 0 0 (vAd mS V) :=
  met_I (by decide +kernel) rfl (Nat.le_of_ble_eq_true rfl) (fun _ _ X hQ => wX8_whoAt X hQ x1  I J hf)
-- X8_farOf
set_option maxRecDepth 4000 in
theorem wBX8_farOf_31 {M : MT} {V : VT}  (X : Cx M mS V cX8_farOf 3 RX8 (some .int) 0) {q : RT Int32} (hQ : PI M mS V q)  (s0 : Int32)  (I : aI) (J : aJ) (hf : BX8_farOf_31   s0 I J = some q) : Wg M mS V 3 I J 31 [] [.int s0] := by
  unfold BX8_farOf_31 at hf
  cases hf
  exact g_ireturn X dX8_farOf_31 hQ
set_option maxRecDepth 4000 in
theorem wX8_farOf {M : MT} {V : VT} (X : Cx M mS V cX8_farOf 3 RX8 (some .int) 0) {q : RT Int32} (hQ : PI M mS V q) (x1 : Int32) (x2 : Int32)  (I : aI) (J : aJ) (hf : fX8_farOf x1 x2 I J = some q) : Wg M mS V 3 I J 0 [(0, .ref (V.2.2 0)), (1, .int x1), (2, .int x2)] [] := by
  unfold fX8_farOf at hf
  refine g_aload_n X dX8_farOf_0 0 rfl ?_
  refine g_get X dX8_farOf_1 okM_0 cl8 17 (by decide) m_835 rfl ?_
  refine g_bipush X dX8_farOf_4 (v := 6) rfl ?_
  refine g_iload_n X dX8_farOf_6 1 rfl ?_
  refine g_imul X dX8_farOf_7 ?_
  refine g_iload_n X dX8_farOf_8 2 rfl ?_
  refine g_iadd X dX8_farOf_9 ?_
  obtain ⟨hg1, hf⟩ := gd_some hf
  refine g_iaload X dX8_farOf_10 okM_10 hg1 ?_
  refine g_bipush X dX8_farOf_11 (v := 99) rfl ?_
  refine g_icmp_ne X dX8_farOf_13 (tgt := 20) (by decide) (fun hc2 => ?_) (fun hc2 => ?_)
  · rw [if_neg hc2] at hf
    refine g_aload_n X dX8_farOf_20 0 rfl ?_
    refine g_get X dX8_farOf_21 okM_0 cl8 17 (by decide) m_835 rfl ?_
    refine g_bipush X dX8_farOf_24 (v := 6) rfl ?_
    refine g_iload_n X dX8_farOf_26 1 rfl ?_
    refine g_imul X dX8_farOf_27 ?_
    refine g_iload_n X dX8_farOf_28 2 rfl ?_
    refine g_iadd X dX8_farOf_29 ?_
    refine g_iaload X dX8_farOf_30 okM_10 hg1 ?_
    refine g_sub [] rfl ?_
    exact wBX8_farOf_31  X hQ  (I 10 (Int32.toNatClampNeg ((6 * x1) + x2)))  I J hf
  · rw [if_pos hc2] at hf
    refine g_iconst X dX8_farOf_16 (v := (-1)) rfl ?_
    refine g_goto X dX8_farOf_17 (tgt := 31) (by decide) ?_
    refine g_sub [] rfl ?_
    exact wBX8_farOf_31  X hQ  (-1)  I J hf
set_option maxRecDepth 4000 in
theorem cX8_farOf_ok (l : Launch) (V : VT) (x1 : Int32) (x2 : Int32)  (I : aI) (J : aJ) {q : RT Int32} (hf : fX8_farOf x1 x2 I J = some q) : Met l yX8_farOf (.code yX8_farOf cX8_farOf 3 (some .int) :: GG) (rmD 0) (va_Pc [.ref (V.2.2 0), .int x1, .int x2] (cQ mS V I J)) (QI mS V q) 0 0 (vAd mS V) :=
  met_I (by decide +kernel) rfl (Nat.le_of_ble_eq_true rfl) (fun _ _ X hQ => wX8_farOf X hQ x1 x2  I J hf)
-- X8_tellCorner
set_option maxRecDepth 4000 in
theorem wX8_tellCorner {M : MT} {V : VT} (X : Cx M mS V cX8_tellCorner 3 RX8 (some .int) 4) {q : RT Int32} (hQ : PI M mS V q) (x1 : Int32) (x2 : Int32)  (I : aI) (J : aJ) (hf : fX8_tellCorner x1 x2 I J = some q) : Wg M mS V 3 I J 0 [(0, .ref (V.2.2 0)), (1, .int x1), (2, .int x2)] [] := by
  unfold fX8_tellCorner at hf
  refine g_iload_n X dX8_tellCorner_0 2 rfl ?_
  by_cases hs1 : x2 = 0
  · rw [if_pos hs1] at hf
    refine g_tin X dX8_tellCorner_1 hs1 (by decide) (by decide) rfl (tgt := 32) (by decide) ?_
    refine g_aload_n X dX8_tellCorner_32 0 rfl ?_
    refine g_iload_n X dX8_tellCorner_33 1 rfl ?_
    obtain ⟨r2, I2, J2, hb2, hf⟩ := bnd_some hf
    refine g_callV X dX8_tellCorner_34 cw_X8_190 (k := 0) (As := [.int x1]) (rcv okM_0 cl8) rfl rfl (Nat.le_of_ble_eq_true rfl) (by decide) (cX8_nextTo_ok  M.2.1 V x1  I J hb2) (kI ?_)
    cases hf
    exact g_ireturn X dX8_tellCorner_37 hQ
  rw [if_neg hs1] at hf
  by_cases hs3 : x2 = 1
  · rw [if_pos hs3] at hf
    refine g_tin X dX8_tellCorner_1 hs3 (by decide) (by decide) rfl (tgt := 38) (by decide) ?_
    refine g_aload_n X dX8_tellCorner_38 0 rfl ?_
    refine g_iload_n X dX8_tellCorner_39 1 rfl ?_
    obtain ⟨r4, I4, J4, hb4, hf⟩ := bnd_some hf
    refine g_callV X dX8_tellCorner_40 cw_X8_193 (k := 0) (As := [.int x1]) (rcv okM_0 cl8) rfl rfl (Nat.le_of_ble_eq_true rfl) (by decide) (cX8_whoAt_ok  M.2.1 V x1  I J hb4) (kI ?_)
    cases hf
    exact g_ireturn X dX8_tellCorner_43 hQ
  rw [if_neg hs3] at hf
  by_cases hs5 : x2 = 2
  · rw [if_pos hs5] at hf
    refine g_tin X dX8_tellCorner_1 hs5 (by decide) (by decide) rfl (tgt := 44) (by decide) ?_
    refine g_aload_n X dX8_tellCorner_44 0 rfl ?_
    refine g_iload_n X dX8_tellCorner_45 1 rfl ?_
    refine g_aload_n X dX8_tellCorner_46 0 rfl ?_
    refine g_get X dX8_tellCorner_47 okM_0 cl8 6 (by decide) m_824 rfl ?_
    obtain ⟨r6, I6, J6, hb6, hf⟩ := bnd_some hf
    refine g_callV X dX8_tellCorner_50 cw_X8_196 (k := 0) (As := [.int x1, .int (I 0 6)]) (rcv okM_0 cl8) rfl rfl (Nat.le_of_ble_eq_true rfl) (by decide) (cX8_farOf_ok  M.2.1 V x1 (I 0 6)  I J hb6) (kI ?_)
    cases hf
    exact g_ireturn X dX8_tellCorner_53 hQ
  rw [if_neg hs5] at hf
  by_cases hs7 : x2 = 3
  · rw [if_pos hs7] at hf
    refine g_tin X dX8_tellCorner_1 hs7 (by decide) (by decide) rfl (tgt := 54) (by decide) ?_
    refine g_aload_n X dX8_tellCorner_54 0 rfl ?_
    refine g_iload_n X dX8_tellCorner_55 1 rfl ?_
    obtain ⟨r8, I8, J8, hb8, hf⟩ := bnd_some hf
    refine g_callV X dX8_tellCorner_56 cw_X8_199 (k := 0) (As := [.int x1]) (rcv okM_0 cl8) rfl rfl (Nat.le_of_ble_eq_true rfl) (by decide) (cX8_catchOf_ok  M.2.1 V x1  I J hb8) (kI ?_)
    cases hf
    exact g_ireturn X dX8_tellCorner_59 hQ
  rw [if_neg hs7] at hf
  refine g_tout X dX8_tellCorner_1 (by have a0 := lv_neT (a := 0) hs1 rfl; have a1 := lv_neT (a := 1) hs3 rfl; have a2 := lv_neT (a := 2) hs5 rfl; have a3 := lv_neT (a := 3) hs7 rfl; omega) (tgt := 60) (by decide) ?_
  refine g_bipush X dX8_tellCorner_60 (v := (-102)) rfl ?_
  cases hf
  exact g_ireturn X dX8_tellCorner_62 hQ
set_option maxRecDepth 4000 in
theorem cX8_tellCorner_ok (l : Launch) (V : VT) (x1 : Int32) (x2 : Int32)  (I : aI) (J : aJ) {q : RT Int32} (hf : fX8_tellCorner x1 x2 I J = some q) : Met l yX8_tellCorner (.code yX8_tellCorner cX8_tellCorner 3 (some .int) :: GG) (rmD 4) (va_Pc [.ref (V.2.2 0), .int x1, .int x2] (cQ mS V I J)) (QI mS V q) 0 0 (vAd mS V) :=
  met_I (by decide +kernel) rfl (Nat.le_of_ble_eq_true rfl) (fun _ _ X hQ => wX8_tellCorner X hQ x1 x2  I J hf)
-- X8_corner
set_option maxRecDepth 4000 in
theorem wBX8_corner_19 {M : MT} {V : VT}  (X : Cx M mS V cX8_corner 3 RX8 (some .int) 5) {q : RT Int32} (hQ : PI M mS V q)  (s0 : Int32)  (I : aI) (J : aJ) (hf : BX8_corner_19   s0 I J = some q) : Wg M mS V 3 I J 19 [] [.int s0] := by
  unfold BX8_corner_19 at hf
  cases hf
  exact g_ireturn X dX8_corner_19 hQ
set_option maxRecDepth 4000 in
theorem wX8_corner {M : MT} {V : VT} (X : Cx M mS V cX8_corner 3 RX8 (some .int) 5) {q : RT Int32} (hQ : PI M mS V q) (x1 : Int32) (x2 : Int32)  (I : aI) (J : aJ) (hf : fX8_corner x1 x2 I J = some q) : Wg M mS V 3 I J 0 [(0, .ref (V.2.2 0)), (1, .int x1), (2, .int x2)] [] := by
  unfold fX8_corner at hf
  refine g_aload_n X dX8_corner_0 0 rfl ?_
  refine g_iload_n X dX8_corner_1 1 rfl ?_
  obtain ⟨r1, I1, J1, hb1, hf⟩ := bnd_some hf
  refine g_callV X dX8_corner_2 cw_X8_202 (k := 0) (As := [.int x1]) (rcv okM_0 cl8) rfl rfl (Nat.le_of_ble_eq_true rfl) (by decide) (cX8_isCorner_ok  M.2.1 V x1  I J hb1) (kI ?_)
  refine g_if_eq X dX8_corner_5 (tgt := 17) (by decide) (fun hc2 => ?_) (fun hc2 => ?_)
  · rw [if_pos hc2] at hf
    refine g_bipush X dX8_corner_17 (v := (-101)) rfl ?_
    refine g_sub [] rfl ?_
    exact wBX8_corner_19  X hQ  (-101)  I1 J1 hf
  · rw [if_neg hc2] at hf
    refine g_aload_n X dX8_corner_8 0 rfl ?_
    refine g_iload_n X dX8_corner_9 1 rfl ?_
    refine g_iload_n X dX8_corner_10 2 rfl ?_
    obtain ⟨r3, I3, J3, hb3, hf⟩ := bnd_some hf
    refine g_callV X dX8_corner_11 cw_X8_205 (k := 0) (As := [.int x1, .int x2]) (rcv okM_0 cl8) rfl rfl (Nat.le_of_ble_eq_true rfl) (by decide) (cX8_tellCorner_ok  M.2.1 V x1 x2  I1 J1 hb3) (kI ?_)
    refine g_goto X dX8_corner_14 (tgt := 19) (by decide) ?_
    refine g_sub [] rfl ?_
    exact wBX8_corner_19  X hQ  r3  I3 J3 hf
set_option maxRecDepth 4000 in
theorem cX8_corner_ok (l : Launch) (V : VT) (x1 : Int32) (x2 : Int32)  (I : aI) (J : aJ) {q : RT Int32} (hf : fX8_corner x1 x2 I J = some q) : Met l yX8_corner (.code yX8_corner cX8_corner 3 (some .int) :: GG) (rmD 5) (va_Pc [.ref (V.2.2 0), .int x1, .int x2] (cQ mS V I J)) (QI mS V q) 0 0 (vAd mS V) :=
  met_I (by decide +kernel) rfl (Nat.le_of_ble_eq_true rfl) (fun _ _ X hQ => wX8_corner X hQ x1 x2  I J hf)
-- X8_sumOf
set_option maxRecDepth 4000 in
theorem wHX8_sumOf_4 {M : MT} {V : VT}  (X : Cx M mS V cX8_sumOf 4 RX8 (some .int) 0) {q : RT Int32} (hQ : PI M mS V q) (k4 : Nat → Nat → Int32 → Int32 → aI → aJ → Option (RT Int32)) (hk4 : ∀ (e1 : Nat) (ne1 : Nat) (x2 : Int32) (x3 : Int32) (he1 : okc mS e1 9 ne1) (I : aI) (J : aJ), k4 e1 ne1 x2 x3 I J = some q → Wg M mS V 4 I J 4 [(0, .ref (V.2.2 0)), (1, .ref (V.2.2 e1)), (2, .int x2), (3, .int x3)] []) (e1 : Nat) (ne1 : Nat) (x2 : Int32) (x3 : Int32) (he1 : okc mS e1 9 ne1) (I : aI) (J : aJ) (hf : HX8_sumOf_4  k4 e1 ne1 x2 x3 I J = some q) : Wg M mS V 4 I J 4 [(0, .ref (V.2.2 0)), (1, .ref (V.2.2 e1)), (2, .int x2), (3, .int x3)] [] := by
  unfold HX8_sumOf_4 at hf
  refine g_iload_n X dX8_sumOf_4 3 rfl ?_
  refine g_aload_n X dX8_sumOf_5 0 rfl ?_
  refine g_get X dX8_sumOf_6 okM_0 cl8 5 (by decide) m_823 rfl ?_
  refine g_icmp_ge X dX8_sumOf_9 (tgt := 24) (by decide) (fun hc1 => ?_) (fun hc1 => ?_)
  · rw [if_pos hc1] at hf
    refine g_iload_n X dX8_sumOf_24 2 rfl ?_
    cases hf
    exact g_ireturn X dX8_sumOf_25 hQ
  · rw [if_neg hc1] at hf
    refine g_iload_n X dX8_sumOf_12 2 rfl ?_
    refine g_aload_n X dX8_sumOf_13 1 rfl ?_
    refine g_iload_n X dX8_sumOf_14 3 rfl ?_
    obtain ⟨hg2, hf⟩ := gd_some hf
    refine g_iaload X dX8_sumOf_15 he1 hg2 ?_
    refine g_iadd X dX8_sumOf_16 ?_
    refine g_istore_n X dX8_sumOf_17 (by decide) [(2, .int (x2 + (I e1 (Int32.toNatClampNeg x3)))), (0, .ref (V.2.2 0)), (1, .ref (V.2.2 e1)), (3, .int x3)] rfl ?_
    refine g_iinc X dX8_sumOf_18 3 rfl 1 rfl (by decide) [(3, .int (x3 + 1)), (2, .int (x2 + (I e1 (Int32.toNatClampNeg x3)))), (0, .ref (V.2.2 0)), (1, .ref (V.2.2 e1))] rfl ?_
    refine g_goto X dX8_sumOf_21 (tgt := 4) (by decide) ?_
    refine g_sub [2, 3, 1, 0] rfl ?_
    exact hk4 e1 ne1 (x2 + (I e1 (Int32.toNatClampNeg x3))) (x3 + 1) he1 I J hf
set_option maxRecDepth 4000 in
theorem wLX8_sumOf_4 {M : MT} {V : VT}  (X : Cx M mS V cX8_sumOf 4 RX8 (some .int) 0) {q : RT Int32} (hQ : PI M mS V q)  : ∀ (n : Nat) (e1 : Nat) (ne1 : Nat) (x2 : Int32) (x3 : Int32) (he1 : okc mS e1 9 ne1) (I : aI) (J : aJ), LX8_sumOf_4   n e1 ne1 x2 x3 I J = some q → Wg M mS V 4 I J 4 [(0, .ref (V.2.2 0)), (1, .ref (V.2.2 e1)), (2, .int x2), (3, .int x3)] [] := by
  intro n
  induction n with
  | zero => intro e1 ne1 x2 x3 he1 I J hf; cases hf
  | succ n ih => intro e1 ne1 x2 x3 he1 I J hf; exact wHX8_sumOf_4  X hQ  (LX8_sumOf_4   n) ih e1 ne1 x2 x3 he1 I J hf
set_option maxRecDepth 4000 in
theorem wX8_sumOf {M : MT} {V : VT} (X : Cx M mS V cX8_sumOf 4 RX8 (some .int) 0) {q : RT Int32} (hQ : PI M mS V q) (e1 n1 : Nat) (h1 : okc mS e1 9 n1) (I : aI) (J : aJ) (hf : fX8_sumOf e1 n1 I J = some q) : Wg M mS V 4 I J 0 [(0, .ref (V.2.2 0)), (1, .ref (V.2.2 e1))] [] := by
  unfold fX8_sumOf at hf
  refine g_iconst X dX8_sumOf_0 (v := 0) rfl ?_
  refine g_istore_n X dX8_sumOf_1 (by decide) [(2, .int 0), (0, .ref (V.2.2 0)), (1, .ref (V.2.2 e1))] rfl ?_
  refine g_iconst X dX8_sumOf_2 (v := 0) rfl ?_
  refine g_istore_n X dX8_sumOf_3 (by decide) [(3, .int 0), (2, .int 0), (0, .ref (V.2.2 0)), (1, .ref (V.2.2 e1))] rfl ?_
  refine g_sub [2, 3, 1, 0] rfl ?_
  exact wLX8_sumOf_4  X hQ  128 e1 n1 0 0 h1 I J hf
set_option maxRecDepth 4000 in
theorem cX8_sumOf_ok (l : Launch) (V : VT) (e1 n1 : Nat) (h1 : okc mS e1 9 n1) (I : aI) (J : aJ) {q : RT Int32} (hf : fX8_sumOf e1 n1 I J = some q) : Met l yX8_sumOf (.code yX8_sumOf cX8_sumOf 4 (some .int) :: GG) (rmD 0) (va_Pc [.ref (V.2.2 0), .ref (V.2.2 e1)] (cQ mS V I J)) (QI mS V q) 0 0 (vAd mS V) :=
  met_I (by decide +kernel) rfl (Nat.le_of_ble_eq_true rfl) (fun _ _ X hQ => wX8_sumOf X hQ e1 n1 h1 I J hf)
-- X8_hears
set_option maxRecDepth 4000 in
theorem wBX8_hears_33 {M : MT} {V : VT}  (X : Cx M mS V cX8_hears 2 RX8 (some .int) 0) {q : RT Int32} (hQ : PI M mS V q)  (s0 : Int32)  (I : aI) (J : aJ) (hf : BX8_hears_33   s0 I J = some q) : Wg M mS V 2 I J 33 [] [.int s0] := by
  unfold BX8_hears_33 at hf
  cases hf
  exact g_ireturn X dX8_hears_33 hQ
set_option maxRecDepth 4000 in
theorem wX8_hears {M : MT} {V : VT} (X : Cx M mS V cX8_hears 2 RX8 (some .int) 0) {q : RT Int32} (hQ : PI M mS V q) (x1 : Int32)  (I : aI) (J : aJ) (hf : fX8_hears x1 I J = some q) : Wg M mS V 2 I J 0 [(0, .ref (V.2.2 0)), (1, .int x1)] [] := by
  unfold fX8_hears at hf
  refine g_aload_n X dX8_hears_0 0 rfl ?_
  refine g_get X dX8_hears_1 okM_0 cl8 17 (by decide) m_835 rfl ?_
  refine g_bipush X dX8_hears_4 (v := 6) rfl ?_
  refine g_aload_n X dX8_hears_6 0 rfl ?_
  refine g_get X dX8_hears_7 okM_0 cl8 12 (by decide) m_830 rfl ?_
  refine g_iload_n X dX8_hears_10 1 rfl ?_
  obtain ⟨hg1, hf⟩ := gd_some hf
  refine g_iaload X dX8_hears_11 okM_5 hg1 ?_
  refine g_imul X dX8_hears_12 ?_
  refine g_aload_n X dX8_hears_13 0 rfl ?_
  refine g_get X dX8_hears_14 okM_0 cl8 6 (by decide) m_824 rfl ?_
  refine g_iadd X dX8_hears_17 ?_
  obtain ⟨hg2, hf⟩ := gd_some hf
  refine g_iaload X dX8_hears_18 okM_10 hg2 ?_
  refine g_aload_n X dX8_hears_19 0 rfl ?_
  refine g_get X dX8_hears_20 okM_0 cl8 14 (by decide) m_832 rfl ?_
  refine g_iload_n X dX8_hears_23 1 rfl ?_
  refine g_iaload X dX8_hears_24 okM_7 hg1 ?_
  refine g_icmp_gt X dX8_hears_25 (tgt := 32) (by decide) (fun hc3 => ?_) (fun hc3 => ?_)
  · rw [if_pos hc3] at hf
    refine g_iconst X dX8_hears_32 (v := 0) rfl ?_
    refine g_sub [] rfl ?_
    exact wBX8_hears_33  X hQ  0  I J hf
  · rw [if_neg hc3] at hf
    refine g_iconst X dX8_hears_28 (v := 1) rfl ?_
    refine g_goto X dX8_hears_29 (tgt := 33) (by decide) ?_
    refine g_sub [] rfl ?_
    exact wBX8_hears_33  X hQ  1  I J hf
set_option maxRecDepth 4000 in
theorem cX8_hears_ok (l : Launch) (V : VT) (x1 : Int32)  (I : aI) (J : aJ) {q : RT Int32} (hf : fX8_hears x1 I J = some q) : Met l yX8_hears (.code yX8_hears cX8_hears 2 (some .int) :: GG) (rmD 0) (va_Pc [.ref (V.2.2 0), .int x1] (cQ mS V I J)) (QI mS V q) 0 0 (vAd mS V) :=
  met_I (by decide +kernel) rfl (Nat.le_of_ble_eq_true rfl) (fun _ _ X hQ => wX8_hears X hQ x1  I J hf)
-- X8_hearing
set_option maxRecDepth 4000 in
theorem wHX8_hearing_4 {M : MT} {V : VT}  (X : Cx M mS V cX8_hearing 3 RX8 (some .int) 1) {q : RT Int32} (hQ : PI M mS V q) (k4 : Int32 → Int32 → aI → aJ → Option (RT Int32)) (hk4 : ∀ (x1 : Int32) (x2 : Int32)  (I : aI) (J : aJ), k4 x1 x2 I J = some q → Wg M mS V 3 I J 4 [(0, .ref (V.2.2 0)), (1, .int x1), (2, .int x2)] []) (x1 : Int32) (x2 : Int32)  (I : aI) (J : aJ) (hf : HX8_hearing_4  k4 x1 x2 I J = some q) : Wg M mS V 3 I J 4 [(0, .ref (V.2.2 0)), (1, .int x1), (2, .int x2)] [] := by
  unfold HX8_hearing_4 at hf
  refine g_iload_n X dX8_hearing_4 2 rfl ?_
  refine g_aload_n X dX8_hearing_5 0 rfl ?_
  refine g_get X dX8_hearing_6 okM_0 cl8 5 (by decide) m_823 rfl ?_
  refine g_icmp_ge X dX8_hearing_9 (tgt := 26) (by decide) (fun hc1 => ?_) (fun hc1 => ?_)
  · rw [if_pos hc1] at hf
    refine g_iload_n X dX8_hearing_26 1 rfl ?_
    cases hf
    exact g_ireturn X dX8_hearing_27 hQ
  · rw [if_neg hc1] at hf
    refine g_iload_n X dX8_hearing_12 1 rfl ?_
    refine g_aload_n X dX8_hearing_13 0 rfl ?_
    refine g_iload_n X dX8_hearing_14 2 rfl ?_
    obtain ⟨r2, I2, J2, hb2, hf⟩ := bnd_some hf
    refine g_callV X dX8_hearing_15 cw_X8_169 (k := 0) (As := [.int x2]) (rcv okM_0 cl8) rfl rfl (Nat.le_of_ble_eq_true rfl) (by decide) (cX8_hears_ok  M.2.1 V x2  I J hb2) (kI ?_)
    refine g_iadd X dX8_hearing_18 ?_
    refine g_istore_n X dX8_hearing_19 (by decide) [(1, .int (x1 + r2)), (0, .ref (V.2.2 0)), (2, .int x2)] rfl ?_
    refine g_iinc X dX8_hearing_20 2 rfl 1 rfl (by decide) [(2, .int (x2 + 1)), (1, .int (x1 + r2)), (0, .ref (V.2.2 0))] rfl ?_
    refine g_goto X dX8_hearing_23 (tgt := 4) (by decide) ?_
    refine g_sub [2, 1, 0] rfl ?_
    exact hk4 (x1 + r2) (x2 + 1)  I2 J2 hf
set_option maxRecDepth 4000 in
theorem wLX8_hearing_4 {M : MT} {V : VT}  (X : Cx M mS V cX8_hearing 3 RX8 (some .int) 1) {q : RT Int32} (hQ : PI M mS V q)  : ∀ (n : Nat) (x1 : Int32) (x2 : Int32)  (I : aI) (J : aJ), LX8_hearing_4   n x1 x2 I J = some q → Wg M mS V 3 I J 4 [(0, .ref (V.2.2 0)), (1, .int x1), (2, .int x2)] [] := by
  intro n
  induction n with
  | zero => intro x1 x2  I J hf; cases hf
  | succ n ih => intro x1 x2  I J hf; exact wHX8_hearing_4  X hQ  (LX8_hearing_4   n) ih x1 x2  I J hf
set_option maxRecDepth 4000 in
theorem wX8_hearing {M : MT} {V : VT} (X : Cx M mS V cX8_hearing 3 RX8 (some .int) 1) {q : RT Int32} (hQ : PI M mS V q)   (I : aI) (J : aJ) (hf : fX8_hearing  I J = some q) : Wg M mS V 3 I J 0 [(0, .ref (V.2.2 0))] [] := by
  unfold fX8_hearing at hf
  refine g_iconst X dX8_hearing_0 (v := 0) rfl ?_
  refine g_istore_n X dX8_hearing_1 (by decide) [(1, .int 0), (0, .ref (V.2.2 0))] rfl ?_
  refine g_iconst X dX8_hearing_2 (v := 0) rfl ?_
  refine g_istore_n X dX8_hearing_3 (by decide) [(2, .int 0), (1, .int 0), (0, .ref (V.2.2 0))] rfl ?_
  refine g_sub [2, 1, 0] rfl ?_
  exact wLX8_hearing_4  X hQ  128 0 0  I J hf
set_option maxRecDepth 4000 in
theorem cX8_hearing_ok (l : Launch) (V : VT)   (I : aI) (J : aJ) {q : RT Int32} (hf : fX8_hearing  I J = some q) : Met l yX8_hearing (.code yX8_hearing cX8_hearing 3 (some .int) :: GG) (rmD 1) (va_Pc [.ref (V.2.2 0)] (cQ mS V I J)) (QI mS V q) 0 0 (vAd mS V) :=
  met_I (by decide +kernel) rfl (Nat.le_of_ble_eq_true rfl) (fun _ _ X hQ => wX8_hearing X hQ   I J hf)
-- X8_countOf
set_option maxRecDepth 4000 in
theorem wX8_countOf {M : MT} {V : VT} (X : Cx M mS V cX8_countOf 2 RX8 (some .int) 2) {q : RT Int32} (hQ : PI M mS V q) (x1 : Int32)  (I : aI) (J : aJ) (hf : fX8_countOf x1 I J = some q) : Wg M mS V 2 I J 0 [(0, .ref (V.2.2 0)), (1, .int x1)] [] := by
  unfold fX8_countOf at hf
  refine g_iload_n X dX8_countOf_0 1 rfl ?_
  by_cases hs1 : x1 = 0
  · rw [if_pos hs1] at hf
    refine g_tin X dX8_countOf_1 hs1 (by decide) (by decide) rfl (tgt := 64) (by decide) ?_
    refine g_aload_n X dX8_countOf_64 0 rfl ?_
    refine g_get X dX8_countOf_65 okM_0 cl8 3 (by decide) m_821 rfl ?_
    cases hf
    exact g_ireturn X dX8_countOf_68 hQ
  rw [if_neg hs1] at hf
  by_cases hs2 : x1 = 1
  · rw [if_pos hs2] at hf
    refine g_tin X dX8_countOf_1 hs2 (by decide) (by decide) rfl (tgt := 69) (by decide) ?_
    refine g_aload_n X dX8_countOf_69 0 rfl ?_
    refine g_get X dX8_countOf_70 okM_0 cl8 4 (by decide) m_822 rfl ?_
    cases hf
    exact g_ireturn X dX8_countOf_73 hQ
  rw [if_neg hs2] at hf
  by_cases hs3 : x1 = 2
  · rw [if_pos hs3] at hf
    refine g_tin X dX8_countOf_1 hs3 (by decide) (by decide) rfl (tgt := 74) (by decide) ?_
    refine g_aload_n X dX8_countOf_74 0 rfl ?_
    refine g_get X dX8_countOf_75 okM_0 cl8 5 (by decide) m_823 rfl ?_
    cases hf
    exact g_ireturn X dX8_countOf_78 hQ
  rw [if_neg hs3] at hf
  by_cases hs4 : x1 = 3
  · rw [if_pos hs4] at hf
    refine g_tin X dX8_countOf_1 hs4 (by decide) (by decide) rfl (tgt := 79) (by decide) ?_
    refine g_aload_n X dX8_countOf_79 0 rfl ?_
    refine g_get X dX8_countOf_80 okM_0 cl8 6 (by decide) m_824 rfl ?_
    cases hf
    exact g_ireturn X dX8_countOf_83 hQ
  rw [if_neg hs4] at hf
  by_cases hs5 : x1 = 4
  · rw [if_pos hs5] at hf
    refine g_tin X dX8_countOf_1 hs5 (by decide) (by decide) rfl (tgt := 84) (by decide) ?_
    refine g_aload_n X dX8_countOf_84 0 rfl ?_
    refine g_get X dX8_countOf_85 okM_0 cl8 7 (by decide) m_825 rfl ?_
    cases hf
    exact g_ireturn X dX8_countOf_88 hQ
  rw [if_neg hs5] at hf
  by_cases hs6 : x1 = 5
  · rw [if_pos hs6] at hf
    refine g_tin X dX8_countOf_1 hs6 (by decide) (by decide) rfl (tgt := 89) (by decide) ?_
    refine g_aload_n X dX8_countOf_89 0 rfl ?_
    refine g_aload_n X dX8_countOf_90 0 rfl ?_
    refine g_get X dX8_countOf_91 okM_0 cl8 16 (by decide) m_834 rfl ?_
    obtain ⟨r7, I7, J7, hb7, hf⟩ := bnd_some hf
    refine g_callV X dX8_countOf_94 cw_X8_285 (k := 0) (As := [.ref (V.2.2 9)]) (rcv okM_0 cl8) rfl rfl (Nat.le_of_ble_eq_true rfl) (by decide) (cX8_sumOf_ok  M.2.1 V 9 6 okM_9 I J hb7) (kI ?_)
    cases hf
    exact g_ireturn X dX8_countOf_97 hQ
  rw [if_neg hs6] at hf
  by_cases hs8 : x1 = 6
  · rw [if_pos hs8] at hf
    refine g_tin X dX8_countOf_1 hs8 (by decide) (by decide) rfl (tgt := 98) (by decide) ?_
    refine g_aload_n X dX8_countOf_98 0 rfl ?_
    refine g_aload_n X dX8_countOf_99 0 rfl ?_
    refine g_get X dX8_countOf_100 okM_0 cl8 15 (by decide) m_833 rfl ?_
    obtain ⟨r9, I9, J9, hb9, hf⟩ := bnd_some hf
    refine g_callV X dX8_countOf_103 cw_X8_285 (k := 0) (As := [.ref (V.2.2 8)]) (rcv okM_0 cl8) rfl rfl (Nat.le_of_ble_eq_true rfl) (by decide) (cX8_sumOf_ok  M.2.1 V 8 6 okM_8 I J hb9) (kI ?_)
    cases hf
    exact g_ireturn X dX8_countOf_106 hQ
  rw [if_neg hs8] at hf
  by_cases hs10 : x1 = 7
  · rw [if_pos hs10] at hf
    refine g_tin X dX8_countOf_1 hs10 (by decide) (by decide) rfl (tgt := 107) (by decide) ?_
    refine g_aload_n X dX8_countOf_107 0 rfl ?_
    obtain ⟨r11, I11, J11, hb11, hf⟩ := bnd_some hf
    refine g_callV X dX8_countOf_108 cw_X8_289 (k := 0) (As := []) (rcv okM_0 cl8) rfl rfl (Nat.le_of_ble_eq_true rfl) (by decide) (cX8_hearing_ok  M.2.1 V   I J hb11) (kI ?_)
    cases hf
    exact g_ireturn X dX8_countOf_111 hQ
  rw [if_neg hs10] at hf
  by_cases hs12 : x1 = 8
  · rw [if_pos hs12] at hf
    refine g_tin X dX8_countOf_1 hs12 (by decide) (by decide) rfl (tgt := 112) (by decide) ?_
    refine g_aload_n X dX8_countOf_112 0 rfl ?_
    refine g_get X dX8_countOf_113 okM_0 cl8 27 (by decide) m_845 rfl ?_
    cases hf
    exact g_ireturn X dX8_countOf_116 hQ
  rw [if_neg hs12] at hf
  by_cases hs13 : x1 = 9
  · rw [if_pos hs13] at hf
    refine g_tin X dX8_countOf_1 hs13 (by decide) (by decide) rfl (tgt := 117) (by decide) ?_
    refine g_aload_n X dX8_countOf_117 0 rfl ?_
    refine g_get X dX8_countOf_118 okM_0 cl8 1 (by decide) m_819 rfl ?_
    cases hf
    exact g_ireturn X dX8_countOf_121 hQ
  rw [if_neg hs13] at hf
  by_cases hs14 : x1 = 10
  · rw [if_pos hs14] at hf
    refine g_tin X dX8_countOf_1 hs14 (by decide) (by decide) rfl (tgt := 122) (by decide) ?_
    refine g_aload_n X dX8_countOf_122 0 rfl ?_
    refine g_get X dX8_countOf_123 okM_0 cl8 8 (by decide) m_826 rfl ?_
    cases hf
    exact g_ireturn X dX8_countOf_126 hQ
  rw [if_neg hs14] at hf
  by_cases hs15 : x1 = 11
  · rw [if_pos hs15] at hf
    refine g_tin X dX8_countOf_1 hs15 (by decide) (by decide) rfl (tgt := 127) (by decide) ?_
    refine g_aload_n X dX8_countOf_127 0 rfl ?_
    refine g_get X dX8_countOf_128 okM_0 cl8 24 (by decide) m_842 rfl ?_
    cases hf
    exact g_ireturn X dX8_countOf_131 hQ
  rw [if_neg hs15] at hf
  refine g_tout X dX8_countOf_1 (by have a0 := lv_neT (a := 0) hs1 rfl; have a1 := lv_neT (a := 1) hs2 rfl; have a2 := lv_neT (a := 2) hs3 rfl; have a3 := lv_neT (a := 3) hs4 rfl; have a4 := lv_neT (a := 4) hs5 rfl; have a5 := lv_neT (a := 5) hs6 rfl; have a6 := lv_neT (a := 6) hs8 rfl; have a7 := lv_neT (a := 7) hs10 rfl; have a8 := lv_neT (a := 8) hs12 rfl; have a9 := lv_neT (a := 9) hs13 rfl; have a10 := lv_neT (a := 10) hs14 rfl; have a11 := lv_neT (a := 11) hs15 rfl; omega) (tgt := 132) (by decide) ?_
  refine g_bipush X dX8_countOf_132 (v := (-102)) rfl ?_
  cases hf
  exact g_ireturn X dX8_countOf_134 hQ
set_option maxRecDepth 4000 in
theorem cX8_countOf_ok (l : Launch) (V : VT) (x1 : Int32)  (I : aI) (J : aJ) {q : RT Int32} (hf : fX8_countOf x1 I J = some q) : Met l yX8_countOf (.code yX8_countOf cX8_countOf 2 (some .int) :: GG) (rmD 2) (va_Pc [.ref (V.2.2 0), .int x1] (cQ mS V I J)) (QI mS V q) 0 0 (vAd mS V) :=
  met_I (by decide +kernel) rfl (Nat.le_of_ble_eq_true rfl) (fun _ _ X hQ => wX8_countOf X hQ x1  I J hf)
-- X8_count
set_option maxRecDepth 4000 in
theorem wX8_count {M : MT} {V : VT} (X : Cx M mS V cX8_count 2 RX8 (some .int) 3) {q : RT Int32} (hQ : PI M mS V q) (x1 : Int32)  (I : aI) (J : aJ) (hf : fX8_count x1 I J = some q) : Wg M mS V 2 I J 0 [(0, .ref (V.2.2 0)), (1, .int x1)] [] := by
  unfold fX8_count at hf
  refine g_aload_n X dX8_count_0 0 rfl ?_
  refine g_iload_n X dX8_count_1 1 rfl ?_
  obtain ⟨r1, I1, J1, hb1, hf⟩ := bnd_some hf
  refine g_callV X dX8_count_2 cw_X8_292 (k := 0) (As := [.int x1]) (rcv okM_0 cl8) rfl rfl (Nat.le_of_ble_eq_true rfl) (by decide) (cX8_countOf_ok  M.2.1 V x1  I J hb1) (kI ?_)
  cases hf
  exact g_ireturn X dX8_count_5 hQ
set_option maxRecDepth 4000 in
theorem cX8_count_ok (l : Launch) (V : VT) (x1 : Int32)  (I : aI) (J : aJ) {q : RT Int32} (hf : fX8_count x1 I J = some q) : Met l yX8_count (.code yX8_count cX8_count 2 (some .int) :: GG) (rmD 3) (va_Pc [.ref (V.2.2 0), .int x1] (cQ mS V I J)) (QI mS V q) 0 0 (vAd mS V) :=
  met_I (by decide +kernel) rfl (Nat.le_of_ble_eq_true rfl) (fun _ _ X hQ => wX8_count X hQ x1  I J hf)
-- X8_needs
set_option maxRecDepth 4000 in
theorem wBX8_needs_24 {M : MT} {V : VT}  (X : Cx M mS V cX8_needs 1 RX8 (some .int) 0) {q : RT Int32} (hQ : PI M mS V q)  (s0 : Int32)  (I : aI) (J : aJ) (hf : BX8_needs_24   s0 I J = some q) : Wg M mS V 1 I J 24 [] [.int s0] := by
  unfold BX8_needs_24 at hf
  cases hf
  exact g_ireturn X dX8_needs_24 hQ
set_option maxRecDepth 4000 in
theorem wBX8_needs_19 {M : MT} {V : VT}  (X : Cx M mS V cX8_needs 1 RX8 (some .int) 0) {q : RT Int32} (hQ : PI M mS V q)    (I : aI) (J : aJ) (hf : BX8_needs_19    I J = some q) : Wg M mS V 1 I J 19 [] [] := by
  unfold BX8_needs_19 at hf
  refine g_iconst X dX8_needs_19 (v := 2) rfl ?_
  refine g_goto X dX8_needs_20 (tgt := 24) (by decide) ?_
  exact wBX8_needs_24  X hQ  2  I J hf
set_option maxRecDepth 4000 in
theorem wX8_needs {M : MT} {V : VT} (X : Cx M mS V cX8_needs 1 RX8 (some .int) 0) {q : RT Int32} (hQ : PI M mS V q) (x0 : Int32)  (I : aI) (J : aJ) (hf : fX8_needs x0 I J = some q) : Wg M mS V 1 I J 0 [(0, .int x0)] [] := by
  unfold fX8_needs at hf
  refine g_iload_n X dX8_needs_0 0 rfl ?_
  refine g_iconst X dX8_needs_1 (v := 4) rfl ?_
  refine g_icmp_ne X dX8_needs_2 (tgt := 9) (by decide) (fun hc1 => ?_) (fun hc1 => ?_)
  · rw [if_neg hc1] at hf
    refine g_iload_n X dX8_needs_9 0 rfl ?_
    refine g_iconst X dX8_needs_10 (v := 1) rfl ?_
    refine g_icmp_eq X dX8_needs_11 (tgt := 19) (by decide) (fun hc2 => ?_) (fun hc2 => ?_)
    · rw [if_pos hc2] at hf
      refine g_sub [] rfl ?_
      exact wBX8_needs_19  X hQ    I J hf
    · rw [if_neg hc2] at hf
      refine g_iload_n X dX8_needs_14 0 rfl ?_
      refine g_iconst X dX8_needs_15 (v := 3) rfl ?_
      refine g_icmp_ne X dX8_needs_16 (tgt := 23) (by decide) (fun hc3 => ?_) (fun hc3 => ?_)
      · rw [if_neg hc3] at hf
        refine g_iconst X dX8_needs_23 (v := 1) rfl ?_
        refine g_sub [] rfl ?_
        exact wBX8_needs_24  X hQ  1  I J hf
      · rw [if_pos hc3] at hf
        refine g_sub [] rfl ?_
        exact wBX8_needs_19  X hQ    I J hf
  · rw [if_pos hc1] at hf
    refine g_iconst X dX8_needs_5 (v := 3) rfl ?_
    refine g_goto X dX8_needs_6 (tgt := 24) (by decide) ?_
    refine g_sub [] rfl ?_
    exact wBX8_needs_24  X hQ  3  I J hf
set_option maxRecDepth 4000 in
theorem cX8_needs_ok (l : Launch) (V : VT) (x0 : Int32)  (I : aI) (J : aJ) {q : RT Int32} (hf : fX8_needs x0 I J = some q) : Met l yX8_needs (.code yX8_needs cX8_needs 1 (some .int) :: GG) (rmD 0) (va_Pc [.int x0] (cQ mS V I J)) (QI mS V q) 0 0 (vAd mS V) :=
  met_I (by decide +kernel) rfl (Nat.le_of_ble_eq_true rfl) (fun _ _ X hQ => wX8_needs X hQ x0  I J hf)
-- X8_isTime
set_option maxRecDepth 4000 in
theorem wBX8_isTime_32 {M : MT} {V : VT}  (X : Cx M mS V cX8_isTime 3 RX8 (some .boolean) 0) {q : RT Int32} (hQ : PI M mS V q)  (s0 : Int32)  (I : aI) (J : aJ) (hf : BX8_isTime_32   s0 I J = some q) : Wg M mS V 3 I J 32 [] [.int s0] := by
  unfold BX8_isTime_32 at hf
  obtain ⟨hg5, hf⟩ := gd_some hf
  cases hf
  exact g_zreturn X dX8_isTime_32 (of_decide_eq_true hg5) hQ
set_option maxRecDepth 4000 in
theorem wBX8_isTime_31 {M : MT} {V : VT}  (X : Cx M mS V cX8_isTime 3 RX8 (some .boolean) 0) {q : RT Int32} (hQ : PI M mS V q)    (I : aI) (J : aJ) (hf : BX8_isTime_31    I J = some q) : Wg M mS V 3 I J 31 [] [] := by
  unfold BX8_isTime_31 at hf
  refine g_iconst X dX8_isTime_31 (v := 0) rfl ?_
  exact wBX8_isTime_32  X hQ  0  I J hf
set_option maxRecDepth 4000 in
theorem wBX8_isTime_27 {M : MT} {V : VT}  (X : Cx M mS V cX8_isTime 3 RX8 (some .boolean) 0) {q : RT Int32} (hQ : PI M mS V q)    (I : aI) (J : aJ) (hf : BX8_isTime_27    I J = some q) : Wg M mS V 3 I J 27 [] [] := by
  unfold BX8_isTime_27 at hf
  refine g_iconst X dX8_isTime_27 (v := 1) rfl ?_
  refine g_goto X dX8_isTime_28 (tgt := 32) (by decide) ?_
  exact wBX8_isTime_32  X hQ  1  I J hf
set_option maxRecDepth 4000 in
theorem wX8_isTime {M : MT} {V : VT} (X : Cx M mS V cX8_isTime 3 RX8 (some .boolean) 0) {q : RT Int32} (hQ : PI M mS V q) (x1 : Int32) (x2 : Int32)  (I : aI) (J : aJ) (hf : fX8_isTime x1 x2 I J = some q) : Wg M mS V 3 I J 0 [(0, .ref (V.2.2 0)), (1, .int x1), (2, .int x2)] [] := by
  unfold fX8_isTime at hf
  refine g_iload_n X dX8_isTime_0 2 rfl ?_
  refine g_aload_n X dX8_isTime_1 0 rfl ?_
  refine g_get X dX8_isTime_2 okM_0 cl8 13 (by decide) m_831 rfl ?_
  refine g_iload_n X dX8_isTime_5 1 rfl ?_
  obtain ⟨hg1, hf⟩ := gd_some hf
  refine g_iaload X dX8_isTime_6 okM_6 hg1 ?_
  refine g_icmp_lt X dX8_isTime_7 (tgt := 31) (by decide) (fun hc2 => ?_) (fun hc2 => ?_)
  · rw [if_pos hc2] at hf
    refine g_sub [] rfl ?_
    exact wBX8_isTime_31  X hQ    I J hf
  · rw [if_neg hc2] at hf
    refine g_aload_n X dX8_isTime_10 0 rfl ?_
    refine g_get X dX8_isTime_11 okM_0 cl8 11 (by decide) m_829 rfl ?_
    refine g_iload_n X dX8_isTime_14 1 rfl ?_
    refine g_iaload X dX8_isTime_15 okM_4 hg1 ?_
    refine g_iconst X dX8_isTime_16 (v := 2) rfl ?_
    refine g_icmp_ne X dX8_isTime_17 (tgt := 27) (by decide) (fun hc3 => ?_) (fun hc3 => ?_)
    · rw [if_neg hc3] at hf
      refine g_sub [] rfl ?_
      exact wBX8_isTime_27  X hQ    I J hf
    · rw [if_pos hc3] at hf
      refine g_iload_n X dX8_isTime_20 2 rfl ?_
      refine g_iconst X dX8_isTime_21 (v := 2) rfl ?_
      refine g_irem X dX8_isTime_22 (by decide) ?_
      refine g_iconst X dX8_isTime_23 (v := 1) rfl ?_
      refine g_icmp_ne X dX8_isTime_24 (tgt := 31) (by decide) (fun hc4 => ?_) (fun hc4 => ?_)
      · rw [if_neg hc4] at hf
        refine g_sub [] rfl ?_
        exact wBX8_isTime_31  X hQ    I J hf
      · rw [if_pos hc4] at hf
        refine g_sub [] rfl ?_
        exact wBX8_isTime_27  X hQ    I J hf
set_option maxRecDepth 4000 in
theorem cX8_isTime_ok (l : Launch) (V : VT) (x1 : Int32) (x2 : Int32)  (I : aI) (J : aJ) {q : RT Int32} (hf : fX8_isTime x1 x2 I J = some q) : Met l yX8_isTime (.code yX8_isTime cX8_isTime 3 (some .boolean) :: GG) (rmD 0) (va_Pc [.ref (V.2.2 0), .int x1, .int x2] (cQ mS V I J)) (QI mS V q) 0 0 (vAd mS V) :=
  met_I (by decide +kernel) rfl (Nat.le_of_ble_eq_true rfl) (fun _ _ X hQ => wX8_isTime X hQ x1 x2  I J hf)
-- X8_soonOf
set_option maxRecDepth 4000 in
theorem wBX8_soonOf_224 {M : MT} {V : VT}  (X : Cx M mS V cX8_soonOf 6 RX8 (some .int) 1) {q : RT Int32} (hQ : PI M mS V q) (k56 : Int32 → Int32 → aI → aJ → Option (RT Int32)) (hk56 : ∀ (x1 : Int32) (x2 : Int32)  (I : aI) (J : aJ), k56 x1 x2 I J = some q → Wg M mS V 6 I J 56 [(0, .ref (V.2.2 0)), (1, .int x1), (2, .int x2)] []) (k85 : Int32 → Int32 → Int32 → aI → aJ → Option (RT Int32)) (hk85 : ∀ (x1 : Int32) (x2 : Int32) (x3 : Int32)  (I : aI) (J : aJ), k85 x1 x2 x3 I J = some q → Wg M mS V 6 I J 85 [(0, .ref (V.2.2 0)), (1, .int x1), (2, .int x2), (3, .int x3)] []) (x1 : Int32) (x2 : Int32) (x3 : Int32)  (I : aI) (J : aJ) (hf : BX8_soonOf_224  k56 k85 x1 x2 x3 I J = some q) : Wg M mS V 6 I J 224 [(0, .ref (V.2.2 0)), (1, .int x1), (2, .int x2), (3, .int x3)] [] := by
  unfold BX8_soonOf_224 at hf
  refine g_iinc X dX8_soonOf_224 3 rfl 1 rfl (by decide) [(3, .int (x3 + 1)), (0, .ref (V.2.2 0)), (1, .int x1), (2, .int x2)] rfl ?_
  refine g_goto X dX8_soonOf_227 (tgt := 85) (by decide) ?_
  refine g_sub [1, 2, 3, 0] rfl ?_
  exact hk85 x1 x2 (x3 + 1)  I J hf
set_option maxRecDepth 4000 in
theorem wBX8_soonOf_218 {M : MT} {V : VT}  (X : Cx M mS V cX8_soonOf 6 RX8 (some .int) 1) {q : RT Int32} (hQ : PI M mS V q) (k56 : Int32 → Int32 → aI → aJ → Option (RT Int32)) (hk56 : ∀ (x1 : Int32) (x2 : Int32)  (I : aI) (J : aJ), k56 x1 x2 I J = some q → Wg M mS V 6 I J 56 [(0, .ref (V.2.2 0)), (1, .int x1), (2, .int x2)] []) (k85 : Int32 → Int32 → Int32 → aI → aJ → Option (RT Int32)) (hk85 : ∀ (x1 : Int32) (x2 : Int32) (x3 : Int32)  (I : aI) (J : aJ), k85 x1 x2 x3 I J = some q → Wg M mS V 6 I J 85 [(0, .ref (V.2.2 0)), (1, .int x1), (2, .int x2), (3, .int x3)] []) (k98 : Int32 → Int32 → Int32 → Int32 → aI → aJ → Option (RT Int32)) (hk98 : ∀ (x1 : Int32) (x2 : Int32) (x3 : Int32) (x4 : Int32)  (I : aI) (J : aJ), k98 x1 x2 x3 x4 I J = some q → Wg M mS V 6 I J 98 [(0, .ref (V.2.2 0)), (1, .int x1), (2, .int x2), (3, .int x3), (4, .int x4)] []) (x1 : Int32) (x2 : Int32) (x3 : Int32) (x4 : Int32)  (I : aI) (J : aJ) (hf : BX8_soonOf_218  k56 k85 k98 x1 x2 x3 x4 I J = some q) : Wg M mS V 6 I J 218 [(0, .ref (V.2.2 0)), (1, .int x1), (2, .int x2), (3, .int x3), (4, .int x4)] [] := by
  unfold BX8_soonOf_218 at hf
  refine g_iinc X dX8_soonOf_218 4 rfl 1 rfl (by decide) [(4, .int (x4 + 1)), (0, .ref (V.2.2 0)), (1, .int x1), (2, .int x2), (3, .int x3)] rfl ?_
  refine g_goto X dX8_soonOf_221 (tgt := 98) (by decide) ?_
  refine g_sub [1, 2, 3, 4, 0] rfl ?_
  exact hk98 x1 x2 x3 (x4 + 1)  I J hf
set_option maxRecDepth 4000 in
theorem wBX8_soonOf_187 {M : MT} {V : VT}  (X : Cx M mS V cX8_soonOf 6 RX8 (some .int) 1) {q : RT Int32} (hQ : PI M mS V q) (k56 : Int32 → Int32 → aI → aJ → Option (RT Int32)) (hk56 : ∀ (x1 : Int32) (x2 : Int32)  (I : aI) (J : aJ), k56 x1 x2 I J = some q → Wg M mS V 6 I J 56 [(0, .ref (V.2.2 0)), (1, .int x1), (2, .int x2)] []) (k85 : Int32 → Int32 → Int32 → aI → aJ → Option (RT Int32)) (hk85 : ∀ (x1 : Int32) (x2 : Int32) (x3 : Int32)  (I : aI) (J : aJ), k85 x1 x2 x3 I J = some q → Wg M mS V 6 I J 85 [(0, .ref (V.2.2 0)), (1, .int x1), (2, .int x2), (3, .int x3)] []) (k98 : Int32 → Int32 → Int32 → Int32 → aI → aJ → Option (RT Int32)) (hk98 : ∀ (x1 : Int32) (x2 : Int32) (x3 : Int32) (x4 : Int32)  (I : aI) (J : aJ), k98 x1 x2 x3 x4 I J = some q → Wg M mS V 6 I J 98 [(0, .ref (V.2.2 0)), (1, .int x1), (2, .int x2), (3, .int x3), (4, .int x4)] []) (x1 : Int32) (x2 : Int32) (x3 : Int32) (x4 : Int32) (s0 : Int32)  (I : aI) (J : aJ) (hf : BX8_soonOf_187  k56 k85 k98 x1 x2 x3 x4 s0 I J = some q) : Wg M mS V 6 I J 187 [(0, .ref (V.2.2 0)), (1, .int x1), (2, .int x2), (3, .int x3), (4, .int x4)] [.int s0] := by
  unfold BX8_soonOf_187 at hf
  refine g_istore X dX8_soonOf_187 (by decide) [(5, .int s0), (0, .ref (V.2.2 0)), (1, .int x1), (2, .int x2), (3, .int x3), (4, .int x4)] rfl ?_
  refine g_iload X dX8_soonOf_189 0 rfl ?_
  refine g_aload_n X dX8_soonOf_191 1 rfl ?_
  refine g_get X dX8_soonOf_192 okM_0 cl8 11 (by decide) m_829 rfl ?_
  refine g_iload_n X dX8_soonOf_195 2 rfl ?_
  obtain ⟨hg21, hf⟩ := gd_some hf
  refine g_iaload X dX8_soonOf_196 okM_4 hg21 ?_
  obtain ⟨r22, I22, J22, hb22, hf⟩ := bnd_some hf
  refine g_callS X dX8_soonOf_197 sw_X8_163 (As := [.int (I 4 (Int32.toNatClampNeg x1))]) rfl rfl (Nat.le_of_ble_eq_true rfl) (by decide) (cX8_needs_ok  M.2.1 V (I 4 (Int32.toNatClampNeg x1))  I J hb22) (kI ?_)
  refine g_icmp_lt X dX8_soonOf_200 (tgt := 205) (by decide) (fun hc23 => ?_) (fun hc23 => ?_)
  · rw [if_pos hc23] at hf
    refine g_aload_n X dX8_soonOf_205 1 rfl ?_
    refine g_get X dX8_soonOf_206 okM_0 cl8 21 (by decide) m_839 rfl ?_
    refine g_iconst X dX8_soonOf_209 (v := 4) rfl ?_
    refine g_iload X dX8_soonOf_210 5 rfl ?_
    refine g_imul X dX8_soonOf_212 ?_
    refine g_iload X dX8_soonOf_213 0 rfl ?_
    refine g_iadd X dX8_soonOf_215 ?_
    refine g_iconst X dX8_soonOf_216 (v := 1) rfl ?_
    obtain ⟨hg24, hf⟩ := gd_some hf
    refine g_iastore X dX8_soonOf_217 okM_14 hg24 ?_
    refine g_sub [1, 2, 3, 4, 5] rfl ?_
    exact wBX8_soonOf_218  X hQ k56 hk56 k85 hk85 k98 hk98 x1 x2 x3 x4  (pI I22 14 (Int32.toNatClampNeg ((4 * x4) + s0)) 1) J22 hf
  · rw [if_neg hc23] at hf
    refine g_iload_n X dX8_soonOf_203 3 rfl ?_
    cases hf
    exact g_ireturn X dX8_soonOf_204 hQ
set_option maxRecDepth 4000 in
theorem wHX8_soonOf_98 {M : MT} {V : VT}  (X : Cx M mS V cX8_soonOf 6 RX8 (some .int) 1) {q : RT Int32} (hQ : PI M mS V q) (k56 : Int32 → Int32 → aI → aJ → Option (RT Int32)) (hk56 : ∀ (x1 : Int32) (x2 : Int32)  (I : aI) (J : aJ), k56 x1 x2 I J = some q → Wg M mS V 6 I J 56 [(0, .ref (V.2.2 0)), (1, .int x1), (2, .int x2)] []) (k85 : Int32 → Int32 → Int32 → aI → aJ → Option (RT Int32)) (hk85 : ∀ (x1 : Int32) (x2 : Int32) (x3 : Int32)  (I : aI) (J : aJ), k85 x1 x2 x3 I J = some q → Wg M mS V 6 I J 85 [(0, .ref (V.2.2 0)), (1, .int x1), (2, .int x2), (3, .int x3)] []) (k98 : Int32 → Int32 → Int32 → Int32 → aI → aJ → Option (RT Int32)) (hk98 : ∀ (x1 : Int32) (x2 : Int32) (x3 : Int32) (x4 : Int32)  (I : aI) (J : aJ), k98 x1 x2 x3 x4 I J = some q → Wg M mS V 6 I J 98 [(0, .ref (V.2.2 0)), (1, .int x1), (2, .int x2), (3, .int x3), (4, .int x4)] []) (x1 : Int32) (x2 : Int32) (x3 : Int32) (x4 : Int32)  (I : aI) (J : aJ) (hf : HX8_soonOf_98  k56 k85 k98 x1 x2 x3 x4 I J = some q) : Wg M mS V 6 I J 98 [(0, .ref (V.2.2 0)), (1, .int x1), (2, .int x2), (3, .int x3), (4, .int x4)] [] := by
  unfold HX8_soonOf_98 at hf
  refine g_iload X dX8_soonOf_98 4 rfl ?_
  refine g_aload_n X dX8_soonOf_100 0 rfl ?_
  refine g_get X dX8_soonOf_101 okM_0 cl8 3 (by decide) m_821 rfl ?_
  refine g_icmp_ge X dX8_soonOf_104 (tgt := 224) (by decide) (fun hc11 => ?_) (fun hc11 => ?_)
  · rw [if_pos hc11] at hf
    refine g_sub [0, 1, 2, 3] rfl ?_
    exact wBX8_soonOf_224  X hQ k56 hk56 k85 hk85 x1 x2 x3  I J hf
  · rw [if_neg hc11] at hf
    refine g_aload_n X dX8_soonOf_107 0 rfl ?_
    refine g_get X dX8_soonOf_108 okM_0 cl8 20 (by decide) m_838 rfl ?_
    refine g_iload_n X dX8_soonOf_111 3 rfl ?_
    obtain ⟨hg12, hf⟩ := gd_some hf
    refine g_iaload X dX8_soonOf_112 okM_13 hg12 ?_
    refine g_iconst X dX8_soonOf_113 (v := 1) rfl ?_
    refine g_icmp_ne X dX8_soonOf_114 (tgt := 224) (by decide) (fun hc13 => ?_) (fun hc13 => ?_)
    · rw [if_neg hc13] at hf
      refine g_sub [0, 1, 2, 3] rfl ?_
      exact wBX8_soonOf_224  X hQ k56 hk56 k85 hk85 x1 x2 x3  I J hf
    · rw [if_pos hc13] at hf
      refine g_aload_n X dX8_soonOf_117 0 rfl ?_
      refine g_iload_n X dX8_soonOf_118 3 rfl ?_
      refine g_iconst X dX8_soonOf_119 (v := 4) rfl ?_
      refine g_idiv X dX8_soonOf_120 (by decide) ?_
      refine g_iload X dX8_soonOf_121 4 rfl ?_
      obtain ⟨r14, I14, J14, hb14, hf⟩ := bnd_some hf
      refine g_callV X dX8_soonOf_123 cw_X8_166 (k := 0) (As := [.int (x3 / 4), .int x4]) (rcv okM_0 cl8) rfl rfl (Nat.le_of_ble_eq_true rfl) (by decide) (cX8_isNext_ok  M.2.1 V (x3 / 4) x4  I J hb14) (kI ?_)
      refine g_if_eq X dX8_soonOf_126 (tgt := 218) (by decide) (fun hc15 => ?_) (fun hc15 => ?_)
      · rw [if_pos hc15] at hf
        exact wBX8_soonOf_218  X hQ k56 hk56 k85 hk85 k98 hk98 x1 x2 x3 x4  I14 J14 hf
      · rw [if_neg hc15] at hf
        refine g_iload_n X dX8_soonOf_129 3 rfl ?_
        refine g_iconst X dX8_soonOf_130 (v := 4) rfl ?_
        refine g_irem X dX8_soonOf_131 (by decide) ?_
        refine g_istore X dX8_soonOf_132 (by decide) [(5, .int (x3 - x3 / 4 * 4)), (0, .ref (V.2.2 0)), (1, .int x1), (2, .int x2), (3, .int x3), (4, .int x4)] rfl ?_
        refine g_iload X dX8_soonOf_134 5 rfl ?_
        refine g_aload_n X dX8_soonOf_136 1 rfl ?_
        refine g_get X dX8_soonOf_137 okM_0 cl8 12 (by decide) m_830 rfl ?_
        refine g_iload_n X dX8_soonOf_140 2 rfl ?_
        obtain ⟨hg16, hf⟩ := gd_some hf
        refine g_iaload X dX8_soonOf_141 okM_5 hg16 ?_
        refine g_icmp_eq X dX8_soonOf_142 (tgt := 164) (by decide) (fun hc17 => ?_) (fun hc17 => ?_)
        · rw [if_pos hc17] at hf
          refine g_aload_n X dX8_soonOf_164 1 rfl ?_
          refine g_iload_n X dX8_soonOf_165 2 rfl ?_
          refine g_aload_n X dX8_soonOf_166 1 rfl ?_
          refine g_get X dX8_soonOf_167 okM_0 cl8 7 (by decide) m_825 rfl ?_
          refine g_iload_n X dX8_soonOf_170 3 rfl ?_
          refine g_iadd X dX8_soonOf_171 ?_
          obtain ⟨r18, I18, J18, hb18, hf⟩ := bnd_some hf
          refine g_callV X dX8_soonOf_172 cw_X8_159 (k := 0) (As := [.int x1, .int ((I14 0 7) + x2)]) (rcv okM_0 cl8) rfl rfl (Nat.le_of_ble_eq_true rfl) (by decide) (cX8_isTime_ok  M.2.1 V x1 ((I14 0 7) + x2)  I14 J14 hb18) (kI ?_)
          refine g_if_eq X dX8_soonOf_175 (tgt := 185) (by decide) (fun hc19 => ?_) (fun hc19 => ?_)
          · rw [if_pos hc19] at hf
            refine g_iload X dX8_soonOf_185 0 rfl ?_
            refine g_sub [1, 2, 3, 4, 5] rfl ?_
            exact wBX8_soonOf_187  X hQ k56 hk56 k85 hk85 k98 hk98 x1 x2 x3 x4 (x3 - x3 / 4 * 4)  I18 J18 hf
          · rw [if_neg hc19] at hf
            refine g_iload X dX8_soonOf_178 0 rfl ?_
            refine g_iconst X dX8_soonOf_180 (v := 1) rfl ?_
            refine g_iadd X dX8_soonOf_181 ?_
            refine g_goto X dX8_soonOf_182 (tgt := 187) (by decide) ?_
            refine g_sub [1, 2, 3, 4, 5] rfl ?_
            exact wBX8_soonOf_187  X hQ k56 hk56 k85 hk85 k98 hk98 x1 x2 x3 x4 ((x3 - x3 / 4 * 4) + 1)  I18 J18 hf
        · rw [if_neg hc17] at hf
          refine g_aload_n X dX8_soonOf_145 1 rfl ?_
          refine g_get X dX8_soonOf_146 okM_0 cl8 11 (by decide) m_829 rfl ?_
          refine g_iload_n X dX8_soonOf_149 2 rfl ?_
          refine g_iaload X dX8_soonOf_150 okM_4 hg16 ?_
          refine g_iconst X dX8_soonOf_151 (v := 3) rfl ?_
          refine g_icmp_ne X dX8_soonOf_152 (tgt := 159) (by decide) (fun hc20 => ?_) (fun hc20 => ?_)
          · rw [if_neg hc20] at hf
            refine g_iload X dX8_soonOf_159 0 rfl ?_
            refine g_goto X dX8_soonOf_161 (tgt := 187) (by decide) ?_
            refine g_sub [1, 2, 3, 4, 5] rfl ?_
            exact wBX8_soonOf_187  X hQ k56 hk56 k85 hk85 k98 hk98 x1 x2 x3 x4 (x3 - x3 / 4 * 4)  I14 J14 hf
          · rw [if_pos hc20] at hf
            refine g_iconst X dX8_soonOf_155 (v := 0) rfl ?_
            refine g_goto X dX8_soonOf_156 (tgt := 187) (by decide) ?_
            refine g_sub [1, 2, 3, 4, 5] rfl ?_
            exact wBX8_soonOf_187  X hQ k56 hk56 k85 hk85 k98 hk98 x1 x2 x3 x4 0  I14 J14 hf
set_option maxRecDepth 4000 in
theorem wLX8_soonOf_98 {M : MT} {V : VT}  (X : Cx M mS V cX8_soonOf 6 RX8 (some .int) 1) {q : RT Int32} (hQ : PI M mS V q) (k56 : Int32 → Int32 → aI → aJ → Option (RT Int32)) (hk56 : ∀ (x1 : Int32) (x2 : Int32)  (I : aI) (J : aJ), k56 x1 x2 I J = some q → Wg M mS V 6 I J 56 [(0, .ref (V.2.2 0)), (1, .int x1), (2, .int x2)] []) (k85 : Int32 → Int32 → Int32 → aI → aJ → Option (RT Int32)) (hk85 : ∀ (x1 : Int32) (x2 : Int32) (x3 : Int32)  (I : aI) (J : aJ), k85 x1 x2 x3 I J = some q → Wg M mS V 6 I J 85 [(0, .ref (V.2.2 0)), (1, .int x1), (2, .int x2), (3, .int x3)] []) : ∀ (n : Nat) (x1 : Int32) (x2 : Int32) (x3 : Int32) (x4 : Int32)  (I : aI) (J : aJ), LX8_soonOf_98  k56 k85 n x1 x2 x3 x4 I J = some q → Wg M mS V 6 I J 98 [(0, .ref (V.2.2 0)), (1, .int x1), (2, .int x2), (3, .int x3), (4, .int x4)] [] := by
  intro n
  induction n with
  | zero => intro x1 x2 x3 x4  I J hf; cases hf
  | succ n ih => intro x1 x2 x3 x4  I J hf; exact wHX8_soonOf_98  X hQ k56 hk56 k85 hk85 (LX8_soonOf_98  k56 k85 n) ih x1 x2 x3 x4  I J hf
set_option maxRecDepth 4000 in
theorem wHX8_soonOf_85 {M : MT} {V : VT}  (X : Cx M mS V cX8_soonOf 6 RX8 (some .int) 1) {q : RT Int32} (hQ : PI M mS V q) (k56 : Int32 → Int32 → aI → aJ → Option (RT Int32)) (hk56 : ∀ (x1 : Int32) (x2 : Int32)  (I : aI) (J : aJ), k56 x1 x2 I J = some q → Wg M mS V 6 I J 56 [(0, .ref (V.2.2 0)), (1, .int x1), (2, .int x2)] []) (k85 : Int32 → Int32 → Int32 → aI → aJ → Option (RT Int32)) (hk85 : ∀ (x1 : Int32) (x2 : Int32) (x3 : Int32)  (I : aI) (J : aJ), k85 x1 x2 x3 I J = some q → Wg M mS V 6 I J 85 [(0, .ref (V.2.2 0)), (1, .int x1), (2, .int x2), (3, .int x3)] []) (x1 : Int32) (x2 : Int32) (x3 : Int32)  (I : aI) (J : aJ) (hf : HX8_soonOf_85  k56 k85 x1 x2 x3 I J = some q) : Wg M mS V 6 I J 85 [(0, .ref (V.2.2 0)), (1, .int x1), (2, .int x2), (3, .int x3)] [] := by
  unfold HX8_soonOf_85 at hf
  refine g_iload_n X dX8_soonOf_85 3 rfl ?_
  refine g_iconst X dX8_soonOf_86 (v := 4) rfl ?_
  refine g_aload_n X dX8_soonOf_87 0 rfl ?_
  refine g_get X dX8_soonOf_88 okM_0 cl8 3 (by decide) m_821 rfl ?_
  refine g_imul X dX8_soonOf_91 ?_
  refine g_icmp_ge X dX8_soonOf_92 (tgt := 230) (by decide) (fun hc9 => ?_) (fun hc9 => ?_)
  · rw [if_pos hc9] at hf
    refine g_aload_n X dX8_soonOf_230 0 rfl ?_
    refine g_get X dX8_soonOf_231 okM_0 cl8 21 (by decide) m_839 rfl ?_
    refine g_aload_n X dX8_soonOf_234 0 rfl ?_
    refine g_get X dX8_soonOf_235 okM_0 cl8 20 (by decide) m_838 rfl ?_
    obtain ⟨r10, I10, J10, hb10, hf⟩ := bnd_some hf
    refine g_callS X dX8_soonOf_238 sw_X8_155 (As := [.ref (V.2.2 14), .ref (V.2.2 13)]) rfl rfl (Nat.le_of_ble_eq_true rfl) (by decide) (cX8_copy_ok  M.2.1 V 14 24 13 24 okM_14 okM_13 I J hb10) (kV ?_)
    refine g_iinc X dX8_soonOf_241 2 rfl 1 rfl (by decide) [(2, .int (x2 + 1)), (0, .ref (V.2.2 0)), (1, .int x1), (3, .int x3)] rfl ?_
    refine g_goto X dX8_soonOf_244 (tgt := 56) (by decide) ?_
    refine g_sub [1, 2, 0] rfl ?_
    exact hk56 x1 (x2 + 1)  I10 J10 hf
  · rw [if_neg hc9] at hf
    refine g_iconst X dX8_soonOf_95 (v := 0) rfl ?_
    refine g_istore X dX8_soonOf_96 (by decide) [(4, .int 0), (0, .ref (V.2.2 0)), (1, .int x1), (2, .int x2), (3, .int x3)] rfl ?_
    refine g_sub [1, 2, 3, 4, 0] rfl ?_
    exact wLX8_soonOf_98  X hQ k56 hk56 k85 hk85 128 x1 x2 x3 0  I J hf
set_option maxRecDepth 4000 in
theorem wLX8_soonOf_85 {M : MT} {V : VT}  (X : Cx M mS V cX8_soonOf 6 RX8 (some .int) 1) {q : RT Int32} (hQ : PI M mS V q) (k56 : Int32 → Int32 → aI → aJ → Option (RT Int32)) (hk56 : ∀ (x1 : Int32) (x2 : Int32)  (I : aI) (J : aJ), k56 x1 x2 I J = some q → Wg M mS V 6 I J 56 [(0, .ref (V.2.2 0)), (1, .int x1), (2, .int x2)] []) : ∀ (n : Nat) (x1 : Int32) (x2 : Int32) (x3 : Int32)  (I : aI) (J : aJ), LX8_soonOf_85  k56 n x1 x2 x3 I J = some q → Wg M mS V 6 I J 85 [(0, .ref (V.2.2 0)), (1, .int x1), (2, .int x2), (3, .int x3)] [] := by
  intro n
  induction n with
  | zero => intro x1 x2 x3  I J hf; cases hf
  | succ n ih => intro x1 x2 x3  I J hf; exact wHX8_soonOf_85  X hQ k56 hk56 (LX8_soonOf_85  k56 n) ih x1 x2 x3  I J hf
set_option maxRecDepth 4000 in
theorem wHX8_soonOf_64 {M : MT} {V : VT}  (X : Cx M mS V cX8_soonOf 6 RX8 (some .int) 1) {q : RT Int32} (hQ : PI M mS V q) (k56 : Int32 → Int32 → aI → aJ → Option (RT Int32)) (hk56 : ∀ (x1 : Int32) (x2 : Int32)  (I : aI) (J : aJ), k56 x1 x2 I J = some q → Wg M mS V 6 I J 56 [(0, .ref (V.2.2 0)), (1, .int x1), (2, .int x2)] []) (k64 : Int32 → Int32 → Int32 → aI → aJ → Option (RT Int32)) (hk64 : ∀ (x1 : Int32) (x2 : Int32) (x3 : Int32)  (I : aI) (J : aJ), k64 x1 x2 x3 I J = some q → Wg M mS V 6 I J 64 [(0, .ref (V.2.2 0)), (1, .int x1), (2, .int x2), (3, .int x3)] []) (x1 : Int32) (x2 : Int32) (x3 : Int32)  (I : aI) (J : aJ) (hf : HX8_soonOf_64  k56 k64 x1 x2 x3 I J = some q) : Wg M mS V 6 I J 64 [(0, .ref (V.2.2 0)), (1, .int x1), (2, .int x2), (3, .int x3)] [] := by
  unfold HX8_soonOf_64 at hf
  refine g_iload_n X dX8_soonOf_64 3 rfl ?_
  refine g_bipush X dX8_soonOf_65 (v := 24) rfl ?_
  refine g_icmp_ge X dX8_soonOf_67 (tgt := 83) (by decide) (fun hc7 => ?_) (fun hc7 => ?_)
  · rw [if_pos hc7] at hf
    refine g_iconst X dX8_soonOf_83 (v := 0) rfl ?_
    refine g_istore_n X dX8_soonOf_84 (by decide) [(3, .int 0), (0, .ref (V.2.2 0)), (1, .int x1), (2, .int x2)] rfl ?_
    refine g_sub [1, 2, 3, 0] rfl ?_
    exact wLX8_soonOf_85  X hQ k56 hk56 128 x1 x2 0  I J hf
  · rw [if_neg hc7] at hf
    refine g_aload_n X dX8_soonOf_70 0 rfl ?_
    refine g_get X dX8_soonOf_71 okM_0 cl8 21 (by decide) m_839 rfl ?_
    refine g_iload_n X dX8_soonOf_74 3 rfl ?_
    refine g_iconst X dX8_soonOf_75 (v := 0) rfl ?_
    obtain ⟨hg8, hf⟩ := gd_some hf
    refine g_iastore X dX8_soonOf_76 okM_14 hg8 ?_
    refine g_iinc X dX8_soonOf_77 3 rfl 1 rfl (by decide) [(3, .int (x3 + 1)), (0, .ref (V.2.2 0)), (1, .int x1), (2, .int x2)] rfl ?_
    refine g_goto X dX8_soonOf_80 (tgt := 64) (by decide) ?_
    refine g_sub [1, 2, 3, 0] rfl ?_
    exact hk64 x1 x2 (x3 + 1)  (pI I 14 (Int32.toNatClampNeg x3) 0) J hf
set_option maxRecDepth 4000 in
theorem wLX8_soonOf_64 {M : MT} {V : VT}  (X : Cx M mS V cX8_soonOf 6 RX8 (some .int) 1) {q : RT Int32} (hQ : PI M mS V q) (k56 : Int32 → Int32 → aI → aJ → Option (RT Int32)) (hk56 : ∀ (x1 : Int32) (x2 : Int32)  (I : aI) (J : aJ), k56 x1 x2 I J = some q → Wg M mS V 6 I J 56 [(0, .ref (V.2.2 0)), (1, .int x1), (2, .int x2)] []) : ∀ (n : Nat) (x1 : Int32) (x2 : Int32) (x3 : Int32)  (I : aI) (J : aJ), LX8_soonOf_64  k56 n x1 x2 x3 I J = some q → Wg M mS V 6 I J 64 [(0, .ref (V.2.2 0)), (1, .int x1), (2, .int x2), (3, .int x3)] [] := by
  intro n
  induction n with
  | zero => intro x1 x2 x3  I J hf; cases hf
  | succ n ih => intro x1 x2 x3  I J hf; exact wHX8_soonOf_64  X hQ k56 hk56 (LX8_soonOf_64  k56 n) ih x1 x2 x3  I J hf
set_option maxRecDepth 4000 in
theorem wHX8_soonOf_56 {M : MT} {V : VT}  (X : Cx M mS V cX8_soonOf 6 RX8 (some .int) 1) {q : RT Int32} (hQ : PI M mS V q) (k56 : Int32 → Int32 → aI → aJ → Option (RT Int32)) (hk56 : ∀ (x1 : Int32) (x2 : Int32)  (I : aI) (J : aJ), k56 x1 x2 I J = some q → Wg M mS V 6 I J 56 [(0, .ref (V.2.2 0)), (1, .int x1), (2, .int x2)] []) (x1 : Int32) (x2 : Int32)  (I : aI) (J : aJ) (hf : HX8_soonOf_56  k56 x1 x2 I J = some q) : Wg M mS V 6 I J 56 [(0, .ref (V.2.2 0)), (1, .int x1), (2, .int x2)] [] := by
  unfold HX8_soonOf_56 at hf
  refine g_iload_n X dX8_soonOf_56 2 rfl ?_
  refine g_bipush X dX8_soonOf_57 (v := 41) rfl ?_
  refine g_icmp_ge X dX8_soonOf_59 (tgt := 247) (by decide) (fun hc6 => ?_) (fun hc6 => ?_)
  · rw [if_pos hc6] at hf
    refine g_iconst X dX8_soonOf_247 (v := (-1)) rfl ?_
    cases hf
    exact g_ireturn X dX8_soonOf_248 hQ
  · rw [if_neg hc6] at hf
    refine g_iconst X dX8_soonOf_62 (v := 0) rfl ?_
    refine g_istore_n X dX8_soonOf_63 (by decide) [(3, .int 0), (0, .ref (V.2.2 0)), (1, .int x1), (2, .int x2)] rfl ?_
    refine g_sub [1, 2, 3, 0] rfl ?_
    exact wLX8_soonOf_64  X hQ k56 hk56 128 x1 x2 0  I J hf
set_option maxRecDepth 4000 in
theorem wLX8_soonOf_56 {M : MT} {V : VT}  (X : Cx M mS V cX8_soonOf 6 RX8 (some .int) 1) {q : RT Int32} (hQ : PI M mS V q)  : ∀ (n : Nat) (x1 : Int32) (x2 : Int32)  (I : aI) (J : aJ), LX8_soonOf_56   n x1 x2 I J = some q → Wg M mS V 6 I J 56 [(0, .ref (V.2.2 0)), (1, .int x1), (2, .int x2)] [] := by
  intro n
  induction n with
  | zero => intro x1 x2  I J hf; cases hf
  | succ n ih => intro x1 x2  I J hf; exact wHX8_soonOf_56  X hQ  (LX8_soonOf_56   n) ih x1 x2  I J hf
set_option maxRecDepth 4000 in
theorem wBX8_soonOf_47 {M : MT} {V : VT}  (X : Cx M mS V cX8_soonOf 6 RX8 (some .int) 1) {q : RT Int32} (hQ : PI M mS V q) (k14 : Int32 → Int32 → aI → aJ → Option (RT Int32)) (hk14 : ∀ (x1 : Int32) (x2 : Int32)  (I : aI) (J : aJ), k14 x1 x2 I J = some q → Wg M mS V 6 I J 14 [(0, .ref (V.2.2 0)), (1, .int x1), (2, .int x2)] []) (x1 : Int32) (x2 : Int32) (s0 : Int32) (s1 : Int32)  (I : aI) (J : aJ) (hf : BX8_soonOf_47  k14 x1 x2 s0 s1 I J = some q) : Wg M mS V 6 I J 47 [(0, .ref (V.2.2 0)), (1, .int x1), (2, .int x2)] [.int s0, .int s1, .ref (V.2.2 13)] := by
  unfold BX8_soonOf_47 at hf
  obtain ⟨hg25, hf⟩ := gd_some hf
  refine g_iastore X dX8_soonOf_47 okM_13 hg25 ?_
  refine g_iinc X dX8_soonOf_48 2 rfl 1 rfl (by decide) [(2, .int (x2 + 1)), (0, .ref (V.2.2 0)), (1, .int x1)] rfl ?_
  refine g_goto X dX8_soonOf_51 (tgt := 14) (by decide) ?_
  refine g_sub [1, 2, 0] rfl ?_
  exact hk14 x1 (x2 + 1)  (pI I 13 (Int32.toNatClampNeg s1) s0) J hf
set_option maxRecDepth 4000 in
theorem wHX8_soonOf_14 {M : MT} {V : VT}  (X : Cx M mS V cX8_soonOf 6 RX8 (some .int) 1) {q : RT Int32} (hQ : PI M mS V q) (k14 : Int32 → Int32 → aI → aJ → Option (RT Int32)) (hk14 : ∀ (x1 : Int32) (x2 : Int32)  (I : aI) (J : aJ), k14 x1 x2 I J = some q → Wg M mS V 6 I J 14 [(0, .ref (V.2.2 0)), (1, .int x1), (2, .int x2)] []) (x1 : Int32) (x2 : Int32)  (I : aI) (J : aJ) (hf : HX8_soonOf_14  k14 x1 x2 I J = some q) : Wg M mS V 6 I J 14 [(0, .ref (V.2.2 0)), (1, .int x1), (2, .int x2)] [] := by
  unfold HX8_soonOf_14 at hf
  refine g_iload_n X dX8_soonOf_14 2 rfl ?_
  refine g_bipush X dX8_soonOf_15 (v := 24) rfl ?_
  refine g_icmp_ge X dX8_soonOf_17 (tgt := 54) (by decide) (fun hc3 => ?_) (fun hc3 => ?_)
  · rw [if_pos hc3] at hf
    refine g_iconst X dX8_soonOf_54 (v := 1) rfl ?_
    refine g_istore_n X dX8_soonOf_55 (by decide) [(2, .int 1), (0, .ref (V.2.2 0)), (1, .int x1)] rfl ?_
    refine g_sub [1, 2, 0] rfl ?_
    exact wLX8_soonOf_56  X hQ  128 x1 1  I J hf
  · rw [if_neg hc3] at hf
    refine g_aload_n X dX8_soonOf_20 0 rfl ?_
    refine g_get X dX8_soonOf_21 okM_0 cl8 20 (by decide) m_838 rfl ?_
    refine g_iload_n X dX8_soonOf_24 2 rfl ?_
    refine g_iload_n X dX8_soonOf_25 2 rfl ?_
    refine g_iconst X dX8_soonOf_26 (v := 4) rfl ?_
    refine g_aload_n X dX8_soonOf_27 0 rfl ?_
    refine g_get X dX8_soonOf_28 okM_0 cl8 6 (by decide) m_824 rfl ?_
    refine g_imul X dX8_soonOf_31 ?_
    refine g_aload_n X dX8_soonOf_32 0 rfl ?_
    refine g_get X dX8_soonOf_33 okM_0 cl8 15 (by decide) m_833 rfl ?_
    refine g_iload_n X dX8_soonOf_36 1 rfl ?_
    obtain ⟨hg4, hf⟩ := gd_some hf
    refine g_iaload X dX8_soonOf_37 okM_8 hg4 ?_
    refine g_iadd X dX8_soonOf_38 ?_
    refine g_icmp_ne X dX8_soonOf_39 (tgt := 46) (by decide) (fun hc5 => ?_) (fun hc5 => ?_)
    · rw [if_neg hc5] at hf
      refine g_iconst X dX8_soonOf_46 (v := 0) rfl ?_
      exact wBX8_soonOf_47  X hQ k14 hk14 x1 x2 0 x2  I J hf
    · rw [if_pos hc5] at hf
      refine g_iconst X dX8_soonOf_42 (v := 1) rfl ?_
      refine g_goto X dX8_soonOf_43 (tgt := 47) (by decide) ?_
      exact wBX8_soonOf_47  X hQ k14 hk14 x1 x2 1 x2  I J hf
set_option maxRecDepth 4000 in
theorem wLX8_soonOf_14 {M : MT} {V : VT}  (X : Cx M mS V cX8_soonOf 6 RX8 (some .int) 1) {q : RT Int32} (hQ : PI M mS V q)  : ∀ (n : Nat) (x1 : Int32) (x2 : Int32)  (I : aI) (J : aJ), LX8_soonOf_14   n x1 x2 I J = some q → Wg M mS V 6 I J 14 [(0, .ref (V.2.2 0)), (1, .int x1), (2, .int x2)] [] := by
  intro n
  induction n with
  | zero => intro x1 x2  I J hf; cases hf
  | succ n ih => intro x1 x2  I J hf; exact wHX8_soonOf_14  X hQ  (LX8_soonOf_14   n) ih x1 x2  I J hf
set_option maxRecDepth 4000 in
theorem wX8_soonOf {M : MT} {V : VT} (X : Cx M mS V cX8_soonOf 6 RX8 (some .int) 1) {q : RT Int32} (hQ : PI M mS V q) (x1 : Int32)  (I : aI) (J : aJ) (hf : fX8_soonOf x1 I J = some q) : Wg M mS V 6 I J 0 [(0, .ref (V.2.2 0)), (1, .int x1)] [] := by
  unfold fX8_soonOf at hf
  refine g_aload_n X dX8_soonOf_0 0 rfl ?_
  refine g_get X dX8_soonOf_1 okM_0 cl8 16 (by decide) m_834 rfl ?_
  refine g_iload_n X dX8_soonOf_4 1 rfl ?_
  obtain ⟨hg1, hf⟩ := gd_some hf
  refine g_iaload X dX8_soonOf_5 okM_9 hg1 ?_
  refine g_iconst X dX8_soonOf_6 (v := 1) rfl ?_
  refine g_icmp_ne X dX8_soonOf_7 (tgt := 12) (by decide) (fun hc2 => ?_) (fun hc2 => ?_)
  · rw [if_neg hc2] at hf
    refine g_iconst X dX8_soonOf_12 (v := 0) rfl ?_
    refine g_istore_n X dX8_soonOf_13 (by decide) [(2, .int 0), (0, .ref (V.2.2 0)), (1, .int x1)] rfl ?_
    refine g_sub [1, 2, 0] rfl ?_
    exact wLX8_soonOf_14  X hQ  128 x1 0  I J hf
  · rw [if_pos hc2] at hf
    refine g_iconst X dX8_soonOf_10 (v := 0) rfl ?_
    cases hf
    exact g_ireturn X dX8_soonOf_11 hQ
set_option maxRecDepth 4000 in
theorem cX8_soonOf_ok (l : Launch) (V : VT) (x1 : Int32)  (I : aI) (J : aJ) {q : RT Int32} (hf : fX8_soonOf x1 I J = some q) : Met l yX8_soonOf (.code yX8_soonOf cX8_soonOf 6 (some .int) :: GG) (rmD 1) (va_Pc [.ref (V.2.2 0), .int x1] (cQ mS V I J)) (QI mS V q) 0 0 (vAd mS V) :=
  met_I (by decide +kernel) rfl (Nat.le_of_ble_eq_true rfl) (fun _ _ X hQ => wX8_soonOf X hQ x1  I J hf)
-- X8_tellPerson
set_option maxRecDepth 4000 in
theorem wX8_tellPerson {M : MT} {V : VT} (X : Cx M mS V cX8_tellPerson 3 RX8 (some .int) 2) {q : RT Int32} (hQ : PI M mS V q) (x1 : Int32) (x2 : Int32)  (I : aI) (J : aJ) (hf : fX8_tellPerson x1 x2 I J = some q) : Wg M mS V 3 I J 0 [(0, .ref (V.2.2 0)), (1, .int x1), (2, .int x2)] [] := by
  unfold fX8_tellPerson at hf
  refine g_iload_n X dX8_tellPerson_0 2 rfl ?_
  by_cases hs1 : x2 = 0
  · rw [if_pos hs1] at hf
    refine g_tin X dX8_tellPerson_1 hs1 (by decide) (by decide) rfl (tgt := 52) (by decide) ?_
    refine g_aload_n X dX8_tellPerson_52 0 rfl ?_
    refine g_get X dX8_tellPerson_53 okM_0 cl8 11 (by decide) m_829 rfl ?_
    refine g_iload_n X dX8_tellPerson_56 1 rfl ?_
    obtain ⟨hg2, hf⟩ := gd_some hf
    refine g_iaload X dX8_tellPerson_57 okM_4 hg2 ?_
    cases hf
    exact g_ireturn X dX8_tellPerson_58 hQ
  rw [if_neg hs1] at hf
  by_cases hs3 : x2 = 1
  · rw [if_pos hs3] at hf
    refine g_tin X dX8_tellPerson_1 hs3 (by decide) (by decide) rfl (tgt := 59) (by decide) ?_
    refine g_aload_n X dX8_tellPerson_59 0 rfl ?_
    refine g_get X dX8_tellPerson_60 okM_0 cl8 12 (by decide) m_830 rfl ?_
    refine g_iload_n X dX8_tellPerson_63 1 rfl ?_
    obtain ⟨hg4, hf⟩ := gd_some hf
    refine g_iaload X dX8_tellPerson_64 okM_5 hg4 ?_
    cases hf
    exact g_ireturn X dX8_tellPerson_65 hQ
  rw [if_neg hs3] at hf
  by_cases hs5 : x2 = 2
  · rw [if_pos hs5] at hf
    refine g_tin X dX8_tellPerson_1 hs5 (by decide) (by decide) rfl (tgt := 66) (by decide) ?_
    refine g_aload_n X dX8_tellPerson_66 0 rfl ?_
    refine g_get X dX8_tellPerson_67 okM_0 cl8 13 (by decide) m_831 rfl ?_
    refine g_iload_n X dX8_tellPerson_70 1 rfl ?_
    obtain ⟨hg6, hf⟩ := gd_some hf
    refine g_iaload X dX8_tellPerson_71 okM_6 hg6 ?_
    cases hf
    exact g_ireturn X dX8_tellPerson_72 hQ
  rw [if_neg hs5] at hf
  by_cases hs7 : x2 = 3
  · rw [if_pos hs7] at hf
    refine g_tin X dX8_tellPerson_1 hs7 (by decide) (by decide) rfl (tgt := 73) (by decide) ?_
    refine g_aload_n X dX8_tellPerson_73 0 rfl ?_
    refine g_get X dX8_tellPerson_74 okM_0 cl8 14 (by decide) m_832 rfl ?_
    refine g_iload_n X dX8_tellPerson_77 1 rfl ?_
    obtain ⟨hg8, hf⟩ := gd_some hf
    refine g_iaload X dX8_tellPerson_78 okM_7 hg8 ?_
    cases hf
    exact g_ireturn X dX8_tellPerson_79 hQ
  rw [if_neg hs7] at hf
  by_cases hs9 : x2 = 4
  · rw [if_pos hs9] at hf
    refine g_tin X dX8_tellPerson_1 hs9 (by decide) (by decide) rfl (tgt := 80) (by decide) ?_
    refine g_aload_n X dX8_tellPerson_80 0 rfl ?_
    refine g_get X dX8_tellPerson_81 okM_0 cl8 16 (by decide) m_834 rfl ?_
    refine g_iload_n X dX8_tellPerson_84 1 rfl ?_
    obtain ⟨hg10, hf⟩ := gd_some hf
    refine g_iaload X dX8_tellPerson_85 okM_9 hg10 ?_
    cases hf
    exact g_ireturn X dX8_tellPerson_86 hQ
  rw [if_neg hs9] at hf
  by_cases hs11 : x2 = 5
  · rw [if_pos hs11] at hf
    refine g_tin X dX8_tellPerson_1 hs11 (by decide) (by decide) rfl (tgt := 87) (by decide) ?_
    refine g_aload_n X dX8_tellPerson_87 0 rfl ?_
    refine g_get X dX8_tellPerson_88 okM_0 cl8 15 (by decide) m_833 rfl ?_
    refine g_iload_n X dX8_tellPerson_91 1 rfl ?_
    obtain ⟨hg12, hf⟩ := gd_some hf
    refine g_iaload X dX8_tellPerson_92 okM_8 hg12 ?_
    cases hf
    exact g_ireturn X dX8_tellPerson_93 hQ
  rw [if_neg hs11] at hf
  by_cases hs13 : x2 = 6
  · rw [if_pos hs13] at hf
    refine g_tin X dX8_tellPerson_1 hs13 (by decide) (by decide) rfl (tgt := 94) (by decide) ?_
    refine g_aload_n X dX8_tellPerson_94 0 rfl ?_
    refine g_get X dX8_tellPerson_95 okM_0 cl8 11 (by decide) m_829 rfl ?_
    refine g_iload_n X dX8_tellPerson_98 1 rfl ?_
    obtain ⟨hg14, hf⟩ := gd_some hf
    refine g_iaload X dX8_tellPerson_99 okM_4 hg14 ?_
    obtain ⟨r15, I15, J15, hb15, hf⟩ := bnd_some hf
    refine g_callS X dX8_tellPerson_100 sw_X8_163 (As := [.int (I 4 (Int32.toNatClampNeg x1))]) rfl rfl (Nat.le_of_ble_eq_true rfl) (by decide) (cX8_needs_ok  M.2.1 V (I 4 (Int32.toNatClampNeg x1))  I J hb15) (kI ?_)
    cases hf
    exact g_ireturn X dX8_tellPerson_103 hQ
  rw [if_neg hs13] at hf
  by_cases hs16 : x2 = 7
  · rw [if_pos hs16] at hf
    refine g_tin X dX8_tellPerson_1 hs16 (by decide) (by decide) rfl (tgt := 104) (by decide) ?_
    refine g_aload_n X dX8_tellPerson_104 0 rfl ?_
    refine g_iload_n X dX8_tellPerson_105 1 rfl ?_
    obtain ⟨r17, I17, J17, hb17, hf⟩ := bnd_some hf
    refine g_callV X dX8_tellPerson_106 cw_X8_169 (k := 0) (As := [.int x1]) (rcv okM_0 cl8) rfl rfl (Nat.le_of_ble_eq_true rfl) (by decide) (cX8_hears_ok  M.2.1 V x1  I J hb17) (kI ?_)
    cases hf
    exact g_ireturn X dX8_tellPerson_109 hQ
  rw [if_neg hs16] at hf
  by_cases hs18 : x2 = 8
  · rw [if_pos hs18] at hf
    refine g_tin X dX8_tellPerson_1 hs18 (by decide) (by decide) rfl (tgt := 110) (by decide) ?_
    refine g_aload_n X dX8_tellPerson_110 0 rfl ?_
    refine g_iload_n X dX8_tellPerson_111 1 rfl ?_
    obtain ⟨r19, I19, J19, hb19, hf⟩ := bnd_some hf
    refine g_callV X dX8_tellPerson_112 cw_X8_172 (k := 0) (As := [.int x1]) (rcv okM_0 cl8) rfl rfl (Nat.le_of_ble_eq_true rfl) (by decide) (cX8_soonOf_ok  M.2.1 V x1  I J hb19) (kI ?_)
    cases hf
    exact g_ireturn X dX8_tellPerson_115 hQ
  rw [if_neg hs18] at hf
  refine g_tout X dX8_tellPerson_1 (by have a0 := lv_neT (a := 0) hs1 rfl; have a1 := lv_neT (a := 1) hs3 rfl; have a2 := lv_neT (a := 2) hs5 rfl; have a3 := lv_neT (a := 3) hs7 rfl; have a4 := lv_neT (a := 4) hs9 rfl; have a5 := lv_neT (a := 5) hs11 rfl; have a6 := lv_neT (a := 6) hs13 rfl; have a7 := lv_neT (a := 7) hs16 rfl; have a8 := lv_neT (a := 8) hs18 rfl; omega) (tgt := 116) (by decide) ?_
  refine g_bipush X dX8_tellPerson_116 (v := (-102)) rfl ?_
  cases hf
  exact g_ireturn X dX8_tellPerson_118 hQ
set_option maxRecDepth 4000 in
theorem cX8_tellPerson_ok (l : Launch) (V : VT) (x1 : Int32) (x2 : Int32)  (I : aI) (J : aJ) {q : RT Int32} (hf : fX8_tellPerson x1 x2 I J = some q) : Met l yX8_tellPerson (.code yX8_tellPerson cX8_tellPerson 3 (some .int) :: GG) (rmD 2) (va_Pc [.ref (V.2.2 0), .int x1, .int x2] (cQ mS V I J)) (QI mS V q) 0 0 (vAd mS V) :=
  met_I (by decide +kernel) rfl (Nat.le_of_ble_eq_true rfl) (fun _ _ X hQ => wX8_tellPerson X hQ x1 x2  I J hf)
-- X8_say
set_option maxRecDepth 4000 in
theorem wX8_say {M : MT} {V : VT} (X : Cx M mS V cX8_say 3 RX8 none 0) {q : RT Unit} (hQ : PV M mS V q) (x1 : Int64)  (I : aI) (J : aJ) (hf : fX8_say x1 I J = some q) : Wg M mS V 3 I J 0 [(0, .ref (V.2.2 0)), (1, .long x1)] [] := by
  unfold fX8_say at hf
  refine g_aload_n X dX8_say_0 0 rfl ?_
  refine g_ldc2 X dX8_say_1 m_1211 ?_
  refine g_aload_n X dX8_say_4 0 rfl ?_
  refine g_get X dX8_say_5 okM_0 cl8 40 (by decide) m_858 rfl ?_
  refine g_lmul X dX8_say_8 ?_
  refine g_lload_n X dX8_say_9 1 rfl ?_
  refine g_ladd X dX8_say_10 ?_
  refine g_putJ X dX8_say_11 okM_0 cl8 40 (by decide) m_858 rfl .long rfl rfl rfl (Nat.le_of_ble_eq_true rfl) (fun _ _ => rfl) ?_
  cases hf
  exact g_vreturn X dX8_say_14 hQ
set_option maxRecDepth 4000 in
theorem cX8_say_ok (l : Launch) (V : VT) (x1 : Int64)  (I : aI) (J : aJ) {q : RT Unit} (hf : fX8_say x1 I J = some q) : Met l yX8_say (.code yX8_say cX8_say 3 none :: GG) (rmD 0) (va_Pc [.ref (V.2.2 0), .long x1] (cQ mS V I J)) (QV mS V q) 0 0 (vAd mS V) :=
  met_V (by decide +kernel) rfl (Nat.le_of_ble_eq_true rfl) (fun _ _ X hQ => wX8_say X hQ x1  I J hf)
-- X8_roadsAt
set_option maxRecDepth 4000 in
theorem wBX8_roadsAt_38 {M : MT} {V : VT}  (X : Cx M mS V cX8_roadsAt 4 RX8 (some .int) 0) {q : RT Int32} (hQ : PI M mS V q) (k4 : Int32 → Int32 → Int32 → aI → aJ → Option (RT Int32)) (hk4 : ∀ (x1 : Int32) (x2 : Int32) (x3 : Int32)  (I : aI) (J : aJ), k4 x1 x2 x3 I J = some q → Wg M mS V 4 I J 4 [(0, .ref (V.2.2 0)), (1, .int x1), (2, .int x2), (3, .int x3)] []) (x1 : Int32) (x3 : Int32) (s0 : Int32) (s1 : Int32)  (I : aI) (J : aJ) (hf : BX8_roadsAt_38  k4 x1 x3 s0 s1 I J = some q) : Wg M mS V 4 I J 38 [(0, .ref (V.2.2 0)), (1, .int x1), (3, .int x3)] [.int s0, .int s1] := by
  unfold BX8_roadsAt_38 at hf
  refine g_iadd X dX8_roadsAt_38 ?_
  refine g_istore_n X dX8_roadsAt_39 (by decide) [(2, .int (s1 + s0)), (0, .ref (V.2.2 0)), (1, .int x1), (3, .int x3)] rfl ?_
  refine g_iinc X dX8_roadsAt_40 3 rfl 1 rfl (by decide) [(3, .int (x3 + 1)), (2, .int (s1 + s0)), (0, .ref (V.2.2 0)), (1, .int x1)] rfl ?_
  refine g_goto X dX8_roadsAt_43 (tgt := 4) (by decide) ?_
  refine g_sub [2, 3, 1, 0] rfl ?_
  exact hk4 x1 (s1 + s0) (x3 + 1)  I J hf
set_option maxRecDepth 4000 in
theorem wBX8_roadsAt_33 {M : MT} {V : VT}  (X : Cx M mS V cX8_roadsAt 4 RX8 (some .int) 0) {q : RT Int32} (hQ : PI M mS V q) (k4 : Int32 → Int32 → Int32 → aI → aJ → Option (RT Int32)) (hk4 : ∀ (x1 : Int32) (x2 : Int32) (x3 : Int32)  (I : aI) (J : aJ), k4 x1 x2 x3 I J = some q → Wg M mS V 4 I J 4 [(0, .ref (V.2.2 0)), (1, .int x1), (2, .int x2), (3, .int x3)] []) (x1 : Int32) (x3 : Int32) (s0 : Int32)  (I : aI) (J : aJ) (hf : BX8_roadsAt_33  k4 x1 x3 s0 I J = some q) : Wg M mS V 4 I J 33 [(0, .ref (V.2.2 0)), (1, .int x1), (3, .int x3)] [.int s0] := by
  unfold BX8_roadsAt_33 at hf
  refine g_iconst X dX8_roadsAt_33 (v := 1) rfl ?_
  refine g_goto X dX8_roadsAt_34 (tgt := 38) (by decide) ?_
  exact wBX8_roadsAt_38  X hQ k4 hk4 x1 x3 1 s0  I J hf
set_option maxRecDepth 4000 in
theorem wHX8_roadsAt_4 {M : MT} {V : VT}  (X : Cx M mS V cX8_roadsAt 4 RX8 (some .int) 0) {q : RT Int32} (hQ : PI M mS V q) (k4 : Int32 → Int32 → Int32 → aI → aJ → Option (RT Int32)) (hk4 : ∀ (x1 : Int32) (x2 : Int32) (x3 : Int32)  (I : aI) (J : aJ), k4 x1 x2 x3 I J = some q → Wg M mS V 4 I J 4 [(0, .ref (V.2.2 0)), (1, .int x1), (2, .int x2), (3, .int x3)] []) (x1 : Int32) (x2 : Int32) (x3 : Int32)  (I : aI) (J : aJ) (hf : HX8_roadsAt_4  k4 x1 x2 x3 I J = some q) : Wg M mS V 4 I J 4 [(0, .ref (V.2.2 0)), (1, .int x1), (2, .int x2), (3, .int x3)] [] := by
  unfold HX8_roadsAt_4 at hf
  refine g_iload_n X dX8_roadsAt_4 3 rfl ?_
  refine g_aload_n X dX8_roadsAt_5 0 rfl ?_
  refine g_get X dX8_roadsAt_6 okM_0 cl8 4 (by decide) m_822 rfl ?_
  refine g_icmp_ge X dX8_roadsAt_9 (tgt := 46) (by decide) (fun hc1 => ?_) (fun hc1 => ?_)
  · rw [if_pos hc1] at hf
    refine g_iload_n X dX8_roadsAt_46 2 rfl ?_
    cases hf
    exact g_ireturn X dX8_roadsAt_47 hQ
  · rw [if_neg hc1] at hf
    refine g_iload_n X dX8_roadsAt_12 2 rfl ?_
    refine g_aload_n X dX8_roadsAt_13 0 rfl ?_
    refine g_get X dX8_roadsAt_14 okM_0 cl8 9 (by decide) m_827 rfl ?_
    refine g_iload_n X dX8_roadsAt_17 3 rfl ?_
    obtain ⟨hg2, hf⟩ := gd_some hf
    refine g_iaload X dX8_roadsAt_18 okM_2 hg2 ?_
    refine g_iload_n X dX8_roadsAt_19 1 rfl ?_
    refine g_icmp_eq X dX8_roadsAt_20 (tgt := 33) (by decide) (fun hc3 => ?_) (fun hc3 => ?_)
    · rw [if_pos hc3] at hf
      refine g_sub [0, 1, 3] rfl ?_
      exact wBX8_roadsAt_33  X hQ k4 hk4 x1 x3 x2  I J hf
    · rw [if_neg hc3] at hf
      refine g_aload_n X dX8_roadsAt_23 0 rfl ?_
      refine g_get X dX8_roadsAt_24 okM_0 cl8 10 (by decide) m_828 rfl ?_
      refine g_iload_n X dX8_roadsAt_27 3 rfl ?_
      refine g_iaload X dX8_roadsAt_28 okM_3 hg2 ?_
      refine g_iload_n X dX8_roadsAt_29 1 rfl ?_
      refine g_icmp_ne X dX8_roadsAt_30 (tgt := 37) (by decide) (fun hc4 => ?_) (fun hc4 => ?_)
      · rw [if_neg hc4] at hf
        refine g_iconst X dX8_roadsAt_37 (v := 0) rfl ?_
        refine g_sub [0, 1, 3] rfl ?_
        exact wBX8_roadsAt_38  X hQ k4 hk4 x1 x3 0 x2  I J hf
      · rw [if_pos hc4] at hf
        refine g_sub [0, 1, 3] rfl ?_
        exact wBX8_roadsAt_33  X hQ k4 hk4 x1 x3 x2  I J hf
set_option maxRecDepth 4000 in
theorem wLX8_roadsAt_4 {M : MT} {V : VT}  (X : Cx M mS V cX8_roadsAt 4 RX8 (some .int) 0) {q : RT Int32} (hQ : PI M mS V q)  : ∀ (n : Nat) (x1 : Int32) (x2 : Int32) (x3 : Int32)  (I : aI) (J : aJ), LX8_roadsAt_4   n x1 x2 x3 I J = some q → Wg M mS V 4 I J 4 [(0, .ref (V.2.2 0)), (1, .int x1), (2, .int x2), (3, .int x3)] [] := by
  intro n
  induction n with
  | zero => intro x1 x2 x3  I J hf; cases hf
  | succ n ih => intro x1 x2 x3  I J hf; exact wHX8_roadsAt_4  X hQ  (LX8_roadsAt_4   n) ih x1 x2 x3  I J hf
set_option maxRecDepth 4000 in
theorem wX8_roadsAt {M : MT} {V : VT} (X : Cx M mS V cX8_roadsAt 4 RX8 (some .int) 0) {q : RT Int32} (hQ : PI M mS V q) (x1 : Int32)  (I : aI) (J : aJ) (hf : fX8_roadsAt x1 I J = some q) : Wg M mS V 4 I J 0 [(0, .ref (V.2.2 0)), (1, .int x1)] [] := by
  unfold fX8_roadsAt at hf
  refine g_iconst X dX8_roadsAt_0 (v := 0) rfl ?_
  refine g_istore_n X dX8_roadsAt_1 (by decide) [(2, .int 0), (0, .ref (V.2.2 0)), (1, .int x1)] rfl ?_
  refine g_iconst X dX8_roadsAt_2 (v := 0) rfl ?_
  refine g_istore_n X dX8_roadsAt_3 (by decide) [(3, .int 0), (2, .int 0), (0, .ref (V.2.2 0)), (1, .int x1)] rfl ?_
  refine g_sub [2, 3, 1, 0] rfl ?_
  exact wLX8_roadsAt_4  X hQ  128 x1 0 0  I J hf
set_option maxRecDepth 4000 in
theorem cX8_roadsAt_ok (l : Launch) (V : VT) (x1 : Int32)  (I : aI) (J : aJ) {q : RT Int32} (hf : fX8_roadsAt x1 I J = some q) : Met l yX8_roadsAt (.code yX8_roadsAt cX8_roadsAt 4 (some .int) :: GG) (rmD 0) (va_Pc [.ref (V.2.2 0), .int x1] (cQ mS V I J)) (QI mS V q) 0 0 (vAd mS V) :=
  met_I (by decide +kernel) rfl (Nat.le_of_ble_eq_true rfl) (fun _ _ X hQ => wX8_roadsAt X hQ x1  I J hf)
-- X8_stray
set_option maxRecDepth 4000 in
theorem wHX8_stray_144 {M : MT} {V : VT}  (X : Cx M mS V cX8_stray 4 RX8 none 1) {q : RT Unit} (hQ : PV M mS V q) (k144 : Int32 → aI → aJ → Option (RT Unit)) (hk144 : ∀ (x1 : Int32)  (I : aI) (J : aJ), k144 x1 I J = some q → Wg M mS V 4 I J 144 [(0, .ref (V.2.2 0)), (1, .int x1)] []) (x1 : Int32)  (I : aI) (J : aJ) (hf : HX8_stray_144  k144 x1 I J = some q) : Wg M mS V 4 I J 144 [(0, .ref (V.2.2 0)), (1, .int x1)] [] := by
  unfold HX8_stray_144 at hf
  refine g_iload_n X dX8_stray_144 1 rfl ?_
  refine g_bipush X dX8_stray_145 (v := 6) rfl ?_
  refine g_icmp_ge X dX8_stray_147 (tgt := 168) (by decide) (fun hc7 => ?_) (fun hc7 => ?_)
  · rw [if_pos hc7] at hf
    cases hf
    exact g_vreturn X dX8_stray_168 hQ
  · rw [if_neg hc7] at hf
    refine g_aload_n X dX8_stray_150 0 rfl ?_
    refine g_get X dX8_stray_151 okM_0 cl8 25 (by decide) m_843 rfl ?_
    refine g_iload_n X dX8_stray_154 1 rfl ?_
    refine g_aload_n X dX8_stray_155 0 rfl ?_
    refine g_get X dX8_stray_156 okM_0 cl8 26 (by decide) m_844 rfl ?_
    refine g_iload_n X dX8_stray_159 1 rfl ?_
    obtain ⟨hg8, hf⟩ := gd_some hf
    refine g_laload X dX8_stray_160 okM_18 hg8 ?_
    refine g_lastore X dX8_stray_161 okM_17 hg8 ?_
    refine g_iinc X dX8_stray_162 1 rfl 1 rfl (by decide) [(1, .int (x1 + 1)), (0, .ref (V.2.2 0))] rfl ?_
    refine g_goto X dX8_stray_165 (tgt := 144) (by decide) ?_
    refine g_sub [1, 0] rfl ?_
    exact hk144 (x1 + 1)  I (pJ J 17 (Int32.toNatClampNeg x1) (J 18 (Int32.toNatClampNeg x1))) hf
set_option maxRecDepth 4000 in
theorem wLX8_stray_144 {M : MT} {V : VT}  (X : Cx M mS V cX8_stray 4 RX8 none 1) {q : RT Unit} (hQ : PV M mS V q)  : ∀ (n : Nat) (x1 : Int32)  (I : aI) (J : aJ), LX8_stray_144   n x1 I J = some q → Wg M mS V 4 I J 144 [(0, .ref (V.2.2 0)), (1, .int x1)] [] := by
  intro n
  induction n with
  | zero => intro x1  I J hf; cases hf
  | succ n ih => intro x1  I J hf; exact wHX8_stray_144  X hQ  (LX8_stray_144   n) ih x1  I J hf
set_option maxRecDepth 4000 in
theorem wBX8_stray_130 {M : MT} {V : VT}  (X : Cx M mS V cX8_stray 4 RX8 none 1) {q : RT Unit} (hQ : PV M mS V q) (k23 : Int32 → aI → aJ → Option (RT Unit)) (hk23 : ∀ (x1 : Int32)  (I : aI) (J : aJ), k23 x1 I J = some q → Wg M mS V 4 I J 23 [(0, .ref (V.2.2 0)), (1, .int x1)] []) (k66 : Int32 → Int32 → Int32 → aI → aJ → Option (RT Unit)) (hk66 : ∀ (x1 : Int32) (x2 : Int32) (x3 : Int32)  (I : aI) (J : aJ), k66 x1 x2 x3 I J = some q → Wg M mS V 4 I J 66 [(0, .ref (V.2.2 0)), (1, .int x1), (2, .int x2), (3, .int x3)] []) (x1 : Int32) (x2 : Int32) (x3 : Int32)  (I : aI) (J : aJ) (hf : BX8_stray_130  k23 k66 x1 x2 x3 I J = some q) : Wg M mS V 4 I J 130 [(0, .ref (V.2.2 0)), (1, .int x1), (2, .int x2), (3, .int x3)] [] := by
  unfold BX8_stray_130 at hf
  refine g_iinc X dX8_stray_130 3 rfl 1 rfl (by decide) [(3, .int (x3 + 1)), (0, .ref (V.2.2 0)), (1, .int x1), (2, .int x2)] rfl ?_
  refine g_goto X dX8_stray_133 (tgt := 66) (by decide) ?_
  refine g_sub [1, 2, 3, 0] rfl ?_
  exact hk66 x1 x2 (x3 + 1)  I J hf
set_option maxRecDepth 4000 in
theorem wBX8_stray_94 {M : MT} {V : VT}  (X : Cx M mS V cX8_stray 4 RX8 none 1) {q : RT Unit} (hQ : PV M mS V q) (k23 : Int32 → aI → aJ → Option (RT Unit)) (hk23 : ∀ (x1 : Int32)  (I : aI) (J : aJ), k23 x1 I J = some q → Wg M mS V 4 I J 23 [(0, .ref (V.2.2 0)), (1, .int x1)] []) (k66 : Int32 → Int32 → Int32 → aI → aJ → Option (RT Unit)) (hk66 : ∀ (x1 : Int32) (x2 : Int32) (x3 : Int32)  (I : aI) (J : aJ), k66 x1 x2 x3 I J = some q → Wg M mS V 4 I J 66 [(0, .ref (V.2.2 0)), (1, .int x1), (2, .int x2), (3, .int x3)] []) (x1 : Int32) (x2 : Int32) (x3 : Int32)  (I : aI) (J : aJ) (hf : BX8_stray_94  k23 k66 x1 x2 x3 I J = some q) : Wg M mS V 4 I J 94 [(0, .ref (V.2.2 0)), (1, .int x1), (2, .int x2), (3, .int x3)] [] := by
  unfold BX8_stray_94 at hf
  refine g_aload_n X dX8_stray_94 0 rfl ?_
  refine g_get X dX8_stray_95 okM_0 cl8 26 (by decide) m_844 rfl ?_
  refine g_aload_n X dX8_stray_98 0 rfl ?_
  refine g_get X dX8_stray_99 okM_0 cl8 9 (by decide) m_827 rfl ?_
  refine g_iload_n X dX8_stray_102 3 rfl ?_
  obtain ⟨hg14, hf⟩ := gd_some hf
  refine g_iaload X dX8_stray_103 okM_2 hg14 ?_
  refine g_aload_n X dX8_stray_104 0 rfl ?_
  refine g_get X dX8_stray_105 okM_0 cl8 10 (by decide) m_828 rfl ?_
  refine g_iload_n X dX8_stray_108 3 rfl ?_
  refine g_iaload X dX8_stray_109 okM_3 hg14 ?_
  refine g_iadd X dX8_stray_110 ?_
  refine g_iload_n X dX8_stray_111 1 rfl ?_
  refine g_isub X dX8_stray_112 ?_
  refine g_dup2 X dX8_stray_113 rfl rfl ?_
  obtain ⟨hg15, hf⟩ := gd_some hf
  refine g_laload X dX8_stray_114 okM_18 hg15 ?_
  refine g_sipush X dX8_stray_115 (v := 840) rfl ?_
  refine g_iload_n X dX8_stray_118 2 rfl ?_
  obtain ⟨hg16, hf⟩ := gd_some hf
  refine g_idiv X dX8_stray_119 (of_decide_eq_true hg16) ?_
  refine g_i2l X dX8_stray_120 ?_
  refine g_aload_n X dX8_stray_121 0 rfl ?_
  refine g_get X dX8_stray_122 okM_0 cl8 25 (by decide) m_843 rfl ?_
  refine g_iload_n X dX8_stray_125 1 rfl ?_
  obtain ⟨hg17, hf⟩ := gd_some hf
  refine g_laload X dX8_stray_126 okM_17 hg17 ?_
  refine g_lmul X dX8_stray_127 ?_
  refine g_ladd X dX8_stray_128 ?_
  refine g_lastore X dX8_stray_129 okM_18 hg15 ?_
  exact wBX8_stray_130  X hQ k23 hk23 k66 hk66 x1 x2 x3  I (pJ J 18 (Int32.toNatClampNeg (((I 2 (Int32.toNatClampNeg x3)) + (I 3 (Int32.toNatClampNeg x3))) - x1)) ((J 18 (Int32.toNatClampNeg (((I 2 (Int32.toNatClampNeg x3)) + (I 3 (Int32.toNatClampNeg x3))) - x1))) + ((Int32.toInt64 (840 / x2)) * (J 17 (Int32.toNatClampNeg x1))))) hf
set_option maxRecDepth 4000 in
theorem wHX8_stray_66 {M : MT} {V : VT}  (X : Cx M mS V cX8_stray 4 RX8 none 1) {q : RT Unit} (hQ : PV M mS V q) (k23 : Int32 → aI → aJ → Option (RT Unit)) (hk23 : ∀ (x1 : Int32)  (I : aI) (J : aJ), k23 x1 I J = some q → Wg M mS V 4 I J 23 [(0, .ref (V.2.2 0)), (1, .int x1)] []) (k66 : Int32 → Int32 → Int32 → aI → aJ → Option (RT Unit)) (hk66 : ∀ (x1 : Int32) (x2 : Int32) (x3 : Int32)  (I : aI) (J : aJ), k66 x1 x2 x3 I J = some q → Wg M mS V 4 I J 66 [(0, .ref (V.2.2 0)), (1, .int x1), (2, .int x2), (3, .int x3)] []) (x1 : Int32) (x2 : Int32) (x3 : Int32)  (I : aI) (J : aJ) (hf : HX8_stray_66  k23 k66 x1 x2 x3 I J = some q) : Wg M mS V 4 I J 66 [(0, .ref (V.2.2 0)), (1, .int x1), (2, .int x2), (3, .int x3)] [] := by
  unfold HX8_stray_66 at hf
  refine g_iload_n X dX8_stray_66 3 rfl ?_
  refine g_aload_n X dX8_stray_67 0 rfl ?_
  refine g_get X dX8_stray_68 okM_0 cl8 4 (by decide) m_822 rfl ?_
  refine g_icmp_ge X dX8_stray_71 (tgt := 136) (by decide) (fun hc10 => ?_) (fun hc10 => ?_)
  · rw [if_pos hc10] at hf
    refine g_iinc X dX8_stray_136 1 rfl 1 rfl (by decide) [(1, .int (x1 + 1)), (0, .ref (V.2.2 0)), (2, .int x2), (3, .int x3)] rfl ?_
    refine g_goto X dX8_stray_139 (tgt := 23) (by decide) ?_
    refine g_sub [1, 0] rfl ?_
    exact hk23 (x1 + 1)  I J hf
  · rw [if_neg hc10] at hf
    refine g_aload_n X dX8_stray_74 0 rfl ?_
    refine g_get X dX8_stray_75 okM_0 cl8 9 (by decide) m_827 rfl ?_
    refine g_iload_n X dX8_stray_78 3 rfl ?_
    obtain ⟨hg11, hf⟩ := gd_some hf
    refine g_iaload X dX8_stray_79 okM_2 hg11 ?_
    refine g_iload_n X dX8_stray_80 1 rfl ?_
    refine g_icmp_eq X dX8_stray_81 (tgt := 94) (by decide) (fun hc12 => ?_) (fun hc12 => ?_)
    · rw [if_pos hc12] at hf
      exact wBX8_stray_94  X hQ k23 hk23 k66 hk66 x1 x2 x3  I J hf
    · rw [if_neg hc12] at hf
      refine g_aload_n X dX8_stray_84 0 rfl ?_
      refine g_get X dX8_stray_85 okM_0 cl8 10 (by decide) m_828 rfl ?_
      refine g_iload_n X dX8_stray_88 3 rfl ?_
      refine g_iaload X dX8_stray_89 okM_3 hg11 ?_
      refine g_iload_n X dX8_stray_90 1 rfl ?_
      refine g_icmp_ne X dX8_stray_91 (tgt := 130) (by decide) (fun hc13 => ?_) (fun hc13 => ?_)
      · rw [if_neg hc13] at hf
        exact wBX8_stray_130  X hQ k23 hk23 k66 hk66 x1 x2 x3  I J hf
      · rw [if_pos hc13] at hf
        exact wBX8_stray_94  X hQ k23 hk23 k66 hk66 x1 x2 x3  I J hf
set_option maxRecDepth 4000 in
theorem wLX8_stray_66 {M : MT} {V : VT}  (X : Cx M mS V cX8_stray 4 RX8 none 1) {q : RT Unit} (hQ : PV M mS V q) (k23 : Int32 → aI → aJ → Option (RT Unit)) (hk23 : ∀ (x1 : Int32)  (I : aI) (J : aJ), k23 x1 I J = some q → Wg M mS V 4 I J 23 [(0, .ref (V.2.2 0)), (1, .int x1)] []) : ∀ (n : Nat) (x1 : Int32) (x2 : Int32) (x3 : Int32)  (I : aI) (J : aJ), LX8_stray_66  k23 n x1 x2 x3 I J = some q → Wg M mS V 4 I J 66 [(0, .ref (V.2.2 0)), (1, .int x1), (2, .int x2), (3, .int x3)] [] := by
  intro n
  induction n with
  | zero => intro x1 x2 x3  I J hf; cases hf
  | succ n ih => intro x1 x2 x3  I J hf; exact wHX8_stray_66  X hQ k23 hk23 (LX8_stray_66  k23 n) ih x1 x2 x3  I J hf
set_option maxRecDepth 4000 in
theorem wBX8_stray_62 {M : MT} {V : VT}  (X : Cx M mS V cX8_stray 4 RX8 none 1) {q : RT Unit} (hQ : PV M mS V q) (k23 : Int32 → aI → aJ → Option (RT Unit)) (hk23 : ∀ (x1 : Int32)  (I : aI) (J : aJ), k23 x1 I J = some q → Wg M mS V 4 I J 23 [(0, .ref (V.2.2 0)), (1, .int x1)] []) (x1 : Int32) (x2 : Int32) (s0 : Int64) (s1 : Int64) (s2 : Int32)  (I : aI) (J : aJ) (hf : BX8_stray_62  k23 x1 x2 s0 s1 s2 I J = some q) : Wg M mS V 4 I J 62 [(0, .ref (V.2.2 0)), (1, .int x1), (2, .int x2)] [.long s0, .long s1, .int s2, .ref (V.2.2 18)] := by
  unfold BX8_stray_62 at hf
  refine g_ladd X dX8_stray_62 ?_
  obtain ⟨hg9, hf⟩ := gd_some hf
  refine g_lastore X dX8_stray_63 okM_18 hg9 ?_
  refine g_iconst X dX8_stray_64 (v := 0) rfl ?_
  refine g_istore_n X dX8_stray_65 (by decide) [(3, .int 0), (0, .ref (V.2.2 0)), (1, .int x1), (2, .int x2)] rfl ?_
  refine g_sub [1, 2, 3, 0] rfl ?_
  exact wLX8_stray_66  X hQ k23 hk23 128 x1 x2 0  I (pJ J 18 (Int32.toNatClampNeg s2) (s1 + s0)) hf
set_option maxRecDepth 4000 in
theorem wHX8_stray_23 {M : MT} {V : VT}  (X : Cx M mS V cX8_stray 4 RX8 none 1) {q : RT Unit} (hQ : PV M mS V q) (k23 : Int32 → aI → aJ → Option (RT Unit)) (hk23 : ∀ (x1 : Int32)  (I : aI) (J : aJ), k23 x1 I J = some q → Wg M mS V 4 I J 23 [(0, .ref (V.2.2 0)), (1, .int x1)] []) (x1 : Int32)  (I : aI) (J : aJ) (hf : HX8_stray_23  k23 x1 I J = some q) : Wg M mS V 4 I J 23 [(0, .ref (V.2.2 0)), (1, .int x1)] [] := by
  unfold HX8_stray_23 at hf
  refine g_iload_n X dX8_stray_23 1 rfl ?_
  refine g_aload_n X dX8_stray_24 0 rfl ?_
  refine g_get X dX8_stray_25 okM_0 cl8 3 (by decide) m_821 rfl ?_
  refine g_icmp_ge X dX8_stray_28 (tgt := 142) (by decide) (fun hc3 => ?_) (fun hc3 => ?_)
  · rw [if_pos hc3] at hf
    refine g_iconst X dX8_stray_142 (v := 0) rfl ?_
    refine g_istore_n X dX8_stray_143 (by decide) [(1, .int 0), (0, .ref (V.2.2 0))] rfl ?_
    refine g_sub [1, 0] rfl ?_
    exact wLX8_stray_144  X hQ  128 0  I J hf
  · rw [if_neg hc3] at hf
    refine g_aload_n X dX8_stray_31 0 rfl ?_
    refine g_iload_n X dX8_stray_32 1 rfl ?_
    obtain ⟨r4, I4, J4, hb4, hf⟩ := bnd_some hf
    refine g_callV X dX8_stray_33 cw_X8_239 (k := 0) (As := [.int x1]) (rcv okM_0 cl8) rfl rfl (Nat.le_of_ble_eq_true rfl) (by decide) (cX8_roadsAt_ok  M.2.1 V x1  I J hb4) (kI ?_)
    refine g_istore_n X dX8_stray_36 (by decide) [(2, .int r4), (0, .ref (V.2.2 0)), (1, .int x1)] rfl ?_
    refine g_aload_n X dX8_stray_37 1 rfl ?_
    refine g_get X dX8_stray_38 okM_0 cl8 26 (by decide) m_844 rfl ?_
    refine g_iload_n X dX8_stray_41 2 rfl ?_
    refine g_dup2 X dX8_stray_42 rfl rfl ?_
    obtain ⟨hg5, hf⟩ := gd_some hf
    refine g_laload X dX8_stray_43 okM_18 hg5 ?_
    refine g_iload_n X dX8_stray_44 0 rfl ?_
    refine g_if_ne X dX8_stray_45 (tgt := 61) (by decide) (fun hc6 => ?_) (fun hc6 => ?_)
    · rw [if_neg hc6] at hf
      refine g_lconst X dX8_stray_61 (v := 0) rfl ?_
      refine g_sub [1, 2, 0] rfl ?_
      exact wBX8_stray_62  X hQ k23 hk23 x1 r4 0 (J4 18 (Int32.toNatClampNeg x1)) x1  I4 J4 hf
    · rw [if_pos hc6] at hf
      refine g_ldc2 X dX8_stray_48 m_1135 ?_
      refine g_aload_n X dX8_stray_51 1 rfl ?_
      refine g_get X dX8_stray_52 okM_0 cl8 25 (by decide) m_843 rfl ?_
      refine g_iload_n X dX8_stray_55 2 rfl ?_
      refine g_laload X dX8_stray_56 okM_17 hg5 ?_
      refine g_lmul X dX8_stray_57 ?_
      refine g_goto X dX8_stray_58 (tgt := 62) (by decide) ?_
      refine g_sub [1, 2, 0] rfl ?_
      exact wBX8_stray_62  X hQ k23 hk23 x1 r4 (840 * (J4 17 (Int32.toNatClampNeg x1))) (J4 18 (Int32.toNatClampNeg x1)) x1  I4 J4 hf
set_option maxRecDepth 4000 in
theorem wLX8_stray_23 {M : MT} {V : VT}  (X : Cx M mS V cX8_stray 4 RX8 none 1) {q : RT Unit} (hQ : PV M mS V q)  : ∀ (n : Nat) (x1 : Int32)  (I : aI) (J : aJ), LX8_stray_23   n x1 I J = some q → Wg M mS V 4 I J 23 [(0, .ref (V.2.2 0)), (1, .int x1)] [] := by
  intro n
  induction n with
  | zero => intro x1  I J hf; cases hf
  | succ n ih => intro x1  I J hf; exact wHX8_stray_23  X hQ  (LX8_stray_23   n) ih x1  I J hf
set_option maxRecDepth 4000 in
theorem wHX8_stray_2 {M : MT} {V : VT}  (X : Cx M mS V cX8_stray 4 RX8 none 1) {q : RT Unit} (hQ : PV M mS V q) (k2 : Int32 → aI → aJ → Option (RT Unit)) (hk2 : ∀ (x1 : Int32)  (I : aI) (J : aJ), k2 x1 I J = some q → Wg M mS V 4 I J 2 [(0, .ref (V.2.2 0)), (1, .int x1)] []) (x1 : Int32)  (I : aI) (J : aJ) (hf : HX8_stray_2  k2 x1 I J = some q) : Wg M mS V 4 I J 2 [(0, .ref (V.2.2 0)), (1, .int x1)] [] := by
  unfold HX8_stray_2 at hf
  refine g_iload_n X dX8_stray_2 1 rfl ?_
  refine g_bipush X dX8_stray_3 (v := 6) rfl ?_
  refine g_icmp_ge X dX8_stray_5 (tgt := 21) (by decide) (fun hc1 => ?_) (fun hc1 => ?_)
  · rw [if_pos hc1] at hf
    refine g_iconst X dX8_stray_21 (v := 0) rfl ?_
    refine g_istore_n X dX8_stray_22 (by decide) [(1, .int 0), (0, .ref (V.2.2 0))] rfl ?_
    refine g_sub [1, 0] rfl ?_
    exact wLX8_stray_23  X hQ  128 0  I J hf
  · rw [if_neg hc1] at hf
    refine g_aload_n X dX8_stray_8 0 rfl ?_
    refine g_get X dX8_stray_9 okM_0 cl8 26 (by decide) m_844 rfl ?_
    refine g_iload_n X dX8_stray_12 1 rfl ?_
    refine g_lconst X dX8_stray_13 (v := 0) rfl ?_
    obtain ⟨hg2, hf⟩ := gd_some hf
    refine g_lastore X dX8_stray_14 okM_18 hg2 ?_
    refine g_iinc X dX8_stray_15 1 rfl 1 rfl (by decide) [(1, .int (x1 + 1)), (0, .ref (V.2.2 0))] rfl ?_
    refine g_goto X dX8_stray_18 (tgt := 2) (by decide) ?_
    refine g_sub [1, 0] rfl ?_
    exact hk2 (x1 + 1)  I (pJ J 18 (Int32.toNatClampNeg x1) 0) hf
set_option maxRecDepth 4000 in
theorem wLX8_stray_2 {M : MT} {V : VT}  (X : Cx M mS V cX8_stray 4 RX8 none 1) {q : RT Unit} (hQ : PV M mS V q)  : ∀ (n : Nat) (x1 : Int32)  (I : aI) (J : aJ), LX8_stray_2   n x1 I J = some q → Wg M mS V 4 I J 2 [(0, .ref (V.2.2 0)), (1, .int x1)] [] := by
  intro n
  induction n with
  | zero => intro x1  I J hf; cases hf
  | succ n ih => intro x1  I J hf; exact wHX8_stray_2  X hQ  (LX8_stray_2   n) ih x1  I J hf
set_option maxRecDepth 4000 in
theorem wX8_stray {M : MT} {V : VT} (X : Cx M mS V cX8_stray 4 RX8 none 1) {q : RT Unit} (hQ : PV M mS V q)   (I : aI) (J : aJ) (hf : fX8_stray  I J = some q) : Wg M mS V 4 I J 0 [(0, .ref (V.2.2 0))] [] := by
  unfold fX8_stray at hf
  refine g_iconst X dX8_stray_0 (v := 0) rfl ?_
  refine g_istore_n X dX8_stray_1 (by decide) [(1, .int 0), (0, .ref (V.2.2 0))] rfl ?_
  refine g_sub [1, 0] rfl ?_
  exact wLX8_stray_2  X hQ  128 0  I J hf
set_option maxRecDepth 4000 in
theorem cX8_stray_ok (l : Launch) (V : VT)   (I : aI) (J : aJ) {q : RT Unit} (hf : fX8_stray  I J = some q) : Met l yX8_stray (.code yX8_stray cX8_stray 4 none :: GG) (rmD 1) (va_Pc [.ref (V.2.2 0)] (cQ mS V I J)) (QV mS V q) 0 0 (vAd mS V) :=
  met_V (by decide +kernel) rfl (Nat.le_of_ble_eq_true rfl) (fun _ _ X hQ => wX8_stray X hQ   I J hf)
-- X8_oddsOf
set_option maxRecDepth 4000 in
theorem wBX8_oddsOf_130 {M : MT} {V : VT}  (X : Cx M mS V cX8_oddsOf 14 RX8 (some .int) 2) {q : RT Int32} (hQ : PI M mS V q)  (s0 : Int64)  (I : aI) (J : aJ) (hf : BX8_oddsOf_130   s0 I J = some q) : Wg M mS V 14 I J 130 [] [.long s0] := by
  unfold BX8_oddsOf_130 at hf
  refine g_l2i X dX8_oddsOf_130 ?_
  cases hf
  exact g_ireturn X dX8_oddsOf_131 hQ
set_option maxRecDepth 4000 in
theorem wHX8_oddsOf_88 {M : MT} {V : VT}  (X : Cx M mS V cX8_oddsOf 14 RX8 (some .int) 2) {q : RT Int32} (hQ : PI M mS V q) (k88 : Int32 → Int64 → Int64 → Int64 → Int64 → aI → aJ → Option (RT Int32)) (hk88 : ∀ (x3 : Int32) (x4 : Int64) (x6 : Int64) (x8 : Int64) (x10 : Int64)  (I : aI) (J : aJ), k88 x3 x4 x6 x8 x10 I J = some q → Wg M mS V 14 I J 88 [(3, .int x3), (4, .long x4), (6, .long x6), (8, .long x8), (10, .long x10)] []) (x3 : Int32) (x4 : Int64) (x6 : Int64) (x8 : Int64) (x10 : Int64)  (I : aI) (J : aJ) (hf : HX8_oddsOf_88  k88 x3 x4 x6 x8 x10 I J = some q) : Wg M mS V 14 I J 88 [(3, .int x3), (4, .long x4), (6, .long x6), (8, .long x8), (10, .long x10)] [] := by
  unfold HX8_oddsOf_88 at hf
  refine g_lload X dX8_oddsOf_88 4 rfl ?_
  refine g_lconst X dX8_oddsOf_90 (v := 0) rfl ?_
  refine g_lcmp X dX8_oddsOf_91 ?_
  refine g_if_le X dX8_oddsOf_92 (tgt := 113) (by decide) (fun hc7 => ?_) (fun hc7 => ?_)
  · rw [if_pos hc7] at hf
    refine g_iload_n X dX8_oddsOf_113 0 rfl ?_
    refine g_if_ne X dX8_oddsOf_114 (tgt := 125) (by decide) (fun hc8 => ?_) (fun hc8 => ?_)
    · rw [if_neg hc8] at hf
      refine g_lload X dX8_oddsOf_125 1 rfl ?_
      refine g_lload X dX8_oddsOf_127 3 rfl ?_
      obtain ⟨hg9, hf⟩ := gd_some hf
      refine g_ldiv X dX8_oddsOf_129 (of_decide_eq_true hg9) ?_
      refine g_sub [] rfl ?_
      exact wBX8_oddsOf_130  X hQ  (x4 / x8)  I J hf
    · rw [if_pos hc8] at hf
      refine g_lload X dX8_oddsOf_117 2 rfl ?_
      refine g_lload X dX8_oddsOf_119 3 rfl ?_
      obtain ⟨hg10, hf⟩ := gd_some hf
      refine g_ldiv X dX8_oddsOf_121 (of_decide_eq_true hg10) ?_
      refine g_goto X dX8_oddsOf_122 (tgt := 130) (by decide) ?_
      refine g_sub [] rfl ?_
      exact wBX8_oddsOf_130  X hQ  (x6 / x8)  I J hf
  · rw [if_neg hc7] at hf
    refine g_lload X dX8_oddsOf_95 3 rfl ?_
    refine g_lload X dX8_oddsOf_97 4 rfl ?_
    obtain ⟨hg11, hf⟩ := gd_some hf
    refine g_lrem X dX8_oddsOf_99 (of_decide_eq_true hg11) ?_
    refine g_lstore X dX8_oddsOf_100 (by decide) [(12, .long (x8 - x8 / x10 * x10)), (3, .int x3), (4, .long x4), (6, .long x6), (8, .long x8), (10, .long x10)] rfl ?_
    refine g_lload X dX8_oddsOf_102 5 rfl ?_
    refine g_lstore X dX8_oddsOf_104 (by decide) [(8, .long x10), (12, .long (x8 - x8 / x10 * x10)), (3, .int x3), (4, .long x4), (6, .long x6), (10, .long x10)] rfl ?_
    refine g_lload X dX8_oddsOf_106 1 rfl ?_
    refine g_lstore X dX8_oddsOf_108 (by decide) [(10, .long (x8 - x8 / x10 * x10)), (8, .long x10), (12, .long (x8 - x8 / x10 * x10)), (3, .int x3), (4, .long x4), (6, .long x6)] rfl ?_
    refine g_goto X dX8_oddsOf_110 (tgt := 88) (by decide) ?_
    refine g_sub [3, 4, 5, 1, 0] rfl ?_
    exact hk88 x3 x4 x6 x10 (x8 - x8 / x10 * x10)  I J hf
set_option maxRecDepth 4000 in
theorem wLX8_oddsOf_88 {M : MT} {V : VT}  (X : Cx M mS V cX8_oddsOf 14 RX8 (some .int) 2) {q : RT Int32} (hQ : PI M mS V q)  : ∀ (n : Nat) (x3 : Int32) (x4 : Int64) (x6 : Int64) (x8 : Int64) (x10 : Int64)  (I : aI) (J : aJ), LX8_oddsOf_88   n x3 x4 x6 x8 x10 I J = some q → Wg M mS V 14 I J 88 [(3, .int x3), (4, .long x4), (6, .long x6), (8, .long x8), (10, .long x10)] [] := by
  intro n
  induction n with
  | zero => intro x3 x4 x6 x8 x10  I J hf; cases hf
  | succ n ih => intro x3 x4 x6 x8 x10  I J hf; exact wHX8_oddsOf_88  X hQ  (LX8_oddsOf_88   n) ih x3 x4 x6 x8 x10  I J hf
set_option maxRecDepth 4000 in
theorem wHX8_oddsOf_43 {M : MT} {V : VT}  (X : Cx M mS V cX8_oddsOf 14 RX8 (some .int) 2) {q : RT Int32} (hQ : PI M mS V q) (k43 : Int32 → Int32 → Int32 → Int64 → Int32 → aI → aJ → Option (RT Int32)) (hk43 : ∀ (x1 : Int32) (x2 : Int32) (x3 : Int32) (x4 : Int64) (x6 : Int32)  (I : aI) (J : aJ), k43 x1 x2 x3 x4 x6 I J = some q → Wg M mS V 14 I J 43 [(0, .ref (V.2.2 0)), (1, .int x1), (2, .int x2), (3, .int x3), (4, .long x4), (6, .int x6)] []) (x1 : Int32) (x2 : Int32) (x3 : Int32) (x4 : Int64) (x6 : Int32)  (I : aI) (J : aJ) (hf : HX8_oddsOf_43  k43 x1 x2 x3 x4 x6 I J = some q) : Wg M mS V 14 I J 43 [(0, .ref (V.2.2 0)), (1, .int x1), (2, .int x2), (3, .int x3), (4, .long x4), (6, .int x6)] [] := by
  unfold HX8_oddsOf_43 at hf
  refine g_iload X dX8_oddsOf_43 5 rfl ?_
  refine g_iload_n X dX8_oddsOf_45 2 rfl ?_
  refine g_icmp_ge X dX8_oddsOf_46 (tgt := 67) (by decide) (fun hc3 => ?_) (fun hc3 => ?_)
  · rw [if_pos hc3] at hf
    refine g_aload_n X dX8_oddsOf_67 0 rfl ?_
    refine g_get X dX8_oddsOf_68 okM_0 cl8 25 (by decide) m_843 rfl ?_
    refine g_aload_n X dX8_oddsOf_71 0 rfl ?_
    refine g_get X dX8_oddsOf_72 okM_0 cl8 12 (by decide) m_830 rfl ?_
    refine g_iload_n X dX8_oddsOf_75 1 rfl ?_
    obtain ⟨hg4, hf⟩ := gd_some hf
    refine g_iaload X dX8_oddsOf_76 okM_5 hg4 ?_
    obtain ⟨hg5, hf⟩ := gd_some hf
    refine g_laload X dX8_oddsOf_77 okM_17 hg5 ?_
    refine g_lstore X dX8_oddsOf_78 (by decide) [(6, .long (J 17 (Int32.toNatClampNeg (I 5 (Int32.toNatClampNeg x1))))), (0, .ref (V.2.2 0)), (1, .int x1), (2, .int x2), (3, .int x3), (4, .long x4)] rfl ?_
    refine g_lload X dX8_oddsOf_80 5 rfl ?_
    refine g_lstore X dX8_oddsOf_82 (by decide) [(8, .long x4), (6, .long (J 17 (Int32.toNatClampNeg (I 5 (Int32.toNatClampNeg x1))))), (0, .ref (V.2.2 0)), (1, .int x1), (2, .int x2), (3, .int x3), (4, .long x4)] rfl ?_
    refine g_lload X dX8_oddsOf_84 1 rfl ?_
    refine g_lstore X dX8_oddsOf_86 (by decide) [(10, .long (J 17 (Int32.toNatClampNeg (I 5 (Int32.toNatClampNeg x1))))), (8, .long x4), (6, .long (J 17 (Int32.toNatClampNeg (I 5 (Int32.toNatClampNeg x1))))), (0, .ref (V.2.2 0)), (1, .int x1), (2, .int x2), (3, .int x3), (4, .long x4)] rfl ?_
    refine g_sub [6, 7, 2, 1, 0] rfl ?_
    exact wLX8_oddsOf_88  X hQ  128 x3 x4 (J 17 (Int32.toNatClampNeg (I 5 (Int32.toNatClampNeg x1)))) x4 (J 17 (Int32.toNatClampNeg (I 5 (Int32.toNatClampNeg x1))))  I J hf
  · rw [if_neg hc3] at hf
    refine g_aload_n X dX8_oddsOf_49 0 rfl ?_
    obtain ⟨r6, I6, J6, hb6, hf⟩ := bnd_some hf
    refine g_callV X dX8_oddsOf_50 cw_X8_244 (k := 0) (As := []) (rcv okM_0 cl8) rfl rfl (Nat.le_of_ble_eq_true rfl) (by decide) (cX8_stray_ok  M.2.1 V   I J hb6) (kV ?_)
    refine g_lload X dX8_oddsOf_53 4 rfl ?_
    refine g_ldc2 X dX8_oddsOf_55 m_1135 ?_
    refine g_lmul X dX8_oddsOf_58 ?_
    refine g_lstore X dX8_oddsOf_59 (by decide) [(4, .long (x4 * 840)), (0, .ref (V.2.2 0)), (1, .int x1), (2, .int x2), (3, .int x3), (6, .int x6)] rfl ?_
    refine g_iinc X dX8_oddsOf_61 5 rfl 1 rfl (by decide) [(6, .int (x6 + 1)), (4, .long (x4 * 840)), (0, .ref (V.2.2 0)), (1, .int x1), (2, .int x2), (3, .int x3)] rfl ?_
    refine g_goto X dX8_oddsOf_64 (tgt := 43) (by decide) ?_
    refine g_sub [2, 3, 4, 5, 1, 0] rfl ?_
    exact hk43 x1 x2 x3 (x4 * 840) (x6 + 1)  I6 J6 hf
set_option maxRecDepth 4000 in
theorem wLX8_oddsOf_43 {M : MT} {V : VT}  (X : Cx M mS V cX8_oddsOf 14 RX8 (some .int) 2) {q : RT Int32} (hQ : PI M mS V q)  : ∀ (n : Nat) (x1 : Int32) (x2 : Int32) (x3 : Int32) (x4 : Int64) (x6 : Int32)  (I : aI) (J : aJ), LX8_oddsOf_43   n x1 x2 x3 x4 x6 I J = some q → Wg M mS V 14 I J 43 [(0, .ref (V.2.2 0)), (1, .int x1), (2, .int x2), (3, .int x3), (4, .long x4), (6, .int x6)] [] := by
  intro n
  induction n with
  | zero => intro x1 x2 x3 x4 x6  I J hf; cases hf
  | succ n ih => intro x1 x2 x3 x4 x6  I J hf; exact wHX8_oddsOf_43  X hQ  (LX8_oddsOf_43   n) ih x1 x2 x3 x4 x6  I J hf
set_option maxRecDepth 4000 in
theorem wBX8_oddsOf_33 {M : MT} {V : VT}  (X : Cx M mS V cX8_oddsOf 14 RX8 (some .int) 2) {q : RT Int32} (hQ : PI M mS V q) (k6 : Int32 → Int32 → Int32 → Int64 → Int32 → aI → aJ → Option (RT Int32)) (hk6 : ∀ (x1 : Int32) (x2 : Int32) (x3 : Int32) (x4 : Int64) (x6 : Int32)  (I : aI) (J : aJ), k6 x1 x2 x3 x4 x6 I J = some q → Wg M mS V 14 I J 6 [(0, .ref (V.2.2 0)), (1, .int x1), (2, .int x2), (3, .int x3), (4, .long x4), (6, .int x6)] []) (x1 : Int32) (x2 : Int32) (x3 : Int32) (x4 : Int64) (x6 : Int32) (s0 : Int64) (s1 : Int32)  (I : aI) (J : aJ) (hf : BX8_oddsOf_33  k6 x1 x2 x3 x4 x6 s0 s1 I J = some q) : Wg M mS V 14 I J 33 [(0, .ref (V.2.2 0)), (1, .int x1), (2, .int x2), (3, .int x3), (4, .long x4), (6, .int x6)] [.long s0, .int s1, .ref (V.2.2 17)] := by
  unfold BX8_oddsOf_33 at hf
  obtain ⟨hg12, hf⟩ := gd_some hf
  refine g_lastore X dX8_oddsOf_33 okM_17 hg12 ?_
  refine g_iinc X dX8_oddsOf_34 5 rfl 1 rfl (by decide) [(6, .int (x6 + 1)), (0, .ref (V.2.2 0)), (1, .int x1), (2, .int x2), (3, .int x3), (4, .long x4)] rfl ?_
  refine g_goto X dX8_oddsOf_37 (tgt := 6) (by decide) ?_
  refine g_sub [1, 2, 3, 4, 5, 0] rfl ?_
  exact hk6 x1 x2 x3 x4 (x6 + 1)  I (pJ J 17 (Int32.toNatClampNeg s1) s0) hf
set_option maxRecDepth 4000 in
theorem wHX8_oddsOf_6 {M : MT} {V : VT}  (X : Cx M mS V cX8_oddsOf 14 RX8 (some .int) 2) {q : RT Int32} (hQ : PI M mS V q) (k6 : Int32 → Int32 → Int32 → Int64 → Int32 → aI → aJ → Option (RT Int32)) (hk6 : ∀ (x1 : Int32) (x2 : Int32) (x3 : Int32) (x4 : Int64) (x6 : Int32)  (I : aI) (J : aJ), k6 x1 x2 x3 x4 x6 I J = some q → Wg M mS V 14 I J 6 [(0, .ref (V.2.2 0)), (1, .int x1), (2, .int x2), (3, .int x3), (4, .long x4), (6, .int x6)] []) (x1 : Int32) (x2 : Int32) (x3 : Int32) (x4 : Int64) (x6 : Int32)  (I : aI) (J : aJ) (hf : HX8_oddsOf_6  k6 x1 x2 x3 x4 x6 I J = some q) : Wg M mS V 14 I J 6 [(0, .ref (V.2.2 0)), (1, .int x1), (2, .int x2), (3, .int x3), (4, .long x4), (6, .int x6)] [] := by
  unfold HX8_oddsOf_6 at hf
  refine g_iload X dX8_oddsOf_6 5 rfl ?_
  refine g_bipush X dX8_oddsOf_8 (v := 6) rfl ?_
  refine g_icmp_ge X dX8_oddsOf_10 (tgt := 40) (by decide) (fun hc1 => ?_) (fun hc1 => ?_)
  · rw [if_pos hc1] at hf
    refine g_iconst X dX8_oddsOf_40 (v := 0) rfl ?_
    refine g_istore X dX8_oddsOf_41 (by decide) [(6, .int 0), (0, .ref (V.2.2 0)), (1, .int x1), (2, .int x2), (3, .int x3), (4, .long x4)] rfl ?_
    refine g_sub [1, 2, 3, 4, 5, 0] rfl ?_
    exact wLX8_oddsOf_43  X hQ  128 x1 x2 x3 x4 0  I J hf
  · rw [if_neg hc1] at hf
    refine g_aload_n X dX8_oddsOf_13 0 rfl ?_
    refine g_get X dX8_oddsOf_14 okM_0 cl8 25 (by decide) m_843 rfl ?_
    refine g_iload X dX8_oddsOf_17 5 rfl ?_
    refine g_iload X dX8_oddsOf_19 5 rfl ?_
    refine g_aload_n X dX8_oddsOf_21 0 rfl ?_
    refine g_get X dX8_oddsOf_22 okM_0 cl8 6 (by decide) m_824 rfl ?_
    refine g_icmp_ne X dX8_oddsOf_25 (tgt := 32) (by decide) (fun hc2 => ?_) (fun hc2 => ?_)
    · rw [if_neg hc2] at hf
      refine g_lconst X dX8_oddsOf_32 (v := 0) rfl ?_
      exact wBX8_oddsOf_33  X hQ k6 hk6 x1 x2 x3 x4 x6 0 x6  I J hf
    · rw [if_pos hc2] at hf
      refine g_lconst X dX8_oddsOf_28 (v := 1) rfl ?_
      refine g_goto X dX8_oddsOf_29 (tgt := 33) (by decide) ?_
      exact wBX8_oddsOf_33  X hQ k6 hk6 x1 x2 x3 x4 x6 1 x6  I J hf
set_option maxRecDepth 4000 in
theorem wLX8_oddsOf_6 {M : MT} {V : VT}  (X : Cx M mS V cX8_oddsOf 14 RX8 (some .int) 2) {q : RT Int32} (hQ : PI M mS V q)  : ∀ (n : Nat) (x1 : Int32) (x2 : Int32) (x3 : Int32) (x4 : Int64) (x6 : Int32)  (I : aI) (J : aJ), LX8_oddsOf_6   n x1 x2 x3 x4 x6 I J = some q → Wg M mS V 14 I J 6 [(0, .ref (V.2.2 0)), (1, .int x1), (2, .int x2), (3, .int x3), (4, .long x4), (6, .int x6)] [] := by
  intro n
  induction n with
  | zero => intro x1 x2 x3 x4 x6  I J hf; cases hf
  | succ n ih => intro x1 x2 x3 x4 x6  I J hf; exact wHX8_oddsOf_6  X hQ  (LX8_oddsOf_6   n) ih x1 x2 x3 x4 x6  I J hf
set_option maxRecDepth 4000 in
theorem wX8_oddsOf {M : MT} {V : VT} (X : Cx M mS V cX8_oddsOf 14 RX8 (some .int) 2) {q : RT Int32} (hQ : PI M mS V q) (x1 : Int32) (x2 : Int32) (x3 : Int32)  (I : aI) (J : aJ) (hf : fX8_oddsOf x1 x2 x3 I J = some q) : Wg M mS V 14 I J 0 [(0, .ref (V.2.2 0)), (1, .int x1), (2, .int x2), (3, .int x3)] [] := by
  unfold fX8_oddsOf at hf
  refine g_lconst X dX8_oddsOf_0 (v := 1) rfl ?_
  refine g_lstore X dX8_oddsOf_1 (by decide) [(4, .long 1), (0, .ref (V.2.2 0)), (1, .int x1), (2, .int x2), (3, .int x3)] rfl ?_
  refine g_iconst X dX8_oddsOf_3 (v := 0) rfl ?_
  refine g_istore X dX8_oddsOf_4 (by decide) [(6, .int 0), (4, .long 1), (0, .ref (V.2.2 0)), (1, .int x1), (2, .int x2), (3, .int x3)] rfl ?_
  refine g_sub [2, 3, 4, 5, 1, 0] rfl ?_
  exact wLX8_oddsOf_6  X hQ  128 x1 x2 x3 1 0  I J hf
set_option maxRecDepth 4000 in
theorem cX8_oddsOf_ok (l : Launch) (V : VT) (x1 : Int32) (x2 : Int32) (x3 : Int32)  (I : aI) (J : aJ) {q : RT Int32} (hf : fX8_oddsOf x1 x2 x3 I J = some q) : Met l yX8_oddsOf (.code yX8_oddsOf cX8_oddsOf 14 (some .int) :: GG) (rmD 2) (va_Pc [.ref (V.2.2 0), .int x1, .int x2, .int x3] (cQ mS V I J)) (QI mS V q) 0 0 (vAd mS V) :=
  met_I (by decide +kernel) rfl (Nat.le_of_ble_eq_true rfl) (fun _ _ X hQ => wX8_oddsOf X hQ x1 x2 x3  I J hf)
-- X8_sayThings
set_option maxRecDepth 4000 in
theorem wHX8_sayThings_50 {M : MT} {V : VT}  (X : Cx M mS V cX8_sayThings 3 RX8 none 5) {q : RT Unit} (hQ : PV M mS V q) (k40 : Int32 → aI → aJ → Option (RT Unit)) (hk40 : ∀ (x1 : Int32)  (I : aI) (J : aJ), k40 x1 I J = some q → Wg M mS V 3 I J 40 [(0, .ref (V.2.2 0)), (1, .int x1)] []) (k50 : Int32 → Int32 → aI → aJ → Option (RT Unit)) (hk50 : ∀ (x1 : Int32) (x2 : Int32)  (I : aI) (J : aJ), k50 x1 x2 I J = some q → Wg M mS V 3 I J 50 [(0, .ref (V.2.2 0)), (1, .int x1), (2, .int x2)] []) (x1 : Int32) (x2 : Int32)  (I : aI) (J : aJ) (hf : HX8_sayThings_50  k40 k50 x1 x2 I J = some q) : Wg M mS V 3 I J 50 [(0, .ref (V.2.2 0)), (1, .int x1), (2, .int x2)] [] := by
  unfold HX8_sayThings_50 at hf
  refine g_iload_n X dX8_sayThings_50 2 rfl ?_
  refine g_iconst X dX8_sayThings_51 (v := 4) rfl ?_
  refine g_icmp_ge X dX8_sayThings_52 (tgt := 72) (by decide) (fun hc6 => ?_) (fun hc6 => ?_)
  · rw [if_pos hc6] at hf
    refine g_iinc X dX8_sayThings_72 1 rfl 1 rfl (by decide) [(1, .int (x1 + 1)), (0, .ref (V.2.2 0)), (2, .int x2)] rfl ?_
    refine g_goto X dX8_sayThings_75 (tgt := 40) (by decide) ?_
    refine g_sub [1, 0] rfl ?_
    exact hk40 (x1 + 1)  I J hf
  · rw [if_neg hc6] at hf
    refine g_aload_n X dX8_sayThings_55 0 rfl ?_
    refine g_aload_n X dX8_sayThings_56 0 rfl ?_
    refine g_iload_n X dX8_sayThings_57 1 rfl ?_
    refine g_iload_n X dX8_sayThings_58 2 rfl ?_
    obtain ⟨r7, I7, J7, hb7, hf⟩ := bnd_some hf
    refine g_callV X dX8_sayThings_59 cw_X8_205 (k := 0) (As := [.int x1, .int x2]) (rcv okM_0 cl8) rfl rfl (Nat.le_of_ble_eq_true rfl) (by decide) (cX8_tellCorner_ok  M.2.1 V x1 x2  I J hb7) (kI ?_)
    refine g_i2l X dX8_sayThings_62 ?_
    obtain ⟨r8, I8, J8, hb8, hf⟩ := bnd_some hf
    refine g_callV X dX8_sayThings_63 cw_X8_301 (k := 0) (As := [.long (Int32.toInt64 r7)]) (rcv okM_0 cl8) rfl rfl (Nat.le_of_ble_eq_true rfl) (by decide) (cX8_say_ok  M.2.1 V (Int32.toInt64 r7)  I7 J7 hb8) (kV ?_)
    refine g_iinc X dX8_sayThings_66 2 rfl 1 rfl (by decide) [(2, .int (x2 + 1)), (0, .ref (V.2.2 0)), (1, .int x1)] rfl ?_
    refine g_goto X dX8_sayThings_69 (tgt := 50) (by decide) ?_
    refine g_sub [1, 2, 0] rfl ?_
    exact hk50 x1 (x2 + 1)  I8 J8 hf
set_option maxRecDepth 4000 in
theorem wLX8_sayThings_50 {M : MT} {V : VT}  (X : Cx M mS V cX8_sayThings 3 RX8 none 5) {q : RT Unit} (hQ : PV M mS V q) (k40 : Int32 → aI → aJ → Option (RT Unit)) (hk40 : ∀ (x1 : Int32)  (I : aI) (J : aJ), k40 x1 I J = some q → Wg M mS V 3 I J 40 [(0, .ref (V.2.2 0)), (1, .int x1)] []) : ∀ (n : Nat) (x1 : Int32) (x2 : Int32)  (I : aI) (J : aJ), LX8_sayThings_50  k40 n x1 x2 I J = some q → Wg M mS V 3 I J 50 [(0, .ref (V.2.2 0)), (1, .int x1), (2, .int x2)] [] := by
  intro n
  induction n with
  | zero => intro x1 x2  I J hf; cases hf
  | succ n ih => intro x1 x2  I J hf; exact wHX8_sayThings_50  X hQ k40 hk40 (LX8_sayThings_50  k40 n) ih x1 x2  I J hf
set_option maxRecDepth 4000 in
theorem wHX8_sayThings_40 {M : MT} {V : VT}  (X : Cx M mS V cX8_sayThings 3 RX8 none 5) {q : RT Unit} (hQ : PV M mS V q) (k40 : Int32 → aI → aJ → Option (RT Unit)) (hk40 : ∀ (x1 : Int32)  (I : aI) (J : aJ), k40 x1 I J = some q → Wg M mS V 3 I J 40 [(0, .ref (V.2.2 0)), (1, .int x1)] []) (x1 : Int32)  (I : aI) (J : aJ) (hf : HX8_sayThings_40  k40 x1 I J = some q) : Wg M mS V 3 I J 40 [(0, .ref (V.2.2 0)), (1, .int x1)] [] := by
  unfold HX8_sayThings_40 at hf
  refine g_iload_n X dX8_sayThings_40 1 rfl ?_
  refine g_aload_n X dX8_sayThings_41 0 rfl ?_
  refine g_get X dX8_sayThings_42 okM_0 cl8 3 (by decide) m_821 rfl ?_
  refine g_icmp_ge X dX8_sayThings_45 (tgt := 78) (by decide) (fun hc5 => ?_) (fun hc5 => ?_)
  · rw [if_pos hc5] at hf
    cases hf
    exact g_vreturn X dX8_sayThings_78 hQ
  · rw [if_neg hc5] at hf
    refine g_iconst X dX8_sayThings_48 (v := 0) rfl ?_
    refine g_istore_n X dX8_sayThings_49 (by decide) [(2, .int 0), (0, .ref (V.2.2 0)), (1, .int x1)] rfl ?_
    refine g_sub [1, 2, 0] rfl ?_
    exact wLX8_sayThings_50  X hQ k40 hk40 128 x1 0  I J hf
set_option maxRecDepth 4000 in
theorem wLX8_sayThings_40 {M : MT} {V : VT}  (X : Cx M mS V cX8_sayThings 3 RX8 none 5) {q : RT Unit} (hQ : PV M mS V q)  : ∀ (n : Nat) (x1 : Int32)  (I : aI) (J : aJ), LX8_sayThings_40   n x1 I J = some q → Wg M mS V 3 I J 40 [(0, .ref (V.2.2 0)), (1, .int x1)] [] := by
  intro n
  induction n with
  | zero => intro x1  I J hf; cases hf
  | succ n ih => intro x1  I J hf; exact wHX8_sayThings_40  X hQ  (LX8_sayThings_40   n) ih x1  I J hf
set_option maxRecDepth 4000 in
theorem wHX8_sayThings_2 {M : MT} {V : VT}  (X : Cx M mS V cX8_sayThings 3 RX8 none 5) {q : RT Unit} (hQ : PV M mS V q) (k2 : Int32 → aI → aJ → Option (RT Unit)) (hk2 : ∀ (x1 : Int32)  (I : aI) (J : aJ), k2 x1 I J = some q → Wg M mS V 3 I J 2 [(0, .ref (V.2.2 0)), (1, .int x1)] []) (x1 : Int32)  (I : aI) (J : aJ) (hf : HX8_sayThings_2  k2 x1 I J = some q) : Wg M mS V 3 I J 2 [(0, .ref (V.2.2 0)), (1, .int x1)] [] := by
  unfold HX8_sayThings_2 at hf
  refine g_iload_n X dX8_sayThings_2 1 rfl ?_
  refine g_aload_n X dX8_sayThings_3 0 rfl ?_
  refine g_get X dX8_sayThings_4 okM_0 cl8 4 (by decide) m_822 rfl ?_
  refine g_icmp_ge X dX8_sayThings_7 (tgt := 38) (by decide) (fun hc1 => ?_) (fun hc1 => ?_)
  · rw [if_pos hc1] at hf
    refine g_iconst X dX8_sayThings_38 (v := 0) rfl ?_
    refine g_istore_n X dX8_sayThings_39 (by decide) [(1, .int 0), (0, .ref (V.2.2 0))] rfl ?_
    refine g_sub [1, 0] rfl ?_
    exact wLX8_sayThings_40  X hQ  128 0  I J hf
  · rw [if_neg hc1] at hf
    refine g_aload_n X dX8_sayThings_10 0 rfl ?_
    refine g_aload_n X dX8_sayThings_11 0 rfl ?_
    refine g_get X dX8_sayThings_12 okM_0 cl8 9 (by decide) m_827 rfl ?_
    refine g_iload_n X dX8_sayThings_15 1 rfl ?_
    obtain ⟨hg2, hf⟩ := gd_some hf
    refine g_iaload X dX8_sayThings_16 okM_2 hg2 ?_
    refine g_i2l X dX8_sayThings_17 ?_
    obtain ⟨r3, I3, J3, hb3, hf⟩ := bnd_some hf
    refine g_callV X dX8_sayThings_18 cw_X8_301 (k := 0) (As := [.long (Int32.toInt64 (I 2 (Int32.toNatClampNeg x1)))]) (rcv okM_0 cl8) rfl rfl (Nat.le_of_ble_eq_true rfl) (by decide) (cX8_say_ok  M.2.1 V (Int32.toInt64 (I 2 (Int32.toNatClampNeg x1)))  I J hb3) (kV ?_)
    refine g_aload_n X dX8_sayThings_21 0 rfl ?_
    refine g_aload_n X dX8_sayThings_22 0 rfl ?_
    refine g_get X dX8_sayThings_23 okM_0 cl8 10 (by decide) m_828 rfl ?_
    refine g_iload_n X dX8_sayThings_26 1 rfl ?_
    refine g_iaload X dX8_sayThings_27 okM_3 hg2 ?_
    refine g_i2l X dX8_sayThings_28 ?_
    obtain ⟨r4, I4, J4, hb4, hf⟩ := bnd_some hf
    refine g_callV X dX8_sayThings_29 cw_X8_301 (k := 0) (As := [.long (Int32.toInt64 (I3 3 (Int32.toNatClampNeg x1)))]) (rcv okM_0 cl8) rfl rfl (Nat.le_of_ble_eq_true rfl) (by decide) (cX8_say_ok  M.2.1 V (Int32.toInt64 (I3 3 (Int32.toNatClampNeg x1)))  I3 J3 hb4) (kV ?_)
    refine g_iinc X dX8_sayThings_32 1 rfl 1 rfl (by decide) [(1, .int (x1 + 1)), (0, .ref (V.2.2 0))] rfl ?_
    refine g_goto X dX8_sayThings_35 (tgt := 2) (by decide) ?_
    refine g_sub [1, 0] rfl ?_
    exact hk2 (x1 + 1)  I4 J4 hf
set_option maxRecDepth 4000 in
theorem wLX8_sayThings_2 {M : MT} {V : VT}  (X : Cx M mS V cX8_sayThings 3 RX8 none 5) {q : RT Unit} (hQ : PV M mS V q)  : ∀ (n : Nat) (x1 : Int32)  (I : aI) (J : aJ), LX8_sayThings_2   n x1 I J = some q → Wg M mS V 3 I J 2 [(0, .ref (V.2.2 0)), (1, .int x1)] [] := by
  intro n
  induction n with
  | zero => intro x1  I J hf; cases hf
  | succ n ih => intro x1  I J hf; exact wHX8_sayThings_2  X hQ  (LX8_sayThings_2   n) ih x1  I J hf
set_option maxRecDepth 4000 in
theorem wX8_sayThings {M : MT} {V : VT} (X : Cx M mS V cX8_sayThings 3 RX8 none 5) {q : RT Unit} (hQ : PV M mS V q)   (I : aI) (J : aJ) (hf : fX8_sayThings  I J = some q) : Wg M mS V 3 I J 0 [(0, .ref (V.2.2 0))] [] := by
  unfold fX8_sayThings at hf
  refine g_iconst X dX8_sayThings_0 (v := 0) rfl ?_
  refine g_istore_n X dX8_sayThings_1 (by decide) [(1, .int 0), (0, .ref (V.2.2 0))] rfl ?_
  refine g_sub [1, 0] rfl ?_
  exact wLX8_sayThings_2  X hQ  128 0  I J hf
set_option maxRecDepth 4000 in
theorem cX8_sayThings_ok (l : Launch) (V : VT)   (I : aI) (J : aJ) {q : RT Unit} (hf : fX8_sayThings  I J = some q) : Met l yX8_sayThings (.code yX8_sayThings cX8_sayThings 3 none :: GG) (rmD 5) (va_Pc [.ref (V.2.2 0)] (cQ mS V I J)) (QV mS V q) 0 0 (vAd mS V) :=
  met_V (by decide +kernel) rfl (Nat.le_of_ble_eq_true rfl) (fun _ _ X hQ => wX8_sayThings X hQ   I J hf)
-- X8_digest
set_option maxRecDepth 4000 in
theorem wHX8_digest_130 {M : MT} {V : VT}  (X : Cx M mS V cX8_digest 3 RX8 (some .long) 6) {q : RT Int64} (hQ : PL M mS V q) (k130 : Int32 → aI → aJ → Option (RT Int64)) (hk130 : ∀ (x1 : Int32)  (I : aI) (J : aJ), k130 x1 I J = some q → Wg M mS V 3 I J 130 [(0, .ref (V.2.2 0)), (1, .int x1)] []) (x1 : Int32)  (I : aI) (J : aJ) (hf : HX8_digest_130  k130 x1 I J = some q) : Wg M mS V 3 I J 130 [(0, .ref (V.2.2 0)), (1, .int x1)] [] := by
  unfold HX8_digest_130 at hf
  refine g_iload_n X dX8_digest_130 1 rfl ?_
  refine g_bipush X dX8_digest_131 (v := 12) rfl ?_
  refine g_icmp_ge X dX8_digest_133 (tgt := 152) (by decide) (fun hc12 => ?_) (fun hc12 => ?_)
  · rw [if_pos hc12] at hf
    refine g_aload_n X dX8_digest_152 0 rfl ?_
    refine g_get X dX8_digest_153 okM_0 cl8 40 (by decide) m_858 rfl ?_
    cases hf
    exact g_lreturn X dX8_digest_156 hQ
  · rw [if_neg hc12] at hf
    refine g_aload_n X dX8_digest_136 0 rfl ?_
    refine g_aload_n X dX8_digest_137 0 rfl ?_
    refine g_iload_n X dX8_digest_138 1 rfl ?_
    obtain ⟨r13, I13, J13, hb13, hf⟩ := bnd_some hf
    refine g_callV X dX8_digest_139 cw_X8_292 (k := 0) (As := [.int x1]) (rcv okM_0 cl8) rfl rfl (Nat.le_of_ble_eq_true rfl) (by decide) (cX8_countOf_ok  M.2.1 V x1  I J hb13) (kI ?_)
    refine g_i2l X dX8_digest_142 ?_
    obtain ⟨r14, I14, J14, hb14, hf⟩ := bnd_some hf
    refine g_callV X dX8_digest_143 cw_X8_301 (k := 0) (As := [.long (Int32.toInt64 r13)]) (rcv okM_0 cl8) rfl rfl (Nat.le_of_ble_eq_true rfl) (by decide) (cX8_say_ok  M.2.1 V (Int32.toInt64 r13)  I13 J13 hb14) (kV ?_)
    refine g_iinc X dX8_digest_146 1 rfl 1 rfl (by decide) [(1, .int (x1 + 1)), (0, .ref (V.2.2 0))] rfl ?_
    refine g_goto X dX8_digest_149 (tgt := 130) (by decide) ?_
    refine g_sub [1, 0] rfl ?_
    exact hk130 (x1 + 1)  I14 J14 hf
set_option maxRecDepth 4000 in
theorem wLX8_digest_130 {M : MT} {V : VT}  (X : Cx M mS V cX8_digest 3 RX8 (some .long) 6) {q : RT Int64} (hQ : PL M mS V q)  : ∀ (n : Nat) (x1 : Int32)  (I : aI) (J : aJ), LX8_digest_130   n x1 I J = some q → Wg M mS V 3 I J 130 [(0, .ref (V.2.2 0)), (1, .int x1)] [] := by
  intro n
  induction n with
  | zero => intro x1  I J hf; cases hf
  | succ n ih => intro x1  I J hf; exact wHX8_digest_130  X hQ  (LX8_digest_130   n) ih x1  I J hf
set_option maxRecDepth 4000 in
theorem wHX8_digest_103 {M : MT} {V : VT}  (X : Cx M mS V cX8_digest 3 RX8 (some .long) 6) {q : RT Int64} (hQ : PL M mS V q) (k103 : Int32 → aI → aJ → Option (RT Int64)) (hk103 : ∀ (x1 : Int32)  (I : aI) (J : aJ), k103 x1 I J = some q → Wg M mS V 3 I J 103 [(0, .ref (V.2.2 0)), (1, .int x1)] []) (x1 : Int32)  (I : aI) (J : aJ) (hf : HX8_digest_103  k103 x1 I J = some q) : Wg M mS V 3 I J 103 [(0, .ref (V.2.2 0)), (1, .int x1)] [] := by
  unfold HX8_digest_103 at hf
  refine g_iload_n X dX8_digest_103 1 rfl ?_
  refine g_aload_n X dX8_digest_104 0 rfl ?_
  refine g_get X dX8_digest_105 okM_0 cl8 1 (by decide) m_819 rfl ?_
  refine g_icmp_ge X dX8_digest_108 (tgt := 128) (by decide) (fun hc9 => ?_) (fun hc9 => ?_)
  · rw [if_pos hc9] at hf
    refine g_iconst X dX8_digest_128 (v := 0) rfl ?_
    refine g_istore_n X dX8_digest_129 (by decide) [(1, .int 0), (0, .ref (V.2.2 0))] rfl ?_
    refine g_sub [1, 0] rfl ?_
    exact wLX8_digest_130  X hQ  128 0  I J hf
  · rw [if_neg hc9] at hf
    refine g_aload_n X dX8_digest_111 0 rfl ?_
    refine g_aload_n X dX8_digest_112 0 rfl ?_
    refine g_get X dX8_digest_113 okM_0 cl8 0 (by decide) m_818 rfl ?_
    refine g_iload_n X dX8_digest_116 1 rfl ?_
    obtain ⟨hg10, hf⟩ := gd_some hf
    refine g_iaload X dX8_digest_117 okM_1 hg10 ?_
    refine g_i2l X dX8_digest_118 ?_
    obtain ⟨r11, I11, J11, hb11, hf⟩ := bnd_some hf
    refine g_callV X dX8_digest_119 cw_X8_301 (k := 0) (As := [.long (Int32.toInt64 (I 1 (Int32.toNatClampNeg x1)))]) (rcv okM_0 cl8) rfl rfl (Nat.le_of_ble_eq_true rfl) (by decide) (cX8_say_ok  M.2.1 V (Int32.toInt64 (I 1 (Int32.toNatClampNeg x1)))  I J hb11) (kV ?_)
    refine g_iinc X dX8_digest_122 1 rfl 1 rfl (by decide) [(1, .int (x1 + 1)), (0, .ref (V.2.2 0))] rfl ?_
    refine g_goto X dX8_digest_125 (tgt := 103) (by decide) ?_
    refine g_sub [1, 0] rfl ?_
    exact hk103 (x1 + 1)  I11 J11 hf
set_option maxRecDepth 4000 in
theorem wLX8_digest_103 {M : MT} {V : VT}  (X : Cx M mS V cX8_digest 3 RX8 (some .long) 6) {q : RT Int64} (hQ : PL M mS V q)  : ∀ (n : Nat) (x1 : Int32)  (I : aI) (J : aJ), LX8_digest_103   n x1 I J = some q → Wg M mS V 3 I J 103 [(0, .ref (V.2.2 0)), (1, .int x1)] [] := by
  intro n
  induction n with
  | zero => intro x1  I J hf; cases hf
  | succ n ih => intro x1  I J hf; exact wHX8_digest_103  X hQ  (LX8_digest_103   n) ih x1  I J hf
set_option maxRecDepth 4000 in
theorem wBX8_digest_101 {M : MT} {V : VT}  (X : Cx M mS V cX8_digest 3 RX8 (some .long) 6) {q : RT Int64} (hQ : PL M mS V q)    (I : aI) (J : aJ) (hf : BX8_digest_101    I J = some q) : Wg M mS V 3 I J 101 [(0, .ref (V.2.2 0))] [] := by
  unfold BX8_digest_101 at hf
  refine g_iconst X dX8_digest_101 (v := 0) rfl ?_
  refine g_istore_n X dX8_digest_102 (by decide) [(1, .int 0), (0, .ref (V.2.2 0))] rfl ?_
  refine g_sub [1, 0] rfl ?_
  exact wLX8_digest_103  X hQ  128 0  I J hf
set_option maxRecDepth 4000 in
theorem wHX8_digest_19 {M : MT} {V : VT}  (X : Cx M mS V cX8_digest 3 RX8 (some .long) 6) {q : RT Int64} (hQ : PL M mS V q) (k9 : Int32 → aI → aJ → Option (RT Int64)) (hk9 : ∀ (x1 : Int32)  (I : aI) (J : aJ), k9 x1 I J = some q → Wg M mS V 3 I J 9 [(0, .ref (V.2.2 0)), (1, .int x1)] []) (k19 : Int32 → Int32 → aI → aJ → Option (RT Int64)) (hk19 : ∀ (x1 : Int32) (x2 : Int32)  (I : aI) (J : aJ), k19 x1 x2 I J = some q → Wg M mS V 3 I J 19 [(0, .ref (V.2.2 0)), (1, .int x1), (2, .int x2)] []) (x1 : Int32) (x2 : Int32)  (I : aI) (J : aJ) (hf : HX8_digest_19  k9 k19 x1 x2 I J = some q) : Wg M mS V 3 I J 19 [(0, .ref (V.2.2 0)), (1, .int x1), (2, .int x2)] [] := by
  unfold HX8_digest_19 at hf
  refine g_iload_n X dX8_digest_19 2 rfl ?_
  refine g_bipush X dX8_digest_20 (v := 9) rfl ?_
  refine g_icmp_ge X dX8_digest_22 (tgt := 42) (by decide) (fun hc15 => ?_) (fun hc15 => ?_)
  · rw [if_pos hc15] at hf
    refine g_aload_n X dX8_digest_42 0 rfl ?_
    refine g_aload_n X dX8_digest_43 0 rfl ?_
    refine g_iload_n X dX8_digest_44 1 rfl ?_
    refine g_iconst X dX8_digest_45 (v := 2) rfl ?_
    refine g_iconst X dX8_digest_46 (v := 0) rfl ?_
    obtain ⟨r16, I16, J16, hb16, hf⟩ := bnd_some hf
    refine g_callV X dX8_digest_47 cw_X8_247 (k := 0) (As := [.int x1, .int 2, .int 0]) (rcv okM_0 cl8) rfl rfl (Nat.le_of_ble_eq_true rfl) (by decide) (cX8_oddsOf_ok  M.2.1 V x1 2 0  I J hb16) (kI ?_)
    refine g_i2l X dX8_digest_50 ?_
    obtain ⟨r17, I17, J17, hb17, hf⟩ := bnd_some hf
    refine g_callV X dX8_digest_51 cw_X8_301 (k := 0) (As := [.long (Int32.toInt64 r16)]) (rcv okM_0 cl8) rfl rfl (Nat.le_of_ble_eq_true rfl) (by decide) (cX8_say_ok  M.2.1 V (Int32.toInt64 r16)  I16 J16 hb17) (kV ?_)
    refine g_aload_n X dX8_digest_54 0 rfl ?_
    refine g_aload_n X dX8_digest_55 0 rfl ?_
    refine g_iload_n X dX8_digest_56 1 rfl ?_
    refine g_iconst X dX8_digest_57 (v := 2) rfl ?_
    refine g_iconst X dX8_digest_58 (v := 1) rfl ?_
    obtain ⟨r18, I18, J18, hb18, hf⟩ := bnd_some hf
    refine g_callV X dX8_digest_59 cw_X8_247 (k := 0) (As := [.int x1, .int 2, .int 1]) (rcv okM_0 cl8) rfl rfl (Nat.le_of_ble_eq_true rfl) (by decide) (cX8_oddsOf_ok  M.2.1 V x1 2 1  I17 J17 hb18) (kI ?_)
    refine g_i2l X dX8_digest_62 ?_
    obtain ⟨r19, I19, J19, hb19, hf⟩ := bnd_some hf
    refine g_callV X dX8_digest_63 cw_X8_301 (k := 0) (As := [.long (Int32.toInt64 r18)]) (rcv okM_0 cl8) rfl rfl (Nat.le_of_ble_eq_true rfl) (by decide) (cX8_say_ok  M.2.1 V (Int32.toInt64 r18)  I18 J18 hb19) (kV ?_)
    refine g_iinc X dX8_digest_66 1 rfl 1 rfl (by decide) [(1, .int (x1 + 1)), (0, .ref (V.2.2 0)), (2, .int x2)] rfl ?_
    refine g_goto X dX8_digest_69 (tgt := 9) (by decide) ?_
    refine g_sub [1, 0] rfl ?_
    exact hk9 (x1 + 1)  I19 J19 hf
  · rw [if_neg hc15] at hf
    refine g_aload_n X dX8_digest_25 0 rfl ?_
    refine g_aload_n X dX8_digest_26 0 rfl ?_
    refine g_iload_n X dX8_digest_27 1 rfl ?_
    refine g_iload_n X dX8_digest_28 2 rfl ?_
    obtain ⟨r20, I20, J20, hb20, hf⟩ := bnd_some hf
    refine g_callV X dX8_digest_29 cw_X8_178 (k := 0) (As := [.int x1, .int x2]) (rcv okM_0 cl8) rfl rfl (Nat.le_of_ble_eq_true rfl) (by decide) (cX8_tellPerson_ok  M.2.1 V x1 x2  I J hb20) (kI ?_)
    refine g_i2l X dX8_digest_32 ?_
    obtain ⟨r21, I21, J21, hb21, hf⟩ := bnd_some hf
    refine g_callV X dX8_digest_33 cw_X8_301 (k := 0) (As := [.long (Int32.toInt64 r20)]) (rcv okM_0 cl8) rfl rfl (Nat.le_of_ble_eq_true rfl) (by decide) (cX8_say_ok  M.2.1 V (Int32.toInt64 r20)  I20 J20 hb21) (kV ?_)
    refine g_iinc X dX8_digest_36 2 rfl 1 rfl (by decide) [(2, .int (x2 + 1)), (0, .ref (V.2.2 0)), (1, .int x1)] rfl ?_
    refine g_goto X dX8_digest_39 (tgt := 19) (by decide) ?_
    refine g_sub [1, 2, 0] rfl ?_
    exact hk19 x1 (x2 + 1)  I21 J21 hf
set_option maxRecDepth 4000 in
theorem wLX8_digest_19 {M : MT} {V : VT}  (X : Cx M mS V cX8_digest 3 RX8 (some .long) 6) {q : RT Int64} (hQ : PL M mS V q) (k9 : Int32 → aI → aJ → Option (RT Int64)) (hk9 : ∀ (x1 : Int32)  (I : aI) (J : aJ), k9 x1 I J = some q → Wg M mS V 3 I J 9 [(0, .ref (V.2.2 0)), (1, .int x1)] []) : ∀ (n : Nat) (x1 : Int32) (x2 : Int32)  (I : aI) (J : aJ), LX8_digest_19  k9 n x1 x2 I J = some q → Wg M mS V 3 I J 19 [(0, .ref (V.2.2 0)), (1, .int x1), (2, .int x2)] [] := by
  intro n
  induction n with
  | zero => intro x1 x2  I J hf; cases hf
  | succ n ih => intro x1 x2  I J hf; exact wHX8_digest_19  X hQ k9 hk9 (LX8_digest_19  k9 n) ih x1 x2  I J hf
set_option maxRecDepth 4000 in
theorem wHX8_digest_9 {M : MT} {V : VT}  (X : Cx M mS V cX8_digest 3 RX8 (some .long) 6) {q : RT Int64} (hQ : PL M mS V q) (k9 : Int32 → aI → aJ → Option (RT Int64)) (hk9 : ∀ (x1 : Int32)  (I : aI) (J : aJ), k9 x1 I J = some q → Wg M mS V 3 I J 9 [(0, .ref (V.2.2 0)), (1, .int x1)] []) (x1 : Int32)  (I : aI) (J : aJ) (hf : HX8_digest_9  k9 x1 I J = some q) : Wg M mS V 3 I J 9 [(0, .ref (V.2.2 0)), (1, .int x1)] [] := by
  unfold HX8_digest_9 at hf
  refine g_iload_n X dX8_digest_9 1 rfl ?_
  refine g_aload_n X dX8_digest_10 0 rfl ?_
  refine g_get X dX8_digest_11 okM_0 cl8 5 (by decide) m_823 rfl ?_
  refine g_icmp_ge X dX8_digest_14 (tgt := 72) (by decide) (fun hc1 => ?_) (fun hc1 => ?_)
  · rw [if_pos hc1] at hf
    refine g_aload_n X dX8_digest_72 0 rfl ?_
    obtain ⟨r2, I2, J2, hb2, hf⟩ := bnd_some hf
    refine g_callV X dX8_digest_73 cw_X8_307 (k := 0) (As := []) (rcv okM_0 cl8) rfl rfl (Nat.le_of_ble_eq_true rfl) (by decide) (cX8_sayThings_ok  M.2.1 V   I J hb2) (kV ?_)
    refine g_aload_n X dX8_digest_76 0 rfl ?_
    obtain ⟨r3, I3, J3, hb3, hf⟩ := bnd_some hf
    refine g_callV X dX8_digest_77 cw_X8_229 (k := 0) (As := []) (rcv okM_0 cl8) rfl rfl (Nat.le_of_ble_eq_true rfl) (by decide) (cX8_lacks_ok  M.2.1 V   I2 J2 hb3) (kI ?_)
    refine g_if_ne X dX8_digest_80 (tgt := 101) (by decide) (fun hc4 => ?_) (fun hc4 => ?_)
    · rw [if_neg hc4] at hf
      refine g_sub [0] rfl ?_
      exact wBX8_digest_101  X hQ    I3 J3 hf
    · rw [if_pos hc4] at hf
      refine g_aload_n X dX8_digest_83 0 rfl ?_
      refine g_aload_n X dX8_digest_84 0 rfl ?_
      obtain ⟨r5, I5, J5, hb5, hf⟩ := bnd_some hf
      refine g_callV X dX8_digest_85 cw_X8_253 (k := 0) (As := []) (rcv okM_0 cl8) rfl rfl (Nat.le_of_ble_eq_true rfl) (by decide) (cX8_placesOf_ok  M.2.1 V   I3 J3 hb5) (kI ?_)
      refine g_i2l X dX8_digest_88 ?_
      obtain ⟨r6, I6, J6, hb6, hf⟩ := bnd_some hf
      refine g_callV X dX8_digest_89 cw_X8_301 (k := 0) (As := [.long (Int32.toInt64 r5)]) (rcv okM_0 cl8) rfl rfl (Nat.le_of_ble_eq_true rfl) (by decide) (cX8_say_ok  M.2.1 V (Int32.toInt64 r5)  I5 J5 hb6) (kV ?_)
      refine g_aload_n X dX8_digest_92 0 rfl ?_
      refine g_aload_n X dX8_digest_93 0 rfl ?_
      obtain ⟨r7, I7, J7, hb7, hf⟩ := bnd_some hf
      refine g_callV X dX8_digest_94 cw_X8_256 (k := 0) (As := []) (rcv okM_0 cl8) rfl rfl (Nat.le_of_ble_eq_true rfl) (by decide) (cX8_askOf_ok  M.2.1 V   I6 J6 hb7) (kI ?_)
      refine g_i2l X dX8_digest_97 ?_
      obtain ⟨r8, I8, J8, hb8, hf⟩ := bnd_some hf
      refine g_callV X dX8_digest_98 cw_X8_301 (k := 0) (As := [.long (Int32.toInt64 r7)]) (rcv okM_0 cl8) rfl rfl (Nat.le_of_ble_eq_true rfl) (by decide) (cX8_say_ok  M.2.1 V (Int32.toInt64 r7)  I7 J7 hb8) (kV ?_)
      refine g_sub [0] rfl ?_
      exact wBX8_digest_101  X hQ    I8 J8 hf
  · rw [if_neg hc1] at hf
    refine g_iconst X dX8_digest_17 (v := 0) rfl ?_
    refine g_istore_n X dX8_digest_18 (by decide) [(2, .int 0), (0, .ref (V.2.2 0)), (1, .int x1)] rfl ?_
    refine g_sub [1, 2, 0] rfl ?_
    exact wLX8_digest_19  X hQ k9 hk9 128 x1 0  I J hf
set_option maxRecDepth 4000 in
theorem wLX8_digest_9 {M : MT} {V : VT}  (X : Cx M mS V cX8_digest 3 RX8 (some .long) 6) {q : RT Int64} (hQ : PL M mS V q)  : ∀ (n : Nat) (x1 : Int32)  (I : aI) (J : aJ), LX8_digest_9   n x1 I J = some q → Wg M mS V 3 I J 9 [(0, .ref (V.2.2 0)), (1, .int x1)] [] := by
  intro n
  induction n with
  | zero => intro x1  I J hf; cases hf
  | succ n ih => intro x1  I J hf; exact wHX8_digest_9  X hQ  (LX8_digest_9   n) ih x1  I J hf
set_option maxRecDepth 4000 in
theorem wX8_digest {M : MT} {V : VT} (X : Cx M mS V cX8_digest 3 RX8 (some .long) 6) {q : RT Int64} (hQ : PL M mS V q)   (I : aI) (J : aJ) (hf : fX8_digest  I J = some q) : Wg M mS V 3 I J 0 [(0, .ref (V.2.2 0))] [] := by
  unfold fX8_digest at hf
  refine g_aload_n X dX8_digest_0 0 rfl ?_
  refine g_ldc2 X dX8_digest_1 m_1206 ?_
  refine g_putJ X dX8_digest_4 okM_0 cl8 40 (by decide) m_858 rfl .long rfl rfl rfl (Nat.le_of_ble_eq_true rfl) (fun _ _ => rfl) ?_
  refine g_iconst X dX8_digest_7 (v := 0) rfl ?_
  refine g_istore_n X dX8_digest_8 (by decide) [(1, .int 0), (0, .ref (V.2.2 0))] rfl ?_
  refine g_sub [1, 0] rfl ?_
  exact wLX8_digest_9  X hQ  128 0  I (pJ J 0 40 1237) hf
set_option maxRecDepth 4000 in
theorem cX8_digest_ok (l : Launch) (V : VT)   (I : aI) (J : aJ) {q : RT Int64} (hf : fX8_digest  I J = some q) : Met l yX8_digest (.code yX8_digest cX8_digest 3 (some .long) :: GG) (rmD 6) (va_Pc [.ref (V.2.2 0)] (cQ mS V I J)) (QL mS V q) 0 0 (vAd mS V) :=
  met_L (by decide +kernel) rfl (Nat.le_of_ble_eq_true rfl) (fun _ _ X hQ => wX8_digest X hQ   I J hf)
-- X8_draw
set_option maxRecDepth 4000 in
theorem wX8_draw {M : MT} {V : VT} (X : Cx M mS V cX8_draw 2 RX8 (some .int) 0) {q : RT Int32} (hQ : PI M mS V q) (x1 : Int32)  (I : aI) (J : aJ) (hf : fX8_draw x1 I J = some q) : Wg M mS V 2 I J 0 [(0, .ref (V.2.2 0)), (1, .int x1)] [] := by
  unfold fX8_draw at hf
  refine g_aload_n X dX8_draw_0 0 rfl ?_
  refine g_ldc2 X dX8_draw_1 m_1174 ?_
  refine g_aload_n X dX8_draw_4 0 rfl ?_
  refine g_get X dX8_draw_5 okM_0 cl8 29 (by decide) m_847 rfl ?_
  refine g_i2l X dX8_draw_8 ?_
  refine g_lmul X dX8_draw_9 ?_
  refine g_ldc2 X dX8_draw_10 m_1175 ?_
  refine g_ladd X dX8_draw_13 ?_
  refine g_ldc2 X dX8_draw_14 m_1176 ?_
  refine g_land X dX8_draw_17 ?_
  refine g_l2i X dX8_draw_18 ?_
  refine g_putI X dX8_draw_19 okM_0 cl8 29 (by decide) m_847 rfl .int rfl rfl rfl (Nat.le_of_ble_eq_true rfl) (fun _ _ => rfl) ?_
  refine g_aload_n X dX8_draw_22 0 rfl ?_
  refine g_get X dX8_draw_23 okM_0 cl8 29 (by decide) m_847 rfl ?_
  refine g_ldcw X dX8_draw_26 m_1177 ?_
  refine g_idiv X dX8_draw_29 (by decide) ?_
  refine g_iload_n X dX8_draw_30 1 rfl ?_
  obtain ⟨hg1, hf⟩ := gd_some hf
  refine g_irem X dX8_draw_31 (of_decide_eq_true hg1) ?_
  cases hf
  exact g_ireturn X dX8_draw_32 hQ
set_option maxRecDepth 4000 in
theorem cX8_draw_ok (l : Launch) (V : VT) (x1 : Int32)  (I : aI) (J : aJ) {q : RT Int32} (hf : fX8_draw x1 I J = some q) : Met l yX8_draw (.code yX8_draw cX8_draw 2 (some .int) :: GG) (rmD 0) (va_Pc [.ref (V.2.2 0), .int x1] (cQ mS V I J)) (QI mS V q) 0 0 (vAd mS V) :=
  met_I (by decide +kernel) rfl (Nat.le_of_ble_eq_true rfl) (fun _ _ X hQ => wX8_draw X hQ x1  I J hf)
-- X8_goThen
set_option maxRecDepth 4000 in
theorem wBX8_goThen_140 {M : MT} {V : VT}  (X : Cx M mS V cX8_goThen 5 RX8 (some .int) 1) {q : RT Int32} (hQ : PI M mS V q) (k5 : Int32 → Int32 → Int32 → Int32 → aI → aJ → Option (RT Int32)) (hk5 : ∀ (x1 : Int32) (x2 : Int32) (x3 : Int32) (x4 : Int32)  (I : aI) (J : aJ), k5 x1 x2 x3 x4 I J = some q → Wg M mS V 5 I J 5 [(0, .ref (V.2.2 0)), (1, .int x1), (2, .int x2), (3, .int x3), (4, .int x4)] []) (x1 : Int32) (x2 : Int32) (x3 : Int32) (x4 : Int32)  (I : aI) (J : aJ) (hf : BX8_goThen_140  k5 x1 x2 x3 x4 I J = some q) : Wg M mS V 5 I J 140 [(0, .ref (V.2.2 0)), (1, .int x1), (2, .int x2), (3, .int x3), (4, .int x4)] [] := by
  unfold BX8_goThen_140 at hf
  refine g_iinc X dX8_goThen_140 4 rfl 1 rfl (by decide) [(4, .int (x4 + 1)), (0, .ref (V.2.2 0)), (1, .int x1), (2, .int x2), (3, .int x3)] rfl ?_
  refine g_goto X dX8_goThen_143 (tgt := 5) (by decide) ?_
  refine g_sub [1, 2, 3, 4, 0] rfl ?_
  exact hk5 x1 x2 x3 (x4 + 1)  I J hf
set_option maxRecDepth 4000 in
theorem wBX8_goThen_129 {M : MT} {V : VT}  (X : Cx M mS V cX8_goThen 5 RX8 (some .int) 1) {q : RT Int32} (hQ : PI M mS V q) (k5 : Int32 → Int32 → Int32 → Int32 → aI → aJ → Option (RT Int32)) (hk5 : ∀ (x1 : Int32) (x2 : Int32) (x3 : Int32) (x4 : Int32)  (I : aI) (J : aJ), k5 x1 x2 x3 x4 I J = some q → Wg M mS V 5 I J 5 [(0, .ref (V.2.2 0)), (1, .int x1), (2, .int x2), (3, .int x3), (4, .int x4)] []) (x1 : Int32) (x2 : Int32) (x3 : Int32) (x4 : Int32) (s0 : Int32) (s1 : Int32)  (I : aI) (J : aJ) (hf : BX8_goThen_129  k5 x1 x2 x3 x4 s0 s1 I J = some q) : Wg M mS V 5 I J 129 [(0, .ref (V.2.2 0)), (1, .int x1), (2, .int x2), (3, .int x3), (4, .int x4)] [.int s0, .int s1, .ref (V.2.2 12)] := by
  unfold BX8_goThen_129 at hf
  obtain ⟨hg11, hf⟩ := gd_some hf
  refine g_iastore X dX8_goThen_129 okM_12 hg11 ?_
  refine g_iload_n X dX8_goThen_130 3 rfl ?_
  refine g_aload_n X dX8_goThen_131 0 rfl ?_
  refine g_get X dX8_goThen_132 okM_0 cl8 19 (by decide) m_837 rfl ?_
  refine g_iload X dX8_goThen_135 4 rfl ?_
  obtain ⟨hg12, hf⟩ := gd_some hf
  refine g_iaload X dX8_goThen_137 okM_12 hg12 ?_
  refine g_iadd X dX8_goThen_138 ?_
  refine g_istore_n X dX8_goThen_139 (by decide) [(3, .int (x3 + ((pI I 12 (Int32.toNatClampNeg s1) s0) 12 (Int32.toNatClampNeg x4)))), (0, .ref (V.2.2 0)), (1, .int x1), (2, .int x2), (4, .int x4)] rfl ?_
  refine g_sub [1, 2, 3, 0, 4] rfl ?_
  exact wBX8_goThen_140  X hQ k5 hk5 x1 x2 (x3 + ((pI I 12 (Int32.toNatClampNeg s1) s0) 12 (Int32.toNatClampNeg x4))) x4  (pI I 12 (Int32.toNatClampNeg s1) s0) J hf
set_option maxRecDepth 4000 in
theorem wBX8_goThen_63 {M : MT} {V : VT}  (X : Cx M mS V cX8_goThen 5 RX8 (some .int) 1) {q : RT Int32} (hQ : PI M mS V q) (k5 : Int32 → Int32 → Int32 → Int32 → aI → aJ → Option (RT Int32)) (hk5 : ∀ (x1 : Int32) (x2 : Int32) (x3 : Int32) (x4 : Int32)  (I : aI) (J : aJ), k5 x1 x2 x3 x4 I J = some q → Wg M mS V 5 I J 5 [(0, .ref (V.2.2 0)), (1, .int x1), (2, .int x2), (3, .int x3), (4, .int x4)] []) (x1 : Int32) (x2 : Int32) (x3 : Int32) (x4 : Int32) (s0 : Int32) (s1 : Int32)  (I : aI) (J : aJ) (hf : BX8_goThen_63  k5 x1 x2 x3 x4 s0 s1 I J = some q) : Wg M mS V 5 I J 63 [(0, .ref (V.2.2 0)), (1, .int x1), (2, .int x2), (3, .int x3), (4, .int x4)] [.int s0, .int s1, .ref (V.2.2 11)] := by
  unfold BX8_goThen_63 at hf
  obtain ⟨hg14, hf⟩ := gd_some hf
  refine g_iastore X dX8_goThen_63 okM_11 hg14 ?_
  refine g_goto X dX8_goThen_64 (tgt := 140) (by decide) ?_
  exact wBX8_goThen_140  X hQ k5 hk5 x1 x2 x3 x4  (pI I 11 (Int32.toNatClampNeg s1) s0) J hf
set_option maxRecDepth 4000 in
theorem wBX8_goThen_56 {M : MT} {V : VT}  (X : Cx M mS V cX8_goThen 5 RX8 (some .int) 1) {q : RT Int32} (hQ : PI M mS V q) (k5 : Int32 → Int32 → Int32 → Int32 → aI → aJ → Option (RT Int32)) (hk5 : ∀ (x1 : Int32) (x2 : Int32) (x3 : Int32) (x4 : Int32)  (I : aI) (J : aJ), k5 x1 x2 x3 x4 I J = some q → Wg M mS V 5 I J 5 [(0, .ref (V.2.2 0)), (1, .int x1), (2, .int x2), (3, .int x3), (4, .int x4)] []) (x1 : Int32) (x2 : Int32) (x3 : Int32) (x4 : Int32) (s0 : Int32)  (I : aI) (J : aJ) (hf : BX8_goThen_56  k5 x1 x2 x3 x4 s0 I J = some q) : Wg M mS V 5 I J 56 [(0, .ref (V.2.2 0)), (1, .int x1), (2, .int x2), (3, .int x3), (4, .int x4)] [.int s0, .ref (V.2.2 11)] := by
  unfold BX8_goThen_56 at hf
  refine g_aload_n X dX8_goThen_56 0 rfl ?_
  refine g_get X dX8_goThen_57 okM_0 cl8 18 (by decide) m_836 rfl ?_
  refine g_iload X dX8_goThen_60 4 rfl ?_
  obtain ⟨hg13, hf⟩ := gd_some hf
  refine g_iaload X dX8_goThen_62 okM_11 hg13 ?_
  exact wBX8_goThen_63  X hQ k5 hk5 x1 x2 x3 x4 (I 11 (Int32.toNatClampNeg x4)) s0  I J hf
set_option maxRecDepth 4000 in
theorem wHX8_goThen_5 {M : MT} {V : VT}  (X : Cx M mS V cX8_goThen 5 RX8 (some .int) 1) {q : RT Int32} (hQ : PI M mS V q) (k5 : Int32 → Int32 → Int32 → Int32 → aI → aJ → Option (RT Int32)) (hk5 : ∀ (x1 : Int32) (x2 : Int32) (x3 : Int32) (x4 : Int32)  (I : aI) (J : aJ), k5 x1 x2 x3 x4 I J = some q → Wg M mS V 5 I J 5 [(0, .ref (V.2.2 0)), (1, .int x1), (2, .int x2), (3, .int x3), (4, .int x4)] []) (x1 : Int32) (x2 : Int32) (x3 : Int32) (x4 : Int32)  (I : aI) (J : aJ) (hf : HX8_goThen_5  k5 x1 x2 x3 x4 I J = some q) : Wg M mS V 5 I J 5 [(0, .ref (V.2.2 0)), (1, .int x1), (2, .int x2), (3, .int x3), (4, .int x4)] [] := by
  unfold HX8_goThen_5 at hf
  refine g_iload X dX8_goThen_5 4 rfl ?_
  refine g_aload_n X dX8_goThen_7 0 rfl ?_
  refine g_get X dX8_goThen_8 okM_0 cl8 5 (by decide) m_823 rfl ?_
  refine g_icmp_ge X dX8_goThen_11 (tgt := 146) (by decide) (fun hc1 => ?_) (fun hc1 => ?_)
  · rw [if_pos hc1] at hf
    refine g_iload_n X dX8_goThen_146 3 rfl ?_
    cases hf
    exact g_ireturn X dX8_goThen_147 hQ
  · rw [if_neg hc1] at hf
    refine g_aload_n X dX8_goThen_14 0 rfl ?_
    refine g_get X dX8_goThen_15 okM_0 cl8 12 (by decide) m_830 rfl ?_
    refine g_iload X dX8_goThen_18 4 rfl ?_
    obtain ⟨hg2, hf⟩ := gd_some hf
    refine g_iaload X dX8_goThen_20 okM_5 hg2 ?_
    refine g_iload_n X dX8_goThen_21 1 rfl ?_
    refine g_icmp_eq X dX8_goThen_22 (tgt := 67) (by decide) (fun hc3 => ?_) (fun hc3 => ?_)
    · rw [if_pos hc3] at hf
      refine g_aload_n X dX8_goThen_67 0 rfl ?_
      refine g_get X dX8_goThen_68 okM_0 cl8 19 (by decide) m_837 rfl ?_
      refine g_iload X dX8_goThen_71 4 rfl ?_
      refine g_iaload X dX8_goThen_73 okM_12 hg2 ?_
      refine g_if_ne X dX8_goThen_74 (tgt := 140) (by decide) (fun hc4 => ?_) (fun hc4 => ?_)
      · rw [if_neg hc4] at hf
        exact wBX8_goThen_140  X hQ k5 hk5 x1 x2 x3 x4  I J hf
      · rw [if_pos hc4] at hf
        refine g_aload_n X dX8_goThen_77 0 rfl ?_
        refine g_iload X dX8_goThen_78 4 rfl ?_
        refine g_iload_n X dX8_goThen_80 2 rfl ?_
        obtain ⟨r5, I5, J5, hb5, hf⟩ := bnd_some hf
        refine g_callV X dX8_goThen_81 cw_X8_159 (k := 0) (As := [.int x4, .int x2]) (rcv okM_0 cl8) rfl rfl (Nat.le_of_ble_eq_true rfl) (by decide) (cX8_isTime_ok  M.2.1 V x4 x2  I J hb5) (kI ?_)
        refine g_if_eq X dX8_goThen_84 (tgt := 140) (by decide) (fun hc6 => ?_) (fun hc6 => ?_)
        · rw [if_pos hc6] at hf
          exact wBX8_goThen_140  X hQ k5 hk5 x1 x2 x3 x4  I5 J5 hf
        · rw [if_neg hc6] at hf
          refine g_aload_n X dX8_goThen_87 0 rfl ?_
          refine g_get X dX8_goThen_88 okM_0 cl8 18 (by decide) m_836 rfl ?_
          refine g_iload X dX8_goThen_91 4 rfl ?_
          refine g_dup2 X dX8_goThen_93 rfl rfl ?_
          refine g_iaload X dX8_goThen_94 okM_11 hg2 ?_
          refine g_iconst X dX8_goThen_95 (v := 1) rfl ?_
          refine g_iadd X dX8_goThen_96 ?_
          refine g_iastore X dX8_goThen_97 okM_11 hg2 ?_
          refine g_aload_n X dX8_goThen_98 0 rfl ?_
          refine g_get X dX8_goThen_99 okM_0 cl8 19 (by decide) m_837 rfl ?_
          refine g_iload X dX8_goThen_102 4 rfl ?_
          refine g_aload_n X dX8_goThen_104 0 rfl ?_
          refine g_get X dX8_goThen_105 okM_0 cl8 18 (by decide) m_836 rfl ?_
          refine g_iload X dX8_goThen_108 4 rfl ?_
          refine g_iaload X dX8_goThen_110 okM_11 hg2 ?_
          refine g_aload_n X dX8_goThen_111 0 rfl ?_
          refine g_get X dX8_goThen_112 okM_0 cl8 11 (by decide) m_829 rfl ?_
          refine g_iload X dX8_goThen_115 4 rfl ?_
          refine g_iaload X dX8_goThen_117 okM_4 hg2 ?_
          obtain ⟨r7, I7, J7, hb7, hf⟩ := bnd_some hf
          refine g_callS X dX8_goThen_118 sw_X8_163 (As := [.int ((pI I5 11 (Int32.toNatClampNeg x4) ((I5 11 (Int32.toNatClampNeg x4)) + 1)) 4 (Int32.toNatClampNeg x4))]) rfl rfl (Nat.le_of_ble_eq_true rfl) (by decide) (cX8_needs_ok  M.2.1 V ((pI I5 11 (Int32.toNatClampNeg x4) ((I5 11 (Int32.toNatClampNeg x4)) + 1)) 4 (Int32.toNatClampNeg x4))  (pI I5 11 (Int32.toNatClampNeg x4) ((I5 11 (Int32.toNatClampNeg x4)) + 1)) J5 hb7) (kI ?_)
          refine g_icmp_lt X dX8_goThen_121 (tgt := 128) (by decide) (fun hc8 => ?_) (fun hc8 => ?_)
          · rw [if_pos hc8] at hf
            refine g_iconst X dX8_goThen_128 (v := 0) rfl ?_
            exact wBX8_goThen_129  X hQ k5 hk5 x1 x2 x3 x4 0 x4  I7 J7 hf
          · rw [if_neg hc8] at hf
            refine g_iconst X dX8_goThen_124 (v := 1) rfl ?_
            refine g_goto X dX8_goThen_125 (tgt := 129) (by decide) ?_
            exact wBX8_goThen_129  X hQ k5 hk5 x1 x2 x3 x4 1 x4  I7 J7 hf
    · rw [if_neg hc3] at hf
      refine g_aload_n X dX8_goThen_25 0 rfl ?_
      refine g_get X dX8_goThen_26 okM_0 cl8 18 (by decide) m_836 rfl ?_
      refine g_iload X dX8_goThen_29 4 rfl ?_
      refine g_aload_n X dX8_goThen_31 0 rfl ?_
      refine g_get X dX8_goThen_32 okM_0 cl8 11 (by decide) m_829 rfl ?_
      refine g_iload X dX8_goThen_35 4 rfl ?_
      refine g_iaload X dX8_goThen_37 okM_4 hg2 ?_
      refine g_iconst X dX8_goThen_38 (v := 3) rfl ?_
      refine g_icmp_ne X dX8_goThen_39 (tgt := 56) (by decide) (fun hc9 => ?_) (fun hc9 => ?_)
      · rw [if_neg hc9] at hf
        exact wBX8_goThen_56  X hQ k5 hk5 x1 x2 x3 x4 x4  I J hf
      · rw [if_pos hc9] at hf
        refine g_aload_n X dX8_goThen_42 0 rfl ?_
        refine g_get X dX8_goThen_43 okM_0 cl8 19 (by decide) m_837 rfl ?_
        refine g_iload X dX8_goThen_46 4 rfl ?_
        refine g_iaload X dX8_goThen_48 okM_12 hg2 ?_
        refine g_if_ne X dX8_goThen_49 (tgt := 56) (by decide) (fun hc10 => ?_) (fun hc10 => ?_)
        · rw [if_neg hc10] at hf
          exact wBX8_goThen_56  X hQ k5 hk5 x1 x2 x3 x4 x4  I J hf
        · rw [if_pos hc10] at hf
          refine g_iconst X dX8_goThen_52 (v := 0) rfl ?_
          refine g_goto X dX8_goThen_53 (tgt := 63) (by decide) ?_
          exact wBX8_goThen_63  X hQ k5 hk5 x1 x2 x3 x4 0 x4  I J hf
set_option maxRecDepth 4000 in
theorem wLX8_goThen_5 {M : MT} {V : VT}  (X : Cx M mS V cX8_goThen 5 RX8 (some .int) 1) {q : RT Int32} (hQ : PI M mS V q)  : ∀ (n : Nat) (x1 : Int32) (x2 : Int32) (x3 : Int32) (x4 : Int32)  (I : aI) (J : aJ), LX8_goThen_5   n x1 x2 x3 x4 I J = some q → Wg M mS V 5 I J 5 [(0, .ref (V.2.2 0)), (1, .int x1), (2, .int x2), (3, .int x3), (4, .int x4)] [] := by
  intro n
  induction n with
  | zero => intro x1 x2 x3 x4  I J hf; cases hf
  | succ n ih => intro x1 x2 x3 x4  I J hf; exact wHX8_goThen_5  X hQ  (LX8_goThen_5   n) ih x1 x2 x3 x4  I J hf
set_option maxRecDepth 4000 in
theorem wX8_goThen {M : MT} {V : VT} (X : Cx M mS V cX8_goThen 5 RX8 (some .int) 1) {q : RT Int32} (hQ : PI M mS V q) (x1 : Int32) (x2 : Int32)  (I : aI) (J : aJ) (hf : fX8_goThen x1 x2 I J = some q) : Wg M mS V 5 I J 0 [(0, .ref (V.2.2 0)), (1, .int x1), (2, .int x2)] [] := by
  unfold fX8_goThen at hf
  refine g_iconst X dX8_goThen_0 (v := 0) rfl ?_
  refine g_istore_n X dX8_goThen_1 (by decide) [(3, .int 0), (0, .ref (V.2.2 0)), (1, .int x1), (2, .int x2)] rfl ?_
  refine g_iconst X dX8_goThen_2 (v := 0) rfl ?_
  refine g_istore X dX8_goThen_3 (by decide) [(4, .int 0), (3, .int 0), (0, .ref (V.2.2 0)), (1, .int x1), (2, .int x2)] rfl ?_
  refine g_sub [2, 3, 4, 1, 0] rfl ?_
  exact wLX8_goThen_5  X hQ  128 x1 x2 0 0  I J hf
set_option maxRecDepth 4000 in
theorem cX8_goThen_ok (l : Launch) (V : VT) (x1 : Int32) (x2 : Int32)  (I : aI) (J : aJ) {q : RT Int32} (hf : fX8_goThen x1 x2 I J = some q) : Met l yX8_goThen (.code yX8_goThen cX8_goThen 5 (some .int) :: GG) (rmD 1) (va_Pc [.ref (V.2.2 0), .int x1, .int x2] (cQ mS V I J)) (QI mS V q) 0 0 (vAd mS V) :=
  met_I (by decide +kernel) rfl (Nat.le_of_ble_eq_true rfl) (fun _ _ X hQ => wX8_goThen X hQ x1 x2  I J hf)
-- X8_evenings
set_option maxRecDepth 4000 in
theorem wBX8_evenings_28 {M : MT} {V : VT}  (X : Cx M mS V cX8_evenings 8 RX8 (some .int) 2) {q : RT Int32} (hQ : PI M mS V q)    (I : aI) (J : aJ) (hf : BX8_evenings_28    I J = some q) : Wg M mS V 8 I J 28 [] [] := by
  unfold BX8_evenings_28 at hf
  refine g_bipush X dX8_evenings_28 (v := (-102)) rfl ?_
  cases hf
  exact g_ireturn X dX8_evenings_30 hQ
set_option maxRecDepth 4000 in
theorem wBX8_evenings_173 {M : MT} {V : VT}  (X : Cx M mS V cX8_evenings 8 RX8 (some .int) 2) {q : RT Int32} (hQ : PI M mS V q)  (s0 : Int32)  (I : aI) (J : aJ) (hf : BX8_evenings_173   s0 I J = some q) : Wg M mS V 8 I J 173 [] [.int s0] := by
  unfold BX8_evenings_173 at hf
  cases hf
  exact g_ireturn X dX8_evenings_173 hQ
set_option maxRecDepth 4000 in
theorem wBX8_evenings_124 {M : MT} {V : VT}  (X : Cx M mS V cX8_evenings 8 RX8 (some .int) 2) {q : RT Int32} (hQ : PI M mS V q) (k62 : Int32 → Int32 → Int32 → Int32 → Int32 → aI → aJ → Option (RT Int32)) (hk62 : ∀ (x1 : Int32) (x3 : Int32) (x4 : Int32) (x5 : Int32) (x6 : Int32)  (I : aI) (J : aJ), k62 x1 x3 x4 x5 x6 I J = some q → Wg M mS V 8 I J 62 [(0, .ref (V.2.2 0)), (1, .int x1), (3, .int x3), (4, .int x4), (5, .int x5), (6, .int x6)] []) (x1 : Int32) (x3 : Int32) (x5 : Int32) (x6 : Int32) (s0 : Int32)  (I : aI) (J : aJ) (hf : BX8_evenings_124  k62 x1 x3 x5 x6 s0 I J = some q) : Wg M mS V 8 I J 124 [(0, .ref (V.2.2 0)), (1, .int x1), (3, .int x3), (5, .int x5), (6, .int x6)] [.int s0] := by
  unfold BX8_evenings_124 at hf
  refine g_istore X dX8_evenings_124 (by decide) [(4, .int s0), (0, .ref (V.2.2 0)), (1, .int x1), (3, .int x3), (5, .int x5), (6, .int x6)] rfl ?_
  refine g_iload X dX8_evenings_126 4 rfl ?_
  refine g_aload_n X dX8_evenings_128 1 rfl ?_
  refine g_iload X dX8_evenings_129 0 rfl ?_
  refine g_aload_n X dX8_evenings_131 1 rfl ?_
  refine g_get X dX8_evenings_132 okM_0 cl8 7 (by decide) m_825 rfl ?_
  refine g_iload X dX8_evenings_135 5 rfl ?_
  refine g_iadd X dX8_evenings_137 ?_
  obtain ⟨r16, I16, J16, hb16, hf⟩ := bnd_some hf
  refine g_callV X dX8_evenings_138 cw_X8_211 (k := 0) (As := [.int s0, .int ((I 0 7) + x6)]) (rcv okM_0 cl8) rfl rfl (Nat.le_of_ble_eq_true rfl) (by decide) (cX8_goThen_ok  M.2.1 V s0 ((I 0 7) + x6)  I J hb16) (kI ?_)
  refine g_iadd X dX8_evenings_141 ?_
  refine g_istore X dX8_evenings_142 (by decide) [(5, .int (x5 + r16)), (4, .int s0), (0, .ref (V.2.2 0)), (1, .int x1), (3, .int x3), (6, .int x6)] rfl ?_
  refine g_iinc X dX8_evenings_144 5 rfl 1 rfl (by decide) [(6, .int (x6 + 1)), (5, .int (x5 + r16)), (4, .int s0), (0, .ref (V.2.2 0)), (1, .int x1), (3, .int x3)] rfl ?_
  refine g_goto X dX8_evenings_147 (tgt := 62) (by decide) ?_
  refine g_sub [3, 4, 5, 2, 1, 0] rfl ?_
  exact hk62 x1 x3 s0 (x5 + r16) (x6 + 1)  I16 J16 hf
set_option maxRecDepth 4000 in
theorem wHX8_evenings_62 {M : MT} {V : VT}  (X : Cx M mS V cX8_evenings 8 RX8 (some .int) 2) {q : RT Int32} (hQ : PI M mS V q) (k62 : Int32 → Int32 → Int32 → Int32 → Int32 → aI → aJ → Option (RT Int32)) (hk62 : ∀ (x1 : Int32) (x3 : Int32) (x4 : Int32) (x5 : Int32) (x6 : Int32)  (I : aI) (J : aJ), k62 x1 x3 x4 x5 x6 I J = some q → Wg M mS V 8 I J 62 [(0, .ref (V.2.2 0)), (1, .int x1), (3, .int x3), (4, .int x4), (5, .int x5), (6, .int x6)] []) (x1 : Int32) (x3 : Int32) (x4 : Int32) (x5 : Int32) (x6 : Int32)  (I : aI) (J : aJ) (hf : HX8_evenings_62  k62 x1 x3 x4 x5 x6 I J = some q) : Wg M mS V 8 I J 62 [(0, .ref (V.2.2 0)), (1, .int x1), (3, .int x3), (4, .int x4), (5, .int x5), (6, .int x6)] [] := by
  unfold HX8_evenings_62 at hf
  refine g_iload X dX8_evenings_62 5 rfl ?_
  refine g_iload_n X dX8_evenings_64 1 rfl ?_
  refine g_icmp_gt X dX8_evenings_65 (tgt := 150) (by decide) (fun hc9 => ?_) (fun hc9 => ?_)
  · rw [if_pos hc9] at hf
    refine g_iload_n X dX8_evenings_150 2 rfl ?_
    refine g_if_ne X dX8_evenings_151 (tgt := 159) (by decide) (fun hc10 => ?_) (fun hc10 => ?_)
    · rw [if_neg hc10] at hf
      refine g_iload_n X dX8_evenings_159 2 rfl ?_
      refine g_iconst X dX8_evenings_160 (v := 1) rfl ?_
      refine g_icmp_ne X dX8_evenings_161 (tgt := 169) (by decide) (fun hc11 => ?_) (fun hc11 => ?_)
      · rw [if_neg hc11] at hf
        refine g_aload_n X dX8_evenings_169 0 rfl ?_
        refine g_get X dX8_evenings_170 okM_0 cl8 29 (by decide) m_847 rfl ?_
        refine g_sub [] rfl ?_
        exact wBX8_evenings_173  X hQ  (I 0 29)  I J hf
      · rw [if_pos hc11] at hf
        refine g_iload X dX8_evenings_164 3 rfl ?_
        refine g_goto X dX8_evenings_166 (tgt := 173) (by decide) ?_
        refine g_sub [] rfl ?_
        exact wBX8_evenings_173  X hQ  x4  I J hf
    · rw [if_pos hc10] at hf
      refine g_iload X dX8_evenings_154 4 rfl ?_
      refine g_goto X dX8_evenings_156 (tgt := 173) (by decide) ?_
      refine g_sub [] rfl ?_
      exact wBX8_evenings_173  X hQ  x5  I J hf
  · rw [if_neg hc9] at hf
    refine g_aload_n X dX8_evenings_68 0 rfl ?_
    refine g_aload_n X dX8_evenings_69 0 rfl ?_
    refine g_get X dX8_evenings_70 okM_0 cl8 4 (by decide) m_822 rfl ?_
    obtain ⟨r12, I12, J12, hb12, hf⟩ := bnd_some hf
    refine g_callV X dX8_evenings_73 cw_X8_273 (k := 0) (As := [.int (I 0 4)]) (rcv okM_0 cl8) rfl rfl (Nat.le_of_ble_eq_true rfl) (by decide) (cX8_draw_ok  M.2.1 V (I 0 4)  I J hb12) (kI ?_)
    refine g_istore X dX8_evenings_76 (by decide) [(7, .int r12), (0, .ref (V.2.2 0)), (1, .int x1), (3, .int x3), (4, .int x4), (5, .int x5), (6, .int x6)] rfl ?_
    refine g_aload_n X dX8_evenings_78 1 rfl ?_
    refine g_get X dX8_evenings_79 okM_0 cl8 9 (by decide) m_827 rfl ?_
    refine g_iload X dX8_evenings_82 0 rfl ?_
    obtain ⟨hg13, hf⟩ := gd_some hf
    refine g_iaload X dX8_evenings_84 okM_2 hg13 ?_
    refine g_iload X dX8_evenings_85 4 rfl ?_
    refine g_icmp_ne X dX8_evenings_87 (tgt := 100) (by decide) (fun hc14 => ?_) (fun hc14 => ?_)
    · rw [if_neg hc14] at hf
      refine g_aload_n X dX8_evenings_100 1 rfl ?_
      refine g_get X dX8_evenings_101 okM_0 cl8 10 (by decide) m_828 rfl ?_
      refine g_iload X dX8_evenings_104 0 rfl ?_
      refine g_iaload X dX8_evenings_106 okM_3 hg13 ?_
      refine g_iload X dX8_evenings_107 4 rfl ?_
      refine g_icmp_ne X dX8_evenings_109 (tgt := 122) (by decide) (fun hc15 => ?_) (fun hc15 => ?_)
      · rw [if_neg hc15] at hf
        refine g_iload X dX8_evenings_122 4 rfl ?_
        refine g_sub [1, 2, 3, 5, 6] rfl ?_
        exact wBX8_evenings_124  X hQ k62 hk62 x1 x3 x5 x6 x4  I12 J12 hf
      · rw [if_pos hc15] at hf
        refine g_aload_n X dX8_evenings_112 1 rfl ?_
        refine g_get X dX8_evenings_113 okM_0 cl8 9 (by decide) m_827 rfl ?_
        refine g_iload X dX8_evenings_116 0 rfl ?_
        refine g_iaload X dX8_evenings_118 okM_2 hg13 ?_
        refine g_goto X dX8_evenings_119 (tgt := 124) (by decide) ?_
        refine g_sub [1, 2, 3, 5, 6] rfl ?_
        exact wBX8_evenings_124  X hQ k62 hk62 x1 x3 x5 x6 (I12 2 (Int32.toNatClampNeg r12))  I12 J12 hf
    · rw [if_pos hc14] at hf
      refine g_aload_n X dX8_evenings_90 1 rfl ?_
      refine g_get X dX8_evenings_91 okM_0 cl8 10 (by decide) m_828 rfl ?_
      refine g_iload X dX8_evenings_94 0 rfl ?_
      refine g_iaload X dX8_evenings_96 okM_3 hg13 ?_
      refine g_goto X dX8_evenings_97 (tgt := 124) (by decide) ?_
      refine g_sub [1, 2, 3, 5, 6] rfl ?_
      exact wBX8_evenings_124  X hQ k62 hk62 x1 x3 x5 x6 (I12 3 (Int32.toNatClampNeg r12))  I12 J12 hf
set_option maxRecDepth 4000 in
theorem wLX8_evenings_62 {M : MT} {V : VT}  (X : Cx M mS V cX8_evenings 8 RX8 (some .int) 2) {q : RT Int32} (hQ : PI M mS V q)  : ∀ (n : Nat) (x1 : Int32) (x3 : Int32) (x4 : Int32) (x5 : Int32) (x6 : Int32)  (I : aI) (J : aJ), LX8_evenings_62   n x1 x3 x4 x5 x6 I J = some q → Wg M mS V 8 I J 62 [(0, .ref (V.2.2 0)), (1, .int x1), (3, .int x3), (4, .int x4), (5, .int x5), (6, .int x6)] [] := by
  intro n
  induction n with
  | zero => intro x1 x3 x4 x5 x6  I J hf; cases hf
  | succ n ih => intro x1 x3 x4 x5 x6  I J hf; exact wHX8_evenings_62  X hQ  (LX8_evenings_62   n) ih x1 x3 x4 x5 x6  I J hf
set_option maxRecDepth 4000 in
theorem wX8_evenings {M : MT} {V : VT} (X : Cx M mS V cX8_evenings 8 RX8 (some .int) 2) {q : RT Int32} (hQ : PI M mS V q) (x1 : Int32) (x2 : Int32) (x3 : Int32)  (I : aI) (J : aJ) (hf : fX8_evenings x1 x2 x3 I J = some q) : Wg M mS V 8 I J 0 [(0, .ref (V.2.2 0)), (1, .int x1), (2, .int x2), (3, .int x3)] [] := by
  unfold fX8_evenings at hf
  refine g_iload_n X dX8_evenings_0 1 rfl ?_
  refine g_i2l X dX8_evenings_1 ?_
  refine g_lconst X dX8_evenings_2 (v := 1) rfl ?_
  refine g_ldc2 X dX8_evenings_3 m_1168 ?_
  obtain ⟨r1, I1, J1, hb1, hf⟩ := bnd_some hf
  refine g_callS X dX8_evenings_6 sw_X8_92 (As := [.long (Int32.toInt64 x1), .long 1, .long 60]) rfl rfl (Nat.le_of_ble_eq_true rfl) (by decide) (cX8_in_ok  M.2.1 V (Int32.toInt64 x1) 1 60  I J hb1) (kI ?_)
  refine g_if_eq X dX8_evenings_9 (tgt := 28) (by decide) (fun hc2 => ?_) (fun hc2 => ?_)
  · rw [if_pos hc2] at hf
    refine g_sub [] rfl ?_
    exact wBX8_evenings_28  X hQ    I1 J1 hf
  · rw [if_neg hc2] at hf
    refine g_iload_n X dX8_evenings_12 2 rfl ?_
    refine g_if_lt X dX8_evenings_13 (tgt := 28) (by decide) (fun hc3 => ?_) (fun hc3 => ?_)
    · rw [if_pos hc3] at hf
      refine g_sub [] rfl ?_
      exact wBX8_evenings_28  X hQ    I1 J1 hf
    · rw [if_neg hc3] at hf
      refine g_iload_n X dX8_evenings_16 3 rfl ?_
      refine g_i2l X dX8_evenings_17 ?_
      refine g_lconst X dX8_evenings_18 (v := 0) rfl ?_
      refine g_ldc2 X dX8_evenings_19 m_1169 ?_
      obtain ⟨r4, I4, J4, hb4, hf⟩ := bnd_some hf
      refine g_callS X dX8_evenings_22 sw_X8_92 (As := [.long (Int32.toInt64 x3), .long 0, .long 2]) rfl rfl (Nat.le_of_ble_eq_true rfl) (by decide) (cX8_in_ok  M.2.1 V (Int32.toInt64 x3) 0 2  I1 J1 hb4) (kI ?_)
      refine g_if_ne X dX8_evenings_25 (tgt := 31) (by decide) (fun hc5 => ?_) (fun hc5 => ?_)
      · rw [if_neg hc5] at hf
        refine g_aload_n X dX8_evenings_31 0 rfl ?_
        obtain ⟨r6, I6, J6, hb6, hf⟩ := bnd_some hf
        refine g_callV X dX8_evenings_32 cw_X8_229 (k := 0) (As := []) (rcv okM_0 cl8) rfl rfl (Nat.le_of_ble_eq_true rfl) (by decide) (cX8_lacks_ok  M.2.1 V   I4 J4 hb6) (kI ?_)
        refine g_if_eq X dX8_evenings_35 (tgt := 41) (by decide) (fun hc7 => ?_) (fun hc7 => ?_)
        · rw [if_pos hc7] at hf
          refine g_aload_n X dX8_evenings_41 0 rfl ?_
          refine g_iload_n X dX8_evenings_42 2 rfl ?_
          refine g_putI X dX8_evenings_43 okM_0 cl8 29 (by decide) m_847 rfl .int rfl rfl rfl (Nat.le_of_ble_eq_true rfl) (fun _ _ => rfl) ?_
          refine g_aload_n X dX8_evenings_46 0 rfl ?_
          obtain ⟨r8, I8, J8, hb8, hf⟩ := bnd_some hf
          refine g_callV X dX8_evenings_47 cw_X8_208 (k := 0) (As := []) (rcv okM_0 cl8) rfl rfl (Nat.le_of_ble_eq_true rfl) (by decide) (cX8_begin_ok  M.2.1 V   (pI I6 0 29 x2) J6 hb8) (kV ?_)
          refine g_aload_n X dX8_evenings_50 0 rfl ?_
          refine g_get X dX8_evenings_51 okM_0 cl8 6 (by decide) m_824 rfl ?_
          refine g_istore X dX8_evenings_54 (by decide) [(4, .int (I8 0 6)), (0, .ref (V.2.2 0)), (1, .int x1), (2, .int x2), (3, .int x3)] rfl ?_
          refine g_iconst X dX8_evenings_56 (v := 0) rfl ?_
          refine g_istore X dX8_evenings_57 (by decide) [(5, .int 0), (4, .int (I8 0 6)), (0, .ref (V.2.2 0)), (1, .int x1), (2, .int x2), (3, .int x3)] rfl ?_
          refine g_iconst X dX8_evenings_59 (v := 1) rfl ?_
          refine g_istore X dX8_evenings_60 (by decide) [(6, .int 1), (5, .int 0), (4, .int (I8 0 6)), (0, .ref (V.2.2 0)), (1, .int x1), (2, .int x2), (3, .int x3)] rfl ?_
          refine g_sub [3, 4, 6, 2, 1, 0] rfl ?_
          exact wLX8_evenings_62  X hQ  128 x1 x3 (I8 0 6) 0 1  I8 J8 hf
        · rw [if_neg hc7] at hf
          refine g_bipush X dX8_evenings_38 (v := (-103)) rfl ?_
          cases hf
          exact g_ireturn X dX8_evenings_40 hQ
      · rw [if_pos hc5] at hf
        refine g_sub [] rfl ?_
        exact wBX8_evenings_28  X hQ    I4 J4 hf
set_option maxRecDepth 4000 in
theorem cX8_evenings_ok (l : Launch) (V : VT) (x1 : Int32) (x2 : Int32) (x3 : Int32)  (I : aI) (J : aJ) {q : RT Int32} (hf : fX8_evenings x1 x2 x3 I J = some q) : Met l yX8_evenings (.code yX8_evenings cX8_evenings 8 (some .int) :: GG) (rmD 2) (va_Pc [.ref (V.2.2 0), .int x1, .int x2, .int x3] (cQ mS V I J)) (QI mS V q) 0 0 (vAd mS V) :=
  met_I (by decide +kernel) rfl (Nat.le_of_ble_eq_true rfl) (fun _ _ X hQ => wX8_evenings X hQ x1 x2 x3  I J hf)
-- X8_far
set_option maxRecDepth 4000 in
theorem wBX8_far_27 {M : MT} {V : VT}  (X : Cx M mS V cX8_far 3 RX8 (some .int) 2) {q : RT Int32} (hQ : PI M mS V q)  (s0 : Int32)  (I : aI) (J : aJ) (hf : BX8_far_27   s0 I J = some q) : Wg M mS V 3 I J 27 [] [.int s0] := by
  unfold BX8_far_27 at hf
  cases hf
  exact g_ireturn X dX8_far_27 hQ
set_option maxRecDepth 4000 in
theorem wBX8_far_25 {M : MT} {V : VT}  (X : Cx M mS V cX8_far 3 RX8 (some .int) 2) {q : RT Int32} (hQ : PI M mS V q)    (I : aI) (J : aJ) (hf : BX8_far_25    I J = some q) : Wg M mS V 3 I J 25 [] [] := by
  unfold BX8_far_25 at hf
  refine g_bipush X dX8_far_25 (v := (-101)) rfl ?_
  exact wBX8_far_27  X hQ  (-101)  I J hf
set_option maxRecDepth 4000 in
theorem wX8_far {M : MT} {V : VT} (X : Cx M mS V cX8_far 3 RX8 (some .int) 2) {q : RT Int32} (hQ : PI M mS V q) (x1 : Int32) (x2 : Int32)  (I : aI) (J : aJ) (hf : fX8_far x1 x2 I J = some q) : Wg M mS V 3 I J 0 [(0, .ref (V.2.2 0)), (1, .int x1), (2, .int x2)] [] := by
  unfold fX8_far at hf
  refine g_aload_n X dX8_far_0 0 rfl ?_
  refine g_iload_n X dX8_far_1 1 rfl ?_
  obtain ⟨r1, I1, J1, hb1, hf⟩ := bnd_some hf
  refine g_callV X dX8_far_2 cw_X8_202 (k := 0) (As := [.int x1]) (rcv okM_0 cl8) rfl rfl (Nat.le_of_ble_eq_true rfl) (by decide) (cX8_isCorner_ok  M.2.1 V x1  I J hb1) (kI ?_)
  refine g_if_eq X dX8_far_5 (tgt := 25) (by decide) (fun hc2 => ?_) (fun hc2 => ?_)
  · rw [if_pos hc2] at hf
    refine g_sub [] rfl ?_
    exact wBX8_far_25  X hQ    I1 J1 hf
  · rw [if_neg hc2] at hf
    refine g_aload_n X dX8_far_8 0 rfl ?_
    refine g_iload_n X dX8_far_9 2 rfl ?_
    obtain ⟨r3, I3, J3, hb3, hf⟩ := bnd_some hf
    refine g_callV X dX8_far_10 cw_X8_202 (k := 0) (As := [.int x2]) (rcv okM_0 cl8) rfl rfl (Nat.le_of_ble_eq_true rfl) (by decide) (cX8_isCorner_ok  M.2.1 V x2  I1 J1 hb3) (kI ?_)
    refine g_if_eq X dX8_far_13 (tgt := 25) (by decide) (fun hc4 => ?_) (fun hc4 => ?_)
    · rw [if_pos hc4] at hf
      refine g_sub [] rfl ?_
      exact wBX8_far_25  X hQ    I3 J3 hf
    · rw [if_neg hc4] at hf
      refine g_aload_n X dX8_far_16 0 rfl ?_
      refine g_iload_n X dX8_far_17 1 rfl ?_
      refine g_iload_n X dX8_far_18 2 rfl ?_
      obtain ⟨r5, I5, J5, hb5, hf⟩ := bnd_some hf
      refine g_callV X dX8_far_19 cw_X8_196 (k := 0) (As := [.int x1, .int x2]) (rcv okM_0 cl8) rfl rfl (Nat.le_of_ble_eq_true rfl) (by decide) (cX8_farOf_ok  M.2.1 V x1 x2  I3 J3 hb5) (kI ?_)
      refine g_goto X dX8_far_22 (tgt := 27) (by decide) ?_
      refine g_sub [] rfl ?_
      exact wBX8_far_27  X hQ  r5  I5 J5 hf
set_option maxRecDepth 4000 in
theorem cX8_far_ok (l : Launch) (V : VT) (x1 : Int32) (x2 : Int32)  (I : aI) (J : aJ) {q : RT Int32} (hf : fX8_far x1 x2 I J = some q) : Met l yX8_far (.code yX8_far cX8_far 3 (some .int) :: GG) (rmD 2) (va_Pc [.ref (V.2.2 0), .int x1, .int x2] (cQ mS V I J)) (QI mS V q) 0 0 (vAd mS V) :=
  met_I (by decide +kernel) rfl (Nat.le_of_ble_eq_true rfl) (fun _ _ X hQ => wX8_far X hQ x1 x2  I J hf)
-- X8_isCornerLetter
set_option maxRecDepth 4000 in
theorem wX8_isCornerLetter {M : MT} {V : VT} (X : Cx M mS V cX8_isCornerLetter 2 RX8 (some .boolean) 1) {q : RT Int32} (hQ : PI M mS V q) (x1 : Int32)  (I : aI) (J : aJ) (hf : fX8_isCornerLetter x1 I J = some q) : Wg M mS V 2 I J 0 [(0, .ref (V.2.2 0)), (1, .int x1)] [] := by
  unfold fX8_isCornerLetter at hf
  refine g_iload_n X dX8_isCornerLetter_0 1 rfl ?_
  refine g_i2l X dX8_isCornerLetter_1 ?_
  refine g_ldc2 X dX8_isCornerLetter_2 m_972 ?_
  refine g_aload_n X dX8_isCornerLetter_5 0 rfl ?_
  refine g_get X dX8_isCornerLetter_6 okM_0 cl8 0 (by decide) m_818 rfl ?_
  refine g_iconst X dX8_isCornerLetter_9 (v := 0) rfl ?_
  refine g_iaload X dX8_isCornerLetter_10 okM_1 (by decide : inb 0 60 = true) ?_
  refine g_iconst X dX8_isCornerLetter_11 (v := 1) rfl ?_
  refine g_isub X dX8_isCornerLetter_12 ?_
  refine g_i2l X dX8_isCornerLetter_13 ?_
  obtain ⟨r1, I1, J1, hb1, hf⟩ := bnd_some hf
  refine g_callS X dX8_isCornerLetter_14 sw_X8_92 (As := [.long (Int32.toInt64 x1), .long 48, .long (Int32.toInt64 ((I 1 (Int32.toNatClampNeg 0)) - 1))]) rfl rfl (Nat.le_of_ble_eq_true rfl) (by decide) (cX8_in_ok  M.2.1 V (Int32.toInt64 x1) 48 (Int32.toInt64 ((I 1 (Int32.toNatClampNeg 0)) - 1))  I J hb1) (kI ?_)
  obtain ⟨hg2, hf⟩ := gd_some hf
  cases hf
  exact g_zreturn X dX8_isCornerLetter_17 (of_decide_eq_true hg2) hQ
set_option maxRecDepth 4000 in
theorem cX8_isCornerLetter_ok (l : Launch) (V : VT) (x1 : Int32)  (I : aI) (J : aJ) {q : RT Int32} (hf : fX8_isCornerLetter x1 I J = some q) : Met l yX8_isCornerLetter (.code yX8_isCornerLetter cX8_isCornerLetter 2 (some .boolean) :: GG) (rmD 1) (va_Pc [.ref (V.2.2 0), .int x1] (cQ mS V I J)) (QI mS V q) 0 0 (vAd mS V) :=
  met_I (by decide +kernel) rfl (Nat.le_of_ble_eq_true rfl) (fun _ _ X hQ => wX8_isCornerLetter X hQ x1  I J hf)
-- X8_isRoadLetter
set_option maxRecDepth 4000 in
theorem wBX8_isRoadLetter_71 {M : MT} {V : VT}  (X : Cx M mS V cX8_isRoadLetter 4 RX8 (some .boolean) 2) {q : RT Int32} (hQ : PI M mS V q)  (s0 : Int32)  (I : aI) (J : aJ) (hf : BX8_isRoadLetter_71   s0 I J = some q) : Wg M mS V 4 I J 71 [] [.int s0] := by
  unfold BX8_isRoadLetter_71 at hf
  obtain ⟨hg13, hf⟩ := gd_some hf
  cases hf
  exact g_zreturn X dX8_isRoadLetter_71 (of_decide_eq_true hg13) hQ
set_option maxRecDepth 4000 in
theorem wBX8_isRoadLetter_70 {M : MT} {V : VT}  (X : Cx M mS V cX8_isRoadLetter 4 RX8 (some .boolean) 2) {q : RT Int32} (hQ : PI M mS V q)    (I : aI) (J : aJ) (hf : BX8_isRoadLetter_70    I J = some q) : Wg M mS V 4 I J 70 [] [] := by
  unfold BX8_isRoadLetter_70 at hf
  refine g_iconst X dX8_isRoadLetter_70 (v := 0) rfl ?_
  exact wBX8_isRoadLetter_71  X hQ  0  I J hf
set_option maxRecDepth 4000 in
theorem wBX8_isRoadLetter_102 {M : MT} {V : VT}  (X : Cx M mS V cX8_isRoadLetter 4 RX8 (some .boolean) 2) {q : RT Int32} (hQ : PI M mS V q)  (s0 : Int32)  (I : aI) (J : aJ) (hf : BX8_isRoadLetter_102   s0 I J = some q) : Wg M mS V 4 I J 102 [] [.int s0] := by
  unfold BX8_isRoadLetter_102 at hf
  obtain ⟨hg14, hf⟩ := gd_some hf
  cases hf
  exact g_zreturn X dX8_isRoadLetter_102 (of_decide_eq_true hg14) hQ
set_option maxRecDepth 4000 in
theorem wBX8_isRoadLetter_101 {M : MT} {V : VT}  (X : Cx M mS V cX8_isRoadLetter 4 RX8 (some .boolean) 2) {q : RT Int32} (hQ : PI M mS V q)    (I : aI) (J : aJ) (hf : BX8_isRoadLetter_101    I J = some q) : Wg M mS V 4 I J 101 [] [] := by
  unfold BX8_isRoadLetter_101 at hf
  refine g_iconst X dX8_isRoadLetter_101 (v := 0) rfl ?_
  exact wBX8_isRoadLetter_102  X hQ  0  I J hf
set_option maxRecDepth 4000 in
theorem wX8_isRoadLetter {M : MT} {V : VT} (X : Cx M mS V cX8_isRoadLetter 4 RX8 (some .boolean) 2) {q : RT Int32} (hQ : PI M mS V q) (x1 : Int32)  (I : aI) (J : aJ) (hf : fX8_isRoadLetter x1 I J = some q) : Wg M mS V 4 I J 0 [(0, .ref (V.2.2 0)), (1, .int x1)] [] := by
  unfold fX8_isRoadLetter at hf
  refine g_aload_n X dX8_isRoadLetter_0 0 rfl ?_
  refine g_get X dX8_isRoadLetter_1 okM_0 cl8 0 (by decide) m_818 rfl ?_
  refine g_iload_n X dX8_isRoadLetter_4 1 rfl ?_
  obtain ⟨hg1, hf⟩ := gd_some hf
  refine g_iaload X dX8_isRoadLetter_5 okM_1 hg1 ?_
  refine g_istore_n X dX8_isRoadLetter_6 (by decide) [(2, .int (I 1 (Int32.toNatClampNeg x1))), (0, .ref (V.2.2 0)), (1, .int x1)] rfl ?_
  refine g_iload_n X dX8_isRoadLetter_7 2 rfl ?_
  refine g_iconst X dX8_isRoadLetter_8 (v := 3) rfl ?_
  refine g_isub X dX8_isRoadLetter_9 ?_
  refine g_istore_n X dX8_isRoadLetter_10 (by decide) [(3, .int (x1 - 3)), (2, .int (I 1 (Int32.toNatClampNeg x1))), (0, .ref (V.2.2 0)), (1, .int x1)] rfl ?_
  refine g_iload_n X dX8_isRoadLetter_11 0 rfl ?_
  refine g_iconst X dX8_isRoadLetter_12 (v := 3) rfl ?_
  refine g_irem X dX8_isRoadLetter_13 (by decide) ?_
  by_cases hs2 : ((x1 - 3) - (x1 - 3) / 3 * 3) = 0
  · rw [if_pos hs2] at hf
    refine g_look X dX8_isRoadLetter_14 (by decide) (off := 26) (by rw [hs2]; decide) (tgt := 40) (by decide) ?_
    refine g_aload_n X dX8_isRoadLetter_40 2 rfl ?_
    refine g_iload_n X dX8_isRoadLetter_41 1 rfl ?_
    obtain ⟨r3, I3, J3, hb3, hf⟩ := bnd_some hf
    refine g_callV X dX8_isRoadLetter_42 cw_X8_101 (k := 0) (As := [.int (I 1 (Int32.toNatClampNeg x1))]) (rcv okM_0 cl8) rfl rfl (Nat.le_of_ble_eq_true rfl) (by decide) (cX8_isCornerLetter_ok  M.2.1 V (I 1 (Int32.toNatClampNeg x1))  I J hb3) (kI ?_)
    obtain ⟨hg4, hf⟩ := gd_some hf
    cases hf
    exact g_zreturn X dX8_isRoadLetter_45 (of_decide_eq_true hg4) hQ
  rw [if_neg hs2] at hf
  by_cases hs5 : ((x1 - 3) - (x1 - 3) / 3 * 3) = 1
  · rw [if_pos hs5] at hf
    refine g_look X dX8_isRoadLetter_14 (by decide) (off := 32) (by rw [hs5]; decide) (tgt := 46) (by decide) ?_
    refine g_aload_n X dX8_isRoadLetter_46 2 rfl ?_
    refine g_iload_n X dX8_isRoadLetter_47 1 rfl ?_
    obtain ⟨r6, I6, J6, hb6, hf⟩ := bnd_some hf
    refine g_callV X dX8_isRoadLetter_48 cw_X8_101 (k := 0) (As := [.int (I 1 (Int32.toNatClampNeg x1))]) (rcv okM_0 cl8) rfl rfl (Nat.le_of_ble_eq_true rfl) (by decide) (cX8_isCornerLetter_ok  M.2.1 V (I 1 (Int32.toNatClampNeg x1))  I J hb6) (kI ?_)
    refine g_if_eq X dX8_isRoadLetter_51 (tgt := 70) (by decide) (fun hc7 => ?_) (fun hc7 => ?_)
    · rw [if_pos hc7] at hf
      refine g_sub [] rfl ?_
      exact wBX8_isRoadLetter_70  X hQ    I6 J6 hf
    · rw [if_neg hc7] at hf
      refine g_iload_n X dX8_isRoadLetter_54 1 rfl ?_
      refine g_aload_n X dX8_isRoadLetter_55 2 rfl ?_
      refine g_get X dX8_isRoadLetter_56 okM_0 cl8 0 (by decide) m_818 rfl ?_
      refine g_iload_n X dX8_isRoadLetter_59 3 rfl ?_
      refine g_iconst X dX8_isRoadLetter_60 (v := 1) rfl ?_
      refine g_isub X dX8_isRoadLetter_61 ?_
      obtain ⟨hg8, hf⟩ := gd_some hf
      refine g_iaload X dX8_isRoadLetter_62 okM_1 hg8 ?_
      refine g_icmp_eq X dX8_isRoadLetter_63 (tgt := 70) (by decide) (fun hc9 => ?_) (fun hc9 => ?_)
      · rw [if_pos hc9] at hf
        refine g_sub [] rfl ?_
        exact wBX8_isRoadLetter_70  X hQ    I6 J6 hf
      · rw [if_neg hc9] at hf
        refine g_iconst X dX8_isRoadLetter_66 (v := 1) rfl ?_
        refine g_goto X dX8_isRoadLetter_67 (tgt := 71) (by decide) ?_
        refine g_sub [] rfl ?_
        exact wBX8_isRoadLetter_71  X hQ  1  I6 J6 hf
  rw [if_neg hs5] at hf
  refine g_look X dX8_isRoadLetter_14 (by decide) (off := 58) (by show Op.lookupswitch.offset [(0, 26), (1, 32)] 58 _ = _; rw [lv_osw (a := 0) hs2 rfl, lv_osw (a := 1) hs5 rfl]; rfl) (tgt := 72) (by decide) ?_
  refine g_iload_n X dX8_isRoadLetter_72 1 rfl ?_
  refine g_bipush X dX8_isRoadLetter_73 (v := 59) rfl ?_
  refine g_icmp_ne X dX8_isRoadLetter_75 (tgt := 85) (by decide) (fun hc10 => ?_) (fun hc10 => ?_)
  · rw [if_neg hc10] at hf
    refine g_iload_n X dX8_isRoadLetter_85 1 rfl ?_
    refine g_bipush X dX8_isRoadLetter_86 (v := 44) rfl ?_
    refine g_icmp_ne X dX8_isRoadLetter_88 (tgt := 101) (by decide) (fun hc11 => ?_) (fun hc11 => ?_)
    · rw [if_neg hc11] at hf
      refine g_sub [] rfl ?_
      exact wBX8_isRoadLetter_101  X hQ    I J hf
    · rw [if_pos hc11] at hf
      refine g_iload_n X dX8_isRoadLetter_91 0 rfl ?_
      refine g_bipush X dX8_isRoadLetter_92 (v := 23) rfl ?_
      refine g_icmp_ge X dX8_isRoadLetter_94 (tgt := 101) (by decide) (fun hc12 => ?_) (fun hc12 => ?_)
      · rw [if_pos hc12] at hf
        refine g_sub [] rfl ?_
        exact wBX8_isRoadLetter_101  X hQ    I J hf
      · rw [if_neg hc12] at hf
        refine g_iconst X dX8_isRoadLetter_97 (v := 1) rfl ?_
        refine g_goto X dX8_isRoadLetter_98 (tgt := 102) (by decide) ?_
        refine g_sub [] rfl ?_
        exact wBX8_isRoadLetter_102  X hQ  1  I J hf
  · rw [if_pos hc10] at hf
    refine g_aload_n X dX8_isRoadLetter_78 2 rfl ?_
    refine g_iload_n X dX8_isRoadLetter_79 3 rfl ?_
    refine g_putI X dX8_isRoadLetter_80 okM_0 cl8 2 (by decide) m_820 rfl .int rfl rfl rfl (Nat.le_of_ble_eq_true rfl) (fun _ _ => rfl) ?_
    refine g_iconst X dX8_isRoadLetter_83 (v := 1) rfl ?_
    cases hf
    exact g_zreturn X dX8_isRoadLetter_84 (Or.inr rfl) hQ
set_option maxRecDepth 4000 in
theorem cX8_isRoadLetter_ok (l : Launch) (V : VT) (x1 : Int32)  (I : aI) (J : aJ) {q : RT Int32} (hf : fX8_isRoadLetter x1 I J = some q) : Met l yX8_isRoadLetter (.code yX8_isRoadLetter cX8_isRoadLetter 4 (some .boolean) :: GG) (rmD 2) (va_Pc [.ref (V.2.2 0), .int x1] (cQ mS V I J)) (QI mS V q) 0 0 (vAd mS V) :=
  met_I (by decide +kernel) rfl (Nat.le_of_ble_eq_true rfl) (fun _ _ X hQ => wX8_isRoadLetter X hQ x1  I J hf)
-- X8_kindBy
set_option maxRecDepth 4000 in
theorem wX8_kindBy {M : MT} {V : VT} (X : Cx M mS V cX8_kindBy 1 RX8 (some .int) 0) {q : RT Int32} (hQ : PI M mS V q) (x0 : Int32)  (I : aI) (J : aJ) (hf : fX8_kindBy x0 I J = some q) : Wg M mS V 1 I J 0 [(0, .int x0)] [] := by
  unfold fX8_kindBy at hf
  refine g_iload_n X dX8_kindBy_0 0 rfl ?_
  by_cases hs1 : x0 = 99
  · rw [if_pos hs1] at hf
    refine g_look X dX8_kindBy_1 (by decide) (off := 55) (by rw [hs1]; decide) (tgt := 56) (by decide) ?_
    refine g_iconst X dX8_kindBy_56 (v := 2) rfl ?_
    cases hf
    exact g_ireturn X dX8_kindBy_57 hQ
  rw [if_neg hs1] at hf
  by_cases hs2 : x0 = 100
  · rw [if_pos hs2] at hf
    refine g_look X dX8_kindBy_1 (by decide) (off := 59) (by rw [hs2]; decide) (tgt := 60) (by decide) ?_
    refine g_iconst X dX8_kindBy_60 (v := 4) rfl ?_
    cases hf
    exact g_ireturn X dX8_kindBy_61 hQ
  rw [if_neg hs2] at hf
  by_cases hs3 : x0 = 104
  · rw [if_pos hs3] at hf
    refine g_look X dX8_kindBy_1 (by decide) (off := 57) (by rw [hs3]; decide) (tgt := 58) (by decide) ?_
    refine g_iconst X dX8_kindBy_58 (v := 3) rfl ?_
    cases hf
    exact g_ireturn X dX8_kindBy_59 hQ
  rw [if_neg hs3] at hf
  by_cases hs4 : x0 = 112
  · rw [if_pos hs4] at hf
    refine g_look X dX8_kindBy_1 (by decide) (off := 51) (by rw [hs4]; decide) (tgt := 52) (by decide) ?_
    refine g_iconst X dX8_kindBy_52 (v := 0) rfl ?_
    cases hf
    exact g_ireturn X dX8_kindBy_53 hQ
  rw [if_neg hs4] at hf
  by_cases hs5 : x0 = 116
  · rw [if_pos hs5] at hf
    refine g_look X dX8_kindBy_1 (by decide) (off := 53) (by rw [hs5]; decide) (tgt := 54) (by decide) ?_
    refine g_iconst X dX8_kindBy_54 (v := 1) rfl ?_
    cases hf
    exact g_ireturn X dX8_kindBy_55 hQ
  rw [if_neg hs5] at hf
  refine g_look X dX8_kindBy_1 (by decide) (off := 61) (by show Op.lookupswitch.offset [(99, 55), (100, 59), (104, 57), (112, 51), (116, 53)] 61 _ = _; rw [lv_osw (a := 99) hs1 rfl, lv_osw (a := 100) hs2 rfl, lv_osw (a := 104) hs3 rfl, lv_osw (a := 112) hs4 rfl, lv_osw (a := 116) hs5 rfl]; rfl) (tgt := 62) (by decide) ?_
  refine g_iconst X dX8_kindBy_62 (v := (-1)) rfl ?_
  cases hf
  exact g_ireturn X dX8_kindBy_63 hQ
set_option maxRecDepth 4000 in
theorem cX8_kindBy_ok (l : Launch) (V : VT) (x0 : Int32)  (I : aI) (J : aJ) {q : RT Int32} (hf : fX8_kindBy x0 I J = some q) : Met l yX8_kindBy (.code yX8_kindBy cX8_kindBy 1 (some .int) :: GG) (rmD 0) (va_Pc [.int x0] (cQ mS V I J)) (QI mS V q) 0 0 (vAd mS V) :=
  met_I (by decide +kernel) rfl (Nat.le_of_ble_eq_true rfl) (fun _ _ X hQ => wX8_kindBy X hQ x0  I J hf)
-- X8_isPersonLetter
set_option maxRecDepth 4000 in
theorem wBX8_isPersonLetter_65 {M : MT} {V : VT}  (X : Cx M mS V cX8_isPersonLetter 4 RX8 (some .boolean) 2) {q : RT Int32} (hQ : PI M mS V q)  (s0 : Int32)  (I : aI) (J : aJ) (hf : BX8_isPersonLetter_65   s0 I J = some q) : Wg M mS V 4 I J 65 [] [.int s0] := by
  unfold BX8_isPersonLetter_65 at hf
  obtain ⟨hg19, hf⟩ := gd_some hf
  cases hf
  exact g_zreturn X dX8_isPersonLetter_65 (of_decide_eq_true hg19) hQ
set_option maxRecDepth 4000 in
theorem wBX8_isPersonLetter_89 {M : MT} {V : VT}  (X : Cx M mS V cX8_isPersonLetter 4 RX8 (some .boolean) 2) {q : RT Int32} (hQ : PI M mS V q)  (s0 : Int32)  (I : aI) (J : aJ) (hf : BX8_isPersonLetter_89   s0 I J = some q) : Wg M mS V 4 I J 89 [] [.int s0] := by
  unfold BX8_isPersonLetter_89 at hf
  obtain ⟨hg20, hf⟩ := gd_some hf
  cases hf
  exact g_zreturn X dX8_isPersonLetter_89 (of_decide_eq_true hg20) hQ
set_option maxRecDepth 4000 in
theorem wBX8_isPersonLetter_88 {M : MT} {V : VT}  (X : Cx M mS V cX8_isPersonLetter 4 RX8 (some .boolean) 2) {q : RT Int32} (hQ : PI M mS V q)    (I : aI) (J : aJ) (hf : BX8_isPersonLetter_88    I J = some q) : Wg M mS V 4 I J 88 [] [] := by
  unfold BX8_isPersonLetter_88 at hf
  refine g_iconst X dX8_isPersonLetter_88 (v := 0) rfl ?_
  exact wBX8_isPersonLetter_89  X hQ  0  I J hf
set_option maxRecDepth 4000 in
theorem wX8_isPersonLetter {M : MT} {V : VT} (X : Cx M mS V cX8_isPersonLetter 4 RX8 (some .boolean) 2) {q : RT Int32} (hQ : PI M mS V q) (x1 : Int32)  (I : aI) (J : aJ) (hf : fX8_isPersonLetter x1 I J = some q) : Wg M mS V 4 I J 0 [(0, .ref (V.2.2 0)), (1, .int x1)] [] := by
  unfold fX8_isPersonLetter at hf
  refine g_aload_n X dX8_isPersonLetter_0 0 rfl ?_
  refine g_get X dX8_isPersonLetter_1 okM_0 cl8 0 (by decide) m_818 rfl ?_
  refine g_iload_n X dX8_isPersonLetter_4 1 rfl ?_
  obtain ⟨hg1, hf⟩ := gd_some hf
  refine g_iaload X dX8_isPersonLetter_5 okM_1 hg1 ?_
  refine g_istore_n X dX8_isPersonLetter_6 (by decide) [(2, .int (I 1 (Int32.toNatClampNeg x1))), (0, .ref (V.2.2 0)), (1, .int x1)] rfl ?_
  refine g_iload_n X dX8_isPersonLetter_7 2 rfl ?_
  refine g_aload_n X dX8_isPersonLetter_8 1 rfl ?_
  refine g_get X dX8_isPersonLetter_9 okM_0 cl8 2 (by decide) m_820 rfl ?_
  refine g_isub X dX8_isPersonLetter_12 ?_
  refine g_iconst X dX8_isPersonLetter_13 (v := 1) rfl ?_
  refine g_isub X dX8_isPersonLetter_14 ?_
  refine g_istore_n X dX8_isPersonLetter_15 (by decide) [(3, .int ((x1 - (I 0 2)) - 1)), (2, .int (I 1 (Int32.toNatClampNeg x1))), (0, .ref (V.2.2 0)), (1, .int x1)] rfl ?_
  refine g_iload_n X dX8_isPersonLetter_16 0 rfl ?_
  refine g_iconst X dX8_isPersonLetter_17 (v := 5) rfl ?_
  refine g_irem X dX8_isPersonLetter_18 (by decide) ?_
  by_cases hs2 : (((x1 - (I 0 2)) - 1) - ((x1 - (I 0 2)) - 1) / 5 * 5) = 0
  · rw [if_pos hs2] at hf
    refine g_tin X dX8_isPersonLetter_19 hs2 (by decide) (by decide) rfl (tgt := 52) (by decide) ?_
    refine g_iload_n X dX8_isPersonLetter_52 1 rfl ?_
    obtain ⟨r3, I3, J3, hb3, hf⟩ := bnd_some hf
    refine g_callS X dX8_isPersonLetter_53 sw_X8_108 (As := [.int (I 1 (Int32.toNatClampNeg x1))]) rfl rfl (Nat.le_of_ble_eq_true rfl) (by decide) (cX8_kindBy_ok  M.2.1 V (I 1 (Int32.toNatClampNeg x1))  I J hb3) (kI ?_)
    refine g_iconst X dX8_isPersonLetter_56 (v := (-1)) rfl ?_
    refine g_icmp_eq X dX8_isPersonLetter_57 (tgt := 64) (by decide) (fun hc4 => ?_) (fun hc4 => ?_)
    · rw [if_pos hc4] at hf
      refine g_iconst X dX8_isPersonLetter_64 (v := 0) rfl ?_
      refine g_sub [] rfl ?_
      exact wBX8_isPersonLetter_65  X hQ  0  I3 J3 hf
    · rw [if_neg hc4] at hf
      refine g_iconst X dX8_isPersonLetter_60 (v := 1) rfl ?_
      refine g_goto X dX8_isPersonLetter_61 (tgt := 65) (by decide) ?_
      refine g_sub [] rfl ?_
      exact wBX8_isPersonLetter_65  X hQ  1  I3 J3 hf
  rw [if_neg hs2] at hf
  by_cases hs5 : (((x1 - (I 0 2)) - 1) - ((x1 - (I 0 2)) - 1) / 5 * 5) = 1
  · rw [if_pos hs5] at hf
    refine g_tin X dX8_isPersonLetter_19 hs5 (by decide) (by decide) rfl (tgt := 66) (by decide) ?_
    refine g_aload_n X dX8_isPersonLetter_66 2 rfl ?_
    refine g_iload_n X dX8_isPersonLetter_67 1 rfl ?_
    obtain ⟨r6, I6, J6, hb6, hf⟩ := bnd_some hf
    refine g_callV X dX8_isPersonLetter_68 cw_X8_101 (k := 0) (As := [.int (I 1 (Int32.toNatClampNeg x1))]) (rcv okM_0 cl8) rfl rfl (Nat.le_of_ble_eq_true rfl) (by decide) (cX8_isCornerLetter_ok  M.2.1 V (I 1 (Int32.toNatClampNeg x1))  I J hb6) (kI ?_)
    obtain ⟨hg7, hf⟩ := gd_some hf
    cases hf
    exact g_zreturn X dX8_isPersonLetter_71 (of_decide_eq_true hg7) hQ
  rw [if_neg hs5] at hf
  by_cases hs8 : (((x1 - (I 0 2)) - 1) - ((x1 - (I 0 2)) - 1) / 5 * 5) = 2
  · rw [if_pos hs8] at hf
    refine g_tin X dX8_isPersonLetter_19 hs8 (by decide) (by decide) rfl (tgt := 90) (by decide) ?_
    refine g_iload_n X dX8_isPersonLetter_90 1 rfl ?_
    refine g_i2l X dX8_isPersonLetter_91 ?_
    refine g_ldc2 X dX8_isPersonLetter_92 m_972 ?_
    refine g_ldc2 X dX8_isPersonLetter_95 m_984 ?_
    obtain ⟨r9, I9, J9, hb9, hf⟩ := bnd_some hf
    refine g_callS X dX8_isPersonLetter_98 sw_X8_92 (As := [.long (Int32.toInt64 (I 1 (Int32.toNatClampNeg x1))), .long 48, .long 57]) rfl rfl (Nat.le_of_ble_eq_true rfl) (by decide) (cX8_in_ok  M.2.1 V (Int32.toInt64 (I 1 (Int32.toNatClampNeg x1))) 48 57  I J hb9) (kI ?_)
    obtain ⟨hg10, hf⟩ := gd_some hf
    cases hf
    exact g_zreturn X dX8_isPersonLetter_101 (of_decide_eq_true hg10) hQ
  rw [if_neg hs8] at hf
  by_cases hs11 : (((x1 - (I 0 2)) - 1) - ((x1 - (I 0 2)) - 1) / 5 * 5) = 3
  · rw [if_pos hs11] at hf
    refine g_tin X dX8_isPersonLetter_19 hs11 (by decide) (by decide) rfl (tgt := 90) (by decide) ?_
    refine g_iload_n X dX8_isPersonLetter_90 1 rfl ?_
    refine g_i2l X dX8_isPersonLetter_91 ?_
    refine g_ldc2 X dX8_isPersonLetter_92 m_972 ?_
    refine g_ldc2 X dX8_isPersonLetter_95 m_984 ?_
    obtain ⟨r12, I12, J12, hb12, hf⟩ := bnd_some hf
    refine g_callS X dX8_isPersonLetter_98 sw_X8_92 (As := [.long (Int32.toInt64 (I 1 (Int32.toNatClampNeg x1))), .long 48, .long 57]) rfl rfl (Nat.le_of_ble_eq_true rfl) (by decide) (cX8_in_ok  M.2.1 V (Int32.toInt64 (I 1 (Int32.toNatClampNeg x1))) 48 57  I J hb12) (kI ?_)
    obtain ⟨hg13, hf⟩ := gd_some hf
    cases hf
    exact g_zreturn X dX8_isPersonLetter_101 (of_decide_eq_true hg13) hQ
  rw [if_neg hs11] at hf
  by_cases hs14 : (((x1 - (I 0 2)) - 1) - ((x1 - (I 0 2)) - 1) / 5 * 5) = 4
  · rw [if_pos hs14] at hf
    refine g_tin X dX8_isPersonLetter_19 hs14 (by decide) (by decide) rfl (tgt := 72) (by decide) ?_
    refine g_iload_n X dX8_isPersonLetter_72 1 rfl ?_
    refine g_bipush X dX8_isPersonLetter_73 (v := 44) rfl ?_
    refine g_icmp_ne X dX8_isPersonLetter_75 (tgt := 88) (by decide) (fun hc15 => ?_) (fun hc15 => ?_)
    · rw [if_neg hc15] at hf
      refine g_sub [] rfl ?_
      exact wBX8_isPersonLetter_88  X hQ    I J hf
    · rw [if_pos hc15] at hf
      refine g_iload_n X dX8_isPersonLetter_78 0 rfl ?_
      refine g_bipush X dX8_isPersonLetter_79 (v := 29) rfl ?_
      refine g_icmp_ge X dX8_isPersonLetter_81 (tgt := 88) (by decide) (fun hc16 => ?_) (fun hc16 => ?_)
      · rw [if_pos hc16] at hf
        refine g_sub [] rfl ?_
        exact wBX8_isPersonLetter_88  X hQ    I J hf
      · rw [if_neg hc16] at hf
        refine g_iconst X dX8_isPersonLetter_84 (v := 1) rfl ?_
        refine g_goto X dX8_isPersonLetter_85 (tgt := 89) (by decide) ?_
        refine g_sub [] rfl ?_
        exact wBX8_isPersonLetter_89  X hQ  1  I J hf
  rw [if_neg hs14] at hf
  refine g_tout X dX8_isPersonLetter_19 (by have a0 := lv_neT (a := 0) hs2 rfl; have a1 := lv_neT (a := 1) hs5 rfl; have a2 := lv_neT (a := 2) hs8 rfl; have a3 := lv_neT (a := 3) hs11 rfl; have a4 := lv_neT (a := 4) hs14 rfl; omega) (tgt := 90) (by decide) ?_
  refine g_iload_n X dX8_isPersonLetter_90 1 rfl ?_
  refine g_i2l X dX8_isPersonLetter_91 ?_
  refine g_ldc2 X dX8_isPersonLetter_92 m_972 ?_
  refine g_ldc2 X dX8_isPersonLetter_95 m_984 ?_
  obtain ⟨r17, I17, J17, hb17, hf⟩ := bnd_some hf
  refine g_callS X dX8_isPersonLetter_98 sw_X8_92 (As := [.long (Int32.toInt64 (I 1 (Int32.toNatClampNeg x1))), .long 48, .long 57]) rfl rfl (Nat.le_of_ble_eq_true rfl) (by decide) (cX8_in_ok  M.2.1 V (Int32.toInt64 (I 1 (Int32.toNatClampNeg x1))) 48 57  I J hb17) (kI ?_)
  obtain ⟨hg18, hf⟩ := gd_some hf
  cases hf
  exact g_zreturn X dX8_isPersonLetter_101 (of_decide_eq_true hg18) hQ
set_option maxRecDepth 4000 in
theorem cX8_isPersonLetter_ok (l : Launch) (V : VT) (x1 : Int32)  (I : aI) (J : aJ) {q : RT Int32} (hf : fX8_isPersonLetter x1 I J = some q) : Met l yX8_isPersonLetter (.code yX8_isPersonLetter cX8_isPersonLetter 4 (some .boolean) :: GG) (rmD 2) (va_Pc [.ref (V.2.2 0), .int x1] (cQ mS V I J)) (QI mS V q) 0 0 (vAd mS V) :=
  met_I (by decide +kernel) rfl (Nat.le_of_ble_eq_true rfl) (fun _ _ X hQ => wX8_isPersonLetter X hQ x1  I J hf)
-- X8_isGood
set_option maxRecDepth 4000 in
theorem wBX8_isGood_83 {M : MT} {V : VT}  (X : Cx M mS V cX8_isGood 2 RX8 (some .boolean) 3) {q : RT Int32} (hQ : PI M mS V q)  (s0 : Int32)  (I : aI) (J : aJ) (hf : BX8_isGood_83   s0 I J = some q) : Wg M mS V 2 I J 83 [] [.int s0] := by
  unfold BX8_isGood_83 at hf
  obtain ⟨hg10, hf⟩ := gd_some hf
  cases hf
  exact g_zreturn X dX8_isGood_83 (of_decide_eq_true hg10) hQ
set_option maxRecDepth 4000 in
theorem wBX8_isGood_62 {M : MT} {V : VT}  (X : Cx M mS V cX8_isGood 2 RX8 (some .boolean) 3) {q : RT Int32} (hQ : PI M mS V q)  (s0 : Int32)  (I : aI) (J : aJ) (hf : BX8_isGood_62   s0 I J = some q) : Wg M mS V 2 I J 62 [] [.int s0] := by
  unfold BX8_isGood_62 at hf
  obtain ⟨hg11, hf⟩ := gd_some hf
  cases hf
  exact g_zreturn X dX8_isGood_62 (of_decide_eq_true hg11) hQ
set_option maxRecDepth 4000 in
theorem wX8_isGood {M : MT} {V : VT} (X : Cx M mS V cX8_isGood 2 RX8 (some .boolean) 3) {q : RT Int32} (hQ : PI M mS V q) (x1 : Int32)  (I : aI) (J : aJ) (hf : fX8_isGood x1 I J = some q) : Wg M mS V 2 I J 0 [(0, .ref (V.2.2 0)), (1, .int x1)] [] := by
  unfold fX8_isGood at hf
  refine g_iload_n X dX8_isGood_0 1 rfl ?_
  refine g_iconst X dX8_isGood_1 (v := 3) rfl ?_
  refine g_icmp_ge X dX8_isGood_2 (tgt := 63) (by decide) (fun hc1 => ?_) (fun hc1 => ?_)
  · rw [if_pos hc1] at hf
    refine g_aload_n X dX8_isGood_63 0 rfl ?_
    refine g_get X dX8_isGood_64 okM_0 cl8 2 (by decide) m_820 rfl ?_
    refine g_if_ne X dX8_isGood_67 (tgt := 78) (by decide) (fun hc2 => ?_) (fun hc2 => ?_)
    · rw [if_neg hc2] at hf
      refine g_aload_n X dX8_isGood_78 0 rfl ?_
      refine g_iload_n X dX8_isGood_79 1 rfl ?_
      obtain ⟨r3, I3, J3, hb3, hf⟩ := bnd_some hf
      refine g_callV X dX8_isGood_80 cw_X8_121 (k := 0) (As := [.int x1]) (rcv okM_0 cl8) rfl rfl (Nat.le_of_ble_eq_true rfl) (by decide) (cX8_isPersonLetter_ok  M.2.1 V x1  I J hb3) (kI ?_)
      refine g_sub [] rfl ?_
      exact wBX8_isGood_83  X hQ  r3  I3 J3 hf
    · rw [if_pos hc2] at hf
      refine g_aload_n X dX8_isGood_70 0 rfl ?_
      refine g_iload_n X dX8_isGood_71 1 rfl ?_
      obtain ⟨r4, I4, J4, hb4, hf⟩ := bnd_some hf
      refine g_callV X dX8_isGood_72 cw_X8_118 (k := 0) (As := [.int x1]) (rcv okM_0 cl8) rfl rfl (Nat.le_of_ble_eq_true rfl) (by decide) (cX8_isRoadLetter_ok  M.2.1 V x1  I J hb4) (kI ?_)
      refine g_goto X dX8_isGood_75 (tgt := 83) (by decide) ?_
      refine g_sub [] rfl ?_
      exact wBX8_isGood_83  X hQ  r4  I4 J4 hf
  · rw [if_neg hc1] at hf
    refine g_iload_n X dX8_isGood_5 1 rfl ?_
    refine g_if_ne X dX8_isGood_6 (tgt := 28) (by decide) (fun hc5 => ?_) (fun hc5 => ?_)
    · rw [if_neg hc5] at hf
      refine g_iload_n X dX8_isGood_28 1 rfl ?_
      refine g_iconst X dX8_isGood_29 (v := 1) rfl ?_
      refine g_icmp_ne X dX8_isGood_30 (tgt := 46) (by decide) (fun hc6 => ?_) (fun hc6 => ?_)
      · rw [if_neg hc6] at hf
        refine g_aload_n X dX8_isGood_46 0 rfl ?_
        refine g_get X dX8_isGood_47 okM_0 cl8 0 (by decide) m_818 rfl ?_
        refine g_iconst X dX8_isGood_50 (v := 2) rfl ?_
        refine g_iaload X dX8_isGood_51 okM_1 (by decide : inb 2 60 = true) ?_
        refine g_bipush X dX8_isGood_52 (v := 59) rfl ?_
        refine g_icmp_ne X dX8_isGood_54 (tgt := 61) (by decide) (fun hc7 => ?_) (fun hc7 => ?_)
        · rw [if_neg hc7] at hf
          refine g_iconst X dX8_isGood_61 (v := 0) rfl ?_
          refine g_sub [] rfl ?_
          exact wBX8_isGood_62  X hQ  0  I J hf
        · rw [if_pos hc7] at hf
          refine g_iconst X dX8_isGood_57 (v := 1) rfl ?_
          refine g_goto X dX8_isGood_58 (tgt := 62) (by decide) ?_
          refine g_sub [] rfl ?_
          exact wBX8_isGood_62  X hQ  1  I J hf
      · rw [if_pos hc6] at hf
        refine g_aload_n X dX8_isGood_33 0 rfl ?_
        refine g_aload_n X dX8_isGood_34 0 rfl ?_
        refine g_get X dX8_isGood_35 okM_0 cl8 0 (by decide) m_818 rfl ?_
        refine g_iconst X dX8_isGood_38 (v := 1) rfl ?_
        refine g_iaload X dX8_isGood_39 okM_1 (by decide : inb 1 60 = true) ?_
        obtain ⟨r8, I8, J8, hb8, hf⟩ := bnd_some hf
        refine g_callV X dX8_isGood_40 cw_X8_101 (k := 0) (As := [.int (I 1 (Int32.toNatClampNeg 1))]) (rcv okM_0 cl8) rfl rfl (Nat.le_of_ble_eq_true rfl) (by decide) (cX8_isCornerLetter_ok  M.2.1 V (I 1 (Int32.toNatClampNeg 1))  I J hb8) (kI ?_)
        refine g_goto X dX8_isGood_43 (tgt := 62) (by decide) ?_
        refine g_sub [] rfl ?_
        exact wBX8_isGood_62  X hQ  r8  I8 J8 hf
    · rw [if_pos hc5] at hf
      refine g_aload_n X dX8_isGood_9 0 rfl ?_
      refine g_get X dX8_isGood_10 okM_0 cl8 0 (by decide) m_818 rfl ?_
      refine g_iconst X dX8_isGood_13 (v := 0) rfl ?_
      refine g_iaload X dX8_isGood_14 okM_1 (by decide : inb 0 60 = true) ?_
      refine g_i2l X dX8_isGood_15 ?_
      refine g_ldc2 X dX8_isGood_16 m_966 ?_
      refine g_ldc2 X dX8_isGood_19 m_967 ?_
      obtain ⟨r9, I9, J9, hb9, hf⟩ := bnd_some hf
      refine g_callS X dX8_isGood_22 sw_X8_92 (As := [.long (Int32.toInt64 (I 1 (Int32.toNatClampNeg 0))), .long 50, .long 54]) rfl rfl (Nat.le_of_ble_eq_true rfl) (by decide) (cX8_in_ok  M.2.1 V (Int32.toInt64 (I 1 (Int32.toNatClampNeg 0))) 50 54  I J hb9) (kI ?_)
      refine g_goto X dX8_isGood_25 (tgt := 62) (by decide) ?_
      refine g_sub [] rfl ?_
      exact wBX8_isGood_62  X hQ  r9  I9 J9 hf
set_option maxRecDepth 4000 in
theorem cX8_isGood_ok (l : Launch) (V : VT) (x1 : Int32)  (I : aI) (J : aJ) {q : RT Int32} (hf : fX8_isGood x1 I J = some q) : Met l yX8_isGood (.code yX8_isGood cX8_isGood 2 (some .boolean) :: GG) (rmD 3) (va_Pc [.ref (V.2.2 0), .int x1] (cQ mS V I J)) (QI mS V q) 0 0 (vAd mS V) :=
  met_I (by decide +kernel) rfl (Nat.le_of_ble_eq_true rfl) (fun _ _ X hQ => wX8_isGood X hQ x1  I J hf)
-- X8_faultOf
set_option maxRecDepth 4000 in
theorem wBX8_faultOf_29 {M : MT} {V : VT}  (X : Cx M mS V cX8_faultOf 2 RX8 (some .int) 4) {q : RT Int32} (hQ : PI M mS V q)  (x1 : Int32)  (I : aI) (J : aJ) (hf : BX8_faultOf_29   x1 I J = some q) : Wg M mS V 2 I J 29 [(1, .int x1)] [] := by
  unfold BX8_faultOf_29 at hf
  refine g_iload_n X dX8_faultOf_29 0 rfl ?_
  cases hf
  exact g_ireturn X dX8_faultOf_30 hQ
set_option maxRecDepth 4000 in
theorem wHX8_faultOf_7 {M : MT} {V : VT}  (X : Cx M mS V cX8_faultOf 2 RX8 (some .int) 4) {q : RT Int32} (hQ : PI M mS V q) (k7 : Int32 → aI → aJ → Option (RT Int32)) (hk7 : ∀ (x1 : Int32)  (I : aI) (J : aJ), k7 x1 I J = some q → Wg M mS V 2 I J 7 [(0, .ref (V.2.2 0)), (1, .int x1)] []) (x1 : Int32)  (I : aI) (J : aJ) (hf : HX8_faultOf_7  k7 x1 I J = some q) : Wg M mS V 2 I J 7 [(0, .ref (V.2.2 0)), (1, .int x1)] [] := by
  unfold HX8_faultOf_7 at hf
  refine g_iload_n X dX8_faultOf_7 1 rfl ?_
  refine g_aload_n X dX8_faultOf_8 0 rfl ?_
  refine g_get X dX8_faultOf_9 okM_0 cl8 1 (by decide) m_819 rfl ?_
  refine g_icmp_ge X dX8_faultOf_12 (tgt := 29) (by decide) (fun hc1 => ?_) (fun hc1 => ?_)
  · rw [if_pos hc1] at hf
    refine g_sub [1] rfl ?_
    exact wBX8_faultOf_29  X hQ  x1  I J hf
  · rw [if_neg hc1] at hf
    refine g_aload_n X dX8_faultOf_15 0 rfl ?_
    refine g_iload_n X dX8_faultOf_16 1 rfl ?_
    obtain ⟨r2, I2, J2, hb2, hf⟩ := bnd_some hf
    refine g_callV X dX8_faultOf_17 cw_X8_124 (k := 0) (As := [.int x1]) (rcv okM_0 cl8) rfl rfl (Nat.le_of_ble_eq_true rfl) (by decide) (cX8_isGood_ok  M.2.1 V x1  I J hb2) (kI ?_)
    refine g_if_eq X dX8_faultOf_20 (tgt := 29) (by decide) (fun hc3 => ?_) (fun hc3 => ?_)
    · rw [if_pos hc3] at hf
      refine g_sub [1] rfl ?_
      exact wBX8_faultOf_29  X hQ  x1  I2 J2 hf
    · rw [if_neg hc3] at hf
      refine g_iinc X dX8_faultOf_23 1 rfl 1 rfl (by decide) [(1, .int (x1 + 1)), (0, .ref (V.2.2 0))] rfl ?_
      refine g_goto X dX8_faultOf_26 (tgt := 7) (by decide) ?_
      refine g_sub [1, 0] rfl ?_
      exact hk7 (x1 + 1)  I2 J2 hf
set_option maxRecDepth 4000 in
theorem wLX8_faultOf_7 {M : MT} {V : VT}  (X : Cx M mS V cX8_faultOf 2 RX8 (some .int) 4) {q : RT Int32} (hQ : PI M mS V q)  : ∀ (n : Nat) (x1 : Int32)  (I : aI) (J : aJ), LX8_faultOf_7   n x1 I J = some q → Wg M mS V 2 I J 7 [(0, .ref (V.2.2 0)), (1, .int x1)] [] := by
  intro n
  induction n with
  | zero => intro x1  I J hf; cases hf
  | succ n ih => intro x1  I J hf; exact wHX8_faultOf_7  X hQ  (LX8_faultOf_7   n) ih x1  I J hf
set_option maxRecDepth 4000 in
theorem wX8_faultOf {M : MT} {V : VT} (X : Cx M mS V cX8_faultOf 2 RX8 (some .int) 4) {q : RT Int32} (hQ : PI M mS V q)   (I : aI) (J : aJ) (hf : fX8_faultOf  I J = some q) : Wg M mS V 2 I J 0 [(0, .ref (V.2.2 0))] [] := by
  unfold fX8_faultOf at hf
  refine g_aload_n X dX8_faultOf_0 0 rfl ?_
  refine g_iconst X dX8_faultOf_1 (v := 0) rfl ?_
  refine g_putI X dX8_faultOf_2 okM_0 cl8 2 (by decide) m_820 rfl .int rfl rfl rfl (Nat.le_of_ble_eq_true rfl) (fun _ _ => rfl) ?_
  refine g_iconst X dX8_faultOf_5 (v := 0) rfl ?_
  refine g_istore_n X dX8_faultOf_6 (by decide) [(1, .int 0), (0, .ref (V.2.2 0))] rfl ?_
  refine g_sub [1, 0] rfl ?_
  exact wLX8_faultOf_7  X hQ  128 0  (pI I 0 2 0) J hf
set_option maxRecDepth 4000 in
theorem cX8_faultOf_ok (l : Launch) (V : VT)   (I : aI) (J : aJ) {q : RT Int32} (hf : fX8_faultOf  I J = some q) : Met l yX8_faultOf (.code yX8_faultOf cX8_faultOf 2 (some .int) :: GG) (rmD 4) (va_Pc [.ref (V.2.2 0)] (cQ mS V I J)) (QI mS V q) 0 0 (vAd mS V) :=
  met_I (by decide +kernel) rfl (Nat.le_of_ble_eq_true rfl) (fun _ _ X hQ => wX8_faultOf X hQ   I J hf)
-- X8_fault
set_option maxRecDepth 4000 in
theorem wX8_fault {M : MT} {V : VT} (X : Cx M mS V cX8_fault 1 RX8 (some .int) 5) {q : RT Int32} (hQ : PI M mS V q)   (I : aI) (J : aJ) (hf : fX8_fault  I J = some q) : Wg M mS V 1 I J 0 [(0, .ref (V.2.2 0))] [] := by
  unfold fX8_fault at hf
  refine g_aload_n X dX8_fault_0 0 rfl ?_
  obtain ⟨r1, I1, J1, hb1, hf⟩ := bnd_some hf
  refine g_callV X dX8_fault_1 cw_X8_127 (k := 0) (As := []) (rcv okM_0 cl8) rfl rfl (Nat.le_of_ble_eq_true rfl) (by decide) (cX8_faultOf_ok  M.2.1 V   I J hb1) (kI ?_)
  cases hf
  exact g_ireturn X dX8_fault_4 hQ
set_option maxRecDepth 4000 in
theorem cX8_fault_ok (l : Launch) (V : VT)   (I : aI) (J : aJ) {q : RT Int32} (hf : fX8_fault  I J = some q) : Met l yX8_fault (.code yX8_fault cX8_fault 1 (some .int) :: GG) (rmD 5) (va_Pc [.ref (V.2.2 0)] (cQ mS V I J)) (QI mS V q) 0 0 (vAd mS V) :=
  met_I (by decide +kernel) rfl (Nat.le_of_ble_eq_true rfl) (fun _ _ X hQ => wX8_fault X hQ   I J hf)
-- X8_figure
set_option maxRecDepth 4000 in
theorem wHX8_figure_7 {M : MT} {V : VT}  (X : Cx M mS V cX8_figure 5 RX8 (some .int) 0) {q : RT Int32} (hQ : PI M mS V q) (k7 : Int32 → Int32 → Int32 → aI → aJ → Option (RT Int32)) (hk7 : ∀ (x1 : Int32) (x3 : Int32) (x4 : Int32)  (I : aI) (J : aJ), k7 x1 x3 x4 I J = some q → Wg M mS V 5 I J 7 [(1, .int x1), (3, .int x3), (4, .int x4)] []) (x1 : Int32) (x3 : Int32) (x4 : Int32)  (I : aI) (J : aJ) (hf : HX8_figure_7  k7 x1 x3 x4 I J = some q) : Wg M mS V 5 I J 7 [(1, .int x1), (3, .int x3), (4, .int x4)] [] := by
  unfold HX8_figure_7 at hf
  refine g_iload X dX8_figure_7 2 rfl ?_
  refine g_iload_n X dX8_figure_9 0 rfl ?_
  refine g_icmp_ge X dX8_figure_10 (tgt := 24) (by decide) (fun hc1 => ?_) (fun hc1 => ?_)
  · rw [if_pos hc1] at hf
    refine g_iload_n X dX8_figure_24 1 rfl ?_
    refine g_bipush X dX8_figure_25 (v := 6) rfl ?_
    refine g_irem X dX8_figure_27 (by decide) ?_
    cases hf
    exact g_ireturn X dX8_figure_28 hQ
  · rw [if_neg hc1] at hf
    refine g_iload_n X dX8_figure_13 1 rfl ?_
    refine g_bipush X dX8_figure_14 (v := 6) rfl ?_
    refine g_idiv X dX8_figure_16 (by decide) ?_
    refine g_istore_n X dX8_figure_17 (by decide) [(3, .int (x3 / 6)), (1, .int x1), (4, .int x4)] rfl ?_
    refine g_iinc X dX8_figure_18 2 rfl 1 rfl (by decide) [(4, .int (x4 + 1)), (3, .int (x3 / 6)), (1, .int x1)] rfl ?_
    refine g_goto X dX8_figure_21 (tgt := 7) (by decide) ?_
    refine g_sub [2, 1, 0] rfl ?_
    exact hk7 x1 (x3 / 6) (x4 + 1)  I J hf
set_option maxRecDepth 4000 in
theorem wLX8_figure_7 {M : MT} {V : VT}  (X : Cx M mS V cX8_figure 5 RX8 (some .int) 0) {q : RT Int32} (hQ : PI M mS V q)  : ∀ (n : Nat) (x1 : Int32) (x3 : Int32) (x4 : Int32)  (I : aI) (J : aJ), LX8_figure_7   n x1 x3 x4 I J = some q → Wg M mS V 5 I J 7 [(1, .int x1), (3, .int x3), (4, .int x4)] [] := by
  intro n
  induction n with
  | zero => intro x1 x3 x4  I J hf; cases hf
  | succ n ih => intro x1 x3 x4  I J hf; exact wHX8_figure_7  X hQ  (LX8_figure_7   n) ih x1 x3 x4  I J hf
set_option maxRecDepth 4000 in
theorem wX8_figure {M : MT} {V : VT} (X : Cx M mS V cX8_figure 5 RX8 (some .int) 0) {q : RT Int32} (hQ : PI M mS V q) (x0 : Int32) (x1 : Int32) (x2 : Int32)  (I : aI) (J : aJ) (hf : fX8_figure x0 x1 x2 I J = some q) : Wg M mS V 5 I J 0 [(0, .int x0), (1, .int x1), (2, .int x2)] [] := by
  unfold fX8_figure at hf
  refine g_iload_n X dX8_figure_0 0 rfl ?_
  refine g_istore_n X dX8_figure_1 (by decide) [(3, .int x0), (0, .int x0), (1, .int x1), (2, .int x2)] rfl ?_
  refine g_iload_n X dX8_figure_2 3 rfl ?_
  refine g_iconst X dX8_figure_3 (v := 1) rfl ?_
  refine g_iadd X dX8_figure_4 ?_
  refine g_istore X dX8_figure_5 (by decide) [(4, .int (x2 + 1)), (3, .int x0), (0, .int x0), (1, .int x1), (2, .int x2)] rfl ?_
  refine g_sub [3, 1, 0] rfl ?_
  exact wLX8_figure_7  X hQ  128 x1 x0 (x2 + 1)  I J hf
set_option maxRecDepth 4000 in
theorem cX8_figure_ok (l : Launch) (V : VT) (x0 : Int32) (x1 : Int32) (x2 : Int32)  (I : aI) (J : aJ) {q : RT Int32} (hf : fX8_figure x0 x1 x2 I J = some q) : Met l yX8_figure (.code yX8_figure cX8_figure 5 (some .int) :: GG) (rmD 0) (va_Pc [.int x0, .int x1, .int x2] (cQ mS V I J)) (QI mS V q) 0 0 (vAd mS V) :=
  met_I (by decide +kernel) rfl (Nat.le_of_ble_eq_true rfl) (fun _ _ X hQ => wX8_figure X hQ x0 x1 x2  I J hf)
-- X8_forget
set_option maxRecDepth 4000 in
theorem wX8_forget {M : MT} {V : VT} (X : Cx M mS V cX8_forget 2 RX8 (some .int) 0) {q : RT Int32} (hQ : PI M mS V q)   (I : aI) (J : aJ) (hf : fX8_forget  I J = some q) : Wg M mS V 2 I J 0 [(0, .ref (V.2.2 0))] [] := by
  unfold fX8_forget at hf
  refine g_aload_n X dX8_forget_0 0 rfl ?_
  refine g_get X dX8_forget_1 okM_0 cl8 27 (by decide) m_845 rfl ?_
  refine g_istore_n X dX8_forget_4 (by decide) [(1, .int (I 0 27)), (0, .ref (V.2.2 0))] rfl ?_
  refine g_aload_n X dX8_forget_5 1 rfl ?_
  refine g_iconst X dX8_forget_6 (v := 0) rfl ?_
  refine g_putI X dX8_forget_7 okM_0 cl8 27 (by decide) m_845 rfl .int rfl rfl rfl (Nat.le_of_ble_eq_true rfl) (fun _ _ => rfl) ?_
  refine g_iload_n X dX8_forget_10 0 rfl ?_
  cases hf
  exact g_ireturn X dX8_forget_11 hQ
set_option maxRecDepth 4000 in
theorem cX8_forget_ok (l : Launch) (V : VT)   (I : aI) (J : aJ) {q : RT Int32} (hf : fX8_forget  I J = some q) : Met l yX8_forget (.code yX8_forget cX8_forget 2 (some .int) :: GG) (rmD 0) (va_Pc [.ref (V.2.2 0)] (cQ mS V I J)) (QI mS V q) 0 0 (vAd mS V) :=
  met_I (by decide +kernel) rfl (Nat.le_of_ble_eq_true rfl) (fun _ _ X hQ => wX8_forget X hQ   I J hf)
-- X8_go
set_option maxRecDepth 4000 in
theorem wX8_go {M : MT} {V : VT} (X : Cx M mS V cX8_go 3 RX8 (some .int) 2) {q : RT Int32} (hQ : PI M mS V q) (x1 : Int32)  (I : aI) (J : aJ) (hf : fX8_go x1 I J = some q) : Wg M mS V 3 I J 0 [(0, .ref (V.2.2 0)), (1, .int x1)] [] := by
  unfold fX8_go at hf
  refine g_aload_n X dX8_go_0 0 rfl ?_
  refine g_iload_n X dX8_go_1 1 rfl ?_
  obtain ⟨r1, I1, J1, hb1, hf⟩ := bnd_some hf
  refine g_callV X dX8_go_2 cw_X8_202 (k := 0) (As := [.int x1]) (rcv okM_0 cl8) rfl rfl (Nat.le_of_ble_eq_true rfl) (by decide) (cX8_isCorner_ok  M.2.1 V x1  I J hb1) (kI ?_)
  refine g_if_ne X dX8_go_5 (tgt := 11) (by decide) (fun hc2 => ?_) (fun hc2 => ?_)
  · rw [if_neg hc2] at hf
    refine g_aload_n X dX8_go_11 0 rfl ?_
    refine g_aload_n X dX8_go_12 0 rfl ?_
    refine g_get X dX8_go_13 okM_0 cl8 6 (by decide) m_824 rfl ?_
    refine g_iload_n X dX8_go_16 1 rfl ?_
    obtain ⟨r3, I3, J3, hb3, hf⟩ := bnd_some hf
    refine g_callV X dX8_go_17 cw_X8_166 (k := 0) (As := [.int (I1 0 6), .int x1]) (rcv okM_0 cl8) rfl rfl (Nat.le_of_ble_eq_true rfl) (by decide) (cX8_isNext_ok  M.2.1 V (I1 0 6) x1  I1 J1 hb3) (kI ?_)
    refine g_if_ne X dX8_go_20 (tgt := 26) (by decide) (fun hc4 => ?_) (fun hc4 => ?_)
    · rw [if_neg hc4] at hf
      refine g_aload_n X dX8_go_26 0 rfl ?_
      refine g_get X dX8_go_27 okM_0 cl8 7 (by decide) m_825 rfl ?_
      refine g_sipush X dX8_go_30 (v := 999) rfl ?_
      refine g_icmp_ne X dX8_go_33 (tgt := 39) (by decide) (fun hc5 => ?_) (fun hc5 => ?_)
      · rw [if_neg hc5] at hf
        refine g_aload_n X dX8_go_39 0 rfl ?_
        refine g_dup X dX8_go_40 rfl ?_
        refine g_get X dX8_go_41 okM_0 cl8 7 (by decide) m_825 rfl ?_
        refine g_iconst X dX8_go_44 (v := 1) rfl ?_
        refine g_iadd X dX8_go_45 ?_
        refine g_putI X dX8_go_46 okM_0 cl8 7 (by decide) m_825 rfl .int rfl rfl rfl (Nat.le_of_ble_eq_true rfl) (fun _ _ => rfl) ?_
        refine g_aload_n X dX8_go_49 0 rfl ?_
        refine g_iload_n X dX8_go_50 1 rfl ?_
        refine g_putI X dX8_go_51 okM_0 cl8 6 (by decide) m_824 rfl .int rfl rfl rfl (Nat.le_of_ble_eq_true rfl) (fun _ _ => rfl) ?_
        refine g_aload_n X dX8_go_54 0 rfl ?_
        obtain ⟨r6, I6, J6, hb6, hf⟩ := bnd_some hf
        refine g_callV X dX8_go_55 cw_X8_208 (k := 0) (As := []) (rcv okM_0 cl8) rfl rfl (Nat.le_of_ble_eq_true rfl) (by decide) (cX8_begin_ok  M.2.1 V   (pI (pI I3 0 7 ((I3 0 7) + 1)) 0 6 x1) J3 hb6) (kV ?_)
        refine g_aload_n X dX8_go_58 0 rfl ?_
        refine g_aload_n X dX8_go_59 0 rfl ?_
        refine g_get X dX8_go_60 okM_0 cl8 6 (by decide) m_824 rfl ?_
        refine g_aload_n X dX8_go_63 0 rfl ?_
        refine g_get X dX8_go_64 okM_0 cl8 7 (by decide) m_825 rfl ?_
        obtain ⟨r7, I7, J7, hb7, hf⟩ := bnd_some hf
        refine g_callV X dX8_go_67 cw_X8_211 (k := 0) (As := [.int (I6 0 6), .int (I6 0 7)]) (rcv okM_0 cl8) rfl rfl (Nat.le_of_ble_eq_true rfl) (by decide) (cX8_goThen_ok  M.2.1 V (I6 0 6) (I6 0 7)  I6 J6 hb7) (kI ?_)
        refine g_istore_n X dX8_go_70 (by decide) [(2, .int r7), (0, .ref (V.2.2 0)), (1, .int x1)] rfl ?_
        refine g_aload_n X dX8_go_71 1 rfl ?_
        refine g_get X dX8_go_72 okM_0 cl8 18 (by decide) m_836 rfl ?_
        refine g_aload_n X dX8_go_75 1 rfl ?_
        refine g_get X dX8_go_76 okM_0 cl8 15 (by decide) m_833 rfl ?_
        obtain ⟨r8, I8, J8, hb8, hf⟩ := bnd_some hf
        refine g_callS X dX8_go_79 sw_X8_155 (As := [.ref (V.2.2 11), .ref (V.2.2 8)]) rfl rfl (Nat.le_of_ble_eq_true rfl) (by decide) (cX8_copy_ok  M.2.1 V 11 6 8 6 okM_11 okM_8 I7 J7 hb8) (kV ?_)
        refine g_aload_n X dX8_go_82 1 rfl ?_
        refine g_get X dX8_go_83 okM_0 cl8 19 (by decide) m_837 rfl ?_
        refine g_aload_n X dX8_go_86 1 rfl ?_
        refine g_get X dX8_go_87 okM_0 cl8 16 (by decide) m_834 rfl ?_
        obtain ⟨r9, I9, J9, hb9, hf⟩ := bnd_some hf
        refine g_callS X dX8_go_90 sw_X8_155 (As := [.ref (V.2.2 12), .ref (V.2.2 9)]) rfl rfl (Nat.le_of_ble_eq_true rfl) (by decide) (cX8_copy_ok  M.2.1 V 12 6 9 6 okM_12 okM_9 I8 J8 hb9) (kV ?_)
        refine g_iload_n X dX8_go_93 0 rfl ?_
        cases hf
        exact g_ireturn X dX8_go_94 hQ
      · rw [if_pos hc5] at hf
        refine g_bipush X dX8_go_36 (v := (-104)) rfl ?_
        cases hf
        exact g_ireturn X dX8_go_38 hQ
    · rw [if_pos hc4] at hf
      refine g_bipush X dX8_go_23 (v := (-103)) rfl ?_
      cases hf
      exact g_ireturn X dX8_go_25 hQ
  · rw [if_pos hc2] at hf
    refine g_bipush X dX8_go_8 (v := (-101)) rfl ?_
    cases hf
    exact g_ireturn X dX8_go_10 hQ
set_option maxRecDepth 4000 in
theorem cX8_go_ok (l : Launch) (V : VT) (x1 : Int32)  (I : aI) (J : aJ) {q : RT Int32} (hf : fX8_go x1 I J = some q) : Met l yX8_go (.code yX8_go cX8_go 3 (some .int) :: GG) (rmD 2) (va_Pc [.ref (V.2.2 0), .int x1] (cQ mS V I J)) (QI mS V q) 0 0 (vAd mS V) :=
  met_I (by decide +kernel) rfl (Nat.le_of_ble_eq_true rfl) (fun _ _ X hQ => wX8_go X hQ x1  I J hf)
-- X8_image
set_option maxRecDepth 4000 in
theorem wX8_image {M : MT} {V : VT} (X : Cx M mS V cX8_image 1 RX8 (some .int) 1) {q : RT Int32} (hQ : PI M mS V q)   (I : aI) (J : aJ) (hf : fX8_image  I J = some q) : Wg M mS V 1 I J 0 [(0, .ref (V.2.2 0))] [] := by
  unfold fX8_image at hf
  refine g_aload_n X dX8_image_0 0 rfl ?_
  obtain ⟨r1, I1, J1, hb1, hf⟩ := bnd_some hf
  refine g_callV X dX8_image_1 cw_X8_229 (k := 0) (As := []) (rcv okM_0 cl8) rfl rfl (Nat.le_of_ble_eq_true rfl) (by decide) (cX8_lacks_ok  M.2.1 V   I J hb1) (kI ?_)
  refine g_if_eq X dX8_image_4 (tgt := 10) (by decide) (fun hc2 => ?_) (fun hc2 => ?_)
  · rw [if_pos hc2] at hf
    refine g_aload_n X dX8_image_10 0 rfl ?_
    refine g_get X dX8_image_11 okM_0 cl8 11 (by decide) m_829 rfl ?_
    refine g_aload_n X dX8_image_14 0 rfl ?_
    refine g_get X dX8_image_15 okM_0 cl8 34 (by decide) m_852 rfl ?_
    obtain ⟨r3, I3, J3, hb3, hf⟩ := bnd_some hf
    refine g_callS X dX8_image_18 sw_X8_155 (As := [.ref (V.2.2 4), .ref (V.2.2 20)]) rfl rfl (Nat.le_of_ble_eq_true rfl) (by decide) (cX8_copy_ok  M.2.1 V 4 6 20 6 okM_4 okM_20 I1 J1 hb3) (kV ?_)
    refine g_aload_n X dX8_image_21 0 rfl ?_
    refine g_get X dX8_image_22 okM_0 cl8 13 (by decide) m_831 rfl ?_
    refine g_aload_n X dX8_image_25 0 rfl ?_
    refine g_get X dX8_image_26 okM_0 cl8 35 (by decide) m_853 rfl ?_
    obtain ⟨r4, I4, J4, hb4, hf⟩ := bnd_some hf
    refine g_callS X dX8_image_29 sw_X8_155 (As := [.ref (V.2.2 6), .ref (V.2.2 21)]) rfl rfl (Nat.le_of_ble_eq_true rfl) (by decide) (cX8_copy_ok  M.2.1 V 6 6 21 6 okM_6 okM_21 I3 J3 hb4) (kV ?_)
    refine g_aload_n X dX8_image_32 0 rfl ?_
    refine g_get X dX8_image_33 okM_0 cl8 14 (by decide) m_832 rfl ?_
    refine g_aload_n X dX8_image_36 0 rfl ?_
    refine g_get X dX8_image_37 okM_0 cl8 36 (by decide) m_854 rfl ?_
    obtain ⟨r5, I5, J5, hb5, hf⟩ := bnd_some hf
    refine g_callS X dX8_image_40 sw_X8_155 (As := [.ref (V.2.2 7), .ref (V.2.2 22)]) rfl rfl (Nat.le_of_ble_eq_true rfl) (by decide) (cX8_copy_ok  M.2.1 V 7 6 22 6 okM_7 okM_22 I4 J4 hb5) (kV ?_)
    refine g_aload_n X dX8_image_43 0 rfl ?_
    refine g_get X dX8_image_44 okM_0 cl8 15 (by decide) m_833 rfl ?_
    refine g_aload_n X dX8_image_47 0 rfl ?_
    refine g_get X dX8_image_48 okM_0 cl8 37 (by decide) m_855 rfl ?_
    obtain ⟨r6, I6, J6, hb6, hf⟩ := bnd_some hf
    refine g_callS X dX8_image_51 sw_X8_155 (As := [.ref (V.2.2 8), .ref (V.2.2 23)]) rfl rfl (Nat.le_of_ble_eq_true rfl) (by decide) (cX8_copy_ok  M.2.1 V 8 6 23 6 okM_8 okM_23 I5 J5 hb6) (kV ?_)
    refine g_aload_n X dX8_image_54 0 rfl ?_
    refine g_get X dX8_image_55 okM_0 cl8 16 (by decide) m_834 rfl ?_
    refine g_aload_n X dX8_image_58 0 rfl ?_
    refine g_get X dX8_image_59 okM_0 cl8 38 (by decide) m_856 rfl ?_
    obtain ⟨r7, I7, J7, hb7, hf⟩ := bnd_some hf
    refine g_callS X dX8_image_62 sw_X8_155 (As := [.ref (V.2.2 9), .ref (V.2.2 24)]) rfl rfl (Nat.le_of_ble_eq_true rfl) (by decide) (cX8_copy_ok  M.2.1 V 9 6 24 6 okM_9 okM_24 I6 J6 hb7) (kV ?_)
    refine g_aload_n X dX8_image_65 0 rfl ?_
    refine g_get X dX8_image_66 okM_0 cl8 28 (by decide) m_846 rfl ?_
    refine g_aload_n X dX8_image_69 0 rfl ?_
    refine g_get X dX8_image_70 okM_0 cl8 39 (by decide) m_857 rfl ?_
    obtain ⟨r8, I8, J8, hb8, hf⟩ := bnd_some hf
    refine g_callS X dX8_image_73 sw_X8_155 (As := [.ref (V.2.2 19), .ref (V.2.2 25)]) rfl rfl (Nat.le_of_ble_eq_true rfl) (by decide) (cX8_copy_ok  M.2.1 V 19 12 25 12 okM_19 okM_25 I7 J7 hb8) (kV ?_)
    refine g_aload_n X dX8_image_76 0 rfl ?_
    refine g_aload_n X dX8_image_77 0 rfl ?_
    refine g_get X dX8_image_78 okM_0 cl8 6 (by decide) m_824 rfl ?_
    refine g_putI X dX8_image_81 okM_0 cl8 31 (by decide) m_849 rfl .int rfl rfl rfl (Nat.le_of_ble_eq_true rfl) (fun _ _ => rfl) ?_
    refine g_aload_n X dX8_image_84 0 rfl ?_
    refine g_aload_n X dX8_image_85 0 rfl ?_
    refine g_get X dX8_image_86 okM_0 cl8 7 (by decide) m_825 rfl ?_
    refine g_putI X dX8_image_89 okM_0 cl8 32 (by decide) m_850 rfl .int rfl rfl rfl (Nat.le_of_ble_eq_true rfl) (fun _ _ => rfl) ?_
    refine g_aload_n X dX8_image_92 0 rfl ?_
    refine g_aload_n X dX8_image_93 0 rfl ?_
    refine g_get X dX8_image_94 okM_0 cl8 27 (by decide) m_845 rfl ?_
    refine g_putI X dX8_image_97 okM_0 cl8 33 (by decide) m_851 rfl .int rfl rfl rfl (Nat.le_of_ble_eq_true rfl) (fun _ _ => rfl) ?_
    refine g_aload_n X dX8_image_100 0 rfl ?_
    refine g_aload_n X dX8_image_101 0 rfl ?_
    refine g_get X dX8_image_102 okM_0 cl8 8 (by decide) m_826 rfl ?_
    refine g_putI X dX8_image_105 okM_0 cl8 30 (by decide) m_848 rfl .int rfl rfl rfl (Nat.le_of_ble_eq_true rfl) (fun _ _ => rfl) ?_
    refine g_aload_n X dX8_image_108 0 rfl ?_
    refine g_get X dX8_image_109 okM_0 cl8 7 (by decide) m_825 rfl ?_
    cases hf
    exact g_ireturn X dX8_image_112 hQ
  · rw [if_neg hc2] at hf
    refine g_bipush X dX8_image_7 (v := (-103)) rfl ?_
    cases hf
    exact g_ireturn X dX8_image_9 hQ
set_option maxRecDepth 4000 in
theorem cX8_image_ok (l : Launch) (V : VT)   (I : aI) (J : aJ) {q : RT Int32} (hf : fX8_image  I J = some q) : Met l yX8_image (.code yX8_image cX8_image 1 (some .int) :: GG) (rmD 1) (va_Pc [.ref (V.2.2 0)] (cQ mS V I J)) (QI mS V q) 0 0 (vAd mS V) :=
  met_I (by decide +kernel) rfl (Nat.le_of_ble_eq_true rfl) (fun _ _ X hQ => wX8_image X hQ   I J hf)
-- X8_layFars
set_option maxRecDepth 4000 in
theorem wBX8_layFars_178 {M : MT} {V : VT}  (X : Cx M mS V cX8_layFars 6 RX8 none 0) {q : RT Unit} (hQ : PV M mS V q) (k39 : Int32 → aI → aJ → Option (RT Unit)) (hk39 : ∀ (x1 : Int32)  (I : aI) (J : aJ), k39 x1 I J = some q → Wg M mS V 6 I J 39 [(0, .ref (V.2.2 0)), (1, .int x1)] []) (k47 : Int32 → Int32 → aI → aJ → Option (RT Unit)) (hk47 : ∀ (x1 : Int32) (x2 : Int32)  (I : aI) (J : aJ), k47 x1 x2 I J = some q → Wg M mS V 6 I J 47 [(0, .ref (V.2.2 0)), (1, .int x1), (2, .int x2)] []) (k57 : Int32 → Int32 → Int32 → aI → aJ → Option (RT Unit)) (hk57 : ∀ (x1 : Int32) (x2 : Int32) (x3 : Int32)  (I : aI) (J : aJ), k57 x1 x2 x3 I J = some q → Wg M mS V 6 I J 57 [(0, .ref (V.2.2 0)), (1, .int x1), (2, .int x2), (3, .int x3)] []) (x1 : Int32) (x2 : Int32) (x3 : Int32) (s0 : Int32) (s1 : Int32)  (I : aI) (J : aJ) (hf : BX8_layFars_178  k39 k47 k57 x1 x2 x3 s0 s1 I J = some q) : Wg M mS V 6 I J 178 [(0, .ref (V.2.2 0)), (1, .int x1), (2, .int x2), (3, .int x3)] [.int s0, .int s1, .ref (V.2.2 10)] := by
  unfold BX8_layFars_178 at hf
  obtain ⟨hg14, hf⟩ := gd_some hf
  refine g_iastore X dX8_layFars_178 okM_10 hg14 ?_
  refine g_iinc X dX8_layFars_179 3 rfl 1 rfl (by decide) [(3, .int (x3 + 1)), (0, .ref (V.2.2 0)), (1, .int x1), (2, .int x2)] rfl ?_
  refine g_goto X dX8_layFars_182 (tgt := 57) (by decide) ?_
  refine g_sub [1, 2, 3, 0] rfl ?_
  exact hk57 x1 x2 (x3 + 1)  (pI I 10 (Int32.toNatClampNeg s1) s0) J hf
set_option maxRecDepth 4000 in
theorem wBX8_layFars_133 {M : MT} {V : VT}  (X : Cx M mS V cX8_layFars 6 RX8 none 0) {q : RT Unit} (hQ : PV M mS V q) (k39 : Int32 → aI → aJ → Option (RT Unit)) (hk39 : ∀ (x1 : Int32)  (I : aI) (J : aJ), k39 x1 I J = some q → Wg M mS V 6 I J 39 [(0, .ref (V.2.2 0)), (1, .int x1)] []) (k47 : Int32 → Int32 → aI → aJ → Option (RT Unit)) (hk47 : ∀ (x1 : Int32) (x2 : Int32)  (I : aI) (J : aJ), k47 x1 x2 I J = some q → Wg M mS V 6 I J 47 [(0, .ref (V.2.2 0)), (1, .int x1), (2, .int x2)] []) (k57 : Int32 → Int32 → Int32 → aI → aJ → Option (RT Unit)) (hk57 : ∀ (x1 : Int32) (x2 : Int32) (x3 : Int32)  (I : aI) (J : aJ), k57 x1 x2 x3 I J = some q → Wg M mS V 6 I J 57 [(0, .ref (V.2.2 0)), (1, .int x1), (2, .int x2), (3, .int x3)] []) (x1 : Int32) (x2 : Int32) (x3 : Int32) (x4 : Int32) (x5 : Int32) (s0 : Int32) (s1 : Int32)  (I : aI) (J : aJ) (hf : BX8_layFars_133  k39 k47 k57 x1 x2 x3 x4 x5 s0 s1 I J = some q) : Wg M mS V 6 I J 133 [(0, .ref (V.2.2 0)), (1, .int x1), (2, .int x2), (3, .int x3), (4, .int x4), (5, .int x5)] [.int s0, .int s1, .ref (V.2.2 10)] := by
  unfold BX8_layFars_133 at hf
  obtain ⟨hg10, hf⟩ := gd_some hf
  refine g_iastore X dX8_layFars_133 okM_10 hg10 ?_
  refine g_aload_n X dX8_layFars_134 0 rfl ?_
  refine g_get X dX8_layFars_135 okM_0 cl8 17 (by decide) m_835 rfl ?_
  refine g_iload X dX8_layFars_138 5 rfl ?_
  refine g_aload_n X dX8_layFars_140 0 rfl ?_
  refine g_get X dX8_layFars_141 okM_0 cl8 17 (by decide) m_835 rfl ?_
  refine g_iload X dX8_layFars_144 4 rfl ?_
  obtain ⟨hg11, hf⟩ := gd_some hf
  refine g_iaload X dX8_layFars_146 okM_10 hg11 ?_
  refine g_iconst X dX8_layFars_147 (v := 1) rfl ?_
  refine g_iadd X dX8_layFars_148 ?_
  refine g_aload_n X dX8_layFars_149 0 rfl ?_
  refine g_get X dX8_layFars_150 okM_0 cl8 17 (by decide) m_835 rfl ?_
  refine g_iload X dX8_layFars_153 5 rfl ?_
  obtain ⟨hg12, hf⟩ := gd_some hf
  refine g_iaload X dX8_layFars_155 okM_10 hg12 ?_
  refine g_icmp_ge X dX8_layFars_156 (tgt := 171) (by decide) (fun hc13 => ?_) (fun hc13 => ?_)
  · rw [if_pos hc13] at hf
    refine g_aload_n X dX8_layFars_171 0 rfl ?_
    refine g_get X dX8_layFars_172 okM_0 cl8 17 (by decide) m_835 rfl ?_
    refine g_iload X dX8_layFars_175 5 rfl ?_
    refine g_iaload X dX8_layFars_177 okM_10 hg12 ?_
    refine g_sub [0, 1, 2, 3] rfl ?_
    exact wBX8_layFars_178  X hQ k39 hk39 k47 hk47 k57 hk57 x1 x2 x3 ((pI I 10 (Int32.toNatClampNeg s1) s0) 10 (Int32.toNatClampNeg x5)) x5  (pI I 10 (Int32.toNatClampNeg s1) s0) J hf
  · rw [if_neg hc13] at hf
    refine g_aload_n X dX8_layFars_159 0 rfl ?_
    refine g_get X dX8_layFars_160 okM_0 cl8 17 (by decide) m_835 rfl ?_
    refine g_iload X dX8_layFars_163 4 rfl ?_
    refine g_iaload X dX8_layFars_165 okM_10 hg11 ?_
    refine g_iconst X dX8_layFars_166 (v := 1) rfl ?_
    refine g_iadd X dX8_layFars_167 ?_
    refine g_goto X dX8_layFars_168 (tgt := 178) (by decide) ?_
    refine g_sub [0, 1, 2, 3] rfl ?_
    exact wBX8_layFars_178  X hQ k39 hk39 k47 hk47 k57 hk57 x1 x2 x3 (((pI I 10 (Int32.toNatClampNeg s1) s0) 10 (Int32.toNatClampNeg x4)) + 1) x5  (pI I 10 (Int32.toNatClampNeg s1) s0) J hf
set_option maxRecDepth 4000 in
theorem wHX8_layFars_57 {M : MT} {V : VT}  (X : Cx M mS V cX8_layFars 6 RX8 none 0) {q : RT Unit} (hQ : PV M mS V q) (k39 : Int32 → aI → aJ → Option (RT Unit)) (hk39 : ∀ (x1 : Int32)  (I : aI) (J : aJ), k39 x1 I J = some q → Wg M mS V 6 I J 39 [(0, .ref (V.2.2 0)), (1, .int x1)] []) (k47 : Int32 → Int32 → aI → aJ → Option (RT Unit)) (hk47 : ∀ (x1 : Int32) (x2 : Int32)  (I : aI) (J : aJ), k47 x1 x2 I J = some q → Wg M mS V 6 I J 47 [(0, .ref (V.2.2 0)), (1, .int x1), (2, .int x2)] []) (k57 : Int32 → Int32 → Int32 → aI → aJ → Option (RT Unit)) (hk57 : ∀ (x1 : Int32) (x2 : Int32) (x3 : Int32)  (I : aI) (J : aJ), k57 x1 x2 x3 I J = some q → Wg M mS V 6 I J 57 [(0, .ref (V.2.2 0)), (1, .int x1), (2, .int x2), (3, .int x3)] []) (x1 : Int32) (x2 : Int32) (x3 : Int32)  (I : aI) (J : aJ) (hf : HX8_layFars_57  k39 k47 k57 x1 x2 x3 I J = some q) : Wg M mS V 6 I J 57 [(0, .ref (V.2.2 0)), (1, .int x1), (2, .int x2), (3, .int x3)] [] := by
  unfold HX8_layFars_57 at hf
  refine g_iload_n X dX8_layFars_57 3 rfl ?_
  refine g_bipush X dX8_layFars_58 (v := 6) rfl ?_
  refine g_icmp_ge X dX8_layFars_60 (tgt := 185) (by decide) (fun hc5 => ?_) (fun hc5 => ?_)
  · rw [if_pos hc5] at hf
    refine g_iinc X dX8_layFars_185 2 rfl 1 rfl (by decide) [(2, .int (x2 + 1)), (0, .ref (V.2.2 0)), (1, .int x1), (3, .int x3)] rfl ?_
    refine g_goto X dX8_layFars_188 (tgt := 47) (by decide) ?_
    refine g_sub [1, 2, 0] rfl ?_
    exact hk47 x1 (x2 + 1)  I J hf
  · rw [if_neg hc5] at hf
    refine g_bipush X dX8_layFars_63 (v := 6) rfl ?_
    refine g_aload_n X dX8_layFars_65 0 rfl ?_
    refine g_get X dX8_layFars_66 okM_0 cl8 9 (by decide) m_827 rfl ?_
    refine g_iload_n X dX8_layFars_69 2 rfl ?_
    obtain ⟨hg6, hf⟩ := gd_some hf
    refine g_iaload X dX8_layFars_70 okM_2 hg6 ?_
    refine g_imul X dX8_layFars_71 ?_
    refine g_iload_n X dX8_layFars_72 3 rfl ?_
    refine g_iadd X dX8_layFars_73 ?_
    refine g_istore X dX8_layFars_74 (by decide) [(4, .int ((6 * (I 2 (Int32.toNatClampNeg x2))) + x3)), (0, .ref (V.2.2 0)), (1, .int x1), (2, .int x2), (3, .int x3)] rfl ?_
    refine g_bipush X dX8_layFars_76 (v := 6) rfl ?_
    refine g_aload_n X dX8_layFars_78 1 rfl ?_
    refine g_get X dX8_layFars_79 okM_0 cl8 10 (by decide) m_828 rfl ?_
    refine g_iload_n X dX8_layFars_82 3 rfl ?_
    refine g_iaload X dX8_layFars_83 okM_3 hg6 ?_
    refine g_imul X dX8_layFars_84 ?_
    refine g_iload_n X dX8_layFars_85 4 rfl ?_
    refine g_iadd X dX8_layFars_86 ?_
    refine g_istore X dX8_layFars_87 (by decide) [(5, .int ((6 * (I 3 (Int32.toNatClampNeg x2))) + x3)), (4, .int ((6 * (I 2 (Int32.toNatClampNeg x2))) + x3)), (0, .ref (V.2.2 0)), (1, .int x1), (2, .int x2), (3, .int x3)] rfl ?_
    refine g_aload_n X dX8_layFars_89 2 rfl ?_
    refine g_get X dX8_layFars_90 okM_0 cl8 17 (by decide) m_835 rfl ?_
    refine g_iload X dX8_layFars_93 1 rfl ?_
    refine g_aload_n X dX8_layFars_95 2 rfl ?_
    refine g_get X dX8_layFars_96 okM_0 cl8 17 (by decide) m_835 rfl ?_
    refine g_iload X dX8_layFars_99 0 rfl ?_
    obtain ⟨hg7, hf⟩ := gd_some hf
    refine g_iaload X dX8_layFars_101 okM_10 hg7 ?_
    refine g_iconst X dX8_layFars_102 (v := 1) rfl ?_
    refine g_iadd X dX8_layFars_103 ?_
    refine g_aload_n X dX8_layFars_104 2 rfl ?_
    refine g_get X dX8_layFars_105 okM_0 cl8 17 (by decide) m_835 rfl ?_
    refine g_iload X dX8_layFars_108 1 rfl ?_
    obtain ⟨hg8, hf⟩ := gd_some hf
    refine g_iaload X dX8_layFars_110 okM_10 hg8 ?_
    refine g_icmp_ge X dX8_layFars_111 (tgt := 126) (by decide) (fun hc9 => ?_) (fun hc9 => ?_)
    · rw [if_pos hc9] at hf
      refine g_aload_n X dX8_layFars_126 2 rfl ?_
      refine g_get X dX8_layFars_127 okM_0 cl8 17 (by decide) m_835 rfl ?_
      refine g_iload X dX8_layFars_130 1 rfl ?_
      refine g_iaload X dX8_layFars_132 okM_10 hg8 ?_
      refine g_sub [2, 3, 4, 5, 1, 0] rfl ?_
      exact wBX8_layFars_133  X hQ k39 hk39 k47 hk47 k57 hk57 x1 x2 x3 ((6 * (I 2 (Int32.toNatClampNeg x2))) + x3) ((6 * (I 3 (Int32.toNatClampNeg x2))) + x3) (I 10 (Int32.toNatClampNeg ((6 * (I 2 (Int32.toNatClampNeg x2))) + x3))) ((6 * (I 2 (Int32.toNatClampNeg x2))) + x3)  I J hf
    · rw [if_neg hc9] at hf
      refine g_aload_n X dX8_layFars_114 2 rfl ?_
      refine g_get X dX8_layFars_115 okM_0 cl8 17 (by decide) m_835 rfl ?_
      refine g_iload X dX8_layFars_118 0 rfl ?_
      refine g_iaload X dX8_layFars_120 okM_10 hg7 ?_
      refine g_iconst X dX8_layFars_121 (v := 1) rfl ?_
      refine g_iadd X dX8_layFars_122 ?_
      refine g_goto X dX8_layFars_123 (tgt := 133) (by decide) ?_
      refine g_sub [2, 3, 4, 5, 1, 0] rfl ?_
      exact wBX8_layFars_133  X hQ k39 hk39 k47 hk47 k57 hk57 x1 x2 x3 ((6 * (I 2 (Int32.toNatClampNeg x2))) + x3) ((6 * (I 3 (Int32.toNatClampNeg x2))) + x3) ((I 10 (Int32.toNatClampNeg ((6 * (I 3 (Int32.toNatClampNeg x2))) + x3))) + 1) ((6 * (I 2 (Int32.toNatClampNeg x2))) + x3)  I J hf
set_option maxRecDepth 4000 in
theorem wLX8_layFars_57 {M : MT} {V : VT}  (X : Cx M mS V cX8_layFars 6 RX8 none 0) {q : RT Unit} (hQ : PV M mS V q) (k39 : Int32 → aI → aJ → Option (RT Unit)) (hk39 : ∀ (x1 : Int32)  (I : aI) (J : aJ), k39 x1 I J = some q → Wg M mS V 6 I J 39 [(0, .ref (V.2.2 0)), (1, .int x1)] []) (k47 : Int32 → Int32 → aI → aJ → Option (RT Unit)) (hk47 : ∀ (x1 : Int32) (x2 : Int32)  (I : aI) (J : aJ), k47 x1 x2 I J = some q → Wg M mS V 6 I J 47 [(0, .ref (V.2.2 0)), (1, .int x1), (2, .int x2)] []) : ∀ (n : Nat) (x1 : Int32) (x2 : Int32) (x3 : Int32)  (I : aI) (J : aJ), LX8_layFars_57  k39 k47 n x1 x2 x3 I J = some q → Wg M mS V 6 I J 57 [(0, .ref (V.2.2 0)), (1, .int x1), (2, .int x2), (3, .int x3)] [] := by
  intro n
  induction n with
  | zero => intro x1 x2 x3  I J hf; cases hf
  | succ n ih => intro x1 x2 x3  I J hf; exact wHX8_layFars_57  X hQ k39 hk39 k47 hk47 (LX8_layFars_57  k39 k47 n) ih x1 x2 x3  I J hf
set_option maxRecDepth 4000 in
theorem wHX8_layFars_47 {M : MT} {V : VT}  (X : Cx M mS V cX8_layFars 6 RX8 none 0) {q : RT Unit} (hQ : PV M mS V q) (k39 : Int32 → aI → aJ → Option (RT Unit)) (hk39 : ∀ (x1 : Int32)  (I : aI) (J : aJ), k39 x1 I J = some q → Wg M mS V 6 I J 39 [(0, .ref (V.2.2 0)), (1, .int x1)] []) (k47 : Int32 → Int32 → aI → aJ → Option (RT Unit)) (hk47 : ∀ (x1 : Int32) (x2 : Int32)  (I : aI) (J : aJ), k47 x1 x2 I J = some q → Wg M mS V 6 I J 47 [(0, .ref (V.2.2 0)), (1, .int x1), (2, .int x2)] []) (x1 : Int32) (x2 : Int32)  (I : aI) (J : aJ) (hf : HX8_layFars_47  k39 k47 x1 x2 I J = some q) : Wg M mS V 6 I J 47 [(0, .ref (V.2.2 0)), (1, .int x1), (2, .int x2)] [] := by
  unfold HX8_layFars_47 at hf
  refine g_iload_n X dX8_layFars_47 2 rfl ?_
  refine g_aload_n X dX8_layFars_48 0 rfl ?_
  refine g_get X dX8_layFars_49 okM_0 cl8 4 (by decide) m_822 rfl ?_
  refine g_icmp_ge X dX8_layFars_52 (tgt := 191) (by decide) (fun hc4 => ?_) (fun hc4 => ?_)
  · rw [if_pos hc4] at hf
    refine g_iinc X dX8_layFars_191 1 rfl 1 rfl (by decide) [(1, .int (x1 + 1)), (0, .ref (V.2.2 0)), (2, .int x2)] rfl ?_
    refine g_goto X dX8_layFars_194 (tgt := 39) (by decide) ?_
    refine g_sub [1, 0] rfl ?_
    exact hk39 (x1 + 1)  I J hf
  · rw [if_neg hc4] at hf
    refine g_iconst X dX8_layFars_55 (v := 0) rfl ?_
    refine g_istore_n X dX8_layFars_56 (by decide) [(3, .int 0), (0, .ref (V.2.2 0)), (1, .int x1), (2, .int x2)] rfl ?_
    refine g_sub [1, 2, 3, 0] rfl ?_
    exact wLX8_layFars_57  X hQ k39 hk39 k47 hk47 128 x1 x2 0  I J hf
set_option maxRecDepth 4000 in
theorem wLX8_layFars_47 {M : MT} {V : VT}  (X : Cx M mS V cX8_layFars 6 RX8 none 0) {q : RT Unit} (hQ : PV M mS V q) (k39 : Int32 → aI → aJ → Option (RT Unit)) (hk39 : ∀ (x1 : Int32)  (I : aI) (J : aJ), k39 x1 I J = some q → Wg M mS V 6 I J 39 [(0, .ref (V.2.2 0)), (1, .int x1)] []) : ∀ (n : Nat) (x1 : Int32) (x2 : Int32)  (I : aI) (J : aJ), LX8_layFars_47  k39 n x1 x2 I J = some q → Wg M mS V 6 I J 47 [(0, .ref (V.2.2 0)), (1, .int x1), (2, .int x2)] [] := by
  intro n
  induction n with
  | zero => intro x1 x2  I J hf; cases hf
  | succ n ih => intro x1 x2  I J hf; exact wHX8_layFars_47  X hQ k39 hk39 (LX8_layFars_47  k39 n) ih x1 x2  I J hf
set_option maxRecDepth 4000 in
theorem wHX8_layFars_39 {M : MT} {V : VT}  (X : Cx M mS V cX8_layFars 6 RX8 none 0) {q : RT Unit} (hQ : PV M mS V q) (k39 : Int32 → aI → aJ → Option (RT Unit)) (hk39 : ∀ (x1 : Int32)  (I : aI) (J : aJ), k39 x1 I J = some q → Wg M mS V 6 I J 39 [(0, .ref (V.2.2 0)), (1, .int x1)] []) (x1 : Int32)  (I : aI) (J : aJ) (hf : HX8_layFars_39  k39 x1 I J = some q) : Wg M mS V 6 I J 39 [(0, .ref (V.2.2 0)), (1, .int x1)] [] := by
  unfold HX8_layFars_39 at hf
  refine g_iload_n X dX8_layFars_39 1 rfl ?_
  refine g_bipush X dX8_layFars_40 (v := 6) rfl ?_
  refine g_icmp_ge X dX8_layFars_42 (tgt := 197) (by decide) (fun hc3 => ?_) (fun hc3 => ?_)
  · rw [if_pos hc3] at hf
    cases hf
    exact g_vreturn X dX8_layFars_197 hQ
  · rw [if_neg hc3] at hf
    refine g_iconst X dX8_layFars_45 (v := 0) rfl ?_
    refine g_istore_n X dX8_layFars_46 (by decide) [(2, .int 0), (0, .ref (V.2.2 0)), (1, .int x1)] rfl ?_
    refine g_sub [1, 2, 0] rfl ?_
    exact wLX8_layFars_47  X hQ k39 hk39 128 x1 0  I J hf
set_option maxRecDepth 4000 in
theorem wLX8_layFars_39 {M : MT} {V : VT}  (X : Cx M mS V cX8_layFars 6 RX8 none 0) {q : RT Unit} (hQ : PV M mS V q)  : ∀ (n : Nat) (x1 : Int32)  (I : aI) (J : aJ), LX8_layFars_39   n x1 I J = some q → Wg M mS V 6 I J 39 [(0, .ref (V.2.2 0)), (1, .int x1)] [] := by
  intro n
  induction n with
  | zero => intro x1  I J hf; cases hf
  | succ n ih => intro x1  I J hf; exact wHX8_layFars_39  X hQ  (LX8_layFars_39   n) ih x1  I J hf
set_option maxRecDepth 4000 in
theorem wBX8_layFars_30 {M : MT} {V : VT}  (X : Cx M mS V cX8_layFars 6 RX8 none 0) {q : RT Unit} (hQ : PV M mS V q) (k2 : Int32 → aI → aJ → Option (RT Unit)) (hk2 : ∀ (x1 : Int32)  (I : aI) (J : aJ), k2 x1 I J = some q → Wg M mS V 6 I J 2 [(0, .ref (V.2.2 0)), (1, .int x1)] []) (x1 : Int32) (s0 : Int32) (s1 : Int32)  (I : aI) (J : aJ) (hf : BX8_layFars_30  k2 x1 s0 s1 I J = some q) : Wg M mS V 6 I J 30 [(0, .ref (V.2.2 0)), (1, .int x1)] [.int s0, .int s1, .ref (V.2.2 10)] := by
  unfold BX8_layFars_30 at hf
  obtain ⟨hg15, hf⟩ := gd_some hf
  refine g_iastore X dX8_layFars_30 okM_10 hg15 ?_
  refine g_iinc X dX8_layFars_31 1 rfl 1 rfl (by decide) [(1, .int (x1 + 1)), (0, .ref (V.2.2 0))] rfl ?_
  refine g_goto X dX8_layFars_34 (tgt := 2) (by decide) ?_
  refine g_sub [1, 0] rfl ?_
  exact hk2 (x1 + 1)  (pI I 10 (Int32.toNatClampNeg s1) s0) J hf
set_option maxRecDepth 4000 in
theorem wHX8_layFars_2 {M : MT} {V : VT}  (X : Cx M mS V cX8_layFars 6 RX8 none 0) {q : RT Unit} (hQ : PV M mS V q) (k2 : Int32 → aI → aJ → Option (RT Unit)) (hk2 : ∀ (x1 : Int32)  (I : aI) (J : aJ), k2 x1 I J = some q → Wg M mS V 6 I J 2 [(0, .ref (V.2.2 0)), (1, .int x1)] []) (x1 : Int32)  (I : aI) (J : aJ) (hf : HX8_layFars_2  k2 x1 I J = some q) : Wg M mS V 6 I J 2 [(0, .ref (V.2.2 0)), (1, .int x1)] [] := by
  unfold HX8_layFars_2 at hf
  refine g_iload_n X dX8_layFars_2 1 rfl ?_
  refine g_bipush X dX8_layFars_3 (v := 36) rfl ?_
  refine g_icmp_ge X dX8_layFars_5 (tgt := 37) (by decide) (fun hc1 => ?_) (fun hc1 => ?_)
  · rw [if_pos hc1] at hf
    refine g_iconst X dX8_layFars_37 (v := 0) rfl ?_
    refine g_istore_n X dX8_layFars_38 (by decide) [(1, .int 0), (0, .ref (V.2.2 0))] rfl ?_
    refine g_sub [1, 0] rfl ?_
    exact wLX8_layFars_39  X hQ  128 0  I J hf
  · rw [if_neg hc1] at hf
    refine g_aload_n X dX8_layFars_8 0 rfl ?_
    refine g_get X dX8_layFars_9 okM_0 cl8 17 (by decide) m_835 rfl ?_
    refine g_iload_n X dX8_layFars_12 1 rfl ?_
    refine g_iload_n X dX8_layFars_13 1 rfl ?_
    refine g_bipush X dX8_layFars_14 (v := 6) rfl ?_
    refine g_idiv X dX8_layFars_16 (by decide) ?_
    refine g_iload_n X dX8_layFars_17 1 rfl ?_
    refine g_bipush X dX8_layFars_18 (v := 6) rfl ?_
    refine g_irem X dX8_layFars_20 (by decide) ?_
    refine g_icmp_ne X dX8_layFars_21 (tgt := 28) (by decide) (fun hc2 => ?_) (fun hc2 => ?_)
    · rw [if_neg hc2] at hf
      refine g_bipush X dX8_layFars_28 (v := 99) rfl ?_
      exact wBX8_layFars_30  X hQ k2 hk2 x1 99 x1  I J hf
    · rw [if_pos hc2] at hf
      refine g_iconst X dX8_layFars_24 (v := 0) rfl ?_
      refine g_goto X dX8_layFars_25 (tgt := 30) (by decide) ?_
      exact wBX8_layFars_30  X hQ k2 hk2 x1 0 x1  I J hf
set_option maxRecDepth 4000 in
theorem wLX8_layFars_2 {M : MT} {V : VT}  (X : Cx M mS V cX8_layFars 6 RX8 none 0) {q : RT Unit} (hQ : PV M mS V q)  : ∀ (n : Nat) (x1 : Int32)  (I : aI) (J : aJ), LX8_layFars_2   n x1 I J = some q → Wg M mS V 6 I J 2 [(0, .ref (V.2.2 0)), (1, .int x1)] [] := by
  intro n
  induction n with
  | zero => intro x1  I J hf; cases hf
  | succ n ih => intro x1  I J hf; exact wHX8_layFars_2  X hQ  (LX8_layFars_2   n) ih x1  I J hf
set_option maxRecDepth 4000 in
theorem wX8_layFars {M : MT} {V : VT} (X : Cx M mS V cX8_layFars 6 RX8 none 0) {q : RT Unit} (hQ : PV M mS V q)   (I : aI) (J : aJ) (hf : fX8_layFars  I J = some q) : Wg M mS V 6 I J 0 [(0, .ref (V.2.2 0))] [] := by
  unfold fX8_layFars at hf
  refine g_iconst X dX8_layFars_0 (v := 0) rfl ?_
  refine g_istore_n X dX8_layFars_1 (by decide) [(1, .int 0), (0, .ref (V.2.2 0))] rfl ?_
  refine g_sub [1, 0] rfl ?_
  exact wLX8_layFars_2  X hQ  128 0  I J hf
set_option maxRecDepth 4000 in
theorem cX8_layFars_ok (l : Launch) (V : VT)   (I : aI) (J : aJ) {q : RT Unit} (hf : fX8_layFars  I J = some q) : Met l yX8_layFars (.code yX8_layFars cX8_layFars 6 none :: GG) (rmD 0) (va_Pc [.ref (V.2.2 0)] (cQ mS V I J)) (QV mS V q) 0 0 (vAd mS V) :=
  met_V (by decide +kernel) rfl (Nat.le_of_ble_eq_true rfl) (fun _ _ X hQ => wX8_layFars X hQ   I J hf)
-- X8_letter
set_option maxRecDepth 4000 in
theorem wX8_letter {M : MT} {V : VT} (X : Cx M mS V cX8_letter 2 RX8 (some .int) 1) {q : RT Int32} (hQ : PI M mS V q) (x1 : Int32)  (I : aI) (J : aJ) (hf : fX8_letter x1 I J = some q) : Wg M mS V 2 I J 0 [(0, .ref (V.2.2 0)), (1, .int x1)] [] := by
  unfold fX8_letter at hf
  refine g_iload_n X dX8_letter_0 1 rfl ?_
  refine g_i2l X dX8_letter_1 ?_
  refine g_lconst X dX8_letter_2 (v := 1) rfl ?_
  refine g_ldc2 X dX8_letter_3 m_946 ?_
  obtain ⟨r1, I1, J1, hb1, hf⟩ := bnd_some hf
  refine g_callS X dX8_letter_6 sw_X8_92 (As := [.long (Int32.toInt64 x1), .long 1, .long 126]) rfl rfl (Nat.le_of_ble_eq_true rfl) (by decide) (cX8_in_ok  M.2.1 V (Int32.toInt64 x1) 1 126  I J hb1) (kI ?_)
  refine g_if_ne X dX8_letter_9 (tgt := 15) (by decide) (fun hc2 => ?_) (fun hc2 => ?_)
  · rw [if_neg hc2] at hf
    refine g_aload_n X dX8_letter_15 0 rfl ?_
    refine g_get X dX8_letter_16 okM_0 cl8 1 (by decide) m_819 rfl ?_
    refine g_bipush X dX8_letter_19 (v := 60) rfl ?_
    refine g_icmp_ne X dX8_letter_21 (tgt := 27) (by decide) (fun hc3 => ?_) (fun hc3 => ?_)
    · rw [if_neg hc3] at hf
      refine g_aload_n X dX8_letter_27 0 rfl ?_
      refine g_get X dX8_letter_28 okM_0 cl8 0 (by decide) m_818 rfl ?_
      refine g_aload_n X dX8_letter_31 0 rfl ?_
      refine g_get X dX8_letter_32 okM_0 cl8 1 (by decide) m_819 rfl ?_
      refine g_iload_n X dX8_letter_35 1 rfl ?_
      obtain ⟨hg4, hf⟩ := gd_some hf
      refine g_iastore X dX8_letter_36 okM_1 hg4 ?_
      refine g_aload_n X dX8_letter_37 0 rfl ?_
      refine g_dup X dX8_letter_38 rfl ?_
      refine g_get X dX8_letter_39 okM_0 cl8 1 (by decide) m_819 rfl ?_
      refine g_iconst X dX8_letter_42 (v := 1) rfl ?_
      refine g_iadd X dX8_letter_43 ?_
      refine g_putI X dX8_letter_44 okM_0 cl8 1 (by decide) m_819 rfl .int rfl rfl rfl (Nat.le_of_ble_eq_true rfl) (fun _ _ => rfl) ?_
      refine g_aload_n X dX8_letter_47 0 rfl ?_
      refine g_get X dX8_letter_48 okM_0 cl8 1 (by decide) m_819 rfl ?_
      cases hf
      exact g_ireturn X dX8_letter_51 hQ
    · rw [if_pos hc3] at hf
      refine g_bipush X dX8_letter_24 (v := (-104)) rfl ?_
      cases hf
      exact g_ireturn X dX8_letter_26 hQ
  · rw [if_pos hc2] at hf
    refine g_bipush X dX8_letter_12 (v := (-102)) rfl ?_
    cases hf
    exact g_ireturn X dX8_letter_14 hQ
set_option maxRecDepth 4000 in
theorem cX8_letter_ok (l : Launch) (V : VT) (x1 : Int32)  (I : aI) (J : aJ) {q : RT Int32} (hf : fX8_letter x1 I J = some q) : Met l yX8_letter (.code yX8_letter cX8_letter 2 (some .int) :: GG) (rmD 1) (va_Pc [.ref (V.2.2 0), .int x1] (cQ mS V I J)) (QI mS V q) 0 0 (vAd mS V) :=
  met_I (by decide +kernel) rfl (Nat.le_of_ble_eq_true rfl) (fun _ _ X hQ => wX8_letter X hQ x1  I J hf)
-- X8_odds
set_option maxRecDepth 4000 in
theorem wBX8_odds_45 {M : MT} {V : VT}  (X : Cx M mS V cX8_odds 4 RX8 (some .int) 3) {q : RT Int32} (hQ : PI M mS V q)  (s0 : Int32)  (I : aI) (J : aJ) (hf : BX8_odds_45   s0 I J = some q) : Wg M mS V 4 I J 45 [] [.int s0] := by
  unfold BX8_odds_45 at hf
  cases hf
  exact g_ireturn X dX8_odds_45 hQ
set_option maxRecDepth 4000 in
theorem wBX8_odds_43 {M : MT} {V : VT}  (X : Cx M mS V cX8_odds 4 RX8 (some .int) 3) {q : RT Int32} (hQ : PI M mS V q)    (I : aI) (J : aJ) (hf : BX8_odds_43    I J = some q) : Wg M mS V 4 I J 43 [] [] := by
  unfold BX8_odds_43 at hf
  refine g_bipush X dX8_odds_43 (v := (-102)) rfl ?_
  exact wBX8_odds_45  X hQ  (-102)  I J hf
set_option maxRecDepth 4000 in
theorem wX8_odds {M : MT} {V : VT} (X : Cx M mS V cX8_odds 4 RX8 (some .int) 3) {q : RT Int32} (hQ : PI M mS V q) (x1 : Int32) (x2 : Int32) (x3 : Int32)  (I : aI) (J : aJ) (hf : fX8_odds x1 x2 x3 I J = some q) : Wg M mS V 4 I J 0 [(0, .ref (V.2.2 0)), (1, .int x1), (2, .int x2), (3, .int x3)] [] := by
  unfold fX8_odds at hf
  refine g_aload_n X dX8_odds_0 0 rfl ?_
  refine g_iload_n X dX8_odds_1 1 rfl ?_
  obtain ⟨r1, I1, J1, hb1, hf⟩ := bnd_some hf
  refine g_callV X dX8_odds_2 cw_X8_175 (k := 0) (As := [.int x1]) (rcv okM_0 cl8) rfl rfl (Nat.le_of_ble_eq_true rfl) (by decide) (cX8_isPerson_ok  M.2.1 V x1  I J hb1) (kI ?_)
  refine g_if_ne X dX8_odds_5 (tgt := 11) (by decide) (fun hc2 => ?_) (fun hc2 => ?_)
  · rw [if_neg hc2] at hf
    refine g_iload_n X dX8_odds_11 2 rfl ?_
    refine g_i2l X dX8_odds_12 ?_
    refine g_lconst X dX8_odds_13 (v := 1) rfl ?_
    refine g_ldc2 X dX8_odds_14 m_1031 ?_
    obtain ⟨r3, I3, J3, hb3, hf⟩ := bnd_some hf
    refine g_callS X dX8_odds_17 sw_X8_92 (As := [.long (Int32.toInt64 x2), .long 1, .long 4]) rfl rfl (Nat.le_of_ble_eq_true rfl) (by decide) (cX8_in_ok  M.2.1 V (Int32.toInt64 x2) 1 4  I1 J1 hb3) (kI ?_)
    refine g_if_eq X dX8_odds_20 (tgt := 43) (by decide) (fun hc4 => ?_) (fun hc4 => ?_)
    · rw [if_pos hc4] at hf
      refine g_sub [] rfl ?_
      exact wBX8_odds_43  X hQ    I3 J3 hf
    · rw [if_neg hc4] at hf
      refine g_iload_n X dX8_odds_23 3 rfl ?_
      refine g_i2l X dX8_odds_24 ?_
      refine g_lconst X dX8_odds_25 (v := 0) rfl ?_
      refine g_lconst X dX8_odds_26 (v := 1) rfl ?_
      obtain ⟨r5, I5, J5, hb5, hf⟩ := bnd_some hf
      refine g_callS X dX8_odds_27 sw_X8_92 (As := [.long (Int32.toInt64 x3), .long 0, .long 1]) rfl rfl (Nat.le_of_ble_eq_true rfl) (by decide) (cX8_in_ok  M.2.1 V (Int32.toInt64 x3) 0 1  I3 J3 hb5) (kI ?_)
      refine g_if_eq X dX8_odds_30 (tgt := 43) (by decide) (fun hc6 => ?_) (fun hc6 => ?_)
      · rw [if_pos hc6] at hf
        refine g_sub [] rfl ?_
        exact wBX8_odds_43  X hQ    I5 J5 hf
      · rw [if_neg hc6] at hf
        refine g_aload_n X dX8_odds_33 0 rfl ?_
        refine g_iload_n X dX8_odds_34 1 rfl ?_
        refine g_iload_n X dX8_odds_35 2 rfl ?_
        refine g_iload_n X dX8_odds_36 3 rfl ?_
        obtain ⟨r7, I7, J7, hb7, hf⟩ := bnd_some hf
        refine g_callV X dX8_odds_37 cw_X8_247 (k := 0) (As := [.int x1, .int x2, .int x3]) (rcv okM_0 cl8) rfl rfl (Nat.le_of_ble_eq_true rfl) (by decide) (cX8_oddsOf_ok  M.2.1 V x1 x2 x3  I5 J5 hb7) (kI ?_)
        refine g_goto X dX8_odds_40 (tgt := 45) (by decide) ?_
        refine g_sub [] rfl ?_
        exact wBX8_odds_45  X hQ  r7  I7 J7 hf
  · rw [if_pos hc2] at hf
    refine g_bipush X dX8_odds_8 (v := (-101)) rfl ?_
    cases hf
    exact g_ireturn X dX8_odds_10 hQ
set_option maxRecDepth 4000 in
theorem cX8_odds_ok (l : Launch) (V : VT) (x1 : Int32) (x2 : Int32) (x3 : Int32)  (I : aI) (J : aJ) {q : RT Int32} (hf : fX8_odds x1 x2 x3 I J = some q) : Met l yX8_odds (.code yX8_odds cX8_odds 4 (some .int) :: GG) (rmD 3) (va_Pc [.ref (V.2.2 0), .int x1, .int x2, .int x3] (cQ mS V I J)) (QI mS V q) 0 0 (vAd mS V) :=
  met_I (by decide +kernel) rfl (Nat.le_of_ble_eq_true rfl) (fun _ _ X hQ => wX8_odds X hQ x1 x2 x3  I J hf)
-- X8_person
set_option maxRecDepth 4000 in
theorem wBX8_person_19 {M : MT} {V : VT}  (X : Cx M mS V cX8_person 3 RX8 (some .int) 3) {q : RT Int32} (hQ : PI M mS V q)  (s0 : Int32)  (I : aI) (J : aJ) (hf : BX8_person_19   s0 I J = some q) : Wg M mS V 3 I J 19 [] [.int s0] := by
  unfold BX8_person_19 at hf
  cases hf
  exact g_ireturn X dX8_person_19 hQ
set_option maxRecDepth 4000 in
theorem wX8_person {M : MT} {V : VT} (X : Cx M mS V cX8_person 3 RX8 (some .int) 3) {q : RT Int32} (hQ : PI M mS V q) (x1 : Int32) (x2 : Int32)  (I : aI) (J : aJ) (hf : fX8_person x1 x2 I J = some q) : Wg M mS V 3 I J 0 [(0, .ref (V.2.2 0)), (1, .int x1), (2, .int x2)] [] := by
  unfold fX8_person at hf
  refine g_aload_n X dX8_person_0 0 rfl ?_
  refine g_iload_n X dX8_person_1 1 rfl ?_
  obtain ⟨r1, I1, J1, hb1, hf⟩ := bnd_some hf
  refine g_callV X dX8_person_2 cw_X8_175 (k := 0) (As := [.int x1]) (rcv okM_0 cl8) rfl rfl (Nat.le_of_ble_eq_true rfl) (by decide) (cX8_isPerson_ok  M.2.1 V x1  I J hb1) (kI ?_)
  refine g_if_eq X dX8_person_5 (tgt := 17) (by decide) (fun hc2 => ?_) (fun hc2 => ?_)
  · rw [if_pos hc2] at hf
    refine g_bipush X dX8_person_17 (v := (-101)) rfl ?_
    refine g_sub [] rfl ?_
    exact wBX8_person_19  X hQ  (-101)  I1 J1 hf
  · rw [if_neg hc2] at hf
    refine g_aload_n X dX8_person_8 0 rfl ?_
    refine g_iload_n X dX8_person_9 1 rfl ?_
    refine g_iload_n X dX8_person_10 2 rfl ?_
    obtain ⟨r3, I3, J3, hb3, hf⟩ := bnd_some hf
    refine g_callV X dX8_person_11 cw_X8_178 (k := 0) (As := [.int x1, .int x2]) (rcv okM_0 cl8) rfl rfl (Nat.le_of_ble_eq_true rfl) (by decide) (cX8_tellPerson_ok  M.2.1 V x1 x2  I1 J1 hb3) (kI ?_)
    refine g_goto X dX8_person_14 (tgt := 19) (by decide) ?_
    refine g_sub [] rfl ?_
    exact wBX8_person_19  X hQ  r3  I3 J3 hf
set_option maxRecDepth 4000 in
theorem cX8_person_ok (l : Launch) (V : VT) (x1 : Int32) (x2 : Int32)  (I : aI) (J : aJ) {q : RT Int32} (hf : fX8_person x1 x2 I J = some q) : Met l yX8_person (.code yX8_person cX8_person 3 (some .int) :: GG) (rmD 3) (va_Pc [.ref (V.2.2 0), .int x1, .int x2] (cQ mS V I J)) (QI mS V q) 0 0 (vAd mS V) :=
  met_I (by decide +kernel) rfl (Nat.le_of_ble_eq_true rfl) (fun _ _ X hQ => wX8_person X hQ x1 x2  I J hf)
-- X8_places
set_option maxRecDepth 4000 in
theorem wBX8_places_16 {M : MT} {V : VT}  (X : Cx M mS V cX8_places 1 RX8 (some .int) 2) {q : RT Int32} (hQ : PI M mS V q)  (s0 : Int32)  (I : aI) (J : aJ) (hf : BX8_places_16   s0 I J = some q) : Wg M mS V 1 I J 16 [] [.int s0] := by
  unfold BX8_places_16 at hf
  cases hf
  exact g_ireturn X dX8_places_16 hQ
set_option maxRecDepth 4000 in
theorem wX8_places {M : MT} {V : VT} (X : Cx M mS V cX8_places 1 RX8 (some .int) 2) {q : RT Int32} (hQ : PI M mS V q)   (I : aI) (J : aJ) (hf : fX8_places  I J = some q) : Wg M mS V 1 I J 0 [(0, .ref (V.2.2 0))] [] := by
  unfold fX8_places at hf
  refine g_aload_n X dX8_places_0 0 rfl ?_
  obtain ⟨r1, I1, J1, hb1, hf⟩ := bnd_some hf
  refine g_callV X dX8_places_1 cw_X8_229 (k := 0) (As := []) (rcv okM_0 cl8) rfl rfl (Nat.le_of_ble_eq_true rfl) (by decide) (cX8_lacks_ok  M.2.1 V   I J hb1) (kI ?_)
  refine g_if_eq X dX8_places_4 (tgt := 12) (by decide) (fun hc2 => ?_) (fun hc2 => ?_)
  · rw [if_pos hc2] at hf
    refine g_aload_n X dX8_places_12 0 rfl ?_
    obtain ⟨r3, I3, J3, hb3, hf⟩ := bnd_some hf
    refine g_callV X dX8_places_13 cw_X8_253 (k := 0) (As := []) (rcv okM_0 cl8) rfl rfl (Nat.le_of_ble_eq_true rfl) (by decide) (cX8_placesOf_ok  M.2.1 V   I1 J1 hb3) (kI ?_)
    refine g_sub [] rfl ?_
    exact wBX8_places_16  X hQ  r3  I3 J3 hf
  · rw [if_neg hc2] at hf
    refine g_bipush X dX8_places_7 (v := (-103)) rfl ?_
    refine g_goto X dX8_places_9 (tgt := 16) (by decide) ?_
    refine g_sub [] rfl ?_
    exact wBX8_places_16  X hQ  (-103)  I1 J1 hf
set_option maxRecDepth 4000 in
theorem cX8_places_ok (l : Launch) (V : VT)   (I : aI) (J : aJ) {q : RT Int32} (hf : fX8_places  I J = some q) : Met l yX8_places (.code yX8_places cX8_places 1 (some .int) :: GG) (rmD 2) (va_Pc [.ref (V.2.2 0)] (cQ mS V I J)) (QI mS V q) 0 0 (vAd mS V) :=
  met_I (by decide +kernel) rfl (Nat.le_of_ble_eq_true rfl) (fun _ _ X hQ => wX8_places X hQ   I J hf)
-- X8_restore
set_option maxRecDepth 4000 in
theorem wX8_restore {M : MT} {V : VT} (X : Cx M mS V cX8_restore 1 RX8 (some .int) 1) {q : RT Int32} (hQ : PI M mS V q)   (I : aI) (J : aJ) (hf : fX8_restore  I J = some q) : Wg M mS V 1 I J 0 [(0, .ref (V.2.2 0))] [] := by
  unfold fX8_restore at hf
  refine g_aload_n X dX8_restore_0 0 rfl ?_
  refine g_get X dX8_restore_1 okM_0 cl8 30 (by decide) m_848 rfl ?_
  refine g_aload_n X dX8_restore_4 0 rfl ?_
  refine g_get X dX8_restore_5 okM_0 cl8 8 (by decide) m_826 rfl ?_
  refine g_icmp_eq X dX8_restore_8 (tgt := 14) (by decide) (fun hc1 => ?_) (fun hc1 => ?_)
  · rw [if_pos hc1] at hf
    refine g_aload_n X dX8_restore_14 0 rfl ?_
    refine g_get X dX8_restore_15 okM_0 cl8 34 (by decide) m_852 rfl ?_
    refine g_aload_n X dX8_restore_18 0 rfl ?_
    refine g_get X dX8_restore_19 okM_0 cl8 11 (by decide) m_829 rfl ?_
    obtain ⟨r2, I2, J2, hb2, hf⟩ := bnd_some hf
    refine g_callS X dX8_restore_22 sw_X8_155 (As := [.ref (V.2.2 20), .ref (V.2.2 4)]) rfl rfl (Nat.le_of_ble_eq_true rfl) (by decide) (cX8_copy_ok  M.2.1 V 20 6 4 6 okM_20 okM_4 I J hb2) (kV ?_)
    refine g_aload_n X dX8_restore_25 0 rfl ?_
    refine g_get X dX8_restore_26 okM_0 cl8 35 (by decide) m_853 rfl ?_
    refine g_aload_n X dX8_restore_29 0 rfl ?_
    refine g_get X dX8_restore_30 okM_0 cl8 13 (by decide) m_831 rfl ?_
    obtain ⟨r3, I3, J3, hb3, hf⟩ := bnd_some hf
    refine g_callS X dX8_restore_33 sw_X8_155 (As := [.ref (V.2.2 21), .ref (V.2.2 6)]) rfl rfl (Nat.le_of_ble_eq_true rfl) (by decide) (cX8_copy_ok  M.2.1 V 21 6 6 6 okM_21 okM_6 I2 J2 hb3) (kV ?_)
    refine g_aload_n X dX8_restore_36 0 rfl ?_
    refine g_get X dX8_restore_37 okM_0 cl8 36 (by decide) m_854 rfl ?_
    refine g_aload_n X dX8_restore_40 0 rfl ?_
    refine g_get X dX8_restore_41 okM_0 cl8 14 (by decide) m_832 rfl ?_
    obtain ⟨r4, I4, J4, hb4, hf⟩ := bnd_some hf
    refine g_callS X dX8_restore_44 sw_X8_155 (As := [.ref (V.2.2 22), .ref (V.2.2 7)]) rfl rfl (Nat.le_of_ble_eq_true rfl) (by decide) (cX8_copy_ok  M.2.1 V 22 6 7 6 okM_22 okM_7 I3 J3 hb4) (kV ?_)
    refine g_aload_n X dX8_restore_47 0 rfl ?_
    refine g_get X dX8_restore_48 okM_0 cl8 37 (by decide) m_855 rfl ?_
    refine g_aload_n X dX8_restore_51 0 rfl ?_
    refine g_get X dX8_restore_52 okM_0 cl8 15 (by decide) m_833 rfl ?_
    obtain ⟨r5, I5, J5, hb5, hf⟩ := bnd_some hf
    refine g_callS X dX8_restore_55 sw_X8_155 (As := [.ref (V.2.2 23), .ref (V.2.2 8)]) rfl rfl (Nat.le_of_ble_eq_true rfl) (by decide) (cX8_copy_ok  M.2.1 V 23 6 8 6 okM_23 okM_8 I4 J4 hb5) (kV ?_)
    refine g_aload_n X dX8_restore_58 0 rfl ?_
    refine g_get X dX8_restore_59 okM_0 cl8 38 (by decide) m_856 rfl ?_
    refine g_aload_n X dX8_restore_62 0 rfl ?_
    refine g_get X dX8_restore_63 okM_0 cl8 16 (by decide) m_834 rfl ?_
    obtain ⟨r6, I6, J6, hb6, hf⟩ := bnd_some hf
    refine g_callS X dX8_restore_66 sw_X8_155 (As := [.ref (V.2.2 24), .ref (V.2.2 9)]) rfl rfl (Nat.le_of_ble_eq_true rfl) (by decide) (cX8_copy_ok  M.2.1 V 24 6 9 6 okM_24 okM_9 I5 J5 hb6) (kV ?_)
    refine g_aload_n X dX8_restore_69 0 rfl ?_
    refine g_get X dX8_restore_70 okM_0 cl8 39 (by decide) m_857 rfl ?_
    refine g_aload_n X dX8_restore_73 0 rfl ?_
    refine g_get X dX8_restore_74 okM_0 cl8 28 (by decide) m_846 rfl ?_
    obtain ⟨r7, I7, J7, hb7, hf⟩ := bnd_some hf
    refine g_callS X dX8_restore_77 sw_X8_155 (As := [.ref (V.2.2 25), .ref (V.2.2 19)]) rfl rfl (Nat.le_of_ble_eq_true rfl) (by decide) (cX8_copy_ok  M.2.1 V 25 12 19 12 okM_25 okM_19 I6 J6 hb7) (kV ?_)
    refine g_aload_n X dX8_restore_80 0 rfl ?_
    refine g_aload_n X dX8_restore_81 0 rfl ?_
    refine g_get X dX8_restore_82 okM_0 cl8 31 (by decide) m_849 rfl ?_
    refine g_putI X dX8_restore_85 okM_0 cl8 6 (by decide) m_824 rfl .int rfl rfl rfl (Nat.le_of_ble_eq_true rfl) (fun _ _ => rfl) ?_
    refine g_aload_n X dX8_restore_88 0 rfl ?_
    refine g_aload_n X dX8_restore_89 0 rfl ?_
    refine g_get X dX8_restore_90 okM_0 cl8 32 (by decide) m_850 rfl ?_
    refine g_putI X dX8_restore_93 okM_0 cl8 7 (by decide) m_825 rfl .int rfl rfl rfl (Nat.le_of_ble_eq_true rfl) (fun _ _ => rfl) ?_
    refine g_aload_n X dX8_restore_96 0 rfl ?_
    refine g_aload_n X dX8_restore_97 0 rfl ?_
    refine g_get X dX8_restore_98 okM_0 cl8 33 (by decide) m_851 rfl ?_
    refine g_putI X dX8_restore_101 okM_0 cl8 27 (by decide) m_845 rfl .int rfl rfl rfl (Nat.le_of_ble_eq_true rfl) (fun _ _ => rfl) ?_
    refine g_aload_n X dX8_restore_104 0 rfl ?_
    refine g_get X dX8_restore_105 okM_0 cl8 7 (by decide) m_825 rfl ?_
    cases hf
    exact g_ireturn X dX8_restore_108 hQ
  · rw [if_neg hc1] at hf
    refine g_bipush X dX8_restore_11 (v := (-103)) rfl ?_
    cases hf
    exact g_ireturn X dX8_restore_13 hQ
set_option maxRecDepth 4000 in
theorem cX8_restore_ok (l : Launch) (V : VT)   (I : aI) (J : aJ) {q : RT Int32} (hf : fX8_restore  I J = some q) : Met l yX8_restore (.code yX8_restore cX8_restore 1 (some .int) :: GG) (rmD 1) (va_Pc [.ref (V.2.2 0)] (cQ mS V I J)) (QI mS V q) 0 0 (vAd mS V) :=
  met_I (by decide +kernel) rfl (Nat.le_of_ble_eq_true rfl) (fun _ _ X hQ => wX8_restore X hQ   I J hf)
-- X8_road
set_option maxRecDepth 4000 in
theorem wBX8_road_51 {M : MT} {V : VT}  (X : Cx M mS V cX8_road 3 RX8 (some .int) 1) {q : RT Int32} (hQ : PI M mS V q)  (s0 : Int32)  (I : aI) (J : aJ) (hf : BX8_road_51   s0 I J = some q) : Wg M mS V 3 I J 51 [] [.int s0] := by
  unfold BX8_road_51 at hf
  cases hf
  exact g_ireturn X dX8_road_51 hQ
set_option maxRecDepth 4000 in
theorem wX8_road {M : MT} {V : VT} (X : Cx M mS V cX8_road 3 RX8 (some .int) 1) {q : RT Int32} (hQ : PI M mS V q) (x1 : Int32) (x2 : Int32)  (I : aI) (J : aJ) (hf : fX8_road x1 x2 I J = some q) : Wg M mS V 3 I J 0 [(0, .ref (V.2.2 0)), (1, .int x1), (2, .int x2)] [] := by
  unfold fX8_road at hf
  refine g_iload_n X dX8_road_0 1 rfl ?_
  refine g_i2l X dX8_road_1 ?_
  refine g_lconst X dX8_road_2 (v := 0) rfl ?_
  refine g_aload_n X dX8_road_3 0 rfl ?_
  refine g_get X dX8_road_4 okM_0 cl8 4 (by decide) m_822 rfl ?_
  refine g_iconst X dX8_road_7 (v := 1) rfl ?_
  refine g_isub X dX8_road_8 ?_
  refine g_i2l X dX8_road_9 ?_
  obtain ⟨r1, I1, J1, hb1, hf⟩ := bnd_some hf
  refine g_callS X dX8_road_10 sw_X8_92 (As := [.long (Int32.toInt64 x1), .long 0, .long (Int32.toInt64 ((I 0 4) - 1))]) rfl rfl (Nat.le_of_ble_eq_true rfl) (by decide) (cX8_in_ok  M.2.1 V (Int32.toInt64 x1) 0 (Int32.toInt64 ((I 0 4) - 1))  I J hb1) (kI ?_)
  refine g_if_ne X dX8_road_13 (tgt := 19) (by decide) (fun hc2 => ?_) (fun hc2 => ?_)
  · rw [if_neg hc2] at hf
    refine g_iload_n X dX8_road_19 2 rfl ?_
    refine g_i2l X dX8_road_20 ?_
    refine g_lconst X dX8_road_21 (v := 0) rfl ?_
    refine g_lconst X dX8_road_22 (v := 1) rfl ?_
    obtain ⟨r3, I3, J3, hb3, hf⟩ := bnd_some hf
    refine g_callS X dX8_road_23 sw_X8_92 (As := [.long (Int32.toInt64 x2), .long 0, .long 1]) rfl rfl (Nat.le_of_ble_eq_true rfl) (by decide) (cX8_in_ok  M.2.1 V (Int32.toInt64 x2) 0 1  I1 J1 hb3) (kI ?_)
    refine g_if_ne X dX8_road_26 (tgt := 32) (by decide) (fun hc4 => ?_) (fun hc4 => ?_)
    · rw [if_neg hc4] at hf
      refine g_iload_n X dX8_road_32 2 rfl ?_
      refine g_if_ne X dX8_road_33 (tgt := 45) (by decide) (fun hc5 => ?_) (fun hc5 => ?_)
      · rw [if_neg hc5] at hf
        refine g_aload_n X dX8_road_45 0 rfl ?_
        refine g_get X dX8_road_46 okM_0 cl8 10 (by decide) m_828 rfl ?_
        refine g_iload_n X dX8_road_49 1 rfl ?_
        obtain ⟨hg6, hf⟩ := gd_some hf
        refine g_iaload X dX8_road_50 okM_3 hg6 ?_
        refine g_sub [] rfl ?_
        exact wBX8_road_51  X hQ  (I3 3 (Int32.toNatClampNeg x1))  I3 J3 hf
      · rw [if_pos hc5] at hf
        refine g_aload_n X dX8_road_36 0 rfl ?_
        refine g_get X dX8_road_37 okM_0 cl8 9 (by decide) m_827 rfl ?_
        refine g_iload_n X dX8_road_40 1 rfl ?_
        obtain ⟨hg7, hf⟩ := gd_some hf
        refine g_iaload X dX8_road_41 okM_2 hg7 ?_
        refine g_goto X dX8_road_42 (tgt := 51) (by decide) ?_
        refine g_sub [] rfl ?_
        exact wBX8_road_51  X hQ  (I3 2 (Int32.toNatClampNeg x1))  I3 J3 hf
    · rw [if_pos hc4] at hf
      refine g_bipush X dX8_road_29 (v := (-102)) rfl ?_
      cases hf
      exact g_ireturn X dX8_road_31 hQ
  · rw [if_pos hc2] at hf
    refine g_bipush X dX8_road_16 (v := (-101)) rfl ?_
    cases hf
    exact g_ireturn X dX8_road_18 hQ
set_option maxRecDepth 4000 in
theorem cX8_road_ok (l : Launch) (V : VT) (x1 : Int32) (x2 : Int32)  (I : aI) (J : aJ) {q : RT Int32} (hf : fX8_road x1 x2 I J = some q) : Met l yX8_road (.code yX8_road cX8_road 3 (some .int) :: GG) (rmD 1) (va_Pc [.ref (V.2.2 0), .int x1, .int x2] (cQ mS V I J)) (QI mS V q) 0 0 (vAd mS V) :=
  met_I (by decide +kernel) rfl (Nat.le_of_ble_eq_true rfl) (fun _ _ X hQ => wX8_road X hQ x1 x2  I J hf)
-- X8_worthOf
set_option maxRecDepth 4000 in
theorem wBX8_worthOf_118 {M : MT} {V : VT}  (X : Cx M mS V cX8_worthOf 7 RX8 (some .int) 2) {q : RT Int32} (hQ : PI M mS V q) (k86 : Int32 → Int32 → aI → aJ → Option (RT Int32)) (hk86 : ∀ (x4 : Int32) (x5 : Int32)  (I : aI) (J : aJ), k86 x4 x5 I J = some q → Wg M mS V 7 I J 86 [(0, .ref (V.2.2 0)), (4, .int x4), (5, .int x5)] []) (x5 : Int32) (s0 : Int32) (s1 : Int32)  (I : aI) (J : aJ) (hf : BX8_worthOf_118  k86 x5 s0 s1 I J = some q) : Wg M mS V 7 I J 118 [(0, .ref (V.2.2 0)), (5, .int x5)] [.int s0, .int s1] := by
  unfold BX8_worthOf_118 at hf
  refine g_iadd X dX8_worthOf_118 ?_
  refine g_istore X dX8_worthOf_119 (by decide) [(4, .int (s1 + s0)), (0, .ref (V.2.2 0)), (5, .int x5)] rfl ?_
  refine g_iinc X dX8_worthOf_121 2 rfl 1 rfl (by decide) [(5, .int (x5 + 1)), (4, .int (s1 + s0)), (0, .ref (V.2.2 0))] rfl ?_
  refine g_goto X dX8_worthOf_124 (tgt := 86) (by decide) ?_
  refine g_sub [2, 1, 0] rfl ?_
  exact hk86 (s1 + s0) (x5 + 1)  I J hf
set_option maxRecDepth 4000 in
theorem wHX8_worthOf_86 {M : MT} {V : VT}  (X : Cx M mS V cX8_worthOf 7 RX8 (some .int) 2) {q : RT Int32} (hQ : PI M mS V q) (k86 : Int32 → Int32 → aI → aJ → Option (RT Int32)) (hk86 : ∀ (x4 : Int32) (x5 : Int32)  (I : aI) (J : aJ), k86 x4 x5 I J = some q → Wg M mS V 7 I J 86 [(0, .ref (V.2.2 0)), (4, .int x4), (5, .int x5)] []) (x4 : Int32) (x5 : Int32)  (I : aI) (J : aJ) (hf : HX8_worthOf_86  k86 x4 x5 I J = some q) : Wg M mS V 7 I J 86 [(0, .ref (V.2.2 0)), (4, .int x4), (5, .int x5)] [] := by
  unfold HX8_worthOf_86 at hf
  refine g_iload X dX8_worthOf_86 2 rfl ?_
  refine g_aload_n X dX8_worthOf_88 0 rfl ?_
  refine g_get X dX8_worthOf_89 okM_0 cl8 5 (by decide) m_823 rfl ?_
  refine g_icmp_ge X dX8_worthOf_92 (tgt := 127) (by decide) (fun hc8 => ?_) (fun hc8 => ?_)
  · rw [if_pos hc8] at hf
    refine g_iload X dX8_worthOf_127 1 rfl ?_
    cases hf
    exact g_ireturn X dX8_worthOf_129 hQ
  · rw [if_neg hc8] at hf
    refine g_iload X dX8_worthOf_95 1 rfl ?_
    refine g_aload_n X dX8_worthOf_97 0 rfl ?_
    refine g_get X dX8_worthOf_98 okM_0 cl8 19 (by decide) m_837 rfl ?_
    refine g_iload X dX8_worthOf_101 2 rfl ?_
    obtain ⟨hg9, hf⟩ := gd_some hf
    refine g_iaload X dX8_worthOf_103 okM_12 hg9 ?_
    refine g_if_ne X dX8_worthOf_104 (tgt := 117) (by decide) (fun hc10 => ?_) (fun hc10 => ?_)
    · rw [if_neg hc10] at hf
      refine g_iconst X dX8_worthOf_117 (v := 0) rfl ?_
      refine g_sub [0, 2] rfl ?_
      exact wBX8_worthOf_118  X hQ k86 hk86 x5 0 x4  I J hf
    · rw [if_pos hc10] at hf
      refine g_aload_n X dX8_worthOf_107 0 rfl ?_
      refine g_get X dX8_worthOf_108 okM_0 cl8 18 (by decide) m_836 rfl ?_
      refine g_iload X dX8_worthOf_111 2 rfl ?_
      refine g_iaload X dX8_worthOf_113 okM_11 hg9 ?_
      refine g_goto X dX8_worthOf_114 (tgt := 118) (by decide) ?_
      refine g_sub [0, 2] rfl ?_
      exact wBX8_worthOf_118  X hQ k86 hk86 x5 (I 11 (Int32.toNatClampNeg x5)) x4  I J hf
set_option maxRecDepth 4000 in
theorem wLX8_worthOf_86 {M : MT} {V : VT}  (X : Cx M mS V cX8_worthOf 7 RX8 (some .int) 2) {q : RT Int32} (hQ : PI M mS V q)  : ∀ (n : Nat) (x4 : Int32) (x5 : Int32)  (I : aI) (J : aJ), LX8_worthOf_86   n x4 x5 I J = some q → Wg M mS V 7 I J 86 [(0, .ref (V.2.2 0)), (4, .int x4), (5, .int x5)] [] := by
  intro n
  induction n with
  | zero => intro x4 x5  I J hf; cases hf
  | succ n ih => intro x4 x5  I J hf; exact wHX8_worthOf_86  X hQ  (LX8_worthOf_86   n) ih x4 x5  I J hf
set_option maxRecDepth 4000 in
theorem wBX8_worthOf_49 {M : MT} {V : VT}  (X : Cx M mS V cX8_worthOf 7 RX8 (some .int) 2) {q : RT Int32} (hQ : PI M mS V q)    (I : aI) (J : aJ) (hf : BX8_worthOf_49    I J = some q) : Wg M mS V 7 I J 49 [] [] := by
  unfold BX8_worthOf_49 at hf
  refine g_iconst X dX8_worthOf_49 (v := (-1)) rfl ?_
  cases hf
  exact g_ireturn X dX8_worthOf_50 hQ
set_option maxRecDepth 4000 in
theorem wHX8_worthOf_15 {M : MT} {V : VT}  (X : Cx M mS V cX8_worthOf 7 RX8 (some .int) 2) {q : RT Int32} (hQ : PI M mS V q) (k15 : Int32 → Int32 → Int32 → Int32 → Int32 → aI → aJ → Option (RT Int32)) (hk15 : ∀ (x1 : Int32) (x2 : Int32) (x3 : Int32) (x4 : Int32) (x5 : Int32)  (I : aI) (J : aJ), k15 x1 x2 x3 x4 x5 I J = some q → Wg M mS V 7 I J 15 [(0, .ref (V.2.2 0)), (1, .int x1), (2, .int x2), (3, .int x3), (4, .int x4), (5, .int x5)] []) (x1 : Int32) (x2 : Int32) (x3 : Int32) (x4 : Int32) (x5 : Int32)  (I : aI) (J : aJ) (hf : HX8_worthOf_15  k15 x1 x2 x3 x4 x5 I J = some q) : Wg M mS V 7 I J 15 [(0, .ref (V.2.2 0)), (1, .int x1), (2, .int x2), (3, .int x3), (4, .int x4), (5, .int x5)] [] := by
  unfold HX8_worthOf_15 at hf
  refine g_iload X dX8_worthOf_15 5 rfl ?_
  refine g_iload_n X dX8_worthOf_17 2 rfl ?_
  refine g_icmp_ge X dX8_worthOf_18 (tgt := 83) (by decide) (fun hc2 => ?_) (fun hc2 => ?_)
  · rw [if_pos hc2] at hf
    refine g_iconst X dX8_worthOf_83 (v := 0) rfl ?_
    refine g_istore X dX8_worthOf_84 (by decide) [(5, .int 0), (0, .ref (V.2.2 0)), (1, .int x1), (2, .int x2), (3, .int x3), (4, .int x4)] rfl ?_
    refine g_sub [1, 5, 0] rfl ?_
    exact wLX8_worthOf_86  X hQ  128 x4 0  I J hf
  · rw [if_neg hc2] at hf
    refine g_iload_n X dX8_worthOf_21 1 rfl ?_
    refine g_iload_n X dX8_worthOf_22 2 rfl ?_
    refine g_iload X dX8_worthOf_23 5 rfl ?_
    obtain ⟨r3, I3, J3, hb3, hf⟩ := bnd_some hf
    refine g_callS X dX8_worthOf_25 sw_X8_216 (As := [.int x1, .int x2, .int x5]) rfl rfl (Nat.le_of_ble_eq_true rfl) (by decide) (cX8_figure_ok  M.2.1 V x1 x2 x5  I J hb3) (kI ?_)
    refine g_istore X dX8_worthOf_28 (by decide) [(6, .int r3), (0, .ref (V.2.2 0)), (1, .int x1), (2, .int x2), (3, .int x3), (4, .int x4), (5, .int x5)] rfl ?_
    refine g_iload X dX8_worthOf_30 0 rfl ?_
    refine g_aload_n X dX8_worthOf_32 1 rfl ?_
    refine g_get X dX8_worthOf_33 okM_0 cl8 3 (by decide) m_821 rfl ?_
    refine g_icmp_ge X dX8_worthOf_36 (tgt := 49) (by decide) (fun hc4 => ?_) (fun hc4 => ?_)
    · rw [if_pos hc4] at hf
      refine g_sub [] rfl ?_
      exact wBX8_worthOf_49  X hQ    I3 J3 hf
    · rw [if_neg hc4] at hf
      refine g_aload_n X dX8_worthOf_39 1 rfl ?_
      refine g_iload_n X dX8_worthOf_40 4 rfl ?_
      refine g_iload X dX8_worthOf_41 0 rfl ?_
      obtain ⟨r5, I5, J5, hb5, hf⟩ := bnd_some hf
      refine g_callV X dX8_worthOf_43 cw_X8_166 (k := 0) (As := [.int x3, .int r3]) (rcv okM_0 cl8) rfl rfl (Nat.le_of_ble_eq_true rfl) (by decide) (cX8_isNext_ok  M.2.1 V x3 r3  I3 J3 hb5) (kI ?_)
      refine g_if_ne X dX8_worthOf_46 (tgt := 51) (by decide) (fun hc6 => ?_) (fun hc6 => ?_)
      · rw [if_neg hc6] at hf
        refine g_iload X dX8_worthOf_51 5 rfl ?_
        refine g_bipush X dX8_worthOf_53 (v := 100) rfl ?_
        refine g_aload_n X dX8_worthOf_55 1 rfl ?_
        refine g_iload X dX8_worthOf_56 0 rfl ?_
        refine g_aload_n X dX8_worthOf_58 1 rfl ?_
        refine g_get X dX8_worthOf_59 okM_0 cl8 7 (by decide) m_825 rfl ?_
        refine g_iload X dX8_worthOf_62 6 rfl ?_
        refine g_iadd X dX8_worthOf_64 ?_
        refine g_iconst X dX8_worthOf_65 (v := 1) rfl ?_
        refine g_iadd X dX8_worthOf_66 ?_
        obtain ⟨r7, I7, J7, hb7, hf⟩ := bnd_some hf
        refine g_callV X dX8_worthOf_67 cw_X8_211 (k := 0) (As := [.int r3, .int (((I5 0 7) + x5) + 1)]) (rcv okM_0 cl8) rfl rfl (Nat.le_of_ble_eq_true rfl) (by decide) (cX8_goThen_ok  M.2.1 V r3 (((I5 0 7) + x5) + 1)  I5 J5 hb7) (kI ?_)
        refine g_imul X dX8_worthOf_70 ?_
        refine g_iadd X dX8_worthOf_71 ?_
        refine g_istore X dX8_worthOf_72 (by decide) [(4, .int (x4 + (100 * r7))), (6, .int r3), (0, .ref (V.2.2 0)), (1, .int x1), (2, .int x2), (3, .int x3), (5, .int x5)] rfl ?_
        refine g_iload X dX8_worthOf_74 1 rfl ?_
        refine g_istore_n X dX8_worthOf_76 (by decide) [(3, .int r3), (4, .int (x4 + (100 * r7))), (6, .int r3), (0, .ref (V.2.2 0)), (1, .int x1), (2, .int x2), (5, .int x5)] rfl ?_
        refine g_iinc X dX8_worthOf_77 6 rfl 1 rfl (by decide) [(5, .int (x5 + 1)), (3, .int r3), (4, .int (x4 + (100 * r7))), (6, .int r3), (0, .ref (V.2.2 0)), (1, .int x1), (2, .int x2)] rfl ?_
        refine g_goto X dX8_worthOf_80 (tgt := 15) (by decide) ?_
        refine g_sub [4, 5, 6, 1, 2, 0] rfl ?_
        exact hk15 x1 x2 r3 (x4 + (100 * r7)) (x5 + 1)  I7 J7 hf
      · rw [if_pos hc6] at hf
        refine g_sub [] rfl ?_
        exact wBX8_worthOf_49  X hQ    I5 J5 hf
set_option maxRecDepth 4000 in
theorem wLX8_worthOf_15 {M : MT} {V : VT}  (X : Cx M mS V cX8_worthOf 7 RX8 (some .int) 2) {q : RT Int32} (hQ : PI M mS V q)  : ∀ (n : Nat) (x1 : Int32) (x2 : Int32) (x3 : Int32) (x4 : Int32) (x5 : Int32)  (I : aI) (J : aJ), LX8_worthOf_15   n x1 x2 x3 x4 x5 I J = some q → Wg M mS V 7 I J 15 [(0, .ref (V.2.2 0)), (1, .int x1), (2, .int x2), (3, .int x3), (4, .int x4), (5, .int x5)] [] := by
  intro n
  induction n with
  | zero => intro x1 x2 x3 x4 x5  I J hf; cases hf
  | succ n ih => intro x1 x2 x3 x4 x5  I J hf; exact wHX8_worthOf_15  X hQ  (LX8_worthOf_15   n) ih x1 x2 x3 x4 x5  I J hf
set_option maxRecDepth 4000 in
theorem wX8_worthOf {M : MT} {V : VT} (X : Cx M mS V cX8_worthOf 7 RX8 (some .int) 2) {q : RT Int32} (hQ : PI M mS V q) (x1 : Int32) (x2 : Int32)  (I : aI) (J : aJ) (hf : fX8_worthOf x1 x2 I J = some q) : Wg M mS V 7 I J 0 [(0, .ref (V.2.2 0)), (1, .int x1), (2, .int x2)] [] := by
  unfold fX8_worthOf at hf
  refine g_aload_n X dX8_worthOf_0 0 rfl ?_
  obtain ⟨r1, I1, J1, hb1, hf⟩ := bnd_some hf
  refine g_callV X dX8_worthOf_1 cw_X8_208 (k := 0) (As := []) (rcv okM_0 cl8) rfl rfl (Nat.le_of_ble_eq_true rfl) (by decide) (cX8_begin_ok  M.2.1 V   I J hb1) (kV ?_)
  refine g_aload_n X dX8_worthOf_4 0 rfl ?_
  refine g_get X dX8_worthOf_5 okM_0 cl8 6 (by decide) m_824 rfl ?_
  refine g_istore_n X dX8_worthOf_8 (by decide) [(3, .int (I1 0 6)), (0, .ref (V.2.2 0)), (1, .int x1), (2, .int x2)] rfl ?_
  refine g_iconst X dX8_worthOf_9 (v := 0) rfl ?_
  refine g_istore X dX8_worthOf_10 (by decide) [(4, .int 0), (3, .int (I1 0 6)), (0, .ref (V.2.2 0)), (1, .int x1), (2, .int x2)] rfl ?_
  refine g_iconst X dX8_worthOf_12 (v := 0) rfl ?_
  refine g_istore X dX8_worthOf_13 (by decide) [(5, .int 0), (4, .int 0), (3, .int (I1 0 6)), (0, .ref (V.2.2 0)), (1, .int x1), (2, .int x2)] rfl ?_
  refine g_sub [3, 4, 5, 2, 1, 0] rfl ?_
  exact wLX8_worthOf_15  X hQ  128 x1 x2 (I1 0 6) 0 0  I1 J1 hf
set_option maxRecDepth 4000 in
theorem cX8_worthOf_ok (l : Launch) (V : VT) (x1 : Int32) (x2 : Int32)  (I : aI) (J : aJ) {q : RT Int32} (hf : fX8_worthOf x1 x2 I J = some q) : Met l yX8_worthOf (.code yX8_worthOf cX8_worthOf 7 (some .int) :: GG) (rmD 2) (va_Pc [.ref (V.2.2 0), .int x1, .int x2] (cQ mS V I J)) (QI mS V q) 0 0 (vAd mS V) :=
  met_I (by decide +kernel) rfl (Nat.le_of_ble_eq_true rfl) (fun _ _ X hQ => wX8_worthOf X hQ x1 x2  I J hf)
-- X8_roundOf
set_option maxRecDepth 4000 in
theorem wBX8_roundOf_129 {M : MT} {V : VT}  (X : Cx M mS V cX8_roundOf 8 RX8 (some .int) 3) {q : RT Int32} (hQ : PI M mS V q)  (s0 : Int32)  (I : aI) (J : aJ) (hf : BX8_roundOf_129   s0 I J = some q) : Wg M mS V 8 I J 129 [] [.int s0] := by
  unfold BX8_roundOf_129 at hf
  cases hf
  exact g_ireturn X dX8_roundOf_129 hQ
set_option maxRecDepth 4000 in
theorem wBX8_roundOf_106 {M : MT} {V : VT}  (X : Cx M mS V cX8_roundOf 8 RX8 (some .int) 3) {q : RT Int32} (hQ : PI M mS V q)  (s0 : Int32)  (I : aI) (J : aJ) (hf : BX8_roundOf_106   s0 I J = some q) : Wg M mS V 8 I J 106 [] [.int s0] := by
  unfold BX8_roundOf_106 at hf
  cases hf
  exact g_ireturn X dX8_roundOf_106 hQ
set_option maxRecDepth 4000 in
theorem wBX8_roundOf_76 {M : MT} {V : VT}  (X : Cx M mS V cX8_roundOf 8 RX8 (some .int) 3) {q : RT Int32} (hQ : PI M mS V q) (k31 : Int32 → Int32 → Int32 → Int32 → Int32 → Int32 → aI → aJ → Option (RT Int32)) (hk31 : ∀ (x1 : Int32) (x2 : Int32) (x3 : Int32) (x4 : Int32) (x5 : Int32) (x6 : Int32)  (I : aI) (J : aJ), k31 x1 x2 x3 x4 x5 x6 I J = some q → Wg M mS V 8 I J 31 [(0, .ref (V.2.2 0)), (1, .int x1), (2, .int x2), (3, .int x3), (4, .int x4), (5, .int x5), (6, .int x6)] []) (x1 : Int32) (x2 : Int32) (x3 : Int32) (x4 : Int32) (x6 : Int32) (s0 : Int32)  (I : aI) (J : aJ) (hf : BX8_roundOf_76  k31 x1 x2 x3 x4 x6 s0 I J = some q) : Wg M mS V 8 I J 76 [(0, .ref (V.2.2 0)), (1, .int x1), (2, .int x2), (3, .int x3), (4, .int x4), (6, .int x6)] [.int s0] := by
  unfold BX8_roundOf_76 at hf
  refine g_istore X dX8_roundOf_76 (by decide) [(5, .int s0), (0, .ref (V.2.2 0)), (1, .int x1), (2, .int x2), (3, .int x3), (4, .int x4), (6, .int x6)] rfl ?_
  refine g_iinc X dX8_roundOf_78 6 rfl 1 rfl (by decide) [(6, .int (x6 + 1)), (5, .int s0), (0, .ref (V.2.2 0)), (1, .int x1), (2, .int x2), (3, .int x3), (4, .int x4)] rfl ?_
  refine g_goto X dX8_roundOf_81 (tgt := 31) (by decide) ?_
  refine g_sub [2, 3, 4, 5, 6, 1, 0] rfl ?_
  exact hk31 x1 x2 x3 x4 s0 (x6 + 1)  I J hf
set_option maxRecDepth 4000 in
theorem wBX8_roundOf_60 {M : MT} {V : VT}  (X : Cx M mS V cX8_roundOf 8 RX8 (some .int) 3) {q : RT Int32} (hQ : PI M mS V q) (k31 : Int32 → Int32 → Int32 → Int32 → Int32 → Int32 → aI → aJ → Option (RT Int32)) (hk31 : ∀ (x1 : Int32) (x2 : Int32) (x3 : Int32) (x4 : Int32) (x5 : Int32) (x6 : Int32)  (I : aI) (J : aJ), k31 x1 x2 x3 x4 x5 x6 I J = some q → Wg M mS V 8 I J 31 [(0, .ref (V.2.2 0)), (1, .int x1), (2, .int x2), (3, .int x3), (4, .int x4), (5, .int x5), (6, .int x6)] []) (x1 : Int32) (x2 : Int32) (x3 : Int32) (x5 : Int32) (x6 : Int32) (x7 : Int32) (s0 : Int32)  (I : aI) (J : aJ) (hf : BX8_roundOf_60  k31 x1 x2 x3 x5 x6 x7 s0 I J = some q) : Wg M mS V 8 I J 60 [(0, .ref (V.2.2 0)), (1, .int x1), (2, .int x2), (3, .int x3), (5, .int x5), (6, .int x6), (7, .int x7)] [.int s0] := by
  unfold BX8_roundOf_60 at hf
  refine g_istore X dX8_roundOf_60 (by decide) [(4, .int s0), (0, .ref (V.2.2 0)), (1, .int x1), (2, .int x2), (3, .int x3), (5, .int x5), (6, .int x6), (7, .int x7)] rfl ?_
  refine g_iload X dX8_roundOf_62 7 rfl ?_
  refine g_iload X dX8_roundOf_64 5 rfl ?_
  refine g_icmp_le X dX8_roundOf_66 (tgt := 74) (by decide) (fun hc9 => ?_) (fun hc9 => ?_)
  · rw [if_pos hc9] at hf
    refine g_iload X dX8_roundOf_74 5 rfl ?_
    refine g_sub [1, 2, 3, 4, 0, 6] rfl ?_
    exact wBX8_roundOf_76  X hQ k31 hk31 x1 x2 x3 s0 x6 x5  I J hf
  · rw [if_neg hc9] at hf
    refine g_iload X dX8_roundOf_69 7 rfl ?_
    refine g_goto X dX8_roundOf_71 (tgt := 76) (by decide) ?_
    refine g_sub [1, 2, 3, 4, 0, 6] rfl ?_
    exact wBX8_roundOf_76  X hQ k31 hk31 x1 x2 x3 s0 x6 x7  I J hf
set_option maxRecDepth 4000 in
theorem wHX8_roundOf_31 {M : MT} {V : VT}  (X : Cx M mS V cX8_roundOf 8 RX8 (some .int) 3) {q : RT Int32} (hQ : PI M mS V q) (k31 : Int32 → Int32 → Int32 → Int32 → Int32 → Int32 → aI → aJ → Option (RT Int32)) (hk31 : ∀ (x1 : Int32) (x2 : Int32) (x3 : Int32) (x4 : Int32) (x5 : Int32) (x6 : Int32)  (I : aI) (J : aJ), k31 x1 x2 x3 x4 x5 x6 I J = some q → Wg M mS V 8 I J 31 [(0, .ref (V.2.2 0)), (1, .int x1), (2, .int x2), (3, .int x3), (4, .int x4), (5, .int x5), (6, .int x6)] []) (x1 : Int32) (x2 : Int32) (x3 : Int32) (x4 : Int32) (x5 : Int32) (x6 : Int32)  (I : aI) (J : aJ) (hf : HX8_roundOf_31  k31 x1 x2 x3 x4 x5 x6 I J = some q) : Wg M mS V 8 I J 31 [(0, .ref (V.2.2 0)), (1, .int x1), (2, .int x2), (3, .int x3), (4, .int x4), (5, .int x5), (6, .int x6)] [] := by
  unfold HX8_roundOf_31 at hf
  refine g_iload X dX8_roundOf_31 6 rfl ?_
  refine g_iload_n X dX8_roundOf_33 3 rfl ?_
  refine g_icmp_ge X dX8_roundOf_34 (tgt := 84) (by decide) (fun hc2 => ?_) (fun hc2 => ?_)
  · rw [if_pos hc2] at hf
    refine g_iload_n X dX8_roundOf_84 2 rfl ?_
    refine g_iconst X dX8_roundOf_85 (v := 2) rfl ?_
    refine g_icmp_ge X dX8_roundOf_86 (tgt := 107) (by decide) (fun hc3 => ?_) (fun hc3 => ?_)
    · rw [if_pos hc3] at hf
      refine g_iload_n X dX8_roundOf_107 2 rfl ?_
      refine g_bipush X dX8_roundOf_108 (v := 10) rfl ?_
      refine g_isub X dX8_roundOf_110 ?_
      refine g_iload_n X dX8_roundOf_111 1 rfl ?_
      refine g_icmp_ge X dX8_roundOf_112 (tgt := 128) (by decide) (fun hc4 => ?_) (fun hc4 => ?_)
      · rw [if_pos hc4] at hf
        refine g_iconst X dX8_roundOf_128 (v := (-1)) rfl ?_
        refine g_sub [] rfl ?_
        exact wBX8_roundOf_129  X hQ  (-1)  I J hf
      · rw [if_neg hc4] at hf
        refine g_iload X dX8_roundOf_115 4 rfl ?_
        refine g_iload_n X dX8_roundOf_117 1 rfl ?_
        refine g_iload_n X dX8_roundOf_118 2 rfl ?_
        refine g_bipush X dX8_roundOf_119 (v := 10) rfl ?_
        refine g_isub X dX8_roundOf_121 ?_
        obtain ⟨r5, I5, J5, hb5, hf⟩ := bnd_some hf
        refine g_callS X dX8_roundOf_122 sw_X8_216 (As := [.int x4, .int x1, .int (x2 - 10)]) rfl rfl (Nat.le_of_ble_eq_true rfl) (by decide) (cX8_figure_ok  M.2.1 V x4 x1 (x2 - 10)  I J hb5) (kI ?_)
        refine g_goto X dX8_roundOf_125 (tgt := 129) (by decide) ?_
        refine g_sub [] rfl ?_
        exact wBX8_roundOf_129  X hQ  r5  I5 J5 hf
    · rw [if_neg hc3] at hf
      refine g_iload_n X dX8_roundOf_89 2 rfl ?_
      refine g_if_ne X dX8_roundOf_90 (tgt := 101) (by decide) (fun hc6 => ?_) (fun hc6 => ?_)
      · rw [if_neg hc6] at hf
        refine g_iload X dX8_roundOf_101 5 rfl ?_
        refine g_bipush X dX8_roundOf_103 (v := 100) rfl ?_
        refine g_irem X dX8_roundOf_105 (by decide) ?_
        refine g_sub [] rfl ?_
        exact wBX8_roundOf_106  X hQ  (x5 - x5 / 100 * 100)  I J hf
      · rw [if_pos hc6] at hf
        refine g_iload X dX8_roundOf_93 5 rfl ?_
        refine g_bipush X dX8_roundOf_95 (v := 100) rfl ?_
        refine g_idiv X dX8_roundOf_97 (by decide) ?_
        refine g_goto X dX8_roundOf_98 (tgt := 106) (by decide) ?_
        refine g_sub [] rfl ?_
        exact wBX8_roundOf_106  X hQ  (x5 / 100)  I J hf
  · rw [if_neg hc2] at hf
    refine g_aload_n X dX8_roundOf_37 0 rfl ?_
    refine g_iload X dX8_roundOf_38 6 rfl ?_
    refine g_iload_n X dX8_roundOf_40 1 rfl ?_
    obtain ⟨r7, I7, J7, hb7, hf⟩ := bnd_some hf
    refine g_callV X dX8_roundOf_41 cw_X8_220 (k := 0) (As := [.int x6, .int x1]) (rcv okM_0 cl8) rfl rfl (Nat.le_of_ble_eq_true rfl) (by decide) (cX8_worthOf_ok  M.2.1 V x6 x1  I J hb7) (kI ?_)
    refine g_istore X dX8_roundOf_44 (by decide) [(7, .int r7), (0, .ref (V.2.2 0)), (1, .int x1), (2, .int x2), (3, .int x3), (4, .int x4), (5, .int x5), (6, .int x6)] rfl ?_
    refine g_iload X dX8_roundOf_46 0 rfl ?_
    refine g_iload X dX8_roundOf_48 6 rfl ?_
    refine g_icmp_le X dX8_roundOf_50 (tgt := 58) (by decide) (fun hc8 => ?_) (fun hc8 => ?_)
    · rw [if_pos hc8] at hf
      refine g_iload X dX8_roundOf_58 5 rfl ?_
      refine g_sub [1, 2, 3, 4, 6, 7, 0] rfl ?_
      exact wBX8_roundOf_60  X hQ k31 hk31 x1 x2 x3 x5 x6 r7 x4  I7 J7 hf
    · rw [if_neg hc8] at hf
      refine g_iload X dX8_roundOf_53 7 rfl ?_
      refine g_goto X dX8_roundOf_55 (tgt := 60) (by decide) ?_
      refine g_sub [1, 2, 3, 4, 6, 7, 0] rfl ?_
      exact wBX8_roundOf_60  X hQ k31 hk31 x1 x2 x3 x5 x6 r7 x6  I7 J7 hf
set_option maxRecDepth 4000 in
theorem wLX8_roundOf_31 {M : MT} {V : VT}  (X : Cx M mS V cX8_roundOf 8 RX8 (some .int) 3) {q : RT Int32} (hQ : PI M mS V q)  : ∀ (n : Nat) (x1 : Int32) (x2 : Int32) (x3 : Int32) (x4 : Int32) (x5 : Int32) (x6 : Int32)  (I : aI) (J : aJ), LX8_roundOf_31   n x1 x2 x3 x4 x5 x6 I J = some q → Wg M mS V 8 I J 31 [(0, .ref (V.2.2 0)), (1, .int x1), (2, .int x2), (3, .int x3), (4, .int x4), (5, .int x5), (6, .int x6)] [] := by
  intro n
  induction n with
  | zero => intro x1 x2 x3 x4 x5 x6  I J hf; cases hf
  | succ n ih => intro x1 x2 x3 x4 x5 x6  I J hf; exact wHX8_roundOf_31  X hQ  (LX8_roundOf_31   n) ih x1 x2 x3 x4 x5 x6  I J hf
set_option maxRecDepth 4000 in
theorem wHX8_roundOf_5 {M : MT} {V : VT}  (X : Cx M mS V cX8_roundOf 8 RX8 (some .int) 3) {q : RT Int32} (hQ : PI M mS V q) (k5 : Int32 → Int32 → Int32 → Int32 → aI → aJ → Option (RT Int32)) (hk5 : ∀ (x1 : Int32) (x2 : Int32) (x3 : Int32) (x4 : Int32)  (I : aI) (J : aJ), k5 x1 x2 x3 x4 I J = some q → Wg M mS V 8 I J 5 [(0, .ref (V.2.2 0)), (1, .int x1), (2, .int x2), (3, .int x3), (4, .int x4)] []) (x1 : Int32) (x2 : Int32) (x3 : Int32) (x4 : Int32)  (I : aI) (J : aJ) (hf : HX8_roundOf_5  k5 x1 x2 x3 x4 I J = some q) : Wg M mS V 8 I J 5 [(0, .ref (V.2.2 0)), (1, .int x1), (2, .int x2), (3, .int x3), (4, .int x4)] [] := by
  unfold HX8_roundOf_5 at hf
  refine g_iload X dX8_roundOf_5 4 rfl ?_
  refine g_iload_n X dX8_roundOf_7 1 rfl ?_
  refine g_icmp_ge X dX8_roundOf_8 (tgt := 22) (by decide) (fun hc1 => ?_) (fun hc1 => ?_)
  · rw [if_pos hc1] at hf
    refine g_iconst X dX8_roundOf_22 (v := 0) rfl ?_
    refine g_istore X dX8_roundOf_23 (by decide) [(4, .int 0), (0, .ref (V.2.2 0)), (1, .int x1), (2, .int x2), (3, .int x3)] rfl ?_
    refine g_iconst X dX8_roundOf_25 (v := (-1)) rfl ?_
    refine g_istore X dX8_roundOf_26 (by decide) [(5, .int (-1)), (4, .int 0), (0, .ref (V.2.2 0)), (1, .int x1), (2, .int x2), (3, .int x3)] rfl ?_
    refine g_iconst X dX8_roundOf_28 (v := 0) rfl ?_
    refine g_istore X dX8_roundOf_29 (by decide) [(6, .int 0), (5, .int (-1)), (4, .int 0), (0, .ref (V.2.2 0)), (1, .int x1), (2, .int x2), (3, .int x3)] rfl ?_
    refine g_sub [3, 4, 5, 6, 2, 1, 0] rfl ?_
    exact wLX8_roundOf_31  X hQ  8000 x1 x2 x3 0 (-1) 0  I J hf
  · rw [if_neg hc1] at hf
    refine g_iload_n X dX8_roundOf_11 3 rfl ?_
    refine g_bipush X dX8_roundOf_12 (v := 6) rfl ?_
    refine g_imul X dX8_roundOf_14 ?_
    refine g_istore_n X dX8_roundOf_15 (by decide) [(3, .int (x3 * 6)), (0, .ref (V.2.2 0)), (1, .int x1), (2, .int x2), (4, .int x4)] rfl ?_
    refine g_iinc X dX8_roundOf_16 4 rfl 1 rfl (by decide) [(4, .int (x4 + 1)), (3, .int (x3 * 6)), (0, .ref (V.2.2 0)), (1, .int x1), (2, .int x2)] rfl ?_
    refine g_goto X dX8_roundOf_19 (tgt := 5) (by decide) ?_
    refine g_sub [2, 3, 4, 1, 0] rfl ?_
    exact hk5 x1 x2 (x3 * 6) (x4 + 1)  I J hf
set_option maxRecDepth 4000 in
theorem wLX8_roundOf_5 {M : MT} {V : VT}  (X : Cx M mS V cX8_roundOf 8 RX8 (some .int) 3) {q : RT Int32} (hQ : PI M mS V q)  : ∀ (n : Nat) (x1 : Int32) (x2 : Int32) (x3 : Int32) (x4 : Int32)  (I : aI) (J : aJ), LX8_roundOf_5   n x1 x2 x3 x4 I J = some q → Wg M mS V 8 I J 5 [(0, .ref (V.2.2 0)), (1, .int x1), (2, .int x2), (3, .int x3), (4, .int x4)] [] := by
  intro n
  induction n with
  | zero => intro x1 x2 x3 x4  I J hf; cases hf
  | succ n ih => intro x1 x2 x3 x4  I J hf; exact wHX8_roundOf_5  X hQ  (LX8_roundOf_5   n) ih x1 x2 x3 x4  I J hf
set_option maxRecDepth 4000 in
theorem wX8_roundOf {M : MT} {V : VT} (X : Cx M mS V cX8_roundOf 8 RX8 (some .int) 3) {q : RT Int32} (hQ : PI M mS V q) (x1 : Int32) (x2 : Int32)  (I : aI) (J : aJ) (hf : fX8_roundOf x1 x2 I J = some q) : Wg M mS V 8 I J 0 [(0, .ref (V.2.2 0)), (1, .int x1), (2, .int x2)] [] := by
  unfold fX8_roundOf at hf
  refine g_iconst X dX8_roundOf_0 (v := 1) rfl ?_
  refine g_istore_n X dX8_roundOf_1 (by decide) [(3, .int 1), (0, .ref (V.2.2 0)), (1, .int x1), (2, .int x2)] rfl ?_
  refine g_iconst X dX8_roundOf_2 (v := 0) rfl ?_
  refine g_istore X dX8_roundOf_3 (by decide) [(4, .int 0), (3, .int 1), (0, .ref (V.2.2 0)), (1, .int x1), (2, .int x2)] rfl ?_
  refine g_sub [2, 3, 4, 1, 0] rfl ?_
  exact wLX8_roundOf_5  X hQ  8000 x1 x2 1 0  I J hf
set_option maxRecDepth 4000 in
theorem cX8_roundOf_ok (l : Launch) (V : VT) (x1 : Int32) (x2 : Int32)  (I : aI) (J : aJ) {q : RT Int32} (hf : fX8_roundOf x1 x2 I J = some q) : Met l yX8_roundOf (.code yX8_roundOf cX8_roundOf 8 (some .int) :: GG) (rmD 3) (va_Pc [.ref (V.2.2 0), .int x1, .int x2] (cQ mS V I J)) (QI mS V q) 0 0 (vAd mS V) :=
  met_I (by decide +kernel) rfl (Nat.le_of_ble_eq_true rfl) (fun _ _ X hQ => wX8_roundOf X hQ x1 x2  I J hf)
-- X8_round
set_option maxRecDepth 4000 in
theorem wBX8_round_36 {M : MT} {V : VT}  (X : Cx M mS V cX8_round 3 RX8 (some .int) 4) {q : RT Int32} (hQ : PI M mS V q)    (I : aI) (J : aJ) (hf : BX8_round_36    I J = some q) : Wg M mS V 3 I J 36 [] [] := by
  unfold BX8_round_36 at hf
  refine g_bipush X dX8_round_36 (v := (-102)) rfl ?_
  cases hf
  exact g_ireturn X dX8_round_38 hQ
set_option maxRecDepth 4000 in
theorem wBX8_round_55 {M : MT} {V : VT}  (X : Cx M mS V cX8_round 3 RX8 (some .int) 4) {q : RT Int32} (hQ : PI M mS V q)    (I : aI) (J : aJ) (hf : BX8_round_55    I J = some q) : Wg M mS V 3 I J 55 [] [] := by
  unfold BX8_round_55 at hf
  refine g_bipush X dX8_round_55 (v := (-103)) rfl ?_
  cases hf
  exact g_ireturn X dX8_round_57 hQ
set_option maxRecDepth 4000 in
theorem wBX8_round_39 {M : MT} {V : VT}  (X : Cx M mS V cX8_round 3 RX8 (some .int) 4) {q : RT Int32} (hQ : PI M mS V q)  (x1 : Int32) (x2 : Int32)  (I : aI) (J : aJ) (hf : BX8_round_39   x1 x2 I J = some q) : Wg M mS V 3 I J 39 [(0, .ref (V.2.2 0)), (1, .int x1), (2, .int x2)] [] := by
  unfold BX8_round_39 at hf
  refine g_aload_n X dX8_round_39 0 rfl ?_
  obtain ⟨r7, I7, J7, hb7, hf⟩ := bnd_some hf
  refine g_callV X dX8_round_40 cw_X8_229 (k := 0) (As := []) (rcv okM_0 cl8) rfl rfl (Nat.le_of_ble_eq_true rfl) (by decide) (cX8_lacks_ok  M.2.1 V   I J hb7) (kI ?_)
  refine g_if_ne X dX8_round_43 (tgt := 55) (by decide) (fun hc8 => ?_) (fun hc8 => ?_)
  · rw [if_neg hc8] at hf
    refine g_sub [] rfl ?_
    exact wBX8_round_55  X hQ    I7 J7 hf
  · rw [if_pos hc8] at hf
    refine g_aload_n X dX8_round_46 0 rfl ?_
    refine g_get X dX8_round_47 okM_0 cl8 24 (by decide) m_842 rfl ?_
    refine g_bipush X dX8_round_50 (v := 20) rfl ?_
    refine g_icmp_ne X dX8_round_52 (tgt := 58) (by decide) (fun hc9 => ?_) (fun hc9 => ?_)
    · rw [if_neg hc9] at hf
      refine g_aload_n X dX8_round_58 0 rfl ?_
      refine g_dup X dX8_round_59 rfl ?_
      refine g_get X dX8_round_60 okM_0 cl8 24 (by decide) m_842 rfl ?_
      refine g_iconst X dX8_round_63 (v := 1) rfl ?_
      refine g_iadd X dX8_round_64 ?_
      refine g_putI X dX8_round_65 okM_0 cl8 24 (by decide) m_842 rfl .int rfl rfl rfl (Nat.le_of_ble_eq_true rfl) (fun _ _ => rfl) ?_
      refine g_aload_n X dX8_round_68 0 rfl ?_
      refine g_iload_n X dX8_round_69 1 rfl ?_
      refine g_iload_n X dX8_round_70 2 rfl ?_
      obtain ⟨r10, I10, J10, hb10, hf⟩ := bnd_some hf
      refine g_callV X dX8_round_71 cw_X8_236 (k := 0) (As := [.int x1, .int x2]) (rcv okM_0 cl8) rfl rfl (Nat.le_of_ble_eq_true rfl) (by decide) (cX8_roundOf_ok  M.2.1 V x1 x2  (pI I7 0 24 ((I7 0 24) + 1)) J7 hb10) (kI ?_)
      cases hf
      exact g_ireturn X dX8_round_74 hQ
    · rw [if_pos hc9] at hf
      refine g_sub [] rfl ?_
      exact wBX8_round_55  X hQ    I7 J7 hf
set_option maxRecDepth 4000 in
theorem wX8_round {M : MT} {V : VT} (X : Cx M mS V cX8_round 3 RX8 (some .int) 4) {q : RT Int32} (hQ : PI M mS V q) (x1 : Int32) (x2 : Int32)  (I : aI) (J : aJ) (hf : fX8_round x1 x2 I J = some q) : Wg M mS V 3 I J 0 [(0, .ref (V.2.2 0)), (1, .int x1), (2, .int x2)] [] := by
  unfold fX8_round at hf
  refine g_iload_n X dX8_round_0 1 rfl ?_
  refine g_i2l X dX8_round_1 ?_
  refine g_lconst X dX8_round_2 (v := 1) rfl ?_
  refine g_ldc2 X dX8_round_3 m_1101 ?_
  obtain ⟨r1, I1, J1, hb1, hf⟩ := bnd_some hf
  refine g_callS X dX8_round_6 sw_X8_92 (As := [.long (Int32.toInt64 x1), .long 1, .long 5]) rfl rfl (Nat.le_of_ble_eq_true rfl) (by decide) (cX8_in_ok  M.2.1 V (Int32.toInt64 x1) 1 5  I J hb1) (kI ?_)
  refine g_if_eq X dX8_round_9 (tgt := 36) (by decide) (fun hc2 => ?_) (fun hc2 => ?_)
  · rw [if_pos hc2] at hf
    refine g_sub [] rfl ?_
    exact wBX8_round_36  X hQ    I1 J1 hf
  · rw [if_neg hc2] at hf
    refine g_iload_n X dX8_round_12 2 rfl ?_
    refine g_i2l X dX8_round_13 ?_
    refine g_lconst X dX8_round_14 (v := 0) rfl ?_
    refine g_lconst X dX8_round_15 (v := 1) rfl ?_
    obtain ⟨r3, I3, J3, hb3, hf⟩ := bnd_some hf
    refine g_callS X dX8_round_16 sw_X8_92 (As := [.long (Int32.toInt64 x2), .long 0, .long 1]) rfl rfl (Nat.le_of_ble_eq_true rfl) (by decide) (cX8_in_ok  M.2.1 V (Int32.toInt64 x2) 0 1  I1 J1 hb3) (kI ?_)
    refine g_if_ne X dX8_round_19 (tgt := 39) (by decide) (fun hc4 => ?_) (fun hc4 => ?_)
    · rw [if_neg hc4] at hf
      exact wBX8_round_39  X hQ  x1 x2  I3 J3 hf
    · rw [if_pos hc4] at hf
      refine g_iload_n X dX8_round_22 2 rfl ?_
      refine g_i2l X dX8_round_23 ?_
      refine g_ldc2 X dX8_round_24 m_1102 ?_
      refine g_ldc2 X dX8_round_27 m_1103 ?_
      obtain ⟨r5, I5, J5, hb5, hf⟩ := bnd_some hf
      refine g_callS X dX8_round_30 sw_X8_92 (As := [.long (Int32.toInt64 x2), .long 10, .long 14]) rfl rfl (Nat.le_of_ble_eq_true rfl) (by decide) (cX8_in_ok  M.2.1 V (Int32.toInt64 x2) 10 14  I3 J3 hb5) (kI ?_)
      refine g_if_ne X dX8_round_33 (tgt := 39) (by decide) (fun hc6 => ?_) (fun hc6 => ?_)
      · rw [if_neg hc6] at hf
        exact wBX8_round_39  X hQ  x1 x2  I5 J5 hf
      · rw [if_pos hc6] at hf
        refine g_sub [] rfl ?_
        exact wBX8_round_36  X hQ    I5 J5 hf
set_option maxRecDepth 4000 in
theorem cX8_round_ok (l : Launch) (V : VT) (x1 : Int32) (x2 : Int32)  (I : aI) (J : aJ) {q : RT Int32} (hf : fX8_round x1 x2 I J = some q) : Met l yX8_round (.code yX8_round cX8_round 3 (some .int) :: GG) (rmD 4) (va_Pc [.ref (V.2.2 0), .int x1, .int x2] (cQ mS V I J)) (QI mS V q) 0 0 (vAd mS V) :=
  met_I (by decide +kernel) rfl (Nat.le_of_ble_eq_true rfl) (fun _ _ X hQ => wX8_round X hQ x1 x2  I J hf)
-- X8_see
set_option maxRecDepth 4000 in
theorem wBX8_see_56 {M : MT} {V : VT}  (X : Cx M mS V cX8_see 3 RX8 (some .int) 2) {q : RT Int32} (hQ : PI M mS V q)  (s0 : Int32) (s1 : Int32)  (I : aI) (J : aJ) (hf : BX8_see_56   s0 s1 I J = some q) : Wg M mS V 3 I J 56 [(0, .ref (V.2.2 0))] [.int s0, .int s1, .ref (V.2.2 19)] := by
  unfold BX8_see_56 at hf
  obtain ⟨hg6, hf⟩ := gd_some hf
  refine g_iastore X dX8_see_56 okM_19 hg6 ?_
  refine g_aload_n X dX8_see_57 0 rfl ?_
  refine g_dup X dX8_see_58 rfl ?_
  refine g_get X dX8_see_59 okM_0 cl8 27 (by decide) m_845 rfl ?_
  refine g_iconst X dX8_see_62 (v := 1) rfl ?_
  refine g_iadd X dX8_see_63 ?_
  refine g_putI X dX8_see_64 okM_0 cl8 27 (by decide) m_845 rfl .int rfl rfl rfl (Nat.le_of_ble_eq_true rfl) (fun _ _ => rfl) ?_
  refine g_aload_n X dX8_see_67 0 rfl ?_
  refine g_get X dX8_see_68 okM_0 cl8 27 (by decide) m_845 rfl ?_
  cases hf
  exact g_ireturn X dX8_see_71 hQ
set_option maxRecDepth 4000 in
theorem wX8_see {M : MT} {V : VT} (X : Cx M mS V cX8_see 3 RX8 (some .int) 2) {q : RT Int32} (hQ : PI M mS V q) (x1 : Int32) (x2 : Int32)  (I : aI) (J : aJ) (hf : fX8_see x1 x2 I J = some q) : Wg M mS V 3 I J 0 [(0, .ref (V.2.2 0)), (1, .int x1), (2, .int x2)] [] := by
  unfold fX8_see at hf
  refine g_aload_n X dX8_see_0 0 rfl ?_
  refine g_iload_n X dX8_see_1 1 rfl ?_
  obtain ⟨r1, I1, J1, hb1, hf⟩ := bnd_some hf
  refine g_callV X dX8_see_2 cw_X8_175 (k := 0) (As := [.int x1]) (rcv okM_0 cl8) rfl rfl (Nat.le_of_ble_eq_true rfl) (by decide) (cX8_isPerson_ok  M.2.1 V x1  I J hb1) (kI ?_)
  refine g_if_ne X dX8_see_5 (tgt := 11) (by decide) (fun hc2 => ?_) (fun hc2 => ?_)
  · rw [if_neg hc2] at hf
    refine g_aload_n X dX8_see_11 0 rfl ?_
    refine g_get X dX8_see_12 okM_0 cl8 27 (by decide) m_845 rfl ?_
    refine g_bipush X dX8_see_15 (v := 6) rfl ?_
    refine g_icmp_ne X dX8_see_17 (tgt := 23) (by decide) (fun hc3 => ?_) (fun hc3 => ?_)
    · rw [if_neg hc3] at hf
      refine g_aload_n X dX8_see_23 0 rfl ?_
      refine g_get X dX8_see_24 okM_0 cl8 28 (by decide) m_846 rfl ?_
      refine g_iconst X dX8_see_27 (v := 2) rfl ?_
      refine g_aload_n X dX8_see_28 0 rfl ?_
      refine g_get X dX8_see_29 okM_0 cl8 27 (by decide) m_845 rfl ?_
      refine g_imul X dX8_see_32 ?_
      refine g_iload_n X dX8_see_33 1 rfl ?_
      obtain ⟨hg4, hf⟩ := gd_some hf
      refine g_iastore X dX8_see_34 okM_19 hg4 ?_
      refine g_aload_n X dX8_see_35 0 rfl ?_
      refine g_get X dX8_see_36 okM_0 cl8 28 (by decide) m_846 rfl ?_
      refine g_iconst X dX8_see_39 (v := 2) rfl ?_
      refine g_aload_n X dX8_see_40 0 rfl ?_
      refine g_get X dX8_see_41 okM_0 cl8 27 (by decide) m_845 rfl ?_
      refine g_imul X dX8_see_44 ?_
      refine g_iconst X dX8_see_45 (v := 1) rfl ?_
      refine g_iadd X dX8_see_46 ?_
      refine g_iload_n X dX8_see_47 2 rfl ?_
      refine g_if_eq X dX8_see_48 (tgt := 55) (by decide) (fun hc5 => ?_) (fun hc5 => ?_)
      · rw [if_pos hc5] at hf
        refine g_iconst X dX8_see_55 (v := 0) rfl ?_
        refine g_sub [0] rfl ?_
        exact wBX8_see_56  X hQ  0 ((2 * ((pI I1 19 (Int32.toNatClampNeg (2 * (I1 0 27))) x1) 0 27)) + 1)  (pI I1 19 (Int32.toNatClampNeg (2 * (I1 0 27))) x1) J1 hf
      · rw [if_neg hc5] at hf
        refine g_iconst X dX8_see_51 (v := 1) rfl ?_
        refine g_goto X dX8_see_52 (tgt := 56) (by decide) ?_
        refine g_sub [0] rfl ?_
        exact wBX8_see_56  X hQ  1 ((2 * ((pI I1 19 (Int32.toNatClampNeg (2 * (I1 0 27))) x1) 0 27)) + 1)  (pI I1 19 (Int32.toNatClampNeg (2 * (I1 0 27))) x1) J1 hf
    · rw [if_pos hc3] at hf
      refine g_bipush X dX8_see_20 (v := (-104)) rfl ?_
      cases hf
      exact g_ireturn X dX8_see_22 hQ
  · rw [if_pos hc2] at hf
    refine g_bipush X dX8_see_8 (v := (-101)) rfl ?_
    cases hf
    exact g_ireturn X dX8_see_10 hQ
set_option maxRecDepth 4000 in
theorem cX8_see_ok (l : Launch) (V : VT) (x1 : Int32) (x2 : Int32)  (I : aI) (J : aJ) {q : RT Int32} (hf : fX8_see x1 x2 I J = some q) : Met l yX8_see (.code yX8_see cX8_see 3 (some .int) :: GG) (rmD 2) (va_Pc [.ref (V.2.2 0), .int x1, .int x2] (cQ mS V I J)) (QI mS V q) 0 0 (vAd mS V) :=
  met_I (by decide +kernel) rfl (Nat.le_of_ble_eq_true rfl) (fun _ _ X hQ => wX8_see X hQ x1 x2  I J hf)
-- X8_stand
set_option maxRecDepth 4000 in
theorem wX8_stand {M : MT} {V : VT} (X : Cx M mS V cX8_stand 3 RX8 (some .int) 2) {q : RT Int32} (hQ : PI M mS V q) (x1 : Int32)  (I : aI) (J : aJ) (hf : fX8_stand x1 I J = some q) : Wg M mS V 3 I J 0 [(0, .ref (V.2.2 0)), (1, .int x1)] [] := by
  unfold fX8_stand at hf
  refine g_aload_n X dX8_stand_0 0 rfl ?_
  refine g_iload_n X dX8_stand_1 1 rfl ?_
  obtain ⟨r1, I1, J1, hb1, hf⟩ := bnd_some hf
  refine g_callV X dX8_stand_2 cw_X8_202 (k := 0) (As := [.int x1]) (rcv okM_0 cl8) rfl rfl (Nat.le_of_ble_eq_true rfl) (by decide) (cX8_isCorner_ok  M.2.1 V x1  I J hb1) (kI ?_)
  refine g_if_ne X dX8_stand_5 (tgt := 11) (by decide) (fun hc2 => ?_) (fun hc2 => ?_)
  · rw [if_neg hc2] at hf
    refine g_aload_n X dX8_stand_11 0 rfl ?_
    refine g_get X dX8_stand_12 okM_0 cl8 6 (by decide) m_824 rfl ?_
    refine g_istore_n X dX8_stand_15 (by decide) [(2, .int (I1 0 6)), (0, .ref (V.2.2 0)), (1, .int x1)] rfl ?_
    refine g_aload_n X dX8_stand_16 1 rfl ?_
    refine g_iload_n X dX8_stand_17 2 rfl ?_
    refine g_putI X dX8_stand_18 okM_0 cl8 6 (by decide) m_824 rfl .int rfl rfl rfl (Nat.le_of_ble_eq_true rfl) (fun _ _ => rfl) ?_
    refine g_iload_n X dX8_stand_21 0 rfl ?_
    cases hf
    exact g_ireturn X dX8_stand_22 hQ
  · rw [if_pos hc2] at hf
    refine g_bipush X dX8_stand_8 (v := (-101)) rfl ?_
    cases hf
    exact g_ireturn X dX8_stand_10 hQ
set_option maxRecDepth 4000 in
theorem cX8_stand_ok (l : Launch) (V : VT) (x1 : Int32)  (I : aI) (J : aJ) {q : RT Int32} (hf : fX8_stand x1 I J = some q) : Met l yX8_stand (.code yX8_stand cX8_stand 3 (some .int) :: GG) (rmD 2) (va_Pc [.ref (V.2.2 0), .int x1] (cQ mS V I J)) (QI mS V q) 0 0 (vAd mS V) :=
  met_I (by decide +kernel) rfl (Nat.le_of_ble_eq_true rfl) (fun _ _ X hQ => wX8_stand X hQ x1  I J hf)
-- X8_suburb
set_option maxRecDepth 4000 in
theorem wBX8_suburb_46 {M : MT} {V : VT}  (X : Cx M mS V cX8_suburb 3 RX8 (some .int) 5) {q : RT Int32} (hQ : PI M mS V q)    (I : aI) (J : aJ) (hf : BX8_suburb_46    I J = some q) : Wg M mS V 3 I J 46 [] [] := by
  unfold BX8_suburb_46 at hf
  refine g_bipush X dX8_suburb_46 (v := (-103)) rfl ?_
  cases hf
  exact g_ireturn X dX8_suburb_48 hQ
set_option maxRecDepth 4000 in
theorem wHX8_suburb_158 {M : MT} {V : VT}  (X : Cx M mS V cX8_suburb 3 RX8 (some .int) 5) {q : RT Int32} (hQ : PI M mS V q) (k158 : Int32 → aI → aJ → Option (RT Int32)) (hk158 : ∀ (x1 : Int32)  (I : aI) (J : aJ), k158 x1 I J = some q → Wg M mS V 3 I J 158 [(0, .ref (V.2.2 0)), (1, .int x1)] []) (x1 : Int32)  (I : aI) (J : aJ) (hf : HX8_suburb_158  k158 x1 I J = some q) : Wg M mS V 3 I J 158 [(0, .ref (V.2.2 0)), (1, .int x1)] [] := by
  unfold HX8_suburb_158 at hf
  refine g_iload_n X dX8_suburb_158 1 rfl ?_
  refine g_aload_n X dX8_suburb_159 0 rfl ?_
  refine g_get X dX8_suburb_160 okM_0 cl8 5 (by decide) m_823 rfl ?_
  refine g_icmp_ge X dX8_suburb_163 (tgt := 263) (by decide) (fun hc10 => ?_) (fun hc10 => ?_)
  · rw [if_pos hc10] at hf
    refine g_aload_n X dX8_suburb_263 0 rfl ?_
    obtain ⟨r11, I11, J11, hb11, hf⟩ := bnd_some hf
    refine g_callV X dX8_suburb_264 cw_X8_143 (k := 0) (As := []) (rcv okM_0 cl8) rfl rfl (Nat.le_of_ble_eq_true rfl) (by decide) (cX8_layFars_ok  M.2.1 V   I J hb11) (kV ?_)
    refine g_aload_n X dX8_suburb_267 0 rfl ?_
    refine g_iconst X dX8_suburb_268 (v := 0) rfl ?_
    refine g_putI X dX8_suburb_269 okM_0 cl8 7 (by decide) m_825 rfl .int rfl rfl rfl (Nat.le_of_ble_eq_true rfl) (fun _ _ => rfl) ?_
    refine g_aload_n X dX8_suburb_272 0 rfl ?_
    refine g_iconst X dX8_suburb_273 (v := 0) rfl ?_
    refine g_putI X dX8_suburb_274 okM_0 cl8 27 (by decide) m_845 rfl .int rfl rfl rfl (Nat.le_of_ble_eq_true rfl) (fun _ _ => rfl) ?_
    refine g_aload_n X dX8_suburb_277 0 rfl ?_
    refine g_dup X dX8_suburb_278 rfl ?_
    refine g_get X dX8_suburb_279 okM_0 cl8 8 (by decide) m_826 rfl ?_
    refine g_iconst X dX8_suburb_282 (v := 1) rfl ?_
    refine g_iadd X dX8_suburb_283 ?_
    refine g_putI X dX8_suburb_284 okM_0 cl8 8 (by decide) m_826 rfl .int rfl rfl rfl (Nat.le_of_ble_eq_true rfl) (fun _ _ => rfl) ?_
    refine g_aload_n X dX8_suburb_287 0 rfl ?_
    refine g_iconst X dX8_suburb_288 (v := 0) rfl ?_
    refine g_putI X dX8_suburb_289 okM_0 cl8 1 (by decide) m_819 rfl .int rfl rfl rfl (Nat.le_of_ble_eq_true rfl) (fun _ _ => rfl) ?_
    refine g_aload_n X dX8_suburb_292 0 rfl ?_
    refine g_get X dX8_suburb_293 okM_0 cl8 5 (by decide) m_823 rfl ?_
    cases hf
    exact g_ireturn X dX8_suburb_296 hQ
  · rw [if_neg hc10] at hf
    refine g_aload_n X dX8_suburb_166 0 rfl ?_
    refine g_get X dX8_suburb_167 okM_0 cl8 2 (by decide) m_820 rfl ?_
    refine g_iconst X dX8_suburb_170 (v := 1) rfl ?_
    refine g_iadd X dX8_suburb_171 ?_
    refine g_iconst X dX8_suburb_172 (v := 5) rfl ?_
    refine g_iload_n X dX8_suburb_173 1 rfl ?_
    refine g_imul X dX8_suburb_174 ?_
    refine g_iadd X dX8_suburb_175 ?_
    refine g_istore_n X dX8_suburb_176 (by decide) [(2, .int (((I 0 2) + 1) + (5 * x1))), (0, .ref (V.2.2 0)), (1, .int x1)] rfl ?_
    refine g_aload_n X dX8_suburb_177 1 rfl ?_
    refine g_get X dX8_suburb_178 okM_0 cl8 11 (by decide) m_829 rfl ?_
    refine g_iload_n X dX8_suburb_181 2 rfl ?_
    refine g_aload_n X dX8_suburb_182 1 rfl ?_
    refine g_get X dX8_suburb_183 okM_0 cl8 0 (by decide) m_818 rfl ?_
    refine g_iload_n X dX8_suburb_186 0 rfl ?_
    obtain ⟨hg12, hf⟩ := gd_some hf
    refine g_iaload X dX8_suburb_187 okM_1 hg12 ?_
    obtain ⟨r13, I13, J13, hb13, hf⟩ := bnd_some hf
    refine g_callS X dX8_suburb_188 sw_X8_108 (As := [.int (I 1 (Int32.toNatClampNeg (((I 0 2) + 1) + (5 * x1))))]) rfl rfl (Nat.le_of_ble_eq_true rfl) (by decide) (cX8_kindBy_ok  M.2.1 V (I 1 (Int32.toNatClampNeg (((I 0 2) + 1) + (5 * x1))))  I J hb13) (kI ?_)
    obtain ⟨hg14, hf⟩ := gd_some hf
    refine g_iastore X dX8_suburb_191 okM_4 hg14 ?_
    refine g_aload_n X dX8_suburb_192 1 rfl ?_
    refine g_get X dX8_suburb_193 okM_0 cl8 12 (by decide) m_830 rfl ?_
    refine g_iload_n X dX8_suburb_196 2 rfl ?_
    refine g_aload_n X dX8_suburb_197 1 rfl ?_
    refine g_get X dX8_suburb_198 okM_0 cl8 0 (by decide) m_818 rfl ?_
    refine g_iload_n X dX8_suburb_201 0 rfl ?_
    refine g_iconst X dX8_suburb_202 (v := 1) rfl ?_
    refine g_iadd X dX8_suburb_203 ?_
    obtain ⟨hg15, hf⟩ := gd_some hf
    refine g_iaload X dX8_suburb_204 okM_1 hg15 ?_
    refine g_bipush X dX8_suburb_205 (v := 48) rfl ?_
    refine g_isub X dX8_suburb_207 ?_
    refine g_iastore X dX8_suburb_208 okM_5 hg14 ?_
    refine g_aload_n X dX8_suburb_209 1 rfl ?_
    refine g_get X dX8_suburb_210 okM_0 cl8 13 (by decide) m_831 rfl ?_
    refine g_iload_n X dX8_suburb_213 2 rfl ?_
    refine g_aload_n X dX8_suburb_214 1 rfl ?_
    refine g_get X dX8_suburb_215 okM_0 cl8 0 (by decide) m_818 rfl ?_
    refine g_iload_n X dX8_suburb_218 0 rfl ?_
    refine g_iconst X dX8_suburb_219 (v := 2) rfl ?_
    refine g_iadd X dX8_suburb_220 ?_
    obtain ⟨hg16, hf⟩ := gd_some hf
    refine g_iaload X dX8_suburb_221 okM_1 hg16 ?_
    refine g_bipush X dX8_suburb_222 (v := 48) rfl ?_
    refine g_isub X dX8_suburb_224 ?_
    refine g_iastore X dX8_suburb_225 okM_6 hg14 ?_
    refine g_aload_n X dX8_suburb_226 1 rfl ?_
    refine g_get X dX8_suburb_227 okM_0 cl8 14 (by decide) m_832 rfl ?_
    refine g_iload_n X dX8_suburb_230 2 rfl ?_
    refine g_aload_n X dX8_suburb_231 1 rfl ?_
    refine g_get X dX8_suburb_232 okM_0 cl8 0 (by decide) m_818 rfl ?_
    refine g_iload_n X dX8_suburb_235 0 rfl ?_
    refine g_iconst X dX8_suburb_236 (v := 3) rfl ?_
    refine g_iadd X dX8_suburb_237 ?_
    obtain ⟨hg17, hf⟩ := gd_some hf
    refine g_iaload X dX8_suburb_238 okM_1 hg17 ?_
    refine g_bipush X dX8_suburb_239 (v := 48) rfl ?_
    refine g_isub X dX8_suburb_241 ?_
    refine g_iastore X dX8_suburb_242 okM_7 hg14 ?_
    refine g_aload_n X dX8_suburb_243 1 rfl ?_
    refine g_get X dX8_suburb_244 okM_0 cl8 15 (by decide) m_833 rfl ?_
    refine g_iload_n X dX8_suburb_247 2 rfl ?_
    refine g_iconst X dX8_suburb_248 (v := 0) rfl ?_
    refine g_iastore X dX8_suburb_249 okM_8 hg14 ?_
    refine g_aload_n X dX8_suburb_250 1 rfl ?_
    refine g_get X dX8_suburb_251 okM_0 cl8 16 (by decide) m_834 rfl ?_
    refine g_iload_n X dX8_suburb_254 2 rfl ?_
    refine g_iconst X dX8_suburb_255 (v := 0) rfl ?_
    refine g_iastore X dX8_suburb_256 okM_9 hg14 ?_
    refine g_iinc X dX8_suburb_257 2 rfl 1 rfl (by decide) [(1, .int (x1 + 1)), (2, .int (((I 0 2) + 1) + (5 * x1))), (0, .ref (V.2.2 0))] rfl ?_
    refine g_goto X dX8_suburb_260 (tgt := 158) (by decide) ?_
    refine g_sub [2, 0] rfl ?_
    exact hk158 (x1 + 1)  (pI (pI (pI (pI (pI (pI I13 4 (Int32.toNatClampNeg x1) r13) 5 (Int32.toNatClampNeg x1) (((pI I13 4 (Int32.toNatClampNeg x1) r13) 1 (Int32.toNatClampNeg ((((I 0 2) + 1) + (5 * x1)) + 1))) - 48)) 6 (Int32.toNatClampNeg x1) (((pI (pI I13 4 (Int32.toNatClampNeg x1) r13) 5 (Int32.toNatClampNeg x1) (((pI I13 4 (Int32.toNatClampNeg x1) r13) 1 (Int32.toNatClampNeg ((((I 0 2) + 1) + (5 * x1)) + 1))) - 48)) 1 (Int32.toNatClampNeg ((((I 0 2) + 1) + (5 * x1)) + 2))) - 48)) 7 (Int32.toNatClampNeg x1) (((pI (pI (pI I13 4 (Int32.toNatClampNeg x1) r13) 5 (Int32.toNatClampNeg x1) (((pI I13 4 (Int32.toNatClampNeg x1) r13) 1 (Int32.toNatClampNeg ((((I 0 2) + 1) + (5 * x1)) + 1))) - 48)) 6 (Int32.toNatClampNeg x1) (((pI (pI I13 4 (Int32.toNatClampNeg x1) r13) 5 (Int32.toNatClampNeg x1) (((pI I13 4 (Int32.toNatClampNeg x1) r13) 1 (Int32.toNatClampNeg ((((I 0 2) + 1) + (5 * x1)) + 1))) - 48)) 1 (Int32.toNatClampNeg ((((I 0 2) + 1) + (5 * x1)) + 2))) - 48)) 1 (Int32.toNatClampNeg ((((I 0 2) + 1) + (5 * x1)) + 3))) - 48)) 8 (Int32.toNatClampNeg x1) 0) 9 (Int32.toNatClampNeg x1) 0) J13 hf
set_option maxRecDepth 4000 in
theorem wLX8_suburb_158 {M : MT} {V : VT}  (X : Cx M mS V cX8_suburb 3 RX8 (some .int) 5) {q : RT Int32} (hQ : PI M mS V q)  : ∀ (n : Nat) (x1 : Int32)  (I : aI) (J : aJ), LX8_suburb_158   n x1 I J = some q → Wg M mS V 3 I J 158 [(0, .ref (V.2.2 0)), (1, .int x1)] [] := by
  intro n
  induction n with
  | zero => intro x1  I J hf; cases hf
  | succ n ih => intro x1  I J hf; exact wHX8_suburb_158  X hQ  (LX8_suburb_158   n) ih x1  I J hf
set_option maxRecDepth 4000 in
theorem wHX8_suburb_104 {M : MT} {V : VT}  (X : Cx M mS V cX8_suburb 3 RX8 (some .int) 5) {q : RT Int32} (hQ : PI M mS V q) (k104 : Int32 → aI → aJ → Option (RT Int32)) (hk104 : ∀ (x1 : Int32)  (I : aI) (J : aJ), k104 x1 I J = some q → Wg M mS V 3 I J 104 [(0, .ref (V.2.2 0)), (1, .int x1)] []) (x1 : Int32)  (I : aI) (J : aJ) (hf : HX8_suburb_104  k104 x1 I J = some q) : Wg M mS V 3 I J 104 [(0, .ref (V.2.2 0)), (1, .int x1)] [] := by
  unfold HX8_suburb_104 at hf
  refine g_iload_n X dX8_suburb_104 1 rfl ?_
  refine g_aload_n X dX8_suburb_105 0 rfl ?_
  refine g_get X dX8_suburb_106 okM_0 cl8 4 (by decide) m_822 rfl ?_
  refine g_icmp_ge X dX8_suburb_109 (tgt := 156) (by decide) (fun hc6 => ?_) (fun hc6 => ?_)
  · rw [if_pos hc6] at hf
    refine g_iconst X dX8_suburb_156 (v := 0) rfl ?_
    refine g_istore_n X dX8_suburb_157 (by decide) [(1, .int 0), (0, .ref (V.2.2 0))] rfl ?_
    refine g_sub [1, 0] rfl ?_
    exact wLX8_suburb_158  X hQ  128 0  I J hf
  · rw [if_neg hc6] at hf
    refine g_aload_n X dX8_suburb_112 0 rfl ?_
    refine g_get X dX8_suburb_113 okM_0 cl8 9 (by decide) m_827 rfl ?_
    refine g_iload_n X dX8_suburb_116 1 rfl ?_
    refine g_aload_n X dX8_suburb_117 0 rfl ?_
    refine g_get X dX8_suburb_118 okM_0 cl8 0 (by decide) m_818 rfl ?_
    refine g_iconst X dX8_suburb_121 (v := 3) rfl ?_
    refine g_iconst X dX8_suburb_122 (v := 3) rfl ?_
    refine g_iload_n X dX8_suburb_123 1 rfl ?_
    refine g_imul X dX8_suburb_124 ?_
    refine g_iadd X dX8_suburb_125 ?_
    obtain ⟨hg7, hf⟩ := gd_some hf
    refine g_iaload X dX8_suburb_126 okM_1 hg7 ?_
    refine g_bipush X dX8_suburb_127 (v := 48) rfl ?_
    refine g_isub X dX8_suburb_129 ?_
    obtain ⟨hg8, hf⟩ := gd_some hf
    refine g_iastore X dX8_suburb_130 okM_2 hg8 ?_
    refine g_aload_n X dX8_suburb_131 0 rfl ?_
    refine g_get X dX8_suburb_132 okM_0 cl8 10 (by decide) m_828 rfl ?_
    refine g_iload_n X dX8_suburb_135 1 rfl ?_
    refine g_aload_n X dX8_suburb_136 0 rfl ?_
    refine g_get X dX8_suburb_137 okM_0 cl8 0 (by decide) m_818 rfl ?_
    refine g_iconst X dX8_suburb_140 (v := 4) rfl ?_
    refine g_iconst X dX8_suburb_141 (v := 3) rfl ?_
    refine g_iload_n X dX8_suburb_142 1 rfl ?_
    refine g_imul X dX8_suburb_143 ?_
    refine g_iadd X dX8_suburb_144 ?_
    obtain ⟨hg9, hf⟩ := gd_some hf
    refine g_iaload X dX8_suburb_145 okM_1 hg9 ?_
    refine g_bipush X dX8_suburb_146 (v := 48) rfl ?_
    refine g_isub X dX8_suburb_148 ?_
    refine g_iastore X dX8_suburb_149 okM_3 hg8 ?_
    refine g_iinc X dX8_suburb_150 1 rfl 1 rfl (by decide) [(1, .int (x1 + 1)), (0, .ref (V.2.2 0))] rfl ?_
    refine g_goto X dX8_suburb_153 (tgt := 104) (by decide) ?_
    refine g_sub [1, 0] rfl ?_
    exact hk104 (x1 + 1)  (pI (pI I 2 (Int32.toNatClampNeg x1) ((I 1 (Int32.toNatClampNeg (3 + (3 * x1)))) - 48)) 3 (Int32.toNatClampNeg x1) (((pI I 2 (Int32.toNatClampNeg x1) ((I 1 (Int32.toNatClampNeg (3 + (3 * x1)))) - 48)) 1 (Int32.toNatClampNeg (4 + (3 * x1)))) - 48)) J hf
set_option maxRecDepth 4000 in
theorem wLX8_suburb_104 {M : MT} {V : VT}  (X : Cx M mS V cX8_suburb 3 RX8 (some .int) 5) {q : RT Int32} (hQ : PI M mS V q)  : ∀ (n : Nat) (x1 : Int32)  (I : aI) (J : aJ), LX8_suburb_104   n x1 I J = some q → Wg M mS V 3 I J 104 [(0, .ref (V.2.2 0)), (1, .int x1)] [] := by
  intro n
  induction n with
  | zero => intro x1  I J hf; cases hf
  | succ n ih => intro x1  I J hf; exact wHX8_suburb_104  X hQ  (LX8_suburb_104   n) ih x1  I J hf
set_option maxRecDepth 4000 in
theorem wX8_suburb {M : MT} {V : VT} (X : Cx M mS V cX8_suburb 3 RX8 (some .int) 5) {q : RT Int32} (hQ : PI M mS V q)   (I : aI) (J : aJ) (hf : fX8_suburb  I J = some q) : Wg M mS V 3 I J 0 [(0, .ref (V.2.2 0))] [] := by
  unfold fX8_suburb at hf
  refine g_aload_n X dX8_suburb_0 0 rfl ?_
  obtain ⟨r1, I1, J1, hb1, hf⟩ := bnd_some hf
  refine g_callV X dX8_suburb_1 cw_X8_127 (k := 0) (As := []) (rcv okM_0 cl8) rfl rfl (Nat.le_of_ble_eq_true rfl) (by decide) (cX8_faultOf_ok  M.2.1 V   I J hb1) (kI ?_)
  refine g_aload_n X dX8_suburb_4 0 rfl ?_
  refine g_get X dX8_suburb_5 okM_0 cl8 1 (by decide) m_819 rfl ?_
  refine g_icmp_lt X dX8_suburb_8 (tgt := 46) (by decide) (fun hc2 => ?_) (fun hc2 => ?_)
  · rw [if_pos hc2] at hf
    refine g_sub [] rfl ?_
    exact wBX8_suburb_46  X hQ    I1 J1 hf
  · rw [if_neg hc2] at hf
    refine g_aload_n X dX8_suburb_11 0 rfl ?_
    refine g_get X dX8_suburb_12 okM_0 cl8 2 (by decide) m_820 rfl ?_
    refine g_if_eq X dX8_suburb_15 (tgt := 46) (by decide) (fun hc3 => ?_) (fun hc3 => ?_)
    · rw [if_pos hc3] at hf
      refine g_sub [] rfl ?_
      exact wBX8_suburb_46  X hQ    I1 J1 hf
    · rw [if_neg hc3] at hf
      refine g_aload_n X dX8_suburb_18 0 rfl ?_
      refine g_get X dX8_suburb_19 okM_0 cl8 1 (by decide) m_819 rfl ?_
      refine g_aload_n X dX8_suburb_22 0 rfl ?_
      refine g_get X dX8_suburb_23 okM_0 cl8 2 (by decide) m_820 rfl ?_
      refine g_bipush X dX8_suburb_26 (v := 10) rfl ?_
      refine g_iadd X dX8_suburb_28 ?_
      refine g_icmp_lt X dX8_suburb_29 (tgt := 46) (by decide) (fun hc4 => ?_) (fun hc4 => ?_)
      · rw [if_pos hc4] at hf
        refine g_sub [] rfl ?_
        exact wBX8_suburb_46  X hQ    I1 J1 hf
      · rw [if_neg hc4] at hf
        refine g_aload_n X dX8_suburb_32 0 rfl ?_
        refine g_get X dX8_suburb_33 okM_0 cl8 1 (by decide) m_819 rfl ?_
        refine g_aload_n X dX8_suburb_36 0 rfl ?_
        refine g_get X dX8_suburb_37 okM_0 cl8 2 (by decide) m_820 rfl ?_
        refine g_isub X dX8_suburb_40 ?_
        refine g_iconst X dX8_suburb_41 (v := 5) rfl ?_
        refine g_irem X dX8_suburb_42 (by decide) ?_
        refine g_if_eq X dX8_suburb_43 (tgt := 49) (by decide) (fun hc5 => ?_) (fun hc5 => ?_)
        · rw [if_pos hc5] at hf
          refine g_aload_n X dX8_suburb_49 0 rfl ?_
          refine g_aload_n X dX8_suburb_50 0 rfl ?_
          refine g_get X dX8_suburb_51 okM_0 cl8 0 (by decide) m_818 rfl ?_
          refine g_iconst X dX8_suburb_54 (v := 0) rfl ?_
          refine g_iaload X dX8_suburb_55 okM_1 (by decide : inb 0 60 = true) ?_
          refine g_bipush X dX8_suburb_56 (v := 48) rfl ?_
          refine g_isub X dX8_suburb_58 ?_
          refine g_putI X dX8_suburb_59 okM_0 cl8 3 (by decide) m_821 rfl .int rfl rfl rfl (Nat.le_of_ble_eq_true rfl) (fun _ _ => rfl) ?_
          refine g_aload_n X dX8_suburb_62 0 rfl ?_
          refine g_aload_n X dX8_suburb_63 0 rfl ?_
          refine g_get X dX8_suburb_64 okM_0 cl8 0 (by decide) m_818 rfl ?_
          refine g_iconst X dX8_suburb_67 (v := 1) rfl ?_
          refine g_iaload X dX8_suburb_68 okM_1 (by decide : inb 1 60 = true) ?_
          refine g_bipush X dX8_suburb_69 (v := 48) rfl ?_
          refine g_isub X dX8_suburb_71 ?_
          refine g_putI X dX8_suburb_72 okM_0 cl8 6 (by decide) m_824 rfl .int rfl rfl rfl (Nat.le_of_ble_eq_true rfl) (fun _ _ => rfl) ?_
          refine g_aload_n X dX8_suburb_75 0 rfl ?_
          refine g_aload_n X dX8_suburb_76 0 rfl ?_
          refine g_get X dX8_suburb_77 okM_0 cl8 2 (by decide) m_820 rfl ?_
          refine g_iconst X dX8_suburb_80 (v := 2) rfl ?_
          refine g_isub X dX8_suburb_81 ?_
          refine g_iconst X dX8_suburb_82 (v := 3) rfl ?_
          refine g_idiv X dX8_suburb_83 (by decide) ?_
          refine g_putI X dX8_suburb_84 okM_0 cl8 4 (by decide) m_822 rfl .int rfl rfl rfl (Nat.le_of_ble_eq_true rfl) (fun _ _ => rfl) ?_
          refine g_aload_n X dX8_suburb_87 0 rfl ?_
          refine g_aload_n X dX8_suburb_88 0 rfl ?_
          refine g_get X dX8_suburb_89 okM_0 cl8 1 (by decide) m_819 rfl ?_
          refine g_aload_n X dX8_suburb_92 0 rfl ?_
          refine g_get X dX8_suburb_93 okM_0 cl8 2 (by decide) m_820 rfl ?_
          refine g_isub X dX8_suburb_96 ?_
          refine g_iconst X dX8_suburb_97 (v := 5) rfl ?_
          refine g_idiv X dX8_suburb_98 (by decide) ?_
          refine g_putI X dX8_suburb_99 okM_0 cl8 5 (by decide) m_823 rfl .int rfl rfl rfl (Nat.le_of_ble_eq_true rfl) (fun _ _ => rfl) ?_
          refine g_iconst X dX8_suburb_102 (v := 0) rfl ?_
          refine g_istore_n X dX8_suburb_103 (by decide) [(1, .int 0), (0, .ref (V.2.2 0))] rfl ?_
          refine g_sub [1, 0] rfl ?_
          exact wLX8_suburb_104  X hQ  128 0  (pI (pI (pI (pI I1 0 3 ((I1 1 (Int32.toNatClampNeg 0)) - 48)) 0 6 (((pI I1 0 3 ((I1 1 (Int32.toNatClampNeg 0)) - 48)) 1 (Int32.toNatClampNeg 1)) - 48)) 0 4 ((((pI (pI I1 0 3 ((I1 1 (Int32.toNatClampNeg 0)) - 48)) 0 6 (((pI I1 0 3 ((I1 1 (Int32.toNatClampNeg 0)) - 48)) 1 (Int32.toNatClampNeg 1)) - 48)) 0 2) - 2) / 3)) 0 5 ((((pI (pI (pI I1 0 3 ((I1 1 (Int32.toNatClampNeg 0)) - 48)) 0 6 (((pI I1 0 3 ((I1 1 (Int32.toNatClampNeg 0)) - 48)) 1 (Int32.toNatClampNeg 1)) - 48)) 0 4 ((((pI (pI I1 0 3 ((I1 1 (Int32.toNatClampNeg 0)) - 48)) 0 6 (((pI I1 0 3 ((I1 1 (Int32.toNatClampNeg 0)) - 48)) 1 (Int32.toNatClampNeg 1)) - 48)) 0 2) - 2) / 3)) 0 1) - ((pI (pI (pI I1 0 3 ((I1 1 (Int32.toNatClampNeg 0)) - 48)) 0 6 (((pI I1 0 3 ((I1 1 (Int32.toNatClampNeg 0)) - 48)) 1 (Int32.toNatClampNeg 1)) - 48)) 0 4 ((((pI (pI I1 0 3 ((I1 1 (Int32.toNatClampNeg 0)) - 48)) 0 6 (((pI I1 0 3 ((I1 1 (Int32.toNatClampNeg 0)) - 48)) 1 (Int32.toNatClampNeg 1)) - 48)) 0 2) - 2) / 3)) 0 2)) / 5)) J1 hf
        · rw [if_neg hc5] at hf
          refine g_sub [] rfl ?_
          exact wBX8_suburb_46  X hQ    I1 J1 hf
set_option maxRecDepth 4000 in
theorem cX8_suburb_ok (l : Launch) (V : VT)   (I : aI) (J : aJ) {q : RT Int32} (hf : fX8_suburb  I J = some q) : Met l yX8_suburb (.code yX8_suburb cX8_suburb 3 (some .int) :: GG) (rmD 5) (va_Pc [.ref (V.2.2 0)] (cQ mS V I J)) (QI mS V q) 0 0 (vAd mS V) :=
  met_I (by decide +kernel) rfl (Nat.le_of_ble_eq_true rfl) (fun _ _ X hQ => wX8_suburb X hQ   I J hf)
