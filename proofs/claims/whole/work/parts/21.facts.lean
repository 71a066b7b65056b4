/-! what holds of each held class -/
theorem lay_good {C : String} {T : u_T} {N : Nat} {ps : List Nat} (h : u_ws C T N = ps.filterMap (fun i => wAt i)) : ∀ w ∈ u_ws C T N, w ∈ lw_good := by
  intro w hw
  have h2 := hw
  rw [h] at h2
  obtain ⟨i, -, hi⟩ := List.mem_filterMap.mp h2
  refine good_at hi ?_
  obtain ⟨k, -, rfl⟩ := List.mem_map.mp hw
  unfold u_lay
  split <;> rfl
def refD (d : String) : Bool := match parseFieldDescriptor d with
  | some (.object _) => true
  | some (.array _) => true
  | _ => false
def vwOk (q : vw_C) : Prop := (∀ w ∈ u_ws q.1 q.2.1 q.2.2, w ∈ lw_good) ∧ (∃ ty : Nat → FieldType, ∀ k, k < q.2.2 → parseFieldDescriptor (q.2.1 k).2.2.1 = some (ty k)) ∧ (∀ a, a < q.2.2 → ∀ b, b < q.2.2 → a ≠ b → (q.2.1 a).2.1 ≠ (q.2.1 b).2.1) ∧ (∀ k, k < q.2.2 → kdD (q.2.1 k).2.2.1 = 3 → refD (q.2.1 k).2.2.1 = true)
set_option maxRecDepth 100000 in
theorem vin_0 : u_ws RJ6 TJ6 1 = [536].filterMap (fun i => wAt i) := by decide +kernel
theorem vwo_0 : vwOk (RJ6, TJ6, 1) := ⟨lay_good vin_0, ⟨tyJ6, tyJ6_ok⟩, nmJ6, by decide +kernel⟩
set_option maxRecDepth 100000 in
theorem vin_1 : u_ws RJx4a65c TJx4a65c 3 = [300, 296, 298].filterMap (fun i => wAt i) := by decide +kernel
theorem vwo_1 : vwOk (RJx4a65c, TJx4a65c, 3) := ⟨lay_good vin_1, ⟨tyJx4a65c, tyJx4a65c_ok⟩, nmJx4a65c, by decide +kernel⟩
set_option maxRecDepth 100000 in
theorem vin_2 : u_ws RX0 TX0 4 = [730, 732, 734, 736].filterMap (fun i => wAt i) := by decide +kernel
theorem vwo_2 : vwOk (RX0, TX0, 4) := ⟨lay_good vin_2, ⟨tyX0, tyX0_ok⟩, nmX0, by decide +kernel⟩
set_option maxRecDepth 100000 in
theorem vin_3 : u_ws RX1 TX1 10 = [880, 882, 884, 886, 888, 890, 892, 894, 896, 898].filterMap (fun i => wAt i) := by decide +kernel
theorem vwo_3 : vwOk (RX1, TX1, 10) := ⟨lay_good vin_3, ⟨tyX1, tyX1_ok⟩, nmX1, by decide +kernel⟩
set_option maxRecDepth 100000 in
theorem vin_4 : u_ws RX2 TX2 2 = [933, 935].filterMap (fun i => wAt i) := by decide +kernel
theorem vwo_4 : vwOk (RX2, TX2, 2) := ⟨lay_good vin_4, ⟨tyX2, tyX2_ok⟩, nmX2, by decide +kernel⟩
set_option maxRecDepth 100000 in
theorem vin_5 : u_ws RX3 TX3 6 = [263, 265, 267, 269, 271, 273].filterMap (fun i => wAt i) := by decide +kernel
theorem vwo_5 : vwOk (RX3, TX3, 6) := ⟨lay_good vin_5, ⟨tyX3, tyX3_ok⟩, nmX3, by decide +kernel⟩
set_option maxRecDepth 100000 in
theorem vin_6 : u_ws RX4 TX4 4 = [628, 630, 632, 634].filterMap (fun i => wAt i) := by decide +kernel
theorem vwo_6 : vwOk (RX4, TX4, 4) := ⟨lay_good vin_6, ⟨tyX4, tyX4_ok⟩, nmX4, by decide +kernel⟩
set_option maxRecDepth 100000 in
theorem vin_7 : u_ws RX5 TX5 7 = [365, 367, 369, 371, 373, 375, 377].filterMap (fun i => wAt i) := by decide +kernel
theorem vwo_7 : vwOk (RX5, TX5, 7) := ⟨lay_good vin_7, ⟨tyX5, tyX5_ok⟩, nmX5, by decide +kernel⟩
set_option maxRecDepth 100000 in
theorem vin_8 : u_ws RX6 TX6 16 = [799, 801, 803, 805, 807, 809, 811, 813, 815, 817, 819, 821, 823, 825, 827, 829].filterMap (fun i => wAt i) := by decide +kernel
theorem vwo_8 : vwOk (RX6, TX6, 16) := ⟨lay_good vin_8, ⟨tyX6, tyX6_ok⟩, nmX6, by decide +kernel⟩
set_option maxRecDepth 100000 in
theorem vin_9 : u_ws RX7 TX7 7 = [192, 194, 196, 198, 200, 202, 204].filterMap (fun i => wAt i) := by decide +kernel
theorem vwo_9 : vwOk (RX7, TX7, 7) := ⟨lay_good vin_9, ⟨tyX7, tyX7_ok⟩, nmX7, by decide +kernel⟩
set_option maxRecDepth 100000 in
theorem vin_10 : u_ws RX8 TX8 4 = [317, 319, 321, 323].filterMap (fun i => wAt i) := by decide +kernel
theorem vwo_10 : vwOk (RX8, TX8, 4) := ⟨lay_good vin_10, ⟨tyX8, tyX8_ok⟩, nmX8, by decide +kernel⟩
set_option maxRecDepth 100000 in
theorem vin_11 : u_ws RX9 TX9 3 = [219, 221, 223].filterMap (fun i => wAt i) := by decide +kernel
theorem vwo_11 : vwOk (RX9, TX9, 3) := ⟨lay_good vin_11, ⟨tyX9, tyX9_ok⟩, nmX9, by decide +kernel⟩
set_option maxRecDepth 100000 in
theorem vin_12 : u_ws RX10 TX10 9 = [663, 665, 667, 669, 671, 673, 675, 677, 679].filterMap (fun i => wAt i) := by decide +kernel
theorem vwo_12 : vwOk (RX10, TX10, 9) := ⟨lay_good vin_12, ⟨tyX10, tyX10_ok⟩, nmX10, by decide +kernel⟩
set_option maxRecDepth 100000 in
theorem vin_13 : u_ws RX11 TX11 3 = [329, 331, 333].filterMap (fun i => wAt i) := by decide +kernel
theorem vwo_13 : vwOk (RX11, TX11, 3) := ⟨lay_good vin_13, ⟨tyX11, tyX11_ok⟩, nmX11, by decide +kernel⟩
set_option maxRecDepth 100000 in
theorem vin_14 : u_ws RX12 TX12 75 = [1283, 1285, 1287, 1289, 1291, 1293, 1295, 1297, 1299, 1301, 1303, 1305, 1307, 1309, 1311, 1313, 1315, 1317, 1319, 1321, 1323, 1325, 1327, 1329, 1331, 1333, 1335, 1337, 1339, 1341, 1343, 1345, 1347, 1349, 1351, 1353, 1355, 1357, 1359, 1361, 1363, 1365, 1367, 1369, 1371, 1373, 1375, 1377, 1379, 1381, 1383, 1385, 1387, 1389, 1391, 1393, 1395, 1397, 1399, 1401, 1403, 1405, 1407, 1409, 1411, 1413, 1415, 1417, 1419, 1421, 1423, 1425, 1427, 1429, 1431].filterMap (fun i => wAt i) := by decide +kernel
theorem vwo_14 : vwOk (RX12, TX12, 75) := ⟨lay_good vin_14, ⟨tyX12, tyX12_ok⟩, nmX12, by decide +kernel⟩
theorem vw_ok : ∀ q ∈ vwCl, vwOk q := List.forall_mem_cons.mpr ⟨vwo_0, List.forall_mem_cons.mpr ⟨vwo_1, List.forall_mem_cons.mpr ⟨vwo_2, List.forall_mem_cons.mpr ⟨vwo_3, List.forall_mem_cons.mpr ⟨vwo_4, List.forall_mem_cons.mpr ⟨vwo_5, List.forall_mem_cons.mpr ⟨vwo_6, List.forall_mem_cons.mpr ⟨vwo_7, List.forall_mem_cons.mpr ⟨vwo_8, List.forall_mem_cons.mpr ⟨vwo_9, List.forall_mem_cons.mpr ⟨vwo_10, List.forall_mem_cons.mpr ⟨vwo_11, List.forall_mem_cons.mpr ⟨vwo_12, List.forall_mem_cons.mpr ⟨vwo_13, List.forall_mem_cons.mpr ⟨vwo_14, fun _ h => absurd h List.not_mem_nil⟩⟩⟩⟩⟩⟩⟩⟩⟩⟩⟩⟩⟩⟩⟩
theorem vw_at {ci : Nat} {q : vw_C} (h : vwCl[ci]? = some q) : vwOk q ∧ ci < 15 := ⟨vw_ok q (List.mem_of_getElem? h), (List.getElem?_eq_some_iff.mp h).1⟩
theorem kd_I {d : String} (h : kdD d = 0) : d = "I" := by
  unfold kdD at h
  split at h
  · assumption
  · split at h
    · omega
    · split at h <;> omega
theorem kd_Z {d : String} (h : kdD d = 1) : d = "Z" := by
  unfold kdD at h
  split at h
  · omega
  · split at h
    · assumption
    · split at h <;> omega
theorem kd_J {d : String} (h : kdD d = 2) : d = "J" := by
  unfold kdD at h
  split at h
  · omega
  · split at h
    · omega
    · split at h
      · assumption
      · omega
theorem kd_le (d : String) : kdD d ≤ 3 := by
  unfold kdD
  split
  · omega
  · split
    · omega
    · split <;> omega
theorem pd_I : parseFieldDescriptor "I" = some .int := by decide +kernel
theorem pd_Z : parseFieldDescriptor "Z" = some .boolean := by decide +kernel
theorem pd_J : parseFieldDescriptor "J" = some .long := by decide +kernel
theorem pd_ref {d : String} (h : refD d = true) : ∃ ty, parseFieldDescriptor d = some ty ∧ ((∃ n, ty = .object n) ∨ ∃ t, ty = .array t) := by
  unfold refD at h
  split at h
  · exact ⟨_, by assumption, Or.inl ⟨_, rfl⟩⟩
  · exact ⟨_, by assumption, Or.inr ⟨_, rfl⟩⟩
  · cases h
/-- a field link -/
def FL (own : String) (idx f : Nat) (C : String) (T : u_T) (N : Nat) : Prop := vwCl[f / 100 % 100]? = some (C, T, N) ∧ f % 100 < N ∧ f = fid (f / 100 % 100) T (f % 100) ∧
  (Cond.fieldLink own idx (T (f % 100)).1 (T (f % 100)).2.1 (T (f % 100)).2.2.1 ∈ lw_good ∨ Cond.fieldLinkNest own idx (T (f % 100)).1 (T (f % 100)).2.1 (T (f % 100)).2.2.1 "ThrowRules" ∈ lw_tbl ∨
   (Cond.fieldLink own idx C (T (f % 100)).2.1 (T (f % 100)).2.2.1 ∈ lw_good ∧ Cond.sameField C (T (f % 100)).1 (T (f % 100)).2.1 (T (f % 100)).2.2.1 ∈ lw_good))
theorem fl_facts {oc idx f : Nat} {own : String} (h : flAt oc idx f = true) (ho : ocN[oc]? = some own) : ∃ C T N, FL own idx f C T N := by
  obtain ⟨⟨oc', idx', f', w, g⟩, hq, he⟩ := List.any_eq_true.mp h
  simp only [Bool.and_eq_true, beq_iff_eq] at he
  obtain ⟨⟨rfl, rfl⟩, rfl⟩ := he
  have hk := List.all_eq_true.mp flk_all _ hq
  simp only [flkOk, ho] at hk
  split at hk
  · rename_i own' C T N e1 e2
    cases e1
    simp only [Bool.and_eq_true, decide_eq_true_eq] at hk
    obtain ⟨⟨⟨h1, h2⟩, h3⟩, h4⟩ := hk
    refine ⟨C, T, N, e2, h1, ?_, ?_⟩
    · unfold fid; rw [← h2]; omega
    · split at h4
      · exact Or.inl (good_at (of_decide_eq_true h4) rfl)
      · split at h4
        · exact Or.inr (Or.inl (tbl_at (of_decide_eq_true h4)))
        · simp only [Bool.and_eq_true, decide_eq_true_eq] at h4
          exact Or.inr (Or.inr ⟨good_at h4.1 rfl, h4.2⟩)
  · cases hk
/-- a link to a method -/
theorem ml_facts {oc idx K : Nat} {own : String} (h : mlAt oc idx K = true) (ho : ocN[oc]? = some own) : (K = 0 → Cond.methodLink own idx Lib.objectInit ∈ lw_good) ∧ (¬ K = 0 → Cond.methodLink own idx (minf (K / 1000000)).2.1 ∈ lw_good ∨ Cond.methodLinkNest own idx (minf (K / 1000000)).2.1 "ThrowRules" ∈ lw_tbl) := by
  obtain ⟨⟨oc', idx', K', w, g⟩, hq, he⟩ := List.any_eq_true.mp h
  simp only [Bool.and_eq_true, beq_iff_eq] at he
  obtain ⟨⟨rfl, rfl⟩, rfl⟩ := he
  have hk := List.all_eq_true.mp mlk_all _ hq
  simp only [mlkOk, ho] at hk
  refine ⟨fun h0 => ?_, fun h0 => ?_⟩
  · rw [if_pos h0] at hk
    exact good_at (of_decide_eq_true hk) rfl
  · rw [if_neg h0] at hk
    split at hk
    · exact Or.inl (good_at (of_decide_eq_true hk) rfl)
    · exact Or.inr (tbl_at (of_decide_eq_true hk))
theorem nl_facts {oc idx f : Nat} {own : String} (h : nlAt oc idx f = true) (ho : ocN[oc]? = some own) : ∃ C T N, vwCl[f % 100]? = some (C, T, N) ∧ f / 100 = N ∧ Cond.classLink own idx C ∈ lw_good ∧ Cond.instantiable C N ∈ lw_good ∧ Cond.initialized C ∈ lw_good := by
  obtain ⟨⟨oc', idx', f', w, w2, w3⟩, hq, he⟩ := List.any_eq_true.mp h
  simp only [Bool.and_eq_true, beq_iff_eq] at he
  obtain ⟨⟨rfl, rfl⟩, rfl⟩ := he
  have hk := List.all_eq_true.mp nlk_all _ hq
  simp only [nlkOk, ho] at hk
  split at hk
  · rename_i own' C T N e1 e2
    cases e1
    simp only [Bool.and_eq_true, decide_eq_true_eq] at hk
    obtain ⟨⟨⟨h1, h2⟩, h3⟩, h4⟩ := hk
    exact ⟨C, T, N, e2, h1, good_at h2 rfl, good_at h3 rfl, good_at h4 rfl⟩
  · cases hk
theorem ll_facts {oc idx : Nat} {v : Int} {own : String} (h : llAt oc idx v = true) (ho : ocN[oc]? = some own) : Cond.constantLong own idx (Int64.ofInt v) ∈ lw_good := by
  obtain ⟨⟨oc', idx', v', w⟩, hq, he⟩ := List.any_eq_true.mp h
  simp only [Bool.and_eq_true, beq_iff_eq] at he
  obtain ⟨⟨rfl, rfl⟩, rfl⟩ := he
  have hk := List.all_eq_true.mp llk_all _ hq
  simp only [llkOk, ho] at hk
  exact good_at (of_decide_eq_true hk) rfl
theorem il_facts {oc idx : Nat} {v : Int} {own : String} (h : ilAt oc idx v = true) (ho : ocN[oc]? = some own) : Cond.constant own idx (Int32.ofInt v) ∈ lw_good := by
  obtain ⟨⟨oc', idx', v', w⟩, hq, he⟩ := List.any_eq_true.mp h
  simp only [Bool.and_eq_true, beq_iff_eq] at he
  obtain ⟨⟨rfl, rfl⟩, rfl⟩ := he
  have hk := List.all_eq_true.mp ilk_all _ hq
  simp only [ilkOk, ho] at hk
  exact good_at (of_decide_eq_true hk) rfl
