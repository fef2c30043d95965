/-! the law's methods: what a call of each wants (by wip/tools/law.py) -/
def sl_Mth (l : Launch) (lay : sf_Lay) (idx na : Nat) (F : List Value → sf_S → Option sf_Q) : Prop :=
  ∃ (y : MethodName) (cc : ByteArray) (nL : Nat) (ret : Option FieldType) (rm : Room) (ci : Nat) (fs : List (Option Nat)) (T : u_T) (N : Nat), sf_C l lay y cc nL ret rm F ∧ sf_MW y cc nL ret ∧ Cond.methodLink "StreamFuserLaw" idx y ∈ sf_T ∧ Cond.instanceMethod y ∈ sf_T ∧ Cond.selects y.cls y y ∈ sf_T ∧ (parseMethodDescriptor y.desc).map (fun d => d.parameters.length) = some na ∧ lay[0]? = some (.inl (ci, fs)) ∧ vwCl[ci]? = some (y.cls, T, N) ∧ (rm.frames + 1 ≤ 2048 ∧ 8 + (nL + 11) + rm.locals ≤ 84000)
theorem sl_mX11_type (l : Launch) : sl_Mth l sf_layC 13 1 (fun av σ => (gX11_type av σ).map sf_vI) := ⟨_, _, _, _, _, _, _, _, _, kX11_type l, mwX11_type, wt_534, wt_535, wt_536, by decide +kernel, rfl, rfl, ⟨by decide, by decide⟩⟩
theorem sl_mX12_type (l : Launch) : sl_Mth l sf_layM 17 1 (fun av σ => (gX12_type av σ).map sf_vI) := ⟨_, _, _, _, _, _, _, _, _, kX12_type l, mwX12_type, wt_1410, wt_1411, wt_1412, by decide +kernel, rfl, rfl, ⟨by decide, by decide⟩⟩
theorem sl_mX11_wipe (l : Launch) : sl_Mth l sf_layC 18 0 (fun av σ => (gX11_wipe av σ).map sf_vI) := ⟨_, _, _, _, _, _, _, _, _, kX11_wipe l, mwX11_wipe, wt_542, wt_543, wt_544, by decide +kernel, rfl, rfl, ⟨by decide, by decide⟩⟩
theorem sl_mX12_wipe (l : Launch) : sl_Mth l sf_layM 22 0 (fun av σ => (gX12_wipe av σ).map sf_vI) := ⟨_, _, _, _, _, _, _, _, _, kX12_wipe l, mwX12_wipe, wt_1415, wt_1416, wt_1417, by decide +kernel, rfl, rfl, ⟨by decide, by decide⟩⟩
theorem sl_mX11_fault (l : Launch) : sl_Mth l sf_layC 23 0 (fun av σ => (gX11_fault av σ).map sf_vI) := ⟨_, _, _, _, _, _, _, _, _, kX11_fault l, mwX11_fault, wt_546, wt_547, wt_548, by decide +kernel, rfl, rfl, ⟨by decide, by decide⟩⟩
theorem sl_mX12_fault (l : Launch) : sl_Mth l sf_layM 26 0 (fun av σ => (gX12_fault av σ).map sf_vI) := ⟨_, _, _, _, _, _, _, _, _, kX12_fault l, mwX12_fault, wt_1419, wt_1420, wt_1421, by decide +kernel, rfl, rfl, ⟨by decide, by decide⟩⟩
theorem sl_mX11_plan (l : Launch) : sl_Mth l sf_layC 27 0 (fun av σ => (gX11_plan av σ).map sf_vI) := ⟨_, _, _, _, _, _, _, _, _, kX11_plan l, mwX11_plan, wt_607, wt_608, wt_609, by decide +kernel, rfl, rfl, ⟨by decide, by decide⟩⟩
theorem sl_mX12_plan (l : Launch) : sl_Mth l sf_layM 30 0 (fun av σ => (gX12_plan av σ).map sf_vI) := ⟨_, _, _, _, _, _, _, _, _, kX12_plan l, mwX12_plan, wt_1453, wt_1454, wt_1455, by decide +kernel, rfl, rfl, ⟨by decide, by decide⟩⟩
theorem sl_mX11_node (l : Launch) : sl_Mth l sf_layC 31 2 (fun av σ => (gX11_node av σ).map sf_vI) := ⟨_, _, _, _, _, _, _, _, _, kX11_node l, mwX11_node, wt_655, wt_656, wt_657, by decide +kernel, rfl, rfl, ⟨by decide, by decide⟩⟩
theorem sl_mX12_node (l : Launch) : sl_Mth l sf_layM 35 2 (fun av σ => (gX12_node av σ).map sf_vI) := ⟨_, _, _, _, _, _, _, _, _, kX12_node l, mwX12_node, wt_1465, wt_1466, wt_1467, by decide +kernel, rfl, rfl, ⟨by decide, by decide⟩⟩
theorem sl_mX11_text (l : Launch) : sl_Mth l sf_layC 36 1 (fun av σ => (gX11_text av σ).map sf_vI) := ⟨_, _, _, _, _, _, _, _, _, kX11_text l, mwX11_text, wt_664, wt_665, wt_666, by decide +kernel, rfl, rfl, ⟨by decide, by decide⟩⟩
theorem sl_mX12_text (l : Launch) : sl_Mth l sf_layM 39 1 (fun av σ => (gX12_text av σ).map sf_vI) := ⟨_, _, _, _, _, _, _, _, _, kX12_text l, mwX12_text, wt_1478, wt_1479, wt_1480, by decide +kernel, rfl, rfl, ⟨by decide, by decide⟩⟩
theorem sl_mX11_tidy (l : Launch) : sl_Mth l sf_layC 40 1 (fun av σ => (gX11_tidy av σ).map sf_vI) := ⟨_, _, _, _, _, _, _, _, _, kX11_tidy l, mwX11_tidy, wt_668, wt_669, wt_670, by decide +kernel, rfl, rfl, ⟨by decide, by decide⟩⟩
theorem sl_mX12_tidy (l : Launch) : sl_Mth l sf_layM 43 1 (fun av σ => (gX12_tidy av σ).map sf_vI) := ⟨_, _, _, _, _, _, _, _, _, kX12_tidy l, mwX12_tidy, wt_1502, wt_1503, wt_1504, by decide +kernel, rfl, rfl, ⟨by decide, by decide⟩⟩
theorem sl_mX11_rules (l : Launch) : sl_Mth l sf_layC 44 1 (fun av σ => (gX11_rules av σ).map sf_vI) := ⟨_, _, _, _, _, _, _, _, _, kX11_rules l, mwX11_rules, wt_751, wt_752, wt_753, by decide +kernel, rfl, rfl, ⟨by decide, by decide⟩⟩
theorem sl_mX12_rules (l : Launch) : sl_Mth l sf_layM 47 1 (fun av σ => (gX12_rules av σ).map sf_vI) := ⟨_, _, _, _, _, _, _, _, _, kX12_rules l, mwX12_rules, wt_1560, wt_1561, wt_1562, by decide +kernel, rfl, rfl, ⟨by decide, by decide⟩⟩
theorem sl_mX11_saves (l : Launch) : sl_Mth l sf_layC 48 1 (fun av σ => (gX11_saves av σ).map sf_vI) := ⟨_, _, _, _, _, _, _, _, _, kX11_saves l, mwX11_saves, wt_755, wt_756, wt_757, by decide +kernel, rfl, rfl, ⟨by decide, by decide⟩⟩
theorem sl_mX12_saves (l : Launch) : sl_Mth l sf_layM 51 1 (fun av σ => (gX12_saves av σ).map sf_vI) := ⟨_, _, _, _, _, _, _, _, _, kX12_saves l, mwX12_saves, wt_1717, wt_1718, wt_1719, by decide +kernel, rfl, rfl, ⟨by decide, by decide⟩⟩
theorem sl_mX11_run (l : Launch) : sl_Mth l sf_layC 52 2 (fun av σ => (gX11_run av σ).map sf_vI) := ⟨_, _, _, _, _, _, _, _, _, kX11_run l, mwX11_run, wt_922, wt_923, wt_924, by decide +kernel, rfl, rfl, ⟨by decide, by decide⟩⟩
theorem sl_mX12_run (l : Launch) : sl_Mth l sf_layM 55 2 (fun av σ => (gX12_run av σ).map sf_vI) := ⟨_, _, _, _, _, _, _, _, _, kX12_run l, mwX12_run, wt_1565, wt_1566, wt_1567, by decide +kernel, rfl, rfl, ⟨by decide, by decide⟩⟩
theorem sl_mX11_result (l : Launch) : sl_Mth l sf_layC 56 1 (fun av σ => (gX11_result av σ).map sf_vL) := ⟨_, _, _, _, _, _, _, _, _, kX11_result l, mwX11_result, wt_1050, wt_1051, wt_1052, by decide +kernel, rfl, rfl, ⟨by decide, by decide⟩⟩
theorem sl_mX12_result (l : Launch) : sl_Mth l sf_layM 60 1 (fun av σ => (gX12_result av σ).map sf_vL) := ⟨_, _, _, _, _, _, _, _, _, kX12_result l, mwX12_result, wt_1676, wt_1677, wt_1678, by decide +kernel, rfl, rfl, ⟨by decide, by decide⟩⟩
theorem sl_mX11_fold (l : Launch) : sl_Mth l sf_layC 61 1 (fun av σ => (gX11_fold av σ).map sf_vL) := ⟨_, _, _, _, _, _, _, _, _, kX11_fold l, mwX11_fold, wt_1055, wt_1056, wt_1057, by decide +kernel, rfl, rfl, ⟨by decide, by decide⟩⟩
theorem sl_mX12_fold (l : Launch) : sl_Mth l sf_layM 64 1 (fun av σ => (gX12_fold av σ).map sf_vL) := ⟨_, _, _, _, _, _, _, _, _, kX12_fold l, mwX12_fold, wt_1684, wt_1685, wt_1686, by decide +kernel, rfl, rfl, ⟨by decide, by decide⟩⟩
theorem sl_mX11_failure (l : Launch) : sl_Mth l sf_layC 65 1 (fun av σ => (gX11_failure av σ).map sf_vI) := ⟨_, _, _, _, _, _, _, _, _, kX11_failure l, mwX11_failure, wt_1076, wt_1077, wt_1078, by decide +kernel, rfl, rfl, ⟨by decide, by decide⟩⟩
theorem sl_mX12_failure (l : Launch) : sl_Mth l sf_layM 68 1 (fun av σ => (gX12_failure av σ).map sf_vI) := ⟨_, _, _, _, _, _, _, _, _, kX12_failure l, mwX12_failure, wt_1693, wt_1694, wt_1695, by decide +kernel, rfl, rfl, ⟨by decide, by decide⟩⟩
theorem sl_mX11_told (l : Launch) : sl_Mth l sf_layC 69 1 (fun av σ => (gX11_told av σ).map sf_vI) := ⟨_, _, _, _, _, _, _, _, _, kX11_told l, mwX11_told, wt_1080, wt_1081, wt_1082, by decide +kernel, rfl, rfl, ⟨by decide, by decide⟩⟩
theorem sl_mX12_told (l : Launch) : sl_Mth l sf_layM 72 1 (fun av σ => (gX12_told av σ).map sf_vI) := ⟨_, _, _, _, _, _, _, _, _, kX12_told l, mwX12_told, wt_1697, wt_1698, wt_1699, by decide +kernel, rfl, rfl, ⟨by decide, by decide⟩⟩
theorem sl_mX11_written (l : Launch) : sl_Mth l sf_layC 73 2 (fun av σ => (gX11_written av σ).map sf_vL) := ⟨_, _, _, _, _, _, _, _, _, kX11_written l, mwX11_written, wt_1084, wt_1085, wt_1086, by decide +kernel, rfl, rfl, ⟨by decide, by decide⟩⟩
theorem sl_mX12_written (l : Launch) : sl_Mth l sf_layM 77 2 (fun av σ => (gX12_written av σ).map sf_vL) := ⟨_, _, _, _, _, _, _, _, _, kX12_written l, mwX12_written, wt_1701, wt_1702, wt_1703, by decide +kernel, rfl, rfl, ⟨by decide, by decide⟩⟩
theorem sl_mX11_sheet (l : Launch) : sl_Mth l sf_layC 78 3 (fun av σ => (gX11_sheet av σ).map sf_vI) := ⟨_, _, _, _, _, _, _, _, _, kX11_sheet l, mwX11_sheet, wt_1092, wt_1093, wt_1094, by decide +kernel, rfl, rfl, ⟨by decide, by decide⟩⟩
theorem sl_mX12_sheet (l : Launch) : sl_Mth l sf_layM 82 3 (fun av σ => (gX12_sheet av σ).map sf_vI) := ⟨_, _, _, _, _, _, _, _, _, kX12_sheet l, mwX12_sheet, wt_1370, wt_1371, wt_1372, by decide +kernel, rfl, rfl, ⟨by decide, by decide⟩⟩
theorem sl_mX11_lose (l : Launch) : sl_Mth l sf_layC 83 1 (fun av σ => (gX11_lose av σ).map sf_vI) := ⟨_, _, _, _, _, _, _, _, _, kX11_lose l, mwX11_lose, wt_1108, wt_1109, wt_1110, by decide +kernel, rfl, rfl, ⟨by decide, by decide⟩⟩
theorem sl_mX12_lose (l : Launch) : sl_Mth l sf_layM 86 1 (fun av σ => (gX12_lose av σ).map sf_vI) := ⟨_, _, _, _, _, _, _, _, _, kX12_lose l, mwX12_lose, wt_1386, wt_1387, wt_1388, by decide +kernel, rfl, rfl, ⟨by decide, by decide⟩⟩
theorem sl_mX11_lay (l : Launch) : sl_Mth l sf_layC 87 4 (fun av σ => (gX11_lay av σ).map sf_vI) := ⟨_, _, _, _, _, _, _, _, _, kX11_lay l, mwX11_lay, wt_1113, wt_1114, wt_1115, by decide +kernel, rfl, rfl, ⟨by decide, by decide⟩⟩
theorem sl_mX12_lay (l : Launch) : sl_Mth l sf_layM 91 4 (fun av σ => (gX12_lay av σ).map sf_vI) := ⟨_, _, _, _, _, _, _, _, _, kX12_lay l, mwX12_lay, wt_1390, wt_1391, wt_1392, by decide +kernel, rfl, rfl, ⟨by decide, by decide⟩⟩
theorem sl_mX11_get (l : Launch) : sl_Mth l sf_layC 92 3 (fun av σ => (gX11_get av σ).map sf_vI) := ⟨_, _, _, _, _, _, _, _, _, kX11_get l, mwX11_get, wt_1133, wt_1134, wt_1135, by decide +kernel, rfl, rfl, ⟨by decide, by decide⟩⟩
theorem sl_mX12_get (l : Launch) : sl_Mth l sf_layM 95 3 (fun av σ => (gX12_get av σ).map sf_vI) := ⟨_, _, _, _, _, _, _, _, _, kX12_get l, mwX12_get, wt_1401, wt_1402, wt_1403, by decide +kernel, rfl, rfl, ⟨by decide, by decide⟩⟩
theorem sl_mX11_copy (l : Launch) : sl_Mth l sf_layC 96 5 (fun av σ => (gX11_copy av σ).map sf_vI) := ⟨_, _, _, _, _, _, _, _, _, kX11_copy l, mwX11_copy, wt_1138, wt_1139, wt_1140, by decide +kernel, rfl, rfl, ⟨by decide, by decide⟩⟩
theorem sl_mX12_copy (l : Launch) : sl_Mth l sf_layM 100 5 (fun av σ => (gX12_copy av σ).map sf_vI) := ⟨_, _, _, _, _, _, _, _, _, kX12_copy l, mwX12_copy, wt_1406, wt_1407, wt_1408, by decide +kernel, rfl, rfl, ⟨by decide, by decide⟩⟩
theorem sl_mX11_write (l : Launch) : sl_Mth l sf_layC 101 1 (fun av σ => (gX11_write av σ).map sf_vI) := ⟨_, _, _, _, _, _, _, _, _, kX11_write l, mwX11_write, wt_1152, wt_1153, wt_1154, by decide +kernel, rfl, rfl, ⟨by decide, by decide⟩⟩
theorem sl_mX12_write (l : Launch) : sl_Mth l sf_layM 104 1 (fun av σ => (gX12_write av σ).map sf_vI) := ⟨_, _, _, _, _, _, _, _, _, kX12_write l, mwX12_write, wt_1713, wt_1714, wt_1715, by decide +kernel, rfl, rfl, ⟨by decide, by decide⟩⟩
theorem sl_mX11_count (l : Launch) : sl_Mth l sf_layC 105 1 (fun av σ => (gX11_count av σ).map sf_vI) := ⟨_, _, _, _, _, _, _, _, _, kX11_count l, mwX11_count, wt_1157, wt_1158, wt_1159, by decide +kernel, rfl, rfl, ⟨by decide, by decide⟩⟩
theorem sl_mX12_count (l : Launch) : sl_Mth l sf_layM 108 1 (fun av σ => (gX12_count av σ).map sf_vI) := ⟨_, _, _, _, _, _, _, _, _, kX12_count l, mwX12_count, wt_1729, wt_1730, wt_1731, by decide +kernel, rfl, rfl, ⟨by decide, by decide⟩⟩
theorem sl_mX11_digest (l : Launch) : sl_Mth l sf_layC 109 0 (fun av σ => (gX11_digest av σ).map sf_vL) := ⟨_, _, _, _, _, _, _, _, _, kX11_digest l, mwX11_digest, wt_1161, wt_1162, wt_1163, by decide +kernel, rfl, rfl, ⟨by decide, by decide⟩⟩
theorem sl_mX12_digest (l : Launch) : sl_Mth l sf_layM 113 0 (fun av σ => (gX12_digest av σ).map sf_vL) := ⟨_, _, _, _, _, _, _, _, _, kX12_digest l, mwX12_digest, wt_1737, wt_1738, wt_1739, by decide +kernel, rfl, rfl, ⟨by decide, by decide⟩⟩
/-! the law's decode rows -/
theorem sl_dC0_type : sl_dA 141 1 := ⟨by decide +kernel, by decide +kernel, by decide +kernel, by decide +kernel, by decide +kernel⟩
theorem sl_dC_type : ∀ j, j < 1 → sl_dA (141 + 5 * j) (1 + j) := by
  intro j h
  match j, h with
  | 0, _ => exact sl_dC0_type
  | j + 1, h => omega
theorem sl_dM0_type : sl_dA 150 1 := ⟨by decide +kernel, by decide +kernel, by decide +kernel, by decide +kernel, by decide +kernel⟩
theorem sl_dM_type : ∀ j, j < 1 → sl_dA (150 + 5 * j) (1 + j) := by
  intro j h
  match j, h with
  | 0, _ => exact sl_dM0_type
  | j + 1, h => omega
theorem sl_dC_wipe : ∀ j, j < 0 → sl_dA (164 + 5 * j) (1 + j) := fun j h => absurd h (Nat.not_lt_zero j)
theorem sl_dM_wipe : ∀ j, j < 0 → sl_dA (168 + 5 * j) (1 + j) := fun j h => absurd h (Nat.not_lt_zero j)
theorem sl_dC_fault : ∀ j, j < 0 → sl_dA (177 + 5 * j) (1 + j) := fun j h => absurd h (Nat.not_lt_zero j)
theorem sl_dM_fault : ∀ j, j < 0 → sl_dA (181 + 5 * j) (1 + j) := fun j h => absurd h (Nat.not_lt_zero j)
theorem sl_dC_plan : ∀ j, j < 0 → sl_dA (190 + 5 * j) (1 + j) := fun j h => absurd h (Nat.not_lt_zero j)
theorem sl_dM_plan : ∀ j, j < 0 → sl_dA (194 + 5 * j) (1 + j) := fun j h => absurd h (Nat.not_lt_zero j)
theorem sl_dC0_node : sl_dA 203 1 := ⟨by decide +kernel, by decide +kernel, by decide +kernel, by decide +kernel, by decide +kernel⟩
theorem sl_dC1_node : sl_dA 208 2 := ⟨by decide +kernel, by decide +kernel, by decide +kernel, by decide +kernel, by decide +kernel⟩
theorem sl_dC_node : ∀ j, j < 2 → sl_dA (203 + 5 * j) (1 + j) := by
  intro j h
  match j, h with
  | 0, _ => exact sl_dC0_node
  | 1, _ => exact sl_dC1_node
  | j + 2, h => omega
theorem sl_dM0_node : sl_dA 217 1 := ⟨by decide +kernel, by decide +kernel, by decide +kernel, by decide +kernel, by decide +kernel⟩
theorem sl_dM1_node : sl_dA 222 2 := ⟨by decide +kernel, by decide +kernel, by decide +kernel, by decide +kernel, by decide +kernel⟩
theorem sl_dM_node : ∀ j, j < 2 → sl_dA (217 + 5 * j) (1 + j) := by
  intro j h
  match j, h with
  | 0, _ => exact sl_dM0_node
  | 1, _ => exact sl_dM1_node
  | j + 2, h => omega
theorem sl_dC0_text : sl_dA 236 1 := ⟨by decide +kernel, by decide +kernel, by decide +kernel, by decide +kernel, by decide +kernel⟩
theorem sl_dC_text : ∀ j, j < 1 → sl_dA (236 + 5 * j) (1 + j) := by
  intro j h
  match j, h with
  | 0, _ => exact sl_dC0_text
  | j + 1, h => omega
theorem sl_dM0_text : sl_dA 245 1 := ⟨by decide +kernel, by decide +kernel, by decide +kernel, by decide +kernel, by decide +kernel⟩
theorem sl_dM_text : ∀ j, j < 1 → sl_dA (245 + 5 * j) (1 + j) := by
  intro j h
  match j, h with
  | 0, _ => exact sl_dM0_text
  | j + 1, h => omega
theorem sl_dC0_tidy : sl_dA 259 1 := ⟨by decide +kernel, by decide +kernel, by decide +kernel, by decide +kernel, by decide +kernel⟩
theorem sl_dC_tidy : ∀ j, j < 1 → sl_dA (259 + 5 * j) (1 + j) := by
  intro j h
  match j, h with
  | 0, _ => exact sl_dC0_tidy
  | j + 1, h => omega
theorem sl_dM0_tidy : sl_dA 268 1 := ⟨by decide +kernel, by decide +kernel, by decide +kernel, by decide +kernel, by decide +kernel⟩
theorem sl_dM_tidy : ∀ j, j < 1 → sl_dA (268 + 5 * j) (1 + j) := by
  intro j h
  match j, h with
  | 0, _ => exact sl_dM0_tidy
  | j + 1, h => omega
theorem sl_dC0_rules : sl_dA 282 1 := ⟨by decide +kernel, by decide +kernel, by decide +kernel, by decide +kernel, by decide +kernel⟩
theorem sl_dC_rules : ∀ j, j < 1 → sl_dA (282 + 5 * j) (1 + j) := by
  intro j h
  match j, h with
  | 0, _ => exact sl_dC0_rules
  | j + 1, h => omega
theorem sl_dM0_rules : sl_dA 291 1 := ⟨by decide +kernel, by decide +kernel, by decide +kernel, by decide +kernel, by decide +kernel⟩
theorem sl_dM_rules : ∀ j, j < 1 → sl_dA (291 + 5 * j) (1 + j) := by
  intro j h
  match j, h with
  | 0, _ => exact sl_dM0_rules
  | j + 1, h => omega
theorem sl_dC0_saves : sl_dA 305 1 := ⟨by decide +kernel, by decide +kernel, by decide +kernel, by decide +kernel, by decide +kernel⟩
theorem sl_dC_saves : ∀ j, j < 1 → sl_dA (305 + 5 * j) (1 + j) := by
  intro j h
  match j, h with
  | 0, _ => exact sl_dC0_saves
  | j + 1, h => omega
theorem sl_dM0_saves : sl_dA 314 1 := ⟨by decide +kernel, by decide +kernel, by decide +kernel, by decide +kernel, by decide +kernel⟩
theorem sl_dM_saves : ∀ j, j < 1 → sl_dA (314 + 5 * j) (1 + j) := by
  intro j h
  match j, h with
  | 0, _ => exact sl_dM0_saves
  | j + 1, h => omega
theorem sl_dC0_run : sl_dA 328 1 := ⟨by decide +kernel, by decide +kernel, by decide +kernel, by decide +kernel, by decide +kernel⟩
theorem sl_dC1_run : sl_dA 333 2 := ⟨by decide +kernel, by decide +kernel, by decide +kernel, by decide +kernel, by decide +kernel⟩
theorem sl_dC_run : ∀ j, j < 2 → sl_dA (328 + 5 * j) (1 + j) := by
  intro j h
  match j, h with
  | 0, _ => exact sl_dC0_run
  | 1, _ => exact sl_dC1_run
  | j + 2, h => omega
theorem sl_dM0_run : sl_dA 342 1 := ⟨by decide +kernel, by decide +kernel, by decide +kernel, by decide +kernel, by decide +kernel⟩
theorem sl_dM1_run : sl_dA 347 2 := ⟨by decide +kernel, by decide +kernel, by decide +kernel, by decide +kernel, by decide +kernel⟩
theorem sl_dM_run : ∀ j, j < 2 → sl_dA (342 + 5 * j) (1 + j) := by
  intro j h
  match j, h with
  | 0, _ => exact sl_dM0_run
  | 1, _ => exact sl_dM1_run
  | j + 2, h => omega
theorem sl_dC0_result : sl_dA 361 1 := ⟨by decide +kernel, by decide +kernel, by decide +kernel, by decide +kernel, by decide +kernel⟩
theorem sl_dC_result : ∀ j, j < 1 → sl_dA (361 + 5 * j) (1 + j) := by
  intro j h
  match j, h with
  | 0, _ => exact sl_dC0_result
  | j + 1, h => omega
theorem sl_dM0_result : sl_dA 370 1 := ⟨by decide +kernel, by decide +kernel, by decide +kernel, by decide +kernel, by decide +kernel⟩
theorem sl_dM_result : ∀ j, j < 1 → sl_dA (370 + 5 * j) (1 + j) := by
  intro j h
  match j, h with
  | 0, _ => exact sl_dM0_result
  | j + 1, h => omega
theorem sl_dC0_fold : sl_dA 385 1 := ⟨by decide +kernel, by decide +kernel, by decide +kernel, by decide +kernel, by decide +kernel⟩
theorem sl_dC_fold : ∀ j, j < 1 → sl_dA (385 + 5 * j) (1 + j) := by
  intro j h
  match j, h with
  | 0, _ => exact sl_dC0_fold
  | j + 1, h => omega
theorem sl_dM0_fold : sl_dA 394 1 := ⟨by decide +kernel, by decide +kernel, by decide +kernel, by decide +kernel, by decide +kernel⟩
theorem sl_dM_fold : ∀ j, j < 1 → sl_dA (394 + 5 * j) (1 + j) := by
  intro j h
  match j, h with
  | 0, _ => exact sl_dM0_fold
  | j + 1, h => omega
theorem sl_dC0_failure : sl_dA 409 1 := ⟨by decide +kernel, by decide +kernel, by decide +kernel, by decide +kernel, by decide +kernel⟩
theorem sl_dC_failure : ∀ j, j < 1 → sl_dA (409 + 5 * j) (1 + j) := by
  intro j h
  match j, h with
  | 0, _ => exact sl_dC0_failure
  | j + 1, h => omega
theorem sl_dM0_failure : sl_dA 418 1 := ⟨by decide +kernel, by decide +kernel, by decide +kernel, by decide +kernel, by decide +kernel⟩
theorem sl_dM_failure : ∀ j, j < 1 → sl_dA (418 + 5 * j) (1 + j) := by
  intro j h
  match j, h with
  | 0, _ => exact sl_dM0_failure
  | j + 1, h => omega
theorem sl_dC0_told : sl_dA 432 1 := ⟨by decide +kernel, by decide +kernel, by decide +kernel, by decide +kernel, by decide +kernel⟩
theorem sl_dC_told : ∀ j, j < 1 → sl_dA (432 + 5 * j) (1 + j) := by
  intro j h
  match j, h with
  | 0, _ => exact sl_dC0_told
  | j + 1, h => omega
theorem sl_dM0_told : sl_dA 441 1 := ⟨by decide +kernel, by decide +kernel, by decide +kernel, by decide +kernel, by decide +kernel⟩
theorem sl_dM_told : ∀ j, j < 1 → sl_dA (441 + 5 * j) (1 + j) := by
  intro j h
  match j, h with
  | 0, _ => exact sl_dM0_told
  | j + 1, h => omega
theorem sl_dC0_written : sl_dA 455 1 := ⟨by decide +kernel, by decide +kernel, by decide +kernel, by decide +kernel, by decide +kernel⟩
theorem sl_dC1_written : sl_dA 460 2 := ⟨by decide +kernel, by decide +kernel, by decide +kernel, by decide +kernel, by decide +kernel⟩
theorem sl_dC_written : ∀ j, j < 2 → sl_dA (455 + 5 * j) (1 + j) := by
  intro j h
  match j, h with
  | 0, _ => exact sl_dC0_written
  | 1, _ => exact sl_dC1_written
  | j + 2, h => omega
theorem sl_dM0_written : sl_dA 469 1 := ⟨by decide +kernel, by decide +kernel, by decide +kernel, by decide +kernel, by decide +kernel⟩
theorem sl_dM1_written : sl_dA 474 2 := ⟨by decide +kernel, by decide +kernel, by decide +kernel, by decide +kernel, by decide +kernel⟩
theorem sl_dM_written : ∀ j, j < 2 → sl_dA (469 + 5 * j) (1 + j) := by
  intro j h
  match j, h with
  | 0, _ => exact sl_dM0_written
  | 1, _ => exact sl_dM1_written
  | j + 2, h => omega
theorem sl_dC0_sheet : sl_dA 489 1 := ⟨by decide +kernel, by decide +kernel, by decide +kernel, by decide +kernel, by decide +kernel⟩
theorem sl_dC1_sheet : sl_dA 494 2 := ⟨by decide +kernel, by decide +kernel, by decide +kernel, by decide +kernel, by decide +kernel⟩
theorem sl_dC2_sheet : sl_dA 499 3 := ⟨by decide +kernel, by decide +kernel, by decide +kernel, by decide +kernel, by decide +kernel⟩
theorem sl_dC_sheet : ∀ j, j < 3 → sl_dA (489 + 5 * j) (1 + j) := by
  intro j h
  match j, h with
  | 0, _ => exact sl_dC0_sheet
  | 1, _ => exact sl_dC1_sheet
  | 2, _ => exact sl_dC2_sheet
  | j + 3, h => omega
theorem sl_dM0_sheet : sl_dA 508 1 := ⟨by decide +kernel, by decide +kernel, by decide +kernel, by decide +kernel, by decide +kernel⟩
theorem sl_dM1_sheet : sl_dA 513 2 := ⟨by decide +kernel, by decide +kernel, by decide +kernel, by decide +kernel, by decide +kernel⟩
theorem sl_dM2_sheet : sl_dA 518 3 := ⟨by decide +kernel, by decide +kernel, by decide +kernel, by decide +kernel, by decide +kernel⟩
theorem sl_dM_sheet : ∀ j, j < 3 → sl_dA (508 + 5 * j) (1 + j) := by
  intro j h
  match j, h with
  | 0, _ => exact sl_dM0_sheet
  | 1, _ => exact sl_dM1_sheet
  | 2, _ => exact sl_dM2_sheet
  | j + 3, h => omega
theorem sl_dC0_lose : sl_dA 532 1 := ⟨by decide +kernel, by decide +kernel, by decide +kernel, by decide +kernel, by decide +kernel⟩
theorem sl_dC_lose : ∀ j, j < 1 → sl_dA (532 + 5 * j) (1 + j) := by
  intro j h
  match j, h with
  | 0, _ => exact sl_dC0_lose
  | j + 1, h => omega
theorem sl_dM0_lose : sl_dA 541 1 := ⟨by decide +kernel, by decide +kernel, by decide +kernel, by decide +kernel, by decide +kernel⟩
theorem sl_dM_lose : ∀ j, j < 1 → sl_dA (541 + 5 * j) (1 + j) := by
  intro j h
  match j, h with
  | 0, _ => exact sl_dM0_lose
  | j + 1, h => omega
theorem sl_dC0_lay : sl_dA 555 1 := ⟨by decide +kernel, by decide +kernel, by decide +kernel, by decide +kernel, by decide +kernel⟩
theorem sl_dC1_lay : sl_dA 560 2 := ⟨by decide +kernel, by decide +kernel, by decide +kernel, by decide +kernel, by decide +kernel⟩
theorem sl_dC2_lay : sl_dA 565 3 := ⟨by decide +kernel, by decide +kernel, by decide +kernel, by decide +kernel, by decide +kernel⟩
theorem sl_dC3_lay : sl_dA 570 4 := ⟨by decide +kernel, by decide +kernel, by decide +kernel, by decide +kernel, by decide +kernel⟩
theorem sl_dC_lay : ∀ j, j < 4 → sl_dA (555 + 5 * j) (1 + j) := by
  intro j h
  match j, h with
  | 0, _ => exact sl_dC0_lay
  | 1, _ => exact sl_dC1_lay
  | 2, _ => exact sl_dC2_lay
  | 3, _ => exact sl_dC3_lay
  | j + 4, h => omega
theorem sl_dM0_lay : sl_dA 579 1 := ⟨by decide +kernel, by decide +kernel, by decide +kernel, by decide +kernel, by decide +kernel⟩
theorem sl_dM1_lay : sl_dA 584 2 := ⟨by decide +kernel, by decide +kernel, by decide +kernel, by decide +kernel, by decide +kernel⟩
theorem sl_dM2_lay : sl_dA 589 3 := ⟨by decide +kernel, by decide +kernel, by decide +kernel, by decide +kernel, by decide +kernel⟩
theorem sl_dM3_lay : sl_dA 594 4 := ⟨by decide +kernel, by decide +kernel, by decide +kernel, by decide +kernel, by decide +kernel⟩
theorem sl_dM_lay : ∀ j, j < 4 → sl_dA (579 + 5 * j) (1 + j) := by
  intro j h
  match j, h with
  | 0, _ => exact sl_dM0_lay
  | 1, _ => exact sl_dM1_lay
  | 2, _ => exact sl_dM2_lay
  | 3, _ => exact sl_dM3_lay
  | j + 4, h => omega
theorem sl_dC0_get : sl_dA 608 1 := ⟨by decide +kernel, by decide +kernel, by decide +kernel, by decide +kernel, by decide +kernel⟩
theorem sl_dC1_get : sl_dA 613 2 := ⟨by decide +kernel, by decide +kernel, by decide +kernel, by decide +kernel, by decide +kernel⟩
theorem sl_dC2_get : sl_dA 618 3 := ⟨by decide +kernel, by decide +kernel, by decide +kernel, by decide +kernel, by decide +kernel⟩
theorem sl_dC_get : ∀ j, j < 3 → sl_dA (608 + 5 * j) (1 + j) := by
  intro j h
  match j, h with
  | 0, _ => exact sl_dC0_get
  | 1, _ => exact sl_dC1_get
  | 2, _ => exact sl_dC2_get
  | j + 3, h => omega
theorem sl_dM0_get : sl_dA 627 1 := ⟨by decide +kernel, by decide +kernel, by decide +kernel, by decide +kernel, by decide +kernel⟩
theorem sl_dM1_get : sl_dA 632 2 := ⟨by decide +kernel, by decide +kernel, by decide +kernel, by decide +kernel, by decide +kernel⟩
theorem sl_dM2_get : sl_dA 637 3 := ⟨by decide +kernel, by decide +kernel, by decide +kernel, by decide +kernel, by decide +kernel⟩
theorem sl_dM_get : ∀ j, j < 3 → sl_dA (627 + 5 * j) (1 + j) := by
  intro j h
  match j, h with
  | 0, _ => exact sl_dM0_get
  | 1, _ => exact sl_dM1_get
  | 2, _ => exact sl_dM2_get
  | j + 3, h => omega
theorem sl_dC0_copy : sl_dA 651 1 := ⟨by decide +kernel, by decide +kernel, by decide +kernel, by decide +kernel, by decide +kernel⟩
theorem sl_dC1_copy : sl_dA 656 2 := ⟨by decide +kernel, by decide +kernel, by decide +kernel, by decide +kernel, by decide +kernel⟩
theorem sl_dC2_copy : sl_dA 661 3 := ⟨by decide +kernel, by decide +kernel, by decide +kernel, by decide +kernel, by decide +kernel⟩
theorem sl_dC3_copy : sl_dA 666 4 := ⟨by decide +kernel, by decide +kernel, by decide +kernel, by decide +kernel, by decide +kernel⟩
theorem sl_dC4_copy : sl_dA 671 5 := ⟨by decide +kernel, by decide +kernel, by decide +kernel, by decide +kernel, by decide +kernel⟩
theorem sl_dC_copy : ∀ j, j < 5 → sl_dA (651 + 5 * j) (1 + j) := by
  intro j h
  match j, h with
  | 0, _ => exact sl_dC0_copy
  | 1, _ => exact sl_dC1_copy
  | 2, _ => exact sl_dC2_copy
  | 3, _ => exact sl_dC3_copy
  | 4, _ => exact sl_dC4_copy
  | j + 5, h => omega
theorem sl_dM0_copy : sl_dA 680 1 := ⟨by decide +kernel, by decide +kernel, by decide +kernel, by decide +kernel, by decide +kernel⟩
theorem sl_dM1_copy : sl_dA 685 2 := ⟨by decide +kernel, by decide +kernel, by decide +kernel, by decide +kernel, by decide +kernel⟩
theorem sl_dM2_copy : sl_dA 690 3 := ⟨by decide +kernel, by decide +kernel, by decide +kernel, by decide +kernel, by decide +kernel⟩
theorem sl_dM3_copy : sl_dA 695 4 := ⟨by decide +kernel, by decide +kernel, by decide +kernel, by decide +kernel, by decide +kernel⟩
theorem sl_dM4_copy : sl_dA 700 5 := ⟨by decide +kernel, by decide +kernel, by decide +kernel, by decide +kernel, by decide +kernel⟩
theorem sl_dM_copy : ∀ j, j < 5 → sl_dA (680 + 5 * j) (1 + j) := by
  intro j h
  match j, h with
  | 0, _ => exact sl_dM0_copy
  | 1, _ => exact sl_dM1_copy
  | 2, _ => exact sl_dM2_copy
  | 3, _ => exact sl_dM3_copy
  | 4, _ => exact sl_dM4_copy
  | j + 5, h => omega
theorem sl_dC0_write : sl_dA 714 1 := ⟨by decide +kernel, by decide +kernel, by decide +kernel, by decide +kernel, by decide +kernel⟩
theorem sl_dC_write : ∀ j, j < 1 → sl_dA (714 + 5 * j) (1 + j) := by
  intro j h
  match j, h with
  | 0, _ => exact sl_dC0_write
  | j + 1, h => omega
theorem sl_dM0_write : sl_dA 723 1 := ⟨by decide +kernel, by decide +kernel, by decide +kernel, by decide +kernel, by decide +kernel⟩
theorem sl_dM_write : ∀ j, j < 1 → sl_dA (723 + 5 * j) (1 + j) := by
  intro j h
  match j, h with
  | 0, _ => exact sl_dM0_write
  | j + 1, h => omega
theorem sl_dC0_count : sl_dA 737 1 := ⟨by decide +kernel, by decide +kernel, by decide +kernel, by decide +kernel, by decide +kernel⟩
theorem sl_dC_count : ∀ j, j < 1 → sl_dA (737 + 5 * j) (1 + j) := by
  intro j h
  match j, h with
  | 0, _ => exact sl_dC0_count
  | j + 1, h => omega
theorem sl_dM0_count : sl_dA 746 1 := ⟨by decide +kernel, by decide +kernel, by decide +kernel, by decide +kernel, by decide +kernel⟩
theorem sl_dM_count : ∀ j, j < 1 → sl_dA (746 + 5 * j) (1 + j) := by
  intro j h
  match j, h with
  | 0, _ => exact sl_dM0_count
  | j + 1, h => omega
theorem sl_dC_digest : ∀ j, j < 0 → sl_dA (760 + 5 * j) (1 + j) := fun j h => absurd h (Nat.not_lt_zero j)
theorem sl_dM_digest : ∀ j, j < 0 → sl_dA (764 + 5 * j) (1 + j) := fun j h => absurd h (Nat.not_lt_zero j)
