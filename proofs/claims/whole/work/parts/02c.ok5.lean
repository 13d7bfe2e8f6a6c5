theorem ok1146 : rowOK 11 kr1146 = true := by decide +kernel
theorem wo1146 : wrdOK 11 kr1146 = true := by decide +kernel
theorem ok1147 : rowOK 11 kr1147 = true := by decide +kernel
theorem wo1147 : wrdOK 11 kr1147 = true := by decide +kernel
theorem ok1148 : rowOK 11 kr1148 = true := by decide +kernel
theorem wo1148 : wrdOK 11 kr1148 = true := by decide +kernel
theorem ok1149 : rowOK 11 kr1149 = true := by decide +kernel
theorem wo1149 : wrdOK 11 kr1149 = true := by decide +kernel
theorem ok1150 : rowOK 11 kr1150 = true := by decide +kernel
theorem wo1150 : wrdOK 11 kr1150 = true := by decide +kernel
theorem ok1151 : rowOK 11 kr1151 = true := by decide +kernel
theorem wo1151 : wrdOK 11 kr1151 = true := by decide +kernel
theorem ok1152 : rowOK 11 kr1152 = true := by decide +kernel
theorem wo1152 : wrdOK 11 kr1152 = true := by decide +kernel
theorem ok1153 : rowOK 11 kr1153 = true := by decide +kernel
theorem wo1153 : wrdOK 11 kr1153 = true := by decide +kernel
theorem ok1154 : rowOK 11 kr1154 = true := by decide +kernel
theorem wo1154 : wrdOK 11 kr1154 = true := by decide +kernel
theorem ok1155 : rowOK 11 kr1155 = true := by decide +kernel
theorem wo1155 : wrdOK 11 kr1155 = true := by decide +kernel
theorem ok1156 : rowOK 11 kr1156 = true := by decide +kernel
theorem wo1156 : wrdOK 11 kr1156 = true := by decide +kernel
theorem ok1157 : rowOK 11 kr1157 = true := by decide +kernel
theorem wo1157 : wrdOK 11 kr1157 = true := by decide +kernel
theorem ok1158 : rowOK 11 kr1158 = true := by decide +kernel
theorem wo1158 : wrdOK 11 kr1158 = true := by decide +kernel
theorem ok1159 : rowOK 11 kr1159 = true := by decide +kernel
theorem wo1159 : wrdOK 11 kr1159 = true := by decide +kernel
theorem ok1160 : rowOK 11 kr1160 = true := by decide +kernel
theorem wo1160 : wrdOK 11 kr1160 = true := by decide +kernel
theorem ok1161 : rowOK 11 kr1161 = true := by decide +kernel
theorem wo1161 : wrdOK 11 kr1161 = true := by decide +kernel
theorem ok1162 : rowOK 11 kr1162 = true := by decide +kernel
theorem wo1162 : wrdOK 11 kr1162 = true := by decide +kernel
theorem ok1163 : rowOK 11 kr1163 = true := by decide +kernel
theorem wo1163 : wrdOK 11 kr1163 = true := by decide +kernel
theorem ok1164 : rowOK 11 kr1164 = true := by decide +kernel
theorem wo1164 : wrdOK 11 kr1164 = true := by decide +kernel
theorem ok1200 : rowOK 12 kr1200 = true := by decide +kernel
theorem wo1200 : wrdOK 12 kr1200 = true := by decide +kernel
theorem ok1201_0 : (kc1201_0.all (rwOK 12 kr1201.1)) = true := by decide +kernel
theorem ok1201_1 : (kc1201_1.all (rwOK 12 kr1201.1)) = true := by decide +kernel
theorem ok1201_2 : (kc1201_2.all (rwOK 12 kr1201.1)) = true := by decide +kernel
theorem ok1201_3 : (kc1201_3.all (rwOK 12 kr1201.1)) = true := by decide +kernel
theorem ok1201_4 : (kc1201_4.all (rwOK 12 kr1201.1)) = true := by decide +kernel
theorem ok1201_5 : (kc1201_5.all (rwOK 12 kr1201.1)) = true := by decide +kernel
theorem ok1201_6 : (kc1201_6.all (rwOK 12 kr1201.1)) = true := by decide +kernel
theorem ok1201_7 : (kc1201_7.all (rwOK 12 kr1201.1)) = true := by decide +kernel
theorem ok1201 : rowOK 12 kr1201 = true := by
  have h : kc1201.all (rwOK 12 kr1201.1) = true := by
    simp only [kc1201, List.all_append, ok1201_0, ok1201_1, ok1201_2, ok1201_3, ok1201_4, ok1201_5, ok1201_6, ok1201_7, Bool.and_self]
  have h2 : hdOK 12 kr1201 = true := by decide +kernel
  unfold rowOK
  rw [h2, show kr1201.2.2.2 = kc1201 from rfl, h]
  rfl
theorem ok1300 : rowOK 13 kr1300 = true := by decide +kernel
theorem wo1300 : wrdOK 13 kr1300 = true := by decide +kernel
theorem ok1301 : rowOK 13 kr1301 = true := by decide +kernel
theorem wo1301 : wrdOK 13 kr1301 = true := by decide +kernel
theorem ok1302 : rowOK 13 kr1302 = true := by decide +kernel
theorem wo1302 : wrdOK 13 kr1302 = true := by decide +kernel
theorem ok1303 : rowOK 13 kr1303 = true := by decide +kernel
theorem wo1303 : wrdOK 13 kr1303 = true := by decide +kernel
theorem ok1400 : rowOK 14 kr1400 = true := by decide +kernel
theorem wo1400 : wrdOK 14 kr1400 = true := by decide +kernel
theorem ok1401 : rowOK 14 kr1401 = true := by decide +kernel
theorem wo1401 : wrdOK 14 kr1401 = true := by decide +kernel
theorem ok1402 : rowOK 14 kr1402 = true := by decide +kernel
theorem wo1402 : wrdOK 14 kr1402 = true := by decide +kernel
