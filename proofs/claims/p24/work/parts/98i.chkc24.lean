/-! the tables, looked at by the kernel: the class's code -/
theorem okC_0 : (List.range' 0 28).all okCb = true := by decide +kernel
theorem okC_28 : (List.range' 28 28).all okCb = true := by decide +kernel
theorem okC_56 : (List.range' 56 28).all okCb = true := by decide +kernel
theorem okC_84 : (List.range' 84 28).all okCb = true := by decide +kernel
