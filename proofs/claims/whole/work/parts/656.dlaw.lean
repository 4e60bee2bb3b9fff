/-! the law's own instructions -/
theorem dL_law_2746 : decode cL_law 2746 = .ok (.iload 4, 2) := by decide +kernel
theorem dL_law_2748 : decode cL_law 2748 = .ok (.iconst 4, 1) := by decide +kernel
theorem dL_law_2749 : decode cL_law 2749 = .ok (.iadd, 1) := by decide +kernel
theorem dL_law_2750 : decode cL_law 2750 = .ok (.iaload, 1) := by decide +kernel
theorem dL_law_2751 : decode cL_law 2751 = .ok (.invokevirtual 297, 3) := by decide +kernel
theorem dL_law_2754 : decode cL_law 2754 = .ok (.istore 6, 2) := by decide +kernel
theorem dL_law_2756 : decode cL_law 2756 = .ok (.aload_n 2, 1) := by decide +kernel
theorem dL_law_2757 : decode cL_law 2757 = .ok (.invokevirtual 156, 3) := by decide +kernel
theorem dL_law_2760 : decode cL_law 2760 = .ok (.iload 5, 2) := by decide +kernel
theorem dL_law_2762 : decode cL_law 2762 = .ok (.if_icmp .eq 5, 3) := by decide +kernel
theorem dL_law_2767 : decode cL_law 2767 = .ok (.iload 5, 2) := by decide +kernel
theorem dL_law_2769 : decode cL_law 2769 = .ok (.ifCond .ne 15, 3) := by decide +kernel
theorem dL_law_2772 : decode cL_law 2772 = .ok (.aload_n 3, 1) := by decide +kernel
theorem dL_law_2773 : decode cL_law 2773 = .ok (.iconst 0, 1) := by decide +kernel
theorem dL_law_2774 : decode cL_law 2774 = .ok (.laload, 1) := by decide +kernel
theorem dL_law_2775 : decode cL_law 2775 = .ok (.iload 6, 2) := by decide +kernel
theorem dL_law_2777 : decode cL_law 2777 = .ok (.i2l, 1) := by decide +kernel
theorem dL_law_2778 : decode cL_law 2778 = .ok (.lcmp, 1) := by decide +kernel
theorem dL_law_2779 : decode cL_law 2779 = .ok (.ifCond .eq 5, 3) := by decide +kernel
theorem dL_law_2784 : decode cL_law 2784 = .ok (.goto 232, 3) := by decide +kernel
theorem dL_law_2787 : decode cL_law 2787 = .ok (.aload_n 1, 1) := by decide +kernel
theorem dL_law_2788 : decode cL_law 2788 = .ok (.aload_n 0, 1) := by decide +kernel
theorem dL_law_2789 : decode cL_law 2789 = .ok (.iload 4, 2) := by decide +kernel
theorem dL_law_2791 : decode cL_law 2791 = .ok (.iconst 1, 1) := by decide +kernel
theorem dL_law_2792 : decode cL_law 2792 = .ok (.iadd, 1) := by decide +kernel
theorem dL_law_2793 : decode cL_law 2793 = .ok (.iaload, 1) := by decide +kernel
theorem dL_law_2794 : decode cL_law 2794 = .ok (.aload_n 0, 1) := by decide +kernel
theorem dL_law_2795 : decode cL_law 2795 = .ok (.iload 4, 2) := by decide +kernel
theorem dL_law_2797 : decode cL_law 2797 = .ok (.iconst 2, 1) := by decide +kernel
theorem dL_law_2798 : decode cL_law 2798 = .ok (.iadd, 1) := by decide +kernel
theorem dL_law_2799 : decode cL_law 2799 = .ok (.iaload, 1) := by decide +kernel
theorem dL_law_2800 : decode cL_law 2800 = .ok (.aload_n 0, 1) := by decide +kernel
theorem dL_law_2801 : decode cL_law 2801 = .ok (.iload 4, 2) := by decide +kernel
theorem dL_law_2803 : decode cL_law 2803 = .ok (.iconst 3, 1) := by decide +kernel
theorem dL_law_2804 : decode cL_law 2804 = .ok (.iadd, 1) := by decide +kernel
theorem dL_law_2805 : decode cL_law 2805 = .ok (.iaload, 1) := by decide +kernel
theorem dL_law_2806 : decode cL_law 2806 = .ok (.aload_n 3, 1) := by decide +kernel
theorem dL_law_2807 : decode cL_law 2807 = .ok (.invokestatic 298, 3) := by decide +kernel
theorem dL_law_2810 : decode cL_law 2810 = .ok (.istore 5, 2) := by decide +kernel
theorem dL_law_2812 : decode cL_law 2812 = .ok (.aload_n 2, 1) := by decide +kernel
theorem dL_law_2813 : decode cL_law 2813 = .ok (.aload_n 0, 1) := by decide +kernel
theorem dL_law_2814 : decode cL_law 2814 = .ok (.iload 4, 2) := by decide +kernel
theorem dL_law_2816 : decode cL_law 2816 = .ok (.iconst 1, 1) := by decide +kernel
theorem dL_law_2817 : decode cL_law 2817 = .ok (.iadd, 1) := by decide +kernel
theorem dL_law_2818 : decode cL_law 2818 = .ok (.iaload, 1) := by decide +kernel
theorem dL_law_2819 : decode cL_law 2819 = .ok (.aload_n 0, 1) := by decide +kernel
theorem dL_law_2820 : decode cL_law 2820 = .ok (.iload 4, 2) := by decide +kernel
theorem dL_law_2822 : decode cL_law 2822 = .ok (.iconst 2, 1) := by decide +kernel
theorem dL_law_2823 : decode cL_law 2823 = .ok (.iadd, 1) := by decide +kernel
theorem dL_law_2824 : decode cL_law 2824 = .ok (.iaload, 1) := by decide +kernel
theorem dL_law_2825 : decode cL_law 2825 = .ok (.aload_n 0, 1) := by decide +kernel
theorem dL_law_2826 : decode cL_law 2826 = .ok (.iload 4, 2) := by decide +kernel
theorem dL_law_2828 : decode cL_law 2828 = .ok (.iconst 3, 1) := by decide +kernel
theorem dL_law_2829 : decode cL_law 2829 = .ok (.iadd, 1) := by decide +kernel
theorem dL_law_2830 : decode cL_law 2830 = .ok (.iaload, 1) := by decide +kernel
theorem dL_law_2831 : decode cL_law 2831 = .ok (.invokevirtual 300, 3) := by decide +kernel
theorem dL_law_2834 : decode cL_law 2834 = .ok (.istore 6, 2) := by decide +kernel
theorem dL_law_2836 : decode cL_law 2836 = .ok (.aload_n 2, 1) := by decide +kernel
theorem dL_law_2837 : decode cL_law 2837 = .ok (.invokevirtual 156, 3) := by decide +kernel
theorem dL_law_2840 : decode cL_law 2840 = .ok (.iload 5, 2) := by decide +kernel
theorem dL_law_2842 : decode cL_law 2842 = .ok (.if_icmp .eq 5, 3) := by decide +kernel
theorem dL_law_2847 : decode cL_law 2847 = .ok (.iload 5, 2) := by decide +kernel
theorem dL_law_2849 : decode cL_law 2849 = .ok (.ifCond .ne 15, 3) := by decide +kernel
theorem dL_law_2852 : decode cL_law 2852 = .ok (.aload_n 3, 1) := by decide +kernel
theorem dL_law_2853 : decode cL_law 2853 = .ok (.iconst 0, 1) := by decide +kernel
theorem dL_law_2854 : decode cL_law 2854 = .ok (.laload, 1) := by decide +kernel
theorem dL_law_2855 : decode cL_law 2855 = .ok (.iload 6, 2) := by decide +kernel
theorem dL_law_2857 : decode cL_law 2857 = .ok (.i2l, 1) := by decide +kernel
theorem dL_law_2858 : decode cL_law 2858 = .ok (.lcmp, 1) := by decide +kernel
theorem dL_law_2859 : decode cL_law 2859 = .ok (.ifCond .eq 5, 3) := by decide +kernel
theorem dL_law_2864 : decode cL_law 2864 = .ok (.goto 152, 3) := by decide +kernel
theorem dL_law_2867 : decode cL_law 2867 = .ok (.aload_n 1, 1) := by decide +kernel
theorem dL_law_2868 : decode cL_law 2868 = .ok (.aload_n 0, 1) := by decide +kernel
theorem dL_law_2869 : decode cL_law 2869 = .ok (.iload 4, 2) := by decide +kernel
theorem dL_law_2871 : decode cL_law 2871 = .ok (.iconst 1, 1) := by decide +kernel
theorem dL_law_2872 : decode cL_law 2872 = .ok (.iadd, 1) := by decide +kernel
theorem dL_law_2873 : decode cL_law 2873 = .ok (.iaload, 1) := by decide +kernel
theorem dL_law_2874 : decode cL_law 2874 = .ok (.aload_n 0, 1) := by decide +kernel
theorem dL_law_2875 : decode cL_law 2875 = .ok (.iload 4, 2) := by decide +kernel
theorem dL_law_2877 : decode cL_law 2877 = .ok (.iconst 2, 1) := by decide +kernel
theorem dL_law_2878 : decode cL_law 2878 = .ok (.iadd, 1) := by decide +kernel
theorem dL_law_2879 : decode cL_law 2879 = .ok (.iaload, 1) := by decide +kernel
theorem dL_law_2880 : decode cL_law 2880 = .ok (.aload_n 3, 1) := by decide +kernel
theorem dL_law_2881 : decode cL_law 2881 = .ok (.invokestatic 301, 3) := by decide +kernel
theorem dL_law_2884 : decode cL_law 2884 = .ok (.istore 5, 2) := by decide +kernel
theorem dL_law_2886 : decode cL_law 2886 = .ok (.aload_n 2, 1) := by decide +kernel
theorem dL_law_2887 : decode cL_law 2887 = .ok (.aload_n 0, 1) := by decide +kernel
theorem dL_law_2888 : decode cL_law 2888 = .ok (.iload 4, 2) := by decide +kernel
theorem dL_law_2890 : decode cL_law 2890 = .ok (.iconst 1, 1) := by decide +kernel
theorem dL_law_2891 : decode cL_law 2891 = .ok (.iadd, 1) := by decide +kernel
theorem dL_law_2892 : decode cL_law 2892 = .ok (.iaload, 1) := by decide +kernel
theorem dL_law_2893 : decode cL_law 2893 = .ok (.aload_n 0, 1) := by decide +kernel
theorem dL_law_2894 : decode cL_law 2894 = .ok (.iload 4, 2) := by decide +kernel
theorem dL_law_2896 : decode cL_law 2896 = .ok (.iconst 2, 1) := by decide +kernel
theorem dL_law_2897 : decode cL_law 2897 = .ok (.iadd, 1) := by decide +kernel
theorem dL_law_2898 : decode cL_law 2898 = .ok (.iaload, 1) := by decide +kernel
theorem dL_law_2899 : decode cL_law 2899 = .ok (.invokevirtual 303, 3) := by decide +kernel
theorem dL_law_2902 : decode cL_law 2902 = .ok (.istore 6, 2) := by decide +kernel
theorem dL_law_2904 : decode cL_law 2904 = .ok (.aload_n 2, 1) := by decide +kernel
theorem dL_law_2905 : decode cL_law 2905 = .ok (.invokevirtual 156, 3) := by decide +kernel
theorem dL_law_2908 : decode cL_law 2908 = .ok (.iload 5, 2) := by decide +kernel
theorem dL_law_2910 : decode cL_law 2910 = .ok (.if_icmp .eq 5, 3) := by decide +kernel
theorem dL_law_2915 : decode cL_law 2915 = .ok (.iload 5, 2) := by decide +kernel
theorem dL_law_2917 : decode cL_law 2917 = .ok (.ifCond .ne 15, 3) := by decide +kernel
theorem dL_law_2920 : decode cL_law 2920 = .ok (.aload_n 3, 1) := by decide +kernel
theorem dL_law_2921 : decode cL_law 2921 = .ok (.iconst 0, 1) := by decide +kernel
theorem dL_law_2922 : decode cL_law 2922 = .ok (.laload, 1) := by decide +kernel
theorem dL_law_2923 : decode cL_law 2923 = .ok (.iload 6, 2) := by decide +kernel
theorem dL_law_2925 : decode cL_law 2925 = .ok (.i2l, 1) := by decide +kernel
theorem dL_law_2926 : decode cL_law 2926 = .ok (.lcmp, 1) := by decide +kernel
theorem dL_law_2927 : decode cL_law 2927 = .ok (.ifCond .eq 5, 3) := by decide +kernel
theorem dL_law_2932 : decode cL_law 2932 = .ok (.goto 84, 3) := by decide +kernel
theorem dL_law_2935 : decode cL_law 2935 = .ok (.aload_n 1, 1) := by decide +kernel
theorem dL_law_2936 : decode cL_law 2936 = .ok (.aload_n 0, 1) := by decide +kernel
theorem dL_law_2937 : decode cL_law 2937 = .ok (.iload 4, 2) := by decide +kernel
theorem dL_law_2939 : decode cL_law 2939 = .ok (.iconst 1, 1) := by decide +kernel
theorem dL_law_2940 : decode cL_law 2940 = .ok (.iadd, 1) := by decide +kernel
theorem dL_law_2941 : decode cL_law 2941 = .ok (.iaload, 1) := by decide +kernel
theorem dL_law_2942 : decode cL_law 2942 = .ok (.aload_n 3, 1) := by decide +kernel
theorem dL_law_2943 : decode cL_law 2943 = .ok (.invokestatic 304, 3) := by decide +kernel
theorem dL_law_2946 : decode cL_law 2946 = .ok (.istore 5, 2) := by decide +kernel
theorem dL_law_2948 : decode cL_law 2948 = .ok (.aload_n 2, 1) := by decide +kernel
theorem dL_law_2949 : decode cL_law 2949 = .ok (.aload_n 0, 1) := by decide +kernel
theorem dL_law_2950 : decode cL_law 2950 = .ok (.iload 4, 2) := by decide +kernel
theorem dL_law_2952 : decode cL_law 2952 = .ok (.iconst 1, 1) := by decide +kernel
theorem dL_law_2953 : decode cL_law 2953 = .ok (.iadd, 1) := by decide +kernel
theorem dL_law_2954 : decode cL_law 2954 = .ok (.iaload, 1) := by decide +kernel
theorem dL_law_2955 : decode cL_law 2955 = .ok (.invokevirtual 306, 3) := by decide +kernel
theorem dL_law_2958 : decode cL_law 2958 = .ok (.istore 6, 2) := by decide +kernel
theorem dL_law_2960 : decode cL_law 2960 = .ok (.aload_n 2, 1) := by decide +kernel
theorem dL_law_2961 : decode cL_law 2961 = .ok (.invokevirtual 156, 3) := by decide +kernel
theorem dL_law_2964 : decode cL_law 2964 = .ok (.iload 5, 2) := by decide +kernel
theorem dL_law_2966 : decode cL_law 2966 = .ok (.if_icmp .eq 5, 3) := by decide +kernel
theorem dL_law_2971 : decode cL_law 2971 = .ok (.iload 5, 2) := by decide +kernel
theorem dL_law_2973 : decode cL_law 2973 = .ok (.ifCond .ne 15, 3) := by decide +kernel
theorem dL_law_2976 : decode cL_law 2976 = .ok (.aload_n 3, 1) := by decide +kernel
theorem dL_law_2977 : decode cL_law 2977 = .ok (.iconst 0, 1) := by decide +kernel
theorem dL_law_2978 : decode cL_law 2978 = .ok (.laload, 1) := by decide +kernel
theorem dL_law_2979 : decode cL_law 2979 = .ok (.iload 6, 2) := by decide +kernel
theorem dL_law_2981 : decode cL_law 2981 = .ok (.i2l, 1) := by decide +kernel
theorem dL_law_2982 : decode cL_law 2982 = .ok (.lcmp, 1) := by decide +kernel
theorem dL_law_2983 : decode cL_law 2983 = .ok (.ifCond .eq 5, 3) := by decide +kernel
theorem dL_law_2988 : decode cL_law 2988 = .ok (.goto 28, 3) := by decide +kernel
theorem dL_law_2991 : decode cL_law 2991 = .ok (.aload_n 1, 1) := by decide +kernel
theorem dL_law_2992 : decode cL_law 2992 = .ok (.aload_n 0, 1) := by decide +kernel
theorem dL_law_2993 : decode cL_law 2993 = .ok (.iload 4, 2) := by decide +kernel
theorem dL_law_2995 : decode cL_law 2995 = .ok (.iconst 1, 1) := by decide +kernel
theorem dL_law_2996 : decode cL_law 2996 = .ok (.iadd, 1) := by decide +kernel
theorem dL_law_2997 : decode cL_law 2997 = .ok (.iaload, 1) := by decide +kernel
theorem dL_law_2998 : decode cL_law 2998 = .ok (.invokevirtual 307, 3) := by decide +kernel
theorem dL_law_3001 : decode cL_law 3001 = .ok (.aload_n 2, 1) := by decide +kernel
theorem dL_law_3002 : decode cL_law 3002 = .ok (.aload_n 0, 1) := by decide +kernel
theorem dL_law_3003 : decode cL_law 3003 = .ok (.iload 4, 2) := by decide +kernel
theorem dL_law_3005 : decode cL_law 3005 = .ok (.iconst 1, 1) := by decide +kernel
theorem dL_law_3006 : decode cL_law 3006 = .ok (.iadd, 1) := by decide +kernel
theorem dL_law_3007 : decode cL_law 3007 = .ok (.iaload, 1) := by decide +kernel
theorem dL_law_3008 : decode cL_law 3008 = .ok (.invokevirtual 310, 3) := by decide +kernel
theorem dL_law_3011 : decode cL_law 3011 = .ok (.if_icmp .eq 5, 3) := by decide +kernel
theorem dL_law_3016 : decode cL_law 3016 = .ok (.iinc 4 6, 3) := by decide +kernel
theorem dL_law_3019 : decode cL_law 3019 = .ok (.goto (-2996), 3) := by decide +kernel
theorem dL_law_3022 : decode cL_law 3022 = .ok (.iconst 1, 1) := by decide +kernel
theorem dL_law_3023 : decode cL_law 3023 = .ok (.ireturn, 1) := by decide +kernel
