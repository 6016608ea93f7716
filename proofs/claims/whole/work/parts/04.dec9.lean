theorem dL_law__1723 : decode cL_law_ 1723 = .ok (.lcmp, 1) := by decide +kernel
theorem dL_law__1724 : decode cL_law_ 1724 = .ok (.ifCond .eq 5, 3) := by decide +kernel
theorem dL_law__1727 : decode cL_law_ 1727 = .ok (.iconst 0, 1) := by decide +kernel
theorem dL_law__1728 : decode cL_law_ 1728 = .ok (.ireturn, 1) := by decide +kernel
theorem dL_law__1729 : decode cL_law_ 1729 = .ok (.goto 1166, 3) := by decide +kernel
theorem dL_law__1732 : decode cL_law_ 1732 = .ok (.aload_n 1, 1) := by decide +kernel
theorem dL_law__1733 : decode cL_law_ 1733 = .ok (.invokevirtual 241, 3) := by decide +kernel
theorem dL_law__1736 : decode cL_law_ 1736 = .ok (.aload_n 2, 1) := by decide +kernel
theorem dL_law__1737 : decode cL_law_ 1737 = .ok (.invokevirtual 244, 3) := by decide +kernel
theorem dL_law__1740 : decode cL_law_ 1740 = .ok (.if_icmp .eq 1155, 3) := by decide +kernel
theorem dL_law__1743 : decode cL_law_ 1743 = .ok (.iconst 0, 1) := by decide +kernel
theorem dL_law__1744 : decode cL_law_ 1744 = .ok (.ireturn, 1) := by decide +kernel
theorem dL_law__1745 : decode cL_law_ 1745 = .ok (.aload_n 1, 1) := by decide +kernel
theorem dL_law__1746 : decode cL_law_ 1746 = .ok (.aload_n 0, 1) := by decide +kernel
theorem dL_law__1747 : decode cL_law_ 1747 = .ok (.iload 4, 2) := by decide +kernel
theorem dL_law__1749 : decode cL_law_ 1749 = .ok (.iconst 1, 1) := by decide +kernel
theorem dL_law__1750 : decode cL_law_ 1750 = .ok (.iadd, 1) := by decide +kernel
theorem dL_law__1751 : decode cL_law_ 1751 = .ok (.iaload, 1) := by decide +kernel
theorem dL_law__1752 : decode cL_law_ 1752 = .ok (.ifCond .eq 7, 3) := by decide +kernel
theorem dL_law__1755 : decode cL_law_ 1755 = .ok (.iconst 1, 1) := by decide +kernel
theorem dL_law__1756 : decode cL_law_ 1756 = .ok (.goto 4, 3) := by decide +kernel
theorem dL_law__1759 : decode cL_law_ 1759 = .ok (.iconst 0, 1) := by decide +kernel
theorem dL_law__1760 : decode cL_law_ 1760 = .ok (.aload_n 3, 1) := by decide +kernel
theorem dL_law__1761 : decode cL_law_ 1761 = .ok (.invokestatic 245, 3) := by decide +kernel
theorem dL_law__1764 : decode cL_law_ 1764 = .ok (.istore 5, 2) := by decide +kernel
theorem dL_law__1766 : decode cL_law_ 1766 = .ok (.aload_n 2, 1) := by decide +kernel
theorem dL_law__1767 : decode cL_law_ 1767 = .ok (.aload_n 0, 1) := by decide +kernel
theorem dL_law__1768 : decode cL_law_ 1768 = .ok (.iload 4, 2) := by decide +kernel
theorem dL_law__1770 : decode cL_law_ 1770 = .ok (.iconst 1, 1) := by decide +kernel
theorem dL_law__1771 : decode cL_law_ 1771 = .ok (.iadd, 1) := by decide +kernel
theorem dL_law__1772 : decode cL_law_ 1772 = .ok (.iaload, 1) := by decide +kernel
theorem dL_law__1773 : decode cL_law_ 1773 = .ok (.ifCond .eq 7, 3) := by decide +kernel
theorem dL_law__1776 : decode cL_law_ 1776 = .ok (.iconst 1, 1) := by decide +kernel
theorem dL_law__1777 : decode cL_law_ 1777 = .ok (.goto 4, 3) := by decide +kernel
theorem dL_law__1780 : decode cL_law_ 1780 = .ok (.iconst 0, 1) := by decide +kernel
theorem dL_law__1781 : decode cL_law_ 1781 = .ok (.invokevirtual 248, 3) := by decide +kernel
theorem dL_law__1784 : decode cL_law_ 1784 = .ok (.istore 6, 2) := by decide +kernel
theorem dL_law__1786 : decode cL_law_ 1786 = .ok (.aload_n 2, 1) := by decide +kernel
theorem dL_law__1787 : decode cL_law_ 1787 = .ok (.invokevirtual 150, 3) := by decide +kernel
theorem dL_law__1790 : decode cL_law_ 1790 = .ok (.iload 5, 2) := by decide +kernel
theorem dL_law__1792 : decode cL_law_ 1792 = .ok (.if_icmp .eq 5, 3) := by decide +kernel
theorem dL_law__1795 : decode cL_law_ 1795 = .ok (.iconst 0, 1) := by decide +kernel
theorem dL_law__1796 : decode cL_law_ 1796 = .ok (.ireturn, 1) := by decide +kernel
theorem dL_law__1797 : decode cL_law_ 1797 = .ok (.iload 5, 2) := by decide +kernel
theorem dL_law__1799 : decode cL_law_ 1799 = .ok (.ifCond .ne 15, 3) := by decide +kernel
theorem dL_law__1802 : decode cL_law_ 1802 = .ok (.aload_n 3, 1) := by decide +kernel
theorem dL_law__1803 : decode cL_law_ 1803 = .ok (.iconst 0, 1) := by decide +kernel
theorem dL_law__1804 : decode cL_law_ 1804 = .ok (.laload, 1) := by decide +kernel
theorem dL_law__1805 : decode cL_law_ 1805 = .ok (.iload 6, 2) := by decide +kernel
theorem dL_law__1807 : decode cL_law_ 1807 = .ok (.i2l, 1) := by decide +kernel
theorem dL_law__1808 : decode cL_law_ 1808 = .ok (.lcmp, 1) := by decide +kernel
theorem dL_law__1809 : decode cL_law_ 1809 = .ok (.ifCond .eq 5, 3) := by decide +kernel
theorem dL_law__1812 : decode cL_law_ 1812 = .ok (.iconst 0, 1) := by decide +kernel
theorem dL_law__1813 : decode cL_law_ 1813 = .ok (.ireturn, 1) := by decide +kernel
theorem dL_law__1814 : decode cL_law_ 1814 = .ok (.goto 1081, 3) := by decide +kernel
theorem dL_law__1817 : decode cL_law_ 1817 = .ok (.aload_n 1, 1) := by decide +kernel
theorem dL_law__1818 : decode cL_law_ 1818 = .ok (.aload_n 3, 1) := by decide +kernel
theorem dL_law__1819 : decode cL_law_ 1819 = .ok (.invokestatic 249, 3) := by decide +kernel
theorem dL_law__1822 : decode cL_law_ 1822 = .ok (.istore 5, 2) := by decide +kernel
theorem dL_law__1824 : decode cL_law_ 1824 = .ok (.aload_n 2, 1) := by decide +kernel
theorem dL_law__1825 : decode cL_law_ 1825 = .ok (.invokevirtual 251, 3) := by decide +kernel
theorem dL_law__1828 : decode cL_law_ 1828 = .ok (.istore 6, 2) := by decide +kernel
theorem dL_law__1830 : decode cL_law_ 1830 = .ok (.aload_n 2, 1) := by decide +kernel
theorem dL_law__1831 : decode cL_law_ 1831 = .ok (.invokevirtual 150, 3) := by decide +kernel
theorem dL_law__1834 : decode cL_law_ 1834 = .ok (.iload 5, 2) := by decide +kernel
theorem dL_law__1836 : decode cL_law_ 1836 = .ok (.if_icmp .eq 5, 3) := by decide +kernel
theorem dL_law__1839 : decode cL_law_ 1839 = .ok (.iconst 0, 1) := by decide +kernel
theorem dL_law__1840 : decode cL_law_ 1840 = .ok (.ireturn, 1) := by decide +kernel
theorem dL_law__1841 : decode cL_law_ 1841 = .ok (.iload 5, 2) := by decide +kernel
theorem dL_law__1843 : decode cL_law_ 1843 = .ok (.ifCond .ne 15, 3) := by decide +kernel
theorem dL_law__1846 : decode cL_law_ 1846 = .ok (.aload_n 3, 1) := by decide +kernel
theorem dL_law__1847 : decode cL_law_ 1847 = .ok (.iconst 0, 1) := by decide +kernel
theorem dL_law__1848 : decode cL_law_ 1848 = .ok (.laload, 1) := by decide +kernel
theorem dL_law__1849 : decode cL_law_ 1849 = .ok (.iload 6, 2) := by decide +kernel
theorem dL_law__1851 : decode cL_law_ 1851 = .ok (.i2l, 1) := by decide +kernel
theorem dL_law__1852 : decode cL_law_ 1852 = .ok (.lcmp, 1) := by decide +kernel
theorem dL_law__1853 : decode cL_law_ 1853 = .ok (.ifCond .eq 5, 3) := by decide +kernel
theorem dL_law__1856 : decode cL_law_ 1856 = .ok (.iconst 0, 1) := by decide +kernel
theorem dL_law__1857 : decode cL_law_ 1857 = .ok (.ireturn, 1) := by decide +kernel
theorem dL_law__1858 : decode cL_law_ 1858 = .ok (.goto 1037, 3) := by decide +kernel
theorem dL_law__1861 : decode cL_law_ 1861 = .ok (.aload_n 1, 1) := by decide +kernel
theorem dL_law__1862 : decode cL_law_ 1862 = .ok (.aload_n 0, 1) := by decide +kernel
theorem dL_law__1863 : decode cL_law_ 1863 = .ok (.iload 4, 2) := by decide +kernel
theorem dL_law__1865 : decode cL_law_ 1865 = .ok (.iconst 1, 1) := by decide +kernel
theorem dL_law__1866 : decode cL_law_ 1866 = .ok (.iadd, 1) := by decide +kernel
theorem dL_law__1867 : decode cL_law_ 1867 = .ok (.iaload, 1) := by decide +kernel
theorem dL_law__1868 : decode cL_law_ 1868 = .ok (.aload_n 0, 1) := by decide +kernel
theorem dL_law__1869 : decode cL_law_ 1869 = .ok (.iload 4, 2) := by decide +kernel
theorem dL_law__1871 : decode cL_law_ 1871 = .ok (.iconst 2, 1) := by decide +kernel
theorem dL_law__1872 : decode cL_law_ 1872 = .ok (.iadd, 1) := by decide +kernel
theorem dL_law__1873 : decode cL_law_ 1873 = .ok (.iaload, 1) := by decide +kernel
theorem dL_law__1874 : decode cL_law_ 1874 = .ok (.aload_n 3, 1) := by decide +kernel
theorem dL_law__1875 : decode cL_law_ 1875 = .ok (.invokestatic 252, 3) := by decide +kernel
theorem dL_law__1878 : decode cL_law_ 1878 = .ok (.istore 5, 2) := by decide +kernel
theorem dL_law__1880 : decode cL_law_ 1880 = .ok (.aload_n 2, 1) := by decide +kernel
theorem dL_law__1881 : decode cL_law_ 1881 = .ok (.aload_n 0, 1) := by decide +kernel
theorem dL_law__1882 : decode cL_law_ 1882 = .ok (.iload 4, 2) := by decide +kernel
theorem dL_law__1884 : decode cL_law_ 1884 = .ok (.iconst 1, 1) := by decide +kernel
theorem dL_law__1885 : decode cL_law_ 1885 = .ok (.iadd, 1) := by decide +kernel
theorem dL_law__1886 : decode cL_law_ 1886 = .ok (.iaload, 1) := by decide +kernel
theorem dL_law__1887 : decode cL_law_ 1887 = .ok (.aload_n 0, 1) := by decide +kernel
theorem dL_law__1888 : decode cL_law_ 1888 = .ok (.iload 4, 2) := by decide +kernel
theorem dL_law__1890 : decode cL_law_ 1890 = .ok (.iconst 2, 1) := by decide +kernel
theorem dL_law__1891 : decode cL_law_ 1891 = .ok (.iadd, 1) := by decide +kernel
theorem dL_law__1892 : decode cL_law_ 1892 = .ok (.iaload, 1) := by decide +kernel
theorem dL_law__1893 : decode cL_law_ 1893 = .ok (.invokevirtual 254, 3) := by decide +kernel
theorem dL_law__1896 : decode cL_law_ 1896 = .ok (.istore 6, 2) := by decide +kernel
theorem dL_law__1898 : decode cL_law_ 1898 = .ok (.aload_n 2, 1) := by decide +kernel
theorem dL_law__1899 : decode cL_law_ 1899 = .ok (.invokevirtual 150, 3) := by decide +kernel
theorem dL_law__1902 : decode cL_law_ 1902 = .ok (.iload 5, 2) := by decide +kernel
theorem dL_law__1904 : decode cL_law_ 1904 = .ok (.if_icmp .eq 5, 3) := by decide +kernel
theorem dL_law__1907 : decode cL_law_ 1907 = .ok (.iconst 0, 1) := by decide +kernel
theorem dL_law__1908 : decode cL_law_ 1908 = .ok (.ireturn, 1) := by decide +kernel
theorem dL_law__1909 : decode cL_law_ 1909 = .ok (.iload 5, 2) := by decide +kernel
theorem dL_law__1911 : decode cL_law_ 1911 = .ok (.ifCond .ne 15, 3) := by decide +kernel
theorem dL_law__1914 : decode cL_law_ 1914 = .ok (.aload_n 3, 1) := by decide +kernel
theorem dL_law__1915 : decode cL_law_ 1915 = .ok (.iconst 0, 1) := by decide +kernel
theorem dL_law__1916 : decode cL_law_ 1916 = .ok (.laload, 1) := by decide +kernel
theorem dL_law__1917 : decode cL_law_ 1917 = .ok (.iload 6, 2) := by decide +kernel
theorem dL_law__1919 : decode cL_law_ 1919 = .ok (.i2l, 1) := by decide +kernel
theorem dL_law__1920 : decode cL_law_ 1920 = .ok (.lcmp, 1) := by decide +kernel
theorem dL_law__1921 : decode cL_law_ 1921 = .ok (.ifCond .eq 5, 3) := by decide +kernel
theorem dL_law__1924 : decode cL_law_ 1924 = .ok (.iconst 0, 1) := by decide +kernel
theorem dL_law__1925 : decode cL_law_ 1925 = .ok (.ireturn, 1) := by decide +kernel
theorem dL_law__1926 : decode cL_law_ 1926 = .ok (.goto 969, 3) := by decide +kernel
theorem dL_law__1929 : decode cL_law_ 1929 = .ok (.aload_n 1, 1) := by decide +kernel
theorem dL_law__1930 : decode cL_law_ 1930 = .ok (.aload_n 0, 1) := by decide +kernel
theorem dL_law__1931 : decode cL_law_ 1931 = .ok (.iload 4, 2) := by decide +kernel
theorem dL_law__1933 : decode cL_law_ 1933 = .ok (.iconst 1, 1) := by decide +kernel
theorem dL_law__1934 : decode cL_law_ 1934 = .ok (.iadd, 1) := by decide +kernel
theorem dL_law__1935 : decode cL_law_ 1935 = .ok (.iaload, 1) := by decide +kernel
theorem dL_law__1936 : decode cL_law_ 1936 = .ok (.aload_n 0, 1) := by decide +kernel
theorem dL_law__1937 : decode cL_law_ 1937 = .ok (.iload 4, 2) := by decide +kernel
theorem dL_law__1939 : decode cL_law_ 1939 = .ok (.iconst 2, 1) := by decide +kernel
theorem dL_law__1940 : decode cL_law_ 1940 = .ok (.iadd, 1) := by decide +kernel
theorem dL_law__1941 : decode cL_law_ 1941 = .ok (.iaload, 1) := by decide +kernel
theorem dL_law__1942 : decode cL_law_ 1942 = .ok (.aload_n 3, 1) := by decide +kernel
theorem dL_law__1943 : decode cL_law_ 1943 = .ok (.invokestatic 255, 3) := by decide +kernel
theorem dL_law__1946 : decode cL_law_ 1946 = .ok (.istore 5, 2) := by decide +kernel
theorem dL_law__1948 : decode cL_law_ 1948 = .ok (.aload_n 2, 1) := by decide +kernel
theorem dL_law__1949 : decode cL_law_ 1949 = .ok (.aload_n 0, 1) := by decide +kernel
theorem dL_law__1950 : decode cL_law_ 1950 = .ok (.iload 4, 2) := by decide +kernel
theorem dL_law__1952 : decode cL_law_ 1952 = .ok (.iconst 1, 1) := by decide +kernel
theorem dL_law__1953 : decode cL_law_ 1953 = .ok (.iadd, 1) := by decide +kernel
theorem dL_law__1954 : decode cL_law_ 1954 = .ok (.iaload, 1) := by decide +kernel
theorem dL_law__1955 : decode cL_law_ 1955 = .ok (.aload_n 0, 1) := by decide +kernel
theorem dL_law__1956 : decode cL_law_ 1956 = .ok (.iload 4, 2) := by decide +kernel
theorem dL_law__1958 : decode cL_law_ 1958 = .ok (.iconst 2, 1) := by decide +kernel
theorem dL_law__1959 : decode cL_law_ 1959 = .ok (.iadd, 1) := by decide +kernel
theorem dL_law__1960 : decode cL_law_ 1960 = .ok (.iaload, 1) := by decide +kernel
theorem dL_law__1961 : decode cL_law_ 1961 = .ok (.invokevirtual 257, 3) := by decide +kernel
theorem dL_law__1964 : decode cL_law_ 1964 = .ok (.istore 6, 2) := by decide +kernel
theorem dL_law__1966 : decode cL_law_ 1966 = .ok (.aload_n 2, 1) := by decide +kernel
theorem dL_law__1967 : decode cL_law_ 1967 = .ok (.invokevirtual 150, 3) := by decide +kernel
theorem dL_law__1970 : decode cL_law_ 1970 = .ok (.iload 5, 2) := by decide +kernel
theorem dL_law__1972 : decode cL_law_ 1972 = .ok (.if_icmp .eq 5, 3) := by decide +kernel
theorem dL_law__1975 : decode cL_law_ 1975 = .ok (.iconst 0, 1) := by decide +kernel
theorem dL_law__1976 : decode cL_law_ 1976 = .ok (.ireturn, 1) := by decide +kernel
theorem dL_law__1977 : decode cL_law_ 1977 = .ok (.iload 5, 2) := by decide +kernel
theorem dL_law__1979 : decode cL_law_ 1979 = .ok (.ifCond .ne 15, 3) := by decide +kernel
theorem dL_law__1982 : decode cL_law_ 1982 = .ok (.aload_n 3, 1) := by decide +kernel
theorem dL_law__1983 : decode cL_law_ 1983 = .ok (.iconst 0, 1) := by decide +kernel
theorem dL_law__1984 : decode cL_law_ 1984 = .ok (.laload, 1) := by decide +kernel
theorem dL_law__1985 : decode cL_law_ 1985 = .ok (.iload 6, 2) := by decide +kernel
theorem dL_law__1987 : decode cL_law_ 1987 = .ok (.i2l, 1) := by decide +kernel
theorem dL_law__1988 : decode cL_law_ 1988 = .ok (.lcmp, 1) := by decide +kernel
theorem dL_law__1989 : decode cL_law_ 1989 = .ok (.ifCond .eq 5, 3) := by decide +kernel
theorem dL_law__1992 : decode cL_law_ 1992 = .ok (.iconst 0, 1) := by decide +kernel
theorem dL_law__1993 : decode cL_law_ 1993 = .ok (.ireturn, 1) := by decide +kernel
theorem dL_law__1994 : decode cL_law_ 1994 = .ok (.goto 901, 3) := by decide +kernel
theorem dL_law__1997 : decode cL_law_ 1997 = .ok (.aload_n 1, 1) := by decide +kernel
theorem dL_law__1998 : decode cL_law_ 1998 = .ok (.aload_n 0, 1) := by decide +kernel
theorem dL_law__1999 : decode cL_law_ 1999 = .ok (.iload 4, 2) := by decide +kernel
theorem dL_law__2001 : decode cL_law_ 2001 = .ok (.iconst 1, 1) := by decide +kernel
theorem dL_law__2002 : decode cL_law_ 2002 = .ok (.iadd, 1) := by decide +kernel
theorem dL_law__2003 : decode cL_law_ 2003 = .ok (.iaload, 1) := by decide +kernel
theorem dL_law__2004 : decode cL_law_ 2004 = .ok (.aload_n 0, 1) := by decide +kernel
theorem dL_law__2005 : decode cL_law_ 2005 = .ok (.iload 4, 2) := by decide +kernel
theorem dL_law__2007 : decode cL_law_ 2007 = .ok (.iconst 2, 1) := by decide +kernel
theorem dL_law__2008 : decode cL_law_ 2008 = .ok (.iadd, 1) := by decide +kernel
theorem dL_law__2009 : decode cL_law_ 2009 = .ok (.iaload, 1) := by decide +kernel
theorem dL_law__2010 : decode cL_law_ 2010 = .ok (.ifCond .eq 7, 3) := by decide +kernel
theorem dL_law__2013 : decode cL_law_ 2013 = .ok (.iconst 1, 1) := by decide +kernel
theorem dL_law__2014 : decode cL_law_ 2014 = .ok (.goto 4, 3) := by decide +kernel
theorem dL_law__2017 : decode cL_law_ 2017 = .ok (.iconst 0, 1) := by decide +kernel
theorem dL_law__2018 : decode cL_law_ 2018 = .ok (.aload_n 3, 1) := by decide +kernel
theorem dL_law__2019 : decode cL_law_ 2019 = .ok (.invokestatic 258, 3) := by decide +kernel
theorem dL_law__2022 : decode cL_law_ 2022 = .ok (.istore 5, 2) := by decide +kernel
theorem dL_law__2024 : decode cL_law_ 2024 = .ok (.aload_n 2, 1) := by decide +kernel
theorem dL_law__2025 : decode cL_law_ 2025 = .ok (.aload_n 0, 1) := by decide +kernel
theorem dL_law__2026 : decode cL_law_ 2026 = .ok (.iload 4, 2) := by decide +kernel
theorem dL_law__2028 : decode cL_law_ 2028 = .ok (.iconst 1, 1) := by decide +kernel
theorem dL_law__2029 : decode cL_law_ 2029 = .ok (.iadd, 1) := by decide +kernel
theorem dL_law__2030 : decode cL_law_ 2030 = .ok (.iaload, 1) := by decide +kernel
theorem dL_law__2031 : decode cL_law_ 2031 = .ok (.aload_n 0, 1) := by decide +kernel
theorem dL_law__2032 : decode cL_law_ 2032 = .ok (.iload 4, 2) := by decide +kernel
theorem dL_law__2034 : decode cL_law_ 2034 = .ok (.iconst 2, 1) := by decide +kernel
theorem dL_law__2035 : decode cL_law_ 2035 = .ok (.iadd, 1) := by decide +kernel
theorem dL_law__2036 : decode cL_law_ 2036 = .ok (.iaload, 1) := by decide +kernel
theorem dL_law__2037 : decode cL_law_ 2037 = .ok (.ifCond .eq 7, 3) := by decide +kernel
theorem dL_law__2040 : decode cL_law_ 2040 = .ok (.iconst 1, 1) := by decide +kernel
theorem dL_law__2041 : decode cL_law_ 2041 = .ok (.goto 4, 3) := by decide +kernel
theorem dL_law__2044 : decode cL_law_ 2044 = .ok (.iconst 0, 1) := by decide +kernel
theorem dL_law__2045 : decode cL_law_ 2045 = .ok (.invokevirtual 260, 3) := by decide +kernel
theorem dL_law__2048 : decode cL_law_ 2048 = .ok (.istore 6, 2) := by decide +kernel
theorem dL_law__2050 : decode cL_law_ 2050 = .ok (.aload_n 2, 1) := by decide +kernel
theorem dL_law__2051 : decode cL_law_ 2051 = .ok (.invokevirtual 150, 3) := by decide +kernel
theorem dL_law__2054 : decode cL_law_ 2054 = .ok (.iload 5, 2) := by decide +kernel
theorem dL_law__2056 : decode cL_law_ 2056 = .ok (.if_icmp .eq 5, 3) := by decide +kernel
theorem dL_law__2059 : decode cL_law_ 2059 = .ok (.iconst 0, 1) := by decide +kernel
theorem dL_law__2060 : decode cL_law_ 2060 = .ok (.ireturn, 1) := by decide +kernel
theorem dL_law__2061 : decode cL_law_ 2061 = .ok (.iload 5, 2) := by decide +kernel
theorem dL_law__2063 : decode cL_law_ 2063 = .ok (.ifCond .ne 15, 3) := by decide +kernel
theorem dL_law__2066 : decode cL_law_ 2066 = .ok (.aload_n 3, 1) := by decide +kernel
theorem dL_law__2067 : decode cL_law_ 2067 = .ok (.iconst 0, 1) := by decide +kernel
theorem dL_law__2068 : decode cL_law_ 2068 = .ok (.laload, 1) := by decide +kernel
theorem dL_law__2069 : decode cL_law_ 2069 = .ok (.iload 6, 2) := by decide +kernel
theorem dL_law__2071 : decode cL_law_ 2071 = .ok (.i2l, 1) := by decide +kernel
theorem dL_law__2072 : decode cL_law_ 2072 = .ok (.lcmp, 1) := by decide +kernel
theorem dL_law__2073 : decode cL_law_ 2073 = .ok (.ifCond .eq 5, 3) := by decide +kernel
theorem dL_law__2076 : decode cL_law_ 2076 = .ok (.iconst 0, 1) := by decide +kernel
theorem dL_law__2077 : decode cL_law_ 2077 = .ok (.ireturn, 1) := by decide +kernel
theorem dL_law__2078 : decode cL_law_ 2078 = .ok (.goto 817, 3) := by decide +kernel
theorem dL_law__2081 : decode cL_law_ 2081 = .ok (.aload_n 1, 1) := by decide +kernel
theorem dL_law__2082 : decode cL_law_ 2082 = .ok (.aload_n 0, 1) := by decide +kernel
theorem dL_law__2083 : decode cL_law_ 2083 = .ok (.iload 4, 2) := by decide +kernel
theorem dL_law__2085 : decode cL_law_ 2085 = .ok (.iconst 1, 1) := by decide +kernel
theorem dL_law__2086 : decode cL_law_ 2086 = .ok (.iadd, 1) := by decide +kernel
theorem dL_law__2087 : decode cL_law_ 2087 = .ok (.iaload, 1) := by decide +kernel
theorem dL_law__2088 : decode cL_law_ 2088 = .ok (.aload_n 0, 1) := by decide +kernel
theorem dL_law__2089 : decode cL_law_ 2089 = .ok (.iload 4, 2) := by decide +kernel
theorem dL_law__2091 : decode cL_law_ 2091 = .ok (.iconst 2, 1) := by decide +kernel
theorem dL_law__2092 : decode cL_law_ 2092 = .ok (.iadd, 1) := by decide +kernel
theorem dL_law__2093 : decode cL_law_ 2093 = .ok (.iaload, 1) := by decide +kernel
theorem dL_law__2094 : decode cL_law_ 2094 = .ok (.aload_n 3, 1) := by decide +kernel
theorem dL_law__2095 : decode cL_law_ 2095 = .ok (.invokestatic 261, 3) := by decide +kernel
theorem dL_law__2098 : decode cL_law_ 2098 = .ok (.istore 5, 2) := by decide +kernel
theorem dL_law__2100 : decode cL_law_ 2100 = .ok (.aload_n 2, 1) := by decide +kernel
theorem dL_law__2101 : decode cL_law_ 2101 = .ok (.aload_n 0, 1) := by decide +kernel
theorem dL_law__2102 : decode cL_law_ 2102 = .ok (.iload 4, 2) := by decide +kernel
theorem dL_law__2104 : decode cL_law_ 2104 = .ok (.iconst 1, 1) := by decide +kernel
theorem dL_law__2105 : decode cL_law_ 2105 = .ok (.iadd, 1) := by decide +kernel
theorem dL_law__2106 : decode cL_law_ 2106 = .ok (.iaload, 1) := by decide +kernel
theorem dL_law__2107 : decode cL_law_ 2107 = .ok (.aload_n 0, 1) := by decide +kernel
theorem dL_law__2108 : decode cL_law_ 2108 = .ok (.iload 4, 2) := by decide +kernel
theorem dL_law__2110 : decode cL_law_ 2110 = .ok (.iconst 2, 1) := by decide +kernel
theorem dL_law__2111 : decode cL_law_ 2111 = .ok (.iadd, 1) := by decide +kernel
theorem dL_law__2112 : decode cL_law_ 2112 = .ok (.iaload, 1) := by decide +kernel
theorem dL_law__2113 : decode cL_law_ 2113 = .ok (.invokevirtual 263, 3) := by decide +kernel
theorem dL_law__2116 : decode cL_law_ 2116 = .ok (.istore 6, 2) := by decide +kernel
theorem dL_law__2118 : decode cL_law_ 2118 = .ok (.aload_n 2, 1) := by decide +kernel
theorem dL_law__2119 : decode cL_law_ 2119 = .ok (.invokevirtual 150, 3) := by decide +kernel
theorem dL_law__2122 : decode cL_law_ 2122 = .ok (.iload 5, 2) := by decide +kernel
theorem dL_law__2124 : decode cL_law_ 2124 = .ok (.if_icmp .eq 5, 3) := by decide +kernel
theorem dL_law__2127 : decode cL_law_ 2127 = .ok (.iconst 0, 1) := by decide +kernel
theorem dL_law__2128 : decode cL_law_ 2128 = .ok (.ireturn, 1) := by decide +kernel
theorem dL_law__2129 : decode cL_law_ 2129 = .ok (.iload 5, 2) := by decide +kernel
theorem dL_law__2131 : decode cL_law_ 2131 = .ok (.ifCond .ne 22, 3) := by decide +kernel
theorem dL_law__2134 : decode cL_law_ 2134 = .ok (.aload_n 3, 1) := by decide +kernel
theorem dL_law__2135 : decode cL_law_ 2135 = .ok (.iconst 0, 1) := by decide +kernel
theorem dL_law__2136 : decode cL_law_ 2136 = .ok (.laload, 1) := by decide +kernel
theorem dL_law__2137 : decode cL_law_ 2137 = .ok (.iload 6, 2) := by decide +kernel
theorem dL_law__2139 : decode cL_law_ 2139 = .ok (.ifCond .eq 7, 3) := by decide +kernel
theorem dL_law__2142 : decode cL_law_ 2142 = .ok (.lconst 1, 1) := by decide +kernel
theorem dL_law__2143 : decode cL_law_ 2143 = .ok (.goto 4, 3) := by decide +kernel
theorem dL_law__2146 : decode cL_law_ 2146 = .ok (.lconst 0, 1) := by decide +kernel
theorem dL_law__2147 : decode cL_law_ 2147 = .ok (.lcmp, 1) := by decide +kernel
theorem dL_law__2148 : decode cL_law_ 2148 = .ok (.ifCond .eq 5, 3) := by decide +kernel
theorem dL_law__2151 : decode cL_law_ 2151 = .ok (.iconst 0, 1) := by decide +kernel
theorem dL_law__2152 : decode cL_law_ 2152 = .ok (.ireturn, 1) := by decide +kernel
theorem dL_law__2153 : decode cL_law_ 2153 = .ok (.goto 742, 3) := by decide +kernel
theorem dL_law__2156 : decode cL_law_ 2156 = .ok (.aload_n 1, 1) := by decide +kernel
theorem dL_law__2157 : decode cL_law_ 2157 = .ok (.aload_n 0, 1) := by decide +kernel
theorem dL_law__2158 : decode cL_law_ 2158 = .ok (.iload 4, 2) := by decide +kernel
theorem dL_law__2160 : decode cL_law_ 2160 = .ok (.iconst 1, 1) := by decide +kernel
theorem dL_law__2161 : decode cL_law_ 2161 = .ok (.iadd, 1) := by decide +kernel
theorem dL_law__2162 : decode cL_law_ 2162 = .ok (.iaload, 1) := by decide +kernel
theorem dL_law__2163 : decode cL_law_ 2163 = .ok (.aload_n 3, 1) := by decide +kernel
theorem dL_law__2164 : decode cL_law_ 2164 = .ok (.invokestatic 264, 3) := by decide +kernel
theorem dL_law__2167 : decode cL_law_ 2167 = .ok (.istore 5, 2) := by decide +kernel
theorem dL_law__2169 : decode cL_law_ 2169 = .ok (.aload_n 2, 1) := by decide +kernel
theorem dL_law__2170 : decode cL_law_ 2170 = .ok (.aload_n 0, 1) := by decide +kernel
theorem dL_law__2171 : decode cL_law_ 2171 = .ok (.iload 4, 2) := by decide +kernel
theorem dL_law__2173 : decode cL_law_ 2173 = .ok (.iconst 1, 1) := by decide +kernel
theorem dL_law__2174 : decode cL_law_ 2174 = .ok (.iadd, 1) := by decide +kernel
theorem dL_law__2175 : decode cL_law_ 2175 = .ok (.iaload, 1) := by decide +kernel
theorem dL_law__2176 : decode cL_law_ 2176 = .ok (.invokevirtual 266, 3) := by decide +kernel
theorem dL_law__2179 : decode cL_law_ 2179 = .ok (.istore 6, 2) := by decide +kernel
theorem dL_law__2181 : decode cL_law_ 2181 = .ok (.aload_n 2, 1) := by decide +kernel
theorem dL_law__2182 : decode cL_law_ 2182 = .ok (.invokevirtual 150, 3) := by decide +kernel
theorem dL_law__2185 : decode cL_law_ 2185 = .ok (.iload 5, 2) := by decide +kernel
theorem dL_law__2187 : decode cL_law_ 2187 = .ok (.if_icmp .eq 5, 3) := by decide +kernel
theorem dL_law__2190 : decode cL_law_ 2190 = .ok (.iconst 0, 1) := by decide +kernel
theorem dL_law__2191 : decode cL_law_ 2191 = .ok (.ireturn, 1) := by decide +kernel
theorem dL_law__2192 : decode cL_law_ 2192 = .ok (.iload 5, 2) := by decide +kernel
theorem dL_law__2194 : decode cL_law_ 2194 = .ok (.ifCond .ne 15, 3) := by decide +kernel
theorem dL_law__2197 : decode cL_law_ 2197 = .ok (.aload_n 3, 1) := by decide +kernel
theorem dL_law__2198 : decode cL_law_ 2198 = .ok (.iconst 0, 1) := by decide +kernel
theorem dL_law__2199 : decode cL_law_ 2199 = .ok (.laload, 1) := by decide +kernel
theorem dL_law__2200 : decode cL_law_ 2200 = .ok (.iload 6, 2) := by decide +kernel
theorem dL_law__2202 : decode cL_law_ 2202 = .ok (.i2l, 1) := by decide +kernel
theorem dL_law__2203 : decode cL_law_ 2203 = .ok (.lcmp, 1) := by decide +kernel
theorem dL_law__2204 : decode cL_law_ 2204 = .ok (.ifCond .eq 5, 3) := by decide +kernel
theorem dL_law__2207 : decode cL_law_ 2207 = .ok (.iconst 0, 1) := by decide +kernel
theorem dL_law__2208 : decode cL_law_ 2208 = .ok (.ireturn, 1) := by decide +kernel
theorem dL_law__2209 : decode cL_law_ 2209 = .ok (.goto 686, 3) := by decide +kernel
theorem dL_law__2212 : decode cL_law_ 2212 = .ok (.aload_n 1, 1) := by decide +kernel
theorem dL_law__2213 : decode cL_law_ 2213 = .ok (.aload_n 0, 1) := by decide +kernel
theorem dL_law__2214 : decode cL_law_ 2214 = .ok (.iload 4, 2) := by decide +kernel
theorem dL_law__2216 : decode cL_law_ 2216 = .ok (.iconst 1, 1) := by decide +kernel
theorem dL_law__2217 : decode cL_law_ 2217 = .ok (.iadd, 1) := by decide +kernel
theorem dL_law__2218 : decode cL_law_ 2218 = .ok (.iaload, 1) := by decide +kernel
theorem dL_law__2219 : decode cL_law_ 2219 = .ok (.aload_n 3, 1) := by decide +kernel
theorem dL_law__2220 : decode cL_law_ 2220 = .ok (.invokestatic 267, 3) := by decide +kernel
theorem dL_law__2223 : decode cL_law_ 2223 = .ok (.istore 5, 2) := by decide +kernel
theorem dL_law__2225 : decode cL_law_ 2225 = .ok (.aload_n 2, 1) := by decide +kernel
theorem dL_law__2226 : decode cL_law_ 2226 = .ok (.aload_n 0, 1) := by decide +kernel
theorem dL_law__2227 : decode cL_law_ 2227 = .ok (.iload 4, 2) := by decide +kernel
theorem dL_law__2229 : decode cL_law_ 2229 = .ok (.iconst 1, 1) := by decide +kernel
theorem dL_law__2230 : decode cL_law_ 2230 = .ok (.iadd, 1) := by decide +kernel
theorem dL_law__2231 : decode cL_law_ 2231 = .ok (.iaload, 1) := by decide +kernel
theorem dL_law__2232 : decode cL_law_ 2232 = .ok (.invokevirtual 269, 3) := by decide +kernel
theorem dL_law__2235 : decode cL_law_ 2235 = .ok (.istore 6, 2) := by decide +kernel
theorem dL_law__2237 : decode cL_law_ 2237 = .ok (.aload_n 2, 1) := by decide +kernel
theorem dL_law__2238 : decode cL_law_ 2238 = .ok (.invokevirtual 150, 3) := by decide +kernel
theorem dL_law__2241 : decode cL_law_ 2241 = .ok (.iload 5, 2) := by decide +kernel
theorem dL_law__2243 : decode cL_law_ 2243 = .ok (.if_icmp .eq 5, 3) := by decide +kernel
theorem dL_law__2246 : decode cL_law_ 2246 = .ok (.iconst 0, 1) := by decide +kernel
theorem dL_law__2247 : decode cL_law_ 2247 = .ok (.ireturn, 1) := by decide +kernel
theorem dL_law__2248 : decode cL_law_ 2248 = .ok (.iload 5, 2) := by decide +kernel
theorem dL_law__2250 : decode cL_law_ 2250 = .ok (.ifCond .ne 15, 3) := by decide +kernel
theorem dL_law__2253 : decode cL_law_ 2253 = .ok (.aload_n 3, 1) := by decide +kernel
theorem dL_law__2254 : decode cL_law_ 2254 = .ok (.iconst 0, 1) := by decide +kernel
theorem dL_law__2255 : decode cL_law_ 2255 = .ok (.laload, 1) := by decide +kernel
theorem dL_law__2256 : decode cL_law_ 2256 = .ok (.iload 6, 2) := by decide +kernel
theorem dL_law__2258 : decode cL_law_ 2258 = .ok (.i2l, 1) := by decide +kernel
theorem dL_law__2259 : decode cL_law_ 2259 = .ok (.lcmp, 1) := by decide +kernel
theorem dL_law__2260 : decode cL_law_ 2260 = .ok (.ifCond .eq 5, 3) := by decide +kernel
theorem dL_law__2263 : decode cL_law_ 2263 = .ok (.iconst 0, 1) := by decide +kernel
theorem dL_law__2264 : decode cL_law_ 2264 = .ok (.ireturn, 1) := by decide +kernel
theorem dL_law__2265 : decode cL_law_ 2265 = .ok (.goto 630, 3) := by decide +kernel
theorem dL_law__2268 : decode cL_law_ 2268 = .ok (.aload_n 1, 1) := by decide +kernel
theorem dL_law__2269 : decode cL_law_ 2269 = .ok (.aload_n 0, 1) := by decide +kernel
theorem dL_law__2270 : decode cL_law_ 2270 = .ok (.iload 4, 2) := by decide +kernel
theorem dL_law__2272 : decode cL_law_ 2272 = .ok (.iconst 1, 1) := by decide +kernel
theorem dL_law__2273 : decode cL_law_ 2273 = .ok (.iadd, 1) := by decide +kernel
theorem dL_law__2274 : decode cL_law_ 2274 = .ok (.iaload, 1) := by decide +kernel
theorem dL_law__2275 : decode cL_law_ 2275 = .ok (.aload_n 0, 1) := by decide +kernel
theorem dL_law__2276 : decode cL_law_ 2276 = .ok (.iload 4, 2) := by decide +kernel
theorem dL_law__2278 : decode cL_law_ 2278 = .ok (.iconst 2, 1) := by decide +kernel
theorem dL_law__2279 : decode cL_law_ 2279 = .ok (.iadd, 1) := by decide +kernel
theorem dL_law__2280 : decode cL_law_ 2280 = .ok (.iaload, 1) := by decide +kernel
theorem dL_law__2281 : decode cL_law_ 2281 = .ok (.aload_n 3, 1) := by decide +kernel
theorem dL_law__2282 : decode cL_law_ 2282 = .ok (.invokestatic 270, 3) := by decide +kernel
theorem dL_law__2285 : decode cL_law_ 2285 = .ok (.istore 5, 2) := by decide +kernel
theorem dL_law__2287 : decode cL_law_ 2287 = .ok (.aload_n 2, 1) := by decide +kernel
theorem dL_law__2288 : decode cL_law_ 2288 = .ok (.aload_n 0, 1) := by decide +kernel
theorem dL_law__2289 : decode cL_law_ 2289 = .ok (.iload 4, 2) := by decide +kernel
theorem dL_law__2291 : decode cL_law_ 2291 = .ok (.iconst 1, 1) := by decide +kernel
theorem dL_law__2292 : decode cL_law_ 2292 = .ok (.iadd, 1) := by decide +kernel
theorem dL_law__2293 : decode cL_law_ 2293 = .ok (.iaload, 1) := by decide +kernel
theorem dL_law__2294 : decode cL_law_ 2294 = .ok (.aload_n 0, 1) := by decide +kernel
theorem dL_law__2295 : decode cL_law_ 2295 = .ok (.iload 4, 2) := by decide +kernel
theorem dL_law__2297 : decode cL_law_ 2297 = .ok (.iconst 2, 1) := by decide +kernel
theorem dL_law__2298 : decode cL_law_ 2298 = .ok (.iadd, 1) := by decide +kernel
theorem dL_law__2299 : decode cL_law_ 2299 = .ok (.iaload, 1) := by decide +kernel
theorem dL_law__2300 : decode cL_law_ 2300 = .ok (.invokevirtual 272, 3) := by decide +kernel
theorem dL_law__2303 : decode cL_law_ 2303 = .ok (.istore 6, 2) := by decide +kernel
theorem dL_law__2305 : decode cL_law_ 2305 = .ok (.aload_n 2, 1) := by decide +kernel
theorem dL_law__2306 : decode cL_law_ 2306 = .ok (.invokevirtual 150, 3) := by decide +kernel
theorem dL_law__2309 : decode cL_law_ 2309 = .ok (.iload 5, 2) := by decide +kernel
theorem dL_law__2311 : decode cL_law_ 2311 = .ok (.if_icmp .eq 5, 3) := by decide +kernel
theorem dL_law__2314 : decode cL_law_ 2314 = .ok (.iconst 0, 1) := by decide +kernel
theorem dL_law__2315 : decode cL_law_ 2315 = .ok (.ireturn, 1) := by decide +kernel
theorem dL_law__2316 : decode cL_law_ 2316 = .ok (.iload 5, 2) := by decide +kernel
theorem dL_law__2318 : decode cL_law_ 2318 = .ok (.ifCond .ne 15, 3) := by decide +kernel
theorem dL_law__2321 : decode cL_law_ 2321 = .ok (.aload_n 3, 1) := by decide +kernel
theorem dL_law__2322 : decode cL_law_ 2322 = .ok (.iconst 0, 1) := by decide +kernel
theorem dL_law__2323 : decode cL_law_ 2323 = .ok (.laload, 1) := by decide +kernel
theorem dL_law__2324 : decode cL_law_ 2324 = .ok (.iload 6, 2) := by decide +kernel
theorem dL_law__2326 : decode cL_law_ 2326 = .ok (.i2l, 1) := by decide +kernel
theorem dL_law__2327 : decode cL_law_ 2327 = .ok (.lcmp, 1) := by decide +kernel
theorem dL_law__2328 : decode cL_law_ 2328 = .ok (.ifCond .eq 5, 3) := by decide +kernel
theorem dL_law__2331 : decode cL_law_ 2331 = .ok (.iconst 0, 1) := by decide +kernel
theorem dL_law__2332 : decode cL_law_ 2332 = .ok (.ireturn, 1) := by decide +kernel
theorem dL_law__2333 : decode cL_law_ 2333 = .ok (.goto 562, 3) := by decide +kernel
theorem dL_law__2336 : decode cL_law_ 2336 = .ok (.aload_n 1, 1) := by decide +kernel
theorem dL_law__2337 : decode cL_law_ 2337 = .ok (.aload_n 0, 1) := by decide +kernel
theorem dL_law__2338 : decode cL_law_ 2338 = .ok (.iload 4, 2) := by decide +kernel
theorem dL_law__2340 : decode cL_law_ 2340 = .ok (.iconst 1, 1) := by decide +kernel
theorem dL_law__2341 : decode cL_law_ 2341 = .ok (.iadd, 1) := by decide +kernel
theorem dL_law__2342 : decode cL_law_ 2342 = .ok (.iaload, 1) := by decide +kernel
theorem dL_law__2343 : decode cL_law_ 2343 = .ok (.aload_n 0, 1) := by decide +kernel
theorem dL_law__2344 : decode cL_law_ 2344 = .ok (.iload 4, 2) := by decide +kernel
theorem dL_law__2346 : decode cL_law_ 2346 = .ok (.iconst 2, 1) := by decide +kernel
theorem dL_law__2347 : decode cL_law_ 2347 = .ok (.iadd, 1) := by decide +kernel
theorem dL_law__2348 : decode cL_law_ 2348 = .ok (.iaload, 1) := by decide +kernel
theorem dL_law__2349 : decode cL_law_ 2349 = .ok (.aload_n 0, 1) := by decide +kernel
theorem dL_law__2350 : decode cL_law_ 2350 = .ok (.iload 4, 2) := by decide +kernel
theorem dL_law__2352 : decode cL_law_ 2352 = .ok (.iconst 3, 1) := by decide +kernel
theorem dL_law__2353 : decode cL_law_ 2353 = .ok (.iadd, 1) := by decide +kernel
theorem dL_law__2354 : decode cL_law_ 2354 = .ok (.iaload, 1) := by decide +kernel
theorem dL_law__2355 : decode cL_law_ 2355 = .ok (.ifCond .eq 7, 3) := by decide +kernel
theorem dL_law__2358 : decode cL_law_ 2358 = .ok (.iconst 1, 1) := by decide +kernel
theorem dL_law__2359 : decode cL_law_ 2359 = .ok (.goto 4, 3) := by decide +kernel
theorem dL_law__2362 : decode cL_law_ 2362 = .ok (.iconst 0, 1) := by decide +kernel
theorem dL_law__2363 : decode cL_law_ 2363 = .ok (.aload_n 3, 1) := by decide +kernel
theorem dL_law__2364 : decode cL_law_ 2364 = .ok (.invokestatic 273, 3) := by decide +kernel
theorem dL_law__2367 : decode cL_law_ 2367 = .ok (.istore 5, 2) := by decide +kernel
theorem dL_law__2369 : decode cL_law_ 2369 = .ok (.aload_n 2, 1) := by decide +kernel
theorem dL_law__2370 : decode cL_law_ 2370 = .ok (.aload_n 0, 1) := by decide +kernel
theorem dL_law__2371 : decode cL_law_ 2371 = .ok (.iload 4, 2) := by decide +kernel
theorem dL_law__2373 : decode cL_law_ 2373 = .ok (.iconst 1, 1) := by decide +kernel
theorem dL_law__2374 : decode cL_law_ 2374 = .ok (.iadd, 1) := by decide +kernel
theorem dL_law__2375 : decode cL_law_ 2375 = .ok (.iaload, 1) := by decide +kernel
theorem dL_law__2376 : decode cL_law_ 2376 = .ok (.aload_n 0, 1) := by decide +kernel
theorem dL_law__2377 : decode cL_law_ 2377 = .ok (.iload 4, 2) := by decide +kernel
theorem dL_law__2379 : decode cL_law_ 2379 = .ok (.iconst 2, 1) := by decide +kernel
theorem dL_law__2380 : decode cL_law_ 2380 = .ok (.iadd, 1) := by decide +kernel
theorem dL_law__2381 : decode cL_law_ 2381 = .ok (.iaload, 1) := by decide +kernel
theorem dL_law__2382 : decode cL_law_ 2382 = .ok (.aload_n 0, 1) := by decide +kernel
theorem dL_law__2383 : decode cL_law_ 2383 = .ok (.iload 4, 2) := by decide +kernel
theorem dL_law__2385 : decode cL_law_ 2385 = .ok (.iconst 3, 1) := by decide +kernel
theorem dL_law__2386 : decode cL_law_ 2386 = .ok (.iadd, 1) := by decide +kernel
theorem dL_law__2387 : decode cL_law_ 2387 = .ok (.iaload, 1) := by decide +kernel
theorem dL_law__2388 : decode cL_law_ 2388 = .ok (.ifCond .eq 7, 3) := by decide +kernel
theorem dL_law__2391 : decode cL_law_ 2391 = .ok (.iconst 1, 1) := by decide +kernel
theorem dL_law__2392 : decode cL_law_ 2392 = .ok (.goto 4, 3) := by decide +kernel
theorem dL_law__2395 : decode cL_law_ 2395 = .ok (.iconst 0, 1) := by decide +kernel
theorem dL_law__2396 : decode cL_law_ 2396 = .ok (.invokevirtual 275, 3) := by decide +kernel
theorem dL_law__2399 : decode cL_law_ 2399 = .ok (.istore 6, 2) := by decide +kernel
theorem dL_law__2401 : decode cL_law_ 2401 = .ok (.aload_n 2, 1) := by decide +kernel
theorem dL_law__2402 : decode cL_law_ 2402 = .ok (.invokevirtual 150, 3) := by decide +kernel
theorem dL_law__2405 : decode cL_law_ 2405 = .ok (.iload 5, 2) := by decide +kernel
theorem dL_law__2407 : decode cL_law_ 2407 = .ok (.if_icmp .eq 5, 3) := by decide +kernel
theorem dL_law__2410 : decode cL_law_ 2410 = .ok (.iconst 0, 1) := by decide +kernel
theorem dL_law__2411 : decode cL_law_ 2411 = .ok (.ireturn, 1) := by decide +kernel
theorem dL_law__2412 : decode cL_law_ 2412 = .ok (.iload 5, 2) := by decide +kernel
theorem dL_law__2414 : decode cL_law_ 2414 = .ok (.ifCond .ne 15, 3) := by decide +kernel
theorem dL_law__2417 : decode cL_law_ 2417 = .ok (.aload_n 3, 1) := by decide +kernel
theorem dL_law__2418 : decode cL_law_ 2418 = .ok (.iconst 0, 1) := by decide +kernel
theorem dL_law__2419 : decode cL_law_ 2419 = .ok (.laload, 1) := by decide +kernel
theorem dL_law__2420 : decode cL_law_ 2420 = .ok (.iload 6, 2) := by decide +kernel
theorem dL_law__2422 : decode cL_law_ 2422 = .ok (.i2l, 1) := by decide +kernel
theorem dL_law__2423 : decode cL_law_ 2423 = .ok (.lcmp, 1) := by decide +kernel
theorem dL_law__2424 : decode cL_law_ 2424 = .ok (.ifCond .eq 5, 3) := by decide +kernel
theorem dL_law__2427 : decode cL_law_ 2427 = .ok (.iconst 0, 1) := by decide +kernel
theorem dL_law__2428 : decode cL_law_ 2428 = .ok (.ireturn, 1) := by decide +kernel
theorem dL_law__2429 : decode cL_law_ 2429 = .ok (.goto 466, 3) := by decide +kernel
theorem dL_law__2432 : decode cL_law_ 2432 = .ok (.aload_n 1, 1) := by decide +kernel
theorem dL_law__2433 : decode cL_law_ 2433 = .ok (.aload_n 0, 1) := by decide +kernel
theorem dL_law__2434 : decode cL_law_ 2434 = .ok (.iload 4, 2) := by decide +kernel
theorem dL_law__2436 : decode cL_law_ 2436 = .ok (.iconst 1, 1) := by decide +kernel
theorem dL_law__2437 : decode cL_law_ 2437 = .ok (.iadd, 1) := by decide +kernel
theorem dL_law__2438 : decode cL_law_ 2438 = .ok (.iaload, 1) := by decide +kernel
theorem dL_law__2439 : decode cL_law_ 2439 = .ok (.aload_n 3, 1) := by decide +kernel
theorem dL_law__2440 : decode cL_law_ 2440 = .ok (.invokestatic 276, 3) := by decide +kernel
theorem dL_law__2443 : decode cL_law_ 2443 = .ok (.istore 5, 2) := by decide +kernel
theorem dL_law__2445 : decode cL_law_ 2445 = .ok (.aload_n 2, 1) := by decide +kernel
theorem dL_law__2446 : decode cL_law_ 2446 = .ok (.aload_n 0, 1) := by decide +kernel
theorem dL_law__2447 : decode cL_law_ 2447 = .ok (.iload 4, 2) := by decide +kernel
theorem dL_law__2449 : decode cL_law_ 2449 = .ok (.iconst 1, 1) := by decide +kernel
theorem dL_law__2450 : decode cL_law_ 2450 = .ok (.iadd, 1) := by decide +kernel
theorem dL_law__2451 : decode cL_law_ 2451 = .ok (.iaload, 1) := by decide +kernel
theorem dL_law__2452 : decode cL_law_ 2452 = .ok (.invokevirtual 278, 3) := by decide +kernel
theorem dL_law__2455 : decode cL_law_ 2455 = .ok (.istore 6, 2) := by decide +kernel
theorem dL_law__2457 : decode cL_law_ 2457 = .ok (.aload_n 2, 1) := by decide +kernel
theorem dL_law__2458 : decode cL_law_ 2458 = .ok (.invokevirtual 150, 3) := by decide +kernel
theorem dL_law__2461 : decode cL_law_ 2461 = .ok (.iload 5, 2) := by decide +kernel
theorem dL_law__2463 : decode cL_law_ 2463 = .ok (.if_icmp .eq 5, 3) := by decide +kernel
theorem dL_law__2466 : decode cL_law_ 2466 = .ok (.iconst 0, 1) := by decide +kernel
theorem dL_law__2467 : decode cL_law_ 2467 = .ok (.ireturn, 1) := by decide +kernel
theorem dL_law__2468 : decode cL_law_ 2468 = .ok (.iload 5, 2) := by decide +kernel
theorem dL_law__2470 : decode cL_law_ 2470 = .ok (.ifCond .ne 15, 3) := by decide +kernel
theorem dL_law__2473 : decode cL_law_ 2473 = .ok (.aload_n 3, 1) := by decide +kernel
theorem dL_law__2474 : decode cL_law_ 2474 = .ok (.iconst 0, 1) := by decide +kernel
theorem dL_law__2475 : decode cL_law_ 2475 = .ok (.laload, 1) := by decide +kernel
theorem dL_law__2476 : decode cL_law_ 2476 = .ok (.iload 6, 2) := by decide +kernel
theorem dL_law__2478 : decode cL_law_ 2478 = .ok (.i2l, 1) := by decide +kernel
theorem dL_law__2479 : decode cL_law_ 2479 = .ok (.lcmp, 1) := by decide +kernel
theorem dL_law__2480 : decode cL_law_ 2480 = .ok (.ifCond .eq 5, 3) := by decide +kernel
theorem dL_law__2483 : decode cL_law_ 2483 = .ok (.iconst 0, 1) := by decide +kernel
theorem dL_law__2484 : decode cL_law_ 2484 = .ok (.ireturn, 1) := by decide +kernel
theorem dL_law__2485 : decode cL_law_ 2485 = .ok (.goto 410, 3) := by decide +kernel
theorem dL_law__2488 : decode cL_law_ 2488 = .ok (.aload_n 1, 1) := by decide +kernel
theorem dL_law__2489 : decode cL_law_ 2489 = .ok (.aload_n 0, 1) := by decide +kernel
theorem dL_law__2490 : decode cL_law_ 2490 = .ok (.iload 4, 2) := by decide +kernel
theorem dL_law__2492 : decode cL_law_ 2492 = .ok (.iconst 1, 1) := by decide +kernel
theorem dL_law__2493 : decode cL_law_ 2493 = .ok (.iadd, 1) := by decide +kernel
theorem dL_law__2494 : decode cL_law_ 2494 = .ok (.iaload, 1) := by decide +kernel
theorem dL_law__2495 : decode cL_law_ 2495 = .ok (.aload_n 0, 1) := by decide +kernel
theorem dL_law__2496 : decode cL_law_ 2496 = .ok (.iload 4, 2) := by decide +kernel
theorem dL_law__2498 : decode cL_law_ 2498 = .ok (.iconst 2, 1) := by decide +kernel
theorem dL_law__2499 : decode cL_law_ 2499 = .ok (.iadd, 1) := by decide +kernel
theorem dL_law__2500 : decode cL_law_ 2500 = .ok (.iaload, 1) := by decide +kernel
theorem dL_law__2501 : decode cL_law_ 2501 = .ok (.ifCond .eq 7, 3) := by decide +kernel
theorem dL_law__2504 : decode cL_law_ 2504 = .ok (.iconst 1, 1) := by decide +kernel
theorem dL_law__2505 : decode cL_law_ 2505 = .ok (.goto 4, 3) := by decide +kernel
theorem dL_law__2508 : decode cL_law_ 2508 = .ok (.iconst 0, 1) := by decide +kernel
theorem dL_law__2509 : decode cL_law_ 2509 = .ok (.aload_n 3, 1) := by decide +kernel
theorem dL_law__2510 : decode cL_law_ 2510 = .ok (.invokestatic 279, 3) := by decide +kernel
theorem dL_law__2513 : decode cL_law_ 2513 = .ok (.istore 5, 2) := by decide +kernel
theorem dL_law__2515 : decode cL_law_ 2515 = .ok (.aload_n 2, 1) := by decide +kernel
theorem dL_law__2516 : decode cL_law_ 2516 = .ok (.aload_n 0, 1) := by decide +kernel
theorem dL_law__2517 : decode cL_law_ 2517 = .ok (.iload 4, 2) := by decide +kernel
theorem dL_law__2519 : decode cL_law_ 2519 = .ok (.iconst 1, 1) := by decide +kernel
theorem dL_law__2520 : decode cL_law_ 2520 = .ok (.iadd, 1) := by decide +kernel
theorem dL_law__2521 : decode cL_law_ 2521 = .ok (.iaload, 1) := by decide +kernel
theorem dL_law__2522 : decode cL_law_ 2522 = .ok (.aload_n 0, 1) := by decide +kernel
theorem dL_law__2523 : decode cL_law_ 2523 = .ok (.iload 4, 2) := by decide +kernel
theorem dL_law__2525 : decode cL_law_ 2525 = .ok (.iconst 2, 1) := by decide +kernel
theorem dL_law__2526 : decode cL_law_ 2526 = .ok (.iadd, 1) := by decide +kernel
theorem dL_law__2527 : decode cL_law_ 2527 = .ok (.iaload, 1) := by decide +kernel
theorem dL_law__2528 : decode cL_law_ 2528 = .ok (.ifCond .eq 7, 3) := by decide +kernel
theorem dL_law__2531 : decode cL_law_ 2531 = .ok (.iconst 1, 1) := by decide +kernel
theorem dL_law__2532 : decode cL_law_ 2532 = .ok (.goto 4, 3) := by decide +kernel
theorem dL_law__2535 : decode cL_law_ 2535 = .ok (.iconst 0, 1) := by decide +kernel
theorem dL_law__2536 : decode cL_law_ 2536 = .ok (.invokevirtual 281, 3) := by decide +kernel
theorem dL_law__2539 : decode cL_law_ 2539 = .ok (.istore 6, 2) := by decide +kernel
theorem dL_law__2541 : decode cL_law_ 2541 = .ok (.aload_n 2, 1) := by decide +kernel
theorem dL_law__2542 : decode cL_law_ 2542 = .ok (.invokevirtual 150, 3) := by decide +kernel
theorem dL_law__2545 : decode cL_law_ 2545 = .ok (.iload 5, 2) := by decide +kernel
theorem dL_law__2547 : decode cL_law_ 2547 = .ok (.if_icmp .eq 5, 3) := by decide +kernel
theorem dL_law__2550 : decode cL_law_ 2550 = .ok (.iconst 0, 1) := by decide +kernel
theorem dL_law__2551 : decode cL_law_ 2551 = .ok (.ireturn, 1) := by decide +kernel
theorem dL_law__2552 : decode cL_law_ 2552 = .ok (.iload 5, 2) := by decide +kernel
theorem dL_law__2554 : decode cL_law_ 2554 = .ok (.ifCond .ne 15, 3) := by decide +kernel
theorem dL_law__2557 : decode cL_law_ 2557 = .ok (.aload_n 3, 1) := by decide +kernel
theorem dL_law__2558 : decode cL_law_ 2558 = .ok (.iconst 0, 1) := by decide +kernel
theorem dL_law__2559 : decode cL_law_ 2559 = .ok (.laload, 1) := by decide +kernel
theorem dL_law__2560 : decode cL_law_ 2560 = .ok (.iload 6, 2) := by decide +kernel
theorem dL_law__2562 : decode cL_law_ 2562 = .ok (.i2l, 1) := by decide +kernel
theorem dL_law__2563 : decode cL_law_ 2563 = .ok (.lcmp, 1) := by decide +kernel
theorem dL_law__2564 : decode cL_law_ 2564 = .ok (.ifCond .eq 5, 3) := by decide +kernel
theorem dL_law__2567 : decode cL_law_ 2567 = .ok (.iconst 0, 1) := by decide +kernel
theorem dL_law__2568 : decode cL_law_ 2568 = .ok (.ireturn, 1) := by decide +kernel
theorem dL_law__2569 : decode cL_law_ 2569 = .ok (.goto 326, 3) := by decide +kernel
theorem dL_law__2572 : decode cL_law_ 2572 = .ok (.aload_n 1, 1) := by decide +kernel
theorem dL_law__2573 : decode cL_law_ 2573 = .ok (.aload_n 0, 1) := by decide +kernel
theorem dL_law__2574 : decode cL_law_ 2574 = .ok (.iload 4, 2) := by decide +kernel
theorem dL_law__2576 : decode cL_law_ 2576 = .ok (.iconst 1, 1) := by decide +kernel
theorem dL_law__2577 : decode cL_law_ 2577 = .ok (.iadd, 1) := by decide +kernel
theorem dL_law__2578 : decode cL_law_ 2578 = .ok (.iaload, 1) := by decide +kernel
theorem dL_law__2579 : decode cL_law_ 2579 = .ok (.aload_n 0, 1) := by decide +kernel
theorem dL_law__2580 : decode cL_law_ 2580 = .ok (.iload 4, 2) := by decide +kernel
theorem dL_law__2582 : decode cL_law_ 2582 = .ok (.iconst 2, 1) := by decide +kernel
theorem dL_law__2583 : decode cL_law_ 2583 = .ok (.iadd, 1) := by decide +kernel
theorem dL_law__2584 : decode cL_law_ 2584 = .ok (.iaload, 1) := by decide +kernel
theorem dL_law__2585 : decode cL_law_ 2585 = .ok (.ifCond .eq 7, 3) := by decide +kernel
theorem dL_law__2588 : decode cL_law_ 2588 = .ok (.iconst 1, 1) := by decide +kernel
theorem dL_law__2589 : decode cL_law_ 2589 = .ok (.goto 4, 3) := by decide +kernel
theorem dL_law__2592 : decode cL_law_ 2592 = .ok (.iconst 0, 1) := by decide +kernel
theorem dL_law__2593 : decode cL_law_ 2593 = .ok (.aload_n 3, 1) := by decide +kernel
theorem dL_law__2594 : decode cL_law_ 2594 = .ok (.invokestatic 282, 3) := by decide +kernel
theorem dL_law__2597 : decode cL_law_ 2597 = .ok (.istore 5, 2) := by decide +kernel
theorem dL_law__2599 : decode cL_law_ 2599 = .ok (.aload_n 2, 1) := by decide +kernel
theorem dL_law__2600 : decode cL_law_ 2600 = .ok (.aload_n 0, 1) := by decide +kernel
theorem dL_law__2601 : decode cL_law_ 2601 = .ok (.iload 4, 2) := by decide +kernel
theorem dL_law__2603 : decode cL_law_ 2603 = .ok (.iconst 1, 1) := by decide +kernel
theorem dL_law__2604 : decode cL_law_ 2604 = .ok (.iadd, 1) := by decide +kernel
theorem dL_law__2605 : decode cL_law_ 2605 = .ok (.iaload, 1) := by decide +kernel
theorem dL_law__2606 : decode cL_law_ 2606 = .ok (.aload_n 0, 1) := by decide +kernel
theorem dL_law__2607 : decode cL_law_ 2607 = .ok (.iload 4, 2) := by decide +kernel
theorem dL_law__2609 : decode cL_law_ 2609 = .ok (.iconst 2, 1) := by decide +kernel
theorem dL_law__2610 : decode cL_law_ 2610 = .ok (.iadd, 1) := by decide +kernel
theorem dL_law__2611 : decode cL_law_ 2611 = .ok (.iaload, 1) := by decide +kernel
theorem dL_law__2612 : decode cL_law_ 2612 = .ok (.ifCond .eq 7, 3) := by decide +kernel
theorem dL_law__2615 : decode cL_law_ 2615 = .ok (.iconst 1, 1) := by decide +kernel
theorem dL_law__2616 : decode cL_law_ 2616 = .ok (.goto 4, 3) := by decide +kernel
theorem dL_law__2619 : decode cL_law_ 2619 = .ok (.iconst 0, 1) := by decide +kernel
theorem dL_law__2620 : decode cL_law_ 2620 = .ok (.invokevirtual 284, 3) := by decide +kernel
theorem dL_law__2623 : decode cL_law_ 2623 = .ok (.istore 6, 2) := by decide +kernel
theorem dL_law__2625 : decode cL_law_ 2625 = .ok (.aload_n 2, 1) := by decide +kernel
theorem dL_law__2626 : decode cL_law_ 2626 = .ok (.invokevirtual 150, 3) := by decide +kernel
theorem dL_law__2629 : decode cL_law_ 2629 = .ok (.iload 5, 2) := by decide +kernel
theorem dL_law__2631 : decode cL_law_ 2631 = .ok (.if_icmp .eq 5, 3) := by decide +kernel
theorem dL_law__2634 : decode cL_law_ 2634 = .ok (.iconst 0, 1) := by decide +kernel
theorem dL_law__2635 : decode cL_law_ 2635 = .ok (.ireturn, 1) := by decide +kernel
theorem dL_law__2636 : decode cL_law_ 2636 = .ok (.iload 5, 2) := by decide +kernel
theorem dL_law__2638 : decode cL_law_ 2638 = .ok (.ifCond .ne 15, 3) := by decide +kernel
theorem dL_law__2641 : decode cL_law_ 2641 = .ok (.aload_n 3, 1) := by decide +kernel
theorem dL_law__2642 : decode cL_law_ 2642 = .ok (.iconst 0, 1) := by decide +kernel
theorem dL_law__2643 : decode cL_law_ 2643 = .ok (.laload, 1) := by decide +kernel
theorem dL_law__2644 : decode cL_law_ 2644 = .ok (.iload 6, 2) := by decide +kernel
theorem dL_law__2646 : decode cL_law_ 2646 = .ok (.i2l, 1) := by decide +kernel
theorem dL_law__2647 : decode cL_law_ 2647 = .ok (.lcmp, 1) := by decide +kernel
theorem dL_law__2648 : decode cL_law_ 2648 = .ok (.ifCond .eq 5, 3) := by decide +kernel
theorem dL_law__2651 : decode cL_law_ 2651 = .ok (.iconst 0, 1) := by decide +kernel
theorem dL_law__2652 : decode cL_law_ 2652 = .ok (.ireturn, 1) := by decide +kernel
theorem dL_law__2653 : decode cL_law_ 2653 = .ok (.goto 242, 3) := by decide +kernel
theorem dL_law__2656 : decode cL_law_ 2656 = .ok (.aload_n 1, 1) := by decide +kernel
theorem dL_law__2657 : decode cL_law_ 2657 = .ok (.aload_n 0, 1) := by decide +kernel
theorem dL_law__2658 : decode cL_law_ 2658 = .ok (.iload 4, 2) := by decide +kernel
theorem dL_law__2660 : decode cL_law_ 2660 = .ok (.iconst 1, 1) := by decide +kernel
theorem dL_law__2661 : decode cL_law_ 2661 = .ok (.iadd, 1) := by decide +kernel
theorem dL_law__2662 : decode cL_law_ 2662 = .ok (.iaload, 1) := by decide +kernel
theorem dL_law__2663 : decode cL_law_ 2663 = .ok (.aload_n 0, 1) := by decide +kernel
theorem dL_law__2664 : decode cL_law_ 2664 = .ok (.iload 4, 2) := by decide +kernel
theorem dL_law__2666 : decode cL_law_ 2666 = .ok (.iconst 2, 1) := by decide +kernel
theorem dL_law__2667 : decode cL_law_ 2667 = .ok (.iadd, 1) := by decide +kernel
theorem dL_law__2668 : decode cL_law_ 2668 = .ok (.iaload, 1) := by decide +kernel
theorem dL_law__2669 : decode cL_law_ 2669 = .ok (.ifCond .eq 7, 3) := by decide +kernel
theorem dL_law__2672 : decode cL_law_ 2672 = .ok (.iconst 1, 1) := by decide +kernel
theorem dL_law__2673 : decode cL_law_ 2673 = .ok (.goto 4, 3) := by decide +kernel
theorem dL_law__2676 : decode cL_law_ 2676 = .ok (.iconst 0, 1) := by decide +kernel
theorem dL_law__2677 : decode cL_law_ 2677 = .ok (.aload_n 3, 1) := by decide +kernel
theorem dL_law__2678 : decode cL_law_ 2678 = .ok (.invokestatic 285, 3) := by decide +kernel
theorem dL_law__2681 : decode cL_law_ 2681 = .ok (.istore 5, 2) := by decide +kernel
theorem dL_law__2683 : decode cL_law_ 2683 = .ok (.aload_n 2, 1) := by decide +kernel
theorem dL_law__2684 : decode cL_law_ 2684 = .ok (.aload_n 0, 1) := by decide +kernel
theorem dL_law__2685 : decode cL_law_ 2685 = .ok (.iload 4, 2) := by decide +kernel
theorem dL_law__2687 : decode cL_law_ 2687 = .ok (.iconst 1, 1) := by decide +kernel
theorem dL_law__2688 : decode cL_law_ 2688 = .ok (.iadd, 1) := by decide +kernel
theorem dL_law__2689 : decode cL_law_ 2689 = .ok (.iaload, 1) := by decide +kernel
theorem dL_law__2690 : decode cL_law_ 2690 = .ok (.aload_n 0, 1) := by decide +kernel
theorem dL_law__2691 : decode cL_law_ 2691 = .ok (.iload 4, 2) := by decide +kernel
theorem dL_law__2693 : decode cL_law_ 2693 = .ok (.iconst 2, 1) := by decide +kernel
theorem dL_law__2694 : decode cL_law_ 2694 = .ok (.iadd, 1) := by decide +kernel
theorem dL_law__2695 : decode cL_law_ 2695 = .ok (.iaload, 1) := by decide +kernel
theorem dL_law__2696 : decode cL_law_ 2696 = .ok (.ifCond .eq 7, 3) := by decide +kernel
theorem dL_law__2699 : decode cL_law_ 2699 = .ok (.iconst 1, 1) := by decide +kernel
theorem dL_law__2700 : decode cL_law_ 2700 = .ok (.goto 4, 3) := by decide +kernel
theorem dL_law__2703 : decode cL_law_ 2703 = .ok (.iconst 0, 1) := by decide +kernel
theorem dL_law__2704 : decode cL_law_ 2704 = .ok (.invokevirtual 287, 3) := by decide +kernel
theorem dL_law__2707 : decode cL_law_ 2707 = .ok (.istore 6, 2) := by decide +kernel
theorem dL_law__2709 : decode cL_law_ 2709 = .ok (.aload_n 2, 1) := by decide +kernel
theorem dL_law__2710 : decode cL_law_ 2710 = .ok (.invokevirtual 150, 3) := by decide +kernel
theorem dL_law__2713 : decode cL_law_ 2713 = .ok (.iload 5, 2) := by decide +kernel
theorem dL_law__2715 : decode cL_law_ 2715 = .ok (.if_icmp .eq 5, 3) := by decide +kernel
theorem dL_law__2718 : decode cL_law_ 2718 = .ok (.iconst 0, 1) := by decide +kernel
theorem dL_law__2719 : decode cL_law_ 2719 = .ok (.ireturn, 1) := by decide +kernel
theorem dL_law__2720 : decode cL_law_ 2720 = .ok (.iload 5, 2) := by decide +kernel
theorem dL_law__2722 : decode cL_law_ 2722 = .ok (.ifCond .ne 15, 3) := by decide +kernel
theorem dL_law__2725 : decode cL_law_ 2725 = .ok (.aload_n 3, 1) := by decide +kernel
theorem dL_law__2726 : decode cL_law_ 2726 = .ok (.iconst 0, 1) := by decide +kernel
theorem dL_law__2727 : decode cL_law_ 2727 = .ok (.laload, 1) := by decide +kernel
theorem dL_law__2728 : decode cL_law_ 2728 = .ok (.iload 6, 2) := by decide +kernel
theorem dL_law__2730 : decode cL_law_ 2730 = .ok (.i2l, 1) := by decide +kernel
theorem dL_law__2731 : decode cL_law_ 2731 = .ok (.lcmp, 1) := by decide +kernel
theorem dL_law__2732 : decode cL_law_ 2732 = .ok (.ifCond .eq 5, 3) := by decide +kernel
theorem dL_law__2735 : decode cL_law_ 2735 = .ok (.iconst 0, 1) := by decide +kernel
theorem dL_law__2736 : decode cL_law_ 2736 = .ok (.ireturn, 1) := by decide +kernel
theorem dL_law__2737 : decode cL_law_ 2737 = .ok (.goto 158, 3) := by decide +kernel
theorem dL_law__2740 : decode cL_law_ 2740 = .ok (.aload_n 1, 1) := by decide +kernel
theorem dL_law__2741 : decode cL_law_ 2741 = .ok (.aload_n 0, 1) := by decide +kernel
theorem dL_law__2742 : decode cL_law_ 2742 = .ok (.iload 4, 2) := by decide +kernel
theorem dL_law__2744 : decode cL_law_ 2744 = .ok (.iconst 1, 1) := by decide +kernel
theorem dL_law__2745 : decode cL_law_ 2745 = .ok (.iadd, 1) := by decide +kernel
theorem dL_law__2746 : decode cL_law_ 2746 = .ok (.iaload, 1) := by decide +kernel
theorem dL_law__2747 : decode cL_law_ 2747 = .ok (.aload_n 0, 1) := by decide +kernel
theorem dL_law__2748 : decode cL_law_ 2748 = .ok (.iload 4, 2) := by decide +kernel
theorem dL_law__2750 : decode cL_law_ 2750 = .ok (.iconst 2, 1) := by decide +kernel
theorem dL_law__2751 : decode cL_law_ 2751 = .ok (.iadd, 1) := by decide +kernel
theorem dL_law__2752 : decode cL_law_ 2752 = .ok (.iaload, 1) := by decide +kernel
theorem dL_law__2753 : decode cL_law_ 2753 = .ok (.aload_n 3, 1) := by decide +kernel
theorem dL_law__2754 : decode cL_law_ 2754 = .ok (.invokestatic 288, 3) := by decide +kernel
theorem dL_law__2757 : decode cL_law_ 2757 = .ok (.istore 5, 2) := by decide +kernel
theorem dL_law__2759 : decode cL_law_ 2759 = .ok (.aload_n 2, 1) := by decide +kernel
theorem dL_law__2760 : decode cL_law_ 2760 = .ok (.aload_n 0, 1) := by decide +kernel
theorem dL_law__2761 : decode cL_law_ 2761 = .ok (.iload 4, 2) := by decide +kernel
theorem dL_law__2763 : decode cL_law_ 2763 = .ok (.iconst 1, 1) := by decide +kernel
theorem dL_law__2764 : decode cL_law_ 2764 = .ok (.iadd, 1) := by decide +kernel
theorem dL_law__2765 : decode cL_law_ 2765 = .ok (.iaload, 1) := by decide +kernel
theorem dL_law__2766 : decode cL_law_ 2766 = .ok (.aload_n 0, 1) := by decide +kernel
theorem dL_law__2767 : decode cL_law_ 2767 = .ok (.iload 4, 2) := by decide +kernel
theorem dL_law__2769 : decode cL_law_ 2769 = .ok (.iconst 2, 1) := by decide +kernel
theorem dL_law__2770 : decode cL_law_ 2770 = .ok (.iadd, 1) := by decide +kernel
theorem dL_law__2771 : decode cL_law_ 2771 = .ok (.iaload, 1) := by decide +kernel
theorem dL_law__2772 : decode cL_law_ 2772 = .ok (.invokevirtual 290, 3) := by decide +kernel
theorem dL_law__2775 : decode cL_law_ 2775 = .ok (.istore 6, 2) := by decide +kernel
theorem dL_law__2777 : decode cL_law_ 2777 = .ok (.aload_n 2, 1) := by decide +kernel
theorem dL_law__2778 : decode cL_law_ 2778 = .ok (.invokevirtual 150, 3) := by decide +kernel
theorem dL_law__2781 : decode cL_law_ 2781 = .ok (.iload 5, 2) := by decide +kernel
theorem dL_law__2783 : decode cL_law_ 2783 = .ok (.if_icmp .eq 5, 3) := by decide +kernel
theorem dL_law__2786 : decode cL_law_ 2786 = .ok (.iconst 0, 1) := by decide +kernel
theorem dL_law__2787 : decode cL_law_ 2787 = .ok (.ireturn, 1) := by decide +kernel
theorem dL_law__2788 : decode cL_law_ 2788 = .ok (.iload 5, 2) := by decide +kernel
theorem dL_law__2790 : decode cL_law_ 2790 = .ok (.ifCond .ne 15, 3) := by decide +kernel
theorem dL_law__2793 : decode cL_law_ 2793 = .ok (.aload_n 3, 1) := by decide +kernel
theorem dL_law__2794 : decode cL_law_ 2794 = .ok (.iconst 0, 1) := by decide +kernel
theorem dL_law__2795 : decode cL_law_ 2795 = .ok (.laload, 1) := by decide +kernel
theorem dL_law__2796 : decode cL_law_ 2796 = .ok (.iload 6, 2) := by decide +kernel
theorem dL_law__2798 : decode cL_law_ 2798 = .ok (.i2l, 1) := by decide +kernel
theorem dL_law__2799 : decode cL_law_ 2799 = .ok (.lcmp, 1) := by decide +kernel
theorem dL_law__2800 : decode cL_law_ 2800 = .ok (.ifCond .eq 5, 3) := by decide +kernel
theorem dL_law__2803 : decode cL_law_ 2803 = .ok (.iconst 0, 1) := by decide +kernel
theorem dL_law__2804 : decode cL_law_ 2804 = .ok (.ireturn, 1) := by decide +kernel
theorem dL_law__2805 : decode cL_law_ 2805 = .ok (.goto 90, 3) := by decide +kernel
theorem dL_law__2808 : decode cL_law_ 2808 = .ok (.aload_n 1, 1) := by decide +kernel
theorem dL_law__2809 : decode cL_law_ 2809 = .ok (.aload_n 0, 1) := by decide +kernel
theorem dL_law__2810 : decode cL_law_ 2810 = .ok (.iload 4, 2) := by decide +kernel
theorem dL_law__2812 : decode cL_law_ 2812 = .ok (.iconst 1, 1) := by decide +kernel
theorem dL_law__2813 : decode cL_law_ 2813 = .ok (.iadd, 1) := by decide +kernel
theorem dL_law__2814 : decode cL_law_ 2814 = .ok (.iaload, 1) := by decide +kernel
theorem dL_law__2815 : decode cL_law_ 2815 = .ok (.invokevirtual 291, 3) := by decide +kernel
theorem dL_law__2818 : decode cL_law_ 2818 = .ok (.aload_n 2, 1) := by decide +kernel
theorem dL_law__2819 : decode cL_law_ 2819 = .ok (.aload_n 0, 1) := by decide +kernel
theorem dL_law__2820 : decode cL_law_ 2820 = .ok (.iload 4, 2) := by decide +kernel
theorem dL_law__2822 : decode cL_law_ 2822 = .ok (.iconst 1, 1) := by decide +kernel
theorem dL_law__2823 : decode cL_law_ 2823 = .ok (.iadd, 1) := by decide +kernel
theorem dL_law__2824 : decode cL_law_ 2824 = .ok (.iaload, 1) := by decide +kernel
theorem dL_law__2825 : decode cL_law_ 2825 = .ok (.invokevirtual 294, 3) := by decide +kernel
theorem dL_law__2828 : decode cL_law_ 2828 = .ok (.if_icmp .eq 67, 3) := by decide +kernel
theorem dL_law__2831 : decode cL_law_ 2831 = .ok (.iconst 0, 1) := by decide +kernel
theorem dL_law__2832 : decode cL_law_ 2832 = .ok (.ireturn, 1) := by decide +kernel
theorem dL_law__2833 : decode cL_law_ 2833 = .ok (.aload_n 1, 1) := by decide +kernel
theorem dL_law__2834 : decode cL_law_ 2834 = .ok (.invokevirtual 295, 3) := by decide +kernel
theorem dL_law__2837 : decode cL_law_ 2837 = .ok (.aload_n 2, 1) := by decide +kernel
theorem dL_law__2838 : decode cL_law_ 2838 = .ok (.invokevirtual 299, 3) := by decide +kernel
theorem dL_law__2841 : decode cL_law_ 2841 = .ok (.if_icmp .eq 54, 3) := by decide +kernel
theorem dL_law__2844 : decode cL_law_ 2844 = .ok (.iconst 0, 1) := by decide +kernel
theorem dL_law__2845 : decode cL_law_ 2845 = .ok (.ireturn, 1) := by decide +kernel
theorem dL_law__2846 : decode cL_law_ 2846 = .ok (.aload_n 1, 1) := by decide +kernel
theorem dL_law__2847 : decode cL_law_ 2847 = .ok (.invokevirtual 300, 3) := by decide +kernel
theorem dL_law__2850 : decode cL_law_ 2850 = .ok (.aload_n 2, 1) := by decide +kernel
theorem dL_law__2851 : decode cL_law_ 2851 = .ok (.invokevirtual 303, 3) := by decide +kernel
theorem dL_law__2854 : decode cL_law_ 2854 = .ok (.goto 41, 3) := by decide +kernel
theorem dL_law__2857 : decode cL_law_ 2857 = .ok (.aload_n 1, 1) := by decide +kernel
theorem dL_law__2858 : decode cL_law_ 2858 = .ok (.invokevirtual 304, 3) := by decide +kernel
theorem dL_law__2861 : decode cL_law_ 2861 = .ok (.aload_n 2, 1) := by decide +kernel
theorem dL_law__2862 : decode cL_law_ 2862 = .ok (.invokevirtual 307, 3) := by decide +kernel
theorem dL_law__2865 : decode cL_law_ 2865 = .ok (.if_icmp .eq 30, 3) := by decide +kernel
theorem dL_law__2868 : decode cL_law_ 2868 = .ok (.iconst 0, 1) := by decide +kernel
theorem dL_law__2869 : decode cL_law_ 2869 = .ok (.ireturn, 1) := by decide +kernel
theorem dL_law__2870 : decode cL_law_ 2870 = .ok (.aload_n 1, 1) := by decide +kernel
theorem dL_law__2871 : decode cL_law_ 2871 = .ok (.aload_n 0, 1) := by decide +kernel
theorem dL_law__2872 : decode cL_law_ 2872 = .ok (.iload 4, 2) := by decide +kernel
theorem dL_law__2874 : decode cL_law_ 2874 = .ok (.iconst 1, 1) := by decide +kernel
theorem dL_law__2875 : decode cL_law_ 2875 = .ok (.iadd, 1) := by decide +kernel
theorem dL_law__2876 : decode cL_law_ 2876 = .ok (.iaload, 1) := by decide +kernel
theorem dL_law__2877 : decode cL_law_ 2877 = .ok (.invokevirtual 308, 3) := by decide +kernel
theorem dL_law__2880 : decode cL_law_ 2880 = .ok (.aload_n 2, 1) := by decide +kernel
theorem dL_law__2881 : decode cL_law_ 2881 = .ok (.aload_n 0, 1) := by decide +kernel
theorem dL_law__2882 : decode cL_law_ 2882 = .ok (.iload 4, 2) := by decide +kernel
theorem dL_law__2884 : decode cL_law_ 2884 = .ok (.iconst 1, 1) := by decide +kernel
theorem dL_law__2885 : decode cL_law_ 2885 = .ok (.iadd, 1) := by decide +kernel
theorem dL_law__2886 : decode cL_law_ 2886 = .ok (.iaload, 1) := by decide +kernel
theorem dL_law__2887 : decode cL_law_ 2887 = .ok (.invokevirtual 311, 3) := by decide +kernel
theorem dL_law__2890 : decode cL_law_ 2890 = .ok (.if_icmp .eq 5, 3) := by decide +kernel
theorem dL_law__2893 : decode cL_law_ 2893 = .ok (.iconst 0, 1) := by decide +kernel
theorem dL_law__2894 : decode cL_law_ 2894 = .ok (.ireturn, 1) := by decide +kernel
theorem dL_law__2895 : decode cL_law_ 2895 = .ok (.iinc 4 6, 3) := by decide +kernel
theorem dL_law__2898 : decode cL_law_ 2898 = .ok (.goto (-2875), 3) := by decide +kernel
theorem dL_law__2901 : decode cL_law_ 2901 = .ok (.iconst 1, 1) := by decide +kernel
theorem dL_law__2902 : decode cL_law_ 2902 = .ok (.ireturn, 1) := by decide +kernel
